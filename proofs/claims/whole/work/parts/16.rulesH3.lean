-- DirtyCardHeap.clear(I)Z
def rm_H_clear : Room := { frames := 1, cells := 0, slots := 0, locals := 20 }
abbrev X_H_clear (x : Cx) : Prop := CxOk x b_H_clear 2 wl_H_clear R_H (some .boolean) rm_H_clear "clear"
abbrev K_H_clear (l : Launch) (D : va_G) (Λ : Lam) (σ : Mem) (c : Nat → Nat) (a1 : Int) (P : Int → Mem → Prop) : Prop := Ct l D y_H_clear wl_H_clear rm_H_clear [.ref (c 0), .int (iI a1)] Λ σ (pI Λ P)
abbrev N_H_clear_0 (x : Cx) (P : Int → Mem → Prop) (Λ : Lam) (σ : Mem) (c : Nat → Nat) (a1 : Int) : Prop := AtG x (pI Λ P) 2 0 0 0 Λ σ [(0, .ref (c 0)), (1, .int (iI a1))] []
theorem e_H_clear {l : Launch} {D : va_G} {Λ : Lam} {σ : Mem} {c : Nat → Nat} {a1 : Int} {P : Int → Mem → Prop} (h : ∀ x : Cx, xl x = l → xD x = D → X_H_clear x → N_H_clear_0 x P Λ σ c a1) : K_H_clear l D Λ σ c a1 P := Ct.of (by decide) rfl (Nat.le_of_ble_eq_true rfl) h
set_option maxHeartbeats 4000000 in
set_option maxRecDepth 100000 in
theorem u_H_clear_0 {x : Cx} (hx : X_H_clear x) {P : Int → Mem → Prop} {Λ : Lam} {σ : Mem} {c : Nat → Nat} {a1 : Int} (hL : LayC Λ c) (T : K_H_isRoot (xl x) (xD x) Λ σ a1 (fun z1 σa1 => rng z1 ∧ ((¬ z1 = 0 → 0 ≤ a1 ∧ a1 < (6 : Int) ∧ P 1 (upX σa1 100 (c 1) a1.toNat none)) ∧ (z1 = 0 → P 0 σa1)))) : N_H_clear_0 x P Λ σ c a1 := by
  obtain ⟨hex, hb, hml, hown, hts, hr, hlk, hR, hnm, hAs, hNW⟩ := hx
  obtain ⟨hLH, ⟨cA1, hLA1⟩, ⟨hLR2, cA3, hLA3⟩, hLO, ⟨cA5, hLA5⟩, ⟨hLR6, cA7, hLA7⟩⟩ := hL
  refine ⟨(), fun hK hA ls H locs hl hP hS => ?_⟩
  refine lv_iload_n hex hb d_H_clear_0 rfl (lv_at hl 1 rfl) ?_
  refine r_call (va_runS (As := [.int (iI a1)]) (rest := []) ⟨hex, hb, hml, hown, hts⟩ (Ct.use T H.size) (cwS 1 hts (gdS bg_74 bg_75 bg_1 bc_H_isRoot) rfl rfl rfl hdV_H_isRoot ⟨by rw [hR]; exact Nat.le_of_ble_eq_true rfl, by rw [hR]; exact Nat.le_of_ble_eq_true rfl⟩) (px_preS hNW hK hP) rfl rfl hl.1 rfl (lv_room (Nat.le_of_ble_eq_true rfl)) d_H_clear_1 ⟨by rw [hR]; exact Nat.le_of_ble_eq_true rfl, by rw [hR]; exact Nat.le_of_ble_eq_true rfl⟩) hS hA hAs (fun v Λ1 σ1 H locs hp hP hK hA hS => ?_)
  obtain ⟨z1, rfl, rfl, T⟩ := hp
  generalize σ1 = σa1 at hP T
  refine W.eq (g2 := F0 (xm x) 4 ls [.int (iI z1)]) rfl ?_
  obtain ⟨h2, T⟩ := T
  obtain ⟨T1, T2⟩ := T
  refine r_if_ne (a := z1) (tgt := 9) hex hb h2 d_H_clear_4 rfl (fun hc => ?_) (fun hc => ?_)
  · have T := T1 hc
    refine lv_aload_n hex hb d_H_clear_9 rfl (lv_at hl 0 rfl) ?_
    refine r_getR (ci := 3) (C := R_H) (T := F_H) (N := 8) hex hb hts (fun w h => List.mem_cons_of_mem _ (in_H w h)) hown hK hP hLH rfl 0 (by decide) (hts _ (List.mem_cons_of_mem _ bg_45)) (fun _ h9 => h9) rfl d_H_clear_10 ?_
    refine lv_iload_n hex hb d_H_clear_13 rfl (lv_at hl 1 rfl) ?_
    refine lv_null hex hb d_H_clear_14 ?_
    obtain ⟨h3, T⟩ := T
    obtain ⟨h4, T⟩ := T
    refine r_aast (o := none) (ci := 2) hex hb hK hP hA hS hLA1 (by decide) (by decide) rfl rfl (fun t ht => by cases ht) h3 h4 d_H_clear_15 (fun H locs hP hS => ?_)
    refine lv_iconst (v := iI 1) hex hb d_H_clear_16 rfl ?_
    exact r_zret hex hb hr hlk hK hA hP hS (by decide) ⟨_, rfl, rfl, T⟩ (Nat.zero_le _) (Nat.zero_le _) d_H_clear_17
  · have T := T2 hc
    refine lv_iconst (v := iI 0) hex hb d_H_clear_7 rfl ?_
    exact r_zret hex hb hr hlk hK hA hP hS (by decide) ⟨_, rfl, rfl, T⟩ (Nat.zero_le _) (Nat.zero_le _) d_H_clear_8
set_option maxRecDepth 100000 in
theorem w_H_clear {l : Launch} {D : va_G} {Λ : Lam} {σ : Mem} {c : Nat → Nat} {a1 : Int} {P : Int → Mem → Prop} (hL : LayC Λ c) (T : K_H_isRoot l D Λ σ a1 (fun z1 σa1 => rng z1 ∧ ((¬ z1 = 0 → 0 ≤ a1 ∧ a1 < (6 : Int) ∧ P 1 (upX σa1 100 (c 1) a1.toNat none)) ∧ (z1 = 0 → P 0 σa1)))) : K_H_clear l D Λ σ c a1 P := e_H_clear (fun x hl hD hx => by subst hl; subst hD; exact u_H_clear_0 hx hL T)
-- DirtyCardHeap.copy(II)Z
def rm_H_copy : Room := { frames := 1, cells := 0, slots := 0, locals := 20 }
abbrev X_H_copy (x : Cx) : Prop := CxOk x b_H_copy 3 wl_H_copy R_H (some .boolean) rm_H_copy "copy"
abbrev K_H_copy (l : Launch) (D : va_G) (Λ : Lam) (σ : Mem) (c : Nat → Nat) (a1 : Int) (a2 : Int) (P : Int → Mem → Prop) : Prop := Ct l D y_H_copy wl_H_copy rm_H_copy [.ref (c 0), .int (iI a1), .int (iI a2)] Λ σ (pI Λ P)
abbrev N_H_copy_0 (x : Cx) (P : Int → Mem → Prop) (Λ : Lam) (σ : Mem) (c : Nat → Nat) (a1 : Int) (a2 : Int) : Prop := AtG x (pI Λ P) 3 0 0 0 Λ σ [(0, .ref (c 0)), (1, .int (iI a1)), (2, .int (iI a2))] []
theorem e_H_copy {l : Launch} {D : va_G} {Λ : Lam} {σ : Mem} {c : Nat → Nat} {a1 : Int} {a2 : Int} {P : Int → Mem → Prop} (h : ∀ x : Cx, xl x = l → xD x = D → X_H_copy x → N_H_copy_0 x P Λ σ c a1 a2) : K_H_copy l D Λ σ c a1 a2 P := Ct.of (by decide) rfl (Nat.le_of_ble_eq_true rfl) h
set_option maxHeartbeats 4000000 in
set_option maxRecDepth 100000 in
theorem u_H_copy_0 {x : Cx} (hx : X_H_copy x) {P : Int → Mem → Prop} {Λ : Lam} {σ : Mem} {c : Nat → Nat} {a1 : Int} {a2 : Int} (hL : LayC Λ c) (T : K_H_isRoot (xl x) (xD x) Λ σ a1 (fun z1 σa1 => rng z1 ∧ ((z1 = 0 → P 0 σa1) ∧ (¬ z1 = 0 → K_H_isRoot (xl x) (xD x) Λ σa1 a2 (fun z3 σa3 => rng z3 ∧ ((¬ z3 = 0 → 0 ≤ a2 ∧ a2 < (6 : Int) ∧ 0 ≤ a1 ∧ a1 < (6 : Int) ∧ (∀ t, σa3.2.2 100 (c 1) a2.toNat = some t → isT Λ t) ∧ P 1 (upX σa3 100 (c 1) a1.toNat (σa3.2.2 100 (c 1) a2.toNat))) ∧ (z3 = 0 → P 0 σa3))))))) : N_H_copy_0 x P Λ σ c a1 a2 := by
  obtain ⟨hex, hb, hml, hown, hts, hr, hlk, hR, hnm, hAs, hNW⟩ := hx
  obtain ⟨hLH, ⟨cA1, hLA1⟩, ⟨hLR2, cA3, hLA3⟩, hLO, ⟨cA5, hLA5⟩, ⟨hLR6, cA7, hLA7⟩⟩ := hL
  refine ⟨(), fun hK hA ls H locs hl hP hS => ?_⟩
  refine lv_iload_n hex hb d_H_copy_0 rfl (lv_at hl 1 rfl) ?_
  refine r_call (va_runS (As := [.int (iI a1)]) (rest := []) ⟨hex, hb, hml, hown, hts⟩ (Ct.use T H.size) (cwS 1 hts (gdS bg_74 bg_75 bg_1 bc_H_isRoot) rfl rfl rfl hdV_H_isRoot ⟨by rw [hR]; exact Nat.le_of_ble_eq_true rfl, by rw [hR]; exact Nat.le_of_ble_eq_true rfl⟩) (px_preS hNW hK hP) rfl rfl hl.1 rfl (lv_room (Nat.le_of_ble_eq_true rfl)) d_H_copy_1 ⟨by rw [hR]; exact Nat.le_of_ble_eq_true rfl, by rw [hR]; exact Nat.le_of_ble_eq_true rfl⟩) hS hA hAs (fun v Λ1 σ1 H locs hp hP hK hA hS => ?_)
  obtain ⟨z1, rfl, rfl, T⟩ := hp
  generalize σ1 = σa1 at hP T
  refine W.eq (g2 := F0 (xm x) 4 ls [.int (iI z1)]) rfl ?_
  obtain ⟨h2, T⟩ := T
  obtain ⟨T1, T2⟩ := T
  refine r_if_eq (a := z1) (tgt := 14) hex hb h2 d_H_copy_4 rfl (fun hc => ?_) (fun hc => ?_)
  · have T := T1 hc
    refine lv_iconst (v := iI 0) hex hb d_H_copy_14 rfl ?_
    exact r_zret hex hb hr hlk hK hA hP hS (by decide) ⟨_, rfl, rfl, T⟩ (Nat.zero_le _) (Nat.zero_le _) d_H_copy_15
  · have T := T2 hc
    refine lv_iload_n hex hb d_H_copy_7 rfl (lv_at hl 2 rfl) ?_
    refine r_call (va_runS (As := [.int (iI a2)]) (rest := []) ⟨hex, hb, hml, hown, hts⟩ (Ct.use T H.size) (cwS 1 hts (gdS bg_74 bg_75 bg_1 bc_H_isRoot) rfl rfl rfl hdV_H_isRoot ⟨by rw [hR]; exact Nat.le_of_ble_eq_true rfl, by rw [hR]; exact Nat.le_of_ble_eq_true rfl⟩) (px_preS hNW hK hP) rfl rfl hl.1 rfl (lv_room (Nat.le_of_ble_eq_true rfl)) d_H_copy_8 ⟨by rw [hR]; exact Nat.le_of_ble_eq_true rfl, by rw [hR]; exact Nat.le_of_ble_eq_true rfl⟩) hS hA hAs (fun v Λ1 σ1 H locs hp hP hK hA hS => ?_)
    obtain ⟨z3, rfl, rfl, T⟩ := hp
    generalize σ1 = σa3 at hP T
    refine W.eq (g2 := F0 (xm x) 11 ls [.int (iI z3)]) rfl ?_
    obtain ⟨h4, T⟩ := T
    obtain ⟨T1, T2⟩ := T
    refine r_if_ne (a := z3) (tgt := 16) hex hb h4 d_H_copy_11 rfl (fun hc => ?_) (fun hc => ?_)
    · have T := T1 hc
      refine lv_aload_n hex hb d_H_copy_16 rfl (lv_at hl 0 rfl) ?_
      refine r_getR (ci := 3) (C := R_H) (T := F_H) (N := 8) hex hb hts (fun w h => List.mem_cons_of_mem _ (in_H w h)) hown hK hP hLH rfl 0 (by decide) (hts _ (List.mem_cons_of_mem _ bg_45)) (fun _ h9 => h9) rfl d_H_copy_17 ?_
      refine lv_iload_n hex hb d_H_copy_20 rfl (lv_at hl 1 rfl) ?_
      refine lv_aload_n hex hb d_H_copy_21 rfl (lv_at hl 0 rfl) ?_
      refine r_getR (ci := 3) (C := R_H) (T := F_H) (N := 8) hex hb hts (fun w h => List.mem_cons_of_mem _ (in_H w h)) hown hK hP hLH rfl 0 (by decide) (hts _ (List.mem_cons_of_mem _ bg_45)) (fun _ h9 => h9) rfl d_H_copy_22 ?_
      refine lv_iload_n hex hb d_H_copy_25 rfl (lv_at hl 2 rfl) ?_
      obtain ⟨h5, T⟩ := T
      obtain ⟨h6, T⟩ := T
      refine r_aald hex hb hK hP hLA1 (by decide) (by decide) h5 h6 d_H_copy_26 ?_
      obtain ⟨h7, T⟩ := T
      obtain ⟨h8, T⟩ := T
      obtain ⟨h9, T⟩ := T
      refine r_aast (o := (σa3.2.2 100 (c 1) a2.toNat)) (ci := 2) hex hb hK hP hA hS hLA1 (by decide) (by decide) rfl rfl (fun t ht => ⟨_, (h9 t ht).1⟩) h7 h8 d_H_copy_27 (fun H locs hP hS => ?_)
      refine lv_iconst (v := iI 1) hex hb d_H_copy_28 rfl ?_
      exact r_zret hex hb hr hlk hK hA hP hS (by decide) ⟨_, rfl, rfl, T⟩ (Nat.zero_le _) (Nat.zero_le _) d_H_copy_29
    · have T := T2 hc
      refine lv_iconst (v := iI 0) hex hb d_H_copy_14 rfl ?_
      exact r_zret hex hb hr hlk hK hA hP hS (by decide) ⟨_, rfl, rfl, T⟩ (Nat.zero_le _) (Nat.zero_le _) d_H_copy_15
set_option maxRecDepth 100000 in
theorem w_H_copy {l : Launch} {D : va_G} {Λ : Lam} {σ : Mem} {c : Nat → Nat} {a1 : Int} {a2 : Int} {P : Int → Mem → Prop} (hL : LayC Λ c) (T : K_H_isRoot l D Λ σ a1 (fun z1 σa1 => rng z1 ∧ ((z1 = 0 → P 0 σa1) ∧ (¬ z1 = 0 → K_H_isRoot l D Λ σa1 a2 (fun z3 σa3 => rng z3 ∧ ((¬ z3 = 0 → 0 ≤ a2 ∧ a2 < (6 : Int) ∧ 0 ≤ a1 ∧ a1 < (6 : Int) ∧ (∀ t, σa3.2.2 100 (c 1) a2.toNat = some t → isT Λ t) ∧ P 1 (upX σa3 100 (c 1) a1.toNat (σa3.2.2 100 (c 1) a2.toNat))) ∧ (z3 = 0 → P 0 σa3))))))) : K_H_copy l D Λ σ c a1 a2 P := e_H_copy (fun x hl hD hx => by subst hl; subst hD; exact u_H_copy_0 hx hL T)
-- DirtyCardHeap.load(III)I
def rm_H_load : Room := { frames := 1, cells := 0, slots := 0, locals := 21 }
abbrev X_H_load (x : Cx) : Prop := CxOk x b_H_load 5 wl_H_load R_H (some .int) rm_H_load "load"
abbrev K_H_load (l : Launch) (D : va_G) (Λ : Lam) (σ : Mem) (c : Nat → Nat) (a1 : Int) (a2 : Int) (a3 : Int) (P : Int → Mem → Prop) : Prop := Ct l D y_H_load wl_H_load rm_H_load [.ref (c 0), .int (iI a1), .int (iI a2), .int (iI a3)] Λ σ (pI Λ P)
abbrev N_H_load_0 (x : Cx) (P : Int → Mem → Prop) (Λ : Lam) (σ : Mem) (c : Nat → Nat) (a1 : Int) (a2 : Int) (a3 : Int) : Prop := AtG x (pI Λ P) 5 0 0 0 Λ σ [(0, .ref (c 0)), (1, .int (iI a1)), (2, .int (iI a2)), (3, .int (iI a3))] []
theorem e_H_load {l : Launch} {D : va_G} {Λ : Lam} {σ : Mem} {c : Nat → Nat} {a1 : Int} {a2 : Int} {a3 : Int} {P : Int → Mem → Prop} (h : ∀ x : Cx, xl x = l → xD x = D → X_H_load x → N_H_load_0 x P Λ σ c a1 a2 a3) : K_H_load l D Λ σ c a1 a2 a3 P := Ct.of (by decide) rfl (Nat.le_of_ble_eq_true rfl) h
set_option maxHeartbeats 4000000 in
set_option maxRecDepth 100000 in
theorem u_H_load_0 {x : Cx} (hx : X_H_load x) {P : Int → Mem → Prop} {Λ : Lam} {σ : Mem} {c : Nat → Nat} {a1 : Int} {a2 : Int} {a3 : Int} (hL : LayC Λ c) (T : K_H_isRoot (xl x) (xD x) Λ σ a1 (fun z1 σa1 => rng z1 ∧ ((z1 = 0 → P (-2) σa1) ∧ (¬ z1 = 0 → K_H_isRoot (xl x) (xD x) Λ σa1 a2 (fun z3 σa3 => rng z3 ∧ ((¬ z3 = 0 → 0 ≤ a2 ∧ a2 < (6 : Int) ∧ ((σa3.2.2 100 (c 1) a2.toNat = none → P (-3) σa3) ∧ (∀ t7, σa3.2.2 100 (c 1) a2.toNat = some t7 → isT Λ t7 ∧ K_T_hasField (xl x) (xD x) Λ σa3 t7 a3 (fun z10 σa10 => rng z10 ∧ ((¬ z10 = 0 → 0 ≤ a3 ∧ a3 < ((nfL Λ t7 : Nat) : Int) ∧ 0 ≤ a1 ∧ a1 < (6 : Int) ∧ (∀ t, σa10.2.2 103 (faL Λ t7) a3.toNat = some t → isT Λ t) ∧ P 0 (upX σa10 100 (c 1) a1.toNat (σa10.2.2 103 (faL Λ t7) a3.toNat))) ∧ (z10 = 0 → P (-4) σa10)))))) ∧ (z3 = 0 → P (-2) σa3))))))) : N_H_load_0 x P Λ σ c a1 a2 a3 := by
  obtain ⟨hex, hb, hml, hown, hts, hr, hlk, hR, hnm, hAs, hNW⟩ := hx
  obtain ⟨hLH, ⟨cA1, hLA1⟩, ⟨hLR2, cA3, hLA3⟩, hLO, ⟨cA5, hLA5⟩, ⟨hLR6, cA7, hLA7⟩⟩ := hL
  refine ⟨(), fun hK hA ls H locs hl hP hS => ?_⟩
  refine lv_iload_n hex hb d_H_load_0 rfl (lv_at hl 1 rfl) ?_
  refine r_call (va_runS (As := [.int (iI a1)]) (rest := []) ⟨hex, hb, hml, hown, hts⟩ (Ct.use T H.size) (cwS 1 hts (gdS bg_74 bg_75 bg_1 bc_H_isRoot) rfl rfl rfl hdV_H_isRoot ⟨by rw [hR]; exact Nat.le_of_ble_eq_true rfl, by rw [hR]; exact Nat.le_of_ble_eq_true rfl⟩) (px_preS hNW hK hP) rfl rfl hl.1 rfl (lv_room (Nat.le_of_ble_eq_true rfl)) d_H_load_1 ⟨by rw [hR]; exact Nat.le_of_ble_eq_true rfl, by rw [hR]; exact Nat.le_of_ble_eq_true rfl⟩) hS hA hAs (fun v Λ1 σ1 H locs hp hP hK hA hS => ?_)
  obtain ⟨z1, rfl, rfl, T⟩ := hp
  generalize σ1 = σa1 at hP T
  refine W.eq (g2 := F0 (xm x) 4 ls [.int (iI z1)]) rfl ?_
  obtain ⟨h2, T⟩ := T
  obtain ⟨T1, T2⟩ := T
  refine r_if_eq (a := z1) (tgt := 14) hex hb h2 d_H_load_4 rfl (fun hc => ?_) (fun hc => ?_)
  · have T := T1 hc
    refine lv_bipush (v := iI (-2)) hex hb d_H_load_14 rfl ?_
    exact r_iret hex hb hr hlk hK hA hP hS ⟨_, rfl, rfl, T⟩ (Nat.zero_le _) (Nat.zero_le _) d_H_load_16
  · have T := T2 hc
    refine lv_iload_n hex hb d_H_load_7 rfl (lv_at hl 2 rfl) ?_
    refine r_call (va_runS (As := [.int (iI a2)]) (rest := []) ⟨hex, hb, hml, hown, hts⟩ (Ct.use T H.size) (cwS 1 hts (gdS bg_74 bg_75 bg_1 bc_H_isRoot) rfl rfl rfl hdV_H_isRoot ⟨by rw [hR]; exact Nat.le_of_ble_eq_true rfl, by rw [hR]; exact Nat.le_of_ble_eq_true rfl⟩) (px_preS hNW hK hP) rfl rfl hl.1 rfl (lv_room (Nat.le_of_ble_eq_true rfl)) d_H_load_8 ⟨by rw [hR]; exact Nat.le_of_ble_eq_true rfl, by rw [hR]; exact Nat.le_of_ble_eq_true rfl⟩) hS hA hAs (fun v Λ1 σ1 H locs hp hP hK hA hS => ?_)
    obtain ⟨z3, rfl, rfl, T⟩ := hp
    generalize σ1 = σa3 at hP T
    refine W.eq (g2 := F0 (xm x) 11 ls [.int (iI z3)]) rfl ?_
    obtain ⟨h4, T⟩ := T
    obtain ⟨T1, T2⟩ := T
    refine r_if_ne (a := z3) (tgt := 17) hex hb h4 d_H_load_11 rfl (fun hc => ?_) (fun hc => ?_)
    · have T := T1 hc
      refine lv_aload_n hex hb d_H_load_17 rfl (lv_at hl 0 rfl) ?_
      refine r_getR (ci := 3) (C := R_H) (T := F_H) (N := 8) hex hb hts (fun w h => List.mem_cons_of_mem _ (in_H w h)) hown hK hP hLH rfl 0 (by decide) (hts _ (List.mem_cons_of_mem _ bg_45)) (fun _ h9 => h9) rfl d_H_load_18 ?_
      refine lv_iload_n hex hb d_H_load_21 rfl (lv_at hl 2 rfl) ?_
      obtain ⟨h5, T⟩ := T
      obtain ⟨h6, T⟩ := T
      refine r_aald hex hb hK hP hLA1 (by decide) (by decide) h5 h6 d_H_load_22 ?_
      refine r_astore (o := σa3.2.2 100 (c 1) a2.toNat) (lv' := [(4, va_rf (σa3.2.2 100 (c 1) a2.toNat)), (0, .ref (c 0)), (1, .int (iI a1)), (2, .int (iI a2)), (3, .int (iI a3))]) hex hb d_H_load_23 hl (Nat.le_of_ble_eq_true rfl) rfl (fun ls hl => ?_)
      refine r_aload (o := σa3.2.2 100 (c 1) a2.toNat) hex hb d_H_load_25 (lv_at hl 0 rfl) ?_
      obtain ⟨Tn, Ts⟩ := T
      refine r_ifnonnull (o := σa3.2.2 100 (c 1) a2.toNat) (tgt := 33) hex hb d_H_load_27 rfl (fun hn => ?_) (fun t7 ht8 => ?_)
      · have T := Tn hn
        have hl : lv_has ls 5 [(4, va_rf none), (0, .ref (c 0)), (1, .int (iI a1)), (2, .int (iI a2)), (3, .int (iI a3))] := by have h9 := hl; rw [hn] at h9; exact h9
        refine lv_bipush (v := iI (-3)) hex hb d_H_load_30 rfl ?_
        exact r_iret hex hb hr hlk hK hA hP hS ⟨_, rfl, rfl, T⟩ (Nat.zero_le _) (Nat.zero_le _) d_H_load_32
      · have T := Ts t7 ht8
        have hl : lv_has ls 5 [(4, .ref t7), (0, .ref (c 0)), (1, .int (iI a1)), (2, .int (iI a2)), (3, .int (iI a3))] := by have h9 := hl; rw [ht8] at h9; exact h9
        refine lv_aload hex hb d_H_load_33 (lv_at hl 0 rfl) ?_
        refine lv_iload_n hex hb d_H_load_35 rfl (lv_at hl 4 rfl) ?_
        obtain ⟨⟨hT9, ⟨cT9, hF9⟩, hn9⟩, T⟩ := T
        refine r_call (va_runV (As := [.int (iI a3)]) (rest := []) ⟨hex, hb, hml, hown, hts⟩ (Ct.use T H.size) (cwV 1 hts (gdV bg_273 bg_150 bg_151 bg_6 bc_T_hasField) rfl rfl rfl hdV_T_hasField ⟨by rw [hR]; exact Nat.le_of_ble_eq_true rfl, by rw [hR]; exact Nat.le_of_ble_eq_true rfl⟩) (px_preV (ci := 2) hNW hK hP hT9 rfl) rfl rfl hl.1 rfl (lv_room (Nat.le_of_ble_eq_true rfl)) d_H_load_36 ⟨by rw [hR]; exact Nat.le_of_ble_eq_true rfl, by rw [hR]; exact Nat.le_of_ble_eq_true rfl⟩) hS hA hAs (fun v Λ1 σ1 H locs hp hP hK hA hS => ?_)
        obtain ⟨z10, rfl, rfl, T⟩ := hp
        generalize σ1 = σa10 at hP T
        refine W.eq (g2 := F0 (xm x) 39 ls [.int (iI z10)]) rfl ?_
        obtain ⟨h11, T⟩ := T
        obtain ⟨T1, T2⟩ := T
        refine r_if_ne (a := z10) (tgt := 45) hex hb h11 d_H_load_39 rfl (fun hc => ?_) (fun hc => ?_)
        · have T := T1 hc
          refine lv_aload_n hex hb d_H_load_45 rfl (lv_at hl 1 rfl) ?_
          refine r_getR (ci := 3) (C := R_H) (T := F_H) (N := 8) hex hb hts (fun w h => List.mem_cons_of_mem _ (in_H w h)) hown hK hP hLH rfl 0 (by decide) (hts _ (List.mem_cons_of_mem _ bg_45)) (fun _ h9 => h9) rfl d_H_load_46 ?_
          refine lv_iload_n hex hb d_H_load_49 rfl (lv_at hl 2 rfl) ?_
          refine lv_aload hex hb d_H_load_50 (lv_at hl 0 rfl) ?_
          refine r_getR (ci := 2) (C := R_T) (T := F_T) (N := 7) hex hb hts (fun w h => List.mem_cons_of_mem _ (in_T w h)) hown hK hP hT9 rfl 1 (by decide) (hts _ (List.mem_cons_of_mem _ bg_232)) (fun _ h9 => h9) rfl d_H_load_52 ?_
          refine lv_iload_n hex hb d_H_load_55 rfl (lv_at hl 4 rfl) ?_
          obtain ⟨h12, T⟩ := T
          obtain ⟨h13, T⟩ := T
          refine r_aald hex hb hK hP hF9 (by decide) (by omega) h12 h13 d_H_load_56 ?_
          obtain ⟨h14, T⟩ := T
          obtain ⟨h15, T⟩ := T
          obtain ⟨h16, T⟩ := T
          refine r_aast (o := (σa10.2.2 103 (faL Λ t7) a3.toNat)) (ci := 2) hex hb hK hP hA hS hLA1 (by decide) (by decide) rfl rfl (fun t ht => ⟨_, (h16 t ht).1⟩) h14 h15 d_H_load_57 (fun H locs hP hS => ?_)
          refine lv_iconst (v := iI 0) hex hb d_H_load_58 rfl ?_
          exact r_iret hex hb hr hlk hK hA hP hS ⟨_, rfl, rfl, T⟩ (Nat.zero_le _) (Nat.zero_le _) d_H_load_59
        · have T := T2 hc
          refine lv_bipush (v := iI (-4)) hex hb d_H_load_42 rfl ?_
          exact r_iret hex hb hr hlk hK hA hP hS ⟨_, rfl, rfl, T⟩ (Nat.zero_le _) (Nat.zero_le _) d_H_load_44
    · have T := T2 hc
      refine lv_bipush (v := iI (-2)) hex hb d_H_load_14 rfl ?_
      exact r_iret hex hb hr hlk hK hA hP hS ⟨_, rfl, rfl, T⟩ (Nat.zero_le _) (Nat.zero_le _) d_H_load_16
set_option maxRecDepth 100000 in
theorem w_H_load {l : Launch} {D : va_G} {Λ : Lam} {σ : Mem} {c : Nat → Nat} {a1 : Int} {a2 : Int} {a3 : Int} {P : Int → Mem → Prop} (hL : LayC Λ c) (T : K_H_isRoot l D Λ σ a1 (fun z1 σa1 => rng z1 ∧ ((z1 = 0 → P (-2) σa1) ∧ (¬ z1 = 0 → K_H_isRoot l D Λ σa1 a2 (fun z3 σa3 => rng z3 ∧ ((¬ z3 = 0 → 0 ≤ a2 ∧ a2 < (6 : Int) ∧ ((σa3.2.2 100 (c 1) a2.toNat = none → P (-3) σa3) ∧ (∀ t7, σa3.2.2 100 (c 1) a2.toNat = some t7 → isT Λ t7 ∧ K_T_hasField l D Λ σa3 t7 a3 (fun z10 σa10 => rng z10 ∧ ((¬ z10 = 0 → 0 ≤ a3 ∧ a3 < ((nfL Λ t7 : Nat) : Int) ∧ 0 ≤ a1 ∧ a1 < (6 : Int) ∧ (∀ t, σa10.2.2 103 (faL Λ t7) a3.toNat = some t → isT Λ t) ∧ P 0 (upX σa10 100 (c 1) a1.toNat (σa10.2.2 103 (faL Λ t7) a3.toNat))) ∧ (z10 = 0 → P (-4) σa10)))))) ∧ (z3 = 0 → P (-2) σa3))))))) : K_H_load l D Λ σ c a1 a2 a3 P := e_H_load (fun x hl hD hx => by subst hl; subst hD; exact u_H_load_0 hx hL T)
-- DirtyCardHeap.store(III)I
def rm_H_store : Room := { frames := 1, cells := 0, slots := 0, locals := 21 }
abbrev X_H_store (x : Cx) : Prop := CxOk x b_H_store 5 wl_H_store R_H (some .int) rm_H_store "store"
abbrev K_H_store (l : Launch) (D : va_G) (Λ : Lam) (σ : Mem) (c : Nat → Nat) (a1 : Int) (a2 : Int) (a3 : Int) (P : Int → Mem → Prop) : Prop := Ct l D y_H_store wl_H_store rm_H_store [.ref (c 0), .int (iI a1), .int (iI a2), .int (iI a3)] Λ σ (pI Λ P)
abbrev N_H_store_0 (x : Cx) (P : Int → Mem → Prop) (Λ : Lam) (σ : Mem) (c : Nat → Nat) (a1 : Int) (a2 : Int) (a3 : Int) : Prop := AtG x (pI Λ P) 5 0 0 0 Λ σ [(0, .ref (c 0)), (1, .int (iI a1)), (2, .int (iI a2)), (3, .int (iI a3))] []
theorem e_H_store {l : Launch} {D : va_G} {Λ : Lam} {σ : Mem} {c : Nat → Nat} {a1 : Int} {a2 : Int} {a3 : Int} {P : Int → Mem → Prop} (h : ∀ x : Cx, xl x = l → xD x = D → X_H_store x → N_H_store_0 x P Λ σ c a1 a2 a3) : K_H_store l D Λ σ c a1 a2 a3 P := Ct.of (by decide) rfl (Nat.le_of_ble_eq_true rfl) h
set_option maxHeartbeats 4000000 in
set_option maxRecDepth 100000 in
theorem u_H_store_0 {x : Cx} (hx : X_H_store x) {P : Int → Mem → Prop} {Λ : Lam} {σ : Mem} {c : Nat → Nat} {a1 : Int} {a2 : Int} {a3 : Int} (hL : LayC Λ c) (T : K_H_isRoot (xl x) (xD x) Λ σ a1 (fun z1 σa1 => rng z1 ∧ ((z1 = 0 → P (-2) σa1) ∧ (¬ z1 = 0 → K_H_isRoot (xl x) (xD x) Λ σa1 a3 (fun z3 σa3 => rng z3 ∧ ((¬ z3 = 0 → 0 ≤ a1 ∧ a1 < (6 : Int) ∧ ((σa3.2.2 100 (c 1) a1.toNat = none → P (-3) σa3) ∧ (∀ t7, σa3.2.2 100 (c 1) a1.toNat = some t7 → isT Λ t7 ∧ K_T_hasField (xl x) (xD x) Λ σa3 t7 a2 (fun z10 σa10 => rng z10 ∧ ((¬ z10 = 0 → 0 ≤ a3 ∧ a3 < (6 : Int) ∧ 0 ≤ a2 ∧ a2 < ((nfL Λ t7 : Nat) : Int) ∧ (∀ t, σa10.2.2 100 (c 1) a3.toNat = some t → isT Λ t) ∧ K_T_isOld (xl x) (xD x) Λ (upX σa10 103 (faL Λ t7) a2.toNat (σa10.2.2 100 (c 1) a3.toNat)) t7 (fun z17 σa17 => rng z17 ∧ ((z17 = 0 → P 0 σa17) ∧ (¬ z17 = 0 → K_H_cardOf (xl x) (xD x) Λ σa17 (((σa17.1 203 t7) + 1) + a2) (fun z19 σa19 => P 0 (upI σa19 304 (c 0) (iOr (σa17.1 304 (c 0)) z19))))))) ∧ (z10 = 0 → P (-4) σa10)))))) ∧ (z3 = 0 → P (-2) σa3))))))) : N_H_store_0 x P Λ σ c a1 a2 a3 := by
  obtain ⟨hex, hb, hml, hown, hts, hr, hlk, hR, hnm, hAs, hNW⟩ := hx
  obtain ⟨hLH, ⟨cA1, hLA1⟩, ⟨hLR2, cA3, hLA3⟩, hLO, ⟨cA5, hLA5⟩, ⟨hLR6, cA7, hLA7⟩⟩ := hL
  refine ⟨(), fun hK hA ls H locs hl hP hS => ?_⟩
  refine lv_iload_n hex hb d_H_store_0 rfl (lv_at hl 1 rfl) ?_
  refine r_call (va_runS (As := [.int (iI a1)]) (rest := []) ⟨hex, hb, hml, hown, hts⟩ (Ct.use T H.size) (cwS 1 hts (gdS bg_74 bg_75 bg_1 bc_H_isRoot) rfl rfl rfl hdV_H_isRoot ⟨by rw [hR]; exact Nat.le_of_ble_eq_true rfl, by rw [hR]; exact Nat.le_of_ble_eq_true rfl⟩) (px_preS hNW hK hP) rfl rfl hl.1 rfl (lv_room (Nat.le_of_ble_eq_true rfl)) d_H_store_1 ⟨by rw [hR]; exact Nat.le_of_ble_eq_true rfl, by rw [hR]; exact Nat.le_of_ble_eq_true rfl⟩) hS hA hAs (fun v Λ1 σ1 H locs hp hP hK hA hS => ?_)
  obtain ⟨z1, rfl, rfl, T⟩ := hp
  generalize σ1 = σa1 at hP T
  refine W.eq (g2 := F0 (xm x) 4 ls [.int (iI z1)]) rfl ?_
  obtain ⟨h2, T⟩ := T
  obtain ⟨T1, T2⟩ := T
  refine r_if_eq (a := z1) (tgt := 14) hex hb h2 d_H_store_4 rfl (fun hc => ?_) (fun hc => ?_)
  · have T := T1 hc
    refine lv_bipush (v := iI (-2)) hex hb d_H_store_14 rfl ?_
    exact r_iret hex hb hr hlk hK hA hP hS ⟨_, rfl, rfl, T⟩ (Nat.zero_le _) (Nat.zero_le _) d_H_store_16
  · have T := T2 hc
    refine lv_iload_n hex hb d_H_store_7 rfl (lv_at hl 3 rfl) ?_
    refine r_call (va_runS (As := [.int (iI a3)]) (rest := []) ⟨hex, hb, hml, hown, hts⟩ (Ct.use T H.size) (cwS 1 hts (gdS bg_74 bg_75 bg_1 bc_H_isRoot) rfl rfl rfl hdV_H_isRoot ⟨by rw [hR]; exact Nat.le_of_ble_eq_true rfl, by rw [hR]; exact Nat.le_of_ble_eq_true rfl⟩) (px_preS hNW hK hP) rfl rfl hl.1 rfl (lv_room (Nat.le_of_ble_eq_true rfl)) d_H_store_8 ⟨by rw [hR]; exact Nat.le_of_ble_eq_true rfl, by rw [hR]; exact Nat.le_of_ble_eq_true rfl⟩) hS hA hAs (fun v Λ1 σ1 H locs hp hP hK hA hS => ?_)
    obtain ⟨z3, rfl, rfl, T⟩ := hp
    generalize σ1 = σa3 at hP T
    refine W.eq (g2 := F0 (xm x) 11 ls [.int (iI z3)]) rfl ?_
    obtain ⟨h4, T⟩ := T
    obtain ⟨T1, T2⟩ := T
    refine r_if_ne (a := z3) (tgt := 17) hex hb h4 d_H_store_11 rfl (fun hc => ?_) (fun hc => ?_)
    · have T := T1 hc
      refine lv_aload_n hex hb d_H_store_17 rfl (lv_at hl 0 rfl) ?_
      refine r_getR (ci := 3) (C := R_H) (T := F_H) (N := 8) hex hb hts (fun w h => List.mem_cons_of_mem _ (in_H w h)) hown hK hP hLH rfl 0 (by decide) (hts _ (List.mem_cons_of_mem _ bg_45)) (fun _ h9 => h9) rfl d_H_store_18 ?_
      refine lv_iload_n hex hb d_H_store_21 rfl (lv_at hl 1 rfl) ?_
      obtain ⟨h5, T⟩ := T
      obtain ⟨h6, T⟩ := T
      refine r_aald hex hb hK hP hLA1 (by decide) (by decide) h5 h6 d_H_store_22 ?_
      refine r_astore (o := σa3.2.2 100 (c 1) a1.toNat) (lv' := [(4, va_rf (σa3.2.2 100 (c 1) a1.toNat)), (0, .ref (c 0)), (1, .int (iI a1)), (2, .int (iI a2)), (3, .int (iI a3))]) hex hb d_H_store_23 hl (Nat.le_of_ble_eq_true rfl) rfl (fun ls hl => ?_)
      refine r_aload (o := σa3.2.2 100 (c 1) a1.toNat) hex hb d_H_store_25 (lv_at hl 0 rfl) ?_
      obtain ⟨Tn, Ts⟩ := T
      refine r_ifnonnull (o := σa3.2.2 100 (c 1) a1.toNat) (tgt := 33) hex hb d_H_store_27 rfl (fun hn => ?_) (fun t7 ht8 => ?_)
      · have T := Tn hn
        have hl : lv_has ls 5 [(4, va_rf none), (0, .ref (c 0)), (1, .int (iI a1)), (2, .int (iI a2)), (3, .int (iI a3))] := by have h9 := hl; rw [hn] at h9; exact h9
        refine lv_bipush (v := iI (-3)) hex hb d_H_store_30 rfl ?_
        exact r_iret hex hb hr hlk hK hA hP hS ⟨_, rfl, rfl, T⟩ (Nat.zero_le _) (Nat.zero_le _) d_H_store_32
      · have T := Ts t7 ht8
        have hl : lv_has ls 5 [(4, .ref t7), (0, .ref (c 0)), (1, .int (iI a1)), (2, .int (iI a2)), (3, .int (iI a3))] := by have h9 := hl; rw [ht8] at h9; exact h9
        refine lv_aload hex hb d_H_store_33 (lv_at hl 0 rfl) ?_
        refine lv_iload_n hex hb d_H_store_35 rfl (lv_at hl 3 rfl) ?_
        obtain ⟨⟨hT9, ⟨cT9, hF9⟩, hn9⟩, T⟩ := T
        refine r_call (va_runV (As := [.int (iI a2)]) (rest := []) ⟨hex, hb, hml, hown, hts⟩ (Ct.use T H.size) (cwV 1 hts (gdV bg_273 bg_150 bg_151 bg_6 bc_T_hasField) rfl rfl rfl hdV_T_hasField ⟨by rw [hR]; exact Nat.le_of_ble_eq_true rfl, by rw [hR]; exact Nat.le_of_ble_eq_true rfl⟩) (px_preV (ci := 2) hNW hK hP hT9 rfl) rfl rfl hl.1 rfl (lv_room (Nat.le_of_ble_eq_true rfl)) d_H_store_36 ⟨by rw [hR]; exact Nat.le_of_ble_eq_true rfl, by rw [hR]; exact Nat.le_of_ble_eq_true rfl⟩) hS hA hAs (fun v Λ1 σ1 H locs hp hP hK hA hS => ?_)
        obtain ⟨z10, rfl, rfl, T⟩ := hp
        generalize σ1 = σa10 at hP T
        refine W.eq (g2 := F0 (xm x) 39 ls [.int (iI z10)]) rfl ?_
        obtain ⟨h11, T⟩ := T
        obtain ⟨T1, T2⟩ := T
        refine r_if_ne (a := z10) (tgt := 45) hex hb h11 d_H_store_39 rfl (fun hc => ?_) (fun hc => ?_)
        · have T := T1 hc
          refine lv_aload hex hb d_H_store_45 (lv_at hl 0 rfl) ?_
          refine r_getR (ci := 2) (C := R_T) (T := F_T) (N := 7) hex hb hts (fun w h => List.mem_cons_of_mem _ (in_T w h)) hown hK hP hT9 rfl 1 (by decide) (hts _ (List.mem_cons_of_mem _ bg_232)) (fun _ h9 => h9) rfl d_H_store_47 ?_
          refine lv_iload_n hex hb d_H_store_50 rfl (lv_at hl 3 rfl) ?_
          refine lv_aload_n hex hb d_H_store_51 rfl (lv_at hl 1 rfl) ?_
          refine r_getR (ci := 3) (C := R_H) (T := F_H) (N := 8) hex hb hts (fun w h => List.mem_cons_of_mem _ (in_H w h)) hown hK hP hLH rfl 0 (by decide) (hts _ (List.mem_cons_of_mem _ bg_45)) (fun _ h9 => h9) rfl d_H_store_52 ?_
          refine lv_iload_n hex hb d_H_store_55 rfl (lv_at hl 4 rfl) ?_
          obtain ⟨h12, T⟩ := T
          obtain ⟨h13, T⟩ := T
          refine r_aald hex hb hK hP hLA1 (by decide) (by decide) h12 h13 d_H_store_56 ?_
          obtain ⟨h14, T⟩ := T
          obtain ⟨h15, T⟩ := T
          obtain ⟨h16, T⟩ := T
          refine r_aast (o := (σa10.2.2 100 (c 1) a3.toNat)) (ci := 2) hex hb hK hP hA hS hF9 (by decide) (by omega) rfl rfl (fun t ht => ⟨_, (h16 t ht).1⟩) h14 h15 d_H_store_57 (fun H locs hP hS => ?_)
          refine lv_aload hex hb d_H_store_58 (lv_at hl 0 rfl) ?_
          refine r_call (va_runV (As := []) (rest := []) ⟨hex, hb, hml, hown, hts⟩ (Ct.use T H.size) (cwV 0 hts (gdV bg_278 bg_279 bg_280 bg_6 bc_T_isOld) rfl rfl rfl hdV_T_isOld ⟨by rw [hR]; exact Nat.le_of_ble_eq_true rfl, by rw [hR]; exact Nat.le_of_ble_eq_true rfl⟩) (px_preV (ci := 2) hNW hK hP hT9 rfl) rfl rfl hl.1 rfl (lv_room (Nat.le_of_ble_eq_true rfl)) d_H_store_60 ⟨by rw [hR]; exact Nat.le_of_ble_eq_true rfl, by rw [hR]; exact Nat.le_of_ble_eq_true rfl⟩) hS hA hAs (fun v Λ1 σ1 H locs hp hP hK hA hS => ?_)
          obtain ⟨z17, rfl, rfl, T⟩ := hp
          generalize σ1 = σa17 at hP T
          refine W.eq (g2 := F0 (xm x) 63 ls [.int (iI z17)]) rfl ?_
          obtain ⟨h18, T⟩ := T
          obtain ⟨T1, T2⟩ := T
          refine r_if_eq (a := z17) (tgt := 87) hex hb h18 d_H_store_63 rfl (fun hc => ?_) (fun hc => ?_)
          · have T := T1 hc
            refine lv_iconst (v := iI 0) hex hb d_H_store_87 rfl ?_
            exact r_iret hex hb hr hlk hK hA hP hS ⟨_, rfl, rfl, T⟩ (Nat.zero_le _) (Nat.zero_le _) d_H_store_88
          · have T := T2 hc
            refine lv_aload_n hex hb d_H_store_66 rfl (lv_at hl 1 rfl) ?_
            refine lv_dup hex hb d_H_store_67 rfl ?_
            refine r_getI (ci := 3) (C := R_H) (T := F_H) (N := 8) hex hb hts (fun w h => List.mem_cons_of_mem _ (in_H w h)) hown hK hP hLH rfl 4 (by decide) (hts _ (List.mem_cons_of_mem _ bg_49)) (fun _ h9 => h9) rfl d_H_store_68 ?_
            refine lv_aload hex hb d_H_store_71 (lv_at hl 0 rfl) ?_
            refine r_getI (ci := 2) (C := R_T) (T := F_T) (N := 7) hex hb hts (fun w h => List.mem_cons_of_mem _ (in_T w h)) hown hK hP hT9 rfl 3 (by decide) (hts _ (List.mem_cons_of_mem _ bg_238)) (fun _ h9 => h9) rfl d_H_store_73 ?_
            refine lv_iconst (v := iI 1) hex hb d_H_store_76 rfl ?_
            refine r_iadd hex hb d_H_store_77 ?_
            refine lv_iload_n hex hb d_H_store_78 rfl (lv_at hl 3 rfl) ?_
            refine r_iadd hex hb d_H_store_79 ?_
            refine r_call (va_runS (As := [.int (iI (((σa17.1 203 t7) + 1) + a2))]) (rest := [.int (iI (σa17.1 304 (c 0))), .ref (c 0)]) ⟨hex, hb, hml, hown, hts⟩ (Ct.use T H.size) (cwS 1 hts (gdS bg_144 bg_138 bg_1 bc_H_cardOf) rfl rfl rfl hdV_H_cardOf ⟨by rw [hR]; exact Nat.le_of_ble_eq_true rfl, by rw [hR]; exact Nat.le_of_ble_eq_true rfl⟩) (px_preS hNW hK hP) rfl rfl hl.1 rfl (lv_room (Nat.le_of_ble_eq_true rfl)) d_H_store_80 ⟨by rw [hR]; exact Nat.le_of_ble_eq_true rfl, by rw [hR]; exact Nat.le_of_ble_eq_true rfl⟩) hS hA hAs (fun v Λ1 σ1 H locs hp hP hK hA hS => ?_)
            obtain ⟨z19, rfl, rfl, T⟩ := hp
            generalize σ1 = σa19 at hP T
            refine W.eq (g2 := F0 (xm x) 83 ls [.int (iI z19), .int (iI (σa17.1 304 (c 0))), .ref (c 0)]) rfl ?_
            refine r_ior hex hb d_H_store_83 ?_
            refine r_putI (ci := 3) (C := R_H) (T := F_H) (N := 8) (v := iOr (σa17.1 304 (c 0)) z19) (ty := .int) hex hb hts (fun w h => List.mem_cons_of_mem _ (in_H w h)) tq_H tq_H_ok n_H hown hK hP hA hS hLH rfl 4 (by decide) (hts _ (List.mem_cons_of_mem _ bg_49)) (fun _ h9 => h9) rfl (by decide +kernel) rfl rfl rfl d_H_store_84 (fun H locs hP hS => ?_)
            refine lv_iconst (v := iI 0) hex hb d_H_store_87 rfl ?_
            exact r_iret hex hb hr hlk hK hA hP hS ⟨_, rfl, rfl, T⟩ (Nat.zero_le _) (Nat.zero_le _) d_H_store_88
        · have T := T2 hc
          refine lv_bipush (v := iI (-4)) hex hb d_H_store_42 rfl ?_
          exact r_iret hex hb hr hlk hK hA hP hS ⟨_, rfl, rfl, T⟩ (Nat.zero_le _) (Nat.zero_le _) d_H_store_44
    · have T := T2 hc
      refine lv_bipush (v := iI (-2)) hex hb d_H_store_14 rfl ?_
      exact r_iret hex hb hr hlk hK hA hP hS ⟨_, rfl, rfl, T⟩ (Nat.zero_le _) (Nat.zero_le _) d_H_store_16
set_option maxRecDepth 100000 in
theorem w_H_store {l : Launch} {D : va_G} {Λ : Lam} {σ : Mem} {c : Nat → Nat} {a1 : Int} {a2 : Int} {a3 : Int} {P : Int → Mem → Prop} (hL : LayC Λ c) (T : K_H_isRoot l D Λ σ a1 (fun z1 σa1 => rng z1 ∧ ((z1 = 0 → P (-2) σa1) ∧ (¬ z1 = 0 → K_H_isRoot l D Λ σa1 a3 (fun z3 σa3 => rng z3 ∧ ((¬ z3 = 0 → 0 ≤ a1 ∧ a1 < (6 : Int) ∧ ((σa3.2.2 100 (c 1) a1.toNat = none → P (-3) σa3) ∧ (∀ t7, σa3.2.2 100 (c 1) a1.toNat = some t7 → isT Λ t7 ∧ K_T_hasField l D Λ σa3 t7 a2 (fun z10 σa10 => rng z10 ∧ ((¬ z10 = 0 → 0 ≤ a3 ∧ a3 < (6 : Int) ∧ 0 ≤ a2 ∧ a2 < ((nfL Λ t7 : Nat) : Int) ∧ (∀ t, σa10.2.2 100 (c 1) a3.toNat = some t → isT Λ t) ∧ K_T_isOld l D Λ (upX σa10 103 (faL Λ t7) a2.toNat (σa10.2.2 100 (c 1) a3.toNat)) t7 (fun z17 σa17 => rng z17 ∧ ((z17 = 0 → P 0 σa17) ∧ (¬ z17 = 0 → K_H_cardOf l D Λ σa17 (((σa17.1 203 t7) + 1) + a2) (fun z19 σa19 => P 0 (upI σa19 304 (c 0) (iOr (σa17.1 304 (c 0)) z19))))))) ∧ (z10 = 0 → P (-4) σa10)))))) ∧ (z3 = 0 → P (-2) σa3))))))) : K_H_store l D Λ σ c a1 a2 a3 P := e_H_store (fun x hl hD hx => by subst hl; subst hD; exact u_H_store_0 hx hL T)
-- DirtyCardHeap.payload(I)I
def rm_H_payload : Room := { frames := 2, cells := 0, slots := 0, locals := 41 }
abbrev X_H_payload (x : Cx) : Prop := CxOk x b_H_payload 3 wl_H_payload R_H (some .int) rm_H_payload "payload"
abbrev K_H_payload (l : Launch) (D : va_G) (Λ : Lam) (σ : Mem) (c : Nat → Nat) (a1 : Int) (P : Int → Mem → Prop) : Prop := Ct l D y_H_payload wl_H_payload rm_H_payload [.ref (c 0), .int (iI a1)] Λ σ (pI Λ P)
abbrev N_H_payload_0 (x : Cx) (P : Int → Mem → Prop) (Λ : Lam) (σ : Mem) (c : Nat → Nat) (a1 : Int) : Prop := AtG x (pI Λ P) 3 0 0 0 Λ σ [(0, .ref (c 0)), (1, .int (iI a1))] []
theorem e_H_payload {l : Launch} {D : va_G} {Λ : Lam} {σ : Mem} {c : Nat → Nat} {a1 : Int} {P : Int → Mem → Prop} (h : ∀ x : Cx, xl x = l → xD x = D → X_H_payload x → N_H_payload_0 x P Λ σ c a1) : K_H_payload l D Λ σ c a1 P := Ct.of (by decide) rfl (Nat.le_of_ble_eq_true rfl) h
set_option maxHeartbeats 4000000 in
set_option maxRecDepth 100000 in
theorem u_H_payload_0 {x : Cx} (hx : X_H_payload x) {P : Int → Mem → Prop} {Λ : Lam} {σ : Mem} {c : Nat → Nat} {a1 : Int} (hL : LayC Λ c) (T : K_H_thingOf (xl x) (xD x) Λ σ c a1 (fun o1r σa1 => ((o1r = none → P 0 σa1) ∧ (∀ t2, o1r = some t2 → isT Λ t2 ∧ P (σa1.1 200 t2) σa1)))) : N_H_payload_0 x P Λ σ c a1 := by
  obtain ⟨hex, hb, hml, hown, hts, hr, hlk, hR, hnm, hAs, hNW⟩ := hx
  obtain ⟨hLH, ⟨cA1, hLA1⟩, ⟨hLR2, cA3, hLA3⟩, hLO, ⟨cA5, hLA5⟩, ⟨hLR6, cA7, hLA7⟩⟩ := hL
  refine ⟨(), fun hK hA ls H locs hl hP hS => ?_⟩
  refine lv_aload_n hex hb d_H_payload_0 rfl (lv_at hl 0 rfl) ?_
  refine lv_iload_n hex hb d_H_payload_1 rfl (lv_at hl 1 rfl) ?_
  refine r_call (va_runV (As := [.int (iI a1)]) (rest := []) ⟨hex, hb, hml, hown, hts⟩ (Ct.use T H.size) (cwV 1 hts (gdV bg_286 bg_288 bp_14 bg_1 bc_H_thingOf) rfl rfl rfl hdV_H_thingOf ⟨by rw [hR]; exact Nat.le_of_ble_eq_true rfl, by rw [hR]; exact Nat.le_of_ble_eq_true rfl⟩) (px_preV (ci := 3) hNW hK hP hLH rfl) rfl rfl hl.1 rfl (lv_room (Nat.le_of_ble_eq_true rfl)) d_H_payload_2 ⟨by rw [hR]; exact Nat.le_of_ble_eq_true rfl, by rw [hR]; exact Nat.le_of_ble_eq_true rfl⟩) hS hA hAs (fun v Λ1 σ1 H locs hp hP hK hA hS => ?_)
  obtain ⟨o1r, rfl, rfl, T⟩ := hp
  generalize σ1 = σa1 at hP T
  refine W.eq (g2 := F0 (xm x) 5 ls [va_rf o1r]) rfl ?_
  refine r_astore_n (o := o1r) (lv' := [(2, va_rf o1r), (0, .ref (c 0)), (1, .int (iI a1))]) hex hb d_H_payload_5 rfl hl (Nat.le_of_ble_eq_true rfl) rfl (fun ls hl => ?_)
  refine r_aload_n (o := o1r) hex hb d_H_payload_6 rfl (lv_at hl 0 rfl) ?_
  obtain ⟨Tn, Ts⟩ := T
  refine r_ifnonnull (o := o1r) (tgt := 14) hex hb d_H_payload_7 rfl (fun hn => ?_) (fun t2 ht3 => ?_)
  · have T := Tn hn
    have hl : lv_has ls 3 [(2, va_rf none), (0, .ref (c 0)), (1, .int (iI a1))] := by have h9 := hl; rw [hn] at h9; exact h9
    refine lv_iconst (v := iI 0) hex hb d_H_payload_10 rfl ?_
    refine lv_goto (tgt := 18) hex hb d_H_payload_11 rfl ?_
    exact r_iret hex hb hr hlk hK hA hP hS ⟨_, rfl, rfl, T⟩ (Nat.zero_le _) (Nat.zero_le _) d_H_payload_18
  · have T := Ts t2 ht3
    have hl : lv_has ls 3 [(2, .ref t2), (0, .ref (c 0)), (1, .int (iI a1))] := by have h9 := hl; rw [ht3] at h9; exact h9
    refine lv_aload_n hex hb d_H_payload_14 rfl (lv_at hl 0 rfl) ?_
    obtain ⟨⟨hT4, ⟨cT4, hF4⟩, hn4⟩, T⟩ := T
    refine r_getI (ci := 2) (C := R_T) (T := F_T) (N := 7) hex hb hts (fun w h => List.mem_cons_of_mem _ (in_T w h)) hown hK hP hT4 rfl 0 (by decide) (hts _ (List.mem_cons_of_mem _ bg_230)) (fun _ h9 => h9) rfl d_H_payload_15 ?_
    exact r_iret hex hb hr hlk hK hA hP hS ⟨_, rfl, rfl, T⟩ (Nat.zero_le _) (Nat.zero_le _) d_H_payload_18
set_option maxRecDepth 100000 in
theorem w_H_payload {l : Launch} {D : va_G} {Λ : Lam} {σ : Mem} {c : Nat → Nat} {a1 : Int} {P : Int → Mem → Prop} (hL : LayC Λ c) (T : K_H_thingOf l D Λ σ c a1 (fun o1r σa1 => ((o1r = none → P 0 σa1) ∧ (∀ t2, o1r = some t2 → isT Λ t2 ∧ P (σa1.1 200 t2) σa1)))) : K_H_payload l D Λ σ c a1 P := e_H_payload (fun x hl hD hx => by subst hl; subst hD; exact u_H_payload_0 hx hL T)
-- DirtyCardHeap.same(II)Z
def rm_H_same : Room := { frames := 1, cells := 0, slots := 0, locals := 20 }
abbrev X_H_same (x : Cx) : Prop := CxOk x b_H_same 3 wl_H_same R_H (some .boolean) rm_H_same "same"
abbrev K_H_same (l : Launch) (D : va_G) (Λ : Lam) (σ : Mem) (c : Nat → Nat) (a1 : Int) (a2 : Int) (P : Int → Mem → Prop) : Prop := Ct l D y_H_same wl_H_same rm_H_same [.ref (c 0), .int (iI a1), .int (iI a2)] Λ σ (pI Λ P)
abbrev N_H_same_0 (x : Cx) (P : Int → Mem → Prop) (Λ : Lam) (σ : Mem) (c : Nat → Nat) (a1 : Int) (a2 : Int) : Prop := AtG x (pI Λ P) 3 0 0 0 Λ σ [(0, .ref (c 0)), (1, .int (iI a1)), (2, .int (iI a2))] []
theorem e_H_same {l : Launch} {D : va_G} {Λ : Lam} {σ : Mem} {c : Nat → Nat} {a1 : Int} {a2 : Int} {P : Int → Mem → Prop} (h : ∀ x : Cx, xl x = l → xD x = D → X_H_same x → N_H_same_0 x P Λ σ c a1 a2) : K_H_same l D Λ σ c a1 a2 P := Ct.of (by decide) rfl (Nat.le_of_ble_eq_true rfl) h
set_option maxHeartbeats 4000000 in
set_option maxRecDepth 100000 in
theorem u_H_same_0 {x : Cx} (hx : X_H_same x) {P : Int → Mem → Prop} {Λ : Lam} {σ : Mem} {c : Nat → Nat} {a1 : Int} {a2 : Int} (hL : LayC Λ c) (T : K_H_isRoot (xl x) (xD x) Λ σ a1 (fun z1 σa1 => rng z1 ∧ ((z1 = 0 → P 0 σa1) ∧ (¬ z1 = 0 → K_H_isRoot (xl x) (xD x) Λ σa1 a2 (fun z3 σa3 => rng z3 ∧ ((z3 = 0 → P 0 σa3) ∧ (¬ z3 = 0 → 0 ≤ a1 ∧ a1 < (6 : Int) ∧ 0 ≤ a2 ∧ a2 < (6 : Int) ∧ ((¬ (σa3.2.2 100 (c 1) a1.toNat) = (σa3.2.2 100 (c 1) a2.toNat) → P 0 σa3) ∧ ((σa3.2.2 100 (c 1) a1.toNat) = (σa3.2.2 100 (c 1) a2.toNat) → P 1 σa3))))))))) : N_H_same_0 x P Λ σ c a1 a2 := by
  obtain ⟨hex, hb, hml, hown, hts, hr, hlk, hR, hnm, hAs, hNW⟩ := hx
  obtain ⟨hLH, ⟨cA1, hLA1⟩, ⟨hLR2, cA3, hLA3⟩, hLO, ⟨cA5, hLA5⟩, ⟨hLR6, cA7, hLA7⟩⟩ := hL
  refine ⟨(), fun hK hA ls H locs hl hP hS => ?_⟩
  refine lv_iload_n hex hb d_H_same_0 rfl (lv_at hl 1 rfl) ?_
  refine r_call (va_runS (As := [.int (iI a1)]) (rest := []) ⟨hex, hb, hml, hown, hts⟩ (Ct.use T H.size) (cwS 1 hts (gdS bg_74 bg_75 bg_1 bc_H_isRoot) rfl rfl rfl hdV_H_isRoot ⟨by rw [hR]; exact Nat.le_of_ble_eq_true rfl, by rw [hR]; exact Nat.le_of_ble_eq_true rfl⟩) (px_preS hNW hK hP) rfl rfl hl.1 rfl (lv_room (Nat.le_of_ble_eq_true rfl)) d_H_same_1 ⟨by rw [hR]; exact Nat.le_of_ble_eq_true rfl, by rw [hR]; exact Nat.le_of_ble_eq_true rfl⟩) hS hA hAs (fun v Λ1 σ1 H locs hp hP hK hA hS => ?_)
  obtain ⟨z1, rfl, rfl, T⟩ := hp
  generalize σ1 = σa1 at hP T
  refine W.eq (g2 := F0 (xm x) 4 ls [.int (iI z1)]) rfl ?_
  obtain ⟨h2, T⟩ := T
  obtain ⟨T1, T2⟩ := T
  refine r_if_eq (a := z1) (tgt := 33) hex hb h2 d_H_same_4 rfl (fun hc => ?_) (fun hc => ?_)
  · have T := T1 hc
    refine lv_iconst (v := iI 0) hex hb d_H_same_33 rfl ?_
    exact r_zret hex hb hr hlk hK hA hP hS (by decide) ⟨_, rfl, rfl, T⟩ (Nat.zero_le _) (Nat.zero_le _) d_H_same_34
  · have T := T2 hc
    refine lv_iload_n hex hb d_H_same_7 rfl (lv_at hl 2 rfl) ?_
    refine r_call (va_runS (As := [.int (iI a2)]) (rest := []) ⟨hex, hb, hml, hown, hts⟩ (Ct.use T H.size) (cwS 1 hts (gdS bg_74 bg_75 bg_1 bc_H_isRoot) rfl rfl rfl hdV_H_isRoot ⟨by rw [hR]; exact Nat.le_of_ble_eq_true rfl, by rw [hR]; exact Nat.le_of_ble_eq_true rfl⟩) (px_preS hNW hK hP) rfl rfl hl.1 rfl (lv_room (Nat.le_of_ble_eq_true rfl)) d_H_same_8 ⟨by rw [hR]; exact Nat.le_of_ble_eq_true rfl, by rw [hR]; exact Nat.le_of_ble_eq_true rfl⟩) hS hA hAs (fun v Λ1 σ1 H locs hp hP hK hA hS => ?_)
    obtain ⟨z3, rfl, rfl, T⟩ := hp
    generalize σ1 = σa3 at hP T
    refine W.eq (g2 := F0 (xm x) 11 ls [.int (iI z3)]) rfl ?_
    obtain ⟨h4, T⟩ := T
    obtain ⟨T1, T2⟩ := T
    refine r_if_eq (a := z3) (tgt := 33) hex hb h4 d_H_same_11 rfl (fun hc => ?_) (fun hc => ?_)
    · have T := T1 hc
      refine lv_iconst (v := iI 0) hex hb d_H_same_33 rfl ?_
      exact r_zret hex hb hr hlk hK hA hP hS (by decide) ⟨_, rfl, rfl, T⟩ (Nat.zero_le _) (Nat.zero_le _) d_H_same_34
    · have T := T2 hc
      refine lv_aload_n hex hb d_H_same_14 rfl (lv_at hl 0 rfl) ?_
      refine r_getR (ci := 3) (C := R_H) (T := F_H) (N := 8) hex hb hts (fun w h => List.mem_cons_of_mem _ (in_H w h)) hown hK hP hLH rfl 0 (by decide) (hts _ (List.mem_cons_of_mem _ bg_45)) (fun _ h9 => h9) rfl d_H_same_15 ?_
      refine lv_iload_n hex hb d_H_same_18 rfl (lv_at hl 1 rfl) ?_
      obtain ⟨h5, T⟩ := T
      obtain ⟨h6, T⟩ := T
      refine r_aald hex hb hK hP hLA1 (by decide) (by decide) h5 h6 d_H_same_19 ?_
      refine lv_aload_n hex hb d_H_same_20 rfl (lv_at hl 0 rfl) ?_
      refine r_getR (ci := 3) (C := R_H) (T := F_H) (N := 8) hex hb hts (fun w h => List.mem_cons_of_mem _ (in_H w h)) hown hK hP hLH rfl 0 (by decide) (hts _ (List.mem_cons_of_mem _ bg_45)) (fun _ h9 => h9) rfl d_H_same_21 ?_
      refine lv_iload_n hex hb d_H_same_24 rfl (lv_at hl 2 rfl) ?_
      obtain ⟨h7, T⟩ := T
      obtain ⟨h8, T⟩ := T
      refine r_aald hex hb hK hP hLA1 (by decide) (by decide) h7 h8 d_H_same_25 ?_
      obtain ⟨T1, T2⟩ := T
      refine lv_acmp_ne (rx := σa3.2.2 100 (c 1) a1.toNat) (ry := σa3.2.2 100 (c 1) a2.toNat) (tgt := 33) hex hb d_H_same_26 rfl (fun hc => ?_) (fun hc => ?_)
      · have T := T1 hc
        refine lv_iconst (v := iI 0) hex hb d_H_same_33 rfl ?_
        exact r_zret hex hb hr hlk hK hA hP hS (by decide) ⟨_, rfl, rfl, T⟩ (Nat.zero_le _) (Nat.zero_le _) d_H_same_34
      · have T := T2 hc
        refine lv_iconst (v := iI 1) hex hb d_H_same_29 rfl ?_
        refine lv_goto (tgt := 34) hex hb d_H_same_30 rfl ?_
        exact r_zret hex hb hr hlk hK hA hP hS (by decide) ⟨_, rfl, rfl, T⟩ (Nat.zero_le _) (Nat.zero_le _) d_H_same_34
set_option maxRecDepth 100000 in
theorem w_H_same {l : Launch} {D : va_G} {Λ : Lam} {σ : Mem} {c : Nat → Nat} {a1 : Int} {a2 : Int} {P : Int → Mem → Prop} (hL : LayC Λ c) (T : K_H_isRoot l D Λ σ a1 (fun z1 σa1 => rng z1 ∧ ((z1 = 0 → P 0 σa1) ∧ (¬ z1 = 0 → K_H_isRoot l D Λ σa1 a2 (fun z3 σa3 => rng z3 ∧ ((z3 = 0 → P 0 σa3) ∧ (¬ z3 = 0 → 0 ≤ a1 ∧ a1 < (6 : Int) ∧ 0 ≤ a2 ∧ a2 < (6 : Int) ∧ ((¬ (σa3.2.2 100 (c 1) a1.toNat) = (σa3.2.2 100 (c 1) a2.toNat) → P 0 σa3) ∧ ((σa3.2.2 100 (c 1) a1.toNat) = (σa3.2.2 100 (c 1) a2.toNat) → P 1 σa3))))))))) : K_H_same l D Λ σ c a1 a2 P := e_H_same (fun x hl hD hx => by subst hl; subst hD; exact u_H_same_0 hx hL T)
-- DirtyCardHeap.address(I)I
def rm_H_address : Room := { frames := 1, cells := 0, slots := 0, locals := 20 }
abbrev X_H_address (x : Cx) : Prop := CxOk x b_H_address 3 wl_H_address R_H (some .int) rm_H_address "address"
abbrev K_H_address (l : Launch) (D : va_G) (Λ : Lam) (σ : Mem) (c : Nat → Nat) (a1 : Int) (P : Int → Mem → Prop) : Prop := Ct l D y_H_address wl_H_address rm_H_address [.ref (c 0), .int (iI a1)] Λ σ (pI Λ P)
abbrev N_H_address_0 (x : Cx) (P : Int → Mem → Prop) (Λ : Lam) (σ : Mem) (c : Nat → Nat) (a1 : Int) : Prop := AtG x (pI Λ P) 3 0 0 0 Λ σ [(0, .ref (c 0)), (1, .int (iI a1))] []
theorem e_H_address {l : Launch} {D : va_G} {Λ : Lam} {σ : Mem} {c : Nat → Nat} {a1 : Int} {P : Int → Mem → Prop} (h : ∀ x : Cx, xl x = l → xD x = D → X_H_address x → N_H_address_0 x P Λ σ c a1) : K_H_address l D Λ σ c a1 P := Ct.of (by decide) rfl (Nat.le_of_ble_eq_true rfl) h
set_option maxHeartbeats 4000000 in
set_option maxRecDepth 100000 in
theorem u_H_address_0 {x : Cx} (hx : X_H_address x) {P : Int → Mem → Prop} {Λ : Lam} {σ : Mem} {c : Nat → Nat} {a1 : Int} (hL : LayC Λ c) (T : K_H_isRoot (xl x) (xD x) Λ σ a1 (fun z1 σa1 => rng z1 ∧ ((¬ z1 = 0 → 0 ≤ a1 ∧ a1 < (6 : Int) ∧ ((σa1.2.2 100 (c 1) a1.toNat = none → P (-3) σa1) ∧ (∀ t5, σa1.2.2 100 (c 1) a1.toNat = some t5 → isT Λ t5 ∧ K_T_isOld (xl x) (xD x) Λ σa1 t5 (fun z8 σa8 => rng z8 ∧ ((z8 = 0 → P (-1) σa8) ∧ (¬ z8 = 0 → P (σa8.1 203 t5) σa8)))))) ∧ (z1 = 0 → P (-2) σa1)))) : N_H_address_0 x P Λ σ c a1 := by
  obtain ⟨hex, hb, hml, hown, hts, hr, hlk, hR, hnm, hAs, hNW⟩ := hx
  obtain ⟨hLH, ⟨cA1, hLA1⟩, ⟨hLR2, cA3, hLA3⟩, hLO, ⟨cA5, hLA5⟩, ⟨hLR6, cA7, hLA7⟩⟩ := hL
  refine ⟨(), fun hK hA ls H locs hl hP hS => ?_⟩
  refine lv_iload_n hex hb d_H_address_0 rfl (lv_at hl 1 rfl) ?_
  refine r_call (va_runS (As := [.int (iI a1)]) (rest := []) ⟨hex, hb, hml, hown, hts⟩ (Ct.use T H.size) (cwS 1 hts (gdS bg_74 bg_75 bg_1 bc_H_isRoot) rfl rfl rfl hdV_H_isRoot ⟨by rw [hR]; exact Nat.le_of_ble_eq_true rfl, by rw [hR]; exact Nat.le_of_ble_eq_true rfl⟩) (px_preS hNW hK hP) rfl rfl hl.1 rfl (lv_room (Nat.le_of_ble_eq_true rfl)) d_H_address_1 ⟨by rw [hR]; exact Nat.le_of_ble_eq_true rfl, by rw [hR]; exact Nat.le_of_ble_eq_true rfl⟩) hS hA hAs (fun v Λ1 σ1 H locs hp hP hK hA hS => ?_)
  obtain ⟨z1, rfl, rfl, T⟩ := hp
  generalize σ1 = σa1 at hP T
  refine W.eq (g2 := F0 (xm x) 4 ls [.int (iI z1)]) rfl ?_
  obtain ⟨h2, T⟩ := T
  obtain ⟨T1, T2⟩ := T
  refine r_if_ne (a := z1) (tgt := 10) hex hb h2 d_H_address_4 rfl (fun hc => ?_) (fun hc => ?_)
  · have T := T1 hc
    refine lv_aload_n hex hb d_H_address_10 rfl (lv_at hl 0 rfl) ?_
    refine r_getR (ci := 3) (C := R_H) (T := F_H) (N := 8) hex hb hts (fun w h => List.mem_cons_of_mem _ (in_H w h)) hown hK hP hLH rfl 0 (by decide) (hts _ (List.mem_cons_of_mem _ bg_45)) (fun _ h9 => h9) rfl d_H_address_11 ?_
    refine lv_iload_n hex hb d_H_address_14 rfl (lv_at hl 1 rfl) ?_
    obtain ⟨h3, T⟩ := T
    obtain ⟨h4, T⟩ := T
    refine r_aald hex hb hK hP hLA1 (by decide) (by decide) h3 h4 d_H_address_15 ?_
    refine r_astore_n (o := σa1.2.2 100 (c 1) a1.toNat) (lv' := [(2, va_rf (σa1.2.2 100 (c 1) a1.toNat)), (0, .ref (c 0)), (1, .int (iI a1))]) hex hb d_H_address_16 rfl hl (Nat.le_of_ble_eq_true rfl) rfl (fun ls hl => ?_)
    refine r_aload_n (o := σa1.2.2 100 (c 1) a1.toNat) hex hb d_H_address_17 rfl (lv_at hl 0 rfl) ?_
    obtain ⟨Tn, Ts⟩ := T
    refine r_ifnonnull (o := σa1.2.2 100 (c 1) a1.toNat) (tgt := 24) hex hb d_H_address_18 rfl (fun hn => ?_) (fun t5 ht6 => ?_)
    · have T := Tn hn
      have hl : lv_has ls 3 [(2, va_rf none), (0, .ref (c 0)), (1, .int (iI a1))] := by have h9 := hl; rw [hn] at h9; exact h9
      refine lv_bipush (v := iI (-3)) hex hb d_H_address_21 rfl ?_
      exact r_iret hex hb hr hlk hK hA hP hS ⟨_, rfl, rfl, T⟩ (Nat.zero_le _) (Nat.zero_le _) d_H_address_23
    · have T := Ts t5 ht6
      have hl : lv_has ls 3 [(2, .ref t5), (0, .ref (c 0)), (1, .int (iI a1))] := by have h9 := hl; rw [ht6] at h9; exact h9
      refine lv_aload_n hex hb d_H_address_24 rfl (lv_at hl 0 rfl) ?_
      obtain ⟨⟨hT7, ⟨cT7, hF7⟩, hn7⟩, T⟩ := T
      refine r_call (va_runV (As := []) (rest := []) ⟨hex, hb, hml, hown, hts⟩ (Ct.use T H.size) (cwV 0 hts (gdV bg_278 bg_279 bg_280 bg_6 bc_T_isOld) rfl rfl rfl hdV_T_isOld ⟨by rw [hR]; exact Nat.le_of_ble_eq_true rfl, by rw [hR]; exact Nat.le_of_ble_eq_true rfl⟩) (px_preV (ci := 2) hNW hK hP hT7 rfl) rfl rfl hl.1 rfl (lv_room (Nat.le_of_ble_eq_true rfl)) d_H_address_25 ⟨by rw [hR]; exact Nat.le_of_ble_eq_true rfl, by rw [hR]; exact Nat.le_of_ble_eq_true rfl⟩) hS hA hAs (fun v Λ1 σ1 H locs hp hP hK hA hS => ?_)
      obtain ⟨z8, rfl, rfl, T⟩ := hp
      generalize σ1 = σa8 at hP T
      refine W.eq (g2 := F0 (xm x) 28 ls [.int (iI z8)]) rfl ?_
      obtain ⟨h9, T⟩ := T
      obtain ⟨T1, T2⟩ := T
      refine r_if_eq (a := z8) (tgt := 38) hex hb h9 d_H_address_28 rfl (fun hc => ?_) (fun hc => ?_)
      · have T := T1 hc
        refine lv_iconst (v := iI (-1)) hex hb d_H_address_38 rfl ?_
        exact r_iret hex hb hr hlk hK hA hP hS ⟨_, rfl, rfl, T⟩ (Nat.zero_le _) (Nat.zero_le _) d_H_address_39
      · have T := T2 hc
        refine lv_aload_n hex hb d_H_address_31 rfl (lv_at hl 0 rfl) ?_
        refine r_getI (ci := 2) (C := R_T) (T := F_T) (N := 7) hex hb hts (fun w h => List.mem_cons_of_mem _ (in_T w h)) hown hK hP hT7 rfl 3 (by decide) (hts _ (List.mem_cons_of_mem _ bg_238)) (fun _ h9 => h9) rfl d_H_address_32 ?_
        refine lv_goto (tgt := 39) hex hb d_H_address_35 rfl ?_
        exact r_iret hex hb hr hlk hK hA hP hS ⟨_, rfl, rfl, T⟩ (Nat.zero_le _) (Nat.zero_le _) d_H_address_39
  · have T := T2 hc
    refine lv_bipush (v := iI (-2)) hex hb d_H_address_7 rfl ?_
    exact r_iret hex hb hr hlk hK hA hP hS ⟨_, rfl, rfl, T⟩ (Nat.zero_le _) (Nat.zero_le _) d_H_address_9
set_option maxRecDepth 100000 in
theorem w_H_address {l : Launch} {D : va_G} {Λ : Lam} {σ : Mem} {c : Nat → Nat} {a1 : Int} {P : Int → Mem → Prop} (hL : LayC Λ c) (T : K_H_isRoot l D Λ σ a1 (fun z1 σa1 => rng z1 ∧ ((¬ z1 = 0 → 0 ≤ a1 ∧ a1 < (6 : Int) ∧ ((σa1.2.2 100 (c 1) a1.toNat = none → P (-3) σa1) ∧ (∀ t5, σa1.2.2 100 (c 1) a1.toNat = some t5 → isT Λ t5 ∧ K_T_isOld l D Λ σa1 t5 (fun z8 σa8 => rng z8 ∧ ((z8 = 0 → P (-1) σa8) ∧ (¬ z8 = 0 → P (σa8.1 203 t5) σa8)))))) ∧ (z1 = 0 → P (-2) σa1)))) : K_H_address l D Λ σ c a1 P := e_H_address (fun x hl hD hx => by subst hl; subst hD; exact u_H_address_0 hx hL T)
-- DirtyCardHeap.age(I)I
def rm_H_age : Room := { frames := 1, cells := 0, slots := 0, locals := 20 }
abbrev X_H_age (x : Cx) : Prop := CxOk x b_H_age 3 wl_H_age R_H (some .int) rm_H_age "age"
abbrev K_H_age (l : Launch) (D : va_G) (Λ : Lam) (σ : Mem) (c : Nat → Nat) (a1 : Int) (P : Int → Mem → Prop) : Prop := Ct l D y_H_age wl_H_age rm_H_age [.ref (c 0), .int (iI a1)] Λ σ (pI Λ P)
abbrev N_H_age_0 (x : Cx) (P : Int → Mem → Prop) (Λ : Lam) (σ : Mem) (c : Nat → Nat) (a1 : Int) : Prop := AtG x (pI Λ P) 3 0 0 0 Λ σ [(0, .ref (c 0)), (1, .int (iI a1))] []
theorem e_H_age {l : Launch} {D : va_G} {Λ : Lam} {σ : Mem} {c : Nat → Nat} {a1 : Int} {P : Int → Mem → Prop} (h : ∀ x : Cx, xl x = l → xD x = D → X_H_age x → N_H_age_0 x P Λ σ c a1) : K_H_age l D Λ σ c a1 P := Ct.of (by decide) rfl (Nat.le_of_ble_eq_true rfl) h
set_option maxHeartbeats 4000000 in
set_option maxRecDepth 100000 in
theorem u_H_age_0 {x : Cx} (hx : X_H_age x) {P : Int → Mem → Prop} {Λ : Lam} {σ : Mem} {c : Nat → Nat} {a1 : Int} (hL : LayC Λ c) (T : K_H_isRoot (xl x) (xD x) Λ σ a1 (fun z1 σa1 => rng z1 ∧ ((¬ z1 = 0 → 0 ≤ a1 ∧ a1 < (6 : Int) ∧ ((σa1.2.2 100 (c 1) a1.toNat = none → P (-3) σa1) ∧ (∀ t5, σa1.2.2 100 (c 1) a1.toNat = some t5 → isT Λ t5 ∧ K_T_isYoung (xl x) (xD x) Λ σa1 t5 (fun z8 σa8 => rng z8 ∧ ((z8 = 0 → P (-1) σa8) ∧ (¬ z8 = 0 → P (σa8.1 202 t5) σa8)))))) ∧ (z1 = 0 → P (-2) σa1)))) : N_H_age_0 x P Λ σ c a1 := by
  obtain ⟨hex, hb, hml, hown, hts, hr, hlk, hR, hnm, hAs, hNW⟩ := hx
  obtain ⟨hLH, ⟨cA1, hLA1⟩, ⟨hLR2, cA3, hLA3⟩, hLO, ⟨cA5, hLA5⟩, ⟨hLR6, cA7, hLA7⟩⟩ := hL
  refine ⟨(), fun hK hA ls H locs hl hP hS => ?_⟩
  refine lv_iload_n hex hb d_H_age_0 rfl (lv_at hl 1 rfl) ?_
  refine r_call (va_runS (As := [.int (iI a1)]) (rest := []) ⟨hex, hb, hml, hown, hts⟩ (Ct.use T H.size) (cwS 1 hts (gdS bg_74 bg_75 bg_1 bc_H_isRoot) rfl rfl rfl hdV_H_isRoot ⟨by rw [hR]; exact Nat.le_of_ble_eq_true rfl, by rw [hR]; exact Nat.le_of_ble_eq_true rfl⟩) (px_preS hNW hK hP) rfl rfl hl.1 rfl (lv_room (Nat.le_of_ble_eq_true rfl)) d_H_age_1 ⟨by rw [hR]; exact Nat.le_of_ble_eq_true rfl, by rw [hR]; exact Nat.le_of_ble_eq_true rfl⟩) hS hA hAs (fun v Λ1 σ1 H locs hp hP hK hA hS => ?_)
  obtain ⟨z1, rfl, rfl, T⟩ := hp
  generalize σ1 = σa1 at hP T
  refine W.eq (g2 := F0 (xm x) 4 ls [.int (iI z1)]) rfl ?_
  obtain ⟨h2, T⟩ := T
  obtain ⟨T1, T2⟩ := T
  refine r_if_ne (a := z1) (tgt := 10) hex hb h2 d_H_age_4 rfl (fun hc => ?_) (fun hc => ?_)
  · have T := T1 hc
    refine lv_aload_n hex hb d_H_age_10 rfl (lv_at hl 0 rfl) ?_
    refine r_getR (ci := 3) (C := R_H) (T := F_H) (N := 8) hex hb hts (fun w h => List.mem_cons_of_mem _ (in_H w h)) hown hK hP hLH rfl 0 (by decide) (hts _ (List.mem_cons_of_mem _ bg_45)) (fun _ h9 => h9) rfl d_H_age_11 ?_
    refine lv_iload_n hex hb d_H_age_14 rfl (lv_at hl 1 rfl) ?_
    obtain ⟨h3, T⟩ := T
    obtain ⟨h4, T⟩ := T
    refine r_aald hex hb hK hP hLA1 (by decide) (by decide) h3 h4 d_H_age_15 ?_
    refine r_astore_n (o := σa1.2.2 100 (c 1) a1.toNat) (lv' := [(2, va_rf (σa1.2.2 100 (c 1) a1.toNat)), (0, .ref (c 0)), (1, .int (iI a1))]) hex hb d_H_age_16 rfl hl (Nat.le_of_ble_eq_true rfl) rfl (fun ls hl => ?_)
    refine r_aload_n (o := σa1.2.2 100 (c 1) a1.toNat) hex hb d_H_age_17 rfl (lv_at hl 0 rfl) ?_
    obtain ⟨Tn, Ts⟩ := T
    refine r_ifnonnull (o := σa1.2.2 100 (c 1) a1.toNat) (tgt := 24) hex hb d_H_age_18 rfl (fun hn => ?_) (fun t5 ht6 => ?_)
    · have T := Tn hn
      have hl : lv_has ls 3 [(2, va_rf none), (0, .ref (c 0)), (1, .int (iI a1))] := by have h9 := hl; rw [hn] at h9; exact h9
      refine lv_bipush (v := iI (-3)) hex hb d_H_age_21 rfl ?_
      exact r_iret hex hb hr hlk hK hA hP hS ⟨_, rfl, rfl, T⟩ (Nat.zero_le _) (Nat.zero_le _) d_H_age_23
    · have T := Ts t5 ht6
      have hl : lv_has ls 3 [(2, .ref t5), (0, .ref (c 0)), (1, .int (iI a1))] := by have h9 := hl; rw [ht6] at h9; exact h9
      refine lv_aload_n hex hb d_H_age_24 rfl (lv_at hl 0 rfl) ?_
      obtain ⟨⟨hT7, ⟨cT7, hF7⟩, hn7⟩, T⟩ := T
      refine r_call (va_runV (As := []) (rest := []) ⟨hex, hb, hml, hown, hts⟩ (Ct.use T H.size) (cwV 0 hts (gdV bg_97 bg_98 bg_99 bg_6 bc_T_isYoung) rfl rfl rfl hdV_T_isYoung ⟨by rw [hR]; exact Nat.le_of_ble_eq_true rfl, by rw [hR]; exact Nat.le_of_ble_eq_true rfl⟩) (px_preV (ci := 2) hNW hK hP hT7 rfl) rfl rfl hl.1 rfl (lv_room (Nat.le_of_ble_eq_true rfl)) d_H_age_25 ⟨by rw [hR]; exact Nat.le_of_ble_eq_true rfl, by rw [hR]; exact Nat.le_of_ble_eq_true rfl⟩) hS hA hAs (fun v Λ1 σ1 H locs hp hP hK hA hS => ?_)
      obtain ⟨z8, rfl, rfl, T⟩ := hp
      generalize σ1 = σa8 at hP T
      refine W.eq (g2 := F0 (xm x) 28 ls [.int (iI z8)]) rfl ?_
      obtain ⟨h9, T⟩ := T
      obtain ⟨T1, T2⟩ := T
      refine r_if_eq (a := z8) (tgt := 38) hex hb h9 d_H_age_28 rfl (fun hc => ?_) (fun hc => ?_)
      · have T := T1 hc
        refine lv_iconst (v := iI (-1)) hex hb d_H_age_38 rfl ?_
        exact r_iret hex hb hr hlk hK hA hP hS ⟨_, rfl, rfl, T⟩ (Nat.zero_le _) (Nat.zero_le _) d_H_age_39
      · have T := T2 hc
        refine lv_aload_n hex hb d_H_age_31 rfl (lv_at hl 0 rfl) ?_
        refine r_getI (ci := 2) (C := R_T) (T := F_T) (N := 7) hex hb hts (fun w h => List.mem_cons_of_mem _ (in_T w h)) hown hK hP hT7 rfl 2 (by decide) (hts _ (List.mem_cons_of_mem _ bg_235)) (fun _ h9 => h9) rfl d_H_age_32 ?_
        refine lv_goto (tgt := 39) hex hb d_H_age_35 rfl ?_
        exact r_iret hex hb hr hlk hK hA hP hS ⟨_, rfl, rfl, T⟩ (Nat.zero_le _) (Nat.zero_le _) d_H_age_39
  · have T := T2 hc
    refine lv_bipush (v := iI (-2)) hex hb d_H_age_7 rfl ?_
    exact r_iret hex hb hr hlk hK hA hP hS ⟨_, rfl, rfl, T⟩ (Nat.zero_le _) (Nat.zero_le _) d_H_age_9
set_option maxRecDepth 100000 in
theorem w_H_age {l : Launch} {D : va_G} {Λ : Lam} {σ : Mem} {c : Nat → Nat} {a1 : Int} {P : Int → Mem → Prop} (hL : LayC Λ c) (T : K_H_isRoot l D Λ σ a1 (fun z1 σa1 => rng z1 ∧ ((¬ z1 = 0 → 0 ≤ a1 ∧ a1 < (6 : Int) ∧ ((σa1.2.2 100 (c 1) a1.toNat = none → P (-3) σa1) ∧ (∀ t5, σa1.2.2 100 (c 1) a1.toNat = some t5 → isT Λ t5 ∧ K_T_isYoung l D Λ σa1 t5 (fun z8 σa8 => rng z8 ∧ ((z8 = 0 → P (-1) σa8) ∧ (¬ z8 = 0 → P (σa8.1 202 t5) σa8)))))) ∧ (z1 = 0 → P (-2) σa1)))) : K_H_age l D Λ σ c a1 P := e_H_age (fun x hl hD hx => by subst hl; subst hD; exact u_H_age_0 hx hL T)
-- DirtyCardHeap.collect(Z)I
def rm_H_collect : Room := { frames := 7, cells := 0, slots := 0, locals := 156 }
abbrev X_H_collect (x : Cx) : Prop := CxOk x b_H_collect 2 wl_H_collect R_H (some .int) rm_H_collect "collect"
abbrev K_H_collect (l : Launch) (D : va_G) (Λ : Lam) (σ : Mem) (c : Nat → Nat) (a1 : Int) (P : Int → Mem → Prop) : Prop := Ct l D y_H_collect wl_H_collect rm_H_collect [.ref (c 0), .int (iI a1)] Λ σ (pI Λ P)
abbrev N_H_collect_0 (x : Cx) (P : Int → Mem → Prop) (Λ : Lam) (σ : Mem) (c : Nat → Nat) (a1 : Int) : Prop := AtG x (pI Λ P) 2 0 0 0 Λ σ [(0, .ref (c 0)), (1, .int (iI a1))] []
theorem e_H_collect {l : Launch} {D : va_G} {Λ : Lam} {σ : Mem} {c : Nat → Nat} {a1 : Int} {P : Int → Mem → Prop} (h : ∀ x : Cx, xl x = l → xD x = D → X_H_collect x → N_H_collect_0 x P Λ σ c a1) : K_H_collect l D Λ σ c a1 P := Ct.of (by decide) rfl (Nat.le_of_ble_eq_true rfl) h
set_option maxHeartbeats 4000000 in
set_option maxRecDepth 100000 in
theorem u_H_collect_0 {x : Cx} (hx : X_H_collect x) {P : Int → Mem → Prop} {Λ : Lam} {σ : Mem} {c : Nat → Nat} {a1 : Int} (hL : LayC Λ c) (T : rng a1 ∧ ((a1 = 0 → K_H_collectYoung (xl x) (xD x) Λ σ c (fun z2 σa2 => P z2 σa2)) ∧ (¬ a1 = 0 → K_H_collectAll (xl x) (xD x) Λ σ c (fun z3 σa3 => P z3 σa3)))) : N_H_collect_0 x P Λ σ c a1 := by
  obtain ⟨hex, hb, hml, hown, hts, hr, hlk, hR, hnm, hAs, hNW⟩ := hx
  obtain ⟨hLH, ⟨cA1, hLA1⟩, ⟨hLR2, cA3, hLA3⟩, hLO, ⟨cA5, hLA5⟩, ⟨hLR6, cA7, hLA7⟩⟩ := hL
  refine ⟨(), fun hK hA ls H locs hl hP hS => ?_⟩
  refine lv_iload_n hex hb d_H_collect_0 rfl (lv_at hl 1 rfl) ?_
  obtain ⟨h1, T⟩ := T
  obtain ⟨T1, T2⟩ := T
  refine r_if_eq (a := a1) (tgt := 11) hex hb h1 d_H_collect_1 rfl (fun hc => ?_) (fun hc => ?_)
  · have T := T1 hc
    refine lv_aload_n hex hb d_H_collect_11 rfl (lv_at hl 0 rfl) ?_
    refine r_call (va_runV (As := []) (rest := []) ⟨hex, hb, hml, hown, hts⟩ (Ct.use T H.size) (cwV 0 hts (gdV bg_89 bg_91 bp_1 bg_1 bc_H_collectYoung) rfl rfl rfl hdV_H_collectYoung ⟨by rw [hR]; exact Nat.le_of_ble_eq_true rfl, by rw [hR]; exact Nat.le_of_ble_eq_true rfl⟩) (px_preV (ci := 3) hNW hK hP hLH rfl) rfl rfl hl.1 rfl (lv_room (Nat.le_of_ble_eq_true rfl)) d_H_collect_12 ⟨by rw [hR]; exact Nat.le_of_ble_eq_true rfl, by rw [hR]; exact Nat.le_of_ble_eq_true rfl⟩) hS hA hAs (fun v Λ1 σ1 H locs hp hP hK hA hS => ?_)
    obtain ⟨z2, rfl, rfl, T⟩ := hp
    generalize σ1 = σa2 at hP T
    refine W.eq (g2 := F0 (xm x) 15 ls [.int (iI z2)]) rfl ?_
    exact r_iret hex hb hr hlk hK hA hP hS ⟨_, rfl, rfl, T⟩ (Nat.zero_le _) (Nat.zero_le _) d_H_collect_15
  · have T := T2 hc
    refine lv_aload_n hex hb d_H_collect_4 rfl (lv_at hl 0 rfl) ?_
    refine r_call (va_runV (As := []) (rest := []) ⟨hex, hb, hml, hown, hts⟩ (Ct.use T H.size) (cwV 0 hts (gdV bg_189 bg_191 bp_10 bg_1 bc_H_collectAll) rfl rfl rfl hdV_H_collectAll ⟨by rw [hR]; exact Nat.le_of_ble_eq_true rfl, by rw [hR]; exact Nat.le_of_ble_eq_true rfl⟩) (px_preV (ci := 3) hNW hK hP hLH rfl) rfl rfl hl.1 rfl (lv_room (Nat.le_of_ble_eq_true rfl)) d_H_collect_5 ⟨by rw [hR]; exact Nat.le_of_ble_eq_true rfl, by rw [hR]; exact Nat.le_of_ble_eq_true rfl⟩) hS hA hAs (fun v Λ1 σ1 H locs hp hP hK hA hS => ?_)
    obtain ⟨z3, rfl, rfl, T⟩ := hp
    generalize σ1 = σa3 at hP T
    refine W.eq (g2 := F0 (xm x) 8 ls [.int (iI z3)]) rfl ?_
    refine lv_goto (tgt := 15) hex hb d_H_collect_8 rfl ?_
    exact r_iret hex hb hr hlk hK hA hP hS ⟨_, rfl, rfl, T⟩ (Nat.zero_le _) (Nat.zero_le _) d_H_collect_15
set_option maxRecDepth 100000 in
theorem w_H_collect {l : Launch} {D : va_G} {Λ : Lam} {σ : Mem} {c : Nat → Nat} {a1 : Int} {P : Int → Mem → Prop} (hL : LayC Λ c) (T : rng a1 ∧ ((a1 = 0 → K_H_collectYoung l D Λ σ c (fun z2 σa2 => P z2 σa2)) ∧ (¬ a1 = 0 → K_H_collectAll l D Λ σ c (fun z3 σa3 => P z3 σa3)))) : K_H_collect l D Λ σ c a1 P := e_H_collect (fun x hl hD hx => by subst hl; subst hD; exact u_H_collect_0 hx hL T)
-- DirtyCardHeap.begin()I
def rm_H_begin : Room := { frames := 3, cells := 0, slots := 0, locals := 62 }
abbrev X_H_begin (x : Cx) : Prop := CxOk x b_H_begin 1 wl_H_begin R_H (some .int) rm_H_begin "begin"
abbrev K_H_begin (l : Launch) (D : va_G) (Λ : Lam) (σ : Mem) (c : Nat → Nat) (P : Int → Mem → Prop) : Prop := Ct l D y_H_begin wl_H_begin rm_H_begin [.ref (c 0)] Λ σ (pI Λ P)
abbrev N_H_begin_0 (x : Cx) (P : Int → Mem → Prop) (Λ : Lam) (σ : Mem) (c : Nat → Nat) : Prop := AtG x (pI Λ P) 1 0 0 0 Λ σ [(0, .ref (c 0))] []
theorem e_H_begin {l : Launch} {D : va_G} {Λ : Lam} {σ : Mem} {c : Nat → Nat} {P : Int → Mem → Prop} (h : ∀ x : Cx, xl x = l → xD x = D → X_H_begin x → N_H_begin_0 x P Λ σ c) : K_H_begin l D Λ σ c P := Ct.of (by decide) rfl (Nat.le_of_ble_eq_true rfl) h
set_option maxHeartbeats 4000000 in
set_option maxRecDepth 100000 in
theorem u_H_begin_0 {x : Cx} (hx : X_H_begin x) {P : Int → Mem → Prop} {Λ : Lam} {σ : Mem} {c : Nat → Nat} (hL : LayC Λ c) (T : rng (σ.1 306 (c 0)) ∧ (((σ.1 306 (c 0)) = 0 → K_H_shadeFromRoots (xl x) (xD x) Λ (upI (upI σ 306 (c 0) 1) 305 (c 0) 0) c (fun z2 σa2 => P z2 σa2)) ∧ (¬ (σ.1 306 (c 0)) = 0 → P (-6) σ))) : N_H_begin_0 x P Λ σ c := by
  obtain ⟨hex, hb, hml, hown, hts, hr, hlk, hR, hnm, hAs, hNW⟩ := hx
  obtain ⟨hLH, ⟨cA1, hLA1⟩, ⟨hLR2, cA3, hLA3⟩, hLO, ⟨cA5, hLA5⟩, ⟨hLR6, cA7, hLA7⟩⟩ := hL
  refine ⟨(), fun hK hA ls H locs hl hP hS => ?_⟩
  refine lv_aload_n hex hb d_H_begin_0 rfl (lv_at hl 0 rfl) ?_
  refine r_getI (ci := 3) (C := R_H) (T := F_H) (N := 8) hex hb hts (fun w h => List.mem_cons_of_mem _ (in_H w h)) hown hK hP hLH rfl 6 (by decide) (hts _ (List.mem_cons_of_mem _ bg_51)) (fun _ h9 => h9) rfl d_H_begin_1 ?_
  obtain ⟨h1, T⟩ := T
  obtain ⟨T1, T2⟩ := T
  refine r_if_eq (a := σ.1 306 (c 0)) (tgt := 10) hex hb h1 d_H_begin_4 rfl (fun hc => ?_) (fun hc => ?_)
  · have T := T1 hc
    refine lv_aload_n hex hb d_H_begin_10 rfl (lv_at hl 0 rfl) ?_
    refine lv_iconst (v := iI 1) hex hb d_H_begin_11 rfl ?_
    refine r_putI (ci := 3) (C := R_H) (T := F_H) (N := 8) (v := 1) (ty := .int) hex hb hts (fun w h => List.mem_cons_of_mem _ (in_H w h)) tq_H tq_H_ok n_H hown hK hP hA hS hLH rfl 6 (by decide) (hts _ (List.mem_cons_of_mem _ bg_51)) (fun _ h9 => h9) rfl (by decide +kernel) rfl rfl rfl d_H_begin_12 (fun H locs hP hS => ?_)
    refine lv_aload_n hex hb d_H_begin_15 rfl (lv_at hl 0 rfl) ?_
    refine lv_iconst (v := iI 0) hex hb d_H_begin_16 rfl ?_
    refine r_putI (ci := 3) (C := R_H) (T := F_H) (N := 8) (v := 0) (ty := .int) hex hb hts (fun w h => List.mem_cons_of_mem _ (in_H w h)) tq_H tq_H_ok n_H hown hK hP hA hS hLH rfl 5 (by decide) (hts _ (List.mem_cons_of_mem _ bg_50)) (fun _ h9 => h9) rfl (by decide +kernel) rfl rfl rfl d_H_begin_17 (fun H locs hP hS => ?_)
    refine lv_aload_n hex hb d_H_begin_20 rfl (lv_at hl 0 rfl) ?_
    refine r_call (va_runV (As := []) (rest := []) ⟨hex, hb, hml, hown, hts⟩ (Ct.use T H.size) (cwV 0 hts (gdV bg_310 bg_312 bp_15 bg_1 bc_H_shadeFromRoots) rfl rfl rfl hdV_H_shadeFromRoots ⟨by rw [hR]; exact Nat.le_of_ble_eq_true rfl, by rw [hR]; exact Nat.le_of_ble_eq_true rfl⟩) (px_preV (ci := 3) hNW hK hP hLH rfl) rfl rfl hl.1 rfl (lv_room (Nat.le_of_ble_eq_true rfl)) d_H_begin_21 ⟨by rw [hR]; exact Nat.le_of_ble_eq_true rfl, by rw [hR]; exact Nat.le_of_ble_eq_true rfl⟩) hS hA hAs (fun v Λ1 σ1 H locs hp hP hK hA hS => ?_)
    obtain ⟨z2, rfl, rfl, T⟩ := hp
    generalize σ1 = σa2 at hP T
    refine W.eq (g2 := F0 (xm x) 24 ls [.int (iI z2)]) rfl ?_
    exact r_iret hex hb hr hlk hK hA hP hS ⟨_, rfl, rfl, T⟩ (Nat.zero_le _) (Nat.zero_le _) d_H_begin_24
  · have T := T2 hc
    refine lv_bipush (v := iI (-6)) hex hb d_H_begin_7 rfl ?_
    exact r_iret hex hb hr hlk hK hA hP hS ⟨_, rfl, rfl, T⟩ (Nat.zero_le _) (Nat.zero_le _) d_H_begin_9
set_option maxRecDepth 100000 in
theorem w_H_begin {l : Launch} {D : va_G} {Λ : Lam} {σ : Mem} {c : Nat → Nat} {P : Int → Mem → Prop} (hL : LayC Λ c) (T : rng (σ.1 306 (c 0)) ∧ (((σ.1 306 (c 0)) = 0 → K_H_shadeFromRoots l D Λ (upI (upI σ 306 (c 0) 1) 305 (c 0) 0) c (fun z2 σa2 => P z2 σa2)) ∧ (¬ (σ.1 306 (c 0)) = 0 → P (-6) σ))) : K_H_begin l D Λ σ c P := e_H_begin (fun x hl hD hx => by subst hl; subst hD; exact u_H_begin_0 hx hL T)
-- DirtyCardHeap.mark()I
def rm_H_mark : Room := { frames := 4, cells := 0, slots := 0, locals := 82 }
abbrev X_H_mark (x : Cx) : Prop := CxOk x b_H_mark 2 wl_H_mark R_H (some .int) rm_H_mark "mark"
abbrev K_H_mark (l : Launch) (D : va_G) (Λ : Lam) (σ : Mem) (c : Nat → Nat) (P : Int → Mem → Prop) : Prop := Ct l D y_H_mark wl_H_mark rm_H_mark [.ref (c 0)] Λ σ (pI Λ P)
abbrev N_H_mark_0 (x : Cx) (P : Int → Mem → Prop) (Λ : Lam) (σ : Mem) (c : Nat → Nat) : Prop := AtG x (pI Λ P) 2 0 0 0 Λ σ [(0, .ref (c 0))] []
theorem e_H_mark {l : Launch} {D : va_G} {Λ : Lam} {σ : Mem} {c : Nat → Nat} {P : Int → Mem → Prop} (h : ∀ x : Cx, xl x = l → xD x = D → X_H_mark x → N_H_mark_0 x P Λ σ c) : K_H_mark l D Λ σ c P := Ct.of (by decide) rfl (Nat.le_of_ble_eq_true rfl) h
set_option maxHeartbeats 4000000 in
set_option maxRecDepth 100000 in
theorem u_H_mark_0 {x : Cx} (hx : X_H_mark x) {P : Int → Mem → Prop} {Λ : Lam} {σ : Mem} {c : Nat → Nat} (hL : LayC Λ c) (T : rng (σ.1 306 (c 0)) ∧ (((σ.1 306 (c 0)) = 1 → K_O_firstGrey (xl x) (xD x) Λ σ c (fun o2r σa2 => ((o2r = none → P (-1) σa2) ∧ (∀ t3, o2r = some t3 → K_H_scan (xl x) (xD x) Λ σa2 (some t3) (fun z5 σa5 => isT Λ t3 ∧ P (σa5.1 203 t3) σa5))))) ∧ (¬ (σ.1 306 (c 0)) = 1 → P (-6) σ))) : N_H_mark_0 x P Λ σ c := by
  obtain ⟨hex, hb, hml, hown, hts, hr, hlk, hR, hnm, hAs, hNW⟩ := hx
  obtain ⟨hLH, ⟨cA1, hLA1⟩, ⟨hLR2, cA3, hLA3⟩, hLO, ⟨cA5, hLA5⟩, ⟨hLR6, cA7, hLA7⟩⟩ := hL
  refine ⟨(), fun hK hA ls H locs hl hP hS => ?_⟩
  refine lv_aload_n hex hb d_H_mark_0 rfl (lv_at hl 0 rfl) ?_
  refine r_getI (ci := 3) (C := R_H) (T := F_H) (N := 8) hex hb hts (fun w h => List.mem_cons_of_mem _ (in_H w h)) hown hK hP hLH rfl 6 (by decide) (hts _ (List.mem_cons_of_mem _ bg_51)) (fun _ h9 => h9) rfl d_H_mark_1 ?_
  refine lv_iconst (v := iI 1) hex hb d_H_mark_4 rfl ?_
  obtain ⟨h1, T⟩ := T
  obtain ⟨T1, T2⟩ := T
  refine r_icmp_eq (a := σ.1 306 (c 0)) (b := 1) (tgt := 11) hex hb h1 ⟨by omega, by omega⟩ d_H_mark_5 rfl (fun hc => ?_) (fun hc => ?_)
  · have T := T1 hc
    refine lv_aload_n hex hb d_H_mark_11 rfl (lv_at hl 0 rfl) ?_
    refine r_getR (ci := 3) (C := R_H) (T := F_H) (N := 8) hex hb hts (fun w h => List.mem_cons_of_mem _ (in_H w h)) hown hK hP hLH rfl 2 (by decide) (hts _ (List.mem_cons_of_mem _ bg_47)) (fun _ h9 => h9) rfl d_H_mark_12 ?_
    refine r_call (va_runV (As := []) (rest := []) ⟨hex, hb, hml, hown, hts⟩ (Ct.use T H.size) (cwV 0 hts (gdV bg_321 bg_322 bg_323 bg_3 bc_O_firstGrey) rfl rfl rfl hdV_O_firstGrey ⟨by rw [hR]; exact Nat.le_of_ble_eq_true rfl, by rw [hR]; exact Nat.le_of_ble_eq_true rfl⟩) (px_preV (ci := 0) hNW hK hP hLO rfl) rfl rfl hl.1 rfl (lv_room (Nat.le_of_ble_eq_true rfl)) d_H_mark_15 ⟨by rw [hR]; exact Nat.le_of_ble_eq_true rfl, by rw [hR]; exact Nat.le_of_ble_eq_true rfl⟩) hS hA hAs (fun v Λ1 σ1 H locs hp hP hK hA hS => ?_)
    obtain ⟨o2r, rfl, rfl, T⟩ := hp
    generalize σ1 = σa2 at hP T
    refine W.eq (g2 := F0 (xm x) 18 ls [va_rf o2r]) rfl ?_
    refine r_astore_n (o := o2r) (lv' := [(1, va_rf o2r), (0, .ref (c 0))]) hex hb d_H_mark_18 rfl hl (Nat.le_of_ble_eq_true rfl) rfl (fun ls hl => ?_)
    refine r_aload_n (o := o2r) hex hb d_H_mark_19 rfl (lv_at hl 0 rfl) ?_
    obtain ⟨Tn, Ts⟩ := T
    refine r_ifnonnull (o := o2r) (tgt := 25) hex hb d_H_mark_20 rfl (fun hn => ?_) (fun t3 ht4 => ?_)
    · have T := Tn hn
      have hl : lv_has ls 2 [(1, va_rf none), (0, .ref (c 0))] := by have h9 := hl; rw [hn] at h9; exact h9
      refine lv_iconst (v := iI (-1)) hex hb d_H_mark_23 rfl ?_
      exact r_iret hex hb hr hlk hK hA hP hS ⟨_, rfl, rfl, T⟩ (Nat.zero_le _) (Nat.zero_le _) d_H_mark_24
    · have T := Ts t3 ht4
      have hl : lv_has ls 2 [(1, .ref t3), (0, .ref (c 0))] := by have h9 := hl; rw [ht4] at h9; exact h9
      refine lv_aload_n hex hb d_H_mark_25 rfl (lv_at hl 0 rfl) ?_
      refine r_call (va_runS (As := [.ref t3]) (rest := []) ⟨hex, hb, hml, hown, hts⟩ (Ct.use T H.size) (cwS 1 hts (gdS bg_325 bg_326 bg_1 bc_H_scan) rfl rfl rfl hdV_H_scan ⟨by rw [hR]; exact Nat.le_of_ble_eq_true rfl, by rw [hR]; exact Nat.le_of_ble_eq_true rfl⟩) (px_preS hNW hK hP) rfl rfl hl.1 rfl (lv_room (Nat.le_of_ble_eq_true rfl)) d_H_mark_26 ⟨by rw [hR]; exact Nat.le_of_ble_eq_true rfl, by rw [hR]; exact Nat.le_of_ble_eq_true rfl⟩) hS hA hAs (fun v Λ1 σ1 H locs hp hP hK hA hS => ?_)
      obtain ⟨z5, rfl, rfl, T⟩ := hp
      generalize σ1 = σa5 at hP T
      refine W.eq (g2 := F0 (xm x) 29 ls [.int (iI z5)]) rfl ?_
      refine lv_pop hex hb d_H_mark_29 rfl ?_
      refine lv_aload_n hex hb d_H_mark_30 rfl (lv_at hl 0 rfl) ?_
      obtain ⟨⟨hT6, ⟨cT6, hF6⟩, hn6⟩, T⟩ := T
      refine r_getI (ci := 2) (C := R_T) (T := F_T) (N := 7) hex hb hts (fun w h => List.mem_cons_of_mem _ (in_T w h)) hown hK hP hT6 rfl 3 (by decide) (hts _ (List.mem_cons_of_mem _ bg_238)) (fun _ h9 => h9) rfl d_H_mark_31 ?_
      exact r_iret hex hb hr hlk hK hA hP hS ⟨_, rfl, rfl, T⟩ (Nat.zero_le _) (Nat.zero_le _) d_H_mark_34
  · have T := T2 hc
    refine lv_bipush (v := iI (-6)) hex hb d_H_mark_8 rfl ?_
    exact r_iret hex hb hr hlk hK hA hP hS ⟨_, rfl, rfl, T⟩ (Nat.zero_le _) (Nat.zero_le _) d_H_mark_10
set_option maxRecDepth 100000 in
theorem w_H_mark {l : Launch} {D : va_G} {Λ : Lam} {σ : Mem} {c : Nat → Nat} {P : Int → Mem → Prop} (hL : LayC Λ c) (T : rng (σ.1 306 (c 0)) ∧ (((σ.1 306 (c 0)) = 1 → K_O_firstGrey l D Λ σ c (fun o2r σa2 => ((o2r = none → P (-1) σa2) ∧ (∀ t3, o2r = some t3 → K_H_scan l D Λ σa2 (some t3) (fun z5 σa5 => isT Λ t3 ∧ P (σa5.1 203 t3) σa5))))) ∧ (¬ (σ.1 306 (c 0)) = 1 → P (-6) σ))) : K_H_mark l D Λ σ c P := e_H_mark (fun x hl hD hx => by subst hl; subst hD; exact u_H_mark_0 hx hL T)
-- DirtyCardHeap.preclean()I
def rm_H_preclean : Room := { frames := 2, cells := 0, slots := 0, locals := 43 }
abbrev X_H_preclean (x : Cx) : Prop := CxOk x b_H_preclean 3 wl_H_preclean R_H (some .int) rm_H_preclean "preclean"
abbrev K_H_preclean (l : Launch) (D : va_G) (Λ : Lam) (σ : Mem) (c : Nat → Nat) (P : Int → Mem → Prop) : Prop := Ct l D y_H_preclean wl_H_preclean rm_H_preclean [.ref (c 0)] Λ σ (pI Λ P)
abbrev N_H_preclean_0 (x : Cx) (P : Int → Mem → Prop) (Λ : Lam) (σ : Mem) (c : Nat → Nat) : Prop := AtG x (pI Λ P) 3 0 0 0 Λ σ [(0, .ref (c 0))] []
abbrev N_H_preclean_13 (x : Cx) (P : Int → Mem → Prop) (Λ : Lam) (σ : Mem) (c : Nat → Nat) (i1 : Int) : Prop := AtG x (pI Λ P) 3 13 0 0 Λ σ [(0, .ref (c 0)), (1, .int (iI i1))] []
theorem e_H_preclean {l : Launch} {D : va_G} {Λ : Lam} {σ : Mem} {c : Nat → Nat} {P : Int → Mem → Prop} (h : ∀ x : Cx, xl x = l → xD x = D → X_H_preclean x → N_H_preclean_0 x P Λ σ c) : K_H_preclean l D Λ σ c P := Ct.of (by decide) rfl (Nat.le_of_ble_eq_true rfl) h
set_option maxHeartbeats 4000000 in
set_option maxRecDepth 100000 in
theorem u_H_preclean_0 {x : Cx} (hx : X_H_preclean x) {P : Int → Mem → Prop} {Λ : Lam} {σ : Mem} {c : Nat → Nat} (hL : LayC Λ c) (T : rng (σ.1 306 (c 0)) ∧ (((σ.1 306 (c 0)) = 1 → N_H_preclean_13 x P Λ σ c 0) ∧ (¬ (σ.1 306 (c 0)) = 1 → P (-6) σ))) : N_H_preclean_0 x P Λ σ c := by
  obtain ⟨hex, hb, hml, hown, hts, hr, hlk, hR, hnm, hAs, hNW⟩ := hx
  obtain ⟨hLH, ⟨cA1, hLA1⟩, ⟨hLR2, cA3, hLA3⟩, hLO, ⟨cA5, hLA5⟩, ⟨hLR6, cA7, hLA7⟩⟩ := hL
  refine ⟨(), fun hK hA ls H locs hl hP hS => ?_⟩
  refine lv_aload_n hex hb d_H_preclean_0 rfl (lv_at hl 0 rfl) ?_
  refine r_getI (ci := 3) (C := R_H) (T := F_H) (N := 8) hex hb hts (fun w h => List.mem_cons_of_mem _ (in_H w h)) hown hK hP hLH rfl 6 (by decide) (hts _ (List.mem_cons_of_mem _ bg_51)) (fun _ h9 => h9) rfl d_H_preclean_1 ?_
  refine lv_iconst (v := iI 1) hex hb d_H_preclean_4 rfl ?_
  obtain ⟨h1, T⟩ := T
  obtain ⟨T1, T2⟩ := T
  refine r_icmp_eq (a := σ.1 306 (c 0)) (b := 1) (tgt := 11) hex hb h1 ⟨by omega, by omega⟩ d_H_preclean_5 rfl (fun hc => ?_) (fun hc => ?_)
  · have T := T1 hc
    refine lv_iconst (v := iI 0) hex hb d_H_preclean_11 rfl ?_
    refine lv_istore_n (lv' := [(1, .int (iI 0)), (0, .ref (c 0))]) hex hb d_H_preclean_12 rfl hl (Nat.le_of_ble_eq_true rfl) rfl (fun ls hl => ?_)
    exact AtG.use T hK hA _ _ _ (lv_sub hl [1, 0] rfl) hP hS
  · have T := T2 hc
    refine lv_bipush (v := iI (-6)) hex hb d_H_preclean_8 rfl ?_
    exact r_iret hex hb hr hlk hK hA hP hS ⟨_, rfl, rfl, T⟩ (Nat.zero_le _) (Nat.zero_le _) d_H_preclean_10
set_option maxHeartbeats 4000000 in
set_option maxRecDepth 100000 in
theorem u_H_preclean_13 {x : Cx} (hx : X_H_preclean x) {P : Int → Mem → Prop} {Λ : Lam} {σ : Mem} {c : Nat → Nat} {i1 : Int} (hL : LayC Λ c) (T : rng i1 ∧ ((8 ≤ i1 → P (-1) σ) ∧ (¬ 8 ≤ i1 → (((iAnd (σ.1 305 (c 0)) (iShl 1 i1)) = 0 → N_H_preclean_13 x P Λ σ c (i1 + 1)) ∧ (¬ (iAnd (σ.1 305 (c 0)) (iShl 1 i1)) = 0 → K_O_greyMarkedOn (xl x) (xD x) Λ (upI σ 305 (c 0) (iAnd (σ.1 305 (c 0)) (iXor (iShl 1 i1) (-1)))) c (iShl 1 i1) (fun σa2 => P i1 σa2)))))) : N_H_preclean_13 x P Λ σ c i1 := by
  obtain ⟨hex, hb, hml, hown, hts, hr, hlk, hR, hnm, hAs, hNW⟩ := hx
  obtain ⟨hLH, ⟨cA1, hLA1⟩, ⟨hLR2, cA3, hLA3⟩, hLO, ⟨cA5, hLA5⟩, ⟨hLR6, cA7, hLA7⟩⟩ := hL
  refine ⟨(), fun hK hA ls H locs hl hP hS => ?_⟩
  refine lv_iload_n hex hb d_H_preclean_13 rfl (lv_at hl 1 rfl) ?_
  refine lv_bipush (v := iI 8) hex hb d_H_preclean_14 rfl ?_
  obtain ⟨h1, T⟩ := T
  obtain ⟨T1, T2⟩ := T
  refine r_icmp_ge (a := i1) (b := 8) (tgt := 60) hex hb h1 ⟨by omega, by omega⟩ d_H_preclean_16 rfl (fun hc => ?_) (fun hc => ?_)
  · have T := T1 hc
    refine lv_iconst (v := iI (-1)) hex hb d_H_preclean_60 rfl ?_
    exact r_iret hex hb hr hlk hK hA hP hS ⟨_, rfl, rfl, T⟩ (Nat.zero_le _) (Nat.zero_le _) d_H_preclean_61
  · have T := T2 hc
    refine lv_iconst (v := iI 1) hex hb d_H_preclean_19 rfl ?_
    refine lv_iload_n hex hb d_H_preclean_20 rfl (lv_at hl 1 rfl) ?_
    refine r_ishl hex hb d_H_preclean_21 ?_
    refine lv_istore_n (lv' := [(2, .int (iI (iShl 1 i1))), (0, .ref (c 0)), (1, .int (iI i1))]) hex hb d_H_preclean_22 rfl hl (Nat.le_of_ble_eq_true rfl) rfl (fun ls hl => ?_)
    refine lv_aload_n hex hb d_H_preclean_23 rfl (lv_at hl 1 rfl) ?_
    refine r_getI (ci := 3) (C := R_H) (T := F_H) (N := 8) hex hb hts (fun w h => List.mem_cons_of_mem _ (in_H w h)) hown hK hP hLH rfl 5 (by decide) (hts _ (List.mem_cons_of_mem _ bg_50)) (fun _ h9 => h9) rfl d_H_preclean_24 ?_
    refine lv_iload_n hex hb d_H_preclean_27 rfl (lv_at hl 0 rfl) ?_
    refine r_iand hex hb d_H_preclean_28 ?_
    obtain ⟨T1, T2⟩ := T
    refine r_if_eq (a := iAnd (σ.1 305 (c 0)) (iShl 1 i1)) (tgt := 54) hex hb (rng_and _ _) d_H_preclean_29 rfl (fun hc => ?_) (fun hc => ?_)
    · have T := T1 hc
      refine lv_iinc (v := iI (i1 + 1)) (lv' := [(1, .int (iI (i1 + 1))), (2, .int (iI (iShl 1 i1))), (0, .ref (c 0))]) hex hb d_H_preclean_54 hl (k := 2) rfl (iI_add _ _) (Nat.le_of_ble_eq_true rfl) rfl (fun ls hl => ?_)
      refine lv_goto (tgt := 13) hex hb d_H_preclean_57 rfl ?_
      exact AtG.use T hK hA _ _ _ (lv_sub hl [2, 0] rfl) hP hS
    · have T := T2 hc
      refine lv_aload_n hex hb d_H_preclean_32 rfl (lv_at hl 1 rfl) ?_
      refine lv_dup hex hb d_H_preclean_33 rfl ?_
      refine r_getI (ci := 3) (C := R_H) (T := F_H) (N := 8) hex hb hts (fun w h => List.mem_cons_of_mem _ (in_H w h)) hown hK hP hLH rfl 5 (by decide) (hts _ (List.mem_cons_of_mem _ bg_50)) (fun _ h9 => h9) rfl d_H_preclean_34 ?_
      refine lv_iload_n hex hb d_H_preclean_37 rfl (lv_at hl 0 rfl) ?_
      refine lv_iconst (v := iI (-1)) hex hb d_H_preclean_38 rfl ?_
      refine r_ixor hex hb d_H_preclean_39 ?_
      refine r_iand hex hb d_H_preclean_40 ?_
      refine r_putI (ci := 3) (C := R_H) (T := F_H) (N := 8) (v := iAnd (σ.1 305 (c 0)) (iXor (iShl 1 i1) (-1))) (ty := .int) hex hb hts (fun w h => List.mem_cons_of_mem _ (in_H w h)) tq_H tq_H_ok n_H hown hK hP hA hS hLH rfl 5 (by decide) (hts _ (List.mem_cons_of_mem _ bg_50)) (fun _ h9 => h9) rfl (by decide +kernel) rfl rfl rfl d_H_preclean_41 (fun H locs hP hS => ?_)
      refine lv_aload_n hex hb d_H_preclean_44 rfl (lv_at hl 1 rfl) ?_
      refine r_getR (ci := 3) (C := R_H) (T := F_H) (N := 8) hex hb hts (fun w h => List.mem_cons_of_mem _ (in_H w h)) hown hK hP hLH rfl 2 (by decide) (hts _ (List.mem_cons_of_mem _ bg_47)) (fun _ h9 => h9) rfl d_H_preclean_45 ?_
      refine lv_iload_n hex hb d_H_preclean_48 rfl (lv_at hl 0 rfl) ?_
      refine r_call (va_runV (As := [.int (iI (iShl 1 i1))]) (rest := []) ⟨hex, hb, hml, hown, hts⟩ (Ct.use T H.size) (cwV 1 hts (gdV bg_335 bg_336 bg_337 bg_3 bc_O_greyMarkedOn) rfl rfl rfl hdV_O_greyMarkedOn ⟨by rw [hR]; exact Nat.le_of_ble_eq_true rfl, by rw [hR]; exact Nat.le_of_ble_eq_true rfl⟩) (px_preV (ci := 0) hNW hK hP hLO rfl) rfl rfl hl.1 rfl (lv_room (Nat.le_of_ble_eq_true rfl)) d_H_preclean_49 ⟨by rw [hR]; exact Nat.le_of_ble_eq_true rfl, by rw [hR]; exact Nat.le_of_ble_eq_true rfl⟩) hS hA hAs (fun v Λ1 σ1 H locs hp hP hK hA hS => ?_)
      obtain ⟨rfl, rfl, T⟩ := hp
      generalize σ1 = σa2 at hP T
      refine W.eq (g2 := F0 (xm x) 52 ls []) rfl ?_
      refine lv_iload_n hex hb d_H_preclean_52 rfl (lv_at hl 2 rfl) ?_
      exact r_iret hex hb hr hlk hK hA hP hS ⟨_, rfl, rfl, T⟩ (Nat.zero_le _) (Nat.zero_le _) d_H_preclean_53
-- DirtyCardHeap.remark()I
def rm_H_remark : Room := { frames := 5, cells := 0, slots := 0, locals := 105 }
abbrev X_H_remark (x : Cx) : Prop := CxOk x b_H_remark 2 wl_H_remark R_H (some .int) rm_H_remark "remark"
abbrev K_H_remark (l : Launch) (D : va_G) (Λ : Lam) (σ : Mem) (c : Nat → Nat) (P : Int → Mem → Prop) : Prop := Ct l D y_H_remark wl_H_remark rm_H_remark [.ref (c 0)] Λ σ (pI Λ P)
abbrev N_H_remark_0 (x : Cx) (P : Int → Mem → Prop) (Λ : Lam) (σ : Mem) (c : Nat → Nat) : Prop := AtG x (pI Λ P) 2 0 0 0 Λ σ [(0, .ref (c 0))] []
theorem e_H_remark {l : Launch} {D : va_G} {Λ : Lam} {σ : Mem} {c : Nat → Nat} {P : Int → Mem → Prop} (h : ∀ x : Cx, xl x = l → xD x = D → X_H_remark x → N_H_remark_0 x P Λ σ c) : K_H_remark l D Λ σ c P := Ct.of (by decide) rfl (Nat.le_of_ble_eq_true rfl) h
set_option maxHeartbeats 4000000 in
set_option maxRecDepth 100000 in
theorem u_H_remark_0 {x : Cx} (hx : X_H_remark x) {P : Int → Mem → Prop} {Λ : Lam} {σ : Mem} {c : Nat → Nat} (hL : LayC Λ c) (T : rng (σ.1 306 (c 0)) ∧ (((σ.1 306 (c 0)) = 1 → K_O_greyMarkedOn (xl x) (xD x) Λ σ c (iOr (σ.1 304 (c 0)) (σ.1 305 (c 0))) (fun σa2 => K_H_shadeFromRoots (xl x) (xD x) Λ σa2 c (fun z3 σa3 => K_H_shadeFromYoung (xl x) (xD x) Λ σa3 c (fun z4 σa4 => K_H_scanAllGrey (xl x) (xD x) Λ σa4 c (fun z5 σa5 => P ((z3 + z4) + z5) (upI (upI (upI σa5 305 (c 0) 0) 306 (c 0) 2) 307 (c 0) 0)))))) ∧ (¬ (σ.1 306 (c 0)) = 1 → P (-6) σ))) : N_H_remark_0 x P Λ σ c := by
  obtain ⟨hex, hb, hml, hown, hts, hr, hlk, hR, hnm, hAs, hNW⟩ := hx
  obtain ⟨hLH, ⟨cA1, hLA1⟩, ⟨hLR2, cA3, hLA3⟩, hLO, ⟨cA5, hLA5⟩, ⟨hLR6, cA7, hLA7⟩⟩ := hL
  refine ⟨(), fun hK hA ls H locs hl hP hS => ?_⟩
  refine lv_aload_n hex hb d_H_remark_0 rfl (lv_at hl 0 rfl) ?_
  refine r_getI (ci := 3) (C := R_H) (T := F_H) (N := 8) hex hb hts (fun w h => List.mem_cons_of_mem _ (in_H w h)) hown hK hP hLH rfl 6 (by decide) (hts _ (List.mem_cons_of_mem _ bg_51)) (fun _ h9 => h9) rfl d_H_remark_1 ?_
  refine lv_iconst (v := iI 1) hex hb d_H_remark_4 rfl ?_
  obtain ⟨h1, T⟩ := T
  obtain ⟨T1, T2⟩ := T
  refine r_icmp_eq (a := σ.1 306 (c 0)) (b := 1) (tgt := 11) hex hb h1 ⟨by omega, by omega⟩ d_H_remark_5 rfl (fun hc => ?_) (fun hc => ?_)
  · have T := T1 hc
    refine lv_aload_n hex hb d_H_remark_11 rfl (lv_at hl 0 rfl) ?_
    refine r_getR (ci := 3) (C := R_H) (T := F_H) (N := 8) hex hb hts (fun w h => List.mem_cons_of_mem _ (in_H w h)) hown hK hP hLH rfl 2 (by decide) (hts _ (List.mem_cons_of_mem _ bg_47)) (fun _ h9 => h9) rfl d_H_remark_12 ?_
    refine lv_aload_n hex hb d_H_remark_15 rfl (lv_at hl 0 rfl) ?_
    refine r_getI (ci := 3) (C := R_H) (T := F_H) (N := 8) hex hb hts (fun w h => List.mem_cons_of_mem _ (in_H w h)) hown hK hP hLH rfl 4 (by decide) (hts _ (List.mem_cons_of_mem _ bg_49)) (fun _ h9 => h9) rfl d_H_remark_16 ?_
    refine lv_aload_n hex hb d_H_remark_19 rfl (lv_at hl 0 rfl) ?_
    refine r_getI (ci := 3) (C := R_H) (T := F_H) (N := 8) hex hb hts (fun w h => List.mem_cons_of_mem _ (in_H w h)) hown hK hP hLH rfl 5 (by decide) (hts _ (List.mem_cons_of_mem _ bg_50)) (fun _ h9 => h9) rfl d_H_remark_20 ?_
    refine r_ior hex hb d_H_remark_23 ?_
    refine r_call (va_runV (As := [.int (iI (iOr (σ.1 304 (c 0)) (σ.1 305 (c 0))))]) (rest := []) ⟨hex, hb, hml, hown, hts⟩ (Ct.use T H.size) (cwV 1 hts (gdV bg_335 bg_336 bg_337 bg_3 bc_O_greyMarkedOn) rfl rfl rfl hdV_O_greyMarkedOn ⟨by rw [hR]; exact Nat.le_of_ble_eq_true rfl, by rw [hR]; exact Nat.le_of_ble_eq_true rfl⟩) (px_preV (ci := 0) hNW hK hP hLO rfl) rfl rfl hl.1 rfl (lv_room (Nat.le_of_ble_eq_true rfl)) d_H_remark_24 ⟨by rw [hR]; exact Nat.le_of_ble_eq_true rfl, by rw [hR]; exact Nat.le_of_ble_eq_true rfl⟩) hS hA hAs (fun v Λ1 σ1 H locs hp hP hK hA hS => ?_)
    obtain ⟨rfl, rfl, T⟩ := hp
    generalize σ1 = σa2 at hP T
    refine W.eq (g2 := F0 (xm x) 27 ls []) rfl ?_
    refine lv_aload_n hex hb d_H_remark_27 rfl (lv_at hl 0 rfl) ?_
    refine r_call (va_runV (As := []) (rest := []) ⟨hex, hb, hml, hown, hts⟩ (Ct.use T H.size) (cwV 0 hts (gdV bg_310 bg_312 bp_15 bg_1 bc_H_shadeFromRoots) rfl rfl rfl hdV_H_shadeFromRoots ⟨by rw [hR]; exact Nat.le_of_ble_eq_true rfl, by rw [hR]; exact Nat.le_of_ble_eq_true rfl⟩) (px_preV (ci := 3) hNW hK hP hLH rfl) rfl rfl hl.1 rfl (lv_room (Nat.le_of_ble_eq_true rfl)) d_H_remark_28 ⟨by rw [hR]; exact Nat.le_of_ble_eq_true rfl, by rw [hR]; exact Nat.le_of_ble_eq_true rfl⟩) hS hA hAs (fun v Λ1 σ1 H locs hp hP hK hA hS => ?_)
    obtain ⟨z3, rfl, rfl, T⟩ := hp
    generalize σ1 = σa3 at hP T
    refine W.eq (g2 := F0 (xm x) 31 ls [.int (iI z3)]) rfl ?_
    refine lv_aload_n hex hb d_H_remark_31 rfl (lv_at hl 0 rfl) ?_
    refine r_call (va_runV (As := []) (rest := [.int (iI z3)]) ⟨hex, hb, hml, hown, hts⟩ (Ct.use T H.size) (cwV 0 hts (gdV bg_343 bg_345 bp_16 bg_1 bc_H_shadeFromYoung) rfl rfl rfl hdV_H_shadeFromYoung ⟨by rw [hR]; exact Nat.le_of_ble_eq_true rfl, by rw [hR]; exact Nat.le_of_ble_eq_true rfl⟩) (px_preV (ci := 3) hNW hK hP hLH rfl) rfl rfl hl.1 rfl (lv_room (Nat.le_of_ble_eq_true rfl)) d_H_remark_32 ⟨by rw [hR]; exact Nat.le_of_ble_eq_true rfl, by rw [hR]; exact Nat.le_of_ble_eq_true rfl⟩) hS hA hAs (fun v Λ1 σ1 H locs hp hP hK hA hS => ?_)
    obtain ⟨z4, rfl, rfl, T⟩ := hp
    generalize σ1 = σa4 at hP T
    refine W.eq (g2 := F0 (xm x) 35 ls [.int (iI z4), .int (iI z3)]) rfl ?_
    refine r_iadd hex hb d_H_remark_35 ?_
    refine lv_aload_n hex hb d_H_remark_36 rfl (lv_at hl 0 rfl) ?_
    refine r_call (va_runV (As := []) (rest := [.int (iI (z3 + z4))]) ⟨hex, hb, hml, hown, hts⟩ (Ct.use T H.size) (cwV 0 hts (gdV bg_347 bg_349 bp_17 bg_1 bc_H_scanAllGrey) rfl rfl rfl hdV_H_scanAllGrey ⟨by rw [hR]; exact Nat.le_of_ble_eq_true rfl, by rw [hR]; exact Nat.le_of_ble_eq_true rfl⟩) (px_preV (ci := 3) hNW hK hP hLH rfl) rfl rfl hl.1 rfl (lv_room (Nat.le_of_ble_eq_true rfl)) d_H_remark_37 ⟨by rw [hR]; exact Nat.le_of_ble_eq_true rfl, by rw [hR]; exact Nat.le_of_ble_eq_true rfl⟩) hS hA hAs (fun v Λ1 σ1 H locs hp hP hK hA hS => ?_)
    obtain ⟨z5, rfl, rfl, T⟩ := hp
    generalize σ1 = σa5 at hP T
    refine W.eq (g2 := F0 (xm x) 40 ls [.int (iI z5), .int (iI (z3 + z4))]) rfl ?_
    refine r_iadd hex hb d_H_remark_40 ?_
    refine lv_istore_n (lv' := [(1, .int (iI ((z3 + z4) + z5))), (0, .ref (c 0))]) hex hb d_H_remark_41 rfl hl (Nat.le_of_ble_eq_true rfl) rfl (fun ls hl => ?_)
    refine lv_aload_n hex hb d_H_remark_42 rfl (lv_at hl 1 rfl) ?_
    refine lv_iconst (v := iI 0) hex hb d_H_remark_43 rfl ?_
    refine r_putI (ci := 3) (C := R_H) (T := F_H) (N := 8) (v := 0) (ty := .int) hex hb hts (fun w h => List.mem_cons_of_mem _ (in_H w h)) tq_H tq_H_ok n_H hown hK hP hA hS hLH rfl 5 (by decide) (hts _ (List.mem_cons_of_mem _ bg_50)) (fun _ h9 => h9) rfl (by decide +kernel) rfl rfl rfl d_H_remark_44 (fun H locs hP hS => ?_)
    refine lv_aload_n hex hb d_H_remark_47 rfl (lv_at hl 1 rfl) ?_
    refine lv_iconst (v := iI 2) hex hb d_H_remark_48 rfl ?_
    refine r_putI (ci := 3) (C := R_H) (T := F_H) (N := 8) (v := 2) (ty := .int) hex hb hts (fun w h => List.mem_cons_of_mem _ (in_H w h)) tq_H tq_H_ok n_H hown hK hP hA hS hLH rfl 6 (by decide) (hts _ (List.mem_cons_of_mem _ bg_51)) (fun _ h9 => h9) rfl (by decide +kernel) rfl rfl rfl d_H_remark_49 (fun H locs hP hS => ?_)
    refine lv_aload_n hex hb d_H_remark_52 rfl (lv_at hl 1 rfl) ?_
    refine lv_iconst (v := iI 0) hex hb d_H_remark_53 rfl ?_
    refine r_putI (ci := 3) (C := R_H) (T := F_H) (N := 8) (v := 0) (ty := .int) hex hb hts (fun w h => List.mem_cons_of_mem _ (in_H w h)) tq_H tq_H_ok n_H hown hK hP hA hS hLH rfl 7 (by decide) (hts _ (List.mem_cons_of_mem _ bg_52)) (fun _ h9 => h9) rfl (by decide +kernel) rfl rfl rfl d_H_remark_54 (fun H locs hP hS => ?_)
    refine lv_iload_n hex hb d_H_remark_57 rfl (lv_at hl 0 rfl) ?_
    exact r_iret hex hb hr hlk hK hA hP hS ⟨_, rfl, rfl, T⟩ (Nat.zero_le _) (Nat.zero_le _) d_H_remark_58
  · have T := T2 hc
    refine lv_bipush (v := iI (-6)) hex hb d_H_remark_8 rfl ?_
    exact r_iret hex hb hr hlk hK hA hP hS ⟨_, rfl, rfl, T⟩ (Nat.zero_le _) (Nat.zero_le _) d_H_remark_10
set_option maxRecDepth 100000 in
theorem w_H_remark {l : Launch} {D : va_G} {Λ : Lam} {σ : Mem} {c : Nat → Nat} {P : Int → Mem → Prop} (hL : LayC Λ c) (T : rng (σ.1 306 (c 0)) ∧ (((σ.1 306 (c 0)) = 1 → K_O_greyMarkedOn l D Λ σ c (iOr (σ.1 304 (c 0)) (σ.1 305 (c 0))) (fun σa2 => K_H_shadeFromRoots l D Λ σa2 c (fun z3 σa3 => K_H_shadeFromYoung l D Λ σa3 c (fun z4 σa4 => K_H_scanAllGrey l D Λ σa4 c (fun z5 σa5 => P ((z3 + z4) + z5) (upI (upI (upI σa5 305 (c 0) 0) 306 (c 0) 2) 307 (c 0) 0)))))) ∧ (¬ (σ.1 306 (c 0)) = 1 → P (-6) σ))) : K_H_remark l D Λ σ c P := e_H_remark (fun x hl hD hx => by subst hl; subst hD; exact u_H_remark_0 hx hL T)
-- DirtyCardHeap.sweep()I
def rm_H_sweep : Room := { frames := 3, cells := 0, slots := 0, locals := 66 }
abbrev X_H_sweep (x : Cx) : Prop := CxOk x b_H_sweep 3 wl_H_sweep R_H (some .int) rm_H_sweep "sweep"
abbrev K_H_sweep (l : Launch) (D : va_G) (Λ : Lam) (σ : Mem) (c : Nat → Nat) (P : Int → Mem → Prop) : Prop := Ct l D y_H_sweep wl_H_sweep rm_H_sweep [.ref (c 0)] Λ σ (pI Λ P)
abbrev N_H_sweep_0 (x : Cx) (P : Int → Mem → Prop) (Λ : Lam) (σ : Mem) (c : Nat → Nat) : Prop := AtG x (pI Λ P) 3 0 0 0 Λ σ [(0, .ref (c 0))] []
theorem e_H_sweep {l : Launch} {D : va_G} {Λ : Lam} {σ : Mem} {c : Nat → Nat} {P : Int → Mem → Prop} (h : ∀ x : Cx, xl x = l → xD x = D → X_H_sweep x → N_H_sweep_0 x P Λ σ c) : K_H_sweep l D Λ σ c P := Ct.of (by decide) rfl (Nat.le_of_ble_eq_true rfl) h
set_option maxHeartbeats 4000000 in
set_option maxRecDepth 100000 in
theorem u_H_sweep_0 {x : Cx} (hx : X_H_sweep x) {P : Int → Mem → Prop} {Λ : Lam} {σ : Mem} {c : Nat → Nat} (hL : LayC Λ c) (T : rng (σ.1 306 (c 0)) ∧ (((σ.1 306 (c 0)) = 2 → K_O_firstFrom (xl x) (xD x) Λ σ c (σ.1 307 (c 0)) (fun o2r σa2 => ((o2r = none → K_O_unmarkAll (xl x) (xD x) Λ (upI σa2 306 (c 0) 0) c (fun σa5 => P 128 σa5)) ∧ (∀ t3, o2r = some t3 → isT Λ t3 ∧ K_T_size (xl x) (xD x) Λ σa2 t3 (fun z7 σa7 => rng ((upI σa7 307 (c 0) ((σa2.1 203 t3) + z7)).1 204 t3) ∧ ((((upI σa7 307 (c 0) ((σa2.1 203 t3) + z7)).1 204 t3) = 0 → K_O_takeOut (xl x) (xD x) Λ (upI σa7 307 (c 0) ((σa2.1 203 t3) + z7)) c (some t3) (fun σa9 => K_T_becomeGone (xl x) (xD x) Λ σa9 t3 (fun σa10 => P (σa2.1 203 t3) σa10))) ∧ (¬ ((upI σa7 307 (c 0) ((σa2.1 203 t3) + z7)).1 204 t3) = 0 → P (64 + (σa2.1 203 t3)) (upI σa7 307 (c 0) ((σa2.1 203 t3) + z7))))))))) ∧ (¬ (σ.1 306 (c 0)) = 2 → P (-6) σ))) : N_H_sweep_0 x P Λ σ c := by
  obtain ⟨hex, hb, hml, hown, hts, hr, hlk, hR, hnm, hAs, hNW⟩ := hx
  obtain ⟨hLH, ⟨cA1, hLA1⟩, ⟨hLR2, cA3, hLA3⟩, hLO, ⟨cA5, hLA5⟩, ⟨hLR6, cA7, hLA7⟩⟩ := hL
  refine ⟨(), fun hK hA ls H locs hl hP hS => ?_⟩
  refine lv_aload_n hex hb d_H_sweep_0 rfl (lv_at hl 0 rfl) ?_
  refine r_getI (ci := 3) (C := R_H) (T := F_H) (N := 8) hex hb hts (fun w h => List.mem_cons_of_mem _ (in_H w h)) hown hK hP hLH rfl 6 (by decide) (hts _ (List.mem_cons_of_mem _ bg_51)) (fun _ h9 => h9) rfl d_H_sweep_1 ?_
  refine lv_iconst (v := iI 2) hex hb d_H_sweep_4 rfl ?_
  obtain ⟨h1, T⟩ := T
  obtain ⟨T1, T2⟩ := T
  refine r_icmp_eq (a := σ.1 306 (c 0)) (b := 2) (tgt := 11) hex hb h1 ⟨by omega, by omega⟩ d_H_sweep_5 rfl (fun hc => ?_) (fun hc => ?_)
  · have T := T1 hc
    refine lv_aload_n hex hb d_H_sweep_11 rfl (lv_at hl 0 rfl) ?_
    refine r_getR (ci := 3) (C := R_H) (T := F_H) (N := 8) hex hb hts (fun w h => List.mem_cons_of_mem _ (in_H w h)) hown hK hP hLH rfl 2 (by decide) (hts _ (List.mem_cons_of_mem _ bg_47)) (fun _ h9 => h9) rfl d_H_sweep_12 ?_
    refine lv_aload_n hex hb d_H_sweep_15 rfl (lv_at hl 0 rfl) ?_
    refine r_getI (ci := 3) (C := R_H) (T := F_H) (N := 8) hex hb hts (fun w h => List.mem_cons_of_mem _ (in_H w h)) hown hK hP hLH rfl 7 (by decide) (hts _ (List.mem_cons_of_mem _ bg_52)) (fun _ h9 => h9) rfl d_H_sweep_16 ?_
    refine r_call (va_runV (As := [.int (iI (σ.1 307 (c 0)))]) (rest := []) ⟨hex, hb, hml, hown, hts⟩ (Ct.use T H.size) (cwV 1 hts (gdV bg_355 bg_356 bg_357 bg_3 bc_O_firstFrom) rfl rfl rfl hdV_O_firstFrom ⟨by rw [hR]; exact Nat.le_of_ble_eq_true rfl, by rw [hR]; exact Nat.le_of_ble_eq_true rfl⟩) (px_preV (ci := 0) hNW hK hP hLO rfl) rfl rfl hl.1 rfl (lv_room (Nat.le_of_ble_eq_true rfl)) d_H_sweep_19 ⟨by rw [hR]; exact Nat.le_of_ble_eq_true rfl, by rw [hR]; exact Nat.le_of_ble_eq_true rfl⟩) hS hA hAs (fun v Λ1 σ1 H locs hp hP hK hA hS => ?_)
    obtain ⟨o2r, rfl, rfl, T⟩ := hp
    generalize σ1 = σa2 at hP T
    refine W.eq (g2 := F0 (xm x) 22 ls [va_rf o2r]) rfl ?_
    refine r_astore_n (o := o2r) (lv' := [(1, va_rf o2r), (0, .ref (c 0))]) hex hb d_H_sweep_22 rfl hl (Nat.le_of_ble_eq_true rfl) rfl (fun ls hl => ?_)
    refine r_aload_n (o := o2r) hex hb d_H_sweep_23 rfl (lv_at hl 0 rfl) ?_
    obtain ⟨Tn, Ts⟩ := T
    refine r_ifnonnull (o := o2r) (tgt := 43) hex hb d_H_sweep_24 rfl (fun hn => ?_) (fun t3 ht4 => ?_)
    · have T := Tn hn
      have hl : lv_has ls 3 [(1, va_rf none), (0, .ref (c 0))] := by have h9 := hl; rw [hn] at h9; exact h9
      refine lv_aload_n hex hb d_H_sweep_27 rfl (lv_at hl 1 rfl) ?_
      refine lv_iconst (v := iI 0) hex hb d_H_sweep_28 rfl ?_
      refine r_putI (ci := 3) (C := R_H) (T := F_H) (N := 8) (v := 0) (ty := .int) hex hb hts (fun w h => List.mem_cons_of_mem _ (in_H w h)) tq_H tq_H_ok n_H hown hK hP hA hS hLH rfl 6 (by decide) (hts _ (List.mem_cons_of_mem _ bg_51)) (fun _ h9 => h9) rfl (by decide +kernel) rfl rfl rfl d_H_sweep_29 (fun H locs hP hS => ?_)
      refine lv_aload_n hex hb d_H_sweep_32 rfl (lv_at hl 1 rfl) ?_
      refine r_getR (ci := 3) (C := R_H) (T := F_H) (N := 8) hex hb hts (fun w h => List.mem_cons_of_mem _ (in_H w h)) hown hK hP hLH rfl 2 (by decide) (hts _ (List.mem_cons_of_mem _ bg_47)) (fun _ h9 => h9) rfl d_H_sweep_33 ?_
      refine r_call (va_runV (As := []) (rest := []) ⟨hex, hb, hml, hown, hts⟩ (Ct.use T H.size) (cwV 0 hts (gdV bg_211 bg_212 bg_213 bg_3 bc_O_unmarkAll) rfl rfl rfl hdV_O_unmarkAll ⟨by rw [hR]; exact Nat.le_of_ble_eq_true rfl, by rw [hR]; exact Nat.le_of_ble_eq_true rfl⟩) (px_preV (ci := 0) hNW hK hP hLO rfl) rfl rfl hl.1 rfl (lv_room (Nat.le_of_ble_eq_true rfl)) d_H_sweep_36 ⟨by rw [hR]; exact Nat.le_of_ble_eq_true rfl, by rw [hR]; exact Nat.le_of_ble_eq_true rfl⟩) hS hA hAs (fun v Λ1 σ1 H locs hp hP hK hA hS => ?_)
      obtain ⟨rfl, rfl, T⟩ := hp
      generalize σ1 = σa5 at hP T
      refine W.eq (g2 := F0 (xm x) 39 ls []) rfl ?_
      refine lv_sipush (v := iI 128) hex hb d_H_sweep_39 rfl ?_
      exact r_iret hex hb hr hlk hK hA hP hS ⟨_, rfl, rfl, T⟩ (Nat.zero_le _) (Nat.zero_le _) d_H_sweep_42
    · have T := Ts t3 ht4
      have hl : lv_has ls 3 [(1, .ref t3), (0, .ref (c 0))] := by have h9 := hl; rw [ht4] at h9; exact h9
      refine lv_aload_n hex hb d_H_sweep_43 rfl (lv_at hl 0 rfl) ?_
      obtain ⟨⟨hT6, ⟨cT6, hF6⟩, hn6⟩, T⟩ := T
      refine r_getI (ci := 2) (C := R_T) (T := F_T) (N := 7) hex hb hts (fun w h => List.mem_cons_of_mem _ (in_T w h)) hown hK hP hT6 rfl 3 (by decide) (hts _ (List.mem_cons_of_mem _ bg_238)) (fun _ h9 => h9) rfl d_H_sweep_44 ?_
      refine lv_istore_n (lv' := [(2, .int (iI (σa2.1 203 t3))), (1, .ref t3), (0, .ref (c 0))]) hex hb d_H_sweep_47 rfl hl (Nat.le_of_ble_eq_true rfl) rfl (fun ls hl => ?_)
      refine lv_aload_n hex hb d_H_sweep_48 rfl (lv_at hl 2 rfl) ?_
      refine lv_iload_n hex hb d_H_sweep_49 rfl (lv_at hl 0 rfl) ?_
      refine lv_aload_n hex hb d_H_sweep_50 rfl (lv_at hl 1 rfl) ?_
      refine r_call (va_runV (As := []) (rest := [.int (iI (σa2.1 203 t3)), .ref (c 0)]) ⟨hex, hb, hml, hown, hts⟩ (Ct.use T H.size) (cwV 0 hts (gdV bg_116 bg_86 bg_87 bg_6 bc_T_size) rfl rfl rfl hdV_T_size ⟨by rw [hR]; exact Nat.le_of_ble_eq_true rfl, by rw [hR]; exact Nat.le_of_ble_eq_true rfl⟩) (px_preV (ci := 2) hNW hK hP hT6 rfl) rfl rfl hl.1 rfl (lv_room (Nat.le_of_ble_eq_true rfl)) d_H_sweep_51 ⟨by rw [hR]; exact Nat.le_of_ble_eq_true rfl, by rw [hR]; exact Nat.le_of_ble_eq_true rfl⟩) hS hA hAs (fun v Λ1 σ1 H locs hp hP hK hA hS => ?_)
      obtain ⟨z7, rfl, rfl, T⟩ := hp
      generalize σ1 = σa7 at hP T
      refine W.eq (g2 := F0 (xm x) 54 ls [.int (iI z7), .int (iI (σa2.1 203 t3)), .ref (c 0)]) rfl ?_
      refine r_iadd hex hb d_H_sweep_54 ?_
      refine r_putI (ci := 3) (C := R_H) (T := F_H) (N := 8) (v := (σa2.1 203 t3) + z7) (ty := .int) hex hb hts (fun w h => List.mem_cons_of_mem _ (in_H w h)) tq_H tq_H_ok n_H hown hK hP hA hS hLH rfl 7 (by decide) (hts _ (List.mem_cons_of_mem _ bg_52)) (fun _ h9 => h9) rfl (by decide +kernel) rfl rfl rfl d_H_sweep_55 (fun H locs hP hS => ?_)
      refine lv_aload_n hex hb d_H_sweep_58 rfl (lv_at hl 1 rfl) ?_
      refine r_getI (ci := 2) (C := R_T) (T := F_T) (N := 7) hex hb hts (fun w h => List.mem_cons_of_mem _ (in_T w h)) hown hK hP hT6 rfl 4 (by decide) (hts _ (List.mem_cons_of_mem _ bg_240)) (fun _ h9 => h9) rfl d_H_sweep_59 ?_
      obtain ⟨h8, T⟩ := T
      obtain ⟨T1, T2⟩ := T
      refine r_if_eq (a := (upI σa7 307 (c 0) ((σa2.1 203 t3) + z7)).1 204 t3) (tgt := 70) hex hb h8 d_H_sweep_62 rfl (fun hc => ?_) (fun hc => ?_)
      · have T := T1 hc
        refine lv_aload_n hex hb d_H_sweep_70 rfl (lv_at hl 2 rfl) ?_
        refine r_getR (ci := 3) (C := R_H) (T := F_H) (N := 8) hex hb hts (fun w h => List.mem_cons_of_mem _ (in_H w h)) hown hK hP hLH rfl 2 (by decide) (hts _ (List.mem_cons_of_mem _ bg_47)) (fun _ h9 => h9) rfl d_H_sweep_71 ?_
        refine lv_aload_n hex hb d_H_sweep_74 rfl (lv_at hl 1 rfl) ?_
        refine r_call (va_runV (As := [.ref t3]) (rest := []) ⟨hex, hb, hml, hown, hts⟩ (Ct.use T H.size) (cwV 1 hts (gdV bg_359 bg_206 bg_207 bg_3 bc_O_takeOut) rfl rfl rfl hdV_O_takeOut ⟨by rw [hR]; exact Nat.le_of_ble_eq_true rfl, by rw [hR]; exact Nat.le_of_ble_eq_true rfl⟩) (px_preV (ci := 0) hNW hK hP hLO rfl) rfl rfl hl.1 rfl (lv_room (Nat.le_of_ble_eq_true rfl)) d_H_sweep_75 ⟨by rw [hR]; exact Nat.le_of_ble_eq_true rfl, by rw [hR]; exact Nat.le_of_ble_eq_true rfl⟩) hS hA hAs (fun v Λ1 σ1 H locs hp hP hK hA hS => ?_)
        obtain ⟨rfl, rfl, T⟩ := hp
        generalize σ1 = σa9 at hP T
        refine W.eq (g2 := F0 (xm x) 78 ls []) rfl ?_
        refine lv_aload_n hex hb d_H_sweep_78 rfl (lv_at hl 1 rfl) ?_
        refine r_call (va_runV (As := []) (rest := []) ⟨hex, hb, hml, hown, hts⟩ (Ct.use T H.size) (cwV 0 hts (gdV bg_161 bg_162 bg_163 bg_6 bc_T_becomeGone) rfl rfl rfl hdV_T_becomeGone ⟨by rw [hR]; exact Nat.le_of_ble_eq_true rfl, by rw [hR]; exact Nat.le_of_ble_eq_true rfl⟩) (px_preV (ci := 2) hNW hK hP hT6 rfl) rfl rfl hl.1 rfl (lv_room (Nat.le_of_ble_eq_true rfl)) d_H_sweep_79 ⟨by rw [hR]; exact Nat.le_of_ble_eq_true rfl, by rw [hR]; exact Nat.le_of_ble_eq_true rfl⟩) hS hA hAs (fun v Λ1 σ1 H locs hp hP hK hA hS => ?_)
        obtain ⟨rfl, rfl, T⟩ := hp
        generalize σ1 = σa10 at hP T
        refine W.eq (g2 := F0 (xm x) 82 ls []) rfl ?_
        refine lv_iload_n hex hb d_H_sweep_82 rfl (lv_at hl 0 rfl) ?_
        exact r_iret hex hb hr hlk hK hA hP hS ⟨_, rfl, rfl, T⟩ (Nat.zero_le _) (Nat.zero_le _) d_H_sweep_83
      · have T := T2 hc
        refine lv_bipush (v := iI 64) hex hb d_H_sweep_65 rfl ?_
        refine lv_iload_n hex hb d_H_sweep_67 rfl (lv_at hl 0 rfl) ?_
        refine r_iadd hex hb d_H_sweep_68 ?_
        exact r_iret hex hb hr hlk hK hA hP hS ⟨_, rfl, rfl, T⟩ (Nat.zero_le _) (Nat.zero_le _) d_H_sweep_69
  · have T := T2 hc
    refine lv_bipush (v := iI (-6)) hex hb d_H_sweep_8 rfl ?_
    exact r_iret hex hb hr hlk hK hA hP hS ⟨_, rfl, rfl, T⟩ (Nat.zero_le _) (Nat.zero_le _) d_H_sweep_10
set_option maxRecDepth 100000 in
theorem w_H_sweep {l : Launch} {D : va_G} {Λ : Lam} {σ : Mem} {c : Nat → Nat} {P : Int → Mem → Prop} (hL : LayC Λ c) (T : rng (σ.1 306 (c 0)) ∧ (((σ.1 306 (c 0)) = 2 → K_O_firstFrom l D Λ σ c (σ.1 307 (c 0)) (fun o2r σa2 => ((o2r = none → K_O_unmarkAll l D Λ (upI σa2 306 (c 0) 0) c (fun σa5 => P 128 σa5)) ∧ (∀ t3, o2r = some t3 → isT Λ t3 ∧ K_T_size l D Λ σa2 t3 (fun z7 σa7 => rng ((upI σa7 307 (c 0) ((σa2.1 203 t3) + z7)).1 204 t3) ∧ ((((upI σa7 307 (c 0) ((σa2.1 203 t3) + z7)).1 204 t3) = 0 → K_O_takeOut l D Λ (upI σa7 307 (c 0) ((σa2.1 203 t3) + z7)) c (some t3) (fun σa9 => K_T_becomeGone l D Λ σa9 t3 (fun σa10 => P (σa2.1 203 t3) σa10))) ∧ (¬ ((upI σa7 307 (c 0) ((σa2.1 203 t3) + z7)).1 204 t3) = 0 → P (64 + (σa2.1 203 t3)) (upI σa7 307 (c 0) ((σa2.1 203 t3) + z7))))))))) ∧ (¬ (σ.1 306 (c 0)) = 2 → P (-6) σ))) : K_H_sweep l D Λ σ c P := e_H_sweep (fun x hl hD hx => by subst hl; subst hD; exact u_H_sweep_0 hx hL T)
-- DirtyCardHeap.phase()I
def rm_H_phase : Room := { frames := 0, cells := 0, slots := 0, locals := 0 }
abbrev X_H_phase (x : Cx) : Prop := CxOk x b_H_phase 1 wl_H_phase R_H (some .int) rm_H_phase "phase"
abbrev K_H_phase (l : Launch) (D : va_G) (Λ : Lam) (σ : Mem) (c : Nat → Nat) (P : Int → Mem → Prop) : Prop := Ct l D y_H_phase wl_H_phase rm_H_phase [.ref (c 0)] Λ σ (pI Λ P)
abbrev N_H_phase_0 (x : Cx) (P : Int → Mem → Prop) (Λ : Lam) (σ : Mem) (c : Nat → Nat) : Prop := AtG x (pI Λ P) 1 0 0 0 Λ σ [(0, .ref (c 0))] []
theorem e_H_phase {l : Launch} {D : va_G} {Λ : Lam} {σ : Mem} {c : Nat → Nat} {P : Int → Mem → Prop} (h : ∀ x : Cx, xl x = l → xD x = D → X_H_phase x → N_H_phase_0 x P Λ σ c) : K_H_phase l D Λ σ c P := Ct.of (by decide) rfl (Nat.le_of_ble_eq_true rfl) h
set_option maxHeartbeats 4000000 in
set_option maxRecDepth 100000 in
theorem u_H_phase_0 {x : Cx} (hx : X_H_phase x) {P : Int → Mem → Prop} {Λ : Lam} {σ : Mem} {c : Nat → Nat} (hL : LayC Λ c) (T : P (σ.1 306 (c 0)) σ) : N_H_phase_0 x P Λ σ c := by
  obtain ⟨hex, hb, hml, hown, hts, hr, hlk, hR, hnm, hAs, hNW⟩ := hx
  obtain ⟨hLH, ⟨cA1, hLA1⟩, ⟨hLR2, cA3, hLA3⟩, hLO, ⟨cA5, hLA5⟩, ⟨hLR6, cA7, hLA7⟩⟩ := hL
  refine ⟨(), fun hK hA ls H locs hl hP hS => ?_⟩
  refine lv_aload_n hex hb d_H_phase_0 rfl (lv_at hl 0 rfl) ?_
  refine r_getI (ci := 3) (C := R_H) (T := F_H) (N := 8) hex hb hts (fun w h => List.mem_cons_of_mem _ (in_H w h)) hown hK hP hLH rfl 6 (by decide) (hts _ (List.mem_cons_of_mem _ bg_51)) (fun _ h9 => h9) rfl d_H_phase_1 ?_
  exact r_iret hex hb hr hlk hK hA hP hS ⟨_, rfl, rfl, T⟩ (Nat.zero_le _) (Nat.zero_le _) d_H_phase_4
set_option maxRecDepth 100000 in
theorem w_H_phase {l : Launch} {D : va_G} {Λ : Lam} {σ : Mem} {c : Nat → Nat} {P : Int → Mem → Prop} (hL : LayC Λ c) (T : P (σ.1 306 (c 0)) σ) : K_H_phase l D Λ σ c P := e_H_phase (fun x hl hD hx => by subst hl; subst hD; exact u_H_phase_0 hx hL T)
-- DirtyCardHeap.oldCells()I
def rm_H_oldCells : Room := { frames := 1, cells := 0, slots := 0, locals := 22 }
abbrev X_H_oldCells (x : Cx) : Prop := CxOk x b_H_oldCells 1 wl_H_oldCells R_H (some .int) rm_H_oldCells "oldCells"
abbrev K_H_oldCells (l : Launch) (D : va_G) (Λ : Lam) (σ : Mem) (c : Nat → Nat) (P : Int → Mem → Prop) : Prop := Ct l D y_H_oldCells wl_H_oldCells rm_H_oldCells [.ref (c 0)] Λ σ (pI Λ P)
abbrev N_H_oldCells_0 (x : Cx) (P : Int → Mem → Prop) (Λ : Lam) (σ : Mem) (c : Nat → Nat) : Prop := AtG x (pI Λ P) 1 0 0 0 Λ σ [(0, .ref (c 0))] []
theorem e_H_oldCells {l : Launch} {D : va_G} {Λ : Lam} {σ : Mem} {c : Nat → Nat} {P : Int → Mem → Prop} (h : ∀ x : Cx, xl x = l → xD x = D → X_H_oldCells x → N_H_oldCells_0 x P Λ σ c) : K_H_oldCells l D Λ σ c P := Ct.of (by decide) rfl (Nat.le_of_ble_eq_true rfl) h
set_option maxHeartbeats 4000000 in
set_option maxRecDepth 100000 in
theorem u_H_oldCells_0 {x : Cx} (hx : X_H_oldCells x) {P : Int → Mem → Prop} {Λ : Lam} {σ : Mem} {c : Nat → Nat} (hL : LayC Λ c) (T : K_O_cellsTaken (xl x) (xD x) Λ σ c (fun z1 σa1 => P z1 σa1)) : N_H_oldCells_0 x P Λ σ c := by
  obtain ⟨hex, hb, hml, hown, hts, hr, hlk, hR, hnm, hAs, hNW⟩ := hx
  obtain ⟨hLH, ⟨cA1, hLA1⟩, ⟨hLR2, cA3, hLA3⟩, hLO, ⟨cA5, hLA5⟩, ⟨hLR6, cA7, hLA7⟩⟩ := hL
  refine ⟨(), fun hK hA ls H locs hl hP hS => ?_⟩
  refine lv_aload_n hex hb d_H_oldCells_0 rfl (lv_at hl 0 rfl) ?_
  refine r_getR (ci := 3) (C := R_H) (T := F_H) (N := 8) hex hb hts (fun w h => List.mem_cons_of_mem _ (in_H w h)) hown hK hP hLH rfl 2 (by decide) (hts _ (List.mem_cons_of_mem _ bg_47)) (fun _ h9 => h9) rfl d_H_oldCells_1 ?_
  refine r_call (va_runV (As := []) (rest := []) ⟨hex, hb, hml, hown, hts⟩ (Ct.use T H.size) (cwV 0 hts (gdV bg_368 bg_369 bg_370 bg_3 bc_O_cellsTaken) rfl rfl rfl hdV_O_cellsTaken ⟨by rw [hR]; exact Nat.le_of_ble_eq_true rfl, by rw [hR]; exact Nat.le_of_ble_eq_true rfl⟩) (px_preV (ci := 0) hNW hK hP hLO rfl) rfl rfl hl.1 rfl (lv_room (Nat.le_of_ble_eq_true rfl)) d_H_oldCells_4 ⟨by rw [hR]; exact Nat.le_of_ble_eq_true rfl, by rw [hR]; exact Nat.le_of_ble_eq_true rfl⟩) hS hA hAs (fun v Λ1 σ1 H locs hp hP hK hA hS => ?_)
  obtain ⟨z1, rfl, rfl, T⟩ := hp
  generalize σ1 = σa1 at hP T
  refine W.eq (g2 := F0 (xm x) 7 ls [.int (iI z1)]) rfl ?_
  exact r_iret hex hb hr hlk hK hA hP hS ⟨_, rfl, rfl, T⟩ (Nat.zero_le _) (Nat.zero_le _) d_H_oldCells_7
set_option maxRecDepth 100000 in
theorem w_H_oldCells {l : Launch} {D : va_G} {Λ : Lam} {σ : Mem} {c : Nat → Nat} {P : Int → Mem → Prop} (hL : LayC Λ c) (T : K_O_cellsTaken l D Λ σ c (fun z1 σa1 => P z1 σa1)) : K_H_oldCells l D Λ σ c P := e_H_oldCells (fun x hl hD hx => by subst hl; subst hD; exact u_H_oldCells_0 hx hL T)
-- DirtyCardHeap.youngCells()I
def rm_H_youngCells : Room := { frames := 2, cells := 0, slots := 0, locals := 42 }
abbrev X_H_youngCells (x : Cx) : Prop := CxOk x b_H_youngCells 1 wl_H_youngCells R_H (some .int) rm_H_youngCells "youngCells"
abbrev K_H_youngCells (l : Launch) (D : va_G) (Λ : Lam) (σ : Mem) (c : Nat → Nat) (P : Int → Mem → Prop) : Prop := Ct l D y_H_youngCells wl_H_youngCells rm_H_youngCells [.ref (c 0)] Λ σ (pI Λ P)
abbrev N_H_youngCells_0 (x : Cx) (P : Int → Mem → Prop) (Λ : Lam) (σ : Mem) (c : Nat → Nat) : Prop := AtG x (pI Λ P) 1 0 0 0 Λ σ [(0, .ref (c 0))] []
theorem e_H_youngCells {l : Launch} {D : va_G} {Λ : Lam} {σ : Mem} {c : Nat → Nat} {P : Int → Mem → Prop} (h : ∀ x : Cx, xl x = l → xD x = D → X_H_youngCells x → N_H_youngCells_0 x P Λ σ c) : K_H_youngCells l D Λ σ c P := Ct.of (by decide) rfl (Nat.le_of_ble_eq_true rfl) h
set_option maxHeartbeats 4000000 in
set_option maxRecDepth 100000 in
theorem u_H_youngCells_0 {x : Cx} (hx : X_H_youngCells x) {P : Int → Mem → Prop} {Λ : Lam} {σ : Mem} {c : Nat → Nat} (hL : LayC Λ c) (T : K_R_cellsTaken (xl x) (xD x) Λ σ (c 2) (fun z1 σa1 => P z1 σa1)) : N_H_youngCells_0 x P Λ σ c := by
  obtain ⟨hex, hb, hml, hown, hts, hr, hlk, hR, hnm, hAs, hNW⟩ := hx
  obtain ⟨hLH, ⟨cA1, hLA1⟩, ⟨hLR2, cA3, hLA3⟩, hLO, ⟨cA5, hLA5⟩, ⟨hLR6, cA7, hLA7⟩⟩ := hL
  refine ⟨(), fun hK hA ls H locs hl hP hS => ?_⟩
  refine lv_aload_n hex hb d_H_youngCells_0 rfl (lv_at hl 0 rfl) ?_
  refine r_getR (ci := 3) (C := R_H) (T := F_H) (N := 8) hex hb hts (fun w h => List.mem_cons_of_mem _ (in_H w h)) hown hK hP hLH rfl 1 (by decide) (hts _ (List.mem_cons_of_mem _ bg_46)) (fun _ h9 => h9) rfl d_H_youngCells_1 ?_
  refine r_call (va_runV (As := []) (rest := []) ⟨hex, hb, hml, hown, hts⟩ (Ct.use T H.size) (cwV 0 hts (gdV bg_81 bg_82 bg_83 bg_2 bc_R_cellsTaken) rfl rfl rfl hdV_R_cellsTaken ⟨by rw [hR]; exact Nat.le_of_ble_eq_true rfl, by rw [hR]; exact Nat.le_of_ble_eq_true rfl⟩) (px_preV (ci := 1) hNW hK hP hLR2 rfl) rfl rfl hl.1 rfl (lv_room (Nat.le_of_ble_eq_true rfl)) d_H_youngCells_4 ⟨by rw [hR]; exact Nat.le_of_ble_eq_true rfl, by rw [hR]; exact Nat.le_of_ble_eq_true rfl⟩) hS hA hAs (fun v Λ1 σ1 H locs hp hP hK hA hS => ?_)
  obtain ⟨z1, rfl, rfl, T⟩ := hp
  generalize σ1 = σa1 at hP T
  refine W.eq (g2 := F0 (xm x) 7 ls [.int (iI z1)]) rfl ?_
  exact r_iret hex hb hr hlk hK hA hP hS ⟨_, rfl, rfl, T⟩ (Nat.zero_le _) (Nat.zero_le _) d_H_youngCells_7
set_option maxRecDepth 100000 in
theorem w_H_youngCells {l : Launch} {D : va_G} {Λ : Lam} {σ : Mem} {c : Nat → Nat} {P : Int → Mem → Prop} (hL : LayC Λ c) (T : K_R_cellsTaken l D Λ σ (c 2) (fun z1 σa1 => P z1 σa1)) : K_H_youngCells l D Λ σ c P := e_H_youngCells (fun x hl hD hx => by subst hl; subst hD; exact u_H_youngCells_0 hx hL T)
-- DirtyCardHeap.cards()I
def rm_H_cards : Room := { frames := 0, cells := 0, slots := 0, locals := 0 }
abbrev X_H_cards (x : Cx) : Prop := CxOk x b_H_cards 1 wl_H_cards R_H (some .int) rm_H_cards "cards"
abbrev K_H_cards (l : Launch) (D : va_G) (Λ : Lam) (σ : Mem) (c : Nat → Nat) (P : Int → Mem → Prop) : Prop := Ct l D y_H_cards wl_H_cards rm_H_cards [.ref (c 0)] Λ σ (pI Λ P)
abbrev N_H_cards_0 (x : Cx) (P : Int → Mem → Prop) (Λ : Lam) (σ : Mem) (c : Nat → Nat) : Prop := AtG x (pI Λ P) 1 0 0 0 Λ σ [(0, .ref (c 0))] []
theorem e_H_cards {l : Launch} {D : va_G} {Λ : Lam} {σ : Mem} {c : Nat → Nat} {P : Int → Mem → Prop} (h : ∀ x : Cx, xl x = l → xD x = D → X_H_cards x → N_H_cards_0 x P Λ σ c) : K_H_cards l D Λ σ c P := Ct.of (by decide) rfl (Nat.le_of_ble_eq_true rfl) h
set_option maxHeartbeats 4000000 in
set_option maxRecDepth 100000 in
theorem u_H_cards_0 {x : Cx} (hx : X_H_cards x) {P : Int → Mem → Prop} {Λ : Lam} {σ : Mem} {c : Nat → Nat} (hL : LayC Λ c) (T : P (iOr (σ.1 304 (c 0)) (iShl (σ.1 305 (c 0)) 8)) σ) : N_H_cards_0 x P Λ σ c := by
  obtain ⟨hex, hb, hml, hown, hts, hr, hlk, hR, hnm, hAs, hNW⟩ := hx
  obtain ⟨hLH, ⟨cA1, hLA1⟩, ⟨hLR2, cA3, hLA3⟩, hLO, ⟨cA5, hLA5⟩, ⟨hLR6, cA7, hLA7⟩⟩ := hL
  refine ⟨(), fun hK hA ls H locs hl hP hS => ?_⟩
  refine lv_aload_n hex hb d_H_cards_0 rfl (lv_at hl 0 rfl) ?_
  refine r_getI (ci := 3) (C := R_H) (T := F_H) (N := 8) hex hb hts (fun w h => List.mem_cons_of_mem _ (in_H w h)) hown hK hP hLH rfl 4 (by decide) (hts _ (List.mem_cons_of_mem _ bg_49)) (fun _ h9 => h9) rfl d_H_cards_1 ?_
  refine lv_aload_n hex hb d_H_cards_4 rfl (lv_at hl 0 rfl) ?_
  refine r_getI (ci := 3) (C := R_H) (T := F_H) (N := 8) hex hb hts (fun w h => List.mem_cons_of_mem _ (in_H w h)) hown hK hP hLH rfl 5 (by decide) (hts _ (List.mem_cons_of_mem _ bg_50)) (fun _ h9 => h9) rfl d_H_cards_5 ?_
  refine lv_bipush (v := iI 8) hex hb d_H_cards_8 rfl ?_
  refine r_ishl hex hb d_H_cards_10 ?_
  refine r_ior hex hb d_H_cards_11 ?_
  exact r_iret hex hb hr hlk hK hA hP hS ⟨_, rfl, rfl, T⟩ (Nat.zero_le _) (Nat.zero_le _) d_H_cards_12
set_option maxRecDepth 100000 in
theorem w_H_cards {l : Launch} {D : va_G} {Λ : Lam} {σ : Mem} {c : Nat → Nat} {P : Int → Mem → Prop} (hL : LayC Λ c) (T : P (iOr (σ.1 304 (c 0)) (iShl (σ.1 305 (c 0)) 8)) σ) : K_H_cards l D Λ σ c P := e_H_cards (fun x hl hD hx => by subst hl; subst hD; exact u_H_cards_0 hx hL T)
-- DirtyCardHeap.marked()I
def rm_H_marked : Room := { frames := 1, cells := 0, slots := 0, locals := 22 }
abbrev X_H_marked (x : Cx) : Prop := CxOk x b_H_marked 4 wl_H_marked R_H (some .int) rm_H_marked "marked"
abbrev K_H_marked (l : Launch) (D : va_G) (Λ : Lam) (σ : Mem) (c : Nat → Nat) (P : Int → Mem → Prop) : Prop := Ct l D y_H_marked wl_H_marked rm_H_marked [.ref (c 0)] Λ σ (pI Λ P)
abbrev N_H_marked_0 (x : Cx) (P : Int → Mem → Prop) (Λ : Lam) (σ : Mem) (c : Nat → Nat) : Prop := AtG x (pI Λ P) 4 0 0 0 Λ σ [(0, .ref (c 0))] []
abbrev N_H_marked_4 (x : Cx) (P : Int → Mem → Prop) (Λ : Lam) (σ : Mem) (c : Nat → Nat) (i1 : Int) (i2 : Int) : Prop := AtG x (pI Λ P) 4 4 0 0 Λ σ [(0, .ref (c 0)), (1, .int (iI i1)), (2, .int (iI i2))] []
theorem e_H_marked {l : Launch} {D : va_G} {Λ : Lam} {σ : Mem} {c : Nat → Nat} {P : Int → Mem → Prop} (h : ∀ x : Cx, xl x = l → xD x = D → X_H_marked x → N_H_marked_0 x P Λ σ c) : K_H_marked l D Λ σ c P := Ct.of (by decide) rfl (Nat.le_of_ble_eq_true rfl) h
set_option maxHeartbeats 4000000 in
set_option maxRecDepth 100000 in
theorem u_H_marked_0 {x : Cx} (hx : X_H_marked x) {P : Int → Mem → Prop} {Λ : Lam} {σ : Mem} {c : Nat → Nat} (hL : LayC Λ c) (T : N_H_marked_4 x P Λ σ c 0 0) : N_H_marked_0 x P Λ σ c := by
  obtain ⟨hex, hb, hml, hown, hts, hr, hlk, hR, hnm, hAs, hNW⟩ := hx
  obtain ⟨hLH, ⟨cA1, hLA1⟩, ⟨hLR2, cA3, hLA3⟩, hLO, ⟨cA5, hLA5⟩, ⟨hLR6, cA7, hLA7⟩⟩ := hL
  refine ⟨(), fun hK hA ls H locs hl hP hS => ?_⟩
  refine lv_iconst (v := iI 0) hex hb d_H_marked_0 rfl ?_
  refine lv_istore_n (lv' := [(1, .int (iI 0)), (0, .ref (c 0))]) hex hb d_H_marked_1 rfl hl (Nat.le_of_ble_eq_true rfl) rfl (fun ls hl => ?_)
  refine lv_iconst (v := iI 0) hex hb d_H_marked_2 rfl ?_
  refine lv_istore_n (lv' := [(2, .int (iI 0)), (1, .int (iI 0)), (0, .ref (c 0))]) hex hb d_H_marked_3 rfl hl (Nat.le_of_ble_eq_true rfl) rfl (fun ls hl => ?_)
  exact AtG.use T hK hA _ _ _ (lv_sub hl [2, 1, 0] rfl) hP hS
set_option maxHeartbeats 4000000 in
set_option maxRecDepth 100000 in
theorem u_H_marked_4 {x : Cx} (hx : X_H_marked x) {P : Int → Mem → Prop} {Λ : Lam} {σ : Mem} {c : Nat → Nat} {i1 : Int} {i2 : Int} (hL : LayC Λ c) (T : rng i2 ∧ ((64 ≤ i2 → P i1 σ) ∧ (¬ 64 ≤ i2 → K_O_thingAt (xl x) (xD x) Λ σ c i2 (fun o2r σa2 => ((o2r = none → N_H_marked_4 x P Λ σa2 c i1 (i2 + 1)) ∧ (∀ t3, o2r = some t3 → isT Λ t3 ∧ rng (σa2.1 204 t3) ∧ (((σa2.1 204 t3) = 0 → N_H_marked_4 x P Λ σa2 c i1 (i2 + 1)) ∧ (¬ (σa2.1 204 t3) = 0 → rng (σa2.1 205 t3) ∧ (((σa2.1 205 t3) = 0 → N_H_marked_4 x P Λ σa2 c (i1 + 1) (i2 + 1)) ∧ (¬ (σa2.1 205 t3) = 0 → N_H_marked_4 x P Λ σa2 c (i1 + 1001) (i2 + 1))))))))))) : N_H_marked_4 x P Λ σ c i1 i2 := by
  obtain ⟨hex, hb, hml, hown, hts, hr, hlk, hR, hnm, hAs, hNW⟩ := hx
  obtain ⟨hLH, ⟨cA1, hLA1⟩, ⟨hLR2, cA3, hLA3⟩, hLO, ⟨cA5, hLA5⟩, ⟨hLR6, cA7, hLA7⟩⟩ := hL
  refine ⟨(), fun hK hA ls H locs hl hP hS => ?_⟩
  refine lv_iload_n hex hb d_H_marked_4 rfl (lv_at hl 2 rfl) ?_
  refine lv_bipush (v := iI 64) hex hb d_H_marked_5 rfl ?_
  obtain ⟨h1, T⟩ := T
  obtain ⟨T1, T2⟩ := T
  refine r_icmp_ge (a := i2) (b := 64) (tgt := 53) hex hb h1 ⟨by omega, by omega⟩ d_H_marked_7 rfl (fun hc => ?_) (fun hc => ?_)
  · have T := T1 hc
    refine lv_iload_n hex hb d_H_marked_53 rfl (lv_at hl 1 rfl) ?_
    exact r_iret hex hb hr hlk hK hA hP hS ⟨_, rfl, rfl, T⟩ (Nat.zero_le _) (Nat.zero_le _) d_H_marked_54
  · have T := T2 hc
    refine lv_aload_n hex hb d_H_marked_10 rfl (lv_at hl 0 rfl) ?_
    refine r_getR (ci := 3) (C := R_H) (T := F_H) (N := 8) hex hb hts (fun w h => List.mem_cons_of_mem _ (in_H w h)) hown hK hP hLH rfl 2 (by decide) (hts _ (List.mem_cons_of_mem _ bg_47)) (fun _ h9 => h9) rfl d_H_marked_11 ?_
    refine lv_iload_n hex hb d_H_marked_14 rfl (lv_at hl 2 rfl) ?_
    refine r_call (va_runV (As := [.int (iI i2)]) (rest := []) ⟨hex, hb, hml, hown, hts⟩ (Ct.use T H.size) (cwV 1 hts (gdV bg_384 bg_202 bg_203 bg_3 bc_O_thingAt) rfl rfl rfl hdV_O_thingAt ⟨by rw [hR]; exact Nat.le_of_ble_eq_true rfl, by rw [hR]; exact Nat.le_of_ble_eq_true rfl⟩) (px_preV (ci := 0) hNW hK hP hLO rfl) rfl rfl hl.1 rfl (lv_room (Nat.le_of_ble_eq_true rfl)) d_H_marked_15 ⟨by rw [hR]; exact Nat.le_of_ble_eq_true rfl, by rw [hR]; exact Nat.le_of_ble_eq_true rfl⟩) hS hA hAs (fun v Λ1 σ1 H locs hp hP hK hA hS => ?_)
    obtain ⟨o2r, rfl, rfl, T⟩ := hp
    generalize σ1 = σa2 at hP T
    refine W.eq (g2 := F0 (xm x) 18 ls [va_rf o2r]) rfl ?_
    refine r_astore_n (o := o2r) (lv' := [(3, va_rf o2r), (0, .ref (c 0)), (1, .int (iI i1)), (2, .int (iI i2))]) hex hb d_H_marked_18 rfl hl (Nat.le_of_ble_eq_true rfl) rfl (fun ls hl => ?_)
    refine r_aload_n (o := o2r) hex hb d_H_marked_19 rfl (lv_at hl 0 rfl) ?_
    obtain ⟨Tn, Ts⟩ := T
    refine r_ifnull (o := o2r) (tgt := 47) hex hb d_H_marked_20 rfl (fun hn => ?_) (fun t3 ht4 => ?_)
    · have T := Tn hn
      have hl : lv_has ls 4 [(3, va_rf none), (0, .ref (c 0)), (1, .int (iI i1)), (2, .int (iI i2))] := by have h9 := hl; rw [hn] at h9; exact h9
      refine lv_iinc (v := iI (i2 + 1)) (lv' := [(2, .int (iI (i2 + 1))), (3, va_rf none), (0, .ref (c 0)), (1, .int (iI i1))]) hex hb d_H_marked_47 hl (k := 3) rfl (iI_add _ _) (Nat.le_of_ble_eq_true rfl) rfl (fun ls hl => ?_)
      refine lv_goto (tgt := 4) hex hb d_H_marked_50 rfl ?_
      exact AtG.use T hK hA _ _ _ (lv_sub hl [2, 3, 0] rfl) hP hS
    · have T := Ts t3 ht4
      have hl : lv_has ls 4 [(3, .ref t3), (0, .ref (c 0)), (1, .int (iI i1)), (2, .int (iI i2))] := by have h9 := hl; rw [ht4] at h9; exact h9
      refine lv_aload_n hex hb d_H_marked_23 rfl (lv_at hl 0 rfl) ?_
      obtain ⟨⟨hT5, ⟨cT5, hF5⟩, hn5⟩, T⟩ := T
      refine r_getI (ci := 2) (C := R_T) (T := F_T) (N := 7) hex hb hts (fun w h => List.mem_cons_of_mem _ (in_T w h)) hown hK hP hT5 rfl 4 (by decide) (hts _ (List.mem_cons_of_mem _ bg_240)) (fun _ h9 => h9) rfl d_H_marked_24 ?_
      obtain ⟨h6, T⟩ := T
      obtain ⟨T1, T2⟩ := T
      refine r_if_eq (a := σa2.1 204 t3) (tgt := 47) hex hb h6 d_H_marked_27 rfl (fun hc => ?_) (fun hc => ?_)
      · have T := T1 hc
        refine lv_iinc (v := iI (i2 + 1)) (lv' := [(2, .int (iI (i2 + 1))), (3, .ref t3), (0, .ref (c 0)), (1, .int (iI i1))]) hex hb d_H_marked_47 hl (k := 3) rfl (iI_add _ _) (Nat.le_of_ble_eq_true rfl) rfl (fun ls hl => ?_)
        refine lv_goto (tgt := 4) hex hb d_H_marked_50 rfl ?_
        exact AtG.use T hK hA _ _ _ (lv_sub hl [2, 3, 0] rfl) hP hS
      · have T := T2 hc
        refine lv_iload_n hex hb d_H_marked_30 rfl (lv_at hl 2 rfl) ?_
        refine lv_aload_n hex hb d_H_marked_31 rfl (lv_at hl 0 rfl) ?_
        refine r_getI (ci := 2) (C := R_T) (T := F_T) (N := 7) hex hb hts (fun w h => List.mem_cons_of_mem _ (in_T w h)) hown hK hP hT5 rfl 5 (by decide) (hts _ (List.mem_cons_of_mem _ bg_242)) (fun _ h9 => h9) rfl d_H_marked_32 ?_
        obtain ⟨h7, T⟩ := T
        obtain ⟨T1, T2⟩ := T
        refine r_if_eq (a := σa2.1 205 t3) (tgt := 44) hex hb h7 d_H_marked_35 rfl (fun hc => ?_) (fun hc => ?_)
        · have T := T1 hc
          refine lv_iconst (v := iI 1) hex hb d_H_marked_44 rfl ?_
          refine r_iadd hex hb d_H_marked_45 ?_
          refine lv_istore_n (lv' := [(1, .int (iI (i1 + 1))), (3, .ref t3), (0, .ref (c 0)), (2, .int (iI i2))]) hex hb d_H_marked_46 rfl hl (Nat.le_of_ble_eq_true rfl) rfl (fun ls hl => ?_)
          refine lv_iinc (v := iI (i2 + 1)) (lv' := [(2, .int (iI (i2 + 1))), (1, .int (iI (i1 + 1))), (3, .ref t3), (0, .ref (c 0))]) hex hb d_H_marked_47 hl (k := 3) rfl (iI_add _ _) (Nat.le_of_ble_eq_true rfl) rfl (fun ls hl => ?_)
          refine lv_goto (tgt := 4) hex hb d_H_marked_50 rfl ?_
          exact AtG.use T hK hA _ _ _ (lv_sub hl [3, 1, 0] rfl) hP hS
        · have T := T2 hc
          refine lv_sipush (v := iI 1001) hex hb d_H_marked_38 rfl ?_
          refine lv_goto (tgt := 45) hex hb d_H_marked_41 rfl ?_
          refine r_iadd hex hb d_H_marked_45 ?_
          refine lv_istore_n (lv' := [(1, .int (iI (i1 + 1001))), (3, .ref t3), (0, .ref (c 0)), (2, .int (iI i2))]) hex hb d_H_marked_46 rfl hl (Nat.le_of_ble_eq_true rfl) rfl (fun ls hl => ?_)
          refine lv_iinc (v := iI (i2 + 1)) (lv' := [(2, .int (iI (i2 + 1))), (1, .int (iI (i1 + 1001))), (3, .ref t3), (0, .ref (c 0))]) hex hb d_H_marked_47 hl (k := 3) rfl (iI_add _ _) (Nat.le_of_ble_eq_true rfl) rfl (fun ls hl => ?_)
          refine lv_goto (tgt := 4) hex hb d_H_marked_50 rfl ?_
          exact AtG.use T hK hA _ _ _ (lv_sub hl [3, 1, 0] rfl) hP hS
