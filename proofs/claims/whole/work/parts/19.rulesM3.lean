-- DirtyCardHeapModel.clear(I)Z
def rm_M_clear : Room := { frames := 1, cells := 0, slots := 0, locals := 20 }
abbrev X_M_clear (x : Cx) : Prop := CxOk x b_M_clear 2 wl_M_clear R_M (some .boolean) rm_M_clear "clear"
abbrev K_M_clear (l : Launch) (D : va_G) (Λ : Lam) (σ : Mem) (r : Nat → Nat) (a1 : Int) (P : Int → Mem → Prop) : Prop := Ct l D y_M_clear wl_M_clear rm_M_clear [.ref (r 0), .int (iI a1)] Λ σ (pI Λ P)
abbrev N_M_clear_0 (x : Cx) (P : Int → Mem → Prop) (Λ : Lam) (σ : Mem) (r : Nat → Nat) (a1 : Int) : Prop := AtG x (pI Λ P) 2 0 0 0 Λ σ [(0, .ref (r 0)), (1, .int (iI a1))] []
theorem e_M_clear {l : Launch} {D : va_G} {Λ : Lam} {σ : Mem} {r : Nat → Nat} {a1 : Int} {P : Int → Mem → Prop} (h : ∀ x : Cx, xl x = l → xD x = D → X_M_clear x → N_M_clear_0 x P Λ σ r a1) : K_M_clear l D Λ σ r a1 P := Ct.of (by decide) rfl (Nat.le_of_ble_eq_true rfl) h
set_option maxHeartbeats 4000000 in
set_option maxRecDepth 100000 in
theorem u_M_clear_0 {x : Cx} (hx : X_M_clear x) {P : Int → Mem → Prop} {Λ : Lam} {σ : Mem} {r : Nat → Nat} {a1 : Int} (hL : LayM Λ r) (T : K_M_isRoot (xl x) (xD x) Λ σ a1 (fun z1 σa1 => rng z1 ∧ ((¬ z1 = 0 → 0 ≤ a1 ∧ a1 < (6 : Int) ∧ P 1 (upY σa1 7 (r 7) a1.toNat (-1))) ∧ (z1 = 0 → P 0 σa1)))) : N_M_clear_0 x P Λ σ r a1 := by
  obtain ⟨hex, hb, hml, hown, hts, hr, hlk, hR, hnm, hAs, hNW⟩ := hx
  obtain ⟨hLM, hLA⟩ := hL
  refine ⟨(), fun hK hA ls H locs hl hP hS => ?_⟩
  refine lv_iload_n hex hb d_M_clear_0 rfl (lv_at hl 1 rfl) ?_
  refine r_call (va_runS (As := [.int (iI a1)]) (rest := []) ⟨hex, hb, hml, hown, hts⟩ (Ct.use T H.size) (cwS 1 hts (gdS bg_520 bg_521 bg_4 bc_M_isRoot) rfl rfl rfl hdV_M_isRoot ⟨by rw [hR]; exact Nat.le_of_ble_eq_true rfl, by rw [hR]; exact Nat.le_of_ble_eq_true rfl⟩) (px_preS hNW hK hP) rfl rfl hl.1 rfl (lv_room (Nat.le_of_ble_eq_true rfl)) d_M_clear_1 ⟨by rw [hR]; exact Nat.le_of_ble_eq_true rfl, by rw [hR]; exact Nat.le_of_ble_eq_true rfl⟩) hS hA hAs (fun v Λ1 σ1 H locs hp hP hK hA hS => ?_)
  obtain ⟨z1, rfl, rfl, T⟩ := hp
  generalize σ1 = σa1 at hP T
  refine W.eq (g2 := F0 (xm x) 4 ls [.int (iI z1)]) rfl ?_
  obtain ⟨h2, T⟩ := T
  obtain ⟨T1, T2⟩ := T
  refine r_if_ne (a := z1) (tgt := 9) hex hb h2 d_M_clear_4 rfl (fun hc => ?_) (fun hc => ?_)
  · have T := T1 hc
    refine lv_aload_n hex hb d_M_clear_9 rfl (lv_at hl 0 rfl) ?_
    refine r_getR (ci := 4) (C := R_M) (T := F_M) (N := 22) hex hb hts (fun w h => List.mem_cons_of_mem _ (in_M w h)) hown hK hP hLM rfl 8 (by decide) (hts _ (List.mem_cons_of_mem _ bg_399)) (fun _ h9 => h9) rfl d_M_clear_10 ?_
    refine lv_iload_n hex hb d_M_clear_13 rfl (lv_at hl 1 rfl) ?_
    refine lv_iconst (v := iI (-1)) hex hb d_M_clear_14 rfl ?_
    obtain ⟨h3, T⟩ := T
    obtain ⟨h4, T⟩ := T
    refine r_iast (v := (-1)) hex hb hK hP hA hS (hLA 7 6 (by decide)).choose_spec (by decide) (by decide) h3 h4 d_M_clear_15 (fun H locs hP hS => ?_)
    refine lv_iconst (v := iI 1) hex hb d_M_clear_16 rfl ?_
    exact r_zret hex hb hr hlk hK hA hP hS (by decide) ⟨_, rfl, rfl, T⟩ (Nat.zero_le _) (Nat.zero_le _) d_M_clear_17
  · have T := T2 hc
    refine lv_iconst (v := iI 0) hex hb d_M_clear_7 rfl ?_
    exact r_zret hex hb hr hlk hK hA hP hS (by decide) ⟨_, rfl, rfl, T⟩ (Nat.zero_le _) (Nat.zero_le _) d_M_clear_8
set_option maxRecDepth 100000 in
theorem w_M_clear {l : Launch} {D : va_G} {Λ : Lam} {σ : Mem} {r : Nat → Nat} {a1 : Int} {P : Int → Mem → Prop} (hL : LayM Λ r) (T : K_M_isRoot l D Λ σ a1 (fun z1 σa1 => rng z1 ∧ ((¬ z1 = 0 → 0 ≤ a1 ∧ a1 < (6 : Int) ∧ P 1 (upY σa1 7 (r 7) a1.toNat (-1))) ∧ (z1 = 0 → P 0 σa1)))) : K_M_clear l D Λ σ r a1 P := e_M_clear (fun x hl hD hx => by subst hl; subst hD; exact u_M_clear_0 hx hL T)
-- DirtyCardHeapModel.copy(II)Z
def rm_M_copy : Room := { frames := 1, cells := 0, slots := 0, locals := 20 }
abbrev X_M_copy (x : Cx) : Prop := CxOk x b_M_copy 3 wl_M_copy R_M (some .boolean) rm_M_copy "copy"
abbrev K_M_copy (l : Launch) (D : va_G) (Λ : Lam) (σ : Mem) (r : Nat → Nat) (a1 : Int) (a2 : Int) (P : Int → Mem → Prop) : Prop := Ct l D y_M_copy wl_M_copy rm_M_copy [.ref (r 0), .int (iI a1), .int (iI a2)] Λ σ (pI Λ P)
abbrev N_M_copy_0 (x : Cx) (P : Int → Mem → Prop) (Λ : Lam) (σ : Mem) (r : Nat → Nat) (a1 : Int) (a2 : Int) : Prop := AtG x (pI Λ P) 3 0 0 0 Λ σ [(0, .ref (r 0)), (1, .int (iI a1)), (2, .int (iI a2))] []
theorem e_M_copy {l : Launch} {D : va_G} {Λ : Lam} {σ : Mem} {r : Nat → Nat} {a1 : Int} {a2 : Int} {P : Int → Mem → Prop} (h : ∀ x : Cx, xl x = l → xD x = D → X_M_copy x → N_M_copy_0 x P Λ σ r a1 a2) : K_M_copy l D Λ σ r a1 a2 P := Ct.of (by decide) rfl (Nat.le_of_ble_eq_true rfl) h
set_option maxHeartbeats 4000000 in
set_option maxRecDepth 100000 in
theorem u_M_copy_0 {x : Cx} (hx : X_M_copy x) {P : Int → Mem → Prop} {Λ : Lam} {σ : Mem} {r : Nat → Nat} {a1 : Int} {a2 : Int} (hL : LayM Λ r) (T : K_M_isRoot (xl x) (xD x) Λ σ a1 (fun z1 σa1 => rng z1 ∧ ((z1 = 0 → P 0 σa1) ∧ (¬ z1 = 0 → K_M_isRoot (xl x) (xD x) Λ σa1 a2 (fun z3 σa3 => rng z3 ∧ ((¬ z3 = 0 → 0 ≤ a2 ∧ a2 < (6 : Int) ∧ 0 ≤ a1 ∧ a1 < (6 : Int) ∧ P 1 (upY σa3 7 (r 7) a1.toNat (σa3.2.1 7 (r 7) a2.toNat))) ∧ (z3 = 0 → P 0 σa3))))))) : N_M_copy_0 x P Λ σ r a1 a2 := by
  obtain ⟨hex, hb, hml, hown, hts, hr, hlk, hR, hnm, hAs, hNW⟩ := hx
  obtain ⟨hLM, hLA⟩ := hL
  refine ⟨(), fun hK hA ls H locs hl hP hS => ?_⟩
  refine lv_iload_n hex hb d_M_copy_0 rfl (lv_at hl 1 rfl) ?_
  refine r_call (va_runS (As := [.int (iI a1)]) (rest := []) ⟨hex, hb, hml, hown, hts⟩ (Ct.use T H.size) (cwS 1 hts (gdS bg_520 bg_521 bg_4 bc_M_isRoot) rfl rfl rfl hdV_M_isRoot ⟨by rw [hR]; exact Nat.le_of_ble_eq_true rfl, by rw [hR]; exact Nat.le_of_ble_eq_true rfl⟩) (px_preS hNW hK hP) rfl rfl hl.1 rfl (lv_room (Nat.le_of_ble_eq_true rfl)) d_M_copy_1 ⟨by rw [hR]; exact Nat.le_of_ble_eq_true rfl, by rw [hR]; exact Nat.le_of_ble_eq_true rfl⟩) hS hA hAs (fun v Λ1 σ1 H locs hp hP hK hA hS => ?_)
  obtain ⟨z1, rfl, rfl, T⟩ := hp
  generalize σ1 = σa1 at hP T
  refine W.eq (g2 := F0 (xm x) 4 ls [.int (iI z1)]) rfl ?_
  obtain ⟨h2, T⟩ := T
  obtain ⟨T1, T2⟩ := T
  refine r_if_eq (a := z1) (tgt := 14) hex hb h2 d_M_copy_4 rfl (fun hc => ?_) (fun hc => ?_)
  · have T := T1 hc
    refine lv_iconst (v := iI 0) hex hb d_M_copy_14 rfl ?_
    exact r_zret hex hb hr hlk hK hA hP hS (by decide) ⟨_, rfl, rfl, T⟩ (Nat.zero_le _) (Nat.zero_le _) d_M_copy_15
  · have T := T2 hc
    refine lv_iload_n hex hb d_M_copy_7 rfl (lv_at hl 2 rfl) ?_
    refine r_call (va_runS (As := [.int (iI a2)]) (rest := []) ⟨hex, hb, hml, hown, hts⟩ (Ct.use T H.size) (cwS 1 hts (gdS bg_520 bg_521 bg_4 bc_M_isRoot) rfl rfl rfl hdV_M_isRoot ⟨by rw [hR]; exact Nat.le_of_ble_eq_true rfl, by rw [hR]; exact Nat.le_of_ble_eq_true rfl⟩) (px_preS hNW hK hP) rfl rfl hl.1 rfl (lv_room (Nat.le_of_ble_eq_true rfl)) d_M_copy_8 ⟨by rw [hR]; exact Nat.le_of_ble_eq_true rfl, by rw [hR]; exact Nat.le_of_ble_eq_true rfl⟩) hS hA hAs (fun v Λ1 σ1 H locs hp hP hK hA hS => ?_)
    obtain ⟨z3, rfl, rfl, T⟩ := hp
    generalize σ1 = σa3 at hP T
    refine W.eq (g2 := F0 (xm x) 11 ls [.int (iI z3)]) rfl ?_
    obtain ⟨h4, T⟩ := T
    obtain ⟨T1, T2⟩ := T
    refine r_if_ne (a := z3) (tgt := 16) hex hb h4 d_M_copy_11 rfl (fun hc => ?_) (fun hc => ?_)
    · have T := T1 hc
      refine lv_aload_n hex hb d_M_copy_16 rfl (lv_at hl 0 rfl) ?_
      refine r_getR (ci := 4) (C := R_M) (T := F_M) (N := 22) hex hb hts (fun w h => List.mem_cons_of_mem _ (in_M w h)) hown hK hP hLM rfl 8 (by decide) (hts _ (List.mem_cons_of_mem _ bg_399)) (fun _ h9 => h9) rfl d_M_copy_17 ?_
      refine lv_iload_n hex hb d_M_copy_20 rfl (lv_at hl 1 rfl) ?_
      refine lv_aload_n hex hb d_M_copy_21 rfl (lv_at hl 0 rfl) ?_
      refine r_getR (ci := 4) (C := R_M) (T := F_M) (N := 22) hex hb hts (fun w h => List.mem_cons_of_mem _ (in_M w h)) hown hK hP hLM rfl 8 (by decide) (hts _ (List.mem_cons_of_mem _ bg_399)) (fun _ h9 => h9) rfl d_M_copy_22 ?_
      refine lv_iload_n hex hb d_M_copy_25 rfl (lv_at hl 2 rfl) ?_
      obtain ⟨h5, T⟩ := T
      obtain ⟨h6, T⟩ := T
      refine r_iald hex hb hK hP (hLA 7 6 (by decide)).choose_spec (by decide) (by decide) h5 h6 d_M_copy_26 ?_
      obtain ⟨h7, T⟩ := T
      obtain ⟨h8, T⟩ := T
      refine r_iast (v := σa3.2.1 7 (r 7) a2.toNat) hex hb hK hP hA hS (hLA 7 6 (by decide)).choose_spec (by decide) (by decide) h7 h8 d_M_copy_27 (fun H locs hP hS => ?_)
      refine lv_iconst (v := iI 1) hex hb d_M_copy_28 rfl ?_
      exact r_zret hex hb hr hlk hK hA hP hS (by decide) ⟨_, rfl, rfl, T⟩ (Nat.zero_le _) (Nat.zero_le _) d_M_copy_29
    · have T := T2 hc
      refine lv_iconst (v := iI 0) hex hb d_M_copy_14 rfl ?_
      exact r_zret hex hb hr hlk hK hA hP hS (by decide) ⟨_, rfl, rfl, T⟩ (Nat.zero_le _) (Nat.zero_le _) d_M_copy_15
set_option maxRecDepth 100000 in
theorem w_M_copy {l : Launch} {D : va_G} {Λ : Lam} {σ : Mem} {r : Nat → Nat} {a1 : Int} {a2 : Int} {P : Int → Mem → Prop} (hL : LayM Λ r) (T : K_M_isRoot l D Λ σ a1 (fun z1 σa1 => rng z1 ∧ ((z1 = 0 → P 0 σa1) ∧ (¬ z1 = 0 → K_M_isRoot l D Λ σa1 a2 (fun z3 σa3 => rng z3 ∧ ((¬ z3 = 0 → 0 ≤ a2 ∧ a2 < (6 : Int) ∧ 0 ≤ a1 ∧ a1 < (6 : Int) ∧ P 1 (upY σa3 7 (r 7) a1.toNat (σa3.2.1 7 (r 7) a2.toNat))) ∧ (z3 = 0 → P 0 σa3))))))) : K_M_copy l D Λ σ r a1 a2 P := e_M_copy (fun x hl hD hx => by subst hl; subst hD; exact u_M_copy_0 hx hL T)
-- DirtyCardHeapModel.check(III)I
def rm_M_check : Room := { frames := 1, cells := 0, slots := 0, locals := 20 }
abbrev X_M_check (x : Cx) : Prop := CxOk x b_M_check 5 wl_M_check R_M (some .int) rm_M_check "check"
abbrev K_M_check (l : Launch) (D : va_G) (Λ : Lam) (σ : Mem) (r : Nat → Nat) (a1 : Int) (a2 : Int) (a3 : Int) (P : Int → Mem → Prop) : Prop := Ct l D y_M_check wl_M_check rm_M_check [.ref (r 0), .int (iI a1), .int (iI a2), .int (iI a3)] Λ σ (pI Λ P)
abbrev N_M_check_0 (x : Cx) (P : Int → Mem → Prop) (Λ : Lam) (σ : Mem) (r : Nat → Nat) (a1 : Int) (a2 : Int) (a3 : Int) : Prop := AtG x (pI Λ P) 5 0 0 0 Λ σ [(0, .ref (r 0)), (1, .int (iI a1)), (2, .int (iI a2)), (3, .int (iI a3))] []
theorem e_M_check {l : Launch} {D : va_G} {Λ : Lam} {σ : Mem} {r : Nat → Nat} {a1 : Int} {a2 : Int} {a3 : Int} {P : Int → Mem → Prop} (h : ∀ x : Cx, xl x = l → xD x = D → X_M_check x → N_M_check_0 x P Λ σ r a1 a2 a3) : K_M_check l D Λ σ r a1 a2 a3 P := Ct.of (by decide) rfl (Nat.le_of_ble_eq_true rfl) h
set_option maxHeartbeats 4000000 in
set_option maxRecDepth 100000 in
theorem u_M_check_0 {x : Cx} (hx : X_M_check x) {P : Int → Mem → Prop} {Λ : Lam} {σ : Mem} {r : Nat → Nat} {a1 : Int} {a2 : Int} {a3 : Int} (hL : LayM Λ r) (T : K_M_isRoot (xl x) (xD x) Λ σ a1 (fun z1 σa1 => rng z1 ∧ ((z1 = 0 → P (-2) σa1) ∧ (¬ z1 = 0 → K_M_isRoot (xl x) (xD x) Λ σa1 a2 (fun z3 σa3 => rng z3 ∧ ((¬ z3 = 0 → 0 ≤ a2 ∧ a2 < (6 : Int) ∧ rng (σa3.2.1 7 (r 7) a2.toNat) ∧ ((0 ≤ (σa3.2.1 7 (r 7) a2.toNat) → rng a3 ∧ ((a3 < 0 → P (-4) σa3) ∧ (¬ a3 < 0 → 0 ≤ (σa3.2.1 7 (r 7) a2.toNat) ∧ (σa3.2.1 7 (r 7) a2.toNat) < (90 : Int) ∧ rng (σa3.2.1 3 (r 3) (σa3.2.1 7 (r 7) a2.toNat).toNat) ∧ ((a3 < (σa3.2.1 3 (r 3) (σa3.2.1 7 (r 7) a2.toNat).toNat) → P 0 σa3) ∧ (¬ a3 < (σa3.2.1 3 (r 3) (σa3.2.1 7 (r 7) a2.toNat).toNat) → P (-4) σa3))))) ∧ (¬ 0 ≤ (σa3.2.1 7 (r 7) a2.toNat) → P (-3) σa3))) ∧ (z3 = 0 → P (-2) σa3))))))) : N_M_check_0 x P Λ σ r a1 a2 a3 := by
  obtain ⟨hex, hb, hml, hown, hts, hr, hlk, hR, hnm, hAs, hNW⟩ := hx
  obtain ⟨hLM, hLA⟩ := hL
  refine ⟨(), fun hK hA ls H locs hl hP hS => ?_⟩
  refine lv_iload_n hex hb d_M_check_0 rfl (lv_at hl 1 rfl) ?_
  refine r_call (va_runS (As := [.int (iI a1)]) (rest := []) ⟨hex, hb, hml, hown, hts⟩ (Ct.use T H.size) (cwS 1 hts (gdS bg_520 bg_521 bg_4 bc_M_isRoot) rfl rfl rfl hdV_M_isRoot ⟨by rw [hR]; exact Nat.le_of_ble_eq_true rfl, by rw [hR]; exact Nat.le_of_ble_eq_true rfl⟩) (px_preS hNW hK hP) rfl rfl hl.1 rfl (lv_room (Nat.le_of_ble_eq_true rfl)) d_M_check_1 ⟨by rw [hR]; exact Nat.le_of_ble_eq_true rfl, by rw [hR]; exact Nat.le_of_ble_eq_true rfl⟩) hS hA hAs (fun v Λ1 σ1 H locs hp hP hK hA hS => ?_)
  obtain ⟨z1, rfl, rfl, T⟩ := hp
  generalize σ1 = σa1 at hP T
  refine W.eq (g2 := F0 (xm x) 4 ls [.int (iI z1)]) rfl ?_
  obtain ⟨h2, T⟩ := T
  obtain ⟨T1, T2⟩ := T
  refine r_if_eq (a := z1) (tgt := 14) hex hb h2 d_M_check_4 rfl (fun hc => ?_) (fun hc => ?_)
  · have T := T1 hc
    refine lv_bipush (v := iI (-2)) hex hb d_M_check_14 rfl ?_
    exact r_iret hex hb hr hlk hK hA hP hS ⟨_, rfl, rfl, T⟩ (Nat.zero_le _) (Nat.zero_le _) d_M_check_16
  · have T := T2 hc
    refine lv_iload_n hex hb d_M_check_7 rfl (lv_at hl 2 rfl) ?_
    refine r_call (va_runS (As := [.int (iI a2)]) (rest := []) ⟨hex, hb, hml, hown, hts⟩ (Ct.use T H.size) (cwS 1 hts (gdS bg_520 bg_521 bg_4 bc_M_isRoot) rfl rfl rfl hdV_M_isRoot ⟨by rw [hR]; exact Nat.le_of_ble_eq_true rfl, by rw [hR]; exact Nat.le_of_ble_eq_true rfl⟩) (px_preS hNW hK hP) rfl rfl hl.1 rfl (lv_room (Nat.le_of_ble_eq_true rfl)) d_M_check_8 ⟨by rw [hR]; exact Nat.le_of_ble_eq_true rfl, by rw [hR]; exact Nat.le_of_ble_eq_true rfl⟩) hS hA hAs (fun v Λ1 σ1 H locs hp hP hK hA hS => ?_)
    obtain ⟨z3, rfl, rfl, T⟩ := hp
    generalize σ1 = σa3 at hP T
    refine W.eq (g2 := F0 (xm x) 11 ls [.int (iI z3)]) rfl ?_
    obtain ⟨h4, T⟩ := T
    obtain ⟨T1, T2⟩ := T
    refine r_if_ne (a := z3) (tgt := 17) hex hb h4 d_M_check_11 rfl (fun hc => ?_) (fun hc => ?_)
    · have T := T1 hc
      refine lv_aload_n hex hb d_M_check_17 rfl (lv_at hl 0 rfl) ?_
      refine r_getR (ci := 4) (C := R_M) (T := F_M) (N := 22) hex hb hts (fun w h => List.mem_cons_of_mem _ (in_M w h)) hown hK hP hLM rfl 8 (by decide) (hts _ (List.mem_cons_of_mem _ bg_399)) (fun _ h9 => h9) rfl d_M_check_18 ?_
      refine lv_iload_n hex hb d_M_check_21 rfl (lv_at hl 2 rfl) ?_
      obtain ⟨h5, T⟩ := T
      obtain ⟨h6, T⟩ := T
      refine r_iald hex hb hK hP (hLA 7 6 (by decide)).choose_spec (by decide) (by decide) h5 h6 d_M_check_22 ?_
      refine lv_istore (lv' := [(4, .int (iI (σa3.2.1 7 (r 7) a2.toNat))), (0, .ref (r 0)), (1, .int (iI a1)), (2, .int (iI a2)), (3, .int (iI a3))]) hex hb d_M_check_23 hl (Nat.le_of_ble_eq_true rfl) rfl (fun ls hl => ?_)
      refine lv_iload hex hb d_M_check_25 (lv_at hl 0 rfl) ?_
      obtain ⟨h7, T⟩ := T
      obtain ⟨T1, T2⟩ := T
      refine r_if_ge (a := σa3.2.1 7 (r 7) a2.toNat) (tgt := 35) hex hb h7 d_M_check_27 rfl (fun hc => ?_) (fun hc => ?_)
      · have T := T1 hc
        refine lv_iload_n hex hb d_M_check_35 rfl (lv_at hl 4 rfl) ?_
        obtain ⟨h8, T⟩ := T
        obtain ⟨T1, T2⟩ := T
        refine r_if_lt (a := a3) (tgt := 50) hex hb h8 d_M_check_36 rfl (fun hc => ?_) (fun hc => ?_)
        · have T := T1 hc
          refine lv_bipush (v := iI (-4)) hex hb d_M_check_50 rfl ?_
          refine lv_goto (tgt := 56) hex hb d_M_check_52 rfl ?_
          exact r_iret hex hb hr hlk hK hA hP hS ⟨_, rfl, rfl, T⟩ (Nat.zero_le _) (Nat.zero_le _) d_M_check_56
        · have T := T2 hc
          refine lv_iload_n hex hb d_M_check_39 rfl (lv_at hl 4 rfl) ?_
          refine lv_aload_n hex hb d_M_check_40 rfl (lv_at hl 1 rfl) ?_
          refine r_getR (ci := 4) (C := R_M) (T := F_M) (N := 22) hex hb hts (fun w h => List.mem_cons_of_mem _ (in_M w h)) hown hK hP hLM rfl 2 (by decide) (hts _ (List.mem_cons_of_mem _ bg_393)) (fun _ h9 => h9) rfl d_M_check_41 ?_
          refine lv_iload hex hb d_M_check_44 (lv_at hl 0 rfl) ?_
          obtain ⟨h9, T⟩ := T
          obtain ⟨h10, T⟩ := T
          refine r_iald hex hb hK hP (hLA 3 90 (by decide)).choose_spec (by decide) (by decide) h9 h10 d_M_check_46 ?_
          obtain ⟨h11, T⟩ := T
          obtain ⟨T1, T2⟩ := T
          refine r_icmp_lt (a := a3) (b := σa3.2.1 3 (r 3) (σa3.2.1 7 (r 7) a2.toNat).toNat) (tgt := 55) hex hb h8 h11 d_M_check_47 rfl (fun hc => ?_) (fun hc => ?_)
          · have T := T1 hc
            refine lv_iconst (v := iI 0) hex hb d_M_check_55 rfl ?_
            exact r_iret hex hb hr hlk hK hA hP hS ⟨_, rfl, rfl, T⟩ (Nat.zero_le _) (Nat.zero_le _) d_M_check_56
          · have T := T2 hc
            refine lv_bipush (v := iI (-4)) hex hb d_M_check_50 rfl ?_
            refine lv_goto (tgt := 56) hex hb d_M_check_52 rfl ?_
            exact r_iret hex hb hr hlk hK hA hP hS ⟨_, rfl, rfl, T⟩ (Nat.zero_le _) (Nat.zero_le _) d_M_check_56
      · have T := T2 hc
        refine lv_bipush (v := iI (-3)) hex hb d_M_check_30 rfl ?_
        refine lv_goto (tgt := 56) hex hb d_M_check_32 rfl ?_
        exact r_iret hex hb hr hlk hK hA hP hS ⟨_, rfl, rfl, T⟩ (Nat.zero_le _) (Nat.zero_le _) d_M_check_56
    · have T := T2 hc
      refine lv_bipush (v := iI (-2)) hex hb d_M_check_14 rfl ?_
      exact r_iret hex hb hr hlk hK hA hP hS ⟨_, rfl, rfl, T⟩ (Nat.zero_le _) (Nat.zero_le _) d_M_check_16
set_option maxRecDepth 100000 in
theorem w_M_check {l : Launch} {D : va_G} {Λ : Lam} {σ : Mem} {r : Nat → Nat} {a1 : Int} {a2 : Int} {a3 : Int} {P : Int → Mem → Prop} (hL : LayM Λ r) (T : K_M_isRoot l D Λ σ a1 (fun z1 σa1 => rng z1 ∧ ((z1 = 0 → P (-2) σa1) ∧ (¬ z1 = 0 → K_M_isRoot l D Λ σa1 a2 (fun z3 σa3 => rng z3 ∧ ((¬ z3 = 0 → 0 ≤ a2 ∧ a2 < (6 : Int) ∧ rng (σa3.2.1 7 (r 7) a2.toNat) ∧ ((0 ≤ (σa3.2.1 7 (r 7) a2.toNat) → rng a3 ∧ ((a3 < 0 → P (-4) σa3) ∧ (¬ a3 < 0 → 0 ≤ (σa3.2.1 7 (r 7) a2.toNat) ∧ (σa3.2.1 7 (r 7) a2.toNat) < (90 : Int) ∧ rng (σa3.2.1 3 (r 3) (σa3.2.1 7 (r 7) a2.toNat).toNat) ∧ ((a3 < (σa3.2.1 3 (r 3) (σa3.2.1 7 (r 7) a2.toNat).toNat) → P 0 σa3) ∧ (¬ a3 < (σa3.2.1 3 (r 3) (σa3.2.1 7 (r 7) a2.toNat).toNat) → P (-4) σa3))))) ∧ (¬ 0 ≤ (σa3.2.1 7 (r 7) a2.toNat) → P (-3) σa3))) ∧ (z3 = 0 → P (-2) σa3))))))) : K_M_check l D Λ σ r a1 a2 a3 P := e_M_check (fun x hl hD hx => by subst hl; subst hD; exact u_M_check_0 hx hL T)
-- DirtyCardHeapModel.load(III)I
def rm_M_load : Room := { frames := 2, cells := 0, slots := 0, locals := 44 }
abbrev X_M_load (x : Cx) : Prop := CxOk x b_M_load 5 wl_M_load R_M (some .int) rm_M_load "load"
abbrev K_M_load (l : Launch) (D : va_G) (Λ : Lam) (σ : Mem) (r : Nat → Nat) (a1 : Int) (a2 : Int) (a3 : Int) (P : Int → Mem → Prop) : Prop := Ct l D y_M_load wl_M_load rm_M_load [.ref (r 0), .int (iI a1), .int (iI a2), .int (iI a3)] Λ σ (pI Λ P)
abbrev N_M_load_0 (x : Cx) (P : Int → Mem → Prop) (Λ : Lam) (σ : Mem) (r : Nat → Nat) (a1 : Int) (a2 : Int) (a3 : Int) : Prop := AtG x (pI Λ P) 5 0 0 0 Λ σ [(0, .ref (r 0)), (1, .int (iI a1)), (2, .int (iI a2)), (3, .int (iI a3))] []
theorem e_M_load {l : Launch} {D : va_G} {Λ : Lam} {σ : Mem} {r : Nat → Nat} {a1 : Int} {a2 : Int} {a3 : Int} {P : Int → Mem → Prop} (h : ∀ x : Cx, xl x = l → xD x = D → X_M_load x → N_M_load_0 x P Λ σ r a1 a2 a3) : K_M_load l D Λ σ r a1 a2 a3 P := Ct.of (by decide) rfl (Nat.le_of_ble_eq_true rfl) h
set_option maxHeartbeats 4000000 in
set_option maxRecDepth 100000 in
theorem u_M_load_0 {x : Cx} (hx : X_M_load x) {P : Int → Mem → Prop} {Λ : Lam} {σ : Mem} {r : Nat → Nat} {a1 : Int} {a2 : Int} {a3 : Int} (hL : LayM Λ r) (T : K_M_check (xl x) (xD x) Λ σ r a1 a2 a3 (fun z1 σa1 => rng z1 ∧ ((¬ z1 = 0 → P z1 σa1) ∧ (z1 = 0 → 0 ≤ a2 ∧ a2 < (6 : Int) ∧ 0 ≤ ((3 * (σa1.2.1 7 (r 7) a2.toNat)) + a3) ∧ ((3 * (σa1.2.1 7 (r 7) a2.toNat)) + a3) < (270 : Int) ∧ 0 ≤ a1 ∧ a1 < (6 : Int) ∧ P z1 (upY σa1 7 (r 7) a1.toNat (σa1.2.1 4 (r 4) ((3 * (σa1.2.1 7 (r 7) a2.toNat)) + a3).toNat)))))) : N_M_load_0 x P Λ σ r a1 a2 a3 := by
  obtain ⟨hex, hb, hml, hown, hts, hr, hlk, hR, hnm, hAs, hNW⟩ := hx
  obtain ⟨hLM, hLA⟩ := hL
  refine ⟨(), fun hK hA ls H locs hl hP hS => ?_⟩
  refine lv_aload_n hex hb d_M_load_0 rfl (lv_at hl 0 rfl) ?_
  refine lv_iload_n hex hb d_M_load_1 rfl (lv_at hl 1 rfl) ?_
  refine lv_iload_n hex hb d_M_load_2 rfl (lv_at hl 2 rfl) ?_
  refine lv_iload_n hex hb d_M_load_3 rfl (lv_at hl 3 rfl) ?_
  refine r_call (va_runV (As := [.int (iI a1), .int (iI a2), .int (iI a3)]) (rest := []) ⟨hex, hb, hml, hown, hts⟩ (Ct.use T H.size) (cwV 3 hts (gdV bg_543 bg_545 bp_32 bg_4 bc_M_check) rfl rfl rfl hdV_M_check ⟨by rw [hR]; exact Nat.le_of_ble_eq_true rfl, by rw [hR]; exact Nat.le_of_ble_eq_true rfl⟩) (px_preV (ci := 4) hNW hK hP hLM rfl) rfl rfl hl.1 rfl (lv_room (Nat.le_of_ble_eq_true rfl)) d_M_load_4 ⟨by rw [hR]; exact Nat.le_of_ble_eq_true rfl, by rw [hR]; exact Nat.le_of_ble_eq_true rfl⟩) hS hA hAs (fun v Λ1 σ1 H locs hp hP hK hA hS => ?_)
  obtain ⟨z1, rfl, rfl, T⟩ := hp
  generalize σ1 = σa1 at hP T
  refine W.eq (g2 := F0 (xm x) 7 ls [.int (iI z1)]) rfl ?_
  refine lv_istore (lv' := [(4, .int (iI z1)), (0, .ref (r 0)), (1, .int (iI a1)), (2, .int (iI a2)), (3, .int (iI a3))]) hex hb d_M_load_7 hl (Nat.le_of_ble_eq_true rfl) rfl (fun ls hl => ?_)
  refine lv_iload hex hb d_M_load_9 (lv_at hl 0 rfl) ?_
  obtain ⟨h2, T⟩ := T
  obtain ⟨T1, T2⟩ := T
  refine r_if_ne (a := z1) (tgt := 35) hex hb h2 d_M_load_11 rfl (fun hc => ?_) (fun hc => ?_)
  · have T := T1 hc
    refine lv_iload hex hb d_M_load_35 (lv_at hl 0 rfl) ?_
    exact r_iret hex hb hr hlk hK hA hP hS ⟨_, rfl, rfl, T⟩ (Nat.zero_le _) (Nat.zero_le _) d_M_load_37
  · have T := T2 hc
    refine lv_aload_n hex hb d_M_load_14 rfl (lv_at hl 1 rfl) ?_
    refine r_getR (ci := 4) (C := R_M) (T := F_M) (N := 22) hex hb hts (fun w h => List.mem_cons_of_mem _ (in_M w h)) hown hK hP hLM rfl 8 (by decide) (hts _ (List.mem_cons_of_mem _ bg_399)) (fun _ h9 => h9) rfl d_M_load_15 ?_
    refine lv_iload_n hex hb d_M_load_18 rfl (lv_at hl 2 rfl) ?_
    refine lv_aload_n hex hb d_M_load_19 rfl (lv_at hl 1 rfl) ?_
    refine r_getR (ci := 4) (C := R_M) (T := F_M) (N := 22) hex hb hts (fun w h => List.mem_cons_of_mem _ (in_M w h)) hown hK hP hLM rfl 3 (by decide) (hts _ (List.mem_cons_of_mem _ bg_394)) (fun _ h9 => h9) rfl d_M_load_20 ?_
    refine lv_iconst (v := iI 3) hex hb d_M_load_23 rfl ?_
    refine lv_aload_n hex hb d_M_load_24 rfl (lv_at hl 1 rfl) ?_
    refine r_getR (ci := 4) (C := R_M) (T := F_M) (N := 22) hex hb hts (fun w h => List.mem_cons_of_mem _ (in_M w h)) hown hK hP hLM rfl 8 (by decide) (hts _ (List.mem_cons_of_mem _ bg_399)) (fun _ h9 => h9) rfl d_M_load_25 ?_
    refine lv_iload_n hex hb d_M_load_28 rfl (lv_at hl 3 rfl) ?_
    obtain ⟨h3, T⟩ := T
    obtain ⟨h4, T⟩ := T
    refine r_iald hex hb hK hP (hLA 7 6 (by decide)).choose_spec (by decide) (by decide) h3 h4 d_M_load_29 ?_
    refine r_imul hex hb d_M_load_30 ?_
    refine lv_iload_n hex hb d_M_load_31 rfl (lv_at hl 4 rfl) ?_
    refine r_iadd hex hb d_M_load_32 ?_
    obtain ⟨h5, T⟩ := T
    obtain ⟨h6, T⟩ := T
    refine r_iald hex hb hK hP (hLA 4 270 (by decide)).choose_spec (by decide) (by decide) h5 h6 d_M_load_33 ?_
    obtain ⟨h7, T⟩ := T
    obtain ⟨h8, T⟩ := T
    refine r_iast (v := σa1.2.1 4 (r 4) ((3 * (σa1.2.1 7 (r 7) a2.toNat)) + a3).toNat) hex hb hK hP hA hS (hLA 7 6 (by decide)).choose_spec (by decide) (by decide) h7 h8 d_M_load_34 (fun H locs hP hS => ?_)
    refine lv_iload hex hb d_M_load_35 (lv_at hl 0 rfl) ?_
    exact r_iret hex hb hr hlk hK hA hP hS ⟨_, rfl, rfl, T⟩ (Nat.zero_le _) (Nat.zero_le _) d_M_load_37
set_option maxRecDepth 100000 in
theorem w_M_load {l : Launch} {D : va_G} {Λ : Lam} {σ : Mem} {r : Nat → Nat} {a1 : Int} {a2 : Int} {a3 : Int} {P : Int → Mem → Prop} (hL : LayM Λ r) (T : K_M_check l D Λ σ r a1 a2 a3 (fun z1 σa1 => rng z1 ∧ ((¬ z1 = 0 → P z1 σa1) ∧ (z1 = 0 → 0 ≤ a2 ∧ a2 < (6 : Int) ∧ 0 ≤ ((3 * (σa1.2.1 7 (r 7) a2.toNat)) + a3) ∧ ((3 * (σa1.2.1 7 (r 7) a2.toNat)) + a3) < (270 : Int) ∧ 0 ≤ a1 ∧ a1 < (6 : Int) ∧ P z1 (upY σa1 7 (r 7) a1.toNat (σa1.2.1 4 (r 4) ((3 * (σa1.2.1 7 (r 7) a2.toNat)) + a3).toNat)))))) : K_M_load l D Λ σ r a1 a2 a3 P := e_M_load (fun x hl hD hx => by subst hl; subst hD; exact u_M_load_0 hx hL T)
-- DirtyCardHeapModel.store(III)I
def rm_M_store : Room := { frames := 2, cells := 0, slots := 0, locals := 44 }
abbrev X_M_store (x : Cx) : Prop := CxOk x b_M_store 6 wl_M_store R_M (some .int) rm_M_store "store"
abbrev K_M_store (l : Launch) (D : va_G) (Λ : Lam) (σ : Mem) (r : Nat → Nat) (a1 : Int) (a2 : Int) (a3 : Int) (P : Int → Mem → Prop) : Prop := Ct l D y_M_store wl_M_store rm_M_store [.ref (r 0), .int (iI a1), .int (iI a2), .int (iI a3)] Λ σ (pI Λ P)
abbrev N_M_store_0 (x : Cx) (P : Int → Mem → Prop) (Λ : Lam) (σ : Mem) (r : Nat → Nat) (a1 : Int) (a2 : Int) (a3 : Int) : Prop := AtG x (pI Λ P) 6 0 0 0 Λ σ [(0, .ref (r 0)), (1, .int (iI a1)), (2, .int (iI a2)), (3, .int (iI a3))] []
theorem e_M_store {l : Launch} {D : va_G} {Λ : Lam} {σ : Mem} {r : Nat → Nat} {a1 : Int} {a2 : Int} {a3 : Int} {P : Int → Mem → Prop} (h : ∀ x : Cx, xl x = l → xD x = D → X_M_store x → N_M_store_0 x P Λ σ r a1 a2 a3) : K_M_store l D Λ σ r a1 a2 a3 P := Ct.of (by decide) rfl (Nat.le_of_ble_eq_true rfl) h
set_option maxHeartbeats 4000000 in
set_option maxRecDepth 100000 in
theorem u_M_store_0 {x : Cx} (hx : X_M_store x) {P : Int → Mem → Prop} {Λ : Lam} {σ : Mem} {r : Nat → Nat} {a1 : Int} {a2 : Int} {a3 : Int} (hL : LayM Λ r) (T : K_M_check (xl x) (xD x) Λ σ r a3 a1 a2 (fun z1 σa1 => rng z1 ∧ ((¬ z1 = 0 → P z1 σa1) ∧ (z1 = 0 → 0 ≤ a1 ∧ a1 < (6 : Int) ∧ 0 ≤ a3 ∧ a3 < (6 : Int) ∧ 0 ≤ ((3 * (σa1.2.1 7 (r 7) a1.toNat)) + a2) ∧ ((3 * (σa1.2.1 7 (r 7) a1.toNat)) + a2) < (270 : Int) ∧ 0 ≤ (σa1.2.1 7 (r 7) a1.toNat) ∧ (σa1.2.1 7 (r 7) a1.toNat) < (90 : Int) ∧ rng ((upY σa1 4 (r 4) ((3 * (σa1.2.1 7 (r 7) a1.toNat)) + a2).toNat (σa1.2.1 7 (r 7) a3.toNat)).2.1 1 (r 1) (σa1.2.1 7 (r 7) a1.toNat).toNat) ∧ ((¬ ((upY σa1 4 (r 4) ((3 * (σa1.2.1 7 (r 7) a1.toNat)) + a2).toNat (σa1.2.1 7 (r 7) a3.toNat)).2.1 1 (r 1) (σa1.2.1 7 (r 7) a1.toNat).toNat) = 2 → P z1 (upY σa1 4 (r 4) ((3 * (σa1.2.1 7 (r 7) a1.toNat)) + a2).toNat (σa1.2.1 7 (r 7) a3.toNat))) ∧ (((upY σa1 4 (r 4) ((3 * (σa1.2.1 7 (r 7) a1.toNat)) + a2).toNat (σa1.2.1 7 (r 7) a3.toNat)).2.1 1 (r 1) (σa1.2.1 7 (r 7) a1.toNat).toNat) = 2 → 0 ≤ (σa1.2.1 7 (r 7) a1.toNat) ∧ (σa1.2.1 7 (r 7) a1.toNat) < (90 : Int) ∧ 0 ≤ (iDiv ((((upY σa1 4 (r 4) ((3 * (σa1.2.1 7 (r 7) a1.toNat)) + a2).toNat (σa1.2.1 7 (r 7) a3.toNat)).2.1 6 (r 6) (σa1.2.1 7 (r 7) a1.toNat).toNat) + 1) + a2) 8) ∧ (iDiv ((((upY σa1 4 (r 4) ((3 * (σa1.2.1 7 (r 7) a1.toNat)) + a2).toNat (σa1.2.1 7 (r 7) a3.toNat)).2.1 6 (r 6) (σa1.2.1 7 (r 7) a1.toNat).toNat) + 1) + a2) 8) < (8 : Int) ∧ P z1 (upY (upY σa1 4 (r 4) ((3 * (σa1.2.1 7 (r 7) a1.toNat)) + a2).toNat (σa1.2.1 7 (r 7) a3.toNat)) 53 (r 53) (iDiv ((((upY σa1 4 (r 4) ((3 * (σa1.2.1 7 (r 7) a1.toNat)) + a2).toNat (σa1.2.1 7 (r 7) a3.toNat)).2.1 6 (r 6) (σa1.2.1 7 (r 7) a1.toNat).toNat) + 1) + a2) 8).toNat 1))))))) : N_M_store_0 x P Λ σ r a1 a2 a3 := by
  obtain ⟨hex, hb, hml, hown, hts, hr, hlk, hR, hnm, hAs, hNW⟩ := hx
  obtain ⟨hLM, hLA⟩ := hL
  refine ⟨(), fun hK hA ls H locs hl hP hS => ?_⟩
  refine lv_aload_n hex hb d_M_store_0 rfl (lv_at hl 0 rfl) ?_
  refine lv_iload_n hex hb d_M_store_1 rfl (lv_at hl 3 rfl) ?_
  refine lv_iload_n hex hb d_M_store_2 rfl (lv_at hl 1 rfl) ?_
  refine lv_iload_n hex hb d_M_store_3 rfl (lv_at hl 2 rfl) ?_
  refine r_call (va_runV (As := [.int (iI a3), .int (iI a1), .int (iI a2)]) (rest := []) ⟨hex, hb, hml, hown, hts⟩ (Ct.use T H.size) (cwV 3 hts (gdV bg_543 bg_545 bp_32 bg_4 bc_M_check) rfl rfl rfl hdV_M_check ⟨by rw [hR]; exact Nat.le_of_ble_eq_true rfl, by rw [hR]; exact Nat.le_of_ble_eq_true rfl⟩) (px_preV (ci := 4) hNW hK hP hLM rfl) rfl rfl hl.1 rfl (lv_room (Nat.le_of_ble_eq_true rfl)) d_M_store_4 ⟨by rw [hR]; exact Nat.le_of_ble_eq_true rfl, by rw [hR]; exact Nat.le_of_ble_eq_true rfl⟩) hS hA hAs (fun v Λ1 σ1 H locs hp hP hK hA hS => ?_)
  obtain ⟨z1, rfl, rfl, T⟩ := hp
  generalize σ1 = σa1 at hP T
  refine W.eq (g2 := F0 (xm x) 7 ls [.int (iI z1)]) rfl ?_
  refine lv_istore (lv' := [(4, .int (iI z1)), (0, .ref (r 0)), (1, .int (iI a1)), (2, .int (iI a2)), (3, .int (iI a3))]) hex hb d_M_store_7 hl (Nat.le_of_ble_eq_true rfl) rfl (fun ls hl => ?_)
  refine lv_iload hex hb d_M_store_9 (lv_at hl 0 rfl) ?_
  obtain ⟨h2, T⟩ := T
  obtain ⟨T1, T2⟩ := T
  refine r_if_ne (a := z1) (tgt := 70) hex hb h2 d_M_store_11 rfl (fun hc => ?_) (fun hc => ?_)
  · have T := T1 hc
    refine lv_iload hex hb d_M_store_70 (lv_at hl 0 rfl) ?_
    exact r_iret hex hb hr hlk hK hA hP hS ⟨_, rfl, rfl, T⟩ (Nat.zero_le _) (Nat.zero_le _) d_M_store_72
  · have T := T2 hc
    refine lv_aload_n hex hb d_M_store_14 rfl (lv_at hl 1 rfl) ?_
    refine r_getR (ci := 4) (C := R_M) (T := F_M) (N := 22) hex hb hts (fun w h => List.mem_cons_of_mem _ (in_M w h)) hown hK hP hLM rfl 8 (by decide) (hts _ (List.mem_cons_of_mem _ bg_399)) (fun _ h9 => h9) rfl d_M_store_15 ?_
    refine lv_iload_n hex hb d_M_store_18 rfl (lv_at hl 2 rfl) ?_
    obtain ⟨h3, T⟩ := T
    obtain ⟨h4, T⟩ := T
    refine r_iald hex hb hK hP (hLA 7 6 (by decide)).choose_spec (by decide) (by decide) h3 h4 d_M_store_19 ?_
    refine lv_istore (lv' := [(5, .int (iI (σa1.2.1 7 (r 7) a1.toNat))), (4, .int (iI z1)), (0, .ref (r 0)), (1, .int (iI a1)), (2, .int (iI a2)), (3, .int (iI a3))]) hex hb d_M_store_20 hl (Nat.le_of_ble_eq_true rfl) rfl (fun ls hl => ?_)
    refine lv_aload_n hex hb d_M_store_22 rfl (lv_at hl 2 rfl) ?_
    refine r_getR (ci := 4) (C := R_M) (T := F_M) (N := 22) hex hb hts (fun w h => List.mem_cons_of_mem _ (in_M w h)) hown hK hP hLM rfl 3 (by decide) (hts _ (List.mem_cons_of_mem _ bg_394)) (fun _ h9 => h9) rfl d_M_store_23 ?_
    refine lv_iconst (v := iI 3) hex hb d_M_store_26 rfl ?_
    refine lv_iload hex hb d_M_store_27 (lv_at hl 0 rfl) ?_
    refine r_imul hex hb d_M_store_29 ?_
    refine lv_iload_n hex hb d_M_store_30 rfl (lv_at hl 4 rfl) ?_
    refine r_iadd hex hb d_M_store_31 ?_
    refine lv_aload_n hex hb d_M_store_32 rfl (lv_at hl 2 rfl) ?_
    refine r_getR (ci := 4) (C := R_M) (T := F_M) (N := 22) hex hb hts (fun w h => List.mem_cons_of_mem _ (in_M w h)) hown hK hP hLM rfl 8 (by decide) (hts _ (List.mem_cons_of_mem _ bg_399)) (fun _ h9 => h9) rfl d_M_store_33 ?_
    refine lv_iload_n hex hb d_M_store_36 rfl (lv_at hl 5 rfl) ?_
    obtain ⟨h5, T⟩ := T
    obtain ⟨h6, T⟩ := T
    refine r_iald hex hb hK hP (hLA 7 6 (by decide)).choose_spec (by decide) (by decide) h5 h6 d_M_store_37 ?_
    obtain ⟨h7, T⟩ := T
    obtain ⟨h8, T⟩ := T
    refine r_iast (v := σa1.2.1 7 (r 7) a3.toNat) hex hb hK hP hA hS (hLA 4 270 (by decide)).choose_spec (by decide) (by decide) h7 h8 d_M_store_38 (fun H locs hP hS => ?_)
    refine lv_aload_n hex hb d_M_store_39 rfl (lv_at hl 2 rfl) ?_
    refine r_getR (ci := 4) (C := R_M) (T := F_M) (N := 22) hex hb hts (fun w h => List.mem_cons_of_mem _ (in_M w h)) hown hK hP hLM rfl 0 (by decide) (hts _ (List.mem_cons_of_mem _ bg_391)) (fun _ h9 => h9) rfl d_M_store_40 ?_
    refine lv_iload hex hb d_M_store_43 (lv_at hl 0 rfl) ?_
    obtain ⟨h9, T⟩ := T
    obtain ⟨h10, T⟩ := T
    refine r_iald hex hb hK hP (hLA 1 90 (by decide)).choose_spec (by decide) (by decide) h9 h10 d_M_store_45 ?_
    refine lv_iconst (v := iI 2) hex hb d_M_store_46 rfl ?_
    obtain ⟨h11, T⟩ := T
    obtain ⟨T1, T2⟩ := T
    refine r_icmp_ne (a := (upY σa1 4 (r 4) ((3 * (σa1.2.1 7 (r 7) a1.toNat)) + a2).toNat (σa1.2.1 7 (r 7) a3.toNat)).2.1 1 (r 1) (σa1.2.1 7 (r 7) a1.toNat).toNat) (b := 2) (tgt := 70) hex hb h11 ⟨by omega, by omega⟩ d_M_store_47 rfl (fun hc => ?_) (fun hc => ?_)
    · have T := T1 hc
      refine lv_iload hex hb d_M_store_70 (lv_at hl 1 rfl) ?_
      exact r_iret hex hb hr hlk hK hA hP hS ⟨_, rfl, rfl, T⟩ (Nat.zero_le _) (Nat.zero_le _) d_M_store_72
    · have T := T2 hc
      refine lv_aload_n hex hb d_M_store_50 rfl (lv_at hl 2 rfl) ?_
      refine r_getR (ci := 4) (C := R_M) (T := F_M) (N := 22) hex hb hts (fun w h => List.mem_cons_of_mem _ (in_M w h)) hown hK hP hLM rfl 9 (by decide) (hts _ (List.mem_cons_of_mem _ bg_400)) (fun _ h9 => h9) rfl d_M_store_51 ?_
      refine lv_aload_n hex hb d_M_store_54 rfl (lv_at hl 2 rfl) ?_
      refine r_getR (ci := 4) (C := R_M) (T := F_M) (N := 22) hex hb hts (fun w h => List.mem_cons_of_mem _ (in_M w h)) hown hK hP hLM rfl 5 (by decide) (hts _ (List.mem_cons_of_mem _ bg_396)) (fun _ h9 => h9) rfl d_M_store_55 ?_
      refine lv_iload hex hb d_M_store_58 (lv_at hl 0 rfl) ?_
      obtain ⟨h12, T⟩ := T
      obtain ⟨h13, T⟩ := T
      refine r_iald hex hb hK hP (hLA 6 90 (by decide)).choose_spec (by decide) (by decide) h12 h13 d_M_store_60 ?_
      refine lv_iconst (v := iI 1) hex hb d_M_store_61 rfl ?_
      refine r_iadd hex hb d_M_store_62 ?_
      refine lv_iload_n hex hb d_M_store_63 rfl (lv_at hl 4 rfl) ?_
      refine r_iadd hex hb d_M_store_64 ?_
      refine lv_bipush (v := iI 8) hex hb d_M_store_65 rfl ?_
      refine r_idiv hex hb ⟨by omega, by omega⟩ (by omega) d_M_store_67 ?_
      refine lv_iconst (v := iI 1) hex hb d_M_store_68 rfl ?_
      obtain ⟨h14, T⟩ := T
      obtain ⟨h15, T⟩ := T
      refine r_zast (v := 1) hex hb hK hP hA hS (hLA 53 8 (by decide)).choose_spec (by decide) (by decide) (by decide) h14 h15 (by decide) d_M_store_69 (fun H locs hP hS => ?_)
      refine lv_iload hex hb d_M_store_70 (lv_at hl 1 rfl) ?_
      exact r_iret hex hb hr hlk hK hA hP hS ⟨_, rfl, rfl, T⟩ (Nat.zero_le _) (Nat.zero_le _) d_M_store_72
set_option maxRecDepth 100000 in
theorem w_M_store {l : Launch} {D : va_G} {Λ : Lam} {σ : Mem} {r : Nat → Nat} {a1 : Int} {a2 : Int} {a3 : Int} {P : Int → Mem → Prop} (hL : LayM Λ r) (T : K_M_check l D Λ σ r a3 a1 a2 (fun z1 σa1 => rng z1 ∧ ((¬ z1 = 0 → P z1 σa1) ∧ (z1 = 0 → 0 ≤ a1 ∧ a1 < (6 : Int) ∧ 0 ≤ a3 ∧ a3 < (6 : Int) ∧ 0 ≤ ((3 * (σa1.2.1 7 (r 7) a1.toNat)) + a2) ∧ ((3 * (σa1.2.1 7 (r 7) a1.toNat)) + a2) < (270 : Int) ∧ 0 ≤ (σa1.2.1 7 (r 7) a1.toNat) ∧ (σa1.2.1 7 (r 7) a1.toNat) < (90 : Int) ∧ rng ((upY σa1 4 (r 4) ((3 * (σa1.2.1 7 (r 7) a1.toNat)) + a2).toNat (σa1.2.1 7 (r 7) a3.toNat)).2.1 1 (r 1) (σa1.2.1 7 (r 7) a1.toNat).toNat) ∧ ((¬ ((upY σa1 4 (r 4) ((3 * (σa1.2.1 7 (r 7) a1.toNat)) + a2).toNat (σa1.2.1 7 (r 7) a3.toNat)).2.1 1 (r 1) (σa1.2.1 7 (r 7) a1.toNat).toNat) = 2 → P z1 (upY σa1 4 (r 4) ((3 * (σa1.2.1 7 (r 7) a1.toNat)) + a2).toNat (σa1.2.1 7 (r 7) a3.toNat))) ∧ (((upY σa1 4 (r 4) ((3 * (σa1.2.1 7 (r 7) a1.toNat)) + a2).toNat (σa1.2.1 7 (r 7) a3.toNat)).2.1 1 (r 1) (σa1.2.1 7 (r 7) a1.toNat).toNat) = 2 → 0 ≤ (σa1.2.1 7 (r 7) a1.toNat) ∧ (σa1.2.1 7 (r 7) a1.toNat) < (90 : Int) ∧ 0 ≤ (iDiv ((((upY σa1 4 (r 4) ((3 * (σa1.2.1 7 (r 7) a1.toNat)) + a2).toNat (σa1.2.1 7 (r 7) a3.toNat)).2.1 6 (r 6) (σa1.2.1 7 (r 7) a1.toNat).toNat) + 1) + a2) 8) ∧ (iDiv ((((upY σa1 4 (r 4) ((3 * (σa1.2.1 7 (r 7) a1.toNat)) + a2).toNat (σa1.2.1 7 (r 7) a3.toNat)).2.1 6 (r 6) (σa1.2.1 7 (r 7) a1.toNat).toNat) + 1) + a2) 8) < (8 : Int) ∧ P z1 (upY (upY σa1 4 (r 4) ((3 * (σa1.2.1 7 (r 7) a1.toNat)) + a2).toNat (σa1.2.1 7 (r 7) a3.toNat)) 53 (r 53) (iDiv ((((upY σa1 4 (r 4) ((3 * (σa1.2.1 7 (r 7) a1.toNat)) + a2).toNat (σa1.2.1 7 (r 7) a3.toNat)).2.1 6 (r 6) (σa1.2.1 7 (r 7) a1.toNat).toNat) + 1) + a2) 8).toNat 1))))))) : K_M_store l D Λ σ r a1 a2 a3 P := e_M_store (fun x hl hD hx => by subst hl; subst hD; exact u_M_store_0 hx hL T)
-- DirtyCardHeapModel.payload(I)I
def rm_M_payload : Room := { frames := 1, cells := 0, slots := 0, locals := 20 }
abbrev X_M_payload (x : Cx) : Prop := CxOk x b_M_payload 2 wl_M_payload R_M (some .int) rm_M_payload "payload"
abbrev K_M_payload (l : Launch) (D : va_G) (Λ : Lam) (σ : Mem) (r : Nat → Nat) (a1 : Int) (P : Int → Mem → Prop) : Prop := Ct l D y_M_payload wl_M_payload rm_M_payload [.ref (r 0), .int (iI a1)] Λ σ (pI Λ P)
abbrev N_M_payload_0 (x : Cx) (P : Int → Mem → Prop) (Λ : Lam) (σ : Mem) (r : Nat → Nat) (a1 : Int) : Prop := AtG x (pI Λ P) 2 0 0 0 Λ σ [(0, .ref (r 0)), (1, .int (iI a1))] []
theorem e_M_payload {l : Launch} {D : va_G} {Λ : Lam} {σ : Mem} {r : Nat → Nat} {a1 : Int} {P : Int → Mem → Prop} (h : ∀ x : Cx, xl x = l → xD x = D → X_M_payload x → N_M_payload_0 x P Λ σ r a1) : K_M_payload l D Λ σ r a1 P := Ct.of (by decide) rfl (Nat.le_of_ble_eq_true rfl) h
set_option maxHeartbeats 4000000 in
set_option maxRecDepth 100000 in
theorem u_M_payload_0 {x : Cx} (hx : X_M_payload x) {P : Int → Mem → Prop} {Λ : Lam} {σ : Mem} {r : Nat → Nat} {a1 : Int} (hL : LayM Λ r) (T : K_M_isRoot (xl x) (xD x) Λ σ a1 (fun z1 σa1 => rng z1 ∧ ((z1 = 0 → P 0 σa1) ∧ (¬ z1 = 0 → 0 ≤ a1 ∧ a1 < (6 : Int) ∧ rng (σa1.2.1 7 (r 7) a1.toNat) ∧ ((0 ≤ (σa1.2.1 7 (r 7) a1.toNat) → 0 ≤ a1 ∧ a1 < (6 : Int) ∧ 0 ≤ (σa1.2.1 7 (r 7) a1.toNat) ∧ (σa1.2.1 7 (r 7) a1.toNat) < (90 : Int) ∧ P (σa1.2.1 2 (r 2) (σa1.2.1 7 (r 7) a1.toNat).toNat) σa1) ∧ (¬ 0 ≤ (σa1.2.1 7 (r 7) a1.toNat) → P 0 σa1)))))) : N_M_payload_0 x P Λ σ r a1 := by
  obtain ⟨hex, hb, hml, hown, hts, hr, hlk, hR, hnm, hAs, hNW⟩ := hx
  obtain ⟨hLM, hLA⟩ := hL
  refine ⟨(), fun hK hA ls H locs hl hP hS => ?_⟩
  refine lv_iload_n hex hb d_M_payload_0 rfl (lv_at hl 1 rfl) ?_
  refine r_call (va_runS (As := [.int (iI a1)]) (rest := []) ⟨hex, hb, hml, hown, hts⟩ (Ct.use T H.size) (cwS 1 hts (gdS bg_520 bg_521 bg_4 bc_M_isRoot) rfl rfl rfl hdV_M_isRoot ⟨by rw [hR]; exact Nat.le_of_ble_eq_true rfl, by rw [hR]; exact Nat.le_of_ble_eq_true rfl⟩) (px_preS hNW hK hP) rfl rfl hl.1 rfl (lv_room (Nat.le_of_ble_eq_true rfl)) d_M_payload_1 ⟨by rw [hR]; exact Nat.le_of_ble_eq_true rfl, by rw [hR]; exact Nat.le_of_ble_eq_true rfl⟩) hS hA hAs (fun v Λ1 σ1 H locs hp hP hK hA hS => ?_)
  obtain ⟨z1, rfl, rfl, T⟩ := hp
  generalize σ1 = σa1 at hP T
  refine W.eq (g2 := F0 (xm x) 4 ls [.int (iI z1)]) rfl ?_
  obtain ⟨h2, T⟩ := T
  obtain ⟨T1, T2⟩ := T
  refine r_if_eq (a := z1) (tgt := 16) hex hb h2 d_M_payload_4 rfl (fun hc => ?_) (fun hc => ?_)
  · have T := T1 hc
    refine lv_iconst (v := iI 0) hex hb d_M_payload_16 rfl ?_
    refine lv_goto (tgt := 31) hex hb d_M_payload_17 rfl ?_
    exact r_iret hex hb hr hlk hK hA hP hS ⟨_, rfl, rfl, T⟩ (Nat.zero_le _) (Nat.zero_le _) d_M_payload_31
  · have T := T2 hc
    refine lv_aload_n hex hb d_M_payload_7 rfl (lv_at hl 0 rfl) ?_
    refine r_getR (ci := 4) (C := R_M) (T := F_M) (N := 22) hex hb hts (fun w h => List.mem_cons_of_mem _ (in_M w h)) hown hK hP hLM rfl 8 (by decide) (hts _ (List.mem_cons_of_mem _ bg_399)) (fun _ h9 => h9) rfl d_M_payload_8 ?_
    refine lv_iload_n hex hb d_M_payload_11 rfl (lv_at hl 1 rfl) ?_
    obtain ⟨h3, T⟩ := T
    obtain ⟨h4, T⟩ := T
    refine r_iald hex hb hK hP (hLA 7 6 (by decide)).choose_spec (by decide) (by decide) h3 h4 d_M_payload_12 ?_
    obtain ⟨h5, T⟩ := T
    obtain ⟨T1, T2⟩ := T
    refine r_if_ge (a := σa1.2.1 7 (r 7) a1.toNat) (tgt := 20) hex hb h5 d_M_payload_13 rfl (fun hc => ?_) (fun hc => ?_)
    · have T := T1 hc
      refine lv_aload_n hex hb d_M_payload_20 rfl (lv_at hl 0 rfl) ?_
      refine r_getR (ci := 4) (C := R_M) (T := F_M) (N := 22) hex hb hts (fun w h => List.mem_cons_of_mem _ (in_M w h)) hown hK hP hLM rfl 1 (by decide) (hts _ (List.mem_cons_of_mem _ bg_392)) (fun _ h9 => h9) rfl d_M_payload_21 ?_
      refine lv_aload_n hex hb d_M_payload_24 rfl (lv_at hl 0 rfl) ?_
      refine r_getR (ci := 4) (C := R_M) (T := F_M) (N := 22) hex hb hts (fun w h => List.mem_cons_of_mem _ (in_M w h)) hown hK hP hLM rfl 8 (by decide) (hts _ (List.mem_cons_of_mem _ bg_399)) (fun _ h9 => h9) rfl d_M_payload_25 ?_
      refine lv_iload_n hex hb d_M_payload_28 rfl (lv_at hl 1 rfl) ?_
      obtain ⟨h6, T⟩ := T
      obtain ⟨h7, T⟩ := T
      refine r_iald hex hb hK hP (hLA 7 6 (by decide)).choose_spec (by decide) (by decide) h6 h7 d_M_payload_29 ?_
      obtain ⟨h8, T⟩ := T
      obtain ⟨h9, T⟩ := T
      refine r_iald hex hb hK hP (hLA 2 90 (by decide)).choose_spec (by decide) (by decide) h8 h9 d_M_payload_30 ?_
      exact r_iret hex hb hr hlk hK hA hP hS ⟨_, rfl, rfl, T⟩ (Nat.zero_le _) (Nat.zero_le _) d_M_payload_31
    · have T := T2 hc
      refine lv_iconst (v := iI 0) hex hb d_M_payload_16 rfl ?_
      refine lv_goto (tgt := 31) hex hb d_M_payload_17 rfl ?_
      exact r_iret hex hb hr hlk hK hA hP hS ⟨_, rfl, rfl, T⟩ (Nat.zero_le _) (Nat.zero_le _) d_M_payload_31
set_option maxRecDepth 100000 in
theorem w_M_payload {l : Launch} {D : va_G} {Λ : Lam} {σ : Mem} {r : Nat → Nat} {a1 : Int} {P : Int → Mem → Prop} (hL : LayM Λ r) (T : K_M_isRoot l D Λ σ a1 (fun z1 σa1 => rng z1 ∧ ((z1 = 0 → P 0 σa1) ∧ (¬ z1 = 0 → 0 ≤ a1 ∧ a1 < (6 : Int) ∧ rng (σa1.2.1 7 (r 7) a1.toNat) ∧ ((0 ≤ (σa1.2.1 7 (r 7) a1.toNat) → 0 ≤ a1 ∧ a1 < (6 : Int) ∧ 0 ≤ (σa1.2.1 7 (r 7) a1.toNat) ∧ (σa1.2.1 7 (r 7) a1.toNat) < (90 : Int) ∧ P (σa1.2.1 2 (r 2) (σa1.2.1 7 (r 7) a1.toNat).toNat) σa1) ∧ (¬ 0 ≤ (σa1.2.1 7 (r 7) a1.toNat) → P 0 σa1)))))) : K_M_payload l D Λ σ r a1 P := e_M_payload (fun x hl hD hx => by subst hl; subst hD; exact u_M_payload_0 hx hL T)
-- DirtyCardHeapModel.same(II)Z
def rm_M_same : Room := { frames := 1, cells := 0, slots := 0, locals := 20 }
abbrev X_M_same (x : Cx) : Prop := CxOk x b_M_same 3 wl_M_same R_M (some .boolean) rm_M_same "same"
abbrev K_M_same (l : Launch) (D : va_G) (Λ : Lam) (σ : Mem) (r : Nat → Nat) (a1 : Int) (a2 : Int) (P : Int → Mem → Prop) : Prop := Ct l D y_M_same wl_M_same rm_M_same [.ref (r 0), .int (iI a1), .int (iI a2)] Λ σ (pI Λ P)
abbrev N_M_same_0 (x : Cx) (P : Int → Mem → Prop) (Λ : Lam) (σ : Mem) (r : Nat → Nat) (a1 : Int) (a2 : Int) : Prop := AtG x (pI Λ P) 3 0 0 0 Λ σ [(0, .ref (r 0)), (1, .int (iI a1)), (2, .int (iI a2))] []
theorem e_M_same {l : Launch} {D : va_G} {Λ : Lam} {σ : Mem} {r : Nat → Nat} {a1 : Int} {a2 : Int} {P : Int → Mem → Prop} (h : ∀ x : Cx, xl x = l → xD x = D → X_M_same x → N_M_same_0 x P Λ σ r a1 a2) : K_M_same l D Λ σ r a1 a2 P := Ct.of (by decide) rfl (Nat.le_of_ble_eq_true rfl) h
set_option maxHeartbeats 4000000 in
set_option maxRecDepth 100000 in
theorem u_M_same_0 {x : Cx} (hx : X_M_same x) {P : Int → Mem → Prop} {Λ : Lam} {σ : Mem} {r : Nat → Nat} {a1 : Int} {a2 : Int} (hL : LayM Λ r) (T : K_M_isRoot (xl x) (xD x) Λ σ a1 (fun z1 σa1 => rng z1 ∧ ((z1 = 0 → P 0 σa1) ∧ (¬ z1 = 0 → K_M_isRoot (xl x) (xD x) Λ σa1 a2 (fun z3 σa3 => rng z3 ∧ ((z3 = 0 → P 0 σa3) ∧ (¬ z3 = 0 → 0 ≤ a1 ∧ a1 < (6 : Int) ∧ 0 ≤ a2 ∧ a2 < (6 : Int) ∧ rng (σa3.2.1 7 (r 7) a1.toNat) ∧ rng (σa3.2.1 7 (r 7) a2.toNat) ∧ ((¬ (σa3.2.1 7 (r 7) a1.toNat) = (σa3.2.1 7 (r 7) a2.toNat) → P 0 σa3) ∧ ((σa3.2.1 7 (r 7) a1.toNat) = (σa3.2.1 7 (r 7) a2.toNat) → P 1 σa3))))))))) : N_M_same_0 x P Λ σ r a1 a2 := by
  obtain ⟨hex, hb, hml, hown, hts, hr, hlk, hR, hnm, hAs, hNW⟩ := hx
  obtain ⟨hLM, hLA⟩ := hL
  refine ⟨(), fun hK hA ls H locs hl hP hS => ?_⟩
  refine lv_iload_n hex hb d_M_same_0 rfl (lv_at hl 1 rfl) ?_
  refine r_call (va_runS (As := [.int (iI a1)]) (rest := []) ⟨hex, hb, hml, hown, hts⟩ (Ct.use T H.size) (cwS 1 hts (gdS bg_520 bg_521 bg_4 bc_M_isRoot) rfl rfl rfl hdV_M_isRoot ⟨by rw [hR]; exact Nat.le_of_ble_eq_true rfl, by rw [hR]; exact Nat.le_of_ble_eq_true rfl⟩) (px_preS hNW hK hP) rfl rfl hl.1 rfl (lv_room (Nat.le_of_ble_eq_true rfl)) d_M_same_1 ⟨by rw [hR]; exact Nat.le_of_ble_eq_true rfl, by rw [hR]; exact Nat.le_of_ble_eq_true rfl⟩) hS hA hAs (fun v Λ1 σ1 H locs hp hP hK hA hS => ?_)
  obtain ⟨z1, rfl, rfl, T⟩ := hp
  generalize σ1 = σa1 at hP T
  refine W.eq (g2 := F0 (xm x) 4 ls [.int (iI z1)]) rfl ?_
  obtain ⟨h2, T⟩ := T
  obtain ⟨T1, T2⟩ := T
  refine r_if_eq (a := z1) (tgt := 33) hex hb h2 d_M_same_4 rfl (fun hc => ?_) (fun hc => ?_)
  · have T := T1 hc
    refine lv_iconst (v := iI 0) hex hb d_M_same_33 rfl ?_
    exact r_zret hex hb hr hlk hK hA hP hS (by decide) ⟨_, rfl, rfl, T⟩ (Nat.zero_le _) (Nat.zero_le _) d_M_same_34
  · have T := T2 hc
    refine lv_iload_n hex hb d_M_same_7 rfl (lv_at hl 2 rfl) ?_
    refine r_call (va_runS (As := [.int (iI a2)]) (rest := []) ⟨hex, hb, hml, hown, hts⟩ (Ct.use T H.size) (cwS 1 hts (gdS bg_520 bg_521 bg_4 bc_M_isRoot) rfl rfl rfl hdV_M_isRoot ⟨by rw [hR]; exact Nat.le_of_ble_eq_true rfl, by rw [hR]; exact Nat.le_of_ble_eq_true rfl⟩) (px_preS hNW hK hP) rfl rfl hl.1 rfl (lv_room (Nat.le_of_ble_eq_true rfl)) d_M_same_8 ⟨by rw [hR]; exact Nat.le_of_ble_eq_true rfl, by rw [hR]; exact Nat.le_of_ble_eq_true rfl⟩) hS hA hAs (fun v Λ1 σ1 H locs hp hP hK hA hS => ?_)
    obtain ⟨z3, rfl, rfl, T⟩ := hp
    generalize σ1 = σa3 at hP T
    refine W.eq (g2 := F0 (xm x) 11 ls [.int (iI z3)]) rfl ?_
    obtain ⟨h4, T⟩ := T
    obtain ⟨T1, T2⟩ := T
    refine r_if_eq (a := z3) (tgt := 33) hex hb h4 d_M_same_11 rfl (fun hc => ?_) (fun hc => ?_)
    · have T := T1 hc
      refine lv_iconst (v := iI 0) hex hb d_M_same_33 rfl ?_
      exact r_zret hex hb hr hlk hK hA hP hS (by decide) ⟨_, rfl, rfl, T⟩ (Nat.zero_le _) (Nat.zero_le _) d_M_same_34
    · have T := T2 hc
      refine lv_aload_n hex hb d_M_same_14 rfl (lv_at hl 0 rfl) ?_
      refine r_getR (ci := 4) (C := R_M) (T := F_M) (N := 22) hex hb hts (fun w h => List.mem_cons_of_mem _ (in_M w h)) hown hK hP hLM rfl 8 (by decide) (hts _ (List.mem_cons_of_mem _ bg_399)) (fun _ h9 => h9) rfl d_M_same_15 ?_
      refine lv_iload_n hex hb d_M_same_18 rfl (lv_at hl 1 rfl) ?_
      obtain ⟨h5, T⟩ := T
      obtain ⟨h6, T⟩ := T
      refine r_iald hex hb hK hP (hLA 7 6 (by decide)).choose_spec (by decide) (by decide) h5 h6 d_M_same_19 ?_
      refine lv_aload_n hex hb d_M_same_20 rfl (lv_at hl 0 rfl) ?_
      refine r_getR (ci := 4) (C := R_M) (T := F_M) (N := 22) hex hb hts (fun w h => List.mem_cons_of_mem _ (in_M w h)) hown hK hP hLM rfl 8 (by decide) (hts _ (List.mem_cons_of_mem _ bg_399)) (fun _ h9 => h9) rfl d_M_same_21 ?_
      refine lv_iload_n hex hb d_M_same_24 rfl (lv_at hl 2 rfl) ?_
      obtain ⟨h7, T⟩ := T
      obtain ⟨h8, T⟩ := T
      refine r_iald hex hb hK hP (hLA 7 6 (by decide)).choose_spec (by decide) (by decide) h7 h8 d_M_same_25 ?_
      obtain ⟨h9, T⟩ := T
      obtain ⟨h10, T⟩ := T
      obtain ⟨T1, T2⟩ := T
      refine r_icmp_ne (a := σa3.2.1 7 (r 7) a1.toNat) (b := σa3.2.1 7 (r 7) a2.toNat) (tgt := 33) hex hb h9 h10 d_M_same_26 rfl (fun hc => ?_) (fun hc => ?_)
      · have T := T1 hc
        refine lv_iconst (v := iI 0) hex hb d_M_same_33 rfl ?_
        exact r_zret hex hb hr hlk hK hA hP hS (by decide) ⟨_, rfl, rfl, T⟩ (Nat.zero_le _) (Nat.zero_le _) d_M_same_34
      · have T := T2 hc
        refine lv_iconst (v := iI 1) hex hb d_M_same_29 rfl ?_
        refine lv_goto (tgt := 34) hex hb d_M_same_30 rfl ?_
        exact r_zret hex hb hr hlk hK hA hP hS (by decide) ⟨_, rfl, rfl, T⟩ (Nat.zero_le _) (Nat.zero_le _) d_M_same_34
set_option maxRecDepth 100000 in
theorem w_M_same {l : Launch} {D : va_G} {Λ : Lam} {σ : Mem} {r : Nat → Nat} {a1 : Int} {a2 : Int} {P : Int → Mem → Prop} (hL : LayM Λ r) (T : K_M_isRoot l D Λ σ a1 (fun z1 σa1 => rng z1 ∧ ((z1 = 0 → P 0 σa1) ∧ (¬ z1 = 0 → K_M_isRoot l D Λ σa1 a2 (fun z3 σa3 => rng z3 ∧ ((z3 = 0 → P 0 σa3) ∧ (¬ z3 = 0 → 0 ≤ a1 ∧ a1 < (6 : Int) ∧ 0 ≤ a2 ∧ a2 < (6 : Int) ∧ rng (σa3.2.1 7 (r 7) a1.toNat) ∧ rng (σa3.2.1 7 (r 7) a2.toNat) ∧ ((¬ (σa3.2.1 7 (r 7) a1.toNat) = (σa3.2.1 7 (r 7) a2.toNat) → P 0 σa3) ∧ ((σa3.2.1 7 (r 7) a1.toNat) = (σa3.2.1 7 (r 7) a2.toNat) → P 1 σa3))))))))) : K_M_same l D Λ σ r a1 a2 P := e_M_same (fun x hl hD hx => by subst hl; subst hD; exact u_M_same_0 hx hL T)
-- DirtyCardHeapModel.address(I)I
def rm_M_address : Room := { frames := 1, cells := 0, slots := 0, locals := 20 }
abbrev X_M_address (x : Cx) : Prop := CxOk x b_M_address 3 wl_M_address R_M (some .int) rm_M_address "address"
abbrev K_M_address (l : Launch) (D : va_G) (Λ : Lam) (σ : Mem) (r : Nat → Nat) (a1 : Int) (P : Int → Mem → Prop) : Prop := Ct l D y_M_address wl_M_address rm_M_address [.ref (r 0), .int (iI a1)] Λ σ (pI Λ P)
abbrev N_M_address_0 (x : Cx) (P : Int → Mem → Prop) (Λ : Lam) (σ : Mem) (r : Nat → Nat) (a1 : Int) : Prop := AtG x (pI Λ P) 3 0 0 0 Λ σ [(0, .ref (r 0)), (1, .int (iI a1))] []
theorem e_M_address {l : Launch} {D : va_G} {Λ : Lam} {σ : Mem} {r : Nat → Nat} {a1 : Int} {P : Int → Mem → Prop} (h : ∀ x : Cx, xl x = l → xD x = D → X_M_address x → N_M_address_0 x P Λ σ r a1) : K_M_address l D Λ σ r a1 P := Ct.of (by decide) rfl (Nat.le_of_ble_eq_true rfl) h
set_option maxHeartbeats 4000000 in
set_option maxRecDepth 100000 in
theorem u_M_address_0 {x : Cx} (hx : X_M_address x) {P : Int → Mem → Prop} {Λ : Lam} {σ : Mem} {r : Nat → Nat} {a1 : Int} (hL : LayM Λ r) (T : K_M_isRoot (xl x) (xD x) Λ σ a1 (fun z1 σa1 => rng z1 ∧ ((¬ z1 = 0 → 0 ≤ a1 ∧ a1 < (6 : Int) ∧ rng (σa1.2.1 7 (r 7) a1.toNat) ∧ ((0 ≤ (σa1.2.1 7 (r 7) a1.toNat) → 0 ≤ (σa1.2.1 7 (r 7) a1.toNat) ∧ (σa1.2.1 7 (r 7) a1.toNat) < (90 : Int) ∧ rng (σa1.2.1 1 (r 1) (σa1.2.1 7 (r 7) a1.toNat).toNat) ∧ ((¬ (σa1.2.1 1 (r 1) (σa1.2.1 7 (r 7) a1.toNat).toNat) = 2 → P (-1) σa1) ∧ ((σa1.2.1 1 (r 1) (σa1.2.1 7 (r 7) a1.toNat).toNat) = 2 → 0 ≤ (σa1.2.1 7 (r 7) a1.toNat) ∧ (σa1.2.1 7 (r 7) a1.toNat) < (90 : Int) ∧ P (σa1.2.1 6 (r 6) (σa1.2.1 7 (r 7) a1.toNat).toNat) σa1))) ∧ (¬ 0 ≤ (σa1.2.1 7 (r 7) a1.toNat) → P (-3) σa1))) ∧ (z1 = 0 → P (-2) σa1)))) : N_M_address_0 x P Λ σ r a1 := by
  obtain ⟨hex, hb, hml, hown, hts, hr, hlk, hR, hnm, hAs, hNW⟩ := hx
  obtain ⟨hLM, hLA⟩ := hL
  refine ⟨(), fun hK hA ls H locs hl hP hS => ?_⟩
  refine lv_iload_n hex hb d_M_address_0 rfl (lv_at hl 1 rfl) ?_
  refine r_call (va_runS (As := [.int (iI a1)]) (rest := []) ⟨hex, hb, hml, hown, hts⟩ (Ct.use T H.size) (cwS 1 hts (gdS bg_520 bg_521 bg_4 bc_M_isRoot) rfl rfl rfl hdV_M_isRoot ⟨by rw [hR]; exact Nat.le_of_ble_eq_true rfl, by rw [hR]; exact Nat.le_of_ble_eq_true rfl⟩) (px_preS hNW hK hP) rfl rfl hl.1 rfl (lv_room (Nat.le_of_ble_eq_true rfl)) d_M_address_1 ⟨by rw [hR]; exact Nat.le_of_ble_eq_true rfl, by rw [hR]; exact Nat.le_of_ble_eq_true rfl⟩) hS hA hAs (fun v Λ1 σ1 H locs hp hP hK hA hS => ?_)
  obtain ⟨z1, rfl, rfl, T⟩ := hp
  generalize σ1 = σa1 at hP T
  refine W.eq (g2 := F0 (xm x) 4 ls [.int (iI z1)]) rfl ?_
  obtain ⟨h2, T⟩ := T
  obtain ⟨T1, T2⟩ := T
  refine r_if_ne (a := z1) (tgt := 10) hex hb h2 d_M_address_4 rfl (fun hc => ?_) (fun hc => ?_)
  · have T := T1 hc
    refine lv_aload_n hex hb d_M_address_10 rfl (lv_at hl 0 rfl) ?_
    refine r_getR (ci := 4) (C := R_M) (T := F_M) (N := 22) hex hb hts (fun w h => List.mem_cons_of_mem _ (in_M w h)) hown hK hP hLM rfl 8 (by decide) (hts _ (List.mem_cons_of_mem _ bg_399)) (fun _ h9 => h9) rfl d_M_address_11 ?_
    refine lv_iload_n hex hb d_M_address_14 rfl (lv_at hl 1 rfl) ?_
    obtain ⟨h3, T⟩ := T
    obtain ⟨h4, T⟩ := T
    refine r_iald hex hb hK hP (hLA 7 6 (by decide)).choose_spec (by decide) (by decide) h3 h4 d_M_address_15 ?_
    refine lv_istore_n (lv' := [(2, .int (iI (σa1.2.1 7 (r 7) a1.toNat))), (0, .ref (r 0)), (1, .int (iI a1))]) hex hb d_M_address_16 rfl hl (Nat.le_of_ble_eq_true rfl) rfl (fun ls hl => ?_)
    refine lv_iload_n hex hb d_M_address_17 rfl (lv_at hl 0 rfl) ?_
    obtain ⟨h5, T⟩ := T
    obtain ⟨T1, T2⟩ := T
    refine r_if_ge (a := σa1.2.1 7 (r 7) a1.toNat) (tgt := 26) hex hb h5 d_M_address_18 rfl (fun hc => ?_) (fun hc => ?_)
    · have T := T1 hc
      refine lv_aload_n hex hb d_M_address_26 rfl (lv_at hl 1 rfl) ?_
      refine r_getR (ci := 4) (C := R_M) (T := F_M) (N := 22) hex hb hts (fun w h => List.mem_cons_of_mem _ (in_M w h)) hown hK hP hLM rfl 0 (by decide) (hts _ (List.mem_cons_of_mem _ bg_391)) (fun _ h9 => h9) rfl d_M_address_27 ?_
      refine lv_iload_n hex hb d_M_address_30 rfl (lv_at hl 0 rfl) ?_
      obtain ⟨h6, T⟩ := T
      obtain ⟨h7, T⟩ := T
      refine r_iald hex hb hK hP (hLA 1 90 (by decide)).choose_spec (by decide) (by decide) h6 h7 d_M_address_31 ?_
      refine lv_iconst (v := iI 2) hex hb d_M_address_32 rfl ?_
      obtain ⟨h8, T⟩ := T
      obtain ⟨T1, T2⟩ := T
      refine r_icmp_ne (a := σa1.2.1 1 (r 1) (σa1.2.1 7 (r 7) a1.toNat).toNat) (b := 2) (tgt := 45) hex hb h8 ⟨by omega, by omega⟩ d_M_address_33 rfl (fun hc => ?_) (fun hc => ?_)
      · have T := T1 hc
        refine lv_iconst (v := iI (-1)) hex hb d_M_address_45 rfl ?_
        exact r_iret hex hb hr hlk hK hA hP hS ⟨_, rfl, rfl, T⟩ (Nat.zero_le _) (Nat.zero_le _) d_M_address_46
      · have T := T2 hc
        refine lv_aload_n hex hb d_M_address_36 rfl (lv_at hl 1 rfl) ?_
        refine r_getR (ci := 4) (C := R_M) (T := F_M) (N := 22) hex hb hts (fun w h => List.mem_cons_of_mem _ (in_M w h)) hown hK hP hLM rfl 5 (by decide) (hts _ (List.mem_cons_of_mem _ bg_396)) (fun _ h9 => h9) rfl d_M_address_37 ?_
        refine lv_iload_n hex hb d_M_address_40 rfl (lv_at hl 0 rfl) ?_
        obtain ⟨h9, T⟩ := T
        obtain ⟨h10, T⟩ := T
        refine r_iald hex hb hK hP (hLA 6 90 (by decide)).choose_spec (by decide) (by decide) h9 h10 d_M_address_41 ?_
        refine lv_goto (tgt := 46) hex hb d_M_address_42 rfl ?_
        exact r_iret hex hb hr hlk hK hA hP hS ⟨_, rfl, rfl, T⟩ (Nat.zero_le _) (Nat.zero_le _) d_M_address_46
    · have T := T2 hc
      refine lv_bipush (v := iI (-3)) hex hb d_M_address_21 rfl ?_
      refine lv_goto (tgt := 46) hex hb d_M_address_23 rfl ?_
      exact r_iret hex hb hr hlk hK hA hP hS ⟨_, rfl, rfl, T⟩ (Nat.zero_le _) (Nat.zero_le _) d_M_address_46
  · have T := T2 hc
    refine lv_bipush (v := iI (-2)) hex hb d_M_address_7 rfl ?_
    exact r_iret hex hb hr hlk hK hA hP hS ⟨_, rfl, rfl, T⟩ (Nat.zero_le _) (Nat.zero_le _) d_M_address_9
set_option maxRecDepth 100000 in
theorem w_M_address {l : Launch} {D : va_G} {Λ : Lam} {σ : Mem} {r : Nat → Nat} {a1 : Int} {P : Int → Mem → Prop} (hL : LayM Λ r) (T : K_M_isRoot l D Λ σ a1 (fun z1 σa1 => rng z1 ∧ ((¬ z1 = 0 → 0 ≤ a1 ∧ a1 < (6 : Int) ∧ rng (σa1.2.1 7 (r 7) a1.toNat) ∧ ((0 ≤ (σa1.2.1 7 (r 7) a1.toNat) → 0 ≤ (σa1.2.1 7 (r 7) a1.toNat) ∧ (σa1.2.1 7 (r 7) a1.toNat) < (90 : Int) ∧ rng (σa1.2.1 1 (r 1) (σa1.2.1 7 (r 7) a1.toNat).toNat) ∧ ((¬ (σa1.2.1 1 (r 1) (σa1.2.1 7 (r 7) a1.toNat).toNat) = 2 → P (-1) σa1) ∧ ((σa1.2.1 1 (r 1) (σa1.2.1 7 (r 7) a1.toNat).toNat) = 2 → 0 ≤ (σa1.2.1 7 (r 7) a1.toNat) ∧ (σa1.2.1 7 (r 7) a1.toNat) < (90 : Int) ∧ P (σa1.2.1 6 (r 6) (σa1.2.1 7 (r 7) a1.toNat).toNat) σa1))) ∧ (¬ 0 ≤ (σa1.2.1 7 (r 7) a1.toNat) → P (-3) σa1))) ∧ (z1 = 0 → P (-2) σa1)))) : K_M_address l D Λ σ r a1 P := e_M_address (fun x hl hD hx => by subst hl; subst hD; exact u_M_address_0 hx hL T)
-- DirtyCardHeapModel.age(I)I
def rm_M_age : Room := { frames := 1, cells := 0, slots := 0, locals := 20 }
abbrev X_M_age (x : Cx) : Prop := CxOk x b_M_age 3 wl_M_age R_M (some .int) rm_M_age "age"
abbrev K_M_age (l : Launch) (D : va_G) (Λ : Lam) (σ : Mem) (r : Nat → Nat) (a1 : Int) (P : Int → Mem → Prop) : Prop := Ct l D y_M_age wl_M_age rm_M_age [.ref (r 0), .int (iI a1)] Λ σ (pI Λ P)
abbrev N_M_age_0 (x : Cx) (P : Int → Mem → Prop) (Λ : Lam) (σ : Mem) (r : Nat → Nat) (a1 : Int) : Prop := AtG x (pI Λ P) 3 0 0 0 Λ σ [(0, .ref (r 0)), (1, .int (iI a1))] []
theorem e_M_age {l : Launch} {D : va_G} {Λ : Lam} {σ : Mem} {r : Nat → Nat} {a1 : Int} {P : Int → Mem → Prop} (h : ∀ x : Cx, xl x = l → xD x = D → X_M_age x → N_M_age_0 x P Λ σ r a1) : K_M_age l D Λ σ r a1 P := Ct.of (by decide) rfl (Nat.le_of_ble_eq_true rfl) h
set_option maxHeartbeats 4000000 in
set_option maxRecDepth 100000 in
theorem u_M_age_0 {x : Cx} (hx : X_M_age x) {P : Int → Mem → Prop} {Λ : Lam} {σ : Mem} {r : Nat → Nat} {a1 : Int} (hL : LayM Λ r) (T : K_M_isRoot (xl x) (xD x) Λ σ a1 (fun z1 σa1 => rng z1 ∧ ((¬ z1 = 0 → 0 ≤ a1 ∧ a1 < (6 : Int) ∧ rng (σa1.2.1 7 (r 7) a1.toNat) ∧ ((0 ≤ (σa1.2.1 7 (r 7) a1.toNat) → 0 ≤ (σa1.2.1 7 (r 7) a1.toNat) ∧ (σa1.2.1 7 (r 7) a1.toNat) < (90 : Int) ∧ rng (σa1.2.1 1 (r 1) (σa1.2.1 7 (r 7) a1.toNat).toNat) ∧ ((¬ (σa1.2.1 1 (r 1) (σa1.2.1 7 (r 7) a1.toNat).toNat) = 1 → P (-1) σa1) ∧ ((σa1.2.1 1 (r 1) (σa1.2.1 7 (r 7) a1.toNat).toNat) = 1 → 0 ≤ (σa1.2.1 7 (r 7) a1.toNat) ∧ (σa1.2.1 7 (r 7) a1.toNat) < (90 : Int) ∧ P (σa1.2.1 5 (r 5) (σa1.2.1 7 (r 7) a1.toNat).toNat) σa1))) ∧ (¬ 0 ≤ (σa1.2.1 7 (r 7) a1.toNat) → P (-3) σa1))) ∧ (z1 = 0 → P (-2) σa1)))) : N_M_age_0 x P Λ σ r a1 := by
  obtain ⟨hex, hb, hml, hown, hts, hr, hlk, hR, hnm, hAs, hNW⟩ := hx
  obtain ⟨hLM, hLA⟩ := hL
  refine ⟨(), fun hK hA ls H locs hl hP hS => ?_⟩
  refine lv_iload_n hex hb d_M_age_0 rfl (lv_at hl 1 rfl) ?_
  refine r_call (va_runS (As := [.int (iI a1)]) (rest := []) ⟨hex, hb, hml, hown, hts⟩ (Ct.use T H.size) (cwS 1 hts (gdS bg_520 bg_521 bg_4 bc_M_isRoot) rfl rfl rfl hdV_M_isRoot ⟨by rw [hR]; exact Nat.le_of_ble_eq_true rfl, by rw [hR]; exact Nat.le_of_ble_eq_true rfl⟩) (px_preS hNW hK hP) rfl rfl hl.1 rfl (lv_room (Nat.le_of_ble_eq_true rfl)) d_M_age_1 ⟨by rw [hR]; exact Nat.le_of_ble_eq_true rfl, by rw [hR]; exact Nat.le_of_ble_eq_true rfl⟩) hS hA hAs (fun v Λ1 σ1 H locs hp hP hK hA hS => ?_)
  obtain ⟨z1, rfl, rfl, T⟩ := hp
  generalize σ1 = σa1 at hP T
  refine W.eq (g2 := F0 (xm x) 4 ls [.int (iI z1)]) rfl ?_
  obtain ⟨h2, T⟩ := T
  obtain ⟨T1, T2⟩ := T
  refine r_if_ne (a := z1) (tgt := 10) hex hb h2 d_M_age_4 rfl (fun hc => ?_) (fun hc => ?_)
  · have T := T1 hc
    refine lv_aload_n hex hb d_M_age_10 rfl (lv_at hl 0 rfl) ?_
    refine r_getR (ci := 4) (C := R_M) (T := F_M) (N := 22) hex hb hts (fun w h => List.mem_cons_of_mem _ (in_M w h)) hown hK hP hLM rfl 8 (by decide) (hts _ (List.mem_cons_of_mem _ bg_399)) (fun _ h9 => h9) rfl d_M_age_11 ?_
    refine lv_iload_n hex hb d_M_age_14 rfl (lv_at hl 1 rfl) ?_
    obtain ⟨h3, T⟩ := T
    obtain ⟨h4, T⟩ := T
    refine r_iald hex hb hK hP (hLA 7 6 (by decide)).choose_spec (by decide) (by decide) h3 h4 d_M_age_15 ?_
    refine lv_istore_n (lv' := [(2, .int (iI (σa1.2.1 7 (r 7) a1.toNat))), (0, .ref (r 0)), (1, .int (iI a1))]) hex hb d_M_age_16 rfl hl (Nat.le_of_ble_eq_true rfl) rfl (fun ls hl => ?_)
    refine lv_iload_n hex hb d_M_age_17 rfl (lv_at hl 0 rfl) ?_
    obtain ⟨h5, T⟩ := T
    obtain ⟨T1, T2⟩ := T
    refine r_if_ge (a := σa1.2.1 7 (r 7) a1.toNat) (tgt := 26) hex hb h5 d_M_age_18 rfl (fun hc => ?_) (fun hc => ?_)
    · have T := T1 hc
      refine lv_aload_n hex hb d_M_age_26 rfl (lv_at hl 1 rfl) ?_
      refine r_getR (ci := 4) (C := R_M) (T := F_M) (N := 22) hex hb hts (fun w h => List.mem_cons_of_mem _ (in_M w h)) hown hK hP hLM rfl 0 (by decide) (hts _ (List.mem_cons_of_mem _ bg_391)) (fun _ h9 => h9) rfl d_M_age_27 ?_
      refine lv_iload_n hex hb d_M_age_30 rfl (lv_at hl 0 rfl) ?_
      obtain ⟨h6, T⟩ := T
      obtain ⟨h7, T⟩ := T
      refine r_iald hex hb hK hP (hLA 1 90 (by decide)).choose_spec (by decide) (by decide) h6 h7 d_M_age_31 ?_
      refine lv_iconst (v := iI 1) hex hb d_M_age_32 rfl ?_
      obtain ⟨h8, T⟩ := T
      obtain ⟨T1, T2⟩ := T
      refine r_icmp_ne (a := σa1.2.1 1 (r 1) (σa1.2.1 7 (r 7) a1.toNat).toNat) (b := 1) (tgt := 45) hex hb h8 ⟨by omega, by omega⟩ d_M_age_33 rfl (fun hc => ?_) (fun hc => ?_)
      · have T := T1 hc
        refine lv_iconst (v := iI (-1)) hex hb d_M_age_45 rfl ?_
        exact r_iret hex hb hr hlk hK hA hP hS ⟨_, rfl, rfl, T⟩ (Nat.zero_le _) (Nat.zero_le _) d_M_age_46
      · have T := T2 hc
        refine lv_aload_n hex hb d_M_age_36 rfl (lv_at hl 1 rfl) ?_
        refine r_getR (ci := 4) (C := R_M) (T := F_M) (N := 22) hex hb hts (fun w h => List.mem_cons_of_mem _ (in_M w h)) hown hK hP hLM rfl 4 (by decide) (hts _ (List.mem_cons_of_mem _ bg_395)) (fun _ h9 => h9) rfl d_M_age_37 ?_
        refine lv_iload_n hex hb d_M_age_40 rfl (lv_at hl 0 rfl) ?_
        obtain ⟨h9, T⟩ := T
        obtain ⟨h10, T⟩ := T
        refine r_iald hex hb hK hP (hLA 5 90 (by decide)).choose_spec (by decide) (by decide) h9 h10 d_M_age_41 ?_
        refine lv_goto (tgt := 46) hex hb d_M_age_42 rfl ?_
        exact r_iret hex hb hr hlk hK hA hP hS ⟨_, rfl, rfl, T⟩ (Nat.zero_le _) (Nat.zero_le _) d_M_age_46
    · have T := T2 hc
      refine lv_bipush (v := iI (-3)) hex hb d_M_age_21 rfl ?_
      refine lv_goto (tgt := 46) hex hb d_M_age_23 rfl ?_
      exact r_iret hex hb hr hlk hK hA hP hS ⟨_, rfl, rfl, T⟩ (Nat.zero_le _) (Nat.zero_le _) d_M_age_46
  · have T := T2 hc
    refine lv_bipush (v := iI (-2)) hex hb d_M_age_7 rfl ?_
    exact r_iret hex hb hr hlk hK hA hP hS ⟨_, rfl, rfl, T⟩ (Nat.zero_le _) (Nat.zero_le _) d_M_age_9
set_option maxRecDepth 100000 in
theorem w_M_age {l : Launch} {D : va_G} {Λ : Lam} {σ : Mem} {r : Nat → Nat} {a1 : Int} {P : Int → Mem → Prop} (hL : LayM Λ r) (T : K_M_isRoot l D Λ σ a1 (fun z1 σa1 => rng z1 ∧ ((¬ z1 = 0 → 0 ≤ a1 ∧ a1 < (6 : Int) ∧ rng (σa1.2.1 7 (r 7) a1.toNat) ∧ ((0 ≤ (σa1.2.1 7 (r 7) a1.toNat) → 0 ≤ (σa1.2.1 7 (r 7) a1.toNat) ∧ (σa1.2.1 7 (r 7) a1.toNat) < (90 : Int) ∧ rng (σa1.2.1 1 (r 1) (σa1.2.1 7 (r 7) a1.toNat).toNat) ∧ ((¬ (σa1.2.1 1 (r 1) (σa1.2.1 7 (r 7) a1.toNat).toNat) = 1 → P (-1) σa1) ∧ ((σa1.2.1 1 (r 1) (σa1.2.1 7 (r 7) a1.toNat).toNat) = 1 → 0 ≤ (σa1.2.1 7 (r 7) a1.toNat) ∧ (σa1.2.1 7 (r 7) a1.toNat) < (90 : Int) ∧ P (σa1.2.1 5 (r 5) (σa1.2.1 7 (r 7) a1.toNat).toNat) σa1))) ∧ (¬ 0 ≤ (σa1.2.1 7 (r 7) a1.toNat) → P (-3) σa1))) ∧ (z1 = 0 → P (-2) σa1)))) : K_M_age l D Λ σ r a1 P := e_M_age (fun x hl hD hx => by subst hl; subst hD; exact u_M_age_0 hx hL T)
-- DirtyCardHeapModel.shade(I)I
def rm_M_shade : Room := { frames := 0, cells := 0, slots := 0, locals := 0 }
abbrev X_M_shade (x : Cx) : Prop := CxOk x b_M_shade 2 wl_M_shade R_M (some .int) rm_M_shade "shade"
abbrev K_M_shade (l : Launch) (D : va_G) (Λ : Lam) (σ : Mem) (r : Nat → Nat) (a1 : Int) (P : Int → Mem → Prop) : Prop := Ct l D y_M_shade wl_M_shade rm_M_shade [.ref (r 0), .int (iI a1)] Λ σ (pI Λ P)
abbrev N_M_shade_0 (x : Cx) (P : Int → Mem → Prop) (Λ : Lam) (σ : Mem) (r : Nat → Nat) (a1 : Int) : Prop := AtG x (pI Λ P) 2 0 0 0 Λ σ [(0, .ref (r 0)), (1, .int (iI a1))] []
theorem e_M_shade {l : Launch} {D : va_G} {Λ : Lam} {σ : Mem} {r : Nat → Nat} {a1 : Int} {P : Int → Mem → Prop} (h : ∀ x : Cx, xl x = l → xD x = D → X_M_shade x → N_M_shade_0 x P Λ σ r a1) : K_M_shade l D Λ σ r a1 P := Ct.of (by decide) rfl (Nat.le_of_ble_eq_true rfl) h
set_option maxHeartbeats 4000000 in
set_option maxRecDepth 100000 in
theorem u_M_shade_0 {x : Cx} (hx : X_M_shade x) {P : Int → Mem → Prop} {Λ : Lam} {σ : Mem} {r : Nat → Nat} {a1 : Int} (hL : LayM Λ r) (T : rng a1 ∧ ((a1 < 0 → P 0 σ) ∧ (¬ a1 < 0 → 0 ≤ a1 ∧ a1 < (90 : Int) ∧ rng (σ.2.1 1 (r 1) a1.toNat) ∧ ((¬ (σ.2.1 1 (r 1) a1.toNat) = 2 → P 0 σ) ∧ ((σ.2.1 1 (r 1) a1.toNat) = 2 → 0 ≤ a1 ∧ a1 < (90 : Int) ∧ rng (σ.2.1 51 (r 51) a1.toNat) ∧ (((σ.2.1 51 (r 51) a1.toNat) = 0 → 0 ≤ a1 ∧ a1 < (90 : Int) ∧ 0 ≤ a1 ∧ a1 < (90 : Int) ∧ P 1 (upY (upY σ 51 (r 51) a1.toNat 1) 52 (r 52) a1.toNat 1)) ∧ (¬ (σ.2.1 51 (r 51) a1.toNat) = 0 → P 0 σ))))))) : N_M_shade_0 x P Λ σ r a1 := by
  obtain ⟨hex, hb, hml, hown, hts, hr, hlk, hR, hnm, hAs, hNW⟩ := hx
  obtain ⟨hLM, hLA⟩ := hL
  refine ⟨(), fun hK hA ls H locs hl hP hS => ?_⟩
  refine lv_iload_n hex hb d_M_shade_0 rfl (lv_at hl 1 rfl) ?_
  obtain ⟨h1, T⟩ := T
  obtain ⟨T1, T2⟩ := T
  refine r_if_lt (a := a1) (tgt := 23) hex hb h1 d_M_shade_1 rfl (fun hc => ?_) (fun hc => ?_)
  · have T := T1 hc
    refine lv_iconst (v := iI 0) hex hb d_M_shade_23 rfl ?_
    exact r_iret hex hb hr hlk hK hA hP hS ⟨_, rfl, rfl, T⟩ (Nat.zero_le _) (Nat.zero_le _) d_M_shade_24
  · have T := T2 hc
    refine lv_aload_n hex hb d_M_shade_4 rfl (lv_at hl 0 rfl) ?_
    refine r_getR (ci := 4) (C := R_M) (T := F_M) (N := 22) hex hb hts (fun w h => List.mem_cons_of_mem _ (in_M w h)) hown hK hP hLM rfl 0 (by decide) (hts _ (List.mem_cons_of_mem _ bg_391)) (fun _ h9 => h9) rfl d_M_shade_5 ?_
    refine lv_iload_n hex hb d_M_shade_8 rfl (lv_at hl 1 rfl) ?_
    obtain ⟨h2, T⟩ := T
    obtain ⟨h3, T⟩ := T
    refine r_iald hex hb hK hP (hLA 1 90 (by decide)).choose_spec (by decide) (by decide) h2 h3 d_M_shade_9 ?_
    refine lv_iconst (v := iI 2) hex hb d_M_shade_10 rfl ?_
    obtain ⟨h4, T⟩ := T
    obtain ⟨T1, T2⟩ := T
    refine r_icmp_ne (a := σ.2.1 1 (r 1) a1.toNat) (b := 2) (tgt := 23) hex hb h4 ⟨by omega, by omega⟩ d_M_shade_11 rfl (fun hc => ?_) (fun hc => ?_)
    · have T := T1 hc
      refine lv_iconst (v := iI 0) hex hb d_M_shade_23 rfl ?_
      exact r_iret hex hb hr hlk hK hA hP hS ⟨_, rfl, rfl, T⟩ (Nat.zero_le _) (Nat.zero_le _) d_M_shade_24
    · have T := T2 hc
      refine lv_aload_n hex hb d_M_shade_14 rfl (lv_at hl 0 rfl) ?_
      refine r_getR (ci := 4) (C := R_M) (T := F_M) (N := 22) hex hb hts (fun w h => List.mem_cons_of_mem _ (in_M w h)) hown hK hP hLM rfl 6 (by decide) (hts _ (List.mem_cons_of_mem _ bg_397)) (fun _ h9 => h9) rfl d_M_shade_15 ?_
      refine lv_iload_n hex hb d_M_shade_18 rfl (lv_at hl 1 rfl) ?_
      obtain ⟨h5, T⟩ := T
      obtain ⟨h6, T⟩ := T
      refine r_zald hex hb hK hP (hLA 51 90 (by decide)).choose_spec (by decide) (by decide) (by decide) h5 h6 d_M_shade_19 ?_
      obtain ⟨h7, T⟩ := T
      obtain ⟨T1, T2⟩ := T
      refine r_if_eq (a := σ.2.1 51 (r 51) a1.toNat) (tgt := 25) hex hb h7 d_M_shade_20 rfl (fun hc => ?_) (fun hc => ?_)
      · have T := T1 hc
        refine lv_aload_n hex hb d_M_shade_25 rfl (lv_at hl 0 rfl) ?_
        refine r_getR (ci := 4) (C := R_M) (T := F_M) (N := 22) hex hb hts (fun w h => List.mem_cons_of_mem _ (in_M w h)) hown hK hP hLM rfl 6 (by decide) (hts _ (List.mem_cons_of_mem _ bg_397)) (fun _ h9 => h9) rfl d_M_shade_26 ?_
        refine lv_iload_n hex hb d_M_shade_29 rfl (lv_at hl 1 rfl) ?_
        refine lv_iconst (v := iI 1) hex hb d_M_shade_30 rfl ?_
        obtain ⟨h8, T⟩ := T
        obtain ⟨h9, T⟩ := T
        refine r_zast (v := 1) hex hb hK hP hA hS (hLA 51 90 (by decide)).choose_spec (by decide) (by decide) (by decide) h8 h9 (by decide) d_M_shade_31 (fun H locs hP hS => ?_)
        refine lv_aload_n hex hb d_M_shade_32 rfl (lv_at hl 0 rfl) ?_
        refine r_getR (ci := 4) (C := R_M) (T := F_M) (N := 22) hex hb hts (fun w h => List.mem_cons_of_mem _ (in_M w h)) hown hK hP hLM rfl 7 (by decide) (hts _ (List.mem_cons_of_mem _ bg_398)) (fun _ h9 => h9) rfl d_M_shade_33 ?_
        refine lv_iload_n hex hb d_M_shade_36 rfl (lv_at hl 1 rfl) ?_
        refine lv_iconst (v := iI 1) hex hb d_M_shade_37 rfl ?_
        obtain ⟨h10, T⟩ := T
        obtain ⟨h11, T⟩ := T
        refine r_zast (v := 1) hex hb hK hP hA hS (hLA 52 90 (by decide)).choose_spec (by decide) (by decide) (by decide) h10 h11 (by decide) d_M_shade_38 (fun H locs hP hS => ?_)
        refine lv_iconst (v := iI 1) hex hb d_M_shade_39 rfl ?_
        exact r_iret hex hb hr hlk hK hA hP hS ⟨_, rfl, rfl, T⟩ (Nat.zero_le _) (Nat.zero_le _) d_M_shade_40
      · have T := T2 hc
        refine lv_iconst (v := iI 0) hex hb d_M_shade_23 rfl ?_
        exact r_iret hex hb hr hlk hK hA hP hS ⟨_, rfl, rfl, T⟩ (Nat.zero_le _) (Nat.zero_le _) d_M_shade_24
set_option maxRecDepth 100000 in
theorem w_M_shade {l : Launch} {D : va_G} {Λ : Lam} {σ : Mem} {r : Nat → Nat} {a1 : Int} {P : Int → Mem → Prop} (hL : LayM Λ r) (T : rng a1 ∧ ((a1 < 0 → P 0 σ) ∧ (¬ a1 < 0 → 0 ≤ a1 ∧ a1 < (90 : Int) ∧ rng (σ.2.1 1 (r 1) a1.toNat) ∧ ((¬ (σ.2.1 1 (r 1) a1.toNat) = 2 → P 0 σ) ∧ ((σ.2.1 1 (r 1) a1.toNat) = 2 → 0 ≤ a1 ∧ a1 < (90 : Int) ∧ rng (σ.2.1 51 (r 51) a1.toNat) ∧ (((σ.2.1 51 (r 51) a1.toNat) = 0 → 0 ≤ a1 ∧ a1 < (90 : Int) ∧ 0 ≤ a1 ∧ a1 < (90 : Int) ∧ P 1 (upY (upY σ 51 (r 51) a1.toNat 1) 52 (r 52) a1.toNat 1)) ∧ (¬ (σ.2.1 51 (r 51) a1.toNat) = 0 → P 0 σ))))))) : K_M_shade l D Λ σ r a1 P := e_M_shade (fun x hl hD hx => by subst hl; subst hD; exact u_M_shade_0 hx hL T)
-- DirtyCardHeapModel.scan(I)I
def rm_M_scan : Room := { frames := 1, cells := 0, slots := 0, locals := 21 }
abbrev X_M_scan (x : Cx) : Prop := CxOk x b_M_scan 4 wl_M_scan R_M (some .int) rm_M_scan "scan"
abbrev K_M_scan (l : Launch) (D : va_G) (Λ : Lam) (σ : Mem) (r : Nat → Nat) (a1 : Int) (P : Int → Mem → Prop) : Prop := Ct l D y_M_scan wl_M_scan rm_M_scan [.ref (r 0), .int (iI a1)] Λ σ (pI Λ P)
abbrev N_M_scan_0 (x : Cx) (P : Int → Mem → Prop) (Λ : Lam) (σ : Mem) (r : Nat → Nat) (a1 : Int) : Prop := AtG x (pI Λ P) 4 0 0 0 Λ σ [(0, .ref (r 0)), (1, .int (iI a1))] []
abbrev N_M_scan_11 (x : Cx) (P : Int → Mem → Prop) (Λ : Lam) (σ : Mem) (r : Nat → Nat) (i1 : Int) (i2 : Int) (i3 : Int) : Prop := AtG x (pI Λ P) 4 11 0 0 Λ σ [(0, .ref (r 0)), (1, .int (iI i1)), (2, .int (iI i2)), (3, .int (iI i3))] []
theorem e_M_scan {l : Launch} {D : va_G} {Λ : Lam} {σ : Mem} {r : Nat → Nat} {a1 : Int} {P : Int → Mem → Prop} (h : ∀ x : Cx, xl x = l → xD x = D → X_M_scan x → N_M_scan_0 x P Λ σ r a1) : K_M_scan l D Λ σ r a1 P := Ct.of (by decide) rfl (Nat.le_of_ble_eq_true rfl) h
set_option maxHeartbeats 4000000 in
set_option maxRecDepth 100000 in
theorem u_M_scan_0 {x : Cx} (hx : X_M_scan x) {P : Int → Mem → Prop} {Λ : Lam} {σ : Mem} {r : Nat → Nat} {a1 : Int} (hL : LayM Λ r) (T : 0 ≤ a1 ∧ a1 < (90 : Int) ∧ N_M_scan_11 x P Λ (upY σ 52 (r 52) a1.toNat 0) r a1 0 0) : N_M_scan_0 x P Λ σ r a1 := by
  obtain ⟨hex, hb, hml, hown, hts, hr, hlk, hR, hnm, hAs, hNW⟩ := hx
  obtain ⟨hLM, hLA⟩ := hL
  refine ⟨(), fun hK hA ls H locs hl hP hS => ?_⟩
  refine lv_iconst (v := iI 0) hex hb d_M_scan_0 rfl ?_
  refine lv_istore_n (lv' := [(2, .int (iI 0)), (0, .ref (r 0)), (1, .int (iI a1))]) hex hb d_M_scan_1 rfl hl (Nat.le_of_ble_eq_true rfl) rfl (fun ls hl => ?_)
  refine lv_aload_n hex hb d_M_scan_2 rfl (lv_at hl 1 rfl) ?_
  refine r_getR (ci := 4) (C := R_M) (T := F_M) (N := 22) hex hb hts (fun w h => List.mem_cons_of_mem _ (in_M w h)) hown hK hP hLM rfl 7 (by decide) (hts _ (List.mem_cons_of_mem _ bg_398)) (fun _ h9 => h9) rfl d_M_scan_3 ?_
  refine lv_iload_n hex hb d_M_scan_6 rfl (lv_at hl 2 rfl) ?_
  refine lv_iconst (v := iI 0) hex hb d_M_scan_7 rfl ?_
  obtain ⟨h1, T⟩ := T
  obtain ⟨h2, T⟩ := T
  refine r_zast (v := 0) hex hb hK hP hA hS (hLA 52 90 (by decide)).choose_spec (by decide) (by decide) (by decide) h1 h2 (by decide) d_M_scan_8 (fun H locs hP hS => ?_)
  refine lv_iconst (v := iI 0) hex hb d_M_scan_9 rfl ?_
  refine lv_istore_n (lv' := [(3, .int (iI 0)), (2, .int (iI 0)), (0, .ref (r 0)), (1, .int (iI a1))]) hex hb d_M_scan_10 rfl hl (Nat.le_of_ble_eq_true rfl) rfl (fun ls hl => ?_)
  exact AtG.use T hK hA _ _ _ (lv_sub hl [2, 3, 1, 0] rfl) hP hS
set_option maxHeartbeats 4000000 in
set_option maxRecDepth 100000 in
theorem u_M_scan_11 {x : Cx} (hx : X_M_scan x) {P : Int → Mem → Prop} {Λ : Lam} {σ : Mem} {r : Nat → Nat} {i1 : Int} {i2 : Int} {i3 : Int} (hL : LayM Λ r) (T : 0 ≤ i1 ∧ i1 < (90 : Int) ∧ rng i3 ∧ rng (σ.2.1 3 (r 3) i1.toNat) ∧ (((σ.2.1 3 (r 3) i1.toNat) ≤ i3 → P i2 σ) ∧ (¬ (σ.2.1 3 (r 3) i1.toNat) ≤ i3 → 0 ≤ ((3 * i1) + i3) ∧ ((3 * i1) + i3) < (270 : Int) ∧ K_M_shade (xl x) (xD x) Λ σ r (σ.2.1 4 (r 4) ((3 * i1) + i3).toNat) (fun z7 σa7 => N_M_scan_11 x P Λ σa7 r i1 (i2 + z7) (i3 + 1))))) : N_M_scan_11 x P Λ σ r i1 i2 i3 := by
  obtain ⟨hex, hb, hml, hown, hts, hr, hlk, hR, hnm, hAs, hNW⟩ := hx
  obtain ⟨hLM, hLA⟩ := hL
  refine ⟨(), fun hK hA ls H locs hl hP hS => ?_⟩
  refine lv_iload_n hex hb d_M_scan_11 rfl (lv_at hl 3 rfl) ?_
  refine lv_aload_n hex hb d_M_scan_12 rfl (lv_at hl 0 rfl) ?_
  refine r_getR (ci := 4) (C := R_M) (T := F_M) (N := 22) hex hb hts (fun w h => List.mem_cons_of_mem _ (in_M w h)) hown hK hP hLM rfl 2 (by decide) (hts _ (List.mem_cons_of_mem _ bg_393)) (fun _ h9 => h9) rfl d_M_scan_13 ?_
  refine lv_iload_n hex hb d_M_scan_16 rfl (lv_at hl 1 rfl) ?_
  obtain ⟨h1, T⟩ := T
  obtain ⟨h2, T⟩ := T
  refine r_iald hex hb hK hP (hLA 3 90 (by decide)).choose_spec (by decide) (by decide) h1 h2 d_M_scan_17 ?_
  obtain ⟨h3, T⟩ := T
  obtain ⟨h4, T⟩ := T
  obtain ⟨T1, T2⟩ := T
  refine r_icmp_ge (a := i3) (b := σ.2.1 3 (r 3) i1.toNat) (tgt := 44) hex hb h3 h4 d_M_scan_18 rfl (fun hc => ?_) (fun hc => ?_)
  · have T := T1 hc
    refine lv_iload_n hex hb d_M_scan_44 rfl (lv_at hl 2 rfl) ?_
    exact r_iret hex hb hr hlk hK hA hP hS ⟨_, rfl, rfl, T⟩ (Nat.zero_le _) (Nat.zero_le _) d_M_scan_45
  · have T := T2 hc
    refine lv_iload_n hex hb d_M_scan_21 rfl (lv_at hl 2 rfl) ?_
    refine lv_aload_n hex hb d_M_scan_22 rfl (lv_at hl 0 rfl) ?_
    refine lv_aload_n hex hb d_M_scan_23 rfl (lv_at hl 0 rfl) ?_
    refine r_getR (ci := 4) (C := R_M) (T := F_M) (N := 22) hex hb hts (fun w h => List.mem_cons_of_mem _ (in_M w h)) hown hK hP hLM rfl 3 (by decide) (hts _ (List.mem_cons_of_mem _ bg_394)) (fun _ h9 => h9) rfl d_M_scan_24 ?_
    refine lv_iconst (v := iI 3) hex hb d_M_scan_27 rfl ?_
    refine lv_iload_n hex hb d_M_scan_28 rfl (lv_at hl 1 rfl) ?_
    refine r_imul hex hb d_M_scan_29 ?_
    refine lv_iload_n hex hb d_M_scan_30 rfl (lv_at hl 3 rfl) ?_
    refine r_iadd hex hb d_M_scan_31 ?_
    obtain ⟨h5, T⟩ := T
    obtain ⟨h6, T⟩ := T
    refine r_iald hex hb hK hP (hLA 4 270 (by decide)).choose_spec (by decide) (by decide) h5 h6 d_M_scan_32 ?_
    refine r_call (va_runV (As := [.int (iI (σ.2.1 4 (r 4) ((3 * i1) + i3).toNat))]) (rest := [.int (iI i2)]) ⟨hex, hb, hml, hown, hts⟩ (Ct.use T H.size) (cwV 1 hts (gdV bg_571 bg_573 bp_33 bg_4 bc_M_shade) rfl rfl rfl hdV_M_shade ⟨by rw [hR]; exact Nat.le_of_ble_eq_true rfl, by rw [hR]; exact Nat.le_of_ble_eq_true rfl⟩) (px_preV (ci := 4) hNW hK hP hLM rfl) rfl rfl hl.1 rfl (lv_room (Nat.le_of_ble_eq_true rfl)) d_M_scan_33 ⟨by rw [hR]; exact Nat.le_of_ble_eq_true rfl, by rw [hR]; exact Nat.le_of_ble_eq_true rfl⟩) hS hA hAs (fun v Λ1 σ1 H locs hp hP hK hA hS => ?_)
    obtain ⟨z7, rfl, rfl, T⟩ := hp
    generalize σ1 = σa7 at hP T
    refine W.eq (g2 := F0 (xm x) 36 ls [.int (iI z7), .int (iI i2)]) rfl ?_
    refine r_iadd hex hb d_M_scan_36 ?_
    refine lv_istore_n (lv' := [(2, .int (iI (i2 + z7))), (0, .ref (r 0)), (1, .int (iI i1)), (3, .int (iI i3))]) hex hb d_M_scan_37 rfl hl (Nat.le_of_ble_eq_true rfl) rfl (fun ls hl => ?_)
    refine lv_iinc (v := iI (i3 + 1)) (lv' := [(3, .int (iI (i3 + 1))), (2, .int (iI (i2 + z7))), (0, .ref (r 0)), (1, .int (iI i1))]) hex hb d_M_scan_38 hl (k := 3) rfl (iI_add _ _) (Nat.le_of_ble_eq_true rfl) rfl (fun ls hl => ?_)
    refine lv_goto (tgt := 11) hex hb d_M_scan_41 rfl ?_
    exact AtG.use T hK hA _ _ _ (lv_sub hl [2, 3, 1, 0] rfl) hP hS
-- DirtyCardHeapModel.next(IZ)I
def rm_M_next : Room := { frames := 0, cells := 0, slots := 0, locals := 0 }
abbrev X_M_next (x : Cx) : Prop := CxOk x b_M_next 5 wl_M_next R_M (some .int) rm_M_next "next"
abbrev K_M_next (l : Launch) (D : va_G) (Λ : Lam) (σ : Mem) (r : Nat → Nat) (a1 : Int) (a2 : Int) (P : Int → Mem → Prop) : Prop := Ct l D y_M_next wl_M_next rm_M_next [.ref (r 0), .int (iI a1), .int (iI a2)] Λ σ (pI Λ P)
abbrev N_M_next_0 (x : Cx) (P : Int → Mem → Prop) (Λ : Lam) (σ : Mem) (r : Nat → Nat) (a1 : Int) (a2 : Int) : Prop := AtG x (pI Λ P) 5 0 0 0 Λ σ [(0, .ref (r 0)), (1, .int (iI a1)), (2, .int (iI a2))] []
abbrev N_M_next_5 (x : Cx) (P : Int → Mem → Prop) (Λ : Lam) (σ : Mem) (r : Nat → Nat) (i1 : Int) (i2 : Int) (i3 : Int) (i4 : Int) : Prop := AtG x (pI Λ P) 5 5 0 0 Λ σ [(0, .ref (r 0)), (1, .int (iI i1)), (2, .int (iI i2)), (3, .int (iI i3)), (4, .int (iI i4))] []
abbrev N_M_next_48 (x : Cx) (P : Int → Mem → Prop) (Λ : Lam) (σ : Mem) (r : Nat → Nat) (i1 : Int) (i2 : Int) (i3 : Int) (i4 : Int) : Prop := AtG x (pI Λ P) 5 48 0 0 Λ σ [(0, .ref (r 0)), (1, .int (iI i1)), (2, .int (iI i2)), (3, .int (iI i3)), (4, .int (iI i4))] []
theorem e_M_next {l : Launch} {D : va_G} {Λ : Lam} {σ : Mem} {r : Nat → Nat} {a1 : Int} {a2 : Int} {P : Int → Mem → Prop} (h : ∀ x : Cx, xl x = l → xD x = D → X_M_next x → N_M_next_0 x P Λ σ r a1 a2) : K_M_next l D Λ σ r a1 a2 P := Ct.of (by decide) rfl (Nat.le_of_ble_eq_true rfl) h
set_option maxHeartbeats 4000000 in
set_option maxRecDepth 100000 in
theorem u_M_next_0 {x : Cx} (hx : X_M_next x) {P : Int → Mem → Prop} {Λ : Lam} {σ : Mem} {r : Nat → Nat} {a1 : Int} {a2 : Int} (hL : LayM Λ r) (T : N_M_next_5 x P Λ σ r a1 a2 (-1) 0) : N_M_next_0 x P Λ σ r a1 a2 := by
  obtain ⟨hex, hb, hml, hown, hts, hr, hlk, hR, hnm, hAs, hNW⟩ := hx
  obtain ⟨hLM, hLA⟩ := hL
  refine ⟨(), fun hK hA ls H locs hl hP hS => ?_⟩
  refine lv_iconst (v := iI (-1)) hex hb d_M_next_0 rfl ?_
  refine lv_istore_n (lv' := [(3, .int (iI (-1))), (0, .ref (r 0)), (1, .int (iI a1)), (2, .int (iI a2))]) hex hb d_M_next_1 rfl hl (Nat.le_of_ble_eq_true rfl) rfl (fun ls hl => ?_)
  refine lv_iconst (v := iI 0) hex hb d_M_next_2 rfl ?_
  refine lv_istore (lv' := [(4, .int (iI 0)), (3, .int (iI (-1))), (0, .ref (r 0)), (1, .int (iI a1)), (2, .int (iI a2))]) hex hb d_M_next_3 hl (Nat.le_of_ble_eq_true rfl) rfl (fun ls hl => ?_)
  exact AtG.use T hK hA _ _ _ (lv_sub hl [2, 3, 4, 1, 0] rfl) hP hS
set_option maxHeartbeats 4000000 in
set_option maxRecDepth 100000 in
theorem u_M_next_5 {x : Cx} (hx : X_M_next x) {P : Int → Mem → Prop} {Λ : Lam} {σ : Mem} {r : Nat → Nat} {i1 : Int} {i2 : Int} {i3 : Int} {i4 : Int} (hL : LayM Λ r) (T : rng i4 ∧ ((90 ≤ i4 → P i3 σ) ∧ (¬ 90 ≤ i4 → 0 ≤ i4 ∧ i4 < (90 : Int) ∧ rng (σ.2.1 1 (r 1) i4.toNat) ∧ ((¬ (σ.2.1 1 (r 1) i4.toNat) = 2 → N_M_next_5 x P Λ σ r i1 i2 i3 (i4 + 1)) ∧ ((σ.2.1 1 (r 1) i4.toNat) = 2 → 0 ≤ i4 ∧ i4 < (90 : Int) ∧ rng (σ.2.1 6 (r 6) i4.toNat) ∧ rng i1 ∧ (((σ.2.1 6 (r 6) i4.toNat) < i1 → N_M_next_5 x P Λ σ r i1 i2 i3 (i4 + 1)) ∧ (¬ (σ.2.1 6 (r 6) i4.toNat) < i1 → 0 ≤ i4 ∧ i4 < (90 : Int) ∧ rng (σ.2.1 52 (r 52) i4.toNat) ∧ ((¬ (σ.2.1 52 (r 52) i4.toNat) = 0 → N_M_next_48 x P Λ σ r i1 i2 i3 i4) ∧ ((σ.2.1 52 (r 52) i4.toNat) = 0 → rng i2 ∧ ((¬ i2 = 0 → N_M_next_5 x P Λ σ r i1 i2 i3 (i4 + 1)) ∧ (i2 = 0 → N_M_next_48 x P Λ σ r i1 i2 i3 i4))))))))))) : N_M_next_5 x P Λ σ r i1 i2 i3 i4 := by
  obtain ⟨hex, hb, hml, hown, hts, hr, hlk, hR, hnm, hAs, hNW⟩ := hx
  obtain ⟨hLM, hLA⟩ := hL
  refine ⟨(), fun hK hA ls H locs hl hP hS => ?_⟩
  refine lv_iload hex hb d_M_next_5 (lv_at hl 4 rfl) ?_
  refine lv_bipush (v := iI 90) hex hb d_M_next_7 rfl ?_
  obtain ⟨h1, T⟩ := T
  obtain ⟨T1, T2⟩ := T
  refine r_icmp_ge (a := i4) (b := 90) (tgt := 77) hex hb h1 ⟨by omega, by omega⟩ d_M_next_9 rfl (fun hc => ?_) (fun hc => ?_)
  · have T := T1 hc
    refine lv_iload_n hex hb d_M_next_77 rfl (lv_at hl 3 rfl) ?_
    exact r_iret hex hb hr hlk hK hA hP hS ⟨_, rfl, rfl, T⟩ (Nat.zero_le _) (Nat.zero_le _) d_M_next_78
  · have T := T2 hc
    refine lv_aload_n hex hb d_M_next_12 rfl (lv_at hl 0 rfl) ?_
    refine r_getR (ci := 4) (C := R_M) (T := F_M) (N := 22) hex hb hts (fun w h => List.mem_cons_of_mem _ (in_M w h)) hown hK hP hLM rfl 0 (by decide) (hts _ (List.mem_cons_of_mem _ bg_391)) (fun _ h9 => h9) rfl d_M_next_13 ?_
    refine lv_iload hex hb d_M_next_16 (lv_at hl 4 rfl) ?_
    obtain ⟨h2, T⟩ := T
    obtain ⟨h3, T⟩ := T
    refine r_iald hex hb hK hP (hLA 1 90 (by decide)).choose_spec (by decide) (by decide) h2 h3 d_M_next_18 ?_
    refine lv_iconst (v := iI 2) hex hb d_M_next_19 rfl ?_
    obtain ⟨h4, T⟩ := T
    obtain ⟨T1, T2⟩ := T
    refine r_icmp_ne (a := σ.2.1 1 (r 1) i4.toNat) (b := 2) (tgt := 71) hex hb h4 ⟨by omega, by omega⟩ d_M_next_20 rfl (fun hc => ?_) (fun hc => ?_)
    · have T := T1 hc
      refine lv_iinc (v := iI (i4 + 1)) (lv' := [(4, .int (iI (i4 + 1))), (0, .ref (r 0)), (1, .int (iI i1)), (2, .int (iI i2)), (3, .int (iI i3))]) hex hb d_M_next_71 hl (k := 4) rfl (iI_add _ _) (Nat.le_of_ble_eq_true rfl) rfl (fun ls hl => ?_)
      refine lv_goto (tgt := 5) hex hb d_M_next_74 rfl ?_
      exact AtG.use T hK hA _ _ _ (lv_sub hl [1, 2, 3, 4, 0] rfl) hP hS
    · have T := T2 hc
      refine lv_aload_n hex hb d_M_next_23 rfl (lv_at hl 0 rfl) ?_
      refine r_getR (ci := 4) (C := R_M) (T := F_M) (N := 22) hex hb hts (fun w h => List.mem_cons_of_mem _ (in_M w h)) hown hK hP hLM rfl 5 (by decide) (hts _ (List.mem_cons_of_mem _ bg_396)) (fun _ h9 => h9) rfl d_M_next_24 ?_
      refine lv_iload hex hb d_M_next_27 (lv_at hl 4 rfl) ?_
      obtain ⟨h5, T⟩ := T
      obtain ⟨h6, T⟩ := T
      refine r_iald hex hb hK hP (hLA 6 90 (by decide)).choose_spec (by decide) (by decide) h5 h6 d_M_next_29 ?_
      refine lv_iload_n hex hb d_M_next_30 rfl (lv_at hl 1 rfl) ?_
      obtain ⟨h7, T⟩ := T
      obtain ⟨h8, T⟩ := T
      obtain ⟨T1, T2⟩ := T
      refine r_icmp_lt (a := σ.2.1 6 (r 6) i4.toNat) (b := i1) (tgt := 71) hex hb h7 h8 d_M_next_31 rfl (fun hc => ?_) (fun hc => ?_)
      · have T := T1 hc
        refine lv_iinc (v := iI (i4 + 1)) (lv' := [(4, .int (iI (i4 + 1))), (0, .ref (r 0)), (1, .int (iI i1)), (2, .int (iI i2)), (3, .int (iI i3))]) hex hb d_M_next_71 hl (k := 4) rfl (iI_add _ _) (Nat.le_of_ble_eq_true rfl) rfl (fun ls hl => ?_)
        refine lv_goto (tgt := 5) hex hb d_M_next_74 rfl ?_
        exact AtG.use T hK hA _ _ _ (lv_sub hl [1, 2, 3, 4, 0] rfl) hP hS
      · have T := T2 hc
        refine lv_aload_n hex hb d_M_next_34 rfl (lv_at hl 0 rfl) ?_
        refine r_getR (ci := 4) (C := R_M) (T := F_M) (N := 22) hex hb hts (fun w h => List.mem_cons_of_mem _ (in_M w h)) hown hK hP hLM rfl 7 (by decide) (hts _ (List.mem_cons_of_mem _ bg_398)) (fun _ h9 => h9) rfl d_M_next_35 ?_
        refine lv_iload hex hb d_M_next_38 (lv_at hl 4 rfl) ?_
        obtain ⟨h9, T⟩ := T
        obtain ⟨h10, T⟩ := T
        refine r_zald hex hb hK hP (hLA 52 90 (by decide)).choose_spec (by decide) (by decide) (by decide) h9 h10 d_M_next_40 ?_
        obtain ⟨h11, T⟩ := T
        obtain ⟨T1, T2⟩ := T
        refine r_if_ne (a := σ.2.1 52 (r 52) i4.toNat) (tgt := 48) hex hb h11 d_M_next_41 rfl (fun hc => ?_) (fun hc => ?_)
        · have T := T1 hc
          exact AtG.use T hK hA _ _ _ (lv_sub hl [0, 1, 2, 3, 4] rfl) hP hS
        · have T := T2 hc
          refine lv_iload_n hex hb d_M_next_44 rfl (lv_at hl 2 rfl) ?_
          obtain ⟨h12, T⟩ := T
          obtain ⟨T1, T2⟩ := T
          refine r_if_ne (a := i2) (tgt := 71) hex hb h12 d_M_next_45 rfl (fun hc => ?_) (fun hc => ?_)
          · have T := T1 hc
            refine lv_iinc (v := iI (i4 + 1)) (lv' := [(4, .int (iI (i4 + 1))), (0, .ref (r 0)), (1, .int (iI i1)), (2, .int (iI i2)), (3, .int (iI i3))]) hex hb d_M_next_71 hl (k := 4) rfl (iI_add _ _) (Nat.le_of_ble_eq_true rfl) rfl (fun ls hl => ?_)
            refine lv_goto (tgt := 5) hex hb d_M_next_74 rfl ?_
            exact AtG.use T hK hA _ _ _ (lv_sub hl [1, 2, 3, 4, 0] rfl) hP hS
          · have T := T2 hc
            exact AtG.use T hK hA _ _ _ (lv_sub hl [0, 1, 2, 3, 4] rfl) hP hS
set_option maxHeartbeats 4000000 in
set_option maxRecDepth 100000 in
theorem u_M_next_48 {x : Cx} (hx : X_M_next x) {P : Int → Mem → Prop} {Λ : Lam} {σ : Mem} {r : Nat → Nat} {i1 : Int} {i2 : Int} {i3 : Int} {i4 : Int} (hL : LayM Λ r) (T : rng i3 ∧ ((i3 < 0 → N_M_next_5 x P Λ σ r i1 i2 i4 (i4 + 1)) ∧ (¬ i3 < 0 → 0 ≤ i4 ∧ i4 < (90 : Int) ∧ 0 ≤ i3 ∧ i3 < (90 : Int) ∧ rng (σ.2.1 6 (r 6) i4.toNat) ∧ rng (σ.2.1 6 (r 6) i3.toNat) ∧ (((σ.2.1 6 (r 6) i3.toNat) ≤ (σ.2.1 6 (r 6) i4.toNat) → N_M_next_5 x P Λ σ r i1 i2 i3 (i4 + 1)) ∧ (¬ (σ.2.1 6 (r 6) i3.toNat) ≤ (σ.2.1 6 (r 6) i4.toNat) → N_M_next_5 x P Λ σ r i1 i2 i4 (i4 + 1)))))) : N_M_next_48 x P Λ σ r i1 i2 i3 i4 := by
  obtain ⟨hex, hb, hml, hown, hts, hr, hlk, hR, hnm, hAs, hNW⟩ := hx
  obtain ⟨hLM, hLA⟩ := hL
  refine ⟨(), fun hK hA ls H locs hl hP hS => ?_⟩
  refine lv_iload_n hex hb d_M_next_48 rfl (lv_at hl 3 rfl) ?_
  obtain ⟨h1, T⟩ := T
  obtain ⟨T1, T2⟩ := T
  refine r_if_lt (a := i3) (tgt := 68) hex hb h1 d_M_next_49 rfl (fun hc => ?_) (fun hc => ?_)
  · have T := T1 hc
    refine lv_iload hex hb d_M_next_68 (lv_at hl 4 rfl) ?_
    refine lv_istore_n (lv' := [(3, .int (iI i4)), (0, .ref (r 0)), (1, .int (iI i1)), (2, .int (iI i2)), (4, .int (iI i4))]) hex hb d_M_next_70 rfl hl (Nat.le_of_ble_eq_true rfl) rfl (fun ls hl => ?_)
    refine lv_iinc (v := iI (i4 + 1)) (lv' := [(4, .int (iI (i4 + 1))), (3, .int (iI i4)), (0, .ref (r 0)), (1, .int (iI i1)), (2, .int (iI i2))]) hex hb d_M_next_71 hl (k := 4) rfl (iI_add _ _) (Nat.le_of_ble_eq_true rfl) rfl (fun ls hl => ?_)
    refine lv_goto (tgt := 5) hex hb d_M_next_74 rfl ?_
    exact AtG.use T hK hA _ _ _ (lv_sub hl [2, 3, 4, 1, 0] rfl) hP hS
  · have T := T2 hc
    refine lv_aload_n hex hb d_M_next_52 rfl (lv_at hl 0 rfl) ?_
    refine r_getR (ci := 4) (C := R_M) (T := F_M) (N := 22) hex hb hts (fun w h => List.mem_cons_of_mem _ (in_M w h)) hown hK hP hLM rfl 5 (by decide) (hts _ (List.mem_cons_of_mem _ bg_396)) (fun _ h9 => h9) rfl d_M_next_53 ?_
    refine lv_iload hex hb d_M_next_56 (lv_at hl 4 rfl) ?_
    obtain ⟨h2, T⟩ := T
    obtain ⟨h3, T⟩ := T
    refine r_iald hex hb hK hP (hLA 6 90 (by decide)).choose_spec (by decide) (by decide) h2 h3 d_M_next_58 ?_
    refine lv_aload_n hex hb d_M_next_59 rfl (lv_at hl 0 rfl) ?_
    refine r_getR (ci := 4) (C := R_M) (T := F_M) (N := 22) hex hb hts (fun w h => List.mem_cons_of_mem _ (in_M w h)) hown hK hP hLM rfl 5 (by decide) (hts _ (List.mem_cons_of_mem _ bg_396)) (fun _ h9 => h9) rfl d_M_next_60 ?_
    refine lv_iload_n hex hb d_M_next_63 rfl (lv_at hl 3 rfl) ?_
    obtain ⟨h4, T⟩ := T
    obtain ⟨h5, T⟩ := T
    refine r_iald hex hb hK hP (hLA 6 90 (by decide)).choose_spec (by decide) (by decide) h4 h5 d_M_next_64 ?_
    obtain ⟨h6, T⟩ := T
    obtain ⟨h7, T⟩ := T
    obtain ⟨T1, T2⟩ := T
    refine r_icmp_ge (a := σ.2.1 6 (r 6) i4.toNat) (b := σ.2.1 6 (r 6) i3.toNat) (tgt := 71) hex hb h6 h7 d_M_next_65 rfl (fun hc => ?_) (fun hc => ?_)
    · have T := T1 hc
      refine lv_iinc (v := iI (i4 + 1)) (lv' := [(4, .int (iI (i4 + 1))), (0, .ref (r 0)), (1, .int (iI i1)), (2, .int (iI i2)), (3, .int (iI i3))]) hex hb d_M_next_71 hl (k := 4) rfl (iI_add _ _) (Nat.le_of_ble_eq_true rfl) rfl (fun ls hl => ?_)
      refine lv_goto (tgt := 5) hex hb d_M_next_74 rfl ?_
      exact AtG.use T hK hA _ _ _ (lv_sub hl [1, 2, 3, 4, 0] rfl) hP hS
    · have T := T2 hc
      refine lv_iload hex hb d_M_next_68 (lv_at hl 4 rfl) ?_
      refine lv_istore_n (lv' := [(3, .int (iI i4)), (0, .ref (r 0)), (1, .int (iI i1)), (2, .int (iI i2)), (4, .int (iI i4))]) hex hb d_M_next_70 rfl hl (Nat.le_of_ble_eq_true rfl) rfl (fun ls hl => ?_)
      refine lv_iinc (v := iI (i4 + 1)) (lv' := [(4, .int (iI (i4 + 1))), (3, .int (iI i4)), (0, .ref (r 0)), (1, .int (iI i1)), (2, .int (iI i2))]) hex hb d_M_next_71 hl (k := 4) rfl (iI_add _ _) (Nat.le_of_ble_eq_true rfl) rfl (fun ls hl => ?_)
      refine lv_goto (tgt := 5) hex hb d_M_next_74 rfl ?_
      exact AtG.use T hK hA _ _ _ (lv_sub hl [2, 3, 4, 1, 0] rfl) hP hS
-- DirtyCardHeapModel.regrey(I)V
def rm_M_regrey : Room := { frames := 1, cells := 0, slots := 0, locals := 22 }
abbrev X_M_regrey (x : Cx) : Prop := CxOk x b_M_regrey 3 wl_M_regrey R_M none rm_M_regrey "regrey"
abbrev K_M_regrey (l : Launch) (D : va_G) (Λ : Lam) (σ : Mem) (r : Nat → Nat) (a1 : Int) (P : Mem → Prop) : Prop := Ct l D y_M_regrey wl_M_regrey rm_M_regrey [.ref (r 0), .int (iI a1)] Λ σ (pV Λ P)
abbrev N_M_regrey_0 (x : Cx) (P : Mem → Prop) (Λ : Lam) (σ : Mem) (r : Nat → Nat) (a1 : Int) : Prop := AtG x (pV Λ P) 3 0 0 0 Λ σ [(0, .ref (r 0)), (1, .int (iI a1))] []
abbrev N_M_regrey_2 (x : Cx) (P : Mem → Prop) (Λ : Lam) (σ : Mem) (r : Nat → Nat) (i1 : Int) (i2 : Int) : Prop := AtG x (pV Λ P) 3 2 0 0 Λ σ [(0, .ref (r 0)), (1, .int (iI i1)), (2, .int (iI i2))] []
theorem e_M_regrey {l : Launch} {D : va_G} {Λ : Lam} {σ : Mem} {r : Nat → Nat} {a1 : Int} {P : Mem → Prop} (h : ∀ x : Cx, xl x = l → xD x = D → X_M_regrey x → N_M_regrey_0 x P Λ σ r a1) : K_M_regrey l D Λ σ r a1 P := Ct.of (by decide) rfl (Nat.le_of_ble_eq_true rfl) h
set_option maxHeartbeats 4000000 in
set_option maxRecDepth 100000 in
theorem u_M_regrey_0 {x : Cx} (hx : X_M_regrey x) {P : Mem → Prop} {Λ : Lam} {σ : Mem} {r : Nat → Nat} {a1 : Int} (hL : LayM Λ r) (T : N_M_regrey_2 x P Λ σ r a1 0) : N_M_regrey_0 x P Λ σ r a1 := by
  obtain ⟨hex, hb, hml, hown, hts, hr, hlk, hR, hnm, hAs, hNW⟩ := hx
  obtain ⟨hLM, hLA⟩ := hL
  refine ⟨(), fun hK hA ls H locs hl hP hS => ?_⟩
  refine lv_iconst (v := iI 0) hex hb d_M_regrey_0 rfl ?_
  refine lv_istore_n (lv' := [(2, .int (iI 0)), (0, .ref (r 0)), (1, .int (iI a1))]) hex hb d_M_regrey_1 rfl hl (Nat.le_of_ble_eq_true rfl) rfl (fun ls hl => ?_)
  exact AtG.use T hK hA _ _ _ (lv_sub hl [1, 2, 0] rfl) hP hS
set_option maxHeartbeats 4000000 in
set_option maxRecDepth 100000 in
theorem u_M_regrey_2 {x : Cx} (hx : X_M_regrey x) {P : Mem → Prop} {Λ : Lam} {σ : Mem} {r : Nat → Nat} {i1 : Int} {i2 : Int} (hL : LayM Λ r) (T : rng i2 ∧ ((90 ≤ i2 → P σ) ∧ (¬ 90 ≤ i2 → 0 ≤ i2 ∧ i2 < (90 : Int) ∧ rng (σ.2.1 52 (r 52) i2.toNat) ∧ ((¬ (σ.2.1 52 (r 52) i2.toNat) = 0 → 0 ≤ i2 ∧ i2 < (90 : Int) ∧ N_M_regrey_2 x P Λ (upY σ 52 (r 52) i2.toNat 1) r i1 (i2 + 1)) ∧ ((σ.2.1 52 (r 52) i2.toNat) = 0 → 0 ≤ i2 ∧ i2 < (90 : Int) ∧ rng (σ.2.1 51 (r 51) i2.toNat) ∧ (((σ.2.1 51 (r 51) i2.toNat) = 0 → 0 ≤ i2 ∧ i2 < (90 : Int) ∧ N_M_regrey_2 x P Λ (upY σ 52 (r 52) i2.toNat 0) r i1 (i2 + 1)) ∧ (¬ (σ.2.1 51 (r 51) i2.toNat) = 0 → K_M_lies (xl x) (xD x) Λ σ r i2 i1 (fun z12 σa12 => rng z12 ∧ ((z12 = 0 → 0 ≤ i2 ∧ i2 < (90 : Int) ∧ N_M_regrey_2 x P Λ (upY σa12 52 (r 52) i2.toNat 0) r i1 (i2 + 1)) ∧ (¬ z12 = 0 → 0 ≤ i2 ∧ i2 < (90 : Int) ∧ N_M_regrey_2 x P Λ (upY σa12 52 (r 52) i2.toNat 1) r i1 (i2 + 1))))))))))) : N_M_regrey_2 x P Λ σ r i1 i2 := by
  obtain ⟨hex, hb, hml, hown, hts, hr, hlk, hR, hnm, hAs, hNW⟩ := hx
  obtain ⟨hLM, hLA⟩ := hL
  refine ⟨(), fun hK hA ls H locs hl hP hS => ?_⟩
  refine lv_iload_n hex hb d_M_regrey_2 rfl (lv_at hl 2 rfl) ?_
  refine lv_bipush (v := iI 90) hex hb d_M_regrey_3 rfl ?_
  obtain ⟨h1, T⟩ := T
  obtain ⟨T1, T2⟩ := T
  refine r_icmp_ge (a := i2) (b := 90) (tgt := 52) hex hb h1 ⟨by omega, by omega⟩ d_M_regrey_5 rfl (fun hc => ?_) (fun hc => ?_)
  · have T := T1 hc
    exact r_vret hex hb hr hlk hK hA hP hS ⟨rfl, rfl, T⟩ (Nat.zero_le _) (Nat.zero_le _) d_M_regrey_52
  · have T := T2 hc
    refine lv_aload_n hex hb d_M_regrey_8 rfl (lv_at hl 0 rfl) ?_
    refine r_getR (ci := 4) (C := R_M) (T := F_M) (N := 22) hex hb hts (fun w h => List.mem_cons_of_mem _ (in_M w h)) hown hK hP hLM rfl 7 (by decide) (hts _ (List.mem_cons_of_mem _ bg_398)) (fun _ h9 => h9) rfl d_M_regrey_9 ?_
    refine lv_iload_n hex hb d_M_regrey_12 rfl (lv_at hl 2 rfl) ?_
    refine lv_aload_n hex hb d_M_regrey_13 rfl (lv_at hl 0 rfl) ?_
    refine r_getR (ci := 4) (C := R_M) (T := F_M) (N := 22) hex hb hts (fun w h => List.mem_cons_of_mem _ (in_M w h)) hown hK hP hLM rfl 7 (by decide) (hts _ (List.mem_cons_of_mem _ bg_398)) (fun _ h9 => h9) rfl d_M_regrey_14 ?_
    refine lv_iload_n hex hb d_M_regrey_17 rfl (lv_at hl 2 rfl) ?_
    obtain ⟨h2, T⟩ := T
    obtain ⟨h3, T⟩ := T
    refine r_zald hex hb hK hP (hLA 52 90 (by decide)).choose_spec (by decide) (by decide) (by decide) h2 h3 d_M_regrey_18 ?_
    obtain ⟨h4, T⟩ := T
    obtain ⟨T1, T2⟩ := T
    refine r_if_ne (a := σ.2.1 52 (r 52) i2.toNat) (tgt := 40) hex hb h4 d_M_regrey_19 rfl (fun hc => ?_) (fun hc => ?_)
    · have T := T1 hc
      refine lv_iconst (v := iI 1) hex hb d_M_regrey_40 rfl ?_
      refine lv_goto (tgt := 45) hex hb d_M_regrey_41 rfl ?_
      obtain ⟨h5, T⟩ := T
      obtain ⟨h6, T⟩ := T
      refine r_zast (v := 1) hex hb hK hP hA hS (hLA 52 90 (by decide)).choose_spec (by decide) (by decide) (by decide) h5 h6 (by decide) d_M_regrey_45 (fun H locs hP hS => ?_)
      refine lv_iinc (v := iI (i2 + 1)) (lv' := [(2, .int (iI (i2 + 1))), (0, .ref (r 0)), (1, .int (iI i1))]) hex hb d_M_regrey_46 hl (k := 2) rfl (iI_add _ _) (Nat.le_of_ble_eq_true rfl) rfl (fun ls hl => ?_)
      refine lv_goto (tgt := 2) hex hb d_M_regrey_49 rfl ?_
      exact AtG.use T hK hA _ _ _ (lv_sub hl [1, 2, 0] rfl) hP hS
    · have T := T2 hc
      refine lv_aload_n hex hb d_M_regrey_22 rfl (lv_at hl 0 rfl) ?_
      refine r_getR (ci := 4) (C := R_M) (T := F_M) (N := 22) hex hb hts (fun w h => List.mem_cons_of_mem _ (in_M w h)) hown hK hP hLM rfl 6 (by decide) (hts _ (List.mem_cons_of_mem _ bg_397)) (fun _ h9 => h9) rfl d_M_regrey_23 ?_
      refine lv_iload_n hex hb d_M_regrey_26 rfl (lv_at hl 2 rfl) ?_
      obtain ⟨h7, T⟩ := T
      obtain ⟨h8, T⟩ := T
      refine r_zald hex hb hK hP (hLA 51 90 (by decide)).choose_spec (by decide) (by decide) (by decide) h7 h8 d_M_regrey_27 ?_
      obtain ⟨h9, T⟩ := T
      obtain ⟨T1, T2⟩ := T
      refine r_if_eq (a := σ.2.1 51 (r 51) i2.toNat) (tgt := 44) hex hb h9 d_M_regrey_28 rfl (fun hc => ?_) (fun hc => ?_)
      · have T := T1 hc
        refine lv_iconst (v := iI 0) hex hb d_M_regrey_44 rfl ?_
        obtain ⟨h10, T⟩ := T
        obtain ⟨h11, T⟩ := T
        refine r_zast (v := 0) hex hb hK hP hA hS (hLA 52 90 (by decide)).choose_spec (by decide) (by decide) (by decide) h10 h11 (by decide) d_M_regrey_45 (fun H locs hP hS => ?_)
        refine lv_iinc (v := iI (i2 + 1)) (lv' := [(2, .int (iI (i2 + 1))), (0, .ref (r 0)), (1, .int (iI i1))]) hex hb d_M_regrey_46 hl (k := 2) rfl (iI_add _ _) (Nat.le_of_ble_eq_true rfl) rfl (fun ls hl => ?_)
        refine lv_goto (tgt := 2) hex hb d_M_regrey_49 rfl ?_
        exact AtG.use T hK hA _ _ _ (lv_sub hl [1, 2, 0] rfl) hP hS
      · have T := T2 hc
        refine lv_aload_n hex hb d_M_regrey_31 rfl (lv_at hl 0 rfl) ?_
        refine lv_iload_n hex hb d_M_regrey_32 rfl (lv_at hl 2 rfl) ?_
        refine lv_iload_n hex hb d_M_regrey_33 rfl (lv_at hl 1 rfl) ?_
        refine r_call (va_runV (As := [.int (iI i2), .int (iI i1)]) (rest := [.int (iI i2), .ref (r 52)]) ⟨hex, hb, hml, hown, hts⟩ (Ct.use T H.size) (cwV 2 hts (gdV bg_508 bg_510 bp_29 bg_4 bc_M_lies) rfl rfl rfl hdV_M_lies ⟨by rw [hR]; exact Nat.le_of_ble_eq_true rfl, by rw [hR]; exact Nat.le_of_ble_eq_true rfl⟩) (px_preV (ci := 4) hNW hK hP hLM rfl) rfl rfl hl.1 rfl (lv_room (Nat.le_of_ble_eq_true rfl)) d_M_regrey_34 ⟨by rw [hR]; exact Nat.le_of_ble_eq_true rfl, by rw [hR]; exact Nat.le_of_ble_eq_true rfl⟩) hS hA hAs (fun v Λ1 σ1 H locs hp hP hK hA hS => ?_)
        obtain ⟨z12, rfl, rfl, T⟩ := hp
        generalize σ1 = σa12 at hP T
        refine W.eq (g2 := F0 (xm x) 37 ls [.int (iI z12), .int (iI i2), .ref (r 52)]) rfl ?_
        obtain ⟨h13, T⟩ := T
        obtain ⟨T1, T2⟩ := T
        refine r_if_eq (a := z12) (tgt := 44) hex hb h13 d_M_regrey_37 rfl (fun hc => ?_) (fun hc => ?_)
        · have T := T1 hc
          refine lv_iconst (v := iI 0) hex hb d_M_regrey_44 rfl ?_
          obtain ⟨h14, T⟩ := T
          obtain ⟨h15, T⟩ := T
          refine r_zast (v := 0) hex hb hK hP hA hS (hLA 52 90 (by decide)).choose_spec (by decide) (by decide) (by decide) h14 h15 (by decide) d_M_regrey_45 (fun H locs hP hS => ?_)
          refine lv_iinc (v := iI (i2 + 1)) (lv' := [(2, .int (iI (i2 + 1))), (0, .ref (r 0)), (1, .int (iI i1))]) hex hb d_M_regrey_46 hl (k := 2) rfl (iI_add _ _) (Nat.le_of_ble_eq_true rfl) rfl (fun ls hl => ?_)
          refine lv_goto (tgt := 2) hex hb d_M_regrey_49 rfl ?_
          exact AtG.use T hK hA _ _ _ (lv_sub hl [1, 2, 0] rfl) hP hS
        · have T := T2 hc
          refine lv_iconst (v := iI 1) hex hb d_M_regrey_40 rfl ?_
          refine lv_goto (tgt := 45) hex hb d_M_regrey_41 rfl ?_
          obtain ⟨h16, T⟩ := T
          obtain ⟨h17, T⟩ := T
          refine r_zast (v := 1) hex hb hK hP hA hS (hLA 52 90 (by decide)).choose_spec (by decide) (by decide) (by decide) h16 h17 (by decide) d_M_regrey_45 (fun H locs hP hS => ?_)
          refine lv_iinc (v := iI (i2 + 1)) (lv' := [(2, .int (iI (i2 + 1))), (0, .ref (r 0)), (1, .int (iI i1))]) hex hb d_M_regrey_46 hl (k := 2) rfl (iI_add _ _) (Nat.le_of_ble_eq_true rfl) rfl (fun ls hl => ?_)
          refine lv_goto (tgt := 2) hex hb d_M_regrey_49 rfl ?_
          exact AtG.use T hK hA _ _ _ (lv_sub hl [1, 2, 0] rfl) hP hS
-- DirtyCardHeapModel.begin()I
def rm_M_begin : Room := { frames := 1, cells := 0, slots := 0, locals := 21 }
abbrev X_M_begin (x : Cx) : Prop := CxOk x b_M_begin 3 wl_M_begin R_M (some .int) rm_M_begin "begin"
abbrev K_M_begin (l : Launch) (D : va_G) (Λ : Lam) (σ : Mem) (r : Nat → Nat) (P : Int → Mem → Prop) : Prop := Ct l D y_M_begin wl_M_begin rm_M_begin [.ref (r 0)] Λ σ (pI Λ P)
abbrev N_M_begin_0 (x : Cx) (P : Int → Mem → Prop) (Λ : Lam) (σ : Mem) (r : Nat → Nat) : Prop := AtG x (pI Λ P) 3 0 0 0 Λ σ [(0, .ref (r 0))] []
abbrev N_M_begin_19 (x : Cx) (P : Int → Mem → Prop) (Λ : Lam) (σ : Mem) (r : Nat → Nat) (i1 : Int) (i2 : Int) : Prop := AtG x (pI Λ P) 3 19 0 0 Λ σ [(0, .ref (r 0)), (1, .int (iI i1)), (2, .int (iI i2))] []
abbrev N_M_begin_46 (x : Cx) (P : Int → Mem → Prop) (Λ : Lam) (σ : Mem) (r : Nat → Nat) (i1 : Int) (i2 : Int) : Prop := AtG x (pI Λ P) 3 46 0 0 Λ σ [(0, .ref (r 0)), (1, .int (iI i1)), (2, .int (iI i2))] []
theorem e_M_begin {l : Launch} {D : va_G} {Λ : Lam} {σ : Mem} {r : Nat → Nat} {P : Int → Mem → Prop} (h : ∀ x : Cx, xl x = l → xD x = D → X_M_begin x → N_M_begin_0 x P Λ σ r) : K_M_begin l D Λ σ r P := Ct.of (by decide) rfl (Nat.le_of_ble_eq_true rfl) h
set_option maxHeartbeats 4000000 in
set_option maxRecDepth 100000 in
theorem u_M_begin_0 {x : Cx} (hx : X_M_begin x) {P : Int → Mem → Prop} {Λ : Lam} {σ : Mem} {r : Nat → Nat} (hL : LayM Λ r) (T : rng (σ.1 411 (r 0)) ∧ (((σ.1 411 (r 0)) = 0 → N_M_begin_19 x P Λ (upI σ 411 (r 0) 1) r 0 0) ∧ (¬ (σ.1 411 (r 0)) = 0 → P (-6) σ))) : N_M_begin_0 x P Λ σ r := by
  obtain ⟨hex, hb, hml, hown, hts, hr, hlk, hR, hnm, hAs, hNW⟩ := hx
  obtain ⟨hLM, hLA⟩ := hL
  refine ⟨(), fun hK hA ls H locs hl hP hS => ?_⟩
  refine lv_aload_n hex hb d_M_begin_0 rfl (lv_at hl 0 rfl) ?_
  refine r_getI (ci := 4) (C := R_M) (T := F_M) (N := 22) hex hb hts (fun w h => List.mem_cons_of_mem _ (in_M w h)) hown hK hP hLM rfl 11 (by decide) (hts _ (List.mem_cons_of_mem _ bg_402)) (fun _ h9 => h9) rfl d_M_begin_1 ?_
  obtain ⟨h1, T⟩ := T
  obtain ⟨T1, T2⟩ := T
  refine r_if_eq (a := σ.1 411 (r 0)) (tgt := 10) hex hb h1 d_M_begin_4 rfl (fun hc => ?_) (fun hc => ?_)
  · have T := T1 hc
    refine lv_aload_n hex hb d_M_begin_10 rfl (lv_at hl 0 rfl) ?_
    refine lv_iconst (v := iI 1) hex hb d_M_begin_11 rfl ?_
    refine r_putI (ci := 4) (C := R_M) (T := F_M) (N := 22) (v := 1) (ty := .int) hex hb hts (fun w h => List.mem_cons_of_mem _ (in_M w h)) tq_M tq_M_ok n_M hown hK hP hA hS hLM rfl 11 (by decide) (hts _ (List.mem_cons_of_mem _ bg_402)) (fun _ h9 => h9) rfl (by decide +kernel) rfl rfl rfl d_M_begin_12 (fun H locs hP hS => ?_)
    refine lv_iconst (v := iI 0) hex hb d_M_begin_15 rfl ?_
    refine lv_istore_n (lv' := [(1, .int (iI 0)), (0, .ref (r 0))]) hex hb d_M_begin_16 rfl hl (Nat.le_of_ble_eq_true rfl) rfl (fun ls hl => ?_)
    refine lv_iconst (v := iI 0) hex hb d_M_begin_17 rfl ?_
    refine lv_istore_n (lv' := [(2, .int (iI 0)), (1, .int (iI 0)), (0, .ref (r 0))]) hex hb d_M_begin_18 rfl hl (Nat.le_of_ble_eq_true rfl) rfl (fun ls hl => ?_)
    exact AtG.use T hK hA _ _ _ (lv_sub hl [2, 1, 0] rfl) hP hS
  · have T := T2 hc
    refine lv_bipush (v := iI (-6)) hex hb d_M_begin_7 rfl ?_
    exact r_iret hex hb hr hlk hK hA hP hS ⟨_, rfl, rfl, T⟩ (Nat.zero_le _) (Nat.zero_le _) d_M_begin_9
set_option maxHeartbeats 4000000 in
set_option maxRecDepth 100000 in
theorem u_M_begin_19 {x : Cx} (hx : X_M_begin x) {P : Int → Mem → Prop} {Λ : Lam} {σ : Mem} {r : Nat → Nat} {i1 : Int} {i2 : Int} (hL : LayM Λ r) (T : rng i2 ∧ ((6 ≤ i2 → N_M_begin_46 x P Λ σ r i1 0) ∧ (¬ 6 ≤ i2 → 0 ≤ i2 ∧ i2 < (6 : Int) ∧ K_M_shade (xl x) (xD x) Λ σ r (σ.2.1 7 (r 7) i2.toNat) (fun z4 σa4 => N_M_begin_19 x P Λ σa4 r (i1 + z4) (i2 + 1))))) : N_M_begin_19 x P Λ σ r i1 i2 := by
  obtain ⟨hex, hb, hml, hown, hts, hr, hlk, hR, hnm, hAs, hNW⟩ := hx
  obtain ⟨hLM, hLA⟩ := hL
  refine ⟨(), fun hK hA ls H locs hl hP hS => ?_⟩
  refine lv_iload_n hex hb d_M_begin_19 rfl (lv_at hl 2 rfl) ?_
  refine lv_bipush (v := iI 6) hex hb d_M_begin_20 rfl ?_
  obtain ⟨h1, T⟩ := T
  obtain ⟨T1, T2⟩ := T
  refine r_icmp_ge (a := i2) (b := 6) (tgt := 44) hex hb h1 ⟨by omega, by omega⟩ d_M_begin_22 rfl (fun hc => ?_) (fun hc => ?_)
  · have T := T1 hc
    refine lv_iconst (v := iI 0) hex hb d_M_begin_44 rfl ?_
    refine lv_istore_n (lv' := [(2, .int (iI 0)), (0, .ref (r 0)), (1, .int (iI i1))]) hex hb d_M_begin_45 rfl hl (Nat.le_of_ble_eq_true rfl) rfl (fun ls hl => ?_)
    exact AtG.use T hK hA _ _ _ (lv_sub hl [1, 2, 0] rfl) hP hS
  · have T := T2 hc
    refine lv_iload_n hex hb d_M_begin_25 rfl (lv_at hl 1 rfl) ?_
    refine lv_aload_n hex hb d_M_begin_26 rfl (lv_at hl 0 rfl) ?_
    refine lv_aload_n hex hb d_M_begin_27 rfl (lv_at hl 0 rfl) ?_
    refine r_getR (ci := 4) (C := R_M) (T := F_M) (N := 22) hex hb hts (fun w h => List.mem_cons_of_mem _ (in_M w h)) hown hK hP hLM rfl 8 (by decide) (hts _ (List.mem_cons_of_mem _ bg_399)) (fun _ h9 => h9) rfl d_M_begin_28 ?_
    refine lv_iload_n hex hb d_M_begin_31 rfl (lv_at hl 2 rfl) ?_
    obtain ⟨h2, T⟩ := T
    obtain ⟨h3, T⟩ := T
    refine r_iald hex hb hK hP (hLA 7 6 (by decide)).choose_spec (by decide) (by decide) h2 h3 d_M_begin_32 ?_
    refine r_call (va_runV (As := [.int (iI (σ.2.1 7 (r 7) i2.toNat))]) (rest := [.int (iI i1)]) ⟨hex, hb, hml, hown, hts⟩ (Ct.use T H.size) (cwV 1 hts (gdV bg_571 bg_573 bp_33 bg_4 bc_M_shade) rfl rfl rfl hdV_M_shade ⟨by rw [hR]; exact Nat.le_of_ble_eq_true rfl, by rw [hR]; exact Nat.le_of_ble_eq_true rfl⟩) (px_preV (ci := 4) hNW hK hP hLM rfl) rfl rfl hl.1 rfl (lv_room (Nat.le_of_ble_eq_true rfl)) d_M_begin_33 ⟨by rw [hR]; exact Nat.le_of_ble_eq_true rfl, by rw [hR]; exact Nat.le_of_ble_eq_true rfl⟩) hS hA hAs (fun v Λ1 σ1 H locs hp hP hK hA hS => ?_)
    obtain ⟨z4, rfl, rfl, T⟩ := hp
    generalize σ1 = σa4 at hP T
    refine W.eq (g2 := F0 (xm x) 36 ls [.int (iI z4), .int (iI i1)]) rfl ?_
    refine r_iadd hex hb d_M_begin_36 ?_
    refine lv_istore_n (lv' := [(1, .int (iI (i1 + z4))), (0, .ref (r 0)), (2, .int (iI i2))]) hex hb d_M_begin_37 rfl hl (Nat.le_of_ble_eq_true rfl) rfl (fun ls hl => ?_)
    refine lv_iinc (v := iI (i2 + 1)) (lv' := [(2, .int (iI (i2 + 1))), (1, .int (iI (i1 + z4))), (0, .ref (r 0))]) hex hb d_M_begin_38 hl (k := 2) rfl (iI_add _ _) (Nat.le_of_ble_eq_true rfl) rfl (fun ls hl => ?_)
    refine lv_goto (tgt := 19) hex hb d_M_begin_41 rfl ?_
    exact AtG.use T hK hA _ _ _ (lv_sub hl [2, 1, 0] rfl) hP hS
set_option maxHeartbeats 4000000 in
set_option maxRecDepth 100000 in
theorem u_M_begin_46 {x : Cx} (hx : X_M_begin x) {P : Int → Mem → Prop} {Λ : Lam} {σ : Mem} {r : Nat → Nat} {i1 : Int} {i2 : Int} (hL : LayM Λ r) (T : rng i2 ∧ ((8 ≤ i2 → P i1 σ) ∧ (¬ 8 ≤ i2 → 0 ≤ i2 ∧ i2 < (8 : Int) ∧ N_M_begin_46 x P Λ (upY σ 54 (r 54) i2.toNat 0) r i1 (i2 + 1)))) : N_M_begin_46 x P Λ σ r i1 i2 := by
  obtain ⟨hex, hb, hml, hown, hts, hr, hlk, hR, hnm, hAs, hNW⟩ := hx
  obtain ⟨hLM, hLA⟩ := hL
  refine ⟨(), fun hK hA ls H locs hl hP hS => ?_⟩
  refine lv_iload_n hex hb d_M_begin_46 rfl (lv_at hl 2 rfl) ?_
  refine lv_bipush (v := iI 8) hex hb d_M_begin_47 rfl ?_
  obtain ⟨h1, T⟩ := T
  obtain ⟨T1, T2⟩ := T
  refine r_icmp_ge (a := i2) (b := 8) (tgt := 65) hex hb h1 ⟨by omega, by omega⟩ d_M_begin_49 rfl (fun hc => ?_) (fun hc => ?_)
  · have T := T1 hc
    refine lv_iload_n hex hb d_M_begin_65 rfl (lv_at hl 1 rfl) ?_
    exact r_iret hex hb hr hlk hK hA hP hS ⟨_, rfl, rfl, T⟩ (Nat.zero_le _) (Nat.zero_le _) d_M_begin_66
  · have T := T2 hc
    refine lv_aload_n hex hb d_M_begin_52 rfl (lv_at hl 0 rfl) ?_
    refine r_getR (ci := 4) (C := R_M) (T := F_M) (N := 22) hex hb hts (fun w h => List.mem_cons_of_mem _ (in_M w h)) hown hK hP hLM rfl 10 (by decide) (hts _ (List.mem_cons_of_mem _ bg_401)) (fun _ h9 => h9) rfl d_M_begin_53 ?_
    refine lv_iload_n hex hb d_M_begin_56 rfl (lv_at hl 2 rfl) ?_
    refine lv_iconst (v := iI 0) hex hb d_M_begin_57 rfl ?_
    obtain ⟨h2, T⟩ := T
    obtain ⟨h3, T⟩ := T
    refine r_zast (v := 0) hex hb hK hP hA hS (hLA 54 8 (by decide)).choose_spec (by decide) (by decide) (by decide) h2 h3 (by decide) d_M_begin_58 (fun H locs hP hS => ?_)
    refine lv_iinc (v := iI (i2 + 1)) (lv' := [(2, .int (iI (i2 + 1))), (0, .ref (r 0)), (1, .int (iI i1))]) hex hb d_M_begin_59 hl (k := 2) rfl (iI_add _ _) (Nat.le_of_ble_eq_true rfl) rfl (fun ls hl => ?_)
    refine lv_goto (tgt := 46) hex hb d_M_begin_62 rfl ?_
    exact AtG.use T hK hA _ _ _ (lv_sub hl [1, 2, 0] rfl) hP hS
-- DirtyCardHeapModel.mark()I
def rm_M_mark : Room := { frames := 2, cells := 0, slots := 0, locals := 44 }
abbrev X_M_mark (x : Cx) : Prop := CxOk x b_M_mark 2 wl_M_mark R_M (some .int) rm_M_mark "mark"
abbrev K_M_mark (l : Launch) (D : va_G) (Λ : Lam) (σ : Mem) (r : Nat → Nat) (P : Int → Mem → Prop) : Prop := Ct l D y_M_mark wl_M_mark rm_M_mark [.ref (r 0)] Λ σ (pI Λ P)
abbrev N_M_mark_0 (x : Cx) (P : Int → Mem → Prop) (Λ : Lam) (σ : Mem) (r : Nat → Nat) : Prop := AtG x (pI Λ P) 2 0 0 0 Λ σ [(0, .ref (r 0))] []
theorem e_M_mark {l : Launch} {D : va_G} {Λ : Lam} {σ : Mem} {r : Nat → Nat} {P : Int → Mem → Prop} (h : ∀ x : Cx, xl x = l → xD x = D → X_M_mark x → N_M_mark_0 x P Λ σ r) : K_M_mark l D Λ σ r P := Ct.of (by decide) rfl (Nat.le_of_ble_eq_true rfl) h
set_option maxHeartbeats 4000000 in
set_option maxRecDepth 100000 in
theorem u_M_mark_0 {x : Cx} (hx : X_M_mark x) {P : Int → Mem → Prop} {Λ : Lam} {σ : Mem} {r : Nat → Nat} (hL : LayM Λ r) (T : rng (σ.1 411 (r 0)) ∧ (((σ.1 411 (r 0)) = 1 → K_M_next (xl x) (xD x) Λ σ r 0 1 (fun z2 σa2 => rng z2 ∧ ((0 ≤ z2 → K_M_scan (xl x) (xD x) Λ σa2 r z2 (fun z4 σa4 => 0 ≤ z2 ∧ z2 < (90 : Int) ∧ P (σa4.2.1 6 (r 6) z2.toNat) σa4)) ∧ (¬ 0 ≤ z2 → P (-1) σa2)))) ∧ (¬ (σ.1 411 (r 0)) = 1 → P (-6) σ))) : N_M_mark_0 x P Λ σ r := by
  obtain ⟨hex, hb, hml, hown, hts, hr, hlk, hR, hnm, hAs, hNW⟩ := hx
  obtain ⟨hLM, hLA⟩ := hL
  refine ⟨(), fun hK hA ls H locs hl hP hS => ?_⟩
  refine lv_aload_n hex hb d_M_mark_0 rfl (lv_at hl 0 rfl) ?_
  refine r_getI (ci := 4) (C := R_M) (T := F_M) (N := 22) hex hb hts (fun w h => List.mem_cons_of_mem _ (in_M w h)) hown hK hP hLM rfl 11 (by decide) (hts _ (List.mem_cons_of_mem _ bg_402)) (fun _ h9 => h9) rfl d_M_mark_1 ?_
  refine lv_iconst (v := iI 1) hex hb d_M_mark_4 rfl ?_
  obtain ⟨h1, T⟩ := T
  obtain ⟨T1, T2⟩ := T
  refine r_icmp_eq (a := σ.1 411 (r 0)) (b := 1) (tgt := 11) hex hb h1 ⟨by omega, by omega⟩ d_M_mark_5 rfl (fun hc => ?_) (fun hc => ?_)
  · have T := T1 hc
    refine lv_aload_n hex hb d_M_mark_11 rfl (lv_at hl 0 rfl) ?_
    refine lv_iconst (v := iI 0) hex hb d_M_mark_12 rfl ?_
    refine lv_iconst (v := iI 1) hex hb d_M_mark_13 rfl ?_
    refine r_call (va_runV (As := [.int (iI 0), .int (iI 1)]) (rest := []) ⟨hex, hb, hml, hown, hts⟩ (Ct.use T H.size) (cwV 2 hts (gdV bg_579 bg_581 bp_34 bg_4 bc_M_next) rfl rfl rfl hdV_M_next ⟨by rw [hR]; exact Nat.le_of_ble_eq_true rfl, by rw [hR]; exact Nat.le_of_ble_eq_true rfl⟩) (px_preV (ci := 4) hNW hK hP hLM rfl) rfl rfl hl.1 rfl (lv_room (Nat.le_of_ble_eq_true rfl)) d_M_mark_14 ⟨by rw [hR]; exact Nat.le_of_ble_eq_true rfl, by rw [hR]; exact Nat.le_of_ble_eq_true rfl⟩) hS hA hAs (fun v Λ1 σ1 H locs hp hP hK hA hS => ?_)
    obtain ⟨z2, rfl, rfl, T⟩ := hp
    generalize σ1 = σa2 at hP T
    refine W.eq (g2 := F0 (xm x) 17 ls [.int (iI z2)]) rfl ?_
    refine lv_istore_n (lv' := [(1, .int (iI z2)), (0, .ref (r 0))]) hex hb d_M_mark_17 rfl hl (Nat.le_of_ble_eq_true rfl) rfl (fun ls hl => ?_)
    refine lv_iload_n hex hb d_M_mark_18 rfl (lv_at hl 0 rfl) ?_
    obtain ⟨h3, T⟩ := T
    obtain ⟨T1, T2⟩ := T
    refine r_if_ge (a := z2) (tgt := 24) hex hb h3 d_M_mark_19 rfl (fun hc => ?_) (fun hc => ?_)
    · have T := T1 hc
      refine lv_aload_n hex hb d_M_mark_24 rfl (lv_at hl 1 rfl) ?_
      refine lv_iload_n hex hb d_M_mark_25 rfl (lv_at hl 0 rfl) ?_
      refine r_call (va_runV (As := [.int (iI z2)]) (rest := []) ⟨hex, hb, hml, hown, hts⟩ (Ct.use T H.size) (cwV 1 hts (gdV bg_583 bg_585 bp_35 bg_4 bc_M_scan) rfl rfl rfl hdV_M_scan ⟨by rw [hR]; exact Nat.le_of_ble_eq_true rfl, by rw [hR]; exact Nat.le_of_ble_eq_true rfl⟩) (px_preV (ci := 4) hNW hK hP hLM rfl) rfl rfl hl.1 rfl (lv_room (Nat.le_of_ble_eq_true rfl)) d_M_mark_26 ⟨by rw [hR]; exact Nat.le_of_ble_eq_true rfl, by rw [hR]; exact Nat.le_of_ble_eq_true rfl⟩) hS hA hAs (fun v Λ1 σ1 H locs hp hP hK hA hS => ?_)
      obtain ⟨z4, rfl, rfl, T⟩ := hp
      generalize σ1 = σa4 at hP T
      refine W.eq (g2 := F0 (xm x) 29 ls [.int (iI z4)]) rfl ?_
      refine lv_pop hex hb d_M_mark_29 rfl ?_
      refine lv_aload_n hex hb d_M_mark_30 rfl (lv_at hl 1 rfl) ?_
      refine r_getR (ci := 4) (C := R_M) (T := F_M) (N := 22) hex hb hts (fun w h => List.mem_cons_of_mem _ (in_M w h)) hown hK hP hLM rfl 5 (by decide) (hts _ (List.mem_cons_of_mem _ bg_396)) (fun _ h9 => h9) rfl d_M_mark_31 ?_
      refine lv_iload_n hex hb d_M_mark_34 rfl (lv_at hl 0 rfl) ?_
      obtain ⟨h5, T⟩ := T
      obtain ⟨h6, T⟩ := T
      refine r_iald hex hb hK hP (hLA 6 90 (by decide)).choose_spec (by decide) (by decide) h5 h6 d_M_mark_35 ?_
      exact r_iret hex hb hr hlk hK hA hP hS ⟨_, rfl, rfl, T⟩ (Nat.zero_le _) (Nat.zero_le _) d_M_mark_36
    · have T := T2 hc
      refine lv_iconst (v := iI (-1)) hex hb d_M_mark_22 rfl ?_
      exact r_iret hex hb hr hlk hK hA hP hS ⟨_, rfl, rfl, T⟩ (Nat.zero_le _) (Nat.zero_le _) d_M_mark_23
  · have T := T2 hc
    refine lv_bipush (v := iI (-6)) hex hb d_M_mark_8 rfl ?_
    exact r_iret hex hb hr hlk hK hA hP hS ⟨_, rfl, rfl, T⟩ (Nat.zero_le _) (Nat.zero_le _) d_M_mark_10
set_option maxRecDepth 100000 in
theorem w_M_mark {l : Launch} {D : va_G} {Λ : Lam} {σ : Mem} {r : Nat → Nat} {P : Int → Mem → Prop} (hL : LayM Λ r) (T : rng (σ.1 411 (r 0)) ∧ (((σ.1 411 (r 0)) = 1 → K_M_next l D Λ σ r 0 1 (fun z2 σa2 => rng z2 ∧ ((0 ≤ z2 → K_M_scan l D Λ σa2 r z2 (fun z4 σa4 => 0 ≤ z2 ∧ z2 < (90 : Int) ∧ P (σa4.2.1 6 (r 6) z2.toNat) σa4)) ∧ (¬ 0 ≤ z2 → P (-1) σa2)))) ∧ (¬ (σ.1 411 (r 0)) = 1 → P (-6) σ))) : K_M_mark l D Λ σ r P := e_M_mark (fun x hl hD hx => by subst hl; subst hD; exact u_M_mark_0 hx hL T)
-- DirtyCardHeapModel.preclean()I
def rm_M_preclean : Room := { frames := 2, cells := 0, slots := 0, locals := 44 }
abbrev X_M_preclean (x : Cx) : Prop := CxOk x b_M_preclean 2 wl_M_preclean R_M (some .int) rm_M_preclean "preclean"
abbrev K_M_preclean (l : Launch) (D : va_G) (Λ : Lam) (σ : Mem) (r : Nat → Nat) (P : Int → Mem → Prop) : Prop := Ct l D y_M_preclean wl_M_preclean rm_M_preclean [.ref (r 0)] Λ σ (pI Λ P)
abbrev N_M_preclean_0 (x : Cx) (P : Int → Mem → Prop) (Λ : Lam) (σ : Mem) (r : Nat → Nat) : Prop := AtG x (pI Λ P) 2 0 0 0 Λ σ [(0, .ref (r 0))] []
abbrev N_M_preclean_13 (x : Cx) (P : Int → Mem → Prop) (Λ : Lam) (σ : Mem) (r : Nat → Nat) (i1 : Int) : Prop := AtG x (pI Λ P) 2 13 0 0 Λ σ [(0, .ref (r 0)), (1, .int (iI i1))] []
abbrev N_M_preclean_34 (x : Cx) (P : Int → Mem → Prop) (Λ : Lam) (σ : Mem) (r : Nat → Nat) (i1 : Int) : Prop := AtG x (pI Λ P) 2 34 0 0 Λ σ [(0, .ref (r 0)), (1, .int (iI i1))] []
theorem e_M_preclean {l : Launch} {D : va_G} {Λ : Lam} {σ : Mem} {r : Nat → Nat} {P : Int → Mem → Prop} (h : ∀ x : Cx, xl x = l → xD x = D → X_M_preclean x → N_M_preclean_0 x P Λ σ r) : K_M_preclean l D Λ σ r P := Ct.of (by decide) rfl (Nat.le_of_ble_eq_true rfl) h
set_option maxHeartbeats 4000000 in
set_option maxRecDepth 100000 in
theorem u_M_preclean_0 {x : Cx} (hx : X_M_preclean x) {P : Int → Mem → Prop} {Λ : Lam} {σ : Mem} {r : Nat → Nat} (hL : LayM Λ r) (T : rng (σ.1 411 (r 0)) ∧ (((σ.1 411 (r 0)) = 1 → N_M_preclean_13 x P Λ σ r 0) ∧ (¬ (σ.1 411 (r 0)) = 1 → P (-6) σ))) : N_M_preclean_0 x P Λ σ r := by
  obtain ⟨hex, hb, hml, hown, hts, hr, hlk, hR, hnm, hAs, hNW⟩ := hx
  obtain ⟨hLM, hLA⟩ := hL
  refine ⟨(), fun hK hA ls H locs hl hP hS => ?_⟩
  refine lv_aload_n hex hb d_M_preclean_0 rfl (lv_at hl 0 rfl) ?_
  refine r_getI (ci := 4) (C := R_M) (T := F_M) (N := 22) hex hb hts (fun w h => List.mem_cons_of_mem _ (in_M w h)) hown hK hP hLM rfl 11 (by decide) (hts _ (List.mem_cons_of_mem _ bg_402)) (fun _ h9 => h9) rfl d_M_preclean_1 ?_
  refine lv_iconst (v := iI 1) hex hb d_M_preclean_4 rfl ?_
  obtain ⟨h1, T⟩ := T
  obtain ⟨T1, T2⟩ := T
  refine r_icmp_eq (a := σ.1 411 (r 0)) (b := 1) (tgt := 11) hex hb h1 ⟨by omega, by omega⟩ d_M_preclean_5 rfl (fun hc => ?_) (fun hc => ?_)
  · have T := T1 hc
    refine lv_iconst (v := iI 0) hex hb d_M_preclean_11 rfl ?_
    refine lv_istore_n (lv' := [(1, .int (iI 0)), (0, .ref (r 0))]) hex hb d_M_preclean_12 rfl hl (Nat.le_of_ble_eq_true rfl) rfl (fun ls hl => ?_)
    exact AtG.use T hK hA _ _ _ (lv_sub hl [1, 0] rfl) hP hS
  · have T := T2 hc
    refine lv_bipush (v := iI (-6)) hex hb d_M_preclean_8 rfl ?_
    exact r_iret hex hb hr hlk hK hA hP hS ⟨_, rfl, rfl, T⟩ (Nat.zero_le _) (Nat.zero_le _) d_M_preclean_10
set_option maxHeartbeats 4000000 in
set_option maxRecDepth 100000 in
theorem u_M_preclean_13 {x : Cx} (hx : X_M_preclean x) {P : Int → Mem → Prop} {Λ : Lam} {σ : Mem} {r : Nat → Nat} {i1 : Int} (hL : LayM Λ r) (T : rng i1 ∧ ((8 ≤ i1 → N_M_preclean_34 x P Λ σ r i1) ∧ (¬ 8 ≤ i1 → 0 ≤ i1 ∧ i1 < (8 : Int) ∧ rng (σ.2.1 54 (r 54) i1.toNat) ∧ ((¬ (σ.2.1 54 (r 54) i1.toNat) = 0 → N_M_preclean_34 x P Λ σ r i1) ∧ ((σ.2.1 54 (r 54) i1.toNat) = 0 → N_M_preclean_13 x P Λ σ r (i1 + 1)))))) : N_M_preclean_13 x P Λ σ r i1 := by
  obtain ⟨hex, hb, hml, hown, hts, hr, hlk, hR, hnm, hAs, hNW⟩ := hx
  obtain ⟨hLM, hLA⟩ := hL
  refine ⟨(), fun hK hA ls H locs hl hP hS => ?_⟩
  refine lv_iload_n hex hb d_M_preclean_13 rfl (lv_at hl 1 rfl) ?_
  refine lv_bipush (v := iI 8) hex hb d_M_preclean_14 rfl ?_
  obtain ⟨h1, T⟩ := T
  obtain ⟨T1, T2⟩ := T
  refine r_icmp_ge (a := i1) (b := 8) (tgt := 34) hex hb h1 ⟨by omega, by omega⟩ d_M_preclean_16 rfl (fun hc => ?_) (fun hc => ?_)
  · have T := T1 hc
    exact AtG.use T hK hA _ _ _ (lv_sub hl [0, 1] rfl) hP hS
  · have T := T2 hc
    refine lv_aload_n hex hb d_M_preclean_19 rfl (lv_at hl 0 rfl) ?_
    refine r_getR (ci := 4) (C := R_M) (T := F_M) (N := 22) hex hb hts (fun w h => List.mem_cons_of_mem _ (in_M w h)) hown hK hP hLM rfl 10 (by decide) (hts _ (List.mem_cons_of_mem _ bg_401)) (fun _ h9 => h9) rfl d_M_preclean_20 ?_
    refine lv_iload_n hex hb d_M_preclean_23 rfl (lv_at hl 1 rfl) ?_
    obtain ⟨h2, T⟩ := T
    obtain ⟨h3, T⟩ := T
    refine r_zald hex hb hK hP (hLA 54 8 (by decide)).choose_spec (by decide) (by decide) (by decide) h2 h3 d_M_preclean_24 ?_
    obtain ⟨h4, T⟩ := T
    obtain ⟨T1, T2⟩ := T
    refine r_if_ne (a := σ.2.1 54 (r 54) i1.toNat) (tgt := 34) hex hb h4 d_M_preclean_25 rfl (fun hc => ?_) (fun hc => ?_)
    · have T := T1 hc
      exact AtG.use T hK hA _ _ _ (lv_sub hl [0, 1] rfl) hP hS
    · have T := T2 hc
      refine lv_iinc (v := iI (i1 + 1)) (lv' := [(1, .int (iI (i1 + 1))), (0, .ref (r 0))]) hex hb d_M_preclean_28 hl (k := 1) rfl (iI_add _ _) (Nat.le_of_ble_eq_true rfl) rfl (fun ls hl => ?_)
      refine lv_goto (tgt := 13) hex hb d_M_preclean_31 rfl ?_
      exact AtG.use T hK hA _ _ _ (lv_sub hl [1, 0] rfl) hP hS
set_option maxHeartbeats 4000000 in
set_option maxRecDepth 100000 in
theorem u_M_preclean_34 {x : Cx} (hx : X_M_preclean x) {P : Int → Mem → Prop} {Λ : Lam} {σ : Mem} {r : Nat → Nat} {i1 : Int} (hL : LayM Λ r) (T : rng i1 ∧ ((¬ i1 = 8 → 0 ≤ i1 ∧ i1 < (8 : Int) ∧ K_M_regrey (xl x) (xD x) Λ (upY σ 54 (r 54) i1.toNat 0) r i1 (fun σa4 => P i1 σa4)) ∧ (i1 = 8 → P (-1) σ))) : N_M_preclean_34 x P Λ σ r i1 := by
  obtain ⟨hex, hb, hml, hown, hts, hr, hlk, hR, hnm, hAs, hNW⟩ := hx
  obtain ⟨hLM, hLA⟩ := hL
  refine ⟨(), fun hK hA ls H locs hl hP hS => ?_⟩
  refine lv_iload_n hex hb d_M_preclean_34 rfl (lv_at hl 1 rfl) ?_
  refine lv_bipush (v := iI 8) hex hb d_M_preclean_35 rfl ?_
  obtain ⟨h1, T⟩ := T
  obtain ⟨T1, T2⟩ := T
  refine r_icmp_ne (a := i1) (b := 8) (tgt := 42) hex hb h1 ⟨by omega, by omega⟩ d_M_preclean_37 rfl (fun hc => ?_) (fun hc => ?_)
  · have T := T1 hc
    refine lv_aload_n hex hb d_M_preclean_42 rfl (lv_at hl 0 rfl) ?_
    refine r_getR (ci := 4) (C := R_M) (T := F_M) (N := 22) hex hb hts (fun w h => List.mem_cons_of_mem _ (in_M w h)) hown hK hP hLM rfl 10 (by decide) (hts _ (List.mem_cons_of_mem _ bg_401)) (fun _ h9 => h9) rfl d_M_preclean_43 ?_
    refine lv_iload_n hex hb d_M_preclean_46 rfl (lv_at hl 1 rfl) ?_
    refine lv_iconst (v := iI 0) hex hb d_M_preclean_47 rfl ?_
    obtain ⟨h2, T⟩ := T
    obtain ⟨h3, T⟩ := T
    refine r_zast (v := 0) hex hb hK hP hA hS (hLA 54 8 (by decide)).choose_spec (by decide) (by decide) (by decide) h2 h3 (by decide) d_M_preclean_48 (fun H locs hP hS => ?_)
    refine lv_aload_n hex hb d_M_preclean_49 rfl (lv_at hl 0 rfl) ?_
    refine lv_iload_n hex hb d_M_preclean_50 rfl (lv_at hl 1 rfl) ?_
    refine r_call (va_runV (As := [.int (iI i1)]) (rest := []) ⟨hex, hb, hml, hown, hts⟩ (Ct.use T H.size) (cwV 1 hts (gdV bg_591 bg_593 bp_36 bg_4 bc_M_regrey) rfl rfl rfl hdV_M_regrey ⟨by rw [hR]; exact Nat.le_of_ble_eq_true rfl, by rw [hR]; exact Nat.le_of_ble_eq_true rfl⟩) (px_preV (ci := 4) hNW hK hP hLM rfl) rfl rfl hl.1 rfl (lv_room (Nat.le_of_ble_eq_true rfl)) d_M_preclean_51 ⟨by rw [hR]; exact Nat.le_of_ble_eq_true rfl, by rw [hR]; exact Nat.le_of_ble_eq_true rfl⟩) hS hA hAs (fun v Λ1 σ1 H locs hp hP hK hA hS => ?_)
    obtain ⟨rfl, rfl, T⟩ := hp
    generalize σ1 = σa4 at hP T
    refine W.eq (g2 := F0 (xm x) 54 ls []) rfl ?_
    refine lv_iload_n hex hb d_M_preclean_54 rfl (lv_at hl 1 rfl) ?_
    exact r_iret hex hb hr hlk hK hA hP hS ⟨_, rfl, rfl, T⟩ (Nat.zero_le _) (Nat.zero_le _) d_M_preclean_55
  · have T := T2 hc
    refine lv_iconst (v := iI (-1)) hex hb d_M_preclean_40 rfl ?_
    exact r_iret hex hb hr hlk hK hA hP hS ⟨_, rfl, rfl, T⟩ (Nat.zero_le _) (Nat.zero_le _) d_M_preclean_41
-- DirtyCardHeapModel.remark()I
def rm_M_remark : Room := { frames := 2, cells := 0, slots := 0, locals := 44 }
abbrev X_M_remark (x : Cx) : Prop := CxOk x b_M_remark 4 wl_M_remark R_M (some .int) rm_M_remark "remark"
abbrev K_M_remark (l : Launch) (D : va_G) (Λ : Lam) (σ : Mem) (r : Nat → Nat) (P : Int → Mem → Prop) : Prop := Ct l D y_M_remark wl_M_remark rm_M_remark [.ref (r 0)] Λ σ (pI Λ P)
abbrev N_M_remark_0 (x : Cx) (P : Int → Mem → Prop) (Λ : Lam) (σ : Mem) (r : Nat → Nat) : Prop := AtG x (pI Λ P) 4 0 0 0 Λ σ [(0, .ref (r 0))] []
abbrev N_M_remark_13 (x : Cx) (P : Int → Mem → Prop) (Λ : Lam) (σ : Mem) (r : Nat → Nat) (i1 : Int) : Prop := AtG x (pI Λ P) 4 13 0 0 Λ σ [(0, .ref (r 0)), (1, .int (iI i1))] []
abbrev N_M_remark_37 (x : Cx) (P : Int → Mem → Prop) (Λ : Lam) (σ : Mem) (r : Nat → Nat) (i1 : Int) : Prop := AtG x (pI Λ P) 4 37 0 0 Λ σ [(0, .ref (r 0)), (1, .int (iI i1))] []
abbrev N_M_remark_42 (x : Cx) (P : Int → Mem → Prop) (Λ : Lam) (σ : Mem) (r : Nat → Nat) (i1 : Int) : Prop := AtG x (pI Λ P) 4 42 0 0 Λ σ [(0, .ref (r 0)), (1, .int (iI i1))] []
abbrev N_M_remark_59 (x : Cx) (P : Int → Mem → Prop) (Λ : Lam) (σ : Mem) (r : Nat → Nat) (i1 : Int) (i2 : Int) : Prop := AtG x (pI Λ P) 4 59 0 0 Λ σ [(0, .ref (r 0)), (1, .int (iI i1)), (2, .int (iI i2))] []
abbrev N_M_remark_86 (x : Cx) (P : Int → Mem → Prop) (Λ : Lam) (σ : Mem) (r : Nat → Nat) (i1 : Int) (i2 : Int) : Prop := AtG x (pI Λ P) 4 86 0 0 Λ σ [(0, .ref (r 0)), (1, .int (iI i1)), (2, .int (iI i2))] []
abbrev N_M_remark_94 (x : Cx) (P : Int → Mem → Prop) (Λ : Lam) (σ : Mem) (r : Nat → Nat) (i1 : Int) (i2 : Int) (i3 : Int) : Prop := AtG x (pI Λ P) 4 94 0 0 Λ σ [(0, .ref (r 0)), (1, .int (iI i1)), (2, .int (iI i2)), (3, .int (iI i3))] []
abbrev N_M_remark_152 (x : Cx) (P : Int → Mem → Prop) (Λ : Lam) (σ : Mem) (r : Nat → Nat) (i1 : Int) (i2 : Int) (i3 : Int) : Prop := AtG x (pI Λ P) 4 152 0 0 Λ σ [(0, .ref (r 0)), (1, .int (iI i1)), (2, .int (iI i2)), (3, .int (iI i3))] []
abbrev N_M_remark_184 (x : Cx) (P : Int → Mem → Prop) (Λ : Lam) (σ : Mem) (r : Nat → Nat) (i1 : Int) : Prop := AtG x (pI Λ P) 4 184 0 0 Λ σ [(0, .ref (r 0)), (1, .int (iI i1))] []
theorem e_M_remark {l : Launch} {D : va_G} {Λ : Lam} {σ : Mem} {r : Nat → Nat} {P : Int → Mem → Prop} (h : ∀ x : Cx, xl x = l → xD x = D → X_M_remark x → N_M_remark_0 x P Λ σ r) : K_M_remark l D Λ σ r P := Ct.of (by decide) rfl (Nat.le_of_ble_eq_true rfl) h
set_option maxHeartbeats 4000000 in
set_option maxRecDepth 100000 in
theorem u_M_remark_0 {x : Cx} (hx : X_M_remark x) {P : Int → Mem → Prop} {Λ : Lam} {σ : Mem} {r : Nat → Nat} (hL : LayM Λ r) (T : rng (σ.1 411 (r 0)) ∧ (((σ.1 411 (r 0)) = 1 → N_M_remark_13 x P Λ σ r 0) ∧ (¬ (σ.1 411 (r 0)) = 1 → P (-6) σ))) : N_M_remark_0 x P Λ σ r := by
  obtain ⟨hex, hb, hml, hown, hts, hr, hlk, hR, hnm, hAs, hNW⟩ := hx
  obtain ⟨hLM, hLA⟩ := hL
  refine ⟨(), fun hK hA ls H locs hl hP hS => ?_⟩
  refine lv_aload_n hex hb d_M_remark_0 rfl (lv_at hl 0 rfl) ?_
  refine r_getI (ci := 4) (C := R_M) (T := F_M) (N := 22) hex hb hts (fun w h => List.mem_cons_of_mem _ (in_M w h)) hown hK hP hLM rfl 11 (by decide) (hts _ (List.mem_cons_of_mem _ bg_402)) (fun _ h9 => h9) rfl d_M_remark_1 ?_
  refine lv_iconst (v := iI 1) hex hb d_M_remark_4 rfl ?_
  obtain ⟨h1, T⟩ := T
  obtain ⟨T1, T2⟩ := T
  refine r_icmp_eq (a := σ.1 411 (r 0)) (b := 1) (tgt := 11) hex hb h1 ⟨by omega, by omega⟩ d_M_remark_5 rfl (fun hc => ?_) (fun hc => ?_)
  · have T := T1 hc
    refine lv_iconst (v := iI 0) hex hb d_M_remark_11 rfl ?_
    refine lv_istore_n (lv' := [(1, .int (iI 0)), (0, .ref (r 0))]) hex hb d_M_remark_12 rfl hl (Nat.le_of_ble_eq_true rfl) rfl (fun ls hl => ?_)
    exact AtG.use T hK hA _ _ _ (lv_sub hl [1, 0] rfl) hP hS
  · have T := T2 hc
    refine lv_bipush (v := iI (-6)) hex hb d_M_remark_8 rfl ?_
    exact r_iret hex hb hr hlk hK hA hP hS ⟨_, rfl, rfl, T⟩ (Nat.zero_le _) (Nat.zero_le _) d_M_remark_10
set_option maxHeartbeats 4000000 in
set_option maxRecDepth 100000 in
theorem u_M_remark_13 {x : Cx} (hx : X_M_remark x) {P : Int → Mem → Prop} {Λ : Lam} {σ : Mem} {r : Nat → Nat} {i1 : Int} (hL : LayM Λ r) (T : rng i1 ∧ ((8 ≤ i1 → N_M_remark_59 x P Λ σ r 0 0) ∧ (¬ 8 ≤ i1 → 0 ≤ i1 ∧ i1 < (8 : Int) ∧ rng (σ.2.1 53 (r 53) i1.toNat) ∧ ((¬ (σ.2.1 53 (r 53) i1.toNat) = 0 → N_M_remark_37 x P Λ σ r i1) ∧ ((σ.2.1 53 (r 53) i1.toNat) = 0 → 0 ≤ i1 ∧ i1 < (8 : Int) ∧ rng (σ.2.1 54 (r 54) i1.toNat) ∧ (((σ.2.1 54 (r 54) i1.toNat) = 0 → N_M_remark_42 x P Λ σ r i1) ∧ (¬ (σ.2.1 54 (r 54) i1.toNat) = 0 → N_M_remark_37 x P Λ σ r i1))))))) : N_M_remark_13 x P Λ σ r i1 := by
  obtain ⟨hex, hb, hml, hown, hts, hr, hlk, hR, hnm, hAs, hNW⟩ := hx
  obtain ⟨hLM, hLA⟩ := hL
  refine ⟨(), fun hK hA ls H locs hl hP hS => ?_⟩
  refine lv_iload_n hex hb d_M_remark_13 rfl (lv_at hl 1 rfl) ?_
  refine lv_bipush (v := iI 8) hex hb d_M_remark_14 rfl ?_
  obtain ⟨h1, T⟩ := T
  obtain ⟨T1, T2⟩ := T
  refine r_icmp_ge (a := i1) (b := 8) (tgt := 55) hex hb h1 ⟨by omega, by omega⟩ d_M_remark_16 rfl (fun hc => ?_) (fun hc => ?_)
  · have T := T1 hc
    refine lv_iconst (v := iI 0) hex hb d_M_remark_55 rfl ?_
    refine lv_istore_n (lv' := [(1, .int (iI 0)), (0, .ref (r 0))]) hex hb d_M_remark_56 rfl hl (Nat.le_of_ble_eq_true rfl) rfl (fun ls hl => ?_)
    refine lv_iconst (v := iI 0) hex hb d_M_remark_57 rfl ?_
    refine lv_istore_n (lv' := [(2, .int (iI 0)), (1, .int (iI 0)), (0, .ref (r 0))]) hex hb d_M_remark_58 rfl hl (Nat.le_of_ble_eq_true rfl) rfl (fun ls hl => ?_)
    exact AtG.use T hK hA _ _ _ (lv_sub hl [2, 1, 0] rfl) hP hS
  · have T := T2 hc
    refine lv_aload_n hex hb d_M_remark_19 rfl (lv_at hl 0 rfl) ?_
    refine r_getR (ci := 4) (C := R_M) (T := F_M) (N := 22) hex hb hts (fun w h => List.mem_cons_of_mem _ (in_M w h)) hown hK hP hLM rfl 9 (by decide) (hts _ (List.mem_cons_of_mem _ bg_400)) (fun _ h9 => h9) rfl d_M_remark_20 ?_
    refine lv_iload_n hex hb d_M_remark_23 rfl (lv_at hl 1 rfl) ?_
    obtain ⟨h2, T⟩ := T
    obtain ⟨h3, T⟩ := T
    refine r_zald hex hb hK hP (hLA 53 8 (by decide)).choose_spec (by decide) (by decide) (by decide) h2 h3 d_M_remark_24 ?_
    obtain ⟨h4, T⟩ := T
    obtain ⟨T1, T2⟩ := T
    refine r_if_ne (a := σ.2.1 53 (r 53) i1.toNat) (tgt := 37) hex hb h4 d_M_remark_25 rfl (fun hc => ?_) (fun hc => ?_)
    · have T := T1 hc
      exact AtG.use T hK hA _ _ _ (lv_sub hl [0, 1] rfl) hP hS
    · have T := T2 hc
      refine lv_aload_n hex hb d_M_remark_28 rfl (lv_at hl 0 rfl) ?_
      refine r_getR (ci := 4) (C := R_M) (T := F_M) (N := 22) hex hb hts (fun w h => List.mem_cons_of_mem _ (in_M w h)) hown hK hP hLM rfl 10 (by decide) (hts _ (List.mem_cons_of_mem _ bg_401)) (fun _ h9 => h9) rfl d_M_remark_29 ?_
      refine lv_iload_n hex hb d_M_remark_32 rfl (lv_at hl 1 rfl) ?_
      obtain ⟨h5, T⟩ := T
      obtain ⟨h6, T⟩ := T
      refine r_zald hex hb hK hP (hLA 54 8 (by decide)).choose_spec (by decide) (by decide) (by decide) h5 h6 d_M_remark_33 ?_
      obtain ⟨h7, T⟩ := T
      obtain ⟨T1, T2⟩ := T
      refine r_if_eq (a := σ.2.1 54 (r 54) i1.toNat) (tgt := 42) hex hb h7 d_M_remark_34 rfl (fun hc => ?_) (fun hc => ?_)
      · have T := T1 hc
        exact AtG.use T hK hA _ _ _ (lv_sub hl [0, 1] rfl) hP hS
      · have T := T2 hc
        exact AtG.use T hK hA _ _ _ (lv_sub hl [0, 1] rfl) hP hS
set_option maxHeartbeats 4000000 in
set_option maxRecDepth 100000 in
theorem u_M_remark_37 {x : Cx} (hx : X_M_remark x) {P : Int → Mem → Prop} {Λ : Lam} {σ : Mem} {r : Nat → Nat} {i1 : Int} (hL : LayM Λ r) (T : K_M_regrey (xl x) (xD x) Λ σ r i1 (fun σa1 => N_M_remark_42 x P Λ σa1 r i1)) : N_M_remark_37 x P Λ σ r i1 := by
  obtain ⟨hex, hb, hml, hown, hts, hr, hlk, hR, hnm, hAs, hNW⟩ := hx
  obtain ⟨hLM, hLA⟩ := hL
  refine ⟨(), fun hK hA ls H locs hl hP hS => ?_⟩
  refine lv_aload_n hex hb d_M_remark_37 rfl (lv_at hl 0 rfl) ?_
  refine lv_iload_n hex hb d_M_remark_38 rfl (lv_at hl 1 rfl) ?_
  refine r_call (va_runV (As := [.int (iI i1)]) (rest := []) ⟨hex, hb, hml, hown, hts⟩ (Ct.use T H.size) (cwV 1 hts (gdV bg_591 bg_593 bp_36 bg_4 bc_M_regrey) rfl rfl rfl hdV_M_regrey ⟨by rw [hR]; exact Nat.le_of_ble_eq_true rfl, by rw [hR]; exact Nat.le_of_ble_eq_true rfl⟩) (px_preV (ci := 4) hNW hK hP hLM rfl) rfl rfl hl.1 rfl (lv_room (Nat.le_of_ble_eq_true rfl)) d_M_remark_39 ⟨by rw [hR]; exact Nat.le_of_ble_eq_true rfl, by rw [hR]; exact Nat.le_of_ble_eq_true rfl⟩) hS hA hAs (fun v Λ1 σ1 H locs hp hP hK hA hS => ?_)
  obtain ⟨rfl, rfl, T⟩ := hp
  generalize σ1 = σa1 at hP T
  refine W.eq (g2 := F0 (xm x) 42 ls []) rfl ?_
  exact AtG.use T hK hA _ _ _ (lv_sub hl [0, 1] rfl) hP hS
set_option maxHeartbeats 4000000 in
set_option maxRecDepth 100000 in
theorem u_M_remark_42 {x : Cx} (hx : X_M_remark x) {P : Int → Mem → Prop} {Λ : Lam} {σ : Mem} {r : Nat → Nat} {i1 : Int} (hL : LayM Λ r) (T : 0 ≤ i1 ∧ i1 < (8 : Int) ∧ N_M_remark_13 x P Λ (upY σ 54 (r 54) i1.toNat 0) r (i1 + 1)) : N_M_remark_42 x P Λ σ r i1 := by
  obtain ⟨hex, hb, hml, hown, hts, hr, hlk, hR, hnm, hAs, hNW⟩ := hx
  obtain ⟨hLM, hLA⟩ := hL
  refine ⟨(), fun hK hA ls H locs hl hP hS => ?_⟩
  refine lv_aload_n hex hb d_M_remark_42 rfl (lv_at hl 0 rfl) ?_
  refine r_getR (ci := 4) (C := R_M) (T := F_M) (N := 22) hex hb hts (fun w h => List.mem_cons_of_mem _ (in_M w h)) hown hK hP hLM rfl 10 (by decide) (hts _ (List.mem_cons_of_mem _ bg_401)) (fun _ h9 => h9) rfl d_M_remark_43 ?_
  refine lv_iload_n hex hb d_M_remark_46 rfl (lv_at hl 1 rfl) ?_
  refine lv_iconst (v := iI 0) hex hb d_M_remark_47 rfl ?_
  obtain ⟨h1, T⟩ := T
  obtain ⟨h2, T⟩ := T
  refine r_zast (v := 0) hex hb hK hP hA hS (hLA 54 8 (by decide)).choose_spec (by decide) (by decide) (by decide) h1 h2 (by decide) d_M_remark_48 (fun H locs hP hS => ?_)
  refine lv_iinc (v := iI (i1 + 1)) (lv' := [(1, .int (iI (i1 + 1))), (0, .ref (r 0))]) hex hb d_M_remark_49 hl (k := 1) rfl (iI_add _ _) (Nat.le_of_ble_eq_true rfl) rfl (fun ls hl => ?_)
  refine lv_goto (tgt := 13) hex hb d_M_remark_52 rfl ?_
  exact AtG.use T hK hA _ _ _ (lv_sub hl [1, 0] rfl) hP hS
set_option maxHeartbeats 4000000 in
set_option maxRecDepth 100000 in
theorem u_M_remark_59 {x : Cx} (hx : X_M_remark x) {P : Int → Mem → Prop} {Λ : Lam} {σ : Mem} {r : Nat → Nat} {i1 : Int} {i2 : Int} (hL : LayM Λ r) (T : rng i2 ∧ ((6 ≤ i2 → N_M_remark_86 x P Λ σ r i1 0) ∧ (¬ 6 ≤ i2 → 0 ≤ i2 ∧ i2 < (6 : Int) ∧ K_M_shade (xl x) (xD x) Λ σ r (σ.2.1 7 (r 7) i2.toNat) (fun z4 σa4 => N_M_remark_59 x P Λ σa4 r (i1 + z4) (i2 + 1))))) : N_M_remark_59 x P Λ σ r i1 i2 := by
  obtain ⟨hex, hb, hml, hown, hts, hr, hlk, hR, hnm, hAs, hNW⟩ := hx
  obtain ⟨hLM, hLA⟩ := hL
  refine ⟨(), fun hK hA ls H locs hl hP hS => ?_⟩
  refine lv_iload_n hex hb d_M_remark_59 rfl (lv_at hl 2 rfl) ?_
  refine lv_bipush (v := iI 6) hex hb d_M_remark_60 rfl ?_
  obtain ⟨h1, T⟩ := T
  obtain ⟨T1, T2⟩ := T
  refine r_icmp_ge (a := i2) (b := 6) (tgt := 84) hex hb h1 ⟨by omega, by omega⟩ d_M_remark_62 rfl (fun hc => ?_) (fun hc => ?_)
  · have T := T1 hc
    refine lv_iconst (v := iI 0) hex hb d_M_remark_84 rfl ?_
    refine lv_istore_n (lv' := [(2, .int (iI 0)), (0, .ref (r 0)), (1, .int (iI i1))]) hex hb d_M_remark_85 rfl hl (Nat.le_of_ble_eq_true rfl) rfl (fun ls hl => ?_)
    exact AtG.use T hK hA _ _ _ (lv_sub hl [1, 2, 0] rfl) hP hS
  · have T := T2 hc
    refine lv_iload_n hex hb d_M_remark_65 rfl (lv_at hl 1 rfl) ?_
    refine lv_aload_n hex hb d_M_remark_66 rfl (lv_at hl 0 rfl) ?_
    refine lv_aload_n hex hb d_M_remark_67 rfl (lv_at hl 0 rfl) ?_
    refine r_getR (ci := 4) (C := R_M) (T := F_M) (N := 22) hex hb hts (fun w h => List.mem_cons_of_mem _ (in_M w h)) hown hK hP hLM rfl 8 (by decide) (hts _ (List.mem_cons_of_mem _ bg_399)) (fun _ h9 => h9) rfl d_M_remark_68 ?_
    refine lv_iload_n hex hb d_M_remark_71 rfl (lv_at hl 2 rfl) ?_
    obtain ⟨h2, T⟩ := T
    obtain ⟨h3, T⟩ := T
    refine r_iald hex hb hK hP (hLA 7 6 (by decide)).choose_spec (by decide) (by decide) h2 h3 d_M_remark_72 ?_
    refine r_call (va_runV (As := [.int (iI (σ.2.1 7 (r 7) i2.toNat))]) (rest := [.int (iI i1)]) ⟨hex, hb, hml, hown, hts⟩ (Ct.use T H.size) (cwV 1 hts (gdV bg_571 bg_573 bp_33 bg_4 bc_M_shade) rfl rfl rfl hdV_M_shade ⟨by rw [hR]; exact Nat.le_of_ble_eq_true rfl, by rw [hR]; exact Nat.le_of_ble_eq_true rfl⟩) (px_preV (ci := 4) hNW hK hP hLM rfl) rfl rfl hl.1 rfl (lv_room (Nat.le_of_ble_eq_true rfl)) d_M_remark_73 ⟨by rw [hR]; exact Nat.le_of_ble_eq_true rfl, by rw [hR]; exact Nat.le_of_ble_eq_true rfl⟩) hS hA hAs (fun v Λ1 σ1 H locs hp hP hK hA hS => ?_)
    obtain ⟨z4, rfl, rfl, T⟩ := hp
    generalize σ1 = σa4 at hP T
    refine W.eq (g2 := F0 (xm x) 76 ls [.int (iI z4), .int (iI i1)]) rfl ?_
    refine r_iadd hex hb d_M_remark_76 ?_
    refine lv_istore_n (lv' := [(1, .int (iI (i1 + z4))), (0, .ref (r 0)), (2, .int (iI i2))]) hex hb d_M_remark_77 rfl hl (Nat.le_of_ble_eq_true rfl) rfl (fun ls hl => ?_)
    refine lv_iinc (v := iI (i2 + 1)) (lv' := [(2, .int (iI (i2 + 1))), (1, .int (iI (i1 + z4))), (0, .ref (r 0))]) hex hb d_M_remark_78 hl (k := 2) rfl (iI_add _ _) (Nat.le_of_ble_eq_true rfl) rfl (fun ls hl => ?_)
    refine lv_goto (tgt := 59) hex hb d_M_remark_81 rfl ?_
    exact AtG.use T hK hA _ _ _ (lv_sub hl [2, 1, 0] rfl) hP hS
set_option maxHeartbeats 4000000 in
set_option maxRecDepth 100000 in
theorem u_M_remark_86 {x : Cx} (hx : X_M_remark x) {P : Int → Mem → Prop} {Λ : Lam} {σ : Mem} {r : Nat → Nat} {i1 : Int} {i2 : Int} (hL : LayM Λ r) (T : rng i2 ∧ ((90 ≤ i2 → K_M_next (xl x) (xD x) Λ σ r 0 1 (fun z2 σa2 => N_M_remark_152 x P Λ σa2 r i1 z2 0)) ∧ (¬ 90 ≤ i2 → N_M_remark_94 x P Λ σ r i1 i2 0))) : N_M_remark_86 x P Λ σ r i1 i2 := by
  obtain ⟨hex, hb, hml, hown, hts, hr, hlk, hR, hnm, hAs, hNW⟩ := hx
  obtain ⟨hLM, hLA⟩ := hL
  refine ⟨(), fun hK hA ls H locs hl hP hS => ?_⟩
  refine lv_iload_n hex hb d_M_remark_86 rfl (lv_at hl 2 rfl) ?_
  refine lv_bipush (v := iI 90) hex hb d_M_remark_87 rfl ?_
  obtain ⟨h1, T⟩ := T
  obtain ⟨T1, T2⟩ := T
  refine r_icmp_ge (a := i2) (b := 90) (tgt := 143) hex hb h1 ⟨by omega, by omega⟩ d_M_remark_89 rfl (fun hc => ?_) (fun hc => ?_)
  · have T := T1 hc
    refine lv_aload_n hex hb d_M_remark_143 rfl (lv_at hl 0 rfl) ?_
    refine lv_iconst (v := iI 0) hex hb d_M_remark_144 rfl ?_
    refine lv_iconst (v := iI 1) hex hb d_M_remark_145 rfl ?_
    refine r_call (va_runV (As := [.int (iI 0), .int (iI 1)]) (rest := []) ⟨hex, hb, hml, hown, hts⟩ (Ct.use T H.size) (cwV 2 hts (gdV bg_579 bg_581 bp_34 bg_4 bc_M_next) rfl rfl rfl hdV_M_next ⟨by rw [hR]; exact Nat.le_of_ble_eq_true rfl, by rw [hR]; exact Nat.le_of_ble_eq_true rfl⟩) (px_preV (ci := 4) hNW hK hP hLM rfl) rfl rfl hl.1 rfl (lv_room (Nat.le_of_ble_eq_true rfl)) d_M_remark_146 ⟨by rw [hR]; exact Nat.le_of_ble_eq_true rfl, by rw [hR]; exact Nat.le_of_ble_eq_true rfl⟩) hS hA hAs (fun v Λ1 σ1 H locs hp hP hK hA hS => ?_)
    obtain ⟨z2, rfl, rfl, T⟩ := hp
    generalize σ1 = σa2 at hP T
    refine W.eq (g2 := F0 (xm x) 149 ls [.int (iI z2)]) rfl ?_
    refine lv_istore_n (lv' := [(2, .int (iI z2)), (0, .ref (r 0)), (1, .int (iI i1))]) hex hb d_M_remark_149 rfl hl (Nat.le_of_ble_eq_true rfl) rfl (fun ls hl => ?_)
    refine lv_iconst (v := iI 0) hex hb d_M_remark_150 rfl ?_
    refine lv_istore_n (lv' := [(3, .int (iI 0)), (2, .int (iI z2)), (0, .ref (r 0)), (1, .int (iI i1))]) hex hb d_M_remark_151 rfl hl (Nat.le_of_ble_eq_true rfl) rfl (fun ls hl => ?_)
    exact AtG.use T hK hA _ _ _ (lv_sub hl [2, 3, 1, 0] rfl) hP hS
  · have T := T2 hc
    refine lv_iconst (v := iI 0) hex hb d_M_remark_92 rfl ?_
    refine lv_istore_n (lv' := [(3, .int (iI 0)), (0, .ref (r 0)), (1, .int (iI i1)), (2, .int (iI i2))]) hex hb d_M_remark_93 rfl hl (Nat.le_of_ble_eq_true rfl) rfl (fun ls hl => ?_)
    exact AtG.use T hK hA _ _ _ (lv_sub hl [1, 2, 3, 0] rfl) hP hS
set_option maxHeartbeats 4000000 in
set_option maxRecDepth 100000 in
theorem u_M_remark_94 {x : Cx} (hx : X_M_remark x) {P : Int → Mem → Prop} {Λ : Lam} {σ : Mem} {r : Nat → Nat} {i1 : Int} {i2 : Int} {i3 : Int} (hL : LayM Λ r) (T : 0 ≤ i2 ∧ i2 < (90 : Int) ∧ rng (σ.2.1 1 (r 1) i2.toNat) ∧ ((¬ (σ.2.1 1 (r 1) i2.toNat) = 1 → N_M_remark_86 x P Λ σ r i1 (i2 + 1)) ∧ ((σ.2.1 1 (r 1) i2.toNat) = 1 → 0 ≤ i2 ∧ i2 < (90 : Int) ∧ rng i3 ∧ rng (σ.2.1 3 (r 3) i2.toNat) ∧ (((σ.2.1 3 (r 3) i2.toNat) ≤ i3 → N_M_remark_86 x P Λ σ r i1 (i2 + 1)) ∧ (¬ (σ.2.1 3 (r 3) i2.toNat) ≤ i3 → 0 ≤ ((3 * i2) + i3) ∧ ((3 * i2) + i3) < (270 : Int) ∧ K_M_shade (xl x) (xD x) Λ σ r (σ.2.1 4 (r 4) ((3 * i2) + i3).toNat) (fun z10 σa10 => N_M_remark_94 x P Λ σa10 r (i1 + z10) i2 (i3 + 1))))))) : N_M_remark_94 x P Λ σ r i1 i2 i3 := by
  obtain ⟨hex, hb, hml, hown, hts, hr, hlk, hR, hnm, hAs, hNW⟩ := hx
  obtain ⟨hLM, hLA⟩ := hL
  refine ⟨(), fun hK hA ls H locs hl hP hS => ?_⟩
  refine lv_aload_n hex hb d_M_remark_94 rfl (lv_at hl 0 rfl) ?_
  refine r_getR (ci := 4) (C := R_M) (T := F_M) (N := 22) hex hb hts (fun w h => List.mem_cons_of_mem _ (in_M w h)) hown hK hP hLM rfl 0 (by decide) (hts _ (List.mem_cons_of_mem _ bg_391)) (fun _ h9 => h9) rfl d_M_remark_95 ?_
  refine lv_iload_n hex hb d_M_remark_98 rfl (lv_at hl 2 rfl) ?_
  obtain ⟨h1, T⟩ := T
  obtain ⟨h2, T⟩ := T
  refine r_iald hex hb hK hP (hLA 1 90 (by decide)).choose_spec (by decide) (by decide) h1 h2 d_M_remark_99 ?_
  refine lv_iconst (v := iI 1) hex hb d_M_remark_100 rfl ?_
  obtain ⟨h3, T⟩ := T
  obtain ⟨T1, T2⟩ := T
  refine r_icmp_ne (a := σ.2.1 1 (r 1) i2.toNat) (b := 1) (tgt := 137) hex hb h3 ⟨by omega, by omega⟩ d_M_remark_101 rfl (fun hc => ?_) (fun hc => ?_)
  · have T := T1 hc
    refine lv_iinc (v := iI (i2 + 1)) (lv' := [(2, .int (iI (i2 + 1))), (0, .ref (r 0)), (1, .int (iI i1)), (3, .int (iI i3))]) hex hb d_M_remark_137 hl (k := 2) rfl (iI_add _ _) (Nat.le_of_ble_eq_true rfl) rfl (fun ls hl => ?_)
    refine lv_goto (tgt := 86) hex hb d_M_remark_140 rfl ?_
    exact AtG.use T hK hA _ _ _ (lv_sub hl [1, 2, 0] rfl) hP hS
  · have T := T2 hc
    refine lv_iload_n hex hb d_M_remark_104 rfl (lv_at hl 3 rfl) ?_
    refine lv_aload_n hex hb d_M_remark_105 rfl (lv_at hl 0 rfl) ?_
    refine r_getR (ci := 4) (C := R_M) (T := F_M) (N := 22) hex hb hts (fun w h => List.mem_cons_of_mem _ (in_M w h)) hown hK hP hLM rfl 2 (by decide) (hts _ (List.mem_cons_of_mem _ bg_393)) (fun _ h9 => h9) rfl d_M_remark_106 ?_
    refine lv_iload_n hex hb d_M_remark_109 rfl (lv_at hl 2 rfl) ?_
    obtain ⟨h4, T⟩ := T
    obtain ⟨h5, T⟩ := T
    refine r_iald hex hb hK hP (hLA 3 90 (by decide)).choose_spec (by decide) (by decide) h4 h5 d_M_remark_110 ?_
    obtain ⟨h6, T⟩ := T
    obtain ⟨h7, T⟩ := T
    obtain ⟨T1, T2⟩ := T
    refine r_icmp_ge (a := i3) (b := σ.2.1 3 (r 3) i2.toNat) (tgt := 137) hex hb h6 h7 d_M_remark_111 rfl (fun hc => ?_) (fun hc => ?_)
    · have T := T1 hc
      refine lv_iinc (v := iI (i2 + 1)) (lv' := [(2, .int (iI (i2 + 1))), (0, .ref (r 0)), (1, .int (iI i1)), (3, .int (iI i3))]) hex hb d_M_remark_137 hl (k := 2) rfl (iI_add _ _) (Nat.le_of_ble_eq_true rfl) rfl (fun ls hl => ?_)
      refine lv_goto (tgt := 86) hex hb d_M_remark_140 rfl ?_
      exact AtG.use T hK hA _ _ _ (lv_sub hl [1, 2, 0] rfl) hP hS
    · have T := T2 hc
      refine lv_iload_n hex hb d_M_remark_114 rfl (lv_at hl 1 rfl) ?_
      refine lv_aload_n hex hb d_M_remark_115 rfl (lv_at hl 0 rfl) ?_
      refine lv_aload_n hex hb d_M_remark_116 rfl (lv_at hl 0 rfl) ?_
      refine r_getR (ci := 4) (C := R_M) (T := F_M) (N := 22) hex hb hts (fun w h => List.mem_cons_of_mem _ (in_M w h)) hown hK hP hLM rfl 3 (by decide) (hts _ (List.mem_cons_of_mem _ bg_394)) (fun _ h9 => h9) rfl d_M_remark_117 ?_
      refine lv_iconst (v := iI 3) hex hb d_M_remark_120 rfl ?_
      refine lv_iload_n hex hb d_M_remark_121 rfl (lv_at hl 2 rfl) ?_
      refine r_imul hex hb d_M_remark_122 ?_
      refine lv_iload_n hex hb d_M_remark_123 rfl (lv_at hl 3 rfl) ?_
      refine r_iadd hex hb d_M_remark_124 ?_
      obtain ⟨h8, T⟩ := T
      obtain ⟨h9, T⟩ := T
      refine r_iald hex hb hK hP (hLA 4 270 (by decide)).choose_spec (by decide) (by decide) h8 h9 d_M_remark_125 ?_
      refine r_call (va_runV (As := [.int (iI (σ.2.1 4 (r 4) ((3 * i2) + i3).toNat))]) (rest := [.int (iI i1)]) ⟨hex, hb, hml, hown, hts⟩ (Ct.use T H.size) (cwV 1 hts (gdV bg_571 bg_573 bp_33 bg_4 bc_M_shade) rfl rfl rfl hdV_M_shade ⟨by rw [hR]; exact Nat.le_of_ble_eq_true rfl, by rw [hR]; exact Nat.le_of_ble_eq_true rfl⟩) (px_preV (ci := 4) hNW hK hP hLM rfl) rfl rfl hl.1 rfl (lv_room (Nat.le_of_ble_eq_true rfl)) d_M_remark_126 ⟨by rw [hR]; exact Nat.le_of_ble_eq_true rfl, by rw [hR]; exact Nat.le_of_ble_eq_true rfl⟩) hS hA hAs (fun v Λ1 σ1 H locs hp hP hK hA hS => ?_)
      obtain ⟨z10, rfl, rfl, T⟩ := hp
      generalize σ1 = σa10 at hP T
      refine W.eq (g2 := F0 (xm x) 129 ls [.int (iI z10), .int (iI i1)]) rfl ?_
      refine r_iadd hex hb d_M_remark_129 ?_
      refine lv_istore_n (lv' := [(1, .int (iI (i1 + z10))), (0, .ref (r 0)), (2, .int (iI i2)), (3, .int (iI i3))]) hex hb d_M_remark_130 rfl hl (Nat.le_of_ble_eq_true rfl) rfl (fun ls hl => ?_)
      refine lv_iinc (v := iI (i3 + 1)) (lv' := [(3, .int (iI (i3 + 1))), (1, .int (iI (i1 + z10))), (0, .ref (r 0)), (2, .int (iI i2))]) hex hb d_M_remark_131 hl (k := 3) rfl (iI_add _ _) (Nat.le_of_ble_eq_true rfl) rfl (fun ls hl => ?_)
      refine lv_goto (tgt := 94) hex hb d_M_remark_134 rfl ?_
      exact AtG.use T hK hA _ _ _ (lv_sub hl [2, 1, 3, 0] rfl) hP hS
set_option maxHeartbeats 4000000 in
set_option maxRecDepth 100000 in
theorem u_M_remark_152 {x : Cx} (hx : X_M_remark x) {P : Int → Mem → Prop} {Λ : Lam} {σ : Mem} {r : Nat → Nat} {i1 : Int} {i2 : Int} {i3 : Int} (hL : LayM Λ r) (T : rng i3 ∧ ((200 ≤ i3 → N_M_remark_184 x P Λ σ r i1) ∧ (¬ 200 ≤ i3 → rng i2 ∧ ((i2 < 0 → N_M_remark_184 x P Λ σ r i1) ∧ (¬ i2 < 0 → K_M_scan (xl x) (xD x) Λ σ r i2 (fun z3 σa3 => K_M_next (xl x) (xD x) Λ σa3 r 0 1 (fun z4 σa4 => N_M_remark_152 x P Λ σa4 r (i1 + z3) z4 (i3 + 1)))))))) : N_M_remark_152 x P Λ σ r i1 i2 i3 := by
  obtain ⟨hex, hb, hml, hown, hts, hr, hlk, hR, hnm, hAs, hNW⟩ := hx
  obtain ⟨hLM, hLA⟩ := hL
  refine ⟨(), fun hK hA ls H locs hl hP hS => ?_⟩
  refine lv_iload_n hex hb d_M_remark_152 rfl (lv_at hl 3 rfl) ?_
  refine lv_sipush (v := iI 200) hex hb d_M_remark_153 rfl ?_
  obtain ⟨h1, T⟩ := T
  obtain ⟨T1, T2⟩ := T
  refine r_icmp_ge (a := i3) (b := 200) (tgt := 184) hex hb h1 ⟨by omega, by omega⟩ d_M_remark_156 rfl (fun hc => ?_) (fun hc => ?_)
  · have T := T1 hc
    exact AtG.use T hK hA _ _ _ (lv_sub hl [0, 1] rfl) hP hS
  · have T := T2 hc
    refine lv_iload_n hex hb d_M_remark_159 rfl (lv_at hl 2 rfl) ?_
    obtain ⟨h2, T⟩ := T
    obtain ⟨T1, T2⟩ := T
    refine r_if_lt (a := i2) (tgt := 184) hex hb h2 d_M_remark_160 rfl (fun hc => ?_) (fun hc => ?_)
    · have T := T1 hc
      exact AtG.use T hK hA _ _ _ (lv_sub hl [0, 1] rfl) hP hS
    · have T := T2 hc
      refine lv_iload_n hex hb d_M_remark_163 rfl (lv_at hl 1 rfl) ?_
      refine lv_aload_n hex hb d_M_remark_164 rfl (lv_at hl 0 rfl) ?_
      refine lv_iload_n hex hb d_M_remark_165 rfl (lv_at hl 2 rfl) ?_
      refine r_call (va_runV (As := [.int (iI i2)]) (rest := [.int (iI i1)]) ⟨hex, hb, hml, hown, hts⟩ (Ct.use T H.size) (cwV 1 hts (gdV bg_583 bg_585 bp_35 bg_4 bc_M_scan) rfl rfl rfl hdV_M_scan ⟨by rw [hR]; exact Nat.le_of_ble_eq_true rfl, by rw [hR]; exact Nat.le_of_ble_eq_true rfl⟩) (px_preV (ci := 4) hNW hK hP hLM rfl) rfl rfl hl.1 rfl (lv_room (Nat.le_of_ble_eq_true rfl)) d_M_remark_166 ⟨by rw [hR]; exact Nat.le_of_ble_eq_true rfl, by rw [hR]; exact Nat.le_of_ble_eq_true rfl⟩) hS hA hAs (fun v Λ1 σ1 H locs hp hP hK hA hS => ?_)
      obtain ⟨z3, rfl, rfl, T⟩ := hp
      generalize σ1 = σa3 at hP T
      refine W.eq (g2 := F0 (xm x) 169 ls [.int (iI z3), .int (iI i1)]) rfl ?_
      refine r_iadd hex hb d_M_remark_169 ?_
      refine lv_istore_n (lv' := [(1, .int (iI (i1 + z3))), (0, .ref (r 0)), (2, .int (iI i2)), (3, .int (iI i3))]) hex hb d_M_remark_170 rfl hl (Nat.le_of_ble_eq_true rfl) rfl (fun ls hl => ?_)
      refine lv_aload_n hex hb d_M_remark_171 rfl (lv_at hl 1 rfl) ?_
      refine lv_iconst (v := iI 0) hex hb d_M_remark_172 rfl ?_
      refine lv_iconst (v := iI 1) hex hb d_M_remark_173 rfl ?_
      refine r_call (va_runV (As := [.int (iI 0), .int (iI 1)]) (rest := []) ⟨hex, hb, hml, hown, hts⟩ (Ct.use T H.size) (cwV 2 hts (gdV bg_579 bg_581 bp_34 bg_4 bc_M_next) rfl rfl rfl hdV_M_next ⟨by rw [hR]; exact Nat.le_of_ble_eq_true rfl, by rw [hR]; exact Nat.le_of_ble_eq_true rfl⟩) (px_preV (ci := 4) hNW hK hP hLM rfl) rfl rfl hl.1 rfl (lv_room (Nat.le_of_ble_eq_true rfl)) d_M_remark_174 ⟨by rw [hR]; exact Nat.le_of_ble_eq_true rfl, by rw [hR]; exact Nat.le_of_ble_eq_true rfl⟩) hS hA hAs (fun v Λ1 σ1 H locs hp hP hK hA hS => ?_)
      obtain ⟨z4, rfl, rfl, T⟩ := hp
      generalize σ1 = σa4 at hP T
      refine W.eq (g2 := F0 (xm x) 177 ls [.int (iI z4)]) rfl ?_
      refine lv_istore_n (lv' := [(2, .int (iI z4)), (1, .int (iI (i1 + z3))), (0, .ref (r 0)), (3, .int (iI i3))]) hex hb d_M_remark_177 rfl hl (Nat.le_of_ble_eq_true rfl) rfl (fun ls hl => ?_)
      refine lv_iinc (v := iI (i3 + 1)) (lv' := [(3, .int (iI (i3 + 1))), (2, .int (iI z4)), (1, .int (iI (i1 + z3))), (0, .ref (r 0))]) hex hb d_M_remark_178 hl (k := 3) rfl (iI_add _ _) (Nat.le_of_ble_eq_true rfl) rfl (fun ls hl => ?_)
      refine lv_goto (tgt := 152) hex hb d_M_remark_181 rfl ?_
      exact AtG.use T hK hA _ _ _ (lv_sub hl [3, 2, 1, 0] rfl) hP hS
set_option maxHeartbeats 4000000 in
set_option maxRecDepth 100000 in
theorem u_M_remark_184 {x : Cx} (hx : X_M_remark x) {P : Int → Mem → Prop} {Λ : Lam} {σ : Mem} {r : Nat → Nat} {i1 : Int} (hL : LayM Λ r) (T : P i1 (upI (upI σ 411 (r 0) 2) 412 (r 0) 0)) : N_M_remark_184 x P Λ σ r i1 := by
  obtain ⟨hex, hb, hml, hown, hts, hr, hlk, hR, hnm, hAs, hNW⟩ := hx
  obtain ⟨hLM, hLA⟩ := hL
  refine ⟨(), fun hK hA ls H locs hl hP hS => ?_⟩
  refine lv_aload_n hex hb d_M_remark_184 rfl (lv_at hl 0 rfl) ?_
  refine lv_iconst (v := iI 2) hex hb d_M_remark_185 rfl ?_
  refine r_putI (ci := 4) (C := R_M) (T := F_M) (N := 22) (v := 2) (ty := .int) hex hb hts (fun w h => List.mem_cons_of_mem _ (in_M w h)) tq_M tq_M_ok n_M hown hK hP hA hS hLM rfl 11 (by decide) (hts _ (List.mem_cons_of_mem _ bg_402)) (fun _ h9 => h9) rfl (by decide +kernel) rfl rfl rfl d_M_remark_186 (fun H locs hP hS => ?_)
  refine lv_aload_n hex hb d_M_remark_189 rfl (lv_at hl 0 rfl) ?_
  refine lv_iconst (v := iI 0) hex hb d_M_remark_190 rfl ?_
  refine r_putI (ci := 4) (C := R_M) (T := F_M) (N := 22) (v := 0) (ty := .int) hex hb hts (fun w h => List.mem_cons_of_mem _ (in_M w h)) tq_M tq_M_ok n_M hown hK hP hA hS hLM rfl 12 (by decide) (hts _ (List.mem_cons_of_mem _ bg_403)) (fun _ h9 => h9) rfl (by decide +kernel) rfl rfl rfl d_M_remark_191 (fun H locs hP hS => ?_)
  refine lv_iload_n hex hb d_M_remark_194 rfl (lv_at hl 1 rfl) ?_
  exact r_iret hex hb hr hlk hK hA hP hS ⟨_, rfl, rfl, T⟩ (Nat.zero_le _) (Nat.zero_le _) d_M_remark_195
-- DirtyCardHeapModel.sweep()I
def rm_M_sweep : Room := { frames := 1, cells := 0, slots := 0, locals := 24 }
abbrev X_M_sweep (x : Cx) : Prop := CxOk x b_M_sweep 3 wl_M_sweep R_M (some .int) rm_M_sweep "sweep"
abbrev K_M_sweep (l : Launch) (D : va_G) (Λ : Lam) (σ : Mem) (r : Nat → Nat) (P : Int → Mem → Prop) : Prop := Ct l D y_M_sweep wl_M_sweep rm_M_sweep [.ref (r 0)] Λ σ (pI Λ P)
abbrev N_M_sweep_0 (x : Cx) (P : Int → Mem → Prop) (Λ : Lam) (σ : Mem) (r : Nat → Nat) : Prop := AtG x (pI Λ P) 3 0 0 0 Λ σ [(0, .ref (r 0))] []
abbrev N_M_sweep_32 (x : Cx) (P : Int → Mem → Prop) (Λ : Lam) (σ : Mem) (r : Nat → Nat) (i2 : Int) : Prop := AtG x (pI Λ P) 3 32 0 0 Λ σ [(0, .ref (r 0)), (2, .int (iI i2))] []
theorem e_M_sweep {l : Launch} {D : va_G} {Λ : Lam} {σ : Mem} {r : Nat → Nat} {P : Int → Mem → Prop} (h : ∀ x : Cx, xl x = l → xD x = D → X_M_sweep x → N_M_sweep_0 x P Λ σ r) : K_M_sweep l D Λ σ r P := Ct.of (by decide) rfl (Nat.le_of_ble_eq_true rfl) h
set_option maxHeartbeats 4000000 in
set_option maxRecDepth 100000 in
theorem u_M_sweep_0 {x : Cx} (hx : X_M_sweep x) {P : Int → Mem → Prop} {Λ : Lam} {σ : Mem} {r : Nat → Nat} (hL : LayM Λ r) (T : rng (σ.1 411 (r 0)) ∧ (((σ.1 411 (r 0)) = 2 → K_M_next (xl x) (xD x) Λ σ r (σ.1 412 (r 0)) 0 (fun z2 σa2 => rng z2 ∧ ((0 ≤ z2 → 0 ≤ z2 ∧ z2 < (90 : Int) ∧ 0 ≤ z2 ∧ z2 < (90 : Int) ∧ 0 ≤ z2 ∧ z2 < (90 : Int) ∧ rng ((upI σa2 412 (r 0) (((σa2.2.1 6 (r 6) z2.toNat) + 1) + (σa2.2.1 3 (r 3) z2.toNat))).2.1 51 (r 51) z2.toNat) ∧ ((((upI σa2 412 (r 0) (((σa2.2.1 6 (r 6) z2.toNat) + 1) + (σa2.2.1 3 (r 3) z2.toNat))).2.1 51 (r 51) z2.toNat) = 0 → K_M_remove (xl x) (xD x) Λ (upI σa2 412 (r 0) (((σa2.2.1 6 (r 6) z2.toNat) + 1) + (σa2.2.1 3 (r 3) z2.toNat))) r z2 (fun σa11 => 0 ≤ z2 ∧ z2 < (90 : Int) ∧ P (σa11.2.1 6 (r 6) z2.toNat) σa11)) ∧ (¬ ((upI σa2 412 (r 0) (((σa2.2.1 6 (r 6) z2.toNat) + 1) + (σa2.2.1 3 (r 3) z2.toNat))).2.1 51 (r 51) z2.toNat) = 0 → 0 ≤ z2 ∧ z2 < (90 : Int) ∧ P (64 + ((upI σa2 412 (r 0) (((σa2.2.1 6 (r 6) z2.toNat) + 1) + (σa2.2.1 3 (r 3) z2.toNat))).2.1 6 (r 6) z2.toNat)) (upI σa2 412 (r 0) (((σa2.2.1 6 (r 6) z2.toNat) + 1) + (σa2.2.1 3 (r 3) z2.toNat)))))) ∧ (¬ 0 ≤ z2 → N_M_sweep_32 x P Λ (upI σa2 411 (r 0) 0) r 0)))) ∧ (¬ (σ.1 411 (r 0)) = 2 → P (-6) σ))) : N_M_sweep_0 x P Λ σ r := by
  obtain ⟨hex, hb, hml, hown, hts, hr, hlk, hR, hnm, hAs, hNW⟩ := hx
  obtain ⟨hLM, hLA⟩ := hL
  refine ⟨(), fun hK hA ls H locs hl hP hS => ?_⟩
  refine lv_aload_n hex hb d_M_sweep_0 rfl (lv_at hl 0 rfl) ?_
  refine r_getI (ci := 4) (C := R_M) (T := F_M) (N := 22) hex hb hts (fun w h => List.mem_cons_of_mem _ (in_M w h)) hown hK hP hLM rfl 11 (by decide) (hts _ (List.mem_cons_of_mem _ bg_402)) (fun _ h9 => h9) rfl d_M_sweep_1 ?_
  refine lv_iconst (v := iI 2) hex hb d_M_sweep_4 rfl ?_
  obtain ⟨h1, T⟩ := T
  obtain ⟨T1, T2⟩ := T
  refine r_icmp_eq (a := σ.1 411 (r 0)) (b := 2) (tgt := 11) hex hb h1 ⟨by omega, by omega⟩ d_M_sweep_5 rfl (fun hc => ?_) (fun hc => ?_)
  · have T := T1 hc
    refine lv_aload_n hex hb d_M_sweep_11 rfl (lv_at hl 0 rfl) ?_
    refine lv_aload_n hex hb d_M_sweep_12 rfl (lv_at hl 0 rfl) ?_
    refine r_getI (ci := 4) (C := R_M) (T := F_M) (N := 22) hex hb hts (fun w h => List.mem_cons_of_mem _ (in_M w h)) hown hK hP hLM rfl 12 (by decide) (hts _ (List.mem_cons_of_mem _ bg_403)) (fun _ h9 => h9) rfl d_M_sweep_13 ?_
    refine lv_iconst (v := iI 0) hex hb d_M_sweep_16 rfl ?_
    refine r_call (va_runV (As := [.int (iI (σ.1 412 (r 0))), .int (iI 0)]) (rest := []) ⟨hex, hb, hml, hown, hts⟩ (Ct.use T H.size) (cwV 2 hts (gdV bg_579 bg_581 bp_34 bg_4 bc_M_next) rfl rfl rfl hdV_M_next ⟨by rw [hR]; exact Nat.le_of_ble_eq_true rfl, by rw [hR]; exact Nat.le_of_ble_eq_true rfl⟩) (px_preV (ci := 4) hNW hK hP hLM rfl) rfl rfl hl.1 rfl (lv_room (Nat.le_of_ble_eq_true rfl)) d_M_sweep_17 ⟨by rw [hR]; exact Nat.le_of_ble_eq_true rfl, by rw [hR]; exact Nat.le_of_ble_eq_true rfl⟩) hS hA hAs (fun v Λ1 σ1 H locs hp hP hK hA hS => ?_)
    obtain ⟨z2, rfl, rfl, T⟩ := hp
    generalize σ1 = σa2 at hP T
    refine W.eq (g2 := F0 (xm x) 20 ls [.int (iI z2)]) rfl ?_
    refine lv_istore_n (lv' := [(1, .int (iI z2)), (0, .ref (r 0))]) hex hb d_M_sweep_20 rfl hl (Nat.le_of_ble_eq_true rfl) rfl (fun ls hl => ?_)
    refine lv_iload_n hex hb d_M_sweep_21 rfl (lv_at hl 0 rfl) ?_
    obtain ⟨h3, T⟩ := T
    obtain ⟨T1, T2⟩ := T
    refine r_if_ge (a := z2) (tgt := 55) hex hb h3 d_M_sweep_22 rfl (fun hc => ?_) (fun hc => ?_)
    · have T := T1 hc
      refine lv_aload_n hex hb d_M_sweep_55 rfl (lv_at hl 1 rfl) ?_
      refine lv_aload_n hex hb d_M_sweep_56 rfl (lv_at hl 1 rfl) ?_
      refine r_getR (ci := 4) (C := R_M) (T := F_M) (N := 22) hex hb hts (fun w h => List.mem_cons_of_mem _ (in_M w h)) hown hK hP hLM rfl 5 (by decide) (hts _ (List.mem_cons_of_mem _ bg_396)) (fun _ h9 => h9) rfl d_M_sweep_57 ?_
      refine lv_iload_n hex hb d_M_sweep_60 rfl (lv_at hl 0 rfl) ?_
      obtain ⟨h4, T⟩ := T
      obtain ⟨h5, T⟩ := T
      refine r_iald hex hb hK hP (hLA 6 90 (by decide)).choose_spec (by decide) (by decide) h4 h5 d_M_sweep_61 ?_
      refine lv_iconst (v := iI 1) hex hb d_M_sweep_62 rfl ?_
      refine r_iadd hex hb d_M_sweep_63 ?_
      refine lv_aload_n hex hb d_M_sweep_64 rfl (lv_at hl 1 rfl) ?_
      refine r_getR (ci := 4) (C := R_M) (T := F_M) (N := 22) hex hb hts (fun w h => List.mem_cons_of_mem _ (in_M w h)) hown hK hP hLM rfl 2 (by decide) (hts _ (List.mem_cons_of_mem _ bg_393)) (fun _ h9 => h9) rfl d_M_sweep_65 ?_
      refine lv_iload_n hex hb d_M_sweep_68 rfl (lv_at hl 0 rfl) ?_
      obtain ⟨h6, T⟩ := T
      obtain ⟨h7, T⟩ := T
      refine r_iald hex hb hK hP (hLA 3 90 (by decide)).choose_spec (by decide) (by decide) h6 h7 d_M_sweep_69 ?_
      refine r_iadd hex hb d_M_sweep_70 ?_
      refine r_putI (ci := 4) (C := R_M) (T := F_M) (N := 22) (v := ((σa2.2.1 6 (r 6) z2.toNat) + 1) + (σa2.2.1 3 (r 3) z2.toNat)) (ty := .int) hex hb hts (fun w h => List.mem_cons_of_mem _ (in_M w h)) tq_M tq_M_ok n_M hown hK hP hA hS hLM rfl 12 (by decide) (hts _ (List.mem_cons_of_mem _ bg_403)) (fun _ h9 => h9) rfl (by decide +kernel) rfl rfl rfl d_M_sweep_71 (fun H locs hP hS => ?_)
      refine lv_aload_n hex hb d_M_sweep_74 rfl (lv_at hl 1 rfl) ?_
      refine r_getR (ci := 4) (C := R_M) (T := F_M) (N := 22) hex hb hts (fun w h => List.mem_cons_of_mem _ (in_M w h)) hown hK hP hLM rfl 6 (by decide) (hts _ (List.mem_cons_of_mem _ bg_397)) (fun _ h9 => h9) rfl d_M_sweep_75 ?_
      refine lv_iload_n hex hb d_M_sweep_78 rfl (lv_at hl 0 rfl) ?_
      obtain ⟨h8, T⟩ := T
      obtain ⟨h9, T⟩ := T
      refine r_zald hex hb hK hP (hLA 51 90 (by decide)).choose_spec (by decide) (by decide) (by decide) h8 h9 d_M_sweep_79 ?_
      obtain ⟨h10, T⟩ := T
      obtain ⟨T1, T2⟩ := T
      refine r_if_eq (a := (upI σa2 412 (r 0) (((σa2.2.1 6 (r 6) z2.toNat) + 1) + (σa2.2.1 3 (r 3) z2.toNat))).2.1 51 (r 51) z2.toNat) (tgt := 93) hex hb h10 d_M_sweep_80 rfl (fun hc => ?_) (fun hc => ?_)
      · have T := T1 hc
        refine lv_aload_n hex hb d_M_sweep_93 rfl (lv_at hl 1 rfl) ?_
        refine lv_iload_n hex hb d_M_sweep_94 rfl (lv_at hl 0 rfl) ?_
        refine r_call (va_runV (As := [.int (iI z2)]) (rest := []) ⟨hex, hb, hml, hown, hts⟩ (Ct.use T H.size) (cwV 1 hts (gdV bg_476 bg_478 bp_21 bg_4 bc_M_remove) rfl rfl rfl hdV_M_remove ⟨by rw [hR]; exact Nat.le_of_ble_eq_true rfl, by rw [hR]; exact Nat.le_of_ble_eq_true rfl⟩) (px_preV (ci := 4) hNW hK hP hLM rfl) rfl rfl hl.1 rfl (lv_room (Nat.le_of_ble_eq_true rfl)) d_M_sweep_95 ⟨by rw [hR]; exact Nat.le_of_ble_eq_true rfl, by rw [hR]; exact Nat.le_of_ble_eq_true rfl⟩) hS hA hAs (fun v Λ1 σ1 H locs hp hP hK hA hS => ?_)
        obtain ⟨rfl, rfl, T⟩ := hp
        generalize σ1 = σa11 at hP T
        refine W.eq (g2 := F0 (xm x) 98 ls []) rfl ?_
        refine lv_aload_n hex hb d_M_sweep_98 rfl (lv_at hl 1 rfl) ?_
        refine r_getR (ci := 4) (C := R_M) (T := F_M) (N := 22) hex hb hts (fun w h => List.mem_cons_of_mem _ (in_M w h)) hown hK hP hLM rfl 5 (by decide) (hts _ (List.mem_cons_of_mem _ bg_396)) (fun _ h9 => h9) rfl d_M_sweep_99 ?_
        refine lv_iload_n hex hb d_M_sweep_102 rfl (lv_at hl 0 rfl) ?_
        obtain ⟨h12, T⟩ := T
        obtain ⟨h13, T⟩ := T
        refine r_iald hex hb hK hP (hLA 6 90 (by decide)).choose_spec (by decide) (by decide) h12 h13 d_M_sweep_103 ?_
        exact r_iret hex hb hr hlk hK hA hP hS ⟨_, rfl, rfl, T⟩ (Nat.zero_le _) (Nat.zero_le _) d_M_sweep_104
      · have T := T2 hc
        refine lv_bipush (v := iI 64) hex hb d_M_sweep_83 rfl ?_
        refine lv_aload_n hex hb d_M_sweep_85 rfl (lv_at hl 1 rfl) ?_
        refine r_getR (ci := 4) (C := R_M) (T := F_M) (N := 22) hex hb hts (fun w h => List.mem_cons_of_mem _ (in_M w h)) hown hK hP hLM rfl 5 (by decide) (hts _ (List.mem_cons_of_mem _ bg_396)) (fun _ h9 => h9) rfl d_M_sweep_86 ?_
        refine lv_iload_n hex hb d_M_sweep_89 rfl (lv_at hl 0 rfl) ?_
        obtain ⟨h14, T⟩ := T
        obtain ⟨h15, T⟩ := T
        refine r_iald hex hb hK hP (hLA 6 90 (by decide)).choose_spec (by decide) (by decide) h14 h15 d_M_sweep_90 ?_
        refine r_iadd hex hb d_M_sweep_91 ?_
        exact r_iret hex hb hr hlk hK hA hP hS ⟨_, rfl, rfl, T⟩ (Nat.zero_le _) (Nat.zero_le _) d_M_sweep_92
    · have T := T2 hc
      refine lv_aload_n hex hb d_M_sweep_25 rfl (lv_at hl 1 rfl) ?_
      refine lv_iconst (v := iI 0) hex hb d_M_sweep_26 rfl ?_
      refine r_putI (ci := 4) (C := R_M) (T := F_M) (N := 22) (v := 0) (ty := .int) hex hb hts (fun w h => List.mem_cons_of_mem _ (in_M w h)) tq_M tq_M_ok n_M hown hK hP hA hS hLM rfl 11 (by decide) (hts _ (List.mem_cons_of_mem _ bg_402)) (fun _ h9 => h9) rfl (by decide +kernel) rfl rfl rfl d_M_sweep_27 (fun H locs hP hS => ?_)
      refine lv_iconst (v := iI 0) hex hb d_M_sweep_30 rfl ?_
      refine lv_istore_n (lv' := [(2, .int (iI 0)), (1, .int (iI z2)), (0, .ref (r 0))]) hex hb d_M_sweep_31 rfl hl (Nat.le_of_ble_eq_true rfl) rfl (fun ls hl => ?_)
      exact AtG.use T hK hA _ _ _ (lv_sub hl [2, 0] rfl) hP hS
  · have T := T2 hc
    refine lv_bipush (v := iI (-6)) hex hb d_M_sweep_8 rfl ?_
    exact r_iret hex hb hr hlk hK hA hP hS ⟨_, rfl, rfl, T⟩ (Nat.zero_le _) (Nat.zero_le _) d_M_sweep_10
set_option maxHeartbeats 4000000 in
set_option maxRecDepth 100000 in
theorem u_M_sweep_32 {x : Cx} (hx : X_M_sweep x) {P : Int → Mem → Prop} {Λ : Lam} {σ : Mem} {r : Nat → Nat} {i2 : Int} (hL : LayM Λ r) (T : rng i2 ∧ ((90 ≤ i2 → P 128 σ) ∧ (¬ 90 ≤ i2 → 0 ≤ i2 ∧ i2 < (90 : Int) ∧ N_M_sweep_32 x P Λ (upY σ 51 (r 51) i2.toNat 0) r (i2 + 1)))) : N_M_sweep_32 x P Λ σ r i2 := by
  obtain ⟨hex, hb, hml, hown, hts, hr, hlk, hR, hnm, hAs, hNW⟩ := hx
  obtain ⟨hLM, hLA⟩ := hL
  refine ⟨(), fun hK hA ls H locs hl hP hS => ?_⟩
  refine lv_iload_n hex hb d_M_sweep_32 rfl (lv_at hl 1 rfl) ?_
  refine lv_bipush (v := iI 90) hex hb d_M_sweep_33 rfl ?_
  obtain ⟨h1, T⟩ := T
  obtain ⟨T1, T2⟩ := T
  refine r_icmp_ge (a := i2) (b := 90) (tgt := 51) hex hb h1 ⟨by omega, by omega⟩ d_M_sweep_35 rfl (fun hc => ?_) (fun hc => ?_)
  · have T := T1 hc
    refine lv_sipush (v := iI 128) hex hb d_M_sweep_51 rfl ?_
    exact r_iret hex hb hr hlk hK hA hP hS ⟨_, rfl, rfl, T⟩ (Nat.zero_le _) (Nat.zero_le _) d_M_sweep_54
  · have T := T2 hc
    refine lv_aload_n hex hb d_M_sweep_38 rfl (lv_at hl 0 rfl) ?_
    refine r_getR (ci := 4) (C := R_M) (T := F_M) (N := 22) hex hb hts (fun w h => List.mem_cons_of_mem _ (in_M w h)) hown hK hP hLM rfl 6 (by decide) (hts _ (List.mem_cons_of_mem _ bg_397)) (fun _ h9 => h9) rfl d_M_sweep_39 ?_
    refine lv_iload_n hex hb d_M_sweep_42 rfl (lv_at hl 1 rfl) ?_
    refine lv_iconst (v := iI 0) hex hb d_M_sweep_43 rfl ?_
    obtain ⟨h2, T⟩ := T
    obtain ⟨h3, T⟩ := T
    refine r_zast (v := 0) hex hb hK hP hA hS (hLA 51 90 (by decide)).choose_spec (by decide) (by decide) (by decide) h2 h3 (by decide) d_M_sweep_44 (fun H locs hP hS => ?_)
    refine lv_iinc (v := iI (i2 + 1)) (lv' := [(2, .int (iI (i2 + 1))), (0, .ref (r 0))]) hex hb d_M_sweep_45 hl (k := 1) rfl (iI_add _ _) (Nat.le_of_ble_eq_true rfl) rfl (fun ls hl => ?_)
    refine lv_goto (tgt := 32) hex hb d_M_sweep_48 rfl ?_
    exact AtG.use T hK hA _ _ _ (lv_sub hl [1, 0] rfl) hP hS
-- DirtyCardHeapModel.phase()I
def rm_M_phase : Room := { frames := 0, cells := 0, slots := 0, locals := 0 }
abbrev X_M_phase (x : Cx) : Prop := CxOk x b_M_phase 1 wl_M_phase R_M (some .int) rm_M_phase "phase"
abbrev K_M_phase (l : Launch) (D : va_G) (Λ : Lam) (σ : Mem) (r : Nat → Nat) (P : Int → Mem → Prop) : Prop := Ct l D y_M_phase wl_M_phase rm_M_phase [.ref (r 0)] Λ σ (pI Λ P)
abbrev N_M_phase_0 (x : Cx) (P : Int → Mem → Prop) (Λ : Lam) (σ : Mem) (r : Nat → Nat) : Prop := AtG x (pI Λ P) 1 0 0 0 Λ σ [(0, .ref (r 0))] []
theorem e_M_phase {l : Launch} {D : va_G} {Λ : Lam} {σ : Mem} {r : Nat → Nat} {P : Int → Mem → Prop} (h : ∀ x : Cx, xl x = l → xD x = D → X_M_phase x → N_M_phase_0 x P Λ σ r) : K_M_phase l D Λ σ r P := Ct.of (by decide) rfl (Nat.le_of_ble_eq_true rfl) h
set_option maxHeartbeats 4000000 in
set_option maxRecDepth 100000 in
theorem u_M_phase_0 {x : Cx} (hx : X_M_phase x) {P : Int → Mem → Prop} {Λ : Lam} {σ : Mem} {r : Nat → Nat} (hL : LayM Λ r) (T : P (σ.1 411 (r 0)) σ) : N_M_phase_0 x P Λ σ r := by
  obtain ⟨hex, hb, hml, hown, hts, hr, hlk, hR, hnm, hAs, hNW⟩ := hx
  obtain ⟨hLM, hLA⟩ := hL
  refine ⟨(), fun hK hA ls H locs hl hP hS => ?_⟩
  refine lv_aload_n hex hb d_M_phase_0 rfl (lv_at hl 0 rfl) ?_
  refine r_getI (ci := 4) (C := R_M) (T := F_M) (N := 22) hex hb hts (fun w h => List.mem_cons_of_mem _ (in_M w h)) hown hK hP hLM rfl 11 (by decide) (hts _ (List.mem_cons_of_mem _ bg_402)) (fun _ h9 => h9) rfl d_M_phase_1 ?_
  exact r_iret hex hb hr hlk hK hA hP hS ⟨_, rfl, rfl, T⟩ (Nat.zero_le _) (Nat.zero_le _) d_M_phase_4
set_option maxRecDepth 100000 in
theorem w_M_phase {l : Launch} {D : va_G} {Λ : Lam} {σ : Mem} {r : Nat → Nat} {P : Int → Mem → Prop} (hL : LayM Λ r) (T : P (σ.1 411 (r 0)) σ) : K_M_phase l D Λ σ r P := e_M_phase (fun x hl hD hx => by subst hl; subst hD; exact u_M_phase_0 hx hL T)
-- DirtyCardHeapModel.cards()I
def rm_M_cards : Room := { frames := 0, cells := 0, slots := 0, locals := 0 }
abbrev X_M_cards (x : Cx) : Prop := CxOk x b_M_cards 3 wl_M_cards R_M (some .int) rm_M_cards "cards"
abbrev K_M_cards (l : Launch) (D : va_G) (Λ : Lam) (σ : Mem) (r : Nat → Nat) (P : Int → Mem → Prop) : Prop := Ct l D y_M_cards wl_M_cards rm_M_cards [.ref (r 0)] Λ σ (pI Λ P)
abbrev N_M_cards_0 (x : Cx) (P : Int → Mem → Prop) (Λ : Lam) (σ : Mem) (r : Nat → Nat) : Prop := AtG x (pI Λ P) 3 0 0 0 Λ σ [(0, .ref (r 0))] []
abbrev N_M_cards_4 (x : Cx) (P : Int → Mem → Prop) (Λ : Lam) (σ : Mem) (r : Nat → Nat) (i1 : Int) (i2 : Int) : Prop := AtG x (pI Λ P) 3 4 0 0 Λ σ [(0, .ref (r 0)), (1, .int (iI i1)), (2, .int (iI i2))] []
abbrev N_M_cards_27 (x : Cx) (P : Int → Mem → Prop) (Λ : Lam) (σ : Mem) (r : Nat → Nat) (i2 : Int) (s0 : Int) (s1 : Int) : Prop := AtG x (pI Λ P) 3 27 0 0 Λ σ [(0, .ref (r 0)), (2, .int (iI i2))] [.int (iI s1), .int (iI s0)]
theorem e_M_cards {l : Launch} {D : va_G} {Λ : Lam} {σ : Mem} {r : Nat → Nat} {P : Int → Mem → Prop} (h : ∀ x : Cx, xl x = l → xD x = D → X_M_cards x → N_M_cards_0 x P Λ σ r) : K_M_cards l D Λ σ r P := Ct.of (by decide) rfl (Nat.le_of_ble_eq_true rfl) h
set_option maxHeartbeats 4000000 in
set_option maxRecDepth 100000 in
theorem u_M_cards_0 {x : Cx} (hx : X_M_cards x) {P : Int → Mem → Prop} {Λ : Lam} {σ : Mem} {r : Nat → Nat} (hL : LayM Λ r) (T : N_M_cards_4 x P Λ σ r 0 0) : N_M_cards_0 x P Λ σ r := by
  obtain ⟨hex, hb, hml, hown, hts, hr, hlk, hR, hnm, hAs, hNW⟩ := hx
  obtain ⟨hLM, hLA⟩ := hL
  refine ⟨(), fun hK hA ls H locs hl hP hS => ?_⟩
  refine lv_iconst (v := iI 0) hex hb d_M_cards_0 rfl ?_
  refine lv_istore_n (lv' := [(1, .int (iI 0)), (0, .ref (r 0))]) hex hb d_M_cards_1 rfl hl (Nat.le_of_ble_eq_true rfl) rfl (fun ls hl => ?_)
  refine lv_iconst (v := iI 0) hex hb d_M_cards_2 rfl ?_
  refine lv_istore_n (lv' := [(2, .int (iI 0)), (1, .int (iI 0)), (0, .ref (r 0))]) hex hb d_M_cards_3 rfl hl (Nat.le_of_ble_eq_true rfl) rfl (fun ls hl => ?_)
  exact AtG.use T hK hA _ _ _ (lv_sub hl [2, 1, 0] rfl) hP hS
set_option maxHeartbeats 4000000 in
set_option maxRecDepth 100000 in
theorem u_M_cards_4 {x : Cx} (hx : X_M_cards x) {P : Int → Mem → Prop} {Λ : Lam} {σ : Mem} {r : Nat → Nat} {i1 : Int} {i2 : Int} (hL : LayM Λ r) (T : rng i2 ∧ ((8 ≤ i2 → P i1 σ) ∧ (¬ 8 ≤ i2 → 0 ≤ i2 ∧ i2 < (8 : Int) ∧ rng (σ.2.1 53 (r 53) i2.toNat) ∧ (((σ.2.1 53 (r 53) i2.toNat) = 0 → N_M_cards_27 x P Λ σ r i2 i1 0) ∧ (¬ (σ.2.1 53 (r 53) i2.toNat) = 0 → N_M_cards_27 x P Λ σ r i2 i1 (iShl 1 i2)))))) : N_M_cards_4 x P Λ σ r i1 i2 := by
  obtain ⟨hex, hb, hml, hown, hts, hr, hlk, hR, hnm, hAs, hNW⟩ := hx
  obtain ⟨hLM, hLA⟩ := hL
  refine ⟨(), fun hK hA ls H locs hl hP hS => ?_⟩
  refine lv_iload_n hex hb d_M_cards_4 rfl (lv_at hl 2 rfl) ?_
  refine lv_bipush (v := iI 8) hex hb d_M_cards_5 rfl ?_
  obtain ⟨h1, T⟩ := T
  obtain ⟨T1, T2⟩ := T
  refine r_icmp_ge (a := i2) (b := 8) (tgt := 54) hex hb h1 ⟨by omega, by omega⟩ d_M_cards_7 rfl (fun hc => ?_) (fun hc => ?_)
  · have T := T1 hc
    refine lv_iload_n hex hb d_M_cards_54 rfl (lv_at hl 1 rfl) ?_
    exact r_iret hex hb hr hlk hK hA hP hS ⟨_, rfl, rfl, T⟩ (Nat.zero_le _) (Nat.zero_le _) d_M_cards_55
  · have T := T2 hc
    refine lv_iload_n hex hb d_M_cards_10 rfl (lv_at hl 1 rfl) ?_
    refine lv_aload_n hex hb d_M_cards_11 rfl (lv_at hl 0 rfl) ?_
    refine r_getR (ci := 4) (C := R_M) (T := F_M) (N := 22) hex hb hts (fun w h => List.mem_cons_of_mem _ (in_M w h)) hown hK hP hLM rfl 9 (by decide) (hts _ (List.mem_cons_of_mem _ bg_400)) (fun _ h9 => h9) rfl d_M_cards_12 ?_
    refine lv_iload_n hex hb d_M_cards_15 rfl (lv_at hl 2 rfl) ?_
    obtain ⟨h2, T⟩ := T
    obtain ⟨h3, T⟩ := T
    refine r_zald hex hb hK hP (hLA 53 8 (by decide)).choose_spec (by decide) (by decide) (by decide) h2 h3 d_M_cards_16 ?_
    obtain ⟨h4, T⟩ := T
    obtain ⟨T1, T2⟩ := T
    refine r_if_eq (a := σ.2.1 53 (r 53) i2.toNat) (tgt := 26) hex hb h4 d_M_cards_17 rfl (fun hc => ?_) (fun hc => ?_)
    · have T := T1 hc
      refine lv_iconst (v := iI 0) hex hb d_M_cards_26 rfl ?_
      exact AtG.use T hK hA _ _ _ (lv_sub hl [0, 2] rfl) hP hS
    · have T := T2 hc
      refine lv_iconst (v := iI 1) hex hb d_M_cards_20 rfl ?_
      refine lv_iload_n hex hb d_M_cards_21 rfl (lv_at hl 2 rfl) ?_
      refine r_ishl hex hb d_M_cards_22 ?_
      refine lv_goto (tgt := 27) hex hb d_M_cards_23 rfl ?_
      exact AtG.use T hK hA _ _ _ (lv_sub hl [0, 2] rfl) hP hS
set_option maxHeartbeats 4000000 in
set_option maxRecDepth 100000 in
theorem u_M_cards_27 {x : Cx} (hx : X_M_cards x) {P : Int → Mem → Prop} {Λ : Lam} {σ : Mem} {r : Nat → Nat} {i2 : Int} {s0 : Int} {s1 : Int} (hL : LayM Λ r) (T : 0 ≤ i2 ∧ i2 < (8 : Int) ∧ rng (σ.2.1 54 (r 54) i2.toNat) ∧ (((σ.2.1 54 (r 54) i2.toNat) = 0 → N_M_cards_4 x P Λ σ r ((s0 + s1) + 0) (i2 + 1)) ∧ (¬ (σ.2.1 54 (r 54) i2.toNat) = 0 → N_M_cards_4 x P Λ σ r ((s0 + s1) + (iShl 256 i2)) (i2 + 1)))) : N_M_cards_27 x P Λ σ r i2 s0 s1 := by
  obtain ⟨hex, hb, hml, hown, hts, hr, hlk, hR, hnm, hAs, hNW⟩ := hx
  obtain ⟨hLM, hLA⟩ := hL
  refine ⟨(), fun hK hA ls H locs hl hP hS => ?_⟩
  refine r_iadd hex hb d_M_cards_27 ?_
  refine lv_aload_n hex hb d_M_cards_28 rfl (lv_at hl 0 rfl) ?_
  refine r_getR (ci := 4) (C := R_M) (T := F_M) (N := 22) hex hb hts (fun w h => List.mem_cons_of_mem _ (in_M w h)) hown hK hP hLM rfl 10 (by decide) (hts _ (List.mem_cons_of_mem _ bg_401)) (fun _ h9 => h9) rfl d_M_cards_29 ?_
  refine lv_iload_n hex hb d_M_cards_32 rfl (lv_at hl 1 rfl) ?_
  obtain ⟨h1, T⟩ := T
  obtain ⟨h2, T⟩ := T
  refine r_zald hex hb hK hP (hLA 54 8 (by decide)).choose_spec (by decide) (by decide) (by decide) h1 h2 d_M_cards_33 ?_
  obtain ⟨h3, T⟩ := T
  obtain ⟨T1, T2⟩ := T
  refine r_if_eq (a := σ.2.1 54 (r 54) i2.toNat) (tgt := 45) hex hb h3 d_M_cards_34 rfl (fun hc => ?_) (fun hc => ?_)
  · have T := T1 hc
    refine lv_iconst (v := iI 0) hex hb d_M_cards_45 rfl ?_
    refine r_iadd hex hb d_M_cards_46 ?_
    refine lv_istore_n (lv' := [(1, .int (iI ((s0 + s1) + 0))), (0, .ref (r 0)), (2, .int (iI i2))]) hex hb d_M_cards_47 rfl hl (Nat.le_of_ble_eq_true rfl) rfl (fun ls hl => ?_)
    refine lv_iinc (v := iI (i2 + 1)) (lv' := [(2, .int (iI (i2 + 1))), (1, .int (iI ((s0 + s1) + 0))), (0, .ref (r 0))]) hex hb d_M_cards_48 hl (k := 2) rfl (iI_add _ _) (Nat.le_of_ble_eq_true rfl) rfl (fun ls hl => ?_)
    refine lv_goto (tgt := 4) hex hb d_M_cards_51 rfl ?_
    exact AtG.use T hK hA _ _ _ (lv_sub hl [2, 1, 0] rfl) hP hS
  · have T := T2 hc
    refine lv_sipush (v := iI 256) hex hb d_M_cards_37 rfl ?_
    refine lv_iload_n hex hb d_M_cards_40 rfl (lv_at hl 1 rfl) ?_
    refine r_ishl hex hb d_M_cards_41 ?_
    refine lv_goto (tgt := 46) hex hb d_M_cards_42 rfl ?_
    refine r_iadd hex hb d_M_cards_46 ?_
    refine lv_istore_n (lv' := [(1, .int (iI ((s0 + s1) + (iShl 256 i2)))), (0, .ref (r 0)), (2, .int (iI i2))]) hex hb d_M_cards_47 rfl hl (Nat.le_of_ble_eq_true rfl) rfl (fun ls hl => ?_)
    refine lv_iinc (v := iI (i2 + 1)) (lv' := [(2, .int (iI (i2 + 1))), (1, .int (iI ((s0 + s1) + (iShl 256 i2)))), (0, .ref (r 0))]) hex hb d_M_cards_48 hl (k := 2) rfl (iI_add _ _) (Nat.le_of_ble_eq_true rfl) rfl (fun ls hl => ?_)
    refine lv_goto (tgt := 4) hex hb d_M_cards_51 rfl ?_
    exact AtG.use T hK hA _ _ _ (lv_sub hl [2, 1, 0] rfl) hP hS
-- DirtyCardHeapModel.marked()I
def rm_M_marked : Room := { frames := 0, cells := 0, slots := 0, locals := 0 }
abbrev X_M_marked (x : Cx) : Prop := CxOk x b_M_marked 3 wl_M_marked R_M (some .int) rm_M_marked "marked"
abbrev K_M_marked (l : Launch) (D : va_G) (Λ : Lam) (σ : Mem) (r : Nat → Nat) (P : Int → Mem → Prop) : Prop := Ct l D y_M_marked wl_M_marked rm_M_marked [.ref (r 0)] Λ σ (pI Λ P)
abbrev N_M_marked_0 (x : Cx) (P : Int → Mem → Prop) (Λ : Lam) (σ : Mem) (r : Nat → Nat) : Prop := AtG x (pI Λ P) 3 0 0 0 Λ σ [(0, .ref (r 0))] []
abbrev N_M_marked_4 (x : Cx) (P : Int → Mem → Prop) (Λ : Lam) (σ : Mem) (r : Nat → Nat) (i1 : Int) (i2 : Int) : Prop := AtG x (pI Λ P) 3 4 0 0 Λ σ [(0, .ref (r 0)), (1, .int (iI i1)), (2, .int (iI i2))] []
abbrev N_M_marked_25 (x : Cx) (P : Int → Mem → Prop) (Λ : Lam) (σ : Mem) (r : Nat → Nat) (i2 : Int) (s0 : Int) (s1 : Int) : Prop := AtG x (pI Λ P) 3 25 0 0 Λ σ [(0, .ref (r 0)), (2, .int (iI i2))] [.int (iI s1), .int (iI s0)]
theorem e_M_marked {l : Launch} {D : va_G} {Λ : Lam} {σ : Mem} {r : Nat → Nat} {P : Int → Mem → Prop} (h : ∀ x : Cx, xl x = l → xD x = D → X_M_marked x → N_M_marked_0 x P Λ σ r) : K_M_marked l D Λ σ r P := Ct.of (by decide) rfl (Nat.le_of_ble_eq_true rfl) h
set_option maxHeartbeats 4000000 in
set_option maxRecDepth 100000 in
theorem u_M_marked_0 {x : Cx} (hx : X_M_marked x) {P : Int → Mem → Prop} {Λ : Lam} {σ : Mem} {r : Nat → Nat} (hL : LayM Λ r) (T : N_M_marked_4 x P Λ σ r 0 0) : N_M_marked_0 x P Λ σ r := by
  obtain ⟨hex, hb, hml, hown, hts, hr, hlk, hR, hnm, hAs, hNW⟩ := hx
  obtain ⟨hLM, hLA⟩ := hL
  refine ⟨(), fun hK hA ls H locs hl hP hS => ?_⟩
  refine lv_iconst (v := iI 0) hex hb d_M_marked_0 rfl ?_
  refine lv_istore_n (lv' := [(1, .int (iI 0)), (0, .ref (r 0))]) hex hb d_M_marked_1 rfl hl (Nat.le_of_ble_eq_true rfl) rfl (fun ls hl => ?_)
  refine lv_iconst (v := iI 0) hex hb d_M_marked_2 rfl ?_
  refine lv_istore_n (lv' := [(2, .int (iI 0)), (1, .int (iI 0)), (0, .ref (r 0))]) hex hb d_M_marked_3 rfl hl (Nat.le_of_ble_eq_true rfl) rfl (fun ls hl => ?_)
  exact AtG.use T hK hA _ _ _ (lv_sub hl [2, 1, 0] rfl) hP hS
set_option maxHeartbeats 4000000 in
set_option maxRecDepth 100000 in
theorem u_M_marked_4 {x : Cx} (hx : X_M_marked x) {P : Int → Mem → Prop} {Λ : Lam} {σ : Mem} {r : Nat → Nat} {i1 : Int} {i2 : Int} (hL : LayM Λ r) (T : rng i2 ∧ ((90 ≤ i2 → P i1 σ) ∧ (¬ 90 ≤ i2 → 0 ≤ i2 ∧ i2 < (90 : Int) ∧ rng (σ.2.1 51 (r 51) i2.toNat) ∧ (((σ.2.1 51 (r 51) i2.toNat) = 0 → N_M_marked_25 x P Λ σ r i2 i1 0) ∧ (¬ (σ.2.1 51 (r 51) i2.toNat) = 0 → N_M_marked_25 x P Λ σ r i2 i1 1))))) : N_M_marked_4 x P Λ σ r i1 i2 := by
  obtain ⟨hex, hb, hml, hown, hts, hr, hlk, hR, hnm, hAs, hNW⟩ := hx
  obtain ⟨hLM, hLA⟩ := hL
  refine ⟨(), fun hK hA ls H locs hl hP hS => ?_⟩
  refine lv_iload_n hex hb d_M_marked_4 rfl (lv_at hl 2 rfl) ?_
  refine lv_bipush (v := iI 90) hex hb d_M_marked_5 rfl ?_
  obtain ⟨h1, T⟩ := T
  obtain ⟨T1, T2⟩ := T
  refine r_icmp_ge (a := i2) (b := 90) (tgt := 50) hex hb h1 ⟨by omega, by omega⟩ d_M_marked_7 rfl (fun hc => ?_) (fun hc => ?_)
  · have T := T1 hc
    refine lv_iload_n hex hb d_M_marked_50 rfl (lv_at hl 1 rfl) ?_
    exact r_iret hex hb hr hlk hK hA hP hS ⟨_, rfl, rfl, T⟩ (Nat.zero_le _) (Nat.zero_le _) d_M_marked_51
  · have T := T2 hc
    refine lv_iload_n hex hb d_M_marked_10 rfl (lv_at hl 1 rfl) ?_
    refine lv_aload_n hex hb d_M_marked_11 rfl (lv_at hl 0 rfl) ?_
    refine r_getR (ci := 4) (C := R_M) (T := F_M) (N := 22) hex hb hts (fun w h => List.mem_cons_of_mem _ (in_M w h)) hown hK hP hLM rfl 6 (by decide) (hts _ (List.mem_cons_of_mem _ bg_397)) (fun _ h9 => h9) rfl d_M_marked_12 ?_
    refine lv_iload_n hex hb d_M_marked_15 rfl (lv_at hl 2 rfl) ?_
    obtain ⟨h2, T⟩ := T
    obtain ⟨h3, T⟩ := T
    refine r_zald hex hb hK hP (hLA 51 90 (by decide)).choose_spec (by decide) (by decide) (by decide) h2 h3 d_M_marked_16 ?_
    obtain ⟨h4, T⟩ := T
    obtain ⟨T1, T2⟩ := T
    refine r_if_eq (a := σ.2.1 51 (r 51) i2.toNat) (tgt := 24) hex hb h4 d_M_marked_17 rfl (fun hc => ?_) (fun hc => ?_)
    · have T := T1 hc
      refine lv_iconst (v := iI 0) hex hb d_M_marked_24 rfl ?_
      exact AtG.use T hK hA _ _ _ (lv_sub hl [0, 2] rfl) hP hS
    · have T := T2 hc
      refine lv_iconst (v := iI 1) hex hb d_M_marked_20 rfl ?_
      refine lv_goto (tgt := 25) hex hb d_M_marked_21 rfl ?_
      exact AtG.use T hK hA _ _ _ (lv_sub hl [0, 2] rfl) hP hS
set_option maxHeartbeats 4000000 in
set_option maxRecDepth 100000 in
theorem u_M_marked_25 {x : Cx} (hx : X_M_marked x) {P : Int → Mem → Prop} {Λ : Lam} {σ : Mem} {r : Nat → Nat} {i2 : Int} {s0 : Int} {s1 : Int} (hL : LayM Λ r) (T : 0 ≤ i2 ∧ i2 < (90 : Int) ∧ rng (σ.2.1 52 (r 52) i2.toNat) ∧ (((σ.2.1 52 (r 52) i2.toNat) = 0 → N_M_marked_4 x P Λ σ r ((s0 + s1) + 0) (i2 + 1)) ∧ (¬ (σ.2.1 52 (r 52) i2.toNat) = 0 → N_M_marked_4 x P Λ σ r ((s0 + s1) + 1000) (i2 + 1)))) : N_M_marked_25 x P Λ σ r i2 s0 s1 := by
  obtain ⟨hex, hb, hml, hown, hts, hr, hlk, hR, hnm, hAs, hNW⟩ := hx
  obtain ⟨hLM, hLA⟩ := hL
  refine ⟨(), fun hK hA ls H locs hl hP hS => ?_⟩
  refine r_iadd hex hb d_M_marked_25 ?_
  refine lv_aload_n hex hb d_M_marked_26 rfl (lv_at hl 0 rfl) ?_
  refine r_getR (ci := 4) (C := R_M) (T := F_M) (N := 22) hex hb hts (fun w h => List.mem_cons_of_mem _ (in_M w h)) hown hK hP hLM rfl 7 (by decide) (hts _ (List.mem_cons_of_mem _ bg_398)) (fun _ h9 => h9) rfl d_M_marked_27 ?_
  refine lv_iload_n hex hb d_M_marked_30 rfl (lv_at hl 1 rfl) ?_
  obtain ⟨h1, T⟩ := T
  obtain ⟨h2, T⟩ := T
  refine r_zald hex hb hK hP (hLA 52 90 (by decide)).choose_spec (by decide) (by decide) (by decide) h1 h2 d_M_marked_31 ?_
  obtain ⟨h3, T⟩ := T
  obtain ⟨T1, T2⟩ := T
  refine r_if_eq (a := σ.2.1 52 (r 52) i2.toNat) (tgt := 41) hex hb h3 d_M_marked_32 rfl (fun hc => ?_) (fun hc => ?_)
  · have T := T1 hc
    refine lv_iconst (v := iI 0) hex hb d_M_marked_41 rfl ?_
    refine r_iadd hex hb d_M_marked_42 ?_
    refine lv_istore_n (lv' := [(1, .int (iI ((s0 + s1) + 0))), (0, .ref (r 0)), (2, .int (iI i2))]) hex hb d_M_marked_43 rfl hl (Nat.le_of_ble_eq_true rfl) rfl (fun ls hl => ?_)
    refine lv_iinc (v := iI (i2 + 1)) (lv' := [(2, .int (iI (i2 + 1))), (1, .int (iI ((s0 + s1) + 0))), (0, .ref (r 0))]) hex hb d_M_marked_44 hl (k := 2) rfl (iI_add _ _) (Nat.le_of_ble_eq_true rfl) rfl (fun ls hl => ?_)
    refine lv_goto (tgt := 4) hex hb d_M_marked_47 rfl ?_
    exact AtG.use T hK hA _ _ _ (lv_sub hl [2, 1, 0] rfl) hP hS
  · have T := T2 hc
    refine lv_sipush (v := iI 1000) hex hb d_M_marked_35 rfl ?_
    refine lv_goto (tgt := 42) hex hb d_M_marked_38 rfl ?_
    refine r_iadd hex hb d_M_marked_42 ?_
    refine lv_istore_n (lv' := [(1, .int (iI ((s0 + s1) + 1000))), (0, .ref (r 0)), (2, .int (iI i2))]) hex hb d_M_marked_43 rfl hl (Nat.le_of_ble_eq_true rfl) rfl (fun ls hl => ?_)
    refine lv_iinc (v := iI (i2 + 1)) (lv' := [(2, .int (iI (i2 + 1))), (1, .int (iI ((s0 + s1) + 1000))), (0, .ref (r 0))]) hex hb d_M_marked_44 hl (k := 2) rfl (iI_add _ _) (Nat.le_of_ble_eq_true rfl) rfl (fun ls hl => ?_)
    refine lv_goto (tgt := 4) hex hb d_M_marked_47 rfl ?_
    exact AtG.use T hK hA _ _ _ (lv_sub hl [2, 1, 0] rfl) hP hS
