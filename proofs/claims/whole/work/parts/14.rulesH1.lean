-- DirtyCardHeap.thingOf(I)LDirtyCardHeap$Thing;
def rm_H_thingOf : Room := { frames := 1, cells := 0, slots := 0, locals := 20 }
abbrev X_H_thingOf (x : Cx) : Prop := CxOk x b_H_thingOf 2 wl_H_thingOf R_H (some (.object "DirtyCardHeap$Thing")) rm_H_thingOf "thingOf"
abbrev K_H_thingOf (l : Launch) (D : va_G) (Λ : Lam) (σ : Mem) (c : Nat → Nat) (a1 : Int) (P : Option Nat → Mem → Prop) : Prop := Ct l D y_H_thingOf wl_H_thingOf rm_H_thingOf [.ref (c 0), .int (iI a1)] Λ σ (pQ Λ P)
abbrev N_H_thingOf_0 (x : Cx) (P : Option Nat → Mem → Prop) (Λ : Lam) (σ : Mem) (c : Nat → Nat) (a1 : Int) : Prop := AtG x (pQ Λ P) 2 0 0 0 Λ σ [(0, .ref (c 0)), (1, .int (iI a1))] []
theorem e_H_thingOf {l : Launch} {D : va_G} {Λ : Lam} {σ : Mem} {c : Nat → Nat} {a1 : Int} {P : Option Nat → Mem → Prop} (h : ∀ x : Cx, xl x = l → xD x = D → X_H_thingOf x → N_H_thingOf_0 x P Λ σ c a1) : K_H_thingOf l D Λ σ c a1 P := Ct.of (by decide) rfl (Nat.le_of_ble_eq_true rfl) h
set_option maxHeartbeats 4000000 in
set_option maxRecDepth 100000 in
theorem u_H_thingOf_0 {x : Cx} (hx : X_H_thingOf x) {P : Option Nat → Mem → Prop} {Λ : Lam} {σ : Mem} {c : Nat → Nat} {a1 : Int} (hL : LayC Λ c) (T : K_H_isRoot (xl x) (xD x) Λ σ a1 (fun z1 σa1 => rng z1 ∧ ((z1 = 0 → P none σa1) ∧ (¬ z1 = 0 → 0 ≤ a1 ∧ a1 < (6 : Int) ∧ P (σa1.2.2 100 (c 1) a1.toNat) σa1)))) : N_H_thingOf_0 x P Λ σ c a1 := by
  obtain ⟨hex, hb, hml, hown, hts, hr, hlk, hR, hnm, hAs, hNW⟩ := hx
  obtain ⟨hLH, ⟨cA1, hLA1⟩, ⟨hLR2, cA3, hLA3⟩, hLO, ⟨cA5, hLA5⟩, ⟨hLR6, cA7, hLA7⟩⟩ := hL
  refine ⟨(), fun hK hA ls H locs hl hP hS => ?_⟩
  refine lv_iload_n hex hb d_H_thingOf_0 rfl (lv_at hl 1 rfl) ?_
  refine r_call (va_runS (As := [.int (iI a1)]) (rest := []) ⟨hex, hb, hml, hown, hts⟩ (Ct.use T H.size) (cwS 1 hts (gdS bg_74 bg_75 bg_1 bc_H_isRoot) rfl rfl rfl hdV_H_isRoot ⟨by rw [hR]; exact Nat.le_of_ble_eq_true rfl, by rw [hR]; exact Nat.le_of_ble_eq_true rfl⟩) (px_preS hNW hK hP) rfl rfl hl.1 rfl (lv_room (Nat.le_of_ble_eq_true rfl)) d_H_thingOf_1 ⟨by rw [hR]; exact Nat.le_of_ble_eq_true rfl, by rw [hR]; exact Nat.le_of_ble_eq_true rfl⟩) hS hA hAs (fun v Λ1 σ1 H locs hp hP hK hA hS => ?_)
  obtain ⟨z1, rfl, rfl, T⟩ := hp
  generalize σ1 = σa1 at hP T
  refine W.eq (g2 := F0 (xm x) 4 ls [.int (iI z1)]) rfl ?_
  obtain ⟨h2, T⟩ := T
  obtain ⟨T1, T2⟩ := T
  refine r_if_eq (a := z1) (tgt := 16) hex hb h2 d_H_thingOf_4 rfl (fun hc => ?_) (fun hc => ?_)
  · have T := T1 hc
    refine lv_null hex hb d_H_thingOf_16 ?_
    exact r_aret (o := none) hex hb hr hlk hK hA hP hS ⟨_, rfl, rfl, T⟩ (Nat.zero_le _) (Nat.zero_le _) d_H_thingOf_17
  · have T := T2 hc
    refine lv_aload_n hex hb d_H_thingOf_7 rfl (lv_at hl 0 rfl) ?_
    refine r_getR (ci := 3) (C := R_H) (T := F_H) (N := 8) hex hb hts (fun w h => List.mem_cons_of_mem _ (in_H w h)) hown hK hP hLH rfl 0 (by decide) (hts _ (List.mem_cons_of_mem _ bg_45)) (fun _ h9 => h9) rfl d_H_thingOf_8 ?_
    refine lv_iload_n hex hb d_H_thingOf_11 rfl (lv_at hl 1 rfl) ?_
    obtain ⟨h3, T⟩ := T
    obtain ⟨h4, T⟩ := T
    refine r_aald hex hb hK hP hLA1 (by decide) (by decide) h3 h4 d_H_thingOf_12 ?_
    refine lv_goto (tgt := 17) hex hb d_H_thingOf_13 rfl ?_
    exact r_aret (o := σa1.2.2 100 (c 1) a1.toNat) hex hb hr hlk hK hA hP hS ⟨_, rfl, rfl, T⟩ (Nat.zero_le _) (Nat.zero_le _) d_H_thingOf_17
set_option maxRecDepth 100000 in
theorem w_H_thingOf {l : Launch} {D : va_G} {Λ : Lam} {σ : Mem} {c : Nat → Nat} {a1 : Int} {P : Option Nat → Mem → Prop} (hL : LayC Λ c) (T : K_H_isRoot l D Λ σ a1 (fun z1 σa1 => rng z1 ∧ ((z1 = 0 → P none σa1) ∧ (¬ z1 = 0 → 0 ≤ a1 ∧ a1 < (6 : Int) ∧ P (σa1.2.2 100 (c 1) a1.toNat) σa1)))) : K_H_thingOf l D Λ σ c a1 P := e_H_thingOf (fun x hl hD hx => by subst hl; subst hD; exact u_H_thingOf_0 hx hL T)
-- DirtyCardHeap.hasRoom(I)Z
def rm_H_hasRoom : Room := { frames := 2, cells := 0, slots := 0, locals := 42 }
abbrev X_H_hasRoom (x : Cx) : Prop := CxOk x b_H_hasRoom 2 wl_H_hasRoom R_H (some .boolean) rm_H_hasRoom "hasRoom"
abbrev K_H_hasRoom (l : Launch) (D : va_G) (Λ : Lam) (σ : Mem) (c : Nat → Nat) (a1 : Int) (P : Int → Mem → Prop) : Prop := Ct l D y_H_hasRoom wl_H_hasRoom rm_H_hasRoom [.ref (c 0), .int (iI a1)] Λ σ (pI Λ P)
abbrev N_H_hasRoom_0 (x : Cx) (P : Int → Mem → Prop) (Λ : Lam) (σ : Mem) (c : Nat → Nat) (a1 : Int) : Prop := AtG x (pI Λ P) 2 0 0 0 Λ σ [(0, .ref (c 0)), (1, .int (iI a1))] []
theorem e_H_hasRoom {l : Launch} {D : va_G} {Λ : Lam} {σ : Mem} {c : Nat → Nat} {a1 : Int} {P : Int → Mem → Prop} (h : ∀ x : Cx, xl x = l → xD x = D → X_H_hasRoom x → N_H_hasRoom_0 x P Λ σ c a1) : K_H_hasRoom l D Λ σ c a1 P := Ct.of (by decide) rfl (Nat.le_of_ble_eq_true rfl) h
set_option maxHeartbeats 4000000 in
set_option maxRecDepth 100000 in
theorem u_H_hasRoom_0 {x : Cx} (hx : X_H_hasRoom x) {P : Int → Mem → Prop} {Λ : Lam} {σ : Mem} {c : Nat → Nat} {a1 : Int} (hL : LayC Λ c) (T : K_R_cellsTaken (xl x) (xD x) Λ σ (c 2) (fun z1 σa1 => rng (z1 + a1) ∧ ((20 < (z1 + a1) → P 0 σa1) ∧ (¬ 20 < (z1 + a1) → P 1 σa1)))) : N_H_hasRoom_0 x P Λ σ c a1 := by
  obtain ⟨hex, hb, hml, hown, hts, hr, hlk, hR, hnm, hAs, hNW⟩ := hx
  obtain ⟨hLH, ⟨cA1, hLA1⟩, ⟨hLR2, cA3, hLA3⟩, hLO, ⟨cA5, hLA5⟩, ⟨hLR6, cA7, hLA7⟩⟩ := hL
  refine ⟨(), fun hK hA ls H locs hl hP hS => ?_⟩
  refine lv_aload_n hex hb d_H_hasRoom_0 rfl (lv_at hl 0 rfl) ?_
  refine r_getR (ci := 3) (C := R_H) (T := F_H) (N := 8) hex hb hts (fun w h => List.mem_cons_of_mem _ (in_H w h)) hown hK hP hLH rfl 1 (by decide) (hts _ (List.mem_cons_of_mem _ bg_46)) (fun _ h9 => h9) rfl d_H_hasRoom_1 ?_
  refine r_call (va_runV (As := []) (rest := []) ⟨hex, hb, hml, hown, hts⟩ (Ct.use T H.size) (cwV 0 hts (gdV bg_81 bg_82 bg_83 bg_2 bc_R_cellsTaken) rfl rfl rfl hdV_R_cellsTaken ⟨by rw [hR]; exact Nat.le_of_ble_eq_true rfl, by rw [hR]; exact Nat.le_of_ble_eq_true rfl⟩) (px_preV (ci := 1) hNW hK hP hLR2 rfl) rfl rfl hl.1 rfl (lv_room (Nat.le_of_ble_eq_true rfl)) d_H_hasRoom_4 ⟨by rw [hR]; exact Nat.le_of_ble_eq_true rfl, by rw [hR]; exact Nat.le_of_ble_eq_true rfl⟩) hS hA hAs (fun v Λ1 σ1 H locs hp hP hK hA hS => ?_)
  obtain ⟨z1, rfl, rfl, T⟩ := hp
  generalize σ1 = σa1 at hP T
  refine W.eq (g2 := F0 (xm x) 7 ls [.int (iI z1)]) rfl ?_
  refine lv_iload_n hex hb d_H_hasRoom_7 rfl (lv_at hl 1 rfl) ?_
  refine r_iadd hex hb d_H_hasRoom_8 ?_
  refine lv_bipush (v := iI 20) hex hb d_H_hasRoom_9 rfl ?_
  obtain ⟨h2, T⟩ := T
  obtain ⟨T1, T2⟩ := T
  refine r_icmp_gt (a := z1 + a1) (b := 20) (tgt := 18) hex hb h2 ⟨by omega, by omega⟩ d_H_hasRoom_11 rfl (fun hc => ?_) (fun hc => ?_)
  · have T := T1 hc
    refine lv_iconst (v := iI 0) hex hb d_H_hasRoom_18 rfl ?_
    exact r_zret hex hb hr hlk hK hA hP hS (by decide) ⟨_, rfl, rfl, T⟩ (Nat.zero_le _) (Nat.zero_le _) d_H_hasRoom_19
  · have T := T2 hc
    refine lv_iconst (v := iI 1) hex hb d_H_hasRoom_14 rfl ?_
    refine lv_goto (tgt := 19) hex hb d_H_hasRoom_15 rfl ?_
    exact r_zret hex hb hr hlk hK hA hP hS (by decide) ⟨_, rfl, rfl, T⟩ (Nat.zero_le _) (Nat.zero_le _) d_H_hasRoom_19
set_option maxRecDepth 100000 in
theorem w_H_hasRoom {l : Launch} {D : va_G} {Λ : Lam} {σ : Mem} {c : Nat → Nat} {a1 : Int} {P : Int → Mem → Prop} (hL : LayC Λ c) (T : K_R_cellsTaken l D Λ σ (c 2) (fun z1 σa1 => rng (z1 + a1) ∧ ((20 < (z1 + a1) → P 0 σa1) ∧ (¬ 20 < (z1 + a1) → P 1 σa1)))) : K_H_hasRoom l D Λ σ c a1 P := e_H_hasRoom (fun x hl hD hx => by subst hl; subst hD; exact u_H_hasRoom_0 hx hL T)
-- DirtyCardHeap.placeAsOld(LDirtyCardHeap$Thing;)Z
def rm_H_placeAsOld : Room := { frames := 3, cells := 0, slots := 0, locals := 67 }
abbrev X_H_placeAsOld (x : Cx) : Prop := CxOk x b_H_placeAsOld 3 wl_H_placeAsOld R_H (some .boolean) rm_H_placeAsOld "placeAsOld"
abbrev K_H_placeAsOld (l : Launch) (D : va_G) (Λ : Lam) (σ : Mem) (c : Nat → Nat) (a1 : Option Nat) (P : Int → Mem → Prop) : Prop := Ct l D y_H_placeAsOld wl_H_placeAsOld rm_H_placeAsOld [.ref (c 0), va_rf a1] Λ σ (pI Λ P)
abbrev N_H_placeAsOld_0 (x : Cx) (P : Int → Mem → Prop) (Λ : Lam) (σ : Mem) (c : Nat → Nat) (a1 : Option Nat) : Prop := AtG x (pI Λ P) 3 0 0 0 Λ σ [(0, .ref (c 0)), (1, va_rf a1)] []
theorem e_H_placeAsOld {l : Launch} {D : va_G} {Λ : Lam} {σ : Mem} {c : Nat → Nat} {a1 : Option Nat} {P : Int → Mem → Prop} (h : ∀ x : Cx, xl x = l → xD x = D → X_H_placeAsOld x → N_H_placeAsOld_0 x P Λ σ c a1) : K_H_placeAsOld l D Λ σ c a1 P := by cases a1 <;> exact Ct.of (by decide) rfl (Nat.le_of_ble_eq_true rfl) h
set_option maxHeartbeats 4000000 in
set_option maxRecDepth 100000 in
theorem u_H_placeAsOld_0 {x : Cx} (hx : X_H_placeAsOld x) {P : Int → Mem → Prop} {Λ : Lam} {σ : Mem} {c : Nat → Nat} {a1 : Option Nat} (hL : LayC Λ c) (T : (∃ t1, a1 = some t1 ∧ isT Λ t1 ∧ K_T_size (xl x) (xD x) Λ σ t1 (fun z4 σa4 => K_O_findPlace (xl x) (xD x) Λ σa4 c z4 (fun z5 σa5 => rng z5 ∧ ((¬ z5 = (-1) → K_O_putAt (xl x) (xD x) Λ σa5 c (some t1) z5 (fun σa7 => K_T_cardsUnder (xl x) (xD x) Λ σa7 t1 (fun z8 σa8 => rng ((upI σa8 304 (c 0) (iOr (σa7.1 304 (c 0)) z8)).1 306 (c 0)) ∧ ((((upI σa8 304 (c 0) (iOr (σa7.1 304 (c 0)) z8)).1 306 (c 0)) = 0 → P 1 (upI (upI σa8 304 (c 0) (iOr (σa7.1 304 (c 0)) z8)) 204 t1 0)) ∧ (¬ ((upI σa8 304 (c 0) (iOr (σa7.1 304 (c 0)) z8)).1 306 (c 0)) = 0 → P 1 (upI (upI σa8 304 (c 0) (iOr (σa7.1 304 (c 0)) z8)) 204 t1 1)))))) ∧ (z5 = (-1) → P 0 σa5)))))) : N_H_placeAsOld_0 x P Λ σ c a1 := by
  obtain ⟨hex, hb, hml, hown, hts, hr, hlk, hR, hnm, hAs, hNW⟩ := hx
  obtain ⟨hLH, ⟨cA1, hLA1⟩, ⟨hLR2, cA3, hLA3⟩, hLO, ⟨cA5, hLA5⟩, ⟨hLR6, cA7, hLA7⟩⟩ := hL
  refine ⟨(), fun hK hA ls H locs hl hP hS => ?_⟩
  refine lv_aload_n hex hb d_H_placeAsOld_0 rfl (lv_at hl 0 rfl) ?_
  refine r_getR (ci := 3) (C := R_H) (T := F_H) (N := 8) hex hb hts (fun w h => List.mem_cons_of_mem _ (in_H w h)) hown hK hP hLH rfl 2 (by decide) (hts _ (List.mem_cons_of_mem _ bg_47)) (fun _ h9 => h9) rfl d_H_placeAsOld_1 ?_
  refine r_aload_n (o := a1) hex hb d_H_placeAsOld_4 rfl (lv_at hl 1 rfl) ?_
  obtain ⟨t1, ht2, T⟩ := T
  have hl : lv_has ls 3 [(0, .ref (c 0)), (1, .ref t1)] := by have h9 := hl; rw [ht2] at h9; exact h9
  rw [ht2]
  obtain ⟨⟨hT3, ⟨cT3, hF3⟩, hn3⟩, T⟩ := T
  refine r_call (va_runV (As := []) (rest := [.ref (c 4)]) ⟨hex, hb, hml, hown, hts⟩ (Ct.use T H.size) (cwV 0 hts (gdV bg_116 bg_86 bg_87 bg_6 bc_T_size) rfl rfl rfl hdV_T_size ⟨by rw [hR]; exact Nat.le_of_ble_eq_true rfl, by rw [hR]; exact Nat.le_of_ble_eq_true rfl⟩) (px_preV (ci := 2) hNW hK hP hT3 rfl) rfl rfl hl.1 rfl (lv_room (Nat.le_of_ble_eq_true rfl)) d_H_placeAsOld_5 ⟨by rw [hR]; exact Nat.le_of_ble_eq_true rfl, by rw [hR]; exact Nat.le_of_ble_eq_true rfl⟩) hS hA hAs (fun v Λ1 σ1 H locs hp hP hK hA hS => ?_)
  obtain ⟨z4, rfl, rfl, T⟩ := hp
  generalize σ1 = σa4 at hP T
  refine W.eq (g2 := F0 (xm x) 8 ls [.int (iI z4), .ref (c 4)]) rfl ?_
  refine r_call (va_runV (As := [.int (iI z4)]) (rest := []) ⟨hex, hb, hml, hown, hts⟩ (Ct.use T H.size) (cwV 1 hts (gdV bg_117 bg_118 bg_119 bg_3 bc_O_findPlace) rfl rfl rfl hdV_O_findPlace ⟨by rw [hR]; exact Nat.le_of_ble_eq_true rfl, by rw [hR]; exact Nat.le_of_ble_eq_true rfl⟩) (px_preV (ci := 0) hNW hK hP hLO rfl) rfl rfl hl.1 rfl (lv_room (Nat.le_of_ble_eq_true rfl)) d_H_placeAsOld_8 ⟨by rw [hR]; exact Nat.le_of_ble_eq_true rfl, by rw [hR]; exact Nat.le_of_ble_eq_true rfl⟩) hS hA hAs (fun v Λ1 σ1 H locs hp hP hK hA hS => ?_)
  obtain ⟨z5, rfl, rfl, T⟩ := hp
  generalize σ1 = σa5 at hP T
  refine W.eq (g2 := F0 (xm x) 11 ls [.int (iI z5)]) rfl ?_
  refine lv_istore_n (lv' := [(2, .int (iI z5)), (0, .ref (c 0)), (1, .ref t1)]) hex hb d_H_placeAsOld_11 rfl hl (Nat.le_of_ble_eq_true rfl) rfl (fun ls hl => ?_)
  refine lv_iload_n hex hb d_H_placeAsOld_12 rfl (lv_at hl 0 rfl) ?_
  refine lv_iconst (v := iI (-1)) hex hb d_H_placeAsOld_13 rfl ?_
  obtain ⟨h6, T⟩ := T
  obtain ⟨T1, T2⟩ := T
  refine r_icmp_ne (a := z5) (b := (-1)) (tgt := 19) hex hb h6 ⟨by omega, by omega⟩ d_H_placeAsOld_14 rfl (fun hc => ?_) (fun hc => ?_)
  · have T := T1 hc
    refine lv_aload_n hex hb d_H_placeAsOld_19 rfl (lv_at hl 1 rfl) ?_
    refine r_getR (ci := 3) (C := R_H) (T := F_H) (N := 8) hex hb hts (fun w h => List.mem_cons_of_mem _ (in_H w h)) hown hK hP hLH rfl 2 (by decide) (hts _ (List.mem_cons_of_mem _ bg_47)) (fun _ h9 => h9) rfl d_H_placeAsOld_20 ?_
    refine lv_aload_n hex hb d_H_placeAsOld_23 rfl (lv_at hl 2 rfl) ?_
    refine lv_iload_n hex hb d_H_placeAsOld_24 rfl (lv_at hl 0 rfl) ?_
    refine r_call (va_runV (As := [.ref t1, .int (iI z5)]) (rest := []) ⟨hex, hb, hml, hown, hts⟩ (Ct.use T H.size) (cwV 2 hts (gdV bg_121 bg_122 bg_123 bg_3 bc_O_putAt) rfl rfl rfl hdV_O_putAt ⟨by rw [hR]; exact Nat.le_of_ble_eq_true rfl, by rw [hR]; exact Nat.le_of_ble_eq_true rfl⟩) (px_preV (ci := 0) hNW hK hP hLO rfl) rfl rfl hl.1 rfl (lv_room (Nat.le_of_ble_eq_true rfl)) d_H_placeAsOld_25 ⟨by rw [hR]; exact Nat.le_of_ble_eq_true rfl, by rw [hR]; exact Nat.le_of_ble_eq_true rfl⟩) hS hA hAs (fun v Λ1 σ1 H locs hp hP hK hA hS => ?_)
    obtain ⟨rfl, rfl, T⟩ := hp
    generalize σ1 = σa7 at hP T
    refine W.eq (g2 := F0 (xm x) 28 ls []) rfl ?_
    refine lv_aload_n hex hb d_H_placeAsOld_28 rfl (lv_at hl 1 rfl) ?_
    refine lv_dup hex hb d_H_placeAsOld_29 rfl ?_
    refine r_getI (ci := 3) (C := R_H) (T := F_H) (N := 8) hex hb hts (fun w h => List.mem_cons_of_mem _ (in_H w h)) hown hK hP hLH rfl 4 (by decide) (hts _ (List.mem_cons_of_mem _ bg_49)) (fun _ h9 => h9) rfl d_H_placeAsOld_30 ?_
    refine lv_aload_n hex hb d_H_placeAsOld_33 rfl (lv_at hl 2 rfl) ?_
    refine r_call (va_runV (As := []) (rest := [.int (iI (σa7.1 304 (c 0))), .ref (c 0)]) ⟨hex, hb, hml, hown, hts⟩ (Ct.use T H.size) (cwV 0 hts (gdV bg_133 bg_134 bg_135 bg_6 bc_T_cardsUnder) rfl rfl rfl hdV_T_cardsUnder ⟨by rw [hR]; exact Nat.le_of_ble_eq_true rfl, by rw [hR]; exact Nat.le_of_ble_eq_true rfl⟩) (px_preV (ci := 2) hNW hK hP hT3 rfl) rfl rfl hl.1 rfl (lv_room (Nat.le_of_ble_eq_true rfl)) d_H_placeAsOld_34 ⟨by rw [hR]; exact Nat.le_of_ble_eq_true rfl, by rw [hR]; exact Nat.le_of_ble_eq_true rfl⟩) hS hA hAs (fun v Λ1 σ1 H locs hp hP hK hA hS => ?_)
    obtain ⟨z8, rfl, rfl, T⟩ := hp
    generalize σ1 = σa8 at hP T
    refine W.eq (g2 := F0 (xm x) 37 ls [.int (iI z8), .int (iI (σa7.1 304 (c 0))), .ref (c 0)]) rfl ?_
    refine r_ior hex hb d_H_placeAsOld_37 ?_
    refine r_putI (ci := 3) (C := R_H) (T := F_H) (N := 8) (v := iOr (σa7.1 304 (c 0)) z8) (ty := .int) hex hb hts (fun w h => List.mem_cons_of_mem _ (in_H w h)) tq_H tq_H_ok n_H hown hK hP hA hS hLH rfl 4 (by decide) (hts _ (List.mem_cons_of_mem _ bg_49)) (fun _ h9 => h9) rfl (by decide +kernel) rfl rfl rfl d_H_placeAsOld_38 (fun H locs hP hS => ?_)
    refine lv_aload_n hex hb d_H_placeAsOld_41 rfl (lv_at hl 2 rfl) ?_
    refine lv_aload_n hex hb d_H_placeAsOld_42 rfl (lv_at hl 1 rfl) ?_
    refine r_getI (ci := 3) (C := R_H) (T := F_H) (N := 8) hex hb hts (fun w h => List.mem_cons_of_mem _ (in_H w h)) hown hK hP hLH rfl 6 (by decide) (hts _ (List.mem_cons_of_mem _ bg_51)) (fun _ h9 => h9) rfl d_H_placeAsOld_43 ?_
    obtain ⟨h9, T⟩ := T
    obtain ⟨T1, T2⟩ := T
    refine r_if_eq (a := (upI σa8 304 (c 0) (iOr (σa7.1 304 (c 0)) z8)).1 306 (c 0)) (tgt := 53) hex hb h9 d_H_placeAsOld_46 rfl (fun hc => ?_) (fun hc => ?_)
    · have T := T1 hc
      refine lv_iconst (v := iI 0) hex hb d_H_placeAsOld_53 rfl ?_
      refine r_putI (ci := 2) (C := R_T) (T := F_T) (N := 7) (v := 0) (ty := .boolean) hex hb hts (fun w h => List.mem_cons_of_mem _ (in_T w h)) tq_T tq_T_ok n_T hown hK hP hA hS hT3 rfl 4 (by decide) (hts _ (List.mem_cons_of_mem _ bg_240)) (fun _ h9 => h9) rfl (by decide +kernel) rfl rfl rfl d_H_placeAsOld_54 (fun H locs hP hS => ?_)
      refine lv_iconst (v := iI 1) hex hb d_H_placeAsOld_57 rfl ?_
      exact r_zret hex hb hr hlk hK hA hP hS (by decide) ⟨_, rfl, rfl, T⟩ (Nat.zero_le _) (Nat.zero_le _) d_H_placeAsOld_58
    · have T := T2 hc
      refine lv_iconst (v := iI 1) hex hb d_H_placeAsOld_49 rfl ?_
      refine lv_goto (tgt := 54) hex hb d_H_placeAsOld_50 rfl ?_
      refine r_putI (ci := 2) (C := R_T) (T := F_T) (N := 7) (v := 1) (ty := .boolean) hex hb hts (fun w h => List.mem_cons_of_mem _ (in_T w h)) tq_T tq_T_ok n_T hown hK hP hA hS hT3 rfl 4 (by decide) (hts _ (List.mem_cons_of_mem _ bg_240)) (fun _ h9 => h9) rfl (by decide +kernel) rfl rfl rfl d_H_placeAsOld_54 (fun H locs hP hS => ?_)
      refine lv_iconst (v := iI 1) hex hb d_H_placeAsOld_57 rfl ?_
      exact r_zret hex hb hr hlk hK hA hP hS (by decide) ⟨_, rfl, rfl, T⟩ (Nat.zero_le _) (Nat.zero_le _) d_H_placeAsOld_58
  · have T := T2 hc
    refine lv_iconst (v := iI 0) hex hb d_H_placeAsOld_17 rfl ?_
    exact r_zret hex hb hr hlk hK hA hP hS (by decide) ⟨_, rfl, rfl, T⟩ (Nat.zero_le _) (Nat.zero_le _) d_H_placeAsOld_18
set_option maxRecDepth 100000 in
theorem w_H_placeAsOld {l : Launch} {D : va_G} {Λ : Lam} {σ : Mem} {c : Nat → Nat} {a1 : Option Nat} {P : Int → Mem → Prop} (hL : LayC Λ c) (T : (∃ t1, a1 = some t1 ∧ isT Λ t1 ∧ K_T_size l D Λ σ t1 (fun z4 σa4 => K_O_findPlace l D Λ σa4 c z4 (fun z5 σa5 => rng z5 ∧ ((¬ z5 = (-1) → K_O_putAt l D Λ σa5 c (some t1) z5 (fun σa7 => K_T_cardsUnder l D Λ σa7 t1 (fun z8 σa8 => rng ((upI σa8 304 (c 0) (iOr (σa7.1 304 (c 0)) z8)).1 306 (c 0)) ∧ ((((upI σa8 304 (c 0) (iOr (σa7.1 304 (c 0)) z8)).1 306 (c 0)) = 0 → P 1 (upI (upI σa8 304 (c 0) (iOr (σa7.1 304 (c 0)) z8)) 204 t1 0)) ∧ (¬ ((upI σa8 304 (c 0) (iOr (σa7.1 304 (c 0)) z8)).1 306 (c 0)) = 0 → P 1 (upI (upI σa8 304 (c 0) (iOr (σa7.1 304 (c 0)) z8)) 204 t1 1)))))) ∧ (z5 = (-1) → P 0 σa5)))))) : K_H_placeAsOld l D Λ σ c a1 P := e_H_placeAsOld (fun x hl hD hx => by subst hl; subst hD; exact u_H_placeAsOld_0 hx hL T)
-- DirtyCardHeap.reachYoung(LDirtyCardHeap$Thing;)V
def rm_H_reachYoung : Room := { frames := 4, cells := 0, slots := 0, locals := 89 }
abbrev X_H_reachYoung (x : Cx) : Prop := CxOk x b_H_reachYoung 2 wl_H_reachYoung R_H none rm_H_reachYoung "reachYoung"
abbrev K_H_reachYoung (l : Launch) (D : va_G) (Λ : Lam) (σ : Mem) (c : Nat → Nat) (a1 : Option Nat) (P : Mem → Prop) : Prop := Ct l D y_H_reachYoung wl_H_reachYoung rm_H_reachYoung [.ref (c 0), va_rf a1] Λ σ (pV Λ P)
abbrev N_H_reachYoung_0 (x : Cx) (P : Mem → Prop) (Λ : Lam) (σ : Mem) (c : Nat → Nat) (a1 : Option Nat) : Prop := AtG x (pV Λ P) 2 0 0 0 Λ σ [(0, .ref (c 0)), (1, va_rf a1)] []
theorem e_H_reachYoung {l : Launch} {D : va_G} {Λ : Lam} {σ : Mem} {c : Nat → Nat} {a1 : Option Nat} {P : Mem → Prop} (h : ∀ x : Cx, xl x = l → xD x = D → X_H_reachYoung x → N_H_reachYoung_0 x P Λ σ c a1) : K_H_reachYoung l D Λ σ c a1 P := by cases a1 <;> exact Ct.of (by decide) rfl (Nat.le_of_ble_eq_true rfl) h
set_option maxHeartbeats 4000000 in
set_option maxRecDepth 100000 in
theorem u_H_reachYoung_0 {x : Cx} (hx : X_H_reachYoung x) {P : Mem → Prop} {Λ : Lam} {σ : Mem} {c : Nat → Nat} {a1 : Option Nat} (hL : LayC Λ c) (T : ((a1 = none → P σ) ∧ (∀ t1, a1 = some t1 → isT Λ t1 ∧ K_T_isYoung (xl x) (xD x) Λ σ t1 (fun z4 σa4 => rng z4 ∧ ((z4 = 0 → P σa4) ∧ (¬ z4 = 0 → K_R_reach (xl x) (xD x) Λ σa4 (c 6) (some t1) (fun z6 σa6 => rng z6 ∧ ((¬ z6 = 0 → rng ((σa6.1 202 t1) + 1) ∧ rng ((upI σa6 202 t1 (min ((σa6.1 202 t1) + 1) 9)).1 202 t1) ∧ ((((upI σa6 202 t1 (min ((σa6.1 202 t1) + 1) 9)).1 202 t1) < 2 → P (upI σa6 202 t1 (min ((σa6.1 202 t1) + 1) 9))) ∧ (¬ ((upI σa6 202 t1 (min ((σa6.1 202 t1) + 1) 9)).1 202 t1) < 2 → K_H_placeAsOld (xl x) (xD x) Λ (upI σa6 202 t1 (min ((σa6.1 202 t1) + 1) 9)) c (some t1) (fun z10 σa10 => P σa10)))) ∧ (z6 = 0 → P σa6))))))))) : N_H_reachYoung_0 x P Λ σ c a1 := by
  obtain ⟨hex, hb, hml, hown, hts, hr, hlk, hR, hnm, hAs, hNW⟩ := hx
  obtain ⟨hLH, ⟨cA1, hLA1⟩, ⟨hLR2, cA3, hLA3⟩, hLO, ⟨cA5, hLA5⟩, ⟨hLR6, cA7, hLA7⟩⟩ := hL
  refine ⟨(), fun hK hA ls H locs hl hP hS => ?_⟩
  refine r_aload_n (o := a1) hex hb d_H_reachYoung_0 rfl (lv_at hl 1 rfl) ?_
  obtain ⟨Tn, Ts⟩ := T
  refine r_ifnull (o := a1) (tgt := 22) hex hb d_H_reachYoung_1 rfl (fun hn => ?_) (fun t1 ht2 => ?_)
  · have T := Tn hn
    have hl : lv_has ls 2 [(0, .ref (c 0)), (1, va_rf none)] := by have h9 := hl; rw [hn] at h9; exact h9
    exact r_vret hex hb hr hlk hK hA hP hS ⟨rfl, rfl, T⟩ (Nat.zero_le _) (Nat.zero_le _) d_H_reachYoung_22
  · have T := Ts t1 ht2
    have hl : lv_has ls 2 [(0, .ref (c 0)), (1, .ref t1)] := by have h9 := hl; rw [ht2] at h9; exact h9
    refine lv_aload_n hex hb d_H_reachYoung_4 rfl (lv_at hl 1 rfl) ?_
    obtain ⟨⟨hT3, ⟨cT3, hF3⟩, hn3⟩, T⟩ := T
    refine r_call (va_runV (As := []) (rest := []) ⟨hex, hb, hml, hown, hts⟩ (Ct.use T H.size) (cwV 0 hts (gdV bg_97 bg_98 bg_99 bg_6 bc_T_isYoung) rfl rfl rfl hdV_T_isYoung ⟨by rw [hR]; exact Nat.le_of_ble_eq_true rfl, by rw [hR]; exact Nat.le_of_ble_eq_true rfl⟩) (px_preV (ci := 2) hNW hK hP hT3 rfl) rfl rfl hl.1 rfl (lv_room (Nat.le_of_ble_eq_true rfl)) d_H_reachYoung_5 ⟨by rw [hR]; exact Nat.le_of_ble_eq_true rfl, by rw [hR]; exact Nat.le_of_ble_eq_true rfl⟩) hS hA hAs (fun v Λ1 σ1 H locs hp hP hK hA hS => ?_)
    obtain ⟨z4, rfl, rfl, T⟩ := hp
    generalize σ1 = σa4 at hP T
    refine W.eq (g2 := F0 (xm x) 8 ls [.int (iI z4)]) rfl ?_
    obtain ⟨h5, T⟩ := T
    obtain ⟨T1, T2⟩ := T
    refine r_if_eq (a := z4) (tgt := 22) hex hb h5 d_H_reachYoung_8 rfl (fun hc => ?_) (fun hc => ?_)
    · have T := T1 hc
      exact r_vret hex hb hr hlk hK hA hP hS ⟨rfl, rfl, T⟩ (Nat.zero_le _) (Nat.zero_le _) d_H_reachYoung_22
    · have T := T2 hc
      refine lv_aload_n hex hb d_H_reachYoung_11 rfl (lv_at hl 0 rfl) ?_
      refine r_getR (ci := 3) (C := R_H) (T := F_H) (N := 8) hex hb hts (fun w h => List.mem_cons_of_mem _ (in_H w h)) hown hK hP hLH rfl 3 (by decide) (hts _ (List.mem_cons_of_mem _ bg_48)) (fun _ h9 => h9) rfl d_H_reachYoung_12 ?_
      refine lv_aload_n hex hb d_H_reachYoung_15 rfl (lv_at hl 1 rfl) ?_
      refine r_call (va_runV (As := [.ref t1]) (rest := []) ⟨hex, hb, hml, hown, hts⟩ (Ct.use T H.size) (cwV 1 hts (gdV bg_101 bg_102 bg_103 bg_2 bc_R_reach) rfl rfl rfl hdV_R_reach ⟨by rw [hR]; exact Nat.le_of_ble_eq_true rfl, by rw [hR]; exact Nat.le_of_ble_eq_true rfl⟩) (px_preV (ci := 1) hNW hK hP hLR6 rfl) rfl rfl hl.1 rfl (lv_room (Nat.le_of_ble_eq_true rfl)) d_H_reachYoung_16 ⟨by rw [hR]; exact Nat.le_of_ble_eq_true rfl, by rw [hR]; exact Nat.le_of_ble_eq_true rfl⟩) hS hA hAs (fun v Λ1 σ1 H locs hp hP hK hA hS => ?_)
      obtain ⟨z6, rfl, rfl, T⟩ := hp
      generalize σ1 = σa6 at hP T
      refine W.eq (g2 := F0 (xm x) 19 ls [.int (iI z6)]) rfl ?_
      obtain ⟨h7, T⟩ := T
      obtain ⟨T1, T2⟩ := T
      refine r_if_ne (a := z6) (tgt := 23) hex hb h7 d_H_reachYoung_19 rfl (fun hc => ?_) (fun hc => ?_)
      · have T := T1 hc
        refine lv_aload_n hex hb d_H_reachYoung_23 rfl (lv_at hl 1 rfl) ?_
        refine lv_aload_n hex hb d_H_reachYoung_24 rfl (lv_at hl 1 rfl) ?_
        refine r_getI (ci := 2) (C := R_T) (T := F_T) (N := 7) hex hb hts (fun w h => List.mem_cons_of_mem _ (in_T w h)) hown hK hP hT3 rfl 2 (by decide) (hts _ (List.mem_cons_of_mem _ bg_235)) (fun _ h9 => h9) rfl d_H_reachYoung_25 ?_
        refine lv_iconst (v := iI 1) hex hb d_H_reachYoung_28 rfl ?_
        refine r_iadd hex hb d_H_reachYoung_29 ?_
        refine lv_bipush (v := iI 9) hex hb d_H_reachYoung_30 rfl ?_
        obtain ⟨h8, T⟩ := T
        refine va_mmin hex hb (by rw [hml]; exact hl.1.symm) hown (hts _ (List.mem_cons_of_mem _ bg_109)) (hts _ (List.mem_cons_of_mem _ bg_110)) (hts _ (List.mem_cons_of_mem _ bg_5)) (hts _ (List.mem_cons_of_mem _ bg_111)) (by rw [hR]; exact Nat.le_of_ble_eq_true rfl) (by rw [hR]; exact Nat.le_of_ble_eq_true rfl) (Nat.zero_le _) (Nat.zero_le _) d_H_reachYoung_32 ?_
        rw [iI_min h8 ⟨by omega, by omega⟩]
        refine r_putI (ci := 2) (C := R_T) (T := F_T) (N := 7) (v := min ((σa6.1 202 t1) + 1) 9) (ty := .int) hex hb hts (fun w h => List.mem_cons_of_mem _ (in_T w h)) tq_T tq_T_ok n_T hown hK hP hA hS hT3 rfl 2 (by decide) (hts _ (List.mem_cons_of_mem _ bg_235)) (fun _ h9 => h9) rfl (by decide +kernel) rfl rfl rfl d_H_reachYoung_35 (fun H locs hP hS => ?_)
        refine lv_aload_n hex hb d_H_reachYoung_38 rfl (lv_at hl 1 rfl) ?_
        refine r_getI (ci := 2) (C := R_T) (T := F_T) (N := 7) hex hb hts (fun w h => List.mem_cons_of_mem _ (in_T w h)) hown hK hP hT3 rfl 2 (by decide) (hts _ (List.mem_cons_of_mem _ bg_235)) (fun _ h9 => h9) rfl d_H_reachYoung_39 ?_
        refine lv_iconst (v := iI 2) hex hb d_H_reachYoung_42 rfl ?_
        obtain ⟨h9, T⟩ := T
        obtain ⟨T1, T2⟩ := T
        refine r_icmp_lt (a := (upI σa6 202 t1 (min ((σa6.1 202 t1) + 1) 9)).1 202 t1) (b := 2) (tgt := 52) hex hb h9 ⟨by omega, by omega⟩ d_H_reachYoung_43 rfl (fun hc => ?_) (fun hc => ?_)
        · have T := T1 hc
          exact r_vret hex hb hr hlk hK hA hP hS ⟨rfl, rfl, T⟩ (Nat.zero_le _) (Nat.zero_le _) d_H_reachYoung_52
        · have T := T2 hc
          refine lv_aload_n hex hb d_H_reachYoung_46 rfl (lv_at hl 0 rfl) ?_
          refine lv_aload_n hex hb d_H_reachYoung_47 rfl (lv_at hl 1 rfl) ?_
          refine r_call (va_runV (As := [.ref t1]) (rest := []) ⟨hex, hb, hml, hown, hts⟩ (Ct.use T H.size) (cwV 1 hts (gdV bg_112 bg_114 bp_3 bg_1 bc_H_placeAsOld) rfl rfl rfl hdV_H_placeAsOld ⟨by rw [hR]; exact Nat.le_of_ble_eq_true rfl, by rw [hR]; exact Nat.le_of_ble_eq_true rfl⟩) (px_preV (ci := 3) hNW hK hP hLH rfl) rfl rfl hl.1 rfl (lv_room (Nat.le_of_ble_eq_true rfl)) d_H_reachYoung_48 ⟨by rw [hR]; exact Nat.le_of_ble_eq_true rfl, by rw [hR]; exact Nat.le_of_ble_eq_true rfl⟩) hS hA hAs (fun v Λ1 σ1 H locs hp hP hK hA hS => ?_)
          obtain ⟨z10, rfl, rfl, T⟩ := hp
          generalize σ1 = σa10 at hP T
          refine W.eq (g2 := F0 (xm x) 51 ls [.int (iI z10)]) rfl ?_
          refine lv_pop hex hb d_H_reachYoung_51 rfl ?_
          exact r_vret hex hb hr hlk hK hA hP hS ⟨rfl, rfl, T⟩ (Nat.zero_le _) (Nat.zero_le _) d_H_reachYoung_52
      · have T := T2 hc
        exact r_vret hex hb hr hlk hK hA hP hS ⟨rfl, rfl, T⟩ (Nat.zero_le _) (Nat.zero_le _) d_H_reachYoung_22
set_option maxRecDepth 100000 in
theorem w_H_reachYoung {l : Launch} {D : va_G} {Λ : Lam} {σ : Mem} {c : Nat → Nat} {a1 : Option Nat} {P : Mem → Prop} (hL : LayC Λ c) (T : ((a1 = none → P σ) ∧ (∀ t1, a1 = some t1 → isT Λ t1 ∧ K_T_isYoung l D Λ σ t1 (fun z4 σa4 => rng z4 ∧ ((z4 = 0 → P σa4) ∧ (¬ z4 = 0 → K_R_reach l D Λ σa4 (c 6) (some t1) (fun z6 σa6 => rng z6 ∧ ((¬ z6 = 0 → rng ((σa6.1 202 t1) + 1) ∧ rng ((upI σa6 202 t1 (min ((σa6.1 202 t1) + 1) 9)).1 202 t1) ∧ ((((upI σa6 202 t1 (min ((σa6.1 202 t1) + 1) 9)).1 202 t1) < 2 → P (upI σa6 202 t1 (min ((σa6.1 202 t1) + 1) 9))) ∧ (¬ ((upI σa6 202 t1 (min ((σa6.1 202 t1) + 1) 9)).1 202 t1) < 2 → K_H_placeAsOld l D Λ (upI σa6 202 t1 (min ((σa6.1 202 t1) + 1) 9)) c (some t1) (fun z10 σa10 => P σa10)))) ∧ (z6 = 0 → P σa6))))))))) : K_H_reachYoung l D Λ σ c a1 P := e_H_reachYoung (fun x hl hD hx => by subst hl; subst hD; exact u_H_reachYoung_0 hx hL T)
-- DirtyCardHeap.reachFromCards(I)V
def rm_H_reachFromCards : Room := { frames := 5, cells := 0, slots := 0, locals := 110 }
abbrev X_H_reachFromCards (x : Cx) : Prop := CxOk x b_H_reachFromCards 5 wl_H_reachFromCards R_H none rm_H_reachFromCards "reachFromCards"
abbrev K_H_reachFromCards (l : Launch) (D : va_G) (Λ : Lam) (σ : Mem) (c : Nat → Nat) (a1 : Int) (P : Mem → Prop) : Prop := Ct l D y_H_reachFromCards wl_H_reachFromCards rm_H_reachFromCards [.ref (c 0), .int (iI a1)] Λ σ (pV Λ P)
abbrev N_H_reachFromCards_0 (x : Cx) (P : Mem → Prop) (Λ : Lam) (σ : Mem) (c : Nat → Nat) (a1 : Int) : Prop := AtG x (pV Λ P) 5 0 0 0 Λ σ [(0, .ref (c 0)), (1, .int (iI a1))] []
abbrev N_H_reachFromCards_2 (x : Cx) (P : Mem → Prop) (Λ : Lam) (σ : Mem) (c : Nat → Nat) (i1 : Int) (i2 : Int) : Prop := AtG x (pV Λ P) 5 2 0 0 Λ σ [(0, .ref (c 0)), (1, .int (iI i1)), (2, .int (iI i2))] []
abbrev N_H_reachFromCards_33 (x : Cx) (P : Mem → Prop) (Λ : Lam) (σ : Mem) (c : Nat → Nat) (i1 : Int) (i2 : Int) : Prop := AtG x (pV Λ P) 5 33 0 0 Λ σ [(0, .ref (c 0)), (1, .int (iI i1)), (2, .int (iI i2))] []
abbrev N_H_reachFromCards_34 (x : Cx) (P : Mem → Prop) (Λ : Lam) (σ : Mem) (c : Nat → Nat) (i1 : Int) (i2 : Int) (s0 : Int) : Prop := AtG x (pV Λ P) 5 34 0 0 Λ σ [(0, .ref (c 0)), (1, .int (iI i1)), (2, .int (iI i2))] [.int (iI s0)]
theorem e_H_reachFromCards {l : Launch} {D : va_G} {Λ : Lam} {σ : Mem} {c : Nat → Nat} {a1 : Int} {P : Mem → Prop} (h : ∀ x : Cx, xl x = l → xD x = D → X_H_reachFromCards x → N_H_reachFromCards_0 x P Λ σ c a1) : K_H_reachFromCards l D Λ σ c a1 P := Ct.of (by decide) rfl (Nat.le_of_ble_eq_true rfl) h
set_option maxHeartbeats 4000000 in
set_option maxRecDepth 100000 in
theorem u_H_reachFromCards_0 {x : Cx} (hx : X_H_reachFromCards x) {P : Mem → Prop} {Λ : Lam} {σ : Mem} {c : Nat → Nat} {a1 : Int} (hL : LayC Λ c) (T : N_H_reachFromCards_2 x P Λ σ c a1 0) : N_H_reachFromCards_0 x P Λ σ c a1 := by
  obtain ⟨hex, hb, hml, hown, hts, hr, hlk, hR, hnm, hAs, hNW⟩ := hx
  obtain ⟨hLH, ⟨cA1, hLA1⟩, ⟨hLR2, cA3, hLA3⟩, hLO, ⟨cA5, hLA5⟩, ⟨hLR6, cA7, hLA7⟩⟩ := hL
  refine ⟨(), fun hK hA ls H locs hl hP hS => ?_⟩
  refine lv_iconst (v := iI 0) hex hb d_H_reachFromCards_0 rfl ?_
  refine lv_istore_n (lv' := [(2, .int (iI 0)), (0, .ref (c 0)), (1, .int (iI a1))]) hex hb d_H_reachFromCards_1 rfl hl (Nat.le_of_ble_eq_true rfl) rfl (fun ls hl => ?_)
  exact AtG.use T hK hA _ _ _ (lv_sub hl [1, 2, 0] rfl) hP hS
set_option maxHeartbeats 4000000 in
set_option maxRecDepth 100000 in
theorem u_H_reachFromCards_2 {x : Cx} (hx : X_H_reachFromCards x) {P : Mem → Prop} {Λ : Lam} {σ : Mem} {c : Nat → Nat} {i1 : Int} {i2 : Int} (hL : LayC Λ c) (T : rng i2 ∧ ((64 ≤ i2 → P σ) ∧ (¬ 64 ≤ i2 → 0 ≤ i2 ∧ i2 < (64 : Int) ∧ ((σ.2.2 102 (c 5) i2.toNat = none → N_H_reachFromCards_33 x P Λ σ c i1 i2) ∧ (∀ t4, σ.2.2 102 (c 5) i2.toNat = some t4 → isT Λ t4 ∧ rng (σ.1 206 t4) ∧ ((¬ (σ.1 206 t4) = 0 → N_H_reachFromCards_33 x P Λ σ c i1 i2) ∧ ((σ.1 206 t4) = 0 → N_H_reachFromCards_34 x P Λ σ c i1 i2 1))))))) : N_H_reachFromCards_2 x P Λ σ c i1 i2 := by
  obtain ⟨hex, hb, hml, hown, hts, hr, hlk, hR, hnm, hAs, hNW⟩ := hx
  obtain ⟨hLH, ⟨cA1, hLA1⟩, ⟨hLR2, cA3, hLA3⟩, hLO, ⟨cA5, hLA5⟩, ⟨hLR6, cA7, hLA7⟩⟩ := hL
  refine ⟨(), fun hK hA ls H locs hl hP hS => ?_⟩
  refine lv_iload_n hex hb d_H_reachFromCards_2 rfl (lv_at hl 2 rfl) ?_
  refine lv_bipush (v := iI 64) hex hb d_H_reachFromCards_3 rfl ?_
  obtain ⟨h1, T⟩ := T
  obtain ⟨T1, T2⟩ := T
  refine r_icmp_ge (a := i2) (b := 64) (tgt := 68) hex hb h1 ⟨by omega, by omega⟩ d_H_reachFromCards_5 rfl (fun hc => ?_) (fun hc => ?_)
  · have T := T1 hc
    exact r_vret hex hb hr hlk hK hA hP hS ⟨rfl, rfl, T⟩ (Nat.zero_le _) (Nat.zero_le _) d_H_reachFromCards_68
  · have T := T2 hc
    refine lv_aload_n hex hb d_H_reachFromCards_8 rfl (lv_at hl 0 rfl) ?_
    refine r_getR (ci := 3) (C := R_H) (T := F_H) (N := 8) hex hb hts (fun w h => List.mem_cons_of_mem _ (in_H w h)) hown hK hP hLH rfl 2 (by decide) (hts _ (List.mem_cons_of_mem _ bg_47)) (fun _ h9 => h9) rfl d_H_reachFromCards_9 ?_
    refine r_getR (ci := 0) (C := R_O) (T := F_O) (N := 1) hex hb hts (fun w h => List.mem_cons_of_mem _ (in_O w h)) hown hK hP hLO rfl 0 (by decide) (hts _ (List.mem_cons_of_mem _ bg_41)) (fun _ h9 => h9) rfl d_H_reachFromCards_12 ?_
    refine lv_iload_n hex hb d_H_reachFromCards_15 rfl (lv_at hl 2 rfl) ?_
    obtain ⟨h2, T⟩ := T
    obtain ⟨h3, T⟩ := T
    refine r_aald hex hb hK hP hLA5 (by decide) (by decide) h2 h3 d_H_reachFromCards_16 ?_
    refine r_astore_n (o := σ.2.2 102 (c 5) i2.toNat) (lv' := [(3, va_rf (σ.2.2 102 (c 5) i2.toNat)), (0, .ref (c 0)), (1, .int (iI i1)), (2, .int (iI i2))]) hex hb d_H_reachFromCards_17 rfl hl (Nat.le_of_ble_eq_true rfl) rfl (fun ls hl => ?_)
    refine r_aload_n (o := σ.2.2 102 (c 5) i2.toNat) hex hb d_H_reachFromCards_18 rfl (lv_at hl 0 rfl) ?_
    obtain ⟨Tn, Ts⟩ := T
    refine r_ifnull (o := σ.2.2 102 (c 5) i2.toNat) (tgt := 33) hex hb d_H_reachFromCards_19 rfl (fun hn => ?_) (fun t4 ht5 => ?_)
    · have T := Tn hn
      have hl : lv_has ls 5 [(3, va_rf none), (0, .ref (c 0)), (1, .int (iI i1)), (2, .int (iI i2))] := by have h9 := hl; rw [hn] at h9; exact h9
      exact AtG.use T hK hA _ _ _ (lv_sub hl [1, 2, 3] rfl) hP hS
    · have T := Ts t4 ht5
      have hl : lv_has ls 5 [(3, .ref t4), (0, .ref (c 0)), (1, .int (iI i1)), (2, .int (iI i2))] := by have h9 := hl; rw [ht5] at h9; exact h9
      refine lv_aload_n hex hb d_H_reachFromCards_22 rfl (lv_at hl 0 rfl) ?_
      obtain ⟨⟨hT6, ⟨cT6, hF6⟩, hn6⟩, T⟩ := T
      refine r_getI (ci := 2) (C := R_T) (T := F_T) (N := 7) hex hb hts (fun w h => List.mem_cons_of_mem _ (in_T w h)) hown hK hP hT6 rfl 6 (by decide) (hts _ (List.mem_cons_of_mem _ bg_245)) (fun _ h9 => h9) rfl d_H_reachFromCards_23 ?_
      obtain ⟨h7, T⟩ := T
      obtain ⟨T1, T2⟩ := T
      refine r_if_ne (a := σ.1 206 t4) (tgt := 33) hex hb h7 d_H_reachFromCards_26 rfl (fun hc => ?_) (fun hc => ?_)
      · have T := T1 hc
        exact AtG.use T hK hA _ _ _ (lv_sub hl [1, 2, 3] rfl) hP hS
      · have T := T2 hc
        refine lv_iconst (v := iI 1) hex hb d_H_reachFromCards_29 rfl ?_
        refine lv_goto (tgt := 34) hex hb d_H_reachFromCards_30 rfl ?_
        exact AtG.use T hK hA _ _ _ (lv_sub hl [1, 2, 3] rfl) hP hS
set_option maxHeartbeats 4000000 in
set_option maxRecDepth 100000 in
theorem u_H_reachFromCards_33 {x : Cx} (hx : X_H_reachFromCards x) {P : Mem → Prop} {Λ : Lam} {σ : Mem} {c : Nat → Nat} {i1 : Int} {i2 : Int} (hL : LayC Λ c) (T : N_H_reachFromCards_34 x P Λ σ c i1 i2 0) : N_H_reachFromCards_33 x P Λ σ c i1 i2 := by
  obtain ⟨hex, hb, hml, hown, hts, hr, hlk, hR, hnm, hAs, hNW⟩ := hx
  obtain ⟨hLH, ⟨cA1, hLA1⟩, ⟨hLR2, cA3, hLA3⟩, hLO, ⟨cA5, hLA5⟩, ⟨hLR6, cA7, hLA7⟩⟩ := hL
  refine ⟨(), fun hK hA ls H locs hl hP hS => ?_⟩
  refine lv_iconst (v := iI 0) hex hb d_H_reachFromCards_33 rfl ?_
  exact AtG.use T hK hA _ _ _ (lv_sub hl [0, 1, 2] rfl) hP hS
set_option maxHeartbeats 4000000 in
set_option maxRecDepth 100000 in
theorem u_H_reachFromCards_34 {x : Cx} (hx : X_H_reachFromCards x) {P : Mem → Prop} {Λ : Lam} {σ : Mem} {c : Nat → Nat} {i1 : Int} {i2 : Int} {s0 : Int} (hL : LayC Λ c) (T : rng s0 ∧ ((s0 = 0 → N_H_reachFromCards_2 x P Λ σ c i1 (i2 + 1)) ∧ (¬ s0 = 0 → K_H_cardOf (xl x) (xD x) Λ σ i2 (fun z2 σa2 => (((iAnd i1 z2) = 0 → N_H_reachFromCards_2 x P Λ σa2 c i1 (i2 + 1)) ∧ (¬ (iAnd i1 z2) = 0 → K_O_referenceIn (xl x) (xD x) Λ σa2 c i2 (fun o3r σa3 => K_H_reachYoung (xl x) (xD x) Λ σa3 c o3r (fun σa4 => N_H_reachFromCards_2 x P Λ σa4 c i1 (i2 + 1))))))))) : N_H_reachFromCards_34 x P Λ σ c i1 i2 s0 := by
  obtain ⟨hex, hb, hml, hown, hts, hr, hlk, hR, hnm, hAs, hNW⟩ := hx
  obtain ⟨hLH, ⟨cA1, hLA1⟩, ⟨hLR2, cA3, hLA3⟩, hLO, ⟨cA5, hLA5⟩, ⟨hLR6, cA7, hLA7⟩⟩ := hL
  refine ⟨(), fun hK hA ls H locs hl hP hS => ?_⟩
  refine lv_istore (lv' := [(4, .int (iI s0)), (0, .ref (c 0)), (1, .int (iI i1)), (2, .int (iI i2))]) hex hb d_H_reachFromCards_34 hl (Nat.le_of_ble_eq_true rfl) rfl (fun ls hl => ?_)
  refine lv_iload hex hb d_H_reachFromCards_36 (lv_at hl 0 rfl) ?_
  obtain ⟨h1, T⟩ := T
  obtain ⟨T1, T2⟩ := T
  refine r_if_eq (a := s0) (tgt := 62) hex hb h1 d_H_reachFromCards_38 rfl (fun hc => ?_) (fun hc => ?_)
  · have T := T1 hc
    refine lv_iinc (v := iI (i2 + 1)) (lv' := [(2, .int (iI (i2 + 1))), (4, .int (iI s0)), (0, .ref (c 0)), (1, .int (iI i1))]) hex hb d_H_reachFromCards_62 hl (k := 3) rfl (iI_add _ _) (Nat.le_of_ble_eq_true rfl) rfl (fun ls hl => ?_)
    refine lv_goto (tgt := 2) hex hb d_H_reachFromCards_65 rfl ?_
    exact AtG.use T hK hA _ _ _ (lv_sub hl [2, 3, 0] rfl) hP hS
  · have T := T2 hc
    refine lv_iload_n hex hb d_H_reachFromCards_41 rfl (lv_at hl 2 rfl) ?_
    refine lv_iload_n hex hb d_H_reachFromCards_42 rfl (lv_at hl 3 rfl) ?_
    refine r_call (va_runS (As := [.int (iI i2)]) (rest := [.int (iI i1)]) ⟨hex, hb, hml, hown, hts⟩ (Ct.use T H.size) (cwS 1 hts (gdS bg_144 bg_138 bg_1 bc_H_cardOf) rfl rfl rfl hdV_H_cardOf ⟨by rw [hR]; exact Nat.le_of_ble_eq_true rfl, by rw [hR]; exact Nat.le_of_ble_eq_true rfl⟩) (px_preS hNW hK hP) rfl rfl hl.1 rfl (lv_room (Nat.le_of_ble_eq_true rfl)) d_H_reachFromCards_43 ⟨by rw [hR]; exact Nat.le_of_ble_eq_true rfl, by rw [hR]; exact Nat.le_of_ble_eq_true rfl⟩) hS hA hAs (fun v Λ1 σ1 H locs hp hP hK hA hS => ?_)
    obtain ⟨z2, rfl, rfl, T⟩ := hp
    generalize σ1 = σa2 at hP T
    refine W.eq (g2 := F0 (xm x) 46 ls [.int (iI z2), .int (iI i1)]) rfl ?_
    refine r_iand hex hb d_H_reachFromCards_46 ?_
    obtain ⟨T1, T2⟩ := T
    refine r_if_eq (a := iAnd i1 z2) (tgt := 62) hex hb (rng_and _ _) d_H_reachFromCards_47 rfl (fun hc => ?_) (fun hc => ?_)
    · have T := T1 hc
      refine lv_iinc (v := iI (i2 + 1)) (lv' := [(2, .int (iI (i2 + 1))), (4, .int (iI s0)), (0, .ref (c 0)), (1, .int (iI i1))]) hex hb d_H_reachFromCards_62 hl (k := 3) rfl (iI_add _ _) (Nat.le_of_ble_eq_true rfl) rfl (fun ls hl => ?_)
      refine lv_goto (tgt := 2) hex hb d_H_reachFromCards_65 rfl ?_
      exact AtG.use T hK hA _ _ _ (lv_sub hl [2, 3, 0] rfl) hP hS
    · have T := T2 hc
      refine lv_aload_n hex hb d_H_reachFromCards_50 rfl (lv_at hl 1 rfl) ?_
      refine lv_aload_n hex hb d_H_reachFromCards_51 rfl (lv_at hl 1 rfl) ?_
      refine r_getR (ci := 3) (C := R_H) (T := F_H) (N := 8) hex hb hts (fun w h => List.mem_cons_of_mem _ (in_H w h)) hown hK hP hLH rfl 2 (by decide) (hts _ (List.mem_cons_of_mem _ bg_47)) (fun _ h9 => h9) rfl d_H_reachFromCards_52 ?_
      refine lv_iload_n hex hb d_H_reachFromCards_55 rfl (lv_at hl 3 rfl) ?_
      refine r_call (va_runV (As := [.int (iI i2)]) (rest := [.ref (c 0)]) ⟨hex, hb, hml, hown, hts⟩ (Ct.use T H.size) (cwV 1 hts (gdV bg_145 bg_146 bg_147 bg_3 bc_O_referenceIn) rfl rfl rfl hdV_O_referenceIn ⟨by rw [hR]; exact Nat.le_of_ble_eq_true rfl, by rw [hR]; exact Nat.le_of_ble_eq_true rfl⟩) (px_preV (ci := 0) hNW hK hP hLO rfl) rfl rfl hl.1 rfl (lv_room (Nat.le_of_ble_eq_true rfl)) d_H_reachFromCards_56 ⟨by rw [hR]; exact Nat.le_of_ble_eq_true rfl, by rw [hR]; exact Nat.le_of_ble_eq_true rfl⟩) hS hA hAs (fun v Λ1 σ1 H locs hp hP hK hA hS => ?_)
      obtain ⟨o3r, rfl, rfl, T⟩ := hp
      generalize σ1 = σa3 at hP T
      refine W.eq (g2 := F0 (xm x) 59 ls [va_rf o3r, .ref (c 0)]) rfl ?_
      refine r_call (va_runV (As := [va_rf o3r]) (rest := []) ⟨hex, hb, hml, hown, hts⟩ (Ct.use T H.size) (cwV 1 hts (gdV bg_93 bg_95 bp_2 bg_1 bc_H_reachYoung) rfl rfl rfl hdV_H_reachYoung ⟨by rw [hR]; exact Nat.le_of_ble_eq_true rfl, by rw [hR]; exact Nat.le_of_ble_eq_true rfl⟩) (px_preV (ci := 3) hNW hK hP hLH rfl) rfl rfl hl.1 rfl (lv_room (Nat.le_of_ble_eq_true rfl)) d_H_reachFromCards_59 ⟨by rw [hR]; exact Nat.le_of_ble_eq_true rfl, by rw [hR]; exact Nat.le_of_ble_eq_true rfl⟩) hS hA hAs (fun v Λ1 σ1 H locs hp hP hK hA hS => ?_)
      obtain ⟨rfl, rfl, T⟩ := hp
      generalize σ1 = σa4 at hP T
      refine W.eq (g2 := F0 (xm x) 62 ls []) rfl ?_
      refine lv_iinc (v := iI (i2 + 1)) (lv' := [(2, .int (iI (i2 + 1))), (4, .int (iI s0)), (0, .ref (c 0)), (1, .int (iI i1))]) hex hb d_H_reachFromCards_62 hl (k := 3) rfl (iI_add _ _) (Nat.le_of_ble_eq_true rfl) rfl (fun ls hl => ?_)
      refine lv_goto (tgt := 2) hex hb d_H_reachFromCards_65 rfl ?_
      exact AtG.use T hK hA _ _ _ (lv_sub hl [2, 3, 0] rfl) hP hS
-- DirtyCardHeap.reachFields(LDirtyCardHeap$Thing;)V
def rm_H_reachFields : Room := { frames := 5, cells := 0, slots := 0, locals := 110 }
abbrev X_H_reachFields (x : Cx) : Prop := CxOk x b_H_reachFields 3 wl_H_reachFields R_H none rm_H_reachFields "reachFields"
abbrev K_H_reachFields (l : Launch) (D : va_G) (Λ : Lam) (σ : Mem) (c : Nat → Nat) (a1 : Option Nat) (P : Mem → Prop) : Prop := Ct l D y_H_reachFields wl_H_reachFields rm_H_reachFields [.ref (c 0), va_rf a1] Λ σ (pV Λ P)
abbrev N_H_reachFields_0 (x : Cx) (P : Mem → Prop) (Λ : Lam) (σ : Mem) (c : Nat → Nat) (a1 : Option Nat) : Prop := AtG x (pV Λ P) 3 0 0 0 Λ σ [(0, .ref (c 0)), (1, va_rf a1)] []
abbrev N_H_reachFields_2 (x : Cx) (P : Mem → Prop) (Λ : Lam) (σ : Mem) (c : Nat → Nat) (o1 : Option Nat) (i2 : Int) : Prop := AtG x (pV Λ P) 3 2 0 0 Λ σ [(0, .ref (c 0)), (1, va_rf o1), (2, .int (iI i2))] []
theorem e_H_reachFields {l : Launch} {D : va_G} {Λ : Lam} {σ : Mem} {c : Nat → Nat} {a1 : Option Nat} {P : Mem → Prop} (h : ∀ x : Cx, xl x = l → xD x = D → X_H_reachFields x → N_H_reachFields_0 x P Λ σ c a1) : K_H_reachFields l D Λ σ c a1 P := by cases a1 <;> exact Ct.of (by decide) rfl (Nat.le_of_ble_eq_true rfl) h
set_option maxHeartbeats 4000000 in
set_option maxRecDepth 100000 in
theorem u_H_reachFields_0 {x : Cx} (hx : X_H_reachFields x) {P : Mem → Prop} {Λ : Lam} {σ : Mem} {c : Nat → Nat} {a1 : Option Nat} (hL : LayC Λ c) (T : N_H_reachFields_2 x P Λ σ c a1 0) : N_H_reachFields_0 x P Λ σ c a1 := by
  obtain ⟨hex, hb, hml, hown, hts, hr, hlk, hR, hnm, hAs, hNW⟩ := hx
  obtain ⟨hLH, ⟨cA1, hLA1⟩, ⟨hLR2, cA3, hLA3⟩, hLO, ⟨cA5, hLA5⟩, ⟨hLR6, cA7, hLA7⟩⟩ := hL
  refine ⟨(), fun hK hA ls H locs hl hP hS => ?_⟩
  refine lv_iconst (v := iI 0) hex hb d_H_reachFields_0 rfl ?_
  refine lv_istore_n (lv' := [(2, .int (iI 0)), (0, .ref (c 0)), (1, va_rf a1)]) hex hb d_H_reachFields_1 rfl hl (Nat.le_of_ble_eq_true rfl) (by generalize a1 = zz; cases zz <;> rfl) (fun ls hl => ?_)
  exact AtG.use T hK hA _ _ _ (lv_sub hl [1, 2, 0] rfl) hP hS
set_option maxHeartbeats 4000000 in
set_option maxRecDepth 100000 in
theorem u_H_reachFields_2 {x : Cx} (hx : X_H_reachFields x) {P : Mem → Prop} {Λ : Lam} {σ : Mem} {c : Nat → Nat} {o1 : Option Nat} {i2 : Int} (hL : LayC Λ c) (T : (∃ t1, o1 = some t1 ∧ isT Λ t1 ∧ rng i2 ∧ rng ((nfL Λ t1 : Nat) : Int) ∧ ((((nfL Λ t1 : Nat) : Int) ≤ i2 → P σ) ∧ (¬ ((nfL Λ t1 : Nat) : Int) ≤ i2 → 0 ≤ i2 ∧ i2 < ((nfL Λ t1 : Nat) : Int) ∧ K_H_reachYoung (xl x) (xD x) Λ σ c (σ.2.2 103 (faL Λ t1) i2.toNat) (fun σa8 => N_H_reachFields_2 x P Λ σa8 c (some t1) (i2 + 1)))))) : N_H_reachFields_2 x P Λ σ c o1 i2 := by
  obtain ⟨hex, hb, hml, hown, hts, hr, hlk, hR, hnm, hAs, hNW⟩ := hx
  obtain ⟨hLH, ⟨cA1, hLA1⟩, ⟨hLR2, cA3, hLA3⟩, hLO, ⟨cA5, hLA5⟩, ⟨hLR6, cA7, hLA7⟩⟩ := hL
  refine ⟨(), fun hK hA ls H locs hl hP hS => ?_⟩
  refine lv_iload_n hex hb d_H_reachFields_2 rfl (lv_at hl 2 rfl) ?_
  refine r_aload_n (o := o1) hex hb d_H_reachFields_3 rfl (lv_at hl 1 rfl) ?_
  obtain ⟨t1, ht2, T⟩ := T
  have hl : lv_has ls 3 [(0, .ref (c 0)), (1, .ref t1), (2, .int (iI i2))] := by have h9 := hl; rw [ht2] at h9; exact h9
  rw [ht2]
  obtain ⟨⟨hT3, ⟨cT3, hF3⟩, hn3⟩, T⟩ := T
  refine r_getR (ci := 2) (C := R_T) (T := F_T) (N := 7) hex hb hts (fun w h => List.mem_cons_of_mem _ (in_T w h)) hown hK hP hT3 rfl 1 (by decide) (hts _ (List.mem_cons_of_mem _ bg_232)) (fun _ h9 => h9) rfl d_H_reachFields_4 ?_
  refine r_alen hex hb hK hP hF3 d_H_reachFields_7 ?_
  obtain ⟨h4, T⟩ := T
  obtain ⟨h5, T⟩ := T
  obtain ⟨T1, T2⟩ := T
  refine r_icmp_ge (a := i2) (b := ((nfL Λ t1 : Nat) : Int)) (tgt := 27) hex hb h4 h5 d_H_reachFields_8 rfl (fun hc => ?_) (fun hc => ?_)
  · have T := T1 hc
    exact r_vret hex hb hr hlk hK hA hP hS ⟨rfl, rfl, T⟩ (Nat.zero_le _) (Nat.zero_le _) d_H_reachFields_27
  · have T := T2 hc
    refine lv_aload_n hex hb d_H_reachFields_11 rfl (lv_at hl 0 rfl) ?_
    refine lv_aload_n hex hb d_H_reachFields_12 rfl (lv_at hl 1 rfl) ?_
    refine r_getR (ci := 2) (C := R_T) (T := F_T) (N := 7) hex hb hts (fun w h => List.mem_cons_of_mem _ (in_T w h)) hown hK hP hT3 rfl 1 (by decide) (hts _ (List.mem_cons_of_mem _ bg_232)) (fun _ h9 => h9) rfl d_H_reachFields_13 ?_
    refine lv_iload_n hex hb d_H_reachFields_16 rfl (lv_at hl 2 rfl) ?_
    obtain ⟨h6, T⟩ := T
    obtain ⟨h7, T⟩ := T
    refine r_aald hex hb hK hP hF3 (by decide) (by omega) h6 h7 d_H_reachFields_17 ?_
    refine r_call (va_runV (As := [va_rf (σ.2.2 103 (faL Λ t1) i2.toNat)]) (rest := []) ⟨hex, hb, hml, hown, hts⟩ (Ct.use T H.size) (cwV 1 hts (gdV bg_93 bg_95 bp_2 bg_1 bc_H_reachYoung) rfl rfl rfl hdV_H_reachYoung ⟨by rw [hR]; exact Nat.le_of_ble_eq_true rfl, by rw [hR]; exact Nat.le_of_ble_eq_true rfl⟩) (px_preV (ci := 3) hNW hK hP hLH rfl) rfl rfl hl.1 rfl (lv_room (Nat.le_of_ble_eq_true rfl)) d_H_reachFields_18 ⟨by rw [hR]; exact Nat.le_of_ble_eq_true rfl, by rw [hR]; exact Nat.le_of_ble_eq_true rfl⟩) hS hA hAs (fun v Λ1 σ1 H locs hp hP hK hA hS => ?_)
    obtain ⟨rfl, rfl, T⟩ := hp
    generalize σ1 = σa8 at hP T
    refine W.eq (g2 := F0 (xm x) 21 ls []) rfl ?_
    refine lv_iinc (v := iI (i2 + 1)) (lv' := [(2, .int (iI (i2 + 1))), (0, .ref (c 0)), (1, .ref t1)]) hex hb d_H_reachFields_21 hl (k := 2) rfl (iI_add _ _) (Nat.le_of_ble_eq_true rfl) rfl (fun ls hl => ?_)
    refine lv_goto (tgt := 2) hex hb d_H_reachFields_24 rfl ?_
    exact AtG.use T hK hA _ _ _ (lv_sub hl [1, 2, 0] rfl) hP hS
-- DirtyCardHeap.dropUnreachedYoung()V
def rm_H_dropUnreachedYoung : Room := { frames := 1, cells := 0, slots := 0, locals := 20 }
abbrev X_H_dropUnreachedYoung (x : Cx) : Prop := CxOk x b_H_dropUnreachedYoung 2 wl_H_dropUnreachedYoung R_H none rm_H_dropUnreachedYoung "dropUnreachedYoung"
abbrev K_H_dropUnreachedYoung (l : Launch) (D : va_G) (Λ : Lam) (σ : Mem) (c : Nat → Nat) (P : Mem → Prop) : Prop := Ct l D y_H_dropUnreachedYoung wl_H_dropUnreachedYoung rm_H_dropUnreachedYoung [.ref (c 0)] Λ σ (pV Λ P)
abbrev N_H_dropUnreachedYoung_0 (x : Cx) (P : Mem → Prop) (Λ : Lam) (σ : Mem) (c : Nat → Nat) : Prop := AtG x (pV Λ P) 2 0 0 0 Λ σ [(0, .ref (c 0))] []
abbrev N_H_dropUnreachedYoung_2 (x : Cx) (P : Mem → Prop) (Λ : Lam) (σ : Mem) (c : Nat → Nat) (i1 : Int) : Prop := AtG x (pV Λ P) 2 2 0 0 Λ σ [(0, .ref (c 0)), (1, .int (iI i1))] []
theorem e_H_dropUnreachedYoung {l : Launch} {D : va_G} {Λ : Lam} {σ : Mem} {c : Nat → Nat} {P : Mem → Prop} (h : ∀ x : Cx, xl x = l → xD x = D → X_H_dropUnreachedYoung x → N_H_dropUnreachedYoung_0 x P Λ σ c) : K_H_dropUnreachedYoung l D Λ σ c P := Ct.of (by decide) rfl (Nat.le_of_ble_eq_true rfl) h
set_option maxHeartbeats 4000000 in
set_option maxRecDepth 100000 in
theorem u_H_dropUnreachedYoung_0 {x : Cx} (hx : X_H_dropUnreachedYoung x) {P : Mem → Prop} {Λ : Lam} {σ : Mem} {c : Nat → Nat} (hL : LayC Λ c) (T : N_H_dropUnreachedYoung_2 x P Λ σ c 0) : N_H_dropUnreachedYoung_0 x P Λ σ c := by
  obtain ⟨hex, hb, hml, hown, hts, hr, hlk, hR, hnm, hAs, hNW⟩ := hx
  obtain ⟨hLH, ⟨cA1, hLA1⟩, ⟨hLR2, cA3, hLA3⟩, hLO, ⟨cA5, hLA5⟩, ⟨hLR6, cA7, hLA7⟩⟩ := hL
  refine ⟨(), fun hK hA ls H locs hl hP hS => ?_⟩
  refine lv_iconst (v := iI 0) hex hb d_H_dropUnreachedYoung_0 rfl ?_
  refine lv_istore_n (lv' := [(1, .int (iI 0)), (0, .ref (c 0))]) hex hb d_H_dropUnreachedYoung_1 rfl hl (Nat.le_of_ble_eq_true rfl) rfl (fun ls hl => ?_)
  exact AtG.use T hK hA _ _ _ (lv_sub hl [1, 0] rfl) hP hS
set_option maxHeartbeats 4000000 in
set_option maxRecDepth 100000 in
theorem u_H_dropUnreachedYoung_2 {x : Cx} (hx : X_H_dropUnreachedYoung x) {P : Mem → Prop} {Λ : Lam} {σ : Mem} {c : Nat → Nat} {i1 : Int} (hL : LayC Λ c) (T : rng i1 ∧ rng (σ.1 101 (c 2)) ∧ (((σ.1 101 (c 2)) ≤ i1 → P σ) ∧ (¬ (σ.1 101 (c 2)) ≤ i1 → 0 ≤ i1 ∧ i1 < (20 : Int) ∧ (∃ t5, σ.2.2 101 (c 3) i1.toNat = some t5 ∧ isT Λ t5 ∧ rng (σ.1 206 t5) ∧ ((¬ (σ.1 206 t5) = 0 → N_H_dropUnreachedYoung_2 x P Λ σ c (i1 + 1)) ∧ ((σ.1 206 t5) = 0 → 0 ≤ i1 ∧ i1 < (20 : Int) ∧ K_T_becomeGone (xl x) (xD x) Λ σ t5 (fun σa11 => N_H_dropUnreachedYoung_2 x P Λ σa11 c (i1 + 1)))))))) : N_H_dropUnreachedYoung_2 x P Λ σ c i1 := by
  obtain ⟨hex, hb, hml, hown, hts, hr, hlk, hR, hnm, hAs, hNW⟩ := hx
  obtain ⟨hLH, ⟨cA1, hLA1⟩, ⟨hLR2, cA3, hLA3⟩, hLO, ⟨cA5, hLA5⟩, ⟨hLR6, cA7, hLA7⟩⟩ := hL
  refine ⟨(), fun hK hA ls H locs hl hP hS => ?_⟩
  refine lv_iload_n hex hb d_H_dropUnreachedYoung_2 rfl (lv_at hl 1 rfl) ?_
  refine lv_aload_n hex hb d_H_dropUnreachedYoung_3 rfl (lv_at hl 0 rfl) ?_
  refine r_getR (ci := 3) (C := R_H) (T := F_H) (N := 8) hex hb hts (fun w h => List.mem_cons_of_mem _ (in_H w h)) hown hK hP hLH rfl 1 (by decide) (hts _ (List.mem_cons_of_mem _ bg_46)) (fun _ h9 => h9) rfl d_H_dropUnreachedYoung_4 ?_
  refine r_getI (ci := 1) (C := R_R) (T := F_R) (N := 2) hex hb hts (fun w h => List.mem_cons_of_mem _ (in_R w h)) hown hK hP hLR2 rfl 1 (by decide) (hts _ (List.mem_cons_of_mem _ bg_27)) (fun _ h9 => h9) rfl d_H_dropUnreachedYoung_7 ?_
  obtain ⟨h1, T⟩ := T
  obtain ⟨h2, T⟩ := T
  obtain ⟨T1, T2⟩ := T
  refine r_icmp_ge (a := i1) (b := σ.1 101 (c 2)) (tgt := 46) hex hb h1 h2 d_H_dropUnreachedYoung_10 rfl (fun hc => ?_) (fun hc => ?_)
  · have T := T1 hc
    exact r_vret hex hb hr hlk hK hA hP hS ⟨rfl, rfl, T⟩ (Nat.zero_le _) (Nat.zero_le _) d_H_dropUnreachedYoung_46
  · have T := T2 hc
    refine lv_aload_n hex hb d_H_dropUnreachedYoung_13 rfl (lv_at hl 0 rfl) ?_
    refine r_getR (ci := 3) (C := R_H) (T := F_H) (N := 8) hex hb hts (fun w h => List.mem_cons_of_mem _ (in_H w h)) hown hK hP hLH rfl 1 (by decide) (hts _ (List.mem_cons_of_mem _ bg_46)) (fun _ h9 => h9) rfl d_H_dropUnreachedYoung_14 ?_
    refine r_getR (ci := 1) (C := R_R) (T := F_R) (N := 2) hex hb hts (fun w h => List.mem_cons_of_mem _ (in_R w h)) hown hK hP hLR2 rfl 0 (by decide) (hts _ (List.mem_cons_of_mem _ bg_25)) (fun _ h9 => h9) rfl d_H_dropUnreachedYoung_17 ?_
    refine lv_iload_n hex hb d_H_dropUnreachedYoung_20 rfl (lv_at hl 1 rfl) ?_
    obtain ⟨h3, T⟩ := T
    obtain ⟨h4, T⟩ := T
    refine r_aald hex hb hK hP hLA3 (by decide) (by decide) h3 h4 d_H_dropUnreachedYoung_21 ?_
    obtain ⟨t5, ht6, T⟩ := T
    rw [ht6]
    obtain ⟨⟨hT7, ⟨cT7, hF7⟩, hn7⟩, T⟩ := T
    refine r_getI (ci := 2) (C := R_T) (T := F_T) (N := 7) hex hb hts (fun w h => List.mem_cons_of_mem _ (in_T w h)) hown hK hP hT7 rfl 6 (by decide) (hts _ (List.mem_cons_of_mem _ bg_245)) (fun _ h9 => h9) rfl d_H_dropUnreachedYoung_22 ?_
    obtain ⟨h8, T⟩ := T
    obtain ⟨T1, T2⟩ := T
    refine r_if_ne (a := σ.1 206 t5) (tgt := 40) hex hb h8 d_H_dropUnreachedYoung_25 rfl (fun hc => ?_) (fun hc => ?_)
    · have T := T1 hc
      refine lv_iinc (v := iI (i1 + 1)) (lv' := [(1, .int (iI (i1 + 1))), (0, .ref (c 0))]) hex hb d_H_dropUnreachedYoung_40 hl (k := 1) rfl (iI_add _ _) (Nat.le_of_ble_eq_true rfl) rfl (fun ls hl => ?_)
      refine lv_goto (tgt := 2) hex hb d_H_dropUnreachedYoung_43 rfl ?_
      exact AtG.use T hK hA _ _ _ (lv_sub hl [1, 0] rfl) hP hS
    · have T := T2 hc
      refine lv_aload_n hex hb d_H_dropUnreachedYoung_28 rfl (lv_at hl 0 rfl) ?_
      refine r_getR (ci := 3) (C := R_H) (T := F_H) (N := 8) hex hb hts (fun w h => List.mem_cons_of_mem _ (in_H w h)) hown hK hP hLH rfl 1 (by decide) (hts _ (List.mem_cons_of_mem _ bg_46)) (fun _ h9 => h9) rfl d_H_dropUnreachedYoung_29 ?_
      refine r_getR (ci := 1) (C := R_R) (T := F_R) (N := 2) hex hb hts (fun w h => List.mem_cons_of_mem _ (in_R w h)) hown hK hP hLR2 rfl 0 (by decide) (hts _ (List.mem_cons_of_mem _ bg_25)) (fun _ h9 => h9) rfl d_H_dropUnreachedYoung_32 ?_
      refine lv_iload_n hex hb d_H_dropUnreachedYoung_35 rfl (lv_at hl 1 rfl) ?_
      obtain ⟨h9, T⟩ := T
      obtain ⟨h10, T⟩ := T
      refine r_aald hex hb hK hP hLA3 (by decide) (by decide) h9 h10 d_H_dropUnreachedYoung_36 ?_
      rw [ht6]
      refine r_call (va_runV (As := []) (rest := []) ⟨hex, hb, hml, hown, hts⟩ (Ct.use T H.size) (cwV 0 hts (gdV bg_161 bg_162 bg_163 bg_6 bc_T_becomeGone) rfl rfl rfl hdV_T_becomeGone ⟨by rw [hR]; exact Nat.le_of_ble_eq_true rfl, by rw [hR]; exact Nat.le_of_ble_eq_true rfl⟩) (px_preV (ci := 2) hNW hK hP hT7 rfl) rfl rfl hl.1 rfl (lv_room (Nat.le_of_ble_eq_true rfl)) d_H_dropUnreachedYoung_37 ⟨by rw [hR]; exact Nat.le_of_ble_eq_true rfl, by rw [hR]; exact Nat.le_of_ble_eq_true rfl⟩) hS hA hAs (fun v Λ1 σ1 H locs hp hP hK hA hS => ?_)
      obtain ⟨rfl, rfl, T⟩ := hp
      generalize σ1 = σa11 at hP T
      refine W.eq (g2 := F0 (xm x) 40 ls []) rfl ?_
      refine lv_iinc (v := iI (i1 + 1)) (lv' := [(1, .int (iI (i1 + 1))), (0, .ref (c 0))]) hex hb d_H_dropUnreachedYoung_40 hl (k := 1) rfl (iI_add _ _) (Nat.le_of_ble_eq_true rfl) rfl (fun ls hl => ?_)
      refine lv_goto (tgt := 2) hex hb d_H_dropUnreachedYoung_43 rfl ?_
      exact AtG.use T hK hA _ _ _ (lv_sub hl [1, 0] rfl) hP hS
-- DirtyCardHeap.renewYoungOrder()I
def rm_H_renewYoungOrder : Room := { frames := 1, cells := 0, slots := 0, locals := 21 }
abbrev X_H_renewYoungOrder (x : Cx) : Prop := CxOk x b_H_renewYoungOrder 3 wl_H_renewYoungOrder R_H (some .int) rm_H_renewYoungOrder "renewYoungOrder"
abbrev K_H_renewYoungOrder (l : Launch) (D : va_G) (Λ : Lam) (σ : Mem) (c : Nat → Nat) (P : Int → Mem → Prop) : Prop := Ct l D y_H_renewYoungOrder wl_H_renewYoungOrder rm_H_renewYoungOrder [.ref (c 0)] Λ σ (pI Λ P)
abbrev N_H_renewYoungOrder_0 (x : Cx) (P : Int → Mem → Prop) (Λ : Lam) (σ : Mem) (c : Nat → Nat) : Prop := AtG x (pI Λ P) 3 0 0 0 Λ σ [(0, .ref (c 0))] []
abbrev N_H_renewYoungOrder_11 (x : Cx) (P : Int → Mem → Prop) (Λ : Lam) (σ : Mem) (c : Nat → Nat) (i1 : Int) (i2 : Int) : Prop := AtG x (pI Λ P) 3 11 0 0 Λ σ [(0, .ref (c 0)), (1, .int (iI i1)), (2, .int (iI i2))] []
theorem e_H_renewYoungOrder {l : Launch} {D : va_G} {Λ : Lam} {σ : Mem} {c : Nat → Nat} {P : Int → Mem → Prop} (h : ∀ x : Cx, xl x = l → xD x = D → X_H_renewYoungOrder x → N_H_renewYoungOrder_0 x P Λ σ c) : K_H_renewYoungOrder l D Λ σ c P := Ct.of (by decide) rfl (Nat.le_of_ble_eq_true rfl) h
set_option maxHeartbeats 4000000 in
set_option maxRecDepth 100000 in
theorem u_H_renewYoungOrder_0 {x : Cx} (hx : X_H_renewYoungOrder x) {P : Int → Mem → Prop} {Λ : Lam} {σ : Mem} {c : Nat → Nat} (hL : LayC Λ c) (T : K_R_empty (xl x) (xD x) Λ σ (c 2) (fun σa1 => N_H_renewYoungOrder_11 x P Λ σa1 c 0 0)) : N_H_renewYoungOrder_0 x P Λ σ c := by
  obtain ⟨hex, hb, hml, hown, hts, hr, hlk, hR, hnm, hAs, hNW⟩ := hx
  obtain ⟨hLH, ⟨cA1, hLA1⟩, ⟨hLR2, cA3, hLA3⟩, hLO, ⟨cA5, hLA5⟩, ⟨hLR6, cA7, hLA7⟩⟩ := hL
  refine ⟨(), fun hK hA ls H locs hl hP hS => ?_⟩
  refine lv_aload_n hex hb d_H_renewYoungOrder_0 rfl (lv_at hl 0 rfl) ?_
  refine r_getR (ci := 3) (C := R_H) (T := F_H) (N := 8) hex hb hts (fun w h => List.mem_cons_of_mem _ (in_H w h)) hown hK hP hLH rfl 1 (by decide) (hts _ (List.mem_cons_of_mem _ bg_46)) (fun _ h9 => h9) rfl d_H_renewYoungOrder_1 ?_
  refine r_call (va_runV (As := []) (rest := []) ⟨hex, hb, hml, hown, hts⟩ (Ct.use T H.size) (cwV 0 hts (gdV bg_169 bg_170 bg_171 bg_2 bc_R_empty) rfl rfl rfl hdV_R_empty ⟨by rw [hR]; exact Nat.le_of_ble_eq_true rfl, by rw [hR]; exact Nat.le_of_ble_eq_true rfl⟩) (px_preV (ci := 1) hNW hK hP hLR2 rfl) rfl rfl hl.1 rfl (lv_room (Nat.le_of_ble_eq_true rfl)) d_H_renewYoungOrder_4 ⟨by rw [hR]; exact Nat.le_of_ble_eq_true rfl, by rw [hR]; exact Nat.le_of_ble_eq_true rfl⟩) hS hA hAs (fun v Λ1 σ1 H locs hp hP hK hA hS => ?_)
  obtain ⟨rfl, rfl, T⟩ := hp
  generalize σ1 = σa1 at hP T
  refine W.eq (g2 := F0 (xm x) 7 ls []) rfl ?_
  refine lv_iconst (v := iI 0) hex hb d_H_renewYoungOrder_7 rfl ?_
  refine lv_istore_n (lv' := [(1, .int (iI 0)), (0, .ref (c 0))]) hex hb d_H_renewYoungOrder_8 rfl hl (Nat.le_of_ble_eq_true rfl) rfl (fun ls hl => ?_)
  refine lv_iconst (v := iI 0) hex hb d_H_renewYoungOrder_9 rfl ?_
  refine lv_istore_n (lv' := [(2, .int (iI 0)), (1, .int (iI 0)), (0, .ref (c 0))]) hex hb d_H_renewYoungOrder_10 rfl hl (Nat.le_of_ble_eq_true rfl) rfl (fun ls hl => ?_)
  exact AtG.use T hK hA _ _ _ (lv_sub hl [2, 1, 0] rfl) hP hS
set_option maxHeartbeats 4000000 in
set_option maxRecDepth 100000 in
theorem u_H_renewYoungOrder_11 {x : Cx} (hx : X_H_renewYoungOrder x) {P : Int → Mem → Prop} {Λ : Lam} {σ : Mem} {c : Nat → Nat} {i1 : Int} {i2 : Int} (hL : LayC Λ c) (T : rng i2 ∧ rng (σ.1 101 (c 6)) ∧ (((σ.1 101 (c 6)) ≤ i2 → P i1 σ) ∧ (¬ (σ.1 101 (c 6)) ≤ i2 → 0 ≤ i2 ∧ i2 < (84 : Int) ∧ (∃ t5, σ.2.2 101 (c 7) i2.toNat = some t5 ∧ isT Λ t5 ∧ K_T_isYoung (xl x) (xD x) Λ σ t5 (fun z8 σa8 => rng z8 ∧ ((z8 = 0 → N_H_renewYoungOrder_11 x P Λ σa8 c (i1 + 1) (i2 + 1)) ∧ (¬ z8 = 0 → 0 ≤ i2 ∧ i2 < (84 : Int) ∧ K_R_add (xl x) (xD x) Λ σa8 (c 2) (σa8.2.2 101 (c 7) i2.toNat) (fun z12 σa12 => N_H_renewYoungOrder_11 x P Λ σa12 c i1 (i2 + 1))))))))) : N_H_renewYoungOrder_11 x P Λ σ c i1 i2 := by
  obtain ⟨hex, hb, hml, hown, hts, hr, hlk, hR, hnm, hAs, hNW⟩ := hx
  obtain ⟨hLH, ⟨cA1, hLA1⟩, ⟨hLR2, cA3, hLA3⟩, hLO, ⟨cA5, hLA5⟩, ⟨hLR6, cA7, hLA7⟩⟩ := hL
  refine ⟨(), fun hK hA ls H locs hl hP hS => ?_⟩
  refine lv_iload_n hex hb d_H_renewYoungOrder_11 rfl (lv_at hl 2 rfl) ?_
  refine lv_aload_n hex hb d_H_renewYoungOrder_12 rfl (lv_at hl 0 rfl) ?_
  refine r_getR (ci := 3) (C := R_H) (T := F_H) (N := 8) hex hb hts (fun w h => List.mem_cons_of_mem _ (in_H w h)) hown hK hP hLH rfl 3 (by decide) (hts _ (List.mem_cons_of_mem _ bg_48)) (fun _ h9 => h9) rfl d_H_renewYoungOrder_13 ?_
  refine r_getI (ci := 1) (C := R_R) (T := F_R) (N := 2) hex hb hts (fun w h => List.mem_cons_of_mem _ (in_R w h)) hown hK hP hLR6 rfl 1 (by decide) (hts _ (List.mem_cons_of_mem _ bg_27)) (fun _ h9 => h9) rfl d_H_renewYoungOrder_16 ?_
  obtain ⟨h1, T⟩ := T
  obtain ⟨h2, T⟩ := T
  obtain ⟨T1, T2⟩ := T
  refine r_icmp_ge (a := i2) (b := σ.1 101 (c 6)) (tgt := 66) hex hb h1 h2 d_H_renewYoungOrder_19 rfl (fun hc => ?_) (fun hc => ?_)
  · have T := T1 hc
    refine lv_iload_n hex hb d_H_renewYoungOrder_66 rfl (lv_at hl 1 rfl) ?_
    exact r_iret hex hb hr hlk hK hA hP hS ⟨_, rfl, rfl, T⟩ (Nat.zero_le _) (Nat.zero_le _) d_H_renewYoungOrder_67
  · have T := T2 hc
    refine lv_aload_n hex hb d_H_renewYoungOrder_22 rfl (lv_at hl 0 rfl) ?_
    refine r_getR (ci := 3) (C := R_H) (T := F_H) (N := 8) hex hb hts (fun w h => List.mem_cons_of_mem _ (in_H w h)) hown hK hP hLH rfl 3 (by decide) (hts _ (List.mem_cons_of_mem _ bg_48)) (fun _ h9 => h9) rfl d_H_renewYoungOrder_23 ?_
    refine r_getR (ci := 1) (C := R_R) (T := F_R) (N := 2) hex hb hts (fun w h => List.mem_cons_of_mem _ (in_R w h)) hown hK hP hLR6 rfl 0 (by decide) (hts _ (List.mem_cons_of_mem _ bg_25)) (fun _ h9 => h9) rfl d_H_renewYoungOrder_26 ?_
    refine lv_iload_n hex hb d_H_renewYoungOrder_29 rfl (lv_at hl 2 rfl) ?_
    obtain ⟨h3, T⟩ := T
    obtain ⟨h4, T⟩ := T
    refine r_aald hex hb hK hP hLA7 (by decide) (by decide) h3 h4 d_H_renewYoungOrder_30 ?_
    obtain ⟨t5, ht6, T⟩ := T
    rw [ht6]
    obtain ⟨⟨hT7, ⟨cT7, hF7⟩, hn7⟩, T⟩ := T
    refine r_call (va_runV (As := []) (rest := []) ⟨hex, hb, hml, hown, hts⟩ (Ct.use T H.size) (cwV 0 hts (gdV bg_97 bg_98 bg_99 bg_6 bc_T_isYoung) rfl rfl rfl hdV_T_isYoung ⟨by rw [hR]; exact Nat.le_of_ble_eq_true rfl, by rw [hR]; exact Nat.le_of_ble_eq_true rfl⟩) (px_preV (ci := 2) hNW hK hP hT7 rfl) rfl rfl hl.1 rfl (lv_room (Nat.le_of_ble_eq_true rfl)) d_H_renewYoungOrder_31 ⟨by rw [hR]; exact Nat.le_of_ble_eq_true rfl, by rw [hR]; exact Nat.le_of_ble_eq_true rfl⟩) hS hA hAs (fun v Λ1 σ1 H locs hp hP hK hA hS => ?_)
    obtain ⟨z8, rfl, rfl, T⟩ := hp
    generalize σ1 = σa8 at hP T
    refine W.eq (g2 := F0 (xm x) 34 ls [.int (iI z8)]) rfl ?_
    obtain ⟨h9, T⟩ := T
    obtain ⟨T1, T2⟩ := T
    refine r_if_eq (a := z8) (tgt := 57) hex hb h9 d_H_renewYoungOrder_34 rfl (fun hc => ?_) (fun hc => ?_)
    · have T := T1 hc
      refine lv_iinc (v := iI (i1 + 1)) (lv' := [(1, .int (iI (i1 + 1))), (0, .ref (c 0)), (2, .int (iI i2))]) hex hb d_H_renewYoungOrder_57 hl (k := 1) rfl (iI_add _ _) (Nat.le_of_ble_eq_true rfl) rfl (fun ls hl => ?_)
      refine lv_iinc (v := iI (i2 + 1)) (lv' := [(2, .int (iI (i2 + 1))), (1, .int (iI (i1 + 1))), (0, .ref (c 0))]) hex hb d_H_renewYoungOrder_60 hl (k := 2) rfl (iI_add _ _) (Nat.le_of_ble_eq_true rfl) rfl (fun ls hl => ?_)
      refine lv_goto (tgt := 11) hex hb d_H_renewYoungOrder_63 rfl ?_
      exact AtG.use T hK hA _ _ _ (lv_sub hl [2, 1, 0] rfl) hP hS
    · have T := T2 hc
      refine lv_aload_n hex hb d_H_renewYoungOrder_37 rfl (lv_at hl 0 rfl) ?_
      refine r_getR (ci := 3) (C := R_H) (T := F_H) (N := 8) hex hb hts (fun w h => List.mem_cons_of_mem _ (in_H w h)) hown hK hP hLH rfl 1 (by decide) (hts _ (List.mem_cons_of_mem _ bg_46)) (fun _ h9 => h9) rfl d_H_renewYoungOrder_38 ?_
      refine lv_aload_n hex hb d_H_renewYoungOrder_41 rfl (lv_at hl 0 rfl) ?_
      refine r_getR (ci := 3) (C := R_H) (T := F_H) (N := 8) hex hb hts (fun w h => List.mem_cons_of_mem _ (in_H w h)) hown hK hP hLH rfl 3 (by decide) (hts _ (List.mem_cons_of_mem _ bg_48)) (fun _ h9 => h9) rfl d_H_renewYoungOrder_42 ?_
      refine r_getR (ci := 1) (C := R_R) (T := F_R) (N := 2) hex hb hts (fun w h => List.mem_cons_of_mem _ (in_R w h)) hown hK hP hLR6 rfl 0 (by decide) (hts _ (List.mem_cons_of_mem _ bg_25)) (fun _ h9 => h9) rfl d_H_renewYoungOrder_45 ?_
      refine lv_iload_n hex hb d_H_renewYoungOrder_48 rfl (lv_at hl 2 rfl) ?_
      obtain ⟨h10, T⟩ := T
      obtain ⟨h11, T⟩ := T
      refine r_aald hex hb hK hP hLA7 (by decide) (by decide) h10 h11 d_H_renewYoungOrder_49 ?_
      refine r_call (va_runV (As := [va_rf (σa8.2.2 101 (c 7) i2.toNat)]) (rest := []) ⟨hex, hb, hml, hown, hts⟩ (Ct.use T H.size) (cwV 1 hts (gdV bg_173 bg_106 bg_107 bg_2 bc_R_add) rfl rfl rfl hdV_R_add ⟨by rw [hR]; exact Nat.le_of_ble_eq_true rfl, by rw [hR]; exact Nat.le_of_ble_eq_true rfl⟩) (px_preV (ci := 1) hNW hK hP hLR2 rfl) rfl rfl hl.1 rfl (lv_room (Nat.le_of_ble_eq_true rfl)) d_H_renewYoungOrder_50 ⟨by rw [hR]; exact Nat.le_of_ble_eq_true rfl, by rw [hR]; exact Nat.le_of_ble_eq_true rfl⟩) hS hA hAs (fun v Λ1 σ1 H locs hp hP hK hA hS => ?_)
      obtain ⟨z12, rfl, rfl, T⟩ := hp
      generalize σ1 = σa12 at hP T
      refine W.eq (g2 := F0 (xm x) 53 ls [.int (iI z12)]) rfl ?_
      refine lv_pop hex hb d_H_renewYoungOrder_53 rfl ?_
      refine lv_goto (tgt := 60) hex hb d_H_renewYoungOrder_54 rfl ?_
      refine lv_iinc (v := iI (i2 + 1)) (lv' := [(2, .int (iI (i2 + 1))), (0, .ref (c 0)), (1, .int (iI i1))]) hex hb d_H_renewYoungOrder_60 hl (k := 2) rfl (iI_add _ _) (Nat.le_of_ble_eq_true rfl) rfl (fun ls hl => ?_)
      refine lv_goto (tgt := 11) hex hb d_H_renewYoungOrder_63 rfl ?_
      exact AtG.use T hK hA _ _ _ (lv_sub hl [1, 2, 0] rfl) hP hS
-- DirtyCardHeap.cleanCards()V
def rm_H_cleanCards : Room := { frames := 3, cells := 0, slots := 0, locals := 67 }
abbrev X_H_cleanCards (x : Cx) : Prop := CxOk x b_H_cleanCards 2 wl_H_cleanCards R_H none rm_H_cleanCards "cleanCards"
abbrev K_H_cleanCards (l : Launch) (D : va_G) (Λ : Lam) (σ : Mem) (c : Nat → Nat) (P : Mem → Prop) : Prop := Ct l D y_H_cleanCards wl_H_cleanCards rm_H_cleanCards [.ref (c 0)] Λ σ (pV Λ P)
abbrev N_H_cleanCards_0 (x : Cx) (P : Mem → Prop) (Λ : Lam) (σ : Mem) (c : Nat → Nat) : Prop := AtG x (pV Λ P) 2 0 0 0 Λ σ [(0, .ref (c 0))] []
theorem e_H_cleanCards {l : Launch} {D : va_G} {Λ : Lam} {σ : Mem} {c : Nat → Nat} {P : Mem → Prop} (h : ∀ x : Cx, xl x = l → xD x = D → X_H_cleanCards x → N_H_cleanCards_0 x P Λ σ c) : K_H_cleanCards l D Λ σ c P := Ct.of (by decide) rfl (Nat.le_of_ble_eq_true rfl) h
set_option maxHeartbeats 4000000 in
set_option maxRecDepth 100000 in
theorem u_H_cleanCards_0 {x : Cx} (hx : X_H_cleanCards x) {P : Mem → Prop} {Λ : Lam} {σ : Mem} {c : Nat → Nat} (hL : LayC Λ c) (T : K_O_cardsReferringToYoung (xl x) (xD x) Λ σ c (fun z1 σa1 => rng ((upI σa1 304 (c 0) (iAnd (σa1.1 304 (c 0)) (iXor (iAnd (σ.1 304 (c 0)) (iXor z1 (-1))) (-1)))).1 306 (c 0)) ∧ ((¬ ((upI σa1 304 (c 0) (iAnd (σa1.1 304 (c 0)) (iXor (iAnd (σ.1 304 (c 0)) (iXor z1 (-1))) (-1)))).1 306 (c 0)) = 1 → P (upI σa1 304 (c 0) (iAnd (σa1.1 304 (c 0)) (iXor (iAnd (σ.1 304 (c 0)) (iXor z1 (-1))) (-1))))) ∧ (((upI σa1 304 (c 0) (iAnd (σa1.1 304 (c 0)) (iXor (iAnd (σ.1 304 (c 0)) (iXor z1 (-1))) (-1)))).1 306 (c 0)) = 1 → P (upI (upI σa1 304 (c 0) (iAnd (σa1.1 304 (c 0)) (iXor (iAnd (σ.1 304 (c 0)) (iXor z1 (-1))) (-1)))) 305 (c 0) (iOr ((upI σa1 304 (c 0) (iAnd (σa1.1 304 (c 0)) (iXor (iAnd (σ.1 304 (c 0)) (iXor z1 (-1))) (-1)))).1 305 (c 0)) (iAnd (σ.1 304 (c 0)) (iXor z1 (-1))))))))) : N_H_cleanCards_0 x P Λ σ c := by
  obtain ⟨hex, hb, hml, hown, hts, hr, hlk, hR, hnm, hAs, hNW⟩ := hx
  obtain ⟨hLH, ⟨cA1, hLA1⟩, ⟨hLR2, cA3, hLA3⟩, hLO, ⟨cA5, hLA5⟩, ⟨hLR6, cA7, hLA7⟩⟩ := hL
  refine ⟨(), fun hK hA ls H locs hl hP hS => ?_⟩
  refine lv_aload_n hex hb d_H_cleanCards_0 rfl (lv_at hl 0 rfl) ?_
  refine r_getI (ci := 3) (C := R_H) (T := F_H) (N := 8) hex hb hts (fun w h => List.mem_cons_of_mem _ (in_H w h)) hown hK hP hLH rfl 4 (by decide) (hts _ (List.mem_cons_of_mem _ bg_49)) (fun _ h9 => h9) rfl d_H_cleanCards_1 ?_
  refine lv_aload_n hex hb d_H_cleanCards_4 rfl (lv_at hl 0 rfl) ?_
  refine r_getR (ci := 3) (C := R_H) (T := F_H) (N := 8) hex hb hts (fun w h => List.mem_cons_of_mem _ (in_H w h)) hown hK hP hLH rfl 2 (by decide) (hts _ (List.mem_cons_of_mem _ bg_47)) (fun _ h9 => h9) rfl d_H_cleanCards_5 ?_
  refine r_call (va_runV (As := []) (rest := [.int (iI (σ.1 304 (c 0)))]) ⟨hex, hb, hml, hown, hts⟩ (Ct.use T H.size) (cwV 0 hts (gdV bg_182 bg_183 bg_184 bg_3 bc_O_cardsReferringToYoung) rfl rfl rfl hdV_O_cardsReferringToYoung ⟨by rw [hR]; exact Nat.le_of_ble_eq_true rfl, by rw [hR]; exact Nat.le_of_ble_eq_true rfl⟩) (px_preV (ci := 0) hNW hK hP hLO rfl) rfl rfl hl.1 rfl (lv_room (Nat.le_of_ble_eq_true rfl)) d_H_cleanCards_8 ⟨by rw [hR]; exact Nat.le_of_ble_eq_true rfl, by rw [hR]; exact Nat.le_of_ble_eq_true rfl⟩) hS hA hAs (fun v Λ1 σ1 H locs hp hP hK hA hS => ?_)
  obtain ⟨z1, rfl, rfl, T⟩ := hp
  generalize σ1 = σa1 at hP T
  refine W.eq (g2 := F0 (xm x) 11 ls [.int (iI z1), .int (iI (σ.1 304 (c 0)))]) rfl ?_
  refine lv_iconst (v := iI (-1)) hex hb d_H_cleanCards_11 rfl ?_
  refine r_ixor hex hb d_H_cleanCards_12 ?_
  refine r_iand hex hb d_H_cleanCards_13 ?_
  refine lv_istore_n (lv' := [(1, .int (iI (iAnd (σ.1 304 (c 0)) (iXor z1 (-1))))), (0, .ref (c 0))]) hex hb d_H_cleanCards_14 rfl hl (Nat.le_of_ble_eq_true rfl) rfl (fun ls hl => ?_)
  refine lv_aload_n hex hb d_H_cleanCards_15 rfl (lv_at hl 1 rfl) ?_
  refine lv_dup hex hb d_H_cleanCards_16 rfl ?_
  refine r_getI (ci := 3) (C := R_H) (T := F_H) (N := 8) hex hb hts (fun w h => List.mem_cons_of_mem _ (in_H w h)) hown hK hP hLH rfl 4 (by decide) (hts _ (List.mem_cons_of_mem _ bg_49)) (fun _ h9 => h9) rfl d_H_cleanCards_17 ?_
  refine lv_iload_n hex hb d_H_cleanCards_20 rfl (lv_at hl 0 rfl) ?_
  refine lv_iconst (v := iI (-1)) hex hb d_H_cleanCards_21 rfl ?_
  refine r_ixor hex hb d_H_cleanCards_22 ?_
  refine r_iand hex hb d_H_cleanCards_23 ?_
  refine r_putI (ci := 3) (C := R_H) (T := F_H) (N := 8) (v := iAnd (σa1.1 304 (c 0)) (iXor (iAnd (σ.1 304 (c 0)) (iXor z1 (-1))) (-1))) (ty := .int) hex hb hts (fun w h => List.mem_cons_of_mem _ (in_H w h)) tq_H tq_H_ok n_H hown hK hP hA hS hLH rfl 4 (by decide) (hts _ (List.mem_cons_of_mem _ bg_49)) (fun _ h9 => h9) rfl (by decide +kernel) rfl rfl rfl d_H_cleanCards_24 (fun H locs hP hS => ?_)
  refine lv_aload_n hex hb d_H_cleanCards_27 rfl (lv_at hl 1 rfl) ?_
  refine r_getI (ci := 3) (C := R_H) (T := F_H) (N := 8) hex hb hts (fun w h => List.mem_cons_of_mem _ (in_H w h)) hown hK hP hLH rfl 6 (by decide) (hts _ (List.mem_cons_of_mem _ bg_51)) (fun _ h9 => h9) rfl d_H_cleanCards_28 ?_
  refine lv_iconst (v := iI 1) hex hb d_H_cleanCards_31 rfl ?_
  obtain ⟨h2, T⟩ := T
  obtain ⟨T1, T2⟩ := T
  refine r_icmp_ne (a := (upI σa1 304 (c 0) (iAnd (σa1.1 304 (c 0)) (iXor (iAnd (σ.1 304 (c 0)) (iXor z1 (-1))) (-1)))).1 306 (c 0)) (b := 1) (tgt := 45) hex hb h2 ⟨by omega, by omega⟩ d_H_cleanCards_32 rfl (fun hc => ?_) (fun hc => ?_)
  · have T := T1 hc
    exact r_vret hex hb hr hlk hK hA hP hS ⟨rfl, rfl, T⟩ (Nat.zero_le _) (Nat.zero_le _) d_H_cleanCards_45
  · have T := T2 hc
    refine lv_aload_n hex hb d_H_cleanCards_35 rfl (lv_at hl 1 rfl) ?_
    refine lv_dup hex hb d_H_cleanCards_36 rfl ?_
    refine r_getI (ci := 3) (C := R_H) (T := F_H) (N := 8) hex hb hts (fun w h => List.mem_cons_of_mem _ (in_H w h)) hown hK hP hLH rfl 5 (by decide) (hts _ (List.mem_cons_of_mem _ bg_50)) (fun _ h9 => h9) rfl d_H_cleanCards_37 ?_
    refine lv_iload_n hex hb d_H_cleanCards_40 rfl (lv_at hl 0 rfl) ?_
    refine r_ior hex hb d_H_cleanCards_41 ?_
    refine r_putI (ci := 3) (C := R_H) (T := F_H) (N := 8) (v := iOr ((upI σa1 304 (c 0) (iAnd (σa1.1 304 (c 0)) (iXor (iAnd (σ.1 304 (c 0)) (iXor z1 (-1))) (-1)))).1 305 (c 0)) (iAnd (σ.1 304 (c 0)) (iXor z1 (-1)))) (ty := .int) hex hb hts (fun w h => List.mem_cons_of_mem _ (in_H w h)) tq_H tq_H_ok n_H hown hK hP hA hS hLH rfl 5 (by decide) (hts _ (List.mem_cons_of_mem _ bg_50)) (fun _ h9 => h9) rfl (by decide +kernel) rfl rfl rfl d_H_cleanCards_42 (fun H locs hP hS => ?_)
    exact r_vret hex hb hr hlk hK hA hP hS ⟨rfl, rfl, T⟩ (Nat.zero_le _) (Nat.zero_le _) d_H_cleanCards_45
set_option maxRecDepth 100000 in
theorem w_H_cleanCards {l : Launch} {D : va_G} {Λ : Lam} {σ : Mem} {c : Nat → Nat} {P : Mem → Prop} (hL : LayC Λ c) (T : K_O_cardsReferringToYoung l D Λ σ c (fun z1 σa1 => rng ((upI σa1 304 (c 0) (iAnd (σa1.1 304 (c 0)) (iXor (iAnd (σ.1 304 (c 0)) (iXor z1 (-1))) (-1)))).1 306 (c 0)) ∧ ((¬ ((upI σa1 304 (c 0) (iAnd (σa1.1 304 (c 0)) (iXor (iAnd (σ.1 304 (c 0)) (iXor z1 (-1))) (-1)))).1 306 (c 0)) = 1 → P (upI σa1 304 (c 0) (iAnd (σa1.1 304 (c 0)) (iXor (iAnd (σ.1 304 (c 0)) (iXor z1 (-1))) (-1))))) ∧ (((upI σa1 304 (c 0) (iAnd (σa1.1 304 (c 0)) (iXor (iAnd (σ.1 304 (c 0)) (iXor z1 (-1))) (-1)))).1 306 (c 0)) = 1 → P (upI (upI σa1 304 (c 0) (iAnd (σa1.1 304 (c 0)) (iXor (iAnd (σ.1 304 (c 0)) (iXor z1 (-1))) (-1)))) 305 (c 0) (iOr ((upI σa1 304 (c 0) (iAnd (σa1.1 304 (c 0)) (iXor (iAnd (σ.1 304 (c 0)) (iXor z1 (-1))) (-1)))).1 305 (c 0)) (iAnd (σ.1 304 (c 0)) (iXor z1 (-1))))))))) : K_H_cleanCards l D Λ σ c P := e_H_cleanCards (fun x hl hD hx => by subst hl; subst hD; exact u_H_cleanCards_0 hx hL T)
-- DirtyCardHeap.collectYoung()I
def rm_H_collectYoung : Room := { frames := 6, cells := 0, slots := 0, locals := 134 }
abbrev X_H_collectYoung (x : Cx) : Prop := CxOk x b_H_collectYoung 3 wl_H_collectYoung R_H (some .int) rm_H_collectYoung "collectYoung"
abbrev K_H_collectYoung (l : Launch) (D : va_G) (Λ : Lam) (σ : Mem) (c : Nat → Nat) (P : Int → Mem → Prop) : Prop := Ct l D y_H_collectYoung wl_H_collectYoung rm_H_collectYoung [.ref (c 0)] Λ σ (pI Λ P)
abbrev N_H_collectYoung_0 (x : Cx) (P : Int → Mem → Prop) (Λ : Lam) (σ : Mem) (c : Nat → Nat) : Prop := AtG x (pI Λ P) 3 0 0 0 Λ σ [(0, .ref (c 0))] []
abbrev N_H_collectYoung_7 (x : Cx) (P : Int → Mem → Prop) (Λ : Lam) (σ : Mem) (c : Nat → Nat) (i1 : Int) (i2 : Int) : Prop := AtG x (pI Λ P) 3 7 0 0 Λ σ [(0, .ref (c 0)), (1, .int (iI i1)), (2, .int (iI i2))] []
abbrev N_H_collectYoung_36 (x : Cx) (P : Int → Mem → Prop) (Λ : Lam) (σ : Mem) (c : Nat → Nat) (i2 : Int) : Prop := AtG x (pI Λ P) 3 36 0 0 Λ σ [(0, .ref (c 0)), (2, .int (iI i2))] []
abbrev N_H_collectYoung_72 (x : Cx) (P : Int → Mem → Prop) (Λ : Lam) (σ : Mem) (c : Nat → Nat) : Prop := AtG x (pI Λ P) 3 72 0 0 Λ σ [(0, .ref (c 0))] []
theorem e_H_collectYoung {l : Launch} {D : va_G} {Λ : Lam} {σ : Mem} {c : Nat → Nat} {P : Int → Mem → Prop} (h : ∀ x : Cx, xl x = l → xD x = D → X_H_collectYoung x → N_H_collectYoung_0 x P Λ σ c) : K_H_collectYoung l D Λ σ c P := Ct.of (by decide) rfl (Nat.le_of_ble_eq_true rfl) h
set_option maxHeartbeats 4000000 in
set_option maxRecDepth 100000 in
theorem u_H_collectYoung_0 {x : Cx} (hx : X_H_collectYoung x) {P : Int → Mem → Prop} {Λ : Lam} {σ : Mem} {c : Nat → Nat} (hL : LayC Λ c) (T : N_H_collectYoung_7 x P Λ σ c (σ.1 304 (c 0)) 0) : N_H_collectYoung_0 x P Λ σ c := by
  obtain ⟨hex, hb, hml, hown, hts, hr, hlk, hR, hnm, hAs, hNW⟩ := hx
  obtain ⟨hLH, ⟨cA1, hLA1⟩, ⟨hLR2, cA3, hLA3⟩, hLO, ⟨cA5, hLA5⟩, ⟨hLR6, cA7, hLA7⟩⟩ := hL
  refine ⟨(), fun hK hA ls H locs hl hP hS => ?_⟩
  refine lv_aload_n hex hb d_H_collectYoung_0 rfl (lv_at hl 0 rfl) ?_
  refine r_getI (ci := 3) (C := R_H) (T := F_H) (N := 8) hex hb hts (fun w h => List.mem_cons_of_mem _ (in_H w h)) hown hK hP hLH rfl 4 (by decide) (hts _ (List.mem_cons_of_mem _ bg_49)) (fun _ h9 => h9) rfl d_H_collectYoung_1 ?_
  refine lv_istore_n (lv' := [(1, .int (iI (σ.1 304 (c 0)))), (0, .ref (c 0))]) hex hb d_H_collectYoung_4 rfl hl (Nat.le_of_ble_eq_true rfl) rfl (fun ls hl => ?_)
  refine lv_iconst (v := iI 0) hex hb d_H_collectYoung_5 rfl ?_
  refine lv_istore_n (lv' := [(2, .int (iI 0)), (1, .int (iI (σ.1 304 (c 0)))), (0, .ref (c 0))]) hex hb d_H_collectYoung_6 rfl hl (Nat.le_of_ble_eq_true rfl) rfl (fun ls hl => ?_)
  exact AtG.use T hK hA _ _ _ (lv_sub hl [2, 1, 0] rfl) hP hS
set_option maxHeartbeats 4000000 in
set_option maxRecDepth 100000 in
theorem u_H_collectYoung_7 {x : Cx} (hx : X_H_collectYoung x) {P : Int → Mem → Prop} {Λ : Lam} {σ : Mem} {c : Nat → Nat} {i1 : Int} {i2 : Int} (hL : LayC Λ c) (T : rng i2 ∧ ((6 ≤ i2 → K_H_reachFromCards (xl x) (xD x) Λ σ c i1 (fun σa2 => N_H_collectYoung_36 x P Λ σa2 c 0)) ∧ (¬ 6 ≤ i2 → 0 ≤ i2 ∧ i2 < (6 : Int) ∧ K_H_reachYoung (xl x) (xD x) Λ σ c (σ.2.2 100 (c 1) i2.toNat) (fun σa5 => N_H_collectYoung_7 x P Λ σa5 c i1 (i2 + 1))))) : N_H_collectYoung_7 x P Λ σ c i1 i2 := by
  obtain ⟨hex, hb, hml, hown, hts, hr, hlk, hR, hnm, hAs, hNW⟩ := hx
  obtain ⟨hLH, ⟨cA1, hLA1⟩, ⟨hLR2, cA3, hLA3⟩, hLO, ⟨cA5, hLA5⟩, ⟨hLR6, cA7, hLA7⟩⟩ := hL
  refine ⟨(), fun hK hA ls H locs hl hP hS => ?_⟩
  refine lv_iload_n hex hb d_H_collectYoung_7 rfl (lv_at hl 2 rfl) ?_
  refine lv_bipush (v := iI 6) hex hb d_H_collectYoung_8 rfl ?_
  obtain ⟨h1, T⟩ := T
  obtain ⟨T1, T2⟩ := T
  refine r_icmp_ge (a := i2) (b := 6) (tgt := 29) hex hb h1 ⟨by omega, by omega⟩ d_H_collectYoung_10 rfl (fun hc => ?_) (fun hc => ?_)
  · have T := T1 hc
    refine lv_aload_n hex hb d_H_collectYoung_29 rfl (lv_at hl 0 rfl) ?_
    refine lv_iload_n hex hb d_H_collectYoung_30 rfl (lv_at hl 1 rfl) ?_
    refine r_call (va_runV (As := [.int (iI i1)]) (rest := []) ⟨hex, hb, hml, hown, hts⟩ (Ct.use T H.size) (cwV 1 hts (gdV bg_140 bg_142 bp_5 bg_1 bc_H_reachFromCards) rfl rfl rfl hdV_H_reachFromCards ⟨by rw [hR]; exact Nat.le_of_ble_eq_true rfl, by rw [hR]; exact Nat.le_of_ble_eq_true rfl⟩) (px_preV (ci := 3) hNW hK hP hLH rfl) rfl rfl hl.1 rfl (lv_room (Nat.le_of_ble_eq_true rfl)) d_H_collectYoung_31 ⟨by rw [hR]; exact Nat.le_of_ble_eq_true rfl, by rw [hR]; exact Nat.le_of_ble_eq_true rfl⟩) hS hA hAs (fun v Λ1 σ1 H locs hp hP hK hA hS => ?_)
    obtain ⟨rfl, rfl, T⟩ := hp
    generalize σ1 = σa2 at hP T
    refine W.eq (g2 := F0 (xm x) 34 ls []) rfl ?_
    refine lv_iconst (v := iI 0) hex hb d_H_collectYoung_34 rfl ?_
    refine lv_istore_n (lv' := [(2, .int (iI 0)), (0, .ref (c 0)), (1, .int (iI i1))]) hex hb d_H_collectYoung_35 rfl hl (Nat.le_of_ble_eq_true rfl) rfl (fun ls hl => ?_)
    exact AtG.use T hK hA _ _ _ (lv_sub hl [1, 0] rfl) hP hS
  · have T := T2 hc
    refine lv_aload_n hex hb d_H_collectYoung_13 rfl (lv_at hl 0 rfl) ?_
    refine lv_aload_n hex hb d_H_collectYoung_14 rfl (lv_at hl 0 rfl) ?_
    refine r_getR (ci := 3) (C := R_H) (T := F_H) (N := 8) hex hb hts (fun w h => List.mem_cons_of_mem _ (in_H w h)) hown hK hP hLH rfl 0 (by decide) (hts _ (List.mem_cons_of_mem _ bg_45)) (fun _ h9 => h9) rfl d_H_collectYoung_15 ?_
    refine lv_iload_n hex hb d_H_collectYoung_18 rfl (lv_at hl 2 rfl) ?_
    obtain ⟨h3, T⟩ := T
    obtain ⟨h4, T⟩ := T
    refine r_aald hex hb hK hP hLA1 (by decide) (by decide) h3 h4 d_H_collectYoung_19 ?_
    refine r_call (va_runV (As := [va_rf (σ.2.2 100 (c 1) i2.toNat)]) (rest := []) ⟨hex, hb, hml, hown, hts⟩ (Ct.use T H.size) (cwV 1 hts (gdV bg_93 bg_95 bp_2 bg_1 bc_H_reachYoung) rfl rfl rfl hdV_H_reachYoung ⟨by rw [hR]; exact Nat.le_of_ble_eq_true rfl, by rw [hR]; exact Nat.le_of_ble_eq_true rfl⟩) (px_preV (ci := 3) hNW hK hP hLH rfl) rfl rfl hl.1 rfl (lv_room (Nat.le_of_ble_eq_true rfl)) d_H_collectYoung_20 ⟨by rw [hR]; exact Nat.le_of_ble_eq_true rfl, by rw [hR]; exact Nat.le_of_ble_eq_true rfl⟩) hS hA hAs (fun v Λ1 σ1 H locs hp hP hK hA hS => ?_)
    obtain ⟨rfl, rfl, T⟩ := hp
    generalize σ1 = σa5 at hP T
    refine W.eq (g2 := F0 (xm x) 23 ls []) rfl ?_
    refine lv_iinc (v := iI (i2 + 1)) (lv' := [(2, .int (iI (i2 + 1))), (0, .ref (c 0)), (1, .int (iI i1))]) hex hb d_H_collectYoung_23 hl (k := 2) rfl (iI_add _ _) (Nat.le_of_ble_eq_true rfl) rfl (fun ls hl => ?_)
    refine lv_goto (tgt := 7) hex hb d_H_collectYoung_26 rfl ?_
    exact AtG.use T hK hA _ _ _ (lv_sub hl [1, 2, 0] rfl) hP hS
set_option maxHeartbeats 4000000 in
set_option maxRecDepth 100000 in
theorem u_H_collectYoung_36 {x : Cx} (hx : X_H_collectYoung x) {P : Int → Mem → Prop} {Λ : Lam} {σ : Mem} {c : Nat → Nat} {i2 : Int} (hL : LayC Λ c) (T : rng i2 ∧ ((84 ≤ i2 → N_H_collectYoung_72 x P Λ σ c) ∧ (¬ 84 ≤ i2 → rng (σ.1 101 (c 6)) ∧ (((σ.1 101 (c 6)) ≤ i2 → N_H_collectYoung_72 x P Λ σ c) ∧ (¬ (σ.1 101 (c 6)) ≤ i2 → 0 ≤ i2 ∧ i2 < (84 : Int) ∧ K_H_reachFields (xl x) (xD x) Λ σ c (σ.2.2 101 (c 7) i2.toNat) (fun σa5 => N_H_collectYoung_36 x P Λ σa5 c (i2 + 1))))))) : N_H_collectYoung_36 x P Λ σ c i2 := by
  obtain ⟨hex, hb, hml, hown, hts, hr, hlk, hR, hnm, hAs, hNW⟩ := hx
  obtain ⟨hLH, ⟨cA1, hLA1⟩, ⟨hLR2, cA3, hLA3⟩, hLO, ⟨cA5, hLA5⟩, ⟨hLR6, cA7, hLA7⟩⟩ := hL
  refine ⟨(), fun hK hA ls H locs hl hP hS => ?_⟩
  refine lv_iload_n hex hb d_H_collectYoung_36 rfl (lv_at hl 1 rfl) ?_
  refine lv_bipush (v := iI 84) hex hb d_H_collectYoung_37 rfl ?_
  obtain ⟨h1, T⟩ := T
  obtain ⟨T1, T2⟩ := T
  refine r_icmp_ge (a := i2) (b := 84) (tgt := 72) hex hb h1 ⟨by omega, by omega⟩ d_H_collectYoung_39 rfl (fun hc => ?_) (fun hc => ?_)
  · have T := T1 hc
    exact AtG.use T hK hA _ _ _ (lv_sub hl [0] rfl) hP hS
  · have T := T2 hc
    refine lv_iload_n hex hb d_H_collectYoung_42 rfl (lv_at hl 1 rfl) ?_
    refine lv_aload_n hex hb d_H_collectYoung_43 rfl (lv_at hl 0 rfl) ?_
    refine r_getR (ci := 3) (C := R_H) (T := F_H) (N := 8) hex hb hts (fun w h => List.mem_cons_of_mem _ (in_H w h)) hown hK hP hLH rfl 3 (by decide) (hts _ (List.mem_cons_of_mem _ bg_48)) (fun _ h9 => h9) rfl d_H_collectYoung_44 ?_
    refine r_getI (ci := 1) (C := R_R) (T := F_R) (N := 2) hex hb hts (fun w h => List.mem_cons_of_mem _ (in_R w h)) hown hK hP hLR6 rfl 1 (by decide) (hts _ (List.mem_cons_of_mem _ bg_27)) (fun _ h9 => h9) rfl d_H_collectYoung_47 ?_
    obtain ⟨h2, T⟩ := T
    obtain ⟨T1, T2⟩ := T
    refine r_icmp_ge (a := i2) (b := σ.1 101 (c 6)) (tgt := 72) hex hb h1 h2 d_H_collectYoung_50 rfl (fun hc => ?_) (fun hc => ?_)
    · have T := T1 hc
      exact AtG.use T hK hA _ _ _ (lv_sub hl [0] rfl) hP hS
    · have T := T2 hc
      refine lv_aload_n hex hb d_H_collectYoung_53 rfl (lv_at hl 0 rfl) ?_
      refine lv_aload_n hex hb d_H_collectYoung_54 rfl (lv_at hl 0 rfl) ?_
      refine r_getR (ci := 3) (C := R_H) (T := F_H) (N := 8) hex hb hts (fun w h => List.mem_cons_of_mem _ (in_H w h)) hown hK hP hLH rfl 3 (by decide) (hts _ (List.mem_cons_of_mem _ bg_48)) (fun _ h9 => h9) rfl d_H_collectYoung_55 ?_
      refine r_getR (ci := 1) (C := R_R) (T := F_R) (N := 2) hex hb hts (fun w h => List.mem_cons_of_mem _ (in_R w h)) hown hK hP hLR6 rfl 0 (by decide) (hts _ (List.mem_cons_of_mem _ bg_25)) (fun _ h9 => h9) rfl d_H_collectYoung_58 ?_
      refine lv_iload_n hex hb d_H_collectYoung_61 rfl (lv_at hl 1 rfl) ?_
      obtain ⟨h3, T⟩ := T
      obtain ⟨h4, T⟩ := T
      refine r_aald hex hb hK hP hLA7 (by decide) (by decide) h3 h4 d_H_collectYoung_62 ?_
      refine r_call (va_runV (As := [va_rf (σ.2.2 101 (c 7) i2.toNat)]) (rest := []) ⟨hex, hb, hml, hown, hts⟩ (Ct.use T H.size) (cwV 1 hts (gdV bg_153 bg_155 bp_6 bg_1 bc_H_reachFields) rfl rfl rfl hdV_H_reachFields ⟨by rw [hR]; exact Nat.le_of_ble_eq_true rfl, by rw [hR]; exact Nat.le_of_ble_eq_true rfl⟩) (px_preV (ci := 3) hNW hK hP hLH rfl) rfl rfl hl.1 rfl (lv_room (Nat.le_of_ble_eq_true rfl)) d_H_collectYoung_63 ⟨by rw [hR]; exact Nat.le_of_ble_eq_true rfl, by rw [hR]; exact Nat.le_of_ble_eq_true rfl⟩) hS hA hAs (fun v Λ1 σ1 H locs hp hP hK hA hS => ?_)
      obtain ⟨rfl, rfl, T⟩ := hp
      generalize σ1 = σa5 at hP T
      refine W.eq (g2 := F0 (xm x) 66 ls []) rfl ?_
      refine lv_iinc (v := iI (i2 + 1)) (lv' := [(2, .int (iI (i2 + 1))), (0, .ref (c 0))]) hex hb d_H_collectYoung_66 hl (k := 1) rfl (iI_add _ _) (Nat.le_of_ble_eq_true rfl) rfl (fun ls hl => ?_)
      refine lv_goto (tgt := 36) hex hb d_H_collectYoung_69 rfl ?_
      exact AtG.use T hK hA _ _ _ (lv_sub hl [1, 0] rfl) hP hS
set_option maxHeartbeats 4000000 in
set_option maxRecDepth 100000 in
theorem u_H_collectYoung_72 {x : Cx} (hx : X_H_collectYoung x) {P : Int → Mem → Prop} {Λ : Lam} {σ : Mem} {c : Nat → Nat} (hL : LayC Λ c) (T : K_H_dropUnreachedYoung (xl x) (xD x) Λ σ c (fun σa1 => K_H_renewYoungOrder (xl x) (xD x) Λ σa1 c (fun z2 σa2 => K_R_letGo (xl x) (xD x) Λ σa2 (c 6) (fun σa3 => K_H_cleanCards (xl x) (xD x) Λ σa3 c (fun σa4 => P z2 σa4))))) : N_H_collectYoung_72 x P Λ σ c := by
  obtain ⟨hex, hb, hml, hown, hts, hr, hlk, hR, hnm, hAs, hNW⟩ := hx
  obtain ⟨hLH, ⟨cA1, hLA1⟩, ⟨hLR2, cA3, hLA3⟩, hLO, ⟨cA5, hLA5⟩, ⟨hLR6, cA7, hLA7⟩⟩ := hL
  refine ⟨(), fun hK hA ls H locs hl hP hS => ?_⟩
  refine lv_aload_n hex hb d_H_collectYoung_72 rfl (lv_at hl 0 rfl) ?_
  refine r_call (va_runV (As := []) (rest := []) ⟨hex, hb, hml, hown, hts⟩ (Ct.use T H.size) (cwV 0 hts (gdV bg_157 bg_159 bp_7 bg_1 bc_H_dropUnreachedYoung) rfl rfl rfl hdV_H_dropUnreachedYoung ⟨by rw [hR]; exact Nat.le_of_ble_eq_true rfl, by rw [hR]; exact Nat.le_of_ble_eq_true rfl⟩) (px_preV (ci := 3) hNW hK hP hLH rfl) rfl rfl hl.1 rfl (lv_room (Nat.le_of_ble_eq_true rfl)) d_H_collectYoung_73 ⟨by rw [hR]; exact Nat.le_of_ble_eq_true rfl, by rw [hR]; exact Nat.le_of_ble_eq_true rfl⟩) hS hA hAs (fun v Λ1 σ1 H locs hp hP hK hA hS => ?_)
  obtain ⟨rfl, rfl, T⟩ := hp
  generalize σ1 = σa1 at hP T
  refine W.eq (g2 := F0 (xm x) 76 ls []) rfl ?_
  refine lv_aload_n hex hb d_H_collectYoung_76 rfl (lv_at hl 0 rfl) ?_
  refine r_call (va_runV (As := []) (rest := []) ⟨hex, hb, hml, hown, hts⟩ (Ct.use T H.size) (cwV 0 hts (gdV bg_165 bg_167 bp_8 bg_1 bc_H_renewYoungOrder) rfl rfl rfl hdV_H_renewYoungOrder ⟨by rw [hR]; exact Nat.le_of_ble_eq_true rfl, by rw [hR]; exact Nat.le_of_ble_eq_true rfl⟩) (px_preV (ci := 3) hNW hK hP hLH rfl) rfl rfl hl.1 rfl (lv_room (Nat.le_of_ble_eq_true rfl)) d_H_collectYoung_77 ⟨by rw [hR]; exact Nat.le_of_ble_eq_true rfl, by rw [hR]; exact Nat.le_of_ble_eq_true rfl⟩) hS hA hAs (fun v Λ1 σ1 H locs hp hP hK hA hS => ?_)
  obtain ⟨z2, rfl, rfl, T⟩ := hp
  generalize σ1 = σa2 at hP T
  refine W.eq (g2 := F0 (xm x) 80 ls [.int (iI z2)]) rfl ?_
  refine lv_istore_n (lv' := [(2, .int (iI z2)), (0, .ref (c 0))]) hex hb d_H_collectYoung_80 rfl hl (Nat.le_of_ble_eq_true rfl) rfl (fun ls hl => ?_)
  refine lv_aload_n hex hb d_H_collectYoung_81 rfl (lv_at hl 1 rfl) ?_
  refine r_getR (ci := 3) (C := R_H) (T := F_H) (N := 8) hex hb hts (fun w h => List.mem_cons_of_mem _ (in_H w h)) hown hK hP hLH rfl 3 (by decide) (hts _ (List.mem_cons_of_mem _ bg_48)) (fun _ h9 => h9) rfl d_H_collectYoung_82 ?_
  refine r_call (va_runV (As := []) (rest := []) ⟨hex, hb, hml, hown, hts⟩ (Ct.use T H.size) (cwV 0 hts (gdV bg_174 bg_175 bg_176 bg_2 bc_R_letGo) rfl rfl rfl hdV_R_letGo ⟨by rw [hR]; exact Nat.le_of_ble_eq_true rfl, by rw [hR]; exact Nat.le_of_ble_eq_true rfl⟩) (px_preV (ci := 1) hNW hK hP hLR6 rfl) rfl rfl hl.1 rfl (lv_room (Nat.le_of_ble_eq_true rfl)) d_H_collectYoung_85 ⟨by rw [hR]; exact Nat.le_of_ble_eq_true rfl, by rw [hR]; exact Nat.le_of_ble_eq_true rfl⟩) hS hA hAs (fun v Λ1 σ1 H locs hp hP hK hA hS => ?_)
  obtain ⟨rfl, rfl, T⟩ := hp
  generalize σ1 = σa3 at hP T
  refine W.eq (g2 := F0 (xm x) 88 ls []) rfl ?_
  refine lv_aload_n hex hb d_H_collectYoung_88 rfl (lv_at hl 1 rfl) ?_
  refine r_call (va_runV (As := []) (rest := []) ⟨hex, hb, hml, hown, hts⟩ (Ct.use T H.size) (cwV 0 hts (gdV bg_178 bg_180 bp_9 bg_1 bc_H_cleanCards) rfl rfl rfl hdV_H_cleanCards ⟨by rw [hR]; exact Nat.le_of_ble_eq_true rfl, by rw [hR]; exact Nat.le_of_ble_eq_true rfl⟩) (px_preV (ci := 3) hNW hK hP hLH rfl) rfl rfl hl.1 rfl (lv_room (Nat.le_of_ble_eq_true rfl)) d_H_collectYoung_89 ⟨by rw [hR]; exact Nat.le_of_ble_eq_true rfl, by rw [hR]; exact Nat.le_of_ble_eq_true rfl⟩) hS hA hAs (fun v Λ1 σ1 H locs hp hP hK hA hS => ?_)
  obtain ⟨rfl, rfl, T⟩ := hp
  generalize σ1 = σa4 at hP T
  refine W.eq (g2 := F0 (xm x) 92 ls []) rfl ?_
  refine lv_iload_n hex hb d_H_collectYoung_92 rfl (lv_at hl 0 rfl) ?_
  exact r_iret hex hb hr hlk hK hA hP hS ⟨_, rfl, rfl, T⟩ (Nat.zero_le _) (Nat.zero_le _) d_H_collectYoung_93
