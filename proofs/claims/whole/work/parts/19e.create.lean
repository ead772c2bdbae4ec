def rm_H_create : Room := { frames := 7, cells := 2, slots := 10, locals := 156 }
abbrev X_H_create (x : Cx) : Prop := CxOk x b_H_create 6 wl_H_create R_H (some .int) rm_H_create "create"
abbrev K_H_create (l : Launch) (D : va_G) (Λ : Lam) (σ : Mem) (c : Nat → Nat) (a1 : Int) (a2 : Int) (a3 : Int) (P : PostT) : Prop := Ct l D y_H_create wl_H_create rm_H_create [.ref (c 0), .int (iI a1), .int (iI a2), .int (iI a3)] Λ σ P
abbrev N_H_create_0 (x : Cx) (P : PostT) (Λ : Lam) (σ : Mem) (c : Nat → Nat) (a1 : Int) (a2 : Int) (a3 : Int) : Prop := AtG x P 6 0 0 0 Λ σ [(0, .ref (c 0)), (1, .int (iI a1)), (2, .int (iI a2)), (3, .int (iI a3))] []
abbrev N_H_create_41 (x : Cx) (P : PostT) (Λ : Lam) (σ : Mem) (c : Nat → Nat) (i1 : Int) (i2 : Int) (i3 : Int) (i4 : Int) : Prop := AtG x P 6 41 0 0 Λ σ [(0, .ref (c 0)), (1, .int (iI i1)), (2, .int (iI i2)), (3, .int (iI i3)), (4, .int (iI i4))] []
abbrev N_H_create_55 (x : Cx) (P : PostT) (Λ : Lam) (σ : Mem) (c : Nat → Nat) (i1 : Int) (i2 : Int) (i3 : Int) (i4 : Int) : Prop := AtG x P 6 55 0 0 Λ σ [(0, .ref (c 0)), (1, .int (iI i1)), (2, .int (iI i2)), (3, .int (iI i3)), (4, .int (iI i4))] []
abbrev N_H_create_67 (x : Cx) (P : PostT) (Λ : Lam) (σ : Mem) (c : Nat → Nat) (i1 : Int) (i2 : Int) (i3 : Int) : Prop := AtG x P 6 67 0 0 Λ σ [(0, .ref (c 0)), (1, .int (iI i1)), (2, .int (iI i2)), (3, .int (iI i3))] []
theorem e_H_create {l : Launch} {D : va_G} {Λ : Lam} {σ : Mem} {c : Nat → Nat} {a1 : Int} {a2 : Int} {a3 : Int} {P : PostT} (h : ∀ x : Cx, xl x = l → xD x = D → X_H_create x → N_H_create_0 x P Λ σ c a1 a2 a3) : K_H_create l D Λ σ c a1 a2 a3 P := Ct.of (by decide) rfl (Nat.le_of_ble_eq_true rfl) h
set_option maxHeartbeats 4000000 in
set_option maxRecDepth 100000 in
theorem u_H_create_0 {x : Cx} (hx : X_H_create x) {P : PostT} {Λ : Lam} {σ : Mem} {c : Nat → Nat} {a1 : Int} {a2 : Int} {a3 : Int} (hL : LayC Λ c) (T : K_H_isRoot (xl x) (xD x) Λ σ a1 (fun z1 σa1 => rng z1 ∧ ((¬ z1 = 0 → rng a2 ∧ ((a2 < 0 → P (some (.int (iI (-4)))) Λ σa1) ∧ (¬ a2 < 0 → ((a2 ≤ 3 → K_H_hasRoom (xl x) (xD x) Λ σa1 c (1 + a2) (fun z4 σa4 => rng z4 ∧ ((¬ z4 = 0 → N_H_create_41 x P Λ σa4 c a1 a2 a3 (1 + a2)) ∧ (z4 = 0 → K_H_collectYoung (xl x) (xD x) Λ σa4 c (fun z6 σa6 => N_H_create_41 x P Λ σa6 c a1 a2 a3 (1 + a2)))))) ∧ (¬ a2 ≤ 3 → P (some (.int (iI (-4)))) Λ σa1))))) ∧ (z1 = 0 → P (some (.int (iI (-2)))) Λ σa1)))) : N_H_create_0 x P Λ σ c a1 a2 a3 := by
  obtain ⟨hex, hb, hml, hown, hts, hr, hlk, hR, hnm, hAs, hNW⟩ := hx
  obtain ⟨hLH, ⟨cA1, hLA1⟩, ⟨hLR2, cA3, hLA3⟩, hLO, ⟨cA5, hLA5⟩, ⟨hLR6, cA7, hLA7⟩⟩ := hL
  refine ⟨(), fun hK hA ls H locs hl hP hS => ?_⟩
  refine lv_iload_n hex hb d_H_create_0 rfl (lv_at hl 1 rfl) ?_
  refine r_call (va_runS (As := [.int (iI a1)]) (rest := []) ⟨hex, hb, hml, hown, hts⟩ (Ct.use T H.size) (cwS 1 hts (gdS bg_74 bg_75 bg_1 bc_H_isRoot) rfl rfl rfl hdV_H_isRoot ⟨by rw [hR]; exact Nat.le_of_ble_eq_true rfl, by rw [hR]; exact Nat.le_of_ble_eq_true rfl⟩) (px_preS hNW hK hP) rfl rfl hl.1 rfl (lv_room (Nat.le_of_ble_eq_true rfl)) d_H_create_1 ⟨by rw [hR]; exact Nat.le_of_ble_eq_true rfl, by rw [hR]; exact Nat.le_of_ble_eq_true rfl⟩) hS hA hAs (fun v Λ1 σ1 H locs hp hP hK hA hS => ?_)
  obtain ⟨z1, rfl, rfl, T⟩ := hp
  generalize σ1 = σa1 at hP T
  refine W.eq (g2 := F0 (xm x) 4 ls [.int (iI z1)]) rfl ?_
  obtain ⟨h2, T⟩ := T
  obtain ⟨T1, T2⟩ := T
  refine r_if_ne (a := z1) (tgt := 10) hex hb h2 d_H_create_4 rfl (fun hc => ?_) (fun hc => ?_)
  · have T := T1 hc
    refine lv_iload_n hex hb d_H_create_10 rfl (lv_at hl 2 rfl) ?_
    obtain ⟨h3, T⟩ := T
    obtain ⟨T1, T2⟩ := T
    refine r_if_lt (a := a2) (tgt := 19) hex hb h3 d_H_create_11 rfl (fun hc => ?_) (fun hc => ?_)
    · have T := T1 hc
      refine lv_bipush (v := iI (-4)) hex hb d_H_create_19 rfl ?_
      exact r_iret hex hb hr hlk hK hA hP hS T (Nat.zero_le _) (Nat.zero_le _) d_H_create_21
    · have T := T2 hc
      refine lv_iload_n hex hb d_H_create_14 rfl (lv_at hl 2 rfl) ?_
      refine lv_iconst (v := iI 3) hex hb d_H_create_15 rfl ?_
      obtain ⟨T1, T2⟩ := T
      refine r_icmp_le (a := a2) (b := 3) (tgt := 22) hex hb h3 ⟨by omega, by omega⟩ d_H_create_16 rfl (fun hc => ?_) (fun hc => ?_)
      · have T := T1 hc
        refine lv_iconst (v := iI 1) hex hb d_H_create_22 rfl ?_
        refine lv_iload_n hex hb d_H_create_23 rfl (lv_at hl 2 rfl) ?_
        refine r_iadd hex hb d_H_create_24 ?_
        refine lv_istore (lv' := [(4, .int (iI (1 + a2))), (0, .ref (c 0)), (1, .int (iI a1)), (2, .int (iI a2)), (3, .int (iI a3))]) hex hb d_H_create_25 hl (Nat.le_of_ble_eq_true rfl) rfl (fun ls hl => ?_)
        refine lv_aload_n hex hb d_H_create_27 rfl (lv_at hl 1 rfl) ?_
        refine lv_iload hex hb d_H_create_28 (lv_at hl 0 rfl) ?_
        refine r_call (va_runV (As := [.int (iI (1 + a2))]) (rest := []) ⟨hex, hb, hml, hown, hts⟩ (Ct.use T H.size) (cwV 1 hts (gdV bg_77 bg_79 bp_0 bg_1 bc_H_hasRoom) rfl rfl rfl hdV_H_hasRoom ⟨by rw [hR]; exact Nat.le_of_ble_eq_true rfl, by rw [hR]; exact Nat.le_of_ble_eq_true rfl⟩) (px_preV (ci := 3) hNW hK hP hLH rfl) rfl rfl hl.1 rfl (lv_room (Nat.le_of_ble_eq_true rfl)) d_H_create_30 ⟨by rw [hR]; exact Nat.le_of_ble_eq_true rfl, by rw [hR]; exact Nat.le_of_ble_eq_true rfl⟩) hS hA hAs (fun v Λ1 σ1 H locs hp hP hK hA hS => ?_)
        obtain ⟨z4, rfl, rfl, T⟩ := hp
        generalize σ1 = σa4 at hP T
        refine W.eq (g2 := F0 (xm x) 33 ls [.int (iI z4)]) rfl ?_
        obtain ⟨h5, T⟩ := T
        obtain ⟨T1, T2⟩ := T
        refine r_if_ne (a := z4) (tgt := 41) hex hb h5 d_H_create_33 rfl (fun hc => ?_) (fun hc => ?_)
        · have T := T1 hc
          exact AtG.use T hK hA _ _ _ (lv_sub hl [1, 2, 3, 4, 0] rfl) hP hS
        · have T := T2 hc
          refine lv_aload_n hex hb d_H_create_36 rfl (lv_at hl 1 rfl) ?_
          refine r_call (va_runV (As := []) (rest := []) ⟨hex, hb, hml, hown, hts⟩ (Ct.use T H.size) (cwV 0 hts (gdV bg_89 bg_91 bp_1 bg_1 bc_H_collectYoung) rfl rfl rfl hdV_H_collectYoung ⟨by rw [hR]; exact Nat.le_of_ble_eq_true rfl, by rw [hR]; exact Nat.le_of_ble_eq_true rfl⟩) (px_preV (ci := 3) hNW hK hP hLH rfl) rfl rfl hl.1 rfl (lv_room (Nat.le_of_ble_eq_true rfl)) d_H_create_37 ⟨by rw [hR]; exact Nat.le_of_ble_eq_true rfl, by rw [hR]; exact Nat.le_of_ble_eq_true rfl⟩) hS hA hAs (fun v Λ1 σ1 H locs hp hP hK hA hS => ?_)
          obtain ⟨z6, rfl, rfl, T⟩ := hp
          generalize σ1 = σa6 at hP T
          refine W.eq (g2 := F0 (xm x) 40 ls [.int (iI z6)]) rfl ?_
          refine lv_pop hex hb d_H_create_40 rfl ?_
          exact AtG.use T hK hA _ _ _ (lv_sub hl [1, 2, 3, 4, 0] rfl) hP hS
      · have T := T2 hc
        refine lv_bipush (v := iI (-4)) hex hb d_H_create_19 rfl ?_
        exact r_iret hex hb hr hlk hK hA hP hS T (Nat.zero_le _) (Nat.zero_le _) d_H_create_21
  · have T := T2 hc
    refine lv_bipush (v := iI (-2)) hex hb d_H_create_7 rfl ?_
    exact r_iret hex hb hr hlk hK hA hP hS T (Nat.zero_le _) (Nat.zero_le _) d_H_create_9
set_option maxHeartbeats 4000000 in
set_option maxRecDepth 100000 in
theorem u_H_create_41 {x : Cx} (hx : X_H_create x) {P : PostT} {Λ : Lam} {σ : Mem} {c : Nat → Nat} {i1 : Int} {i2 : Int} {i3 : Int} {i4 : Int} (hL : LayC Λ c) (T : K_H_hasRoom (xl x) (xD x) Λ σ c i4 (fun z1 σa1 => rng z1 ∧ ((¬ z1 = 0 → N_H_create_55 x P Λ σa1 c i1 i2 i3 i4) ∧ (z1 = 0 → K_H_collectAll (xl x) (xD x) Λ σa1 c (fun z3 σa3 => N_H_create_55 x P Λ σa3 c i1 i2 i3 i4))))) : N_H_create_41 x P Λ σ c i1 i2 i3 i4 := by
  obtain ⟨hex, hb, hml, hown, hts, hr, hlk, hR, hnm, hAs, hNW⟩ := hx
  obtain ⟨hLH, ⟨cA1, hLA1⟩, ⟨hLR2, cA3, hLA3⟩, hLO, ⟨cA5, hLA5⟩, ⟨hLR6, cA7, hLA7⟩⟩ := hL
  refine ⟨(), fun hK hA ls H locs hl hP hS => ?_⟩
  refine lv_aload_n hex hb d_H_create_41 rfl (lv_at hl 0 rfl) ?_
  refine lv_iload hex hb d_H_create_42 (lv_at hl 4 rfl) ?_
  refine r_call (va_runV (As := [.int (iI i4)]) (rest := []) ⟨hex, hb, hml, hown, hts⟩ (Ct.use T H.size) (cwV 1 hts (gdV bg_77 bg_79 bp_0 bg_1 bc_H_hasRoom) rfl rfl rfl hdV_H_hasRoom ⟨by rw [hR]; exact Nat.le_of_ble_eq_true rfl, by rw [hR]; exact Nat.le_of_ble_eq_true rfl⟩) (px_preV (ci := 3) hNW hK hP hLH rfl) rfl rfl hl.1 rfl (lv_room (Nat.le_of_ble_eq_true rfl)) d_H_create_44 ⟨by rw [hR]; exact Nat.le_of_ble_eq_true rfl, by rw [hR]; exact Nat.le_of_ble_eq_true rfl⟩) hS hA hAs (fun v Λ1 σ1 H locs hp hP hK hA hS => ?_)
  obtain ⟨z1, rfl, rfl, T⟩ := hp
  generalize σ1 = σa1 at hP T
  refine W.eq (g2 := F0 (xm x) 47 ls [.int (iI z1)]) rfl ?_
  obtain ⟨h2, T⟩ := T
  obtain ⟨T1, T2⟩ := T
  refine r_if_ne (a := z1) (tgt := 55) hex hb h2 d_H_create_47 rfl (fun hc => ?_) (fun hc => ?_)
  · have T := T1 hc
    exact AtG.use T hK hA _ _ _ (lv_sub hl [0, 1, 2, 3, 4] rfl) hP hS
  · have T := T2 hc
    refine lv_aload_n hex hb d_H_create_50 rfl (lv_at hl 0 rfl) ?_
    refine r_call (va_runV (As := []) (rest := []) ⟨hex, hb, hml, hown, hts⟩ (Ct.use T H.size) (cwV 0 hts (gdV bg_189 bg_191 bp_10 bg_1 bc_H_collectAll) rfl rfl rfl hdV_H_collectAll ⟨by rw [hR]; exact Nat.le_of_ble_eq_true rfl, by rw [hR]; exact Nat.le_of_ble_eq_true rfl⟩) (px_preV (ci := 3) hNW hK hP hLH rfl) rfl rfl hl.1 rfl (lv_room (Nat.le_of_ble_eq_true rfl)) d_H_create_51 ⟨by rw [hR]; exact Nat.le_of_ble_eq_true rfl, by rw [hR]; exact Nat.le_of_ble_eq_true rfl⟩) hS hA hAs (fun v Λ1 σ1 H locs hp hP hK hA hS => ?_)
    obtain ⟨z3, rfl, rfl, T⟩ := hp
    generalize σ1 = σa3 at hP T
    refine W.eq (g2 := F0 (xm x) 54 ls [.int (iI z3)]) rfl ?_
    refine lv_pop hex hb d_H_create_54 rfl ?_
    exact AtG.use T hK hA _ _ _ (lv_sub hl [0, 1, 2, 3, 4] rfl) hP hS
set_option maxHeartbeats 4000000 in
set_option maxRecDepth 100000 in
theorem u_H_create_55 {x : Cx} (hx : X_H_create x) {P : PostT} {Λ : Lam} {σ : Mem} {c : Nat → Nat} {i1 : Int} {i2 : Int} {i3 : Int} {i4 : Int} (hL : LayC Λ c) (T : K_H_hasRoom (xl x) (xD x) Λ σ c i4 (fun z1 σa1 => rng z1 ∧ ((¬ z1 = 0 → N_H_create_67 x P Λ σa1 c i1 i2 i3) ∧ (z1 = 0 → P (some (.int (iI (-5)))) Λ σa1)))) : N_H_create_55 x P Λ σ c i1 i2 i3 i4 := by
  obtain ⟨hex, hb, hml, hown, hts, hr, hlk, hR, hnm, hAs, hNW⟩ := hx
  obtain ⟨hLH, ⟨cA1, hLA1⟩, ⟨hLR2, cA3, hLA3⟩, hLO, ⟨cA5, hLA5⟩, ⟨hLR6, cA7, hLA7⟩⟩ := hL
  refine ⟨(), fun hK hA ls H locs hl hP hS => ?_⟩
  refine lv_aload_n hex hb d_H_create_55 rfl (lv_at hl 0 rfl) ?_
  refine lv_iload hex hb d_H_create_56 (lv_at hl 4 rfl) ?_
  refine r_call (va_runV (As := [.int (iI i4)]) (rest := []) ⟨hex, hb, hml, hown, hts⟩ (Ct.use T H.size) (cwV 1 hts (gdV bg_77 bg_79 bp_0 bg_1 bc_H_hasRoom) rfl rfl rfl hdV_H_hasRoom ⟨by rw [hR]; exact Nat.le_of_ble_eq_true rfl, by rw [hR]; exact Nat.le_of_ble_eq_true rfl⟩) (px_preV (ci := 3) hNW hK hP hLH rfl) rfl rfl hl.1 rfl (lv_room (Nat.le_of_ble_eq_true rfl)) d_H_create_58 ⟨by rw [hR]; exact Nat.le_of_ble_eq_true rfl, by rw [hR]; exact Nat.le_of_ble_eq_true rfl⟩) hS hA hAs (fun v Λ1 σ1 H locs hp hP hK hA hS => ?_)
  obtain ⟨z1, rfl, rfl, T⟩ := hp
  generalize σ1 = σa1 at hP T
  refine W.eq (g2 := F0 (xm x) 61 ls [.int (iI z1)]) rfl ?_
  obtain ⟨h2, T⟩ := T
  obtain ⟨T1, T2⟩ := T
  refine r_if_ne (a := z1) (tgt := 67) hex hb h2 d_H_create_61 rfl (fun hc => ?_) (fun hc => ?_)
  · have T := T1 hc
    exact AtG.use T hK hA _ _ _ (lv_sub hl [0, 1, 2, 3] rfl) hP hS
  · have T := T2 hc
    refine lv_bipush (v := iI (-5)) hex hb d_H_create_64 rfl ?_
    exact r_iret hex hb hr hlk hK hA hP hS T (Nat.zero_le _) (Nat.zero_le _) d_H_create_66
set_option maxHeartbeats 4000000 in
set_option maxRecDepth 100000 in
theorem u_H_create_67 {x : Cx} (hx : X_H_create x) {P : PostT} {Λ : Lam} {σ : Mem} {c : Nat → Nat} {i1 : Int} {i2 : Int} {i3 : Int} (hL : LayC Λ c) (T : (∀ q1, Λ q1 = none → K_T_init (xl x) (xD x) (upL Λ q1 (.inr (2, [none, some none, none, none, none, none, none]))) (zap σ q1) q1 i3 i2 (fun v Λa2 σa2 => v = none ∧ LayC Λa2 c ∧ isT Λa2 q1 ∧ K_R_add (xl x) (xD x) Λa2 σa2 (c 2) (some q1) (fun z3 σa3 => 0 ≤ i1 ∧ i1 < (6 : Int) ∧ P (some (.int (iI 0))) Λa2 (upX σa3 100 (c 1) i1.toNat (some q1)))))) : N_H_create_67 x P Λ σ c i1 i2 i3 := by
  obtain ⟨hex, hb, hml, hown, hts, hr, hlk, hR, hnm, hAs, hNW⟩ := hx
  obtain ⟨hLH, ⟨cA1, hLA1⟩, ⟨hLR2, cA3, hLA3⟩, hLO, ⟨cA5, hLA5⟩, ⟨hLR6, cA7, hLA7⟩⟩ := hL
  refine ⟨(), fun hK hA ls H locs hl hP hS => ?_⟩
  refine r_new (ci := 2) (C := R_T) (T := F_T) (N := 7) (tm := [none, some none, none, none, none, none, none]) hex hb hts (fun w h => List.mem_cons_of_mem _ (in_T w h)) tq_T tq_T_ok hown (hts _ (List.mem_cons_of_mem _ bg_15)) (hts _ (List.mem_cons_of_mem _ bg_223)) (hts _ (List.mem_cons_of_mem _ bg_6)) hK hP hA hS hAs rfl (r_born (fun j hj => by have : j < 7 := hj; rcases (show j = 0 ∨ j = 1 ∨ j = 2 ∨ j = 3 ∨ j = 4 ∨ j = 5 ∨ j = 6 by omega) with rfl | rfl | rfl | rfl | rfl | rfl | rfl <;> first | exact Or.inl ⟨rfl, rfl⟩ | exact Or.inr ⟨rfl, rfl⟩)) (by rw [hR]; exact Nat.le_of_ble_eq_true rfl) (by rw [hR]; exact Nat.le_of_ble_eq_true rfl) d_H_create_67 (fun q1 H hq1 hP hK hA hS => ?_)
  refine W.widen (k := 1) (n := 7) (by omega) (by omega) ?_
  have T := T q1 hq1
  have hLH := upL_ne (y' := (.inr (2, [none, some none, none, none, none, none, none]))) hLH hq1
  have hLA1 := upL_ne (y' := (.inr (2, [none, some none, none, none, none, none, none]))) hLA1 hq1
  have hLR2 := upL_ne (y' := (.inr (2, [none, some none, none, none, none, none, none]))) hLR2 hq1
  have hLA3 := upL_ne (y' := (.inr (2, [none, some none, none, none, none, none, none]))) hLA3 hq1
  have hLO := upL_ne (y' := (.inr (2, [none, some none, none, none, none, none, none]))) hLO hq1
  have hLA5 := upL_ne (y' := (.inr (2, [none, some none, none, none, none, none, none]))) hLA5 hq1
  have hLR6 := upL_ne (y' := (.inr (2, [none, some none, none, none, none, none, none]))) hLR6 hq1
  have hLA7 := upL_ne (y' := (.inr (2, [none, some none, none, none, none, none, none]))) hLA7 hq1
  refine lv_dup hex hb d_H_create_70 rfl ?_
  refine lv_iload_n hex hb d_H_create_71 rfl (lv_at hl 3 rfl) ?_
  refine lv_iload_n hex hb d_H_create_72 rfl (lv_at hl 2 rfl) ?_
  refine r_call (va_runI (As := [.int (iI i3), .int (iI i2)]) (rest := [.ref q1]) ⟨hex, hb, hml, hown, hts⟩ (Ct.use T H.size) (cwI 2 hts (gdI bc_T_init) rfl rfl rfl (hts _ (List.mem_cons_of_mem _ bg_6)) (hts _ (List.mem_cons_of_mem _ bg_224)) (hts _ (List.mem_cons_of_mem _ bg_225)) rfl hdV_T_init.2 ⟨by rw [hR]; exact Nat.le_of_ble_eq_true rfl, by rw [hR]; exact Nat.le_of_ble_eq_true rfl⟩) (px_preS hNW hK hP) rfl rfl hl.1 rfl (lv_room (Nat.le_of_ble_eq_true rfl)) d_H_create_73 ⟨by rw [hR]; exact Nat.le_of_ble_eq_true rfl, by rw [hR]; exact Nat.le_of_ble_eq_true rfl⟩) hS hA hAs (fun v Λ1 σ1 H locs hp hP hK hA hS => ?_)
  obtain ⟨rfl, T⟩ := hp
  generalize Λ1 = Λa2 at hP hK hA T
  generalize σ1 = σa2 at hP T
  refine W.widen (k := 2) (n := 10) (by exact Nat.le_of_ble_eq_true rfl) (by exact Nat.le_of_ble_eq_true rfl) ?_
  refine W.eq (g2 := F0 (xm x) 76 ls [.ref q1]) rfl ?_
  obtain ⟨hL, T⟩ := T
  obtain ⟨hTq, T⟩ := T
  obtain ⟨hLH, ⟨cA1, hLA1⟩, ⟨hLR2, cA3, hLA3⟩, hLO, ⟨cA5, hLA5⟩, ⟨hLR6, cA7, hLA7⟩⟩ := hL
  refine lv_astore (lv' := [(5, .ref q1), (0, .ref (c 0)), (1, .int (iI i1)), (2, .int (iI i2)), (3, .int (iI i3))]) hex hb d_H_create_76 hl (Nat.le_of_ble_eq_true rfl) rfl (fun ls hl => ?_)
  refine lv_aload_n hex hb d_H_create_78 rfl (lv_at hl 1 rfl) ?_
  refine r_getR (ci := 3) (C := R_H) (T := F_H) (N := 8) hex hb hts (fun w h => List.mem_cons_of_mem _ (in_H w h)) hown hK hP hLH rfl 1 (by decide) (hts _ (List.mem_cons_of_mem _ bg_46)) (fun _ h9 => h9) rfl d_H_create_79 ?_
  refine lv_aload hex hb d_H_create_82 (lv_at hl 0 rfl) ?_
  refine r_call (va_runV (As := [.ref q1]) (rest := []) ⟨hex, hb, hml, hown, hts⟩ (Ct.use T H.size) (cwV 1 hts (gdV bg_173 bg_106 bg_107 bg_2 bc_R_add) rfl rfl rfl hdV_R_add ⟨by rw [hR]; exact Nat.le_of_ble_eq_true rfl, by rw [hR]; exact Nat.le_of_ble_eq_true rfl⟩) (px_preV (ci := 1) hNW hK hP hLR2 rfl) rfl rfl hl.1 rfl (lv_room (Nat.le_of_ble_eq_true rfl)) d_H_create_84 ⟨by rw [hR]; exact Nat.le_of_ble_eq_true rfl, by rw [hR]; exact Nat.le_of_ble_eq_true rfl⟩) hS hA hAs (fun v Λ1 σ1 H locs hp hP hK hA hS => ?_)
  obtain ⟨z3, rfl, rfl, T⟩ := hp
  generalize σ1 = σa3 at hP T
  refine W.eq (g2 := F0 (xm x) 87 ls [.int (iI z3)]) rfl ?_
  refine lv_pop hex hb d_H_create_87 rfl ?_
  refine lv_aload_n hex hb d_H_create_88 rfl (lv_at hl 1 rfl) ?_
  refine r_getR (ci := 3) (C := R_H) (T := F_H) (N := 8) hex hb hts (fun w h => List.mem_cons_of_mem _ (in_H w h)) hown hK hP hLH rfl 0 (by decide) (hts _ (List.mem_cons_of_mem _ bg_45)) (fun _ h9 => h9) rfl d_H_create_89 ?_
  refine lv_iload_n hex hb d_H_create_92 rfl (lv_at hl 2 rfl) ?_
  refine lv_aload hex hb d_H_create_93 (lv_at hl 0 rfl) ?_
  obtain ⟨hi4, T⟩ := T
  obtain ⟨hj4, T⟩ := T
  refine r_aast (o := some q1) (ci := 2) hex hb hK hP hA hS hLA1 (by decide) (by decide) rfl rfl (fun t ht => by cases ht; exact ⟨_, hTq.1⟩) hi4 hj4 d_H_create_95 (fun H locs hP hS => ?_)
  refine lv_iconst (v := iI 0) hex hb d_H_create_96 rfl ?_
  exact r_iret hex hb hr hlk hK hA hP hS T (by rw [hR]; exact Nat.le_of_ble_eq_true rfl) (by rw [hR]; exact Nat.le_of_ble_eq_true rfl) d_H_create_97
