-- DirtyCardHeapModel.create(III)I
def rm_M_create : Room := { frames := 5, cells := 0, slots := 0, locals := 112 }
abbrev X_M_create (x : Cx) : Prop := CxOk x b_M_create 6 wl_M_create R_M (some .int) rm_M_create "create"
abbrev K_M_create (l : Launch) (D : va_G) (Λ : Lam) (σ : Mem) (r : Nat → Nat) (a1 : Int) (a2 : Int) (a3 : Int) (P : Int → Mem → Prop) : Prop := Ct l D y_M_create wl_M_create rm_M_create [.ref (r 0), .int (iI a1), .int (iI a2), .int (iI a3)] Λ σ (pI Λ P)
abbrev N_M_create_0 (x : Cx) (P : Int → Mem → Prop) (Λ : Lam) (σ : Mem) (r : Nat → Nat) (a1 : Int) (a2 : Int) (a3 : Int) : Prop := AtG x (pI Λ P) 6 0 0 0 Λ σ [(0, .ref (r 0)), (1, .int (iI a1)), (2, .int (iI a2)), (3, .int (iI a3))] []
abbrev N_M_create_39 (x : Cx) (P : Int → Mem → Prop) (Λ : Lam) (σ : Mem) (r : Nat → Nat) (i1 : Int) (i2 : Int) (i3 : Int) : Prop := AtG x (pI Λ P) 6 39 0 0 Λ σ [(0, .ref (r 0)), (1, .int (iI i1)), (2, .int (iI i2)), (3, .int (iI i3))] []
abbrev N_M_create_56 (x : Cx) (P : Int → Mem → Prop) (Λ : Lam) (σ : Mem) (r : Nat → Nat) (i1 : Int) (i2 : Int) (i3 : Int) : Prop := AtG x (pI Λ P) 6 56 0 0 Λ σ [(0, .ref (r 0)), (1, .int (iI i1)), (2, .int (iI i2)), (3, .int (iI i3))] []
abbrev N_M_create_75 (x : Cx) (P : Int → Mem → Prop) (Λ : Lam) (σ : Mem) (r : Nat → Nat) (i1 : Int) (i2 : Int) (i3 : Int) (i4 : Int) : Prop := AtG x (pI Λ P) 6 75 0 0 Λ σ [(0, .ref (r 0)), (1, .int (iI i1)), (2, .int (iI i2)), (3, .int (iI i3)), (4, .int (iI i4))] []
abbrev N_M_create_126 (x : Cx) (P : Int → Mem → Prop) (Λ : Lam) (σ : Mem) (r : Nat → Nat) (i1 : Int) (i4 : Int) (i5 : Int) : Prop := AtG x (pI Λ P) 6 126 0 0 Λ σ [(0, .ref (r 0)), (1, .int (iI i1)), (4, .int (iI i4)), (5, .int (iI i5))] []
theorem e_M_create {l : Launch} {D : va_G} {Λ : Lam} {σ : Mem} {r : Nat → Nat} {a1 : Int} {a2 : Int} {a3 : Int} {P : Int → Mem → Prop} (h : ∀ x : Cx, xl x = l → xD x = D → X_M_create x → N_M_create_0 x P Λ σ r a1 a2 a3) : K_M_create l D Λ σ r a1 a2 a3 P := Ct.of (by decide) rfl (Nat.le_of_ble_eq_true rfl) h
set_option maxHeartbeats 4000000 in
set_option maxRecDepth 100000 in
theorem u_M_create_0 {x : Cx} (hx : X_M_create x) {P : Int → Mem → Prop} {Λ : Lam} {σ : Mem} {r : Nat → Nat} {a1 : Int} {a2 : Int} {a3 : Int} (hL : LayM Λ r) (T : K_M_isRoot (xl x) (xD x) Λ σ a1 (fun z1 σa1 => rng z1 ∧ ((¬ z1 = 0 → rng a2 ∧ ((a2 < 0 → P (-4) σa1) ∧ (¬ a2 < 0 → ((a2 ≤ 3 → K_M_youngCells (xl x) (xD x) Λ σa1 r (fun z4 σa4 => rng ((z4 + 1) + a2) ∧ ((((z4 + 1) + a2) ≤ 20 → N_M_create_39 x P Λ σa4 r a1 a2 a3) ∧ (¬ ((z4 + 1) + a2) ≤ 20 → K_M_collectYoung (xl x) (xD x) Λ σa4 r (fun σa6 => N_M_create_39 x P Λ σa6 r a1 a2 a3))))) ∧ (¬ a2 ≤ 3 → P (-4) σa1))))) ∧ (z1 = 0 → P (-2) σa1)))) : N_M_create_0 x P Λ σ r a1 a2 a3 := by
  obtain ⟨hex, hb, hml, hown, hts, hr, hlk, hR, hnm, hAs, hNW⟩ := hx
  obtain ⟨hLM, hLA⟩ := hL
  refine ⟨(), fun hK hA ls H locs hl hP hS => ?_⟩
  refine lv_iload_n hex hb d_M_create_0 rfl (lv_at hl 1 rfl) ?_
  refine r_call (va_runS (As := [.int (iI a1)]) (rest := []) ⟨hex, hb, hml, hown, hts⟩ (Ct.use T H.size) (cwS 1 hts (gdS bg_520 bg_521 bg_4 bc_M_isRoot) rfl rfl rfl hdV_M_isRoot ⟨by rw [hR]; exact Nat.le_of_ble_eq_true rfl, by rw [hR]; exact Nat.le_of_ble_eq_true rfl⟩) (px_preS hNW hK hP) rfl rfl hl.1 rfl (lv_room (Nat.le_of_ble_eq_true rfl)) d_M_create_1 ⟨by rw [hR]; exact Nat.le_of_ble_eq_true rfl, by rw [hR]; exact Nat.le_of_ble_eq_true rfl⟩) hS hA hAs (fun v Λ1 σ1 H locs hp hP hK hA hS => ?_)
  obtain ⟨z1, rfl, rfl, T⟩ := hp
  generalize σ1 = σa1 at hP T
  refine W.eq (g2 := F0 (xm x) 4 ls [.int (iI z1)]) rfl ?_
  obtain ⟨h2, T⟩ := T
  obtain ⟨T1, T2⟩ := T
  refine r_if_ne (a := z1) (tgt := 10) hex hb h2 d_M_create_4 rfl (fun hc => ?_) (fun hc => ?_)
  · have T := T1 hc
    refine lv_iload_n hex hb d_M_create_10 rfl (lv_at hl 2 rfl) ?_
    obtain ⟨h3, T⟩ := T
    obtain ⟨T1, T2⟩ := T
    refine r_if_lt (a := a2) (tgt := 19) hex hb h3 d_M_create_11 rfl (fun hc => ?_) (fun hc => ?_)
    · have T := T1 hc
      refine lv_bipush (v := iI (-4)) hex hb d_M_create_19 rfl ?_
      exact r_iret hex hb hr hlk hK hA hP hS ⟨_, rfl, rfl, T⟩ (Nat.zero_le _) (Nat.zero_le _) d_M_create_21
    · have T := T2 hc
      refine lv_iload_n hex hb d_M_create_14 rfl (lv_at hl 2 rfl) ?_
      refine lv_iconst (v := iI 3) hex hb d_M_create_15 rfl ?_
      obtain ⟨T1, T2⟩ := T
      refine r_icmp_le (a := a2) (b := 3) (tgt := 22) hex hb h3 ⟨by omega, by omega⟩ d_M_create_16 rfl (fun hc => ?_) (fun hc => ?_)
      · have T := T1 hc
        refine lv_aload_n hex hb d_M_create_22 rfl (lv_at hl 0 rfl) ?_
        refine r_call (va_runV (As := []) (rest := []) ⟨hex, hb, hml, hown, hts⟩ (Ct.use T H.size) (cwV 0 hts (gdV bg_523 bg_524 bg_525 bg_4 bc_M_youngCells) rfl rfl rfl hdV_M_youngCells ⟨by rw [hR]; exact Nat.le_of_ble_eq_true rfl, by rw [hR]; exact Nat.le_of_ble_eq_true rfl⟩) (px_preV (ci := 4) hNW hK hP hLM rfl) rfl rfl hl.1 rfl (lv_room (Nat.le_of_ble_eq_true rfl)) d_M_create_23 ⟨by rw [hR]; exact Nat.le_of_ble_eq_true rfl, by rw [hR]; exact Nat.le_of_ble_eq_true rfl⟩) hS hA hAs (fun v Λ1 σ1 H locs hp hP hK hA hS => ?_)
        obtain ⟨z4, rfl, rfl, T⟩ := hp
        generalize σ1 = σa4 at hP T
        refine W.eq (g2 := F0 (xm x) 26 ls [.int (iI z4)]) rfl ?_
        refine lv_iconst (v := iI 1) hex hb d_M_create_26 rfl ?_
        refine r_iadd hex hb d_M_create_27 ?_
        refine lv_iload_n hex hb d_M_create_28 rfl (lv_at hl 2 rfl) ?_
        refine r_iadd hex hb d_M_create_29 ?_
        refine lv_bipush (v := iI 20) hex hb d_M_create_30 rfl ?_
        obtain ⟨h5, T⟩ := T
        obtain ⟨T1, T2⟩ := T
        refine r_icmp_le (a := (z4 + 1) + a2) (b := 20) (tgt := 39) hex hb h5 ⟨by omega, by omega⟩ d_M_create_32 rfl (fun hc => ?_) (fun hc => ?_)
        · have T := T1 hc
          exact AtG.use T hK hA _ _ _ (lv_sub hl [0, 1, 2, 3] rfl) hP hS
        · have T := T2 hc
          refine lv_aload_n hex hb d_M_create_35 rfl (lv_at hl 0 rfl) ?_
          refine r_call (va_runV (As := []) (rest := []) ⟨hex, hb, hml, hown, hts⟩ (Ct.use T H.size) (cwV 0 hts (gdV bg_500 bg_502 bp_27 bg_4 bc_M_collectYoung) rfl rfl rfl hdV_M_collectYoung ⟨by rw [hR]; exact Nat.le_of_ble_eq_true rfl, by rw [hR]; exact Nat.le_of_ble_eq_true rfl⟩) (px_preV (ci := 4) hNW hK hP hLM rfl) rfl rfl hl.1 rfl (lv_room (Nat.le_of_ble_eq_true rfl)) d_M_create_36 ⟨by rw [hR]; exact Nat.le_of_ble_eq_true rfl, by rw [hR]; exact Nat.le_of_ble_eq_true rfl⟩) hS hA hAs (fun v Λ1 σ1 H locs hp hP hK hA hS => ?_)
          obtain ⟨rfl, rfl, T⟩ := hp
          generalize σ1 = σa6 at hP T
          refine W.eq (g2 := F0 (xm x) 39 ls []) rfl ?_
          exact AtG.use T hK hA _ _ _ (lv_sub hl [0, 1, 2, 3] rfl) hP hS
      · have T := T2 hc
        refine lv_bipush (v := iI (-4)) hex hb d_M_create_19 rfl ?_
        exact r_iret hex hb hr hlk hK hA hP hS ⟨_, rfl, rfl, T⟩ (Nat.zero_le _) (Nat.zero_le _) d_M_create_21
  · have T := T2 hc
    refine lv_bipush (v := iI (-2)) hex hb d_M_create_7 rfl ?_
    exact r_iret hex hb hr hlk hK hA hP hS ⟨_, rfl, rfl, T⟩ (Nat.zero_le _) (Nat.zero_le _) d_M_create_9
set_option maxHeartbeats 4000000 in
set_option maxRecDepth 100000 in
theorem u_M_create_39 {x : Cx} (hx : X_M_create x) {P : Int → Mem → Prop} {Λ : Lam} {σ : Mem} {r : Nat → Nat} {i1 : Int} {i2 : Int} {i3 : Int} (hL : LayM Λ r) (T : K_M_youngCells (xl x) (xD x) Λ σ r (fun z1 σa1 => rng ((z1 + 1) + i2) ∧ ((((z1 + 1) + i2) ≤ 20 → N_M_create_56 x P Λ σa1 r i1 i2 i3) ∧ (¬ ((z1 + 1) + i2) ≤ 20 → K_M_collectFull (xl x) (xD x) Λ σa1 r (fun σa3 => N_M_create_56 x P Λ σa3 r i1 i2 i3))))) : N_M_create_39 x P Λ σ r i1 i2 i3 := by
  obtain ⟨hex, hb, hml, hown, hts, hr, hlk, hR, hnm, hAs, hNW⟩ := hx
  obtain ⟨hLM, hLA⟩ := hL
  refine ⟨(), fun hK hA ls H locs hl hP hS => ?_⟩
  refine lv_aload_n hex hb d_M_create_39 rfl (lv_at hl 0 rfl) ?_
  refine r_call (va_runV (As := []) (rest := []) ⟨hex, hb, hml, hown, hts⟩ (Ct.use T H.size) (cwV 0 hts (gdV bg_523 bg_524 bg_525 bg_4 bc_M_youngCells) rfl rfl rfl hdV_M_youngCells ⟨by rw [hR]; exact Nat.le_of_ble_eq_true rfl, by rw [hR]; exact Nat.le_of_ble_eq_true rfl⟩) (px_preV (ci := 4) hNW hK hP hLM rfl) rfl rfl hl.1 rfl (lv_room (Nat.le_of_ble_eq_true rfl)) d_M_create_40 ⟨by rw [hR]; exact Nat.le_of_ble_eq_true rfl, by rw [hR]; exact Nat.le_of_ble_eq_true rfl⟩) hS hA hAs (fun v Λ1 σ1 H locs hp hP hK hA hS => ?_)
  obtain ⟨z1, rfl, rfl, T⟩ := hp
  generalize σ1 = σa1 at hP T
  refine W.eq (g2 := F0 (xm x) 43 ls [.int (iI z1)]) rfl ?_
  refine lv_iconst (v := iI 1) hex hb d_M_create_43 rfl ?_
  refine r_iadd hex hb d_M_create_44 ?_
  refine lv_iload_n hex hb d_M_create_45 rfl (lv_at hl 2 rfl) ?_
  refine r_iadd hex hb d_M_create_46 ?_
  refine lv_bipush (v := iI 20) hex hb d_M_create_47 rfl ?_
  obtain ⟨h2, T⟩ := T
  obtain ⟨T1, T2⟩ := T
  refine r_icmp_le (a := (z1 + 1) + i2) (b := 20) (tgt := 56) hex hb h2 ⟨by omega, by omega⟩ d_M_create_49 rfl (fun hc => ?_) (fun hc => ?_)
  · have T := T1 hc
    exact AtG.use T hK hA _ _ _ (lv_sub hl [0, 1, 2, 3] rfl) hP hS
  · have T := T2 hc
    refine lv_aload_n hex hb d_M_create_52 rfl (lv_at hl 0 rfl) ?_
    refine r_call (va_runV (As := []) (rest := []) ⟨hex, hb, hml, hown, hts⟩ (Ct.use T H.size) (cwV 0 hts (gdV bg_464 bg_466 bp_18 bg_4 bc_M_collectFull) rfl rfl rfl hdV_M_collectFull ⟨by rw [hR]; exact Nat.le_of_ble_eq_true rfl, by rw [hR]; exact Nat.le_of_ble_eq_true rfl⟩) (px_preV (ci := 4) hNW hK hP hLM rfl) rfl rfl hl.1 rfl (lv_room (Nat.le_of_ble_eq_true rfl)) d_M_create_53 ⟨by rw [hR]; exact Nat.le_of_ble_eq_true rfl, by rw [hR]; exact Nat.le_of_ble_eq_true rfl⟩) hS hA hAs (fun v Λ1 σ1 H locs hp hP hK hA hS => ?_)
    obtain ⟨rfl, rfl, T⟩ := hp
    generalize σ1 = σa3 at hP T
    refine W.eq (g2 := F0 (xm x) 56 ls []) rfl ?_
    exact AtG.use T hK hA _ _ _ (lv_sub hl [0, 1, 2, 3] rfl) hP hS
set_option maxHeartbeats 4000000 in
set_option maxRecDepth 100000 in
theorem u_M_create_56 {x : Cx} (hx : X_M_create x) {P : Int → Mem → Prop} {Λ : Lam} {σ : Mem} {r : Nat → Nat} {i1 : Int} {i2 : Int} {i3 : Int} (hL : LayM Λ r) (T : K_M_youngCells (xl x) (xD x) Λ σ r (fun z1 σa1 => rng ((z1 + 1) + i2) ∧ ((((z1 + 1) + i2) ≤ 20 → N_M_create_75 x P Λ σa1 r i1 i2 i3 0) ∧ (¬ ((z1 + 1) + i2) ≤ 20 → P (-5) σa1)))) : N_M_create_56 x P Λ σ r i1 i2 i3 := by
  obtain ⟨hex, hb, hml, hown, hts, hr, hlk, hR, hnm, hAs, hNW⟩ := hx
  obtain ⟨hLM, hLA⟩ := hL
  refine ⟨(), fun hK hA ls H locs hl hP hS => ?_⟩
  refine lv_aload_n hex hb d_M_create_56 rfl (lv_at hl 0 rfl) ?_
  refine r_call (va_runV (As := []) (rest := []) ⟨hex, hb, hml, hown, hts⟩ (Ct.use T H.size) (cwV 0 hts (gdV bg_523 bg_524 bg_525 bg_4 bc_M_youngCells) rfl rfl rfl hdV_M_youngCells ⟨by rw [hR]; exact Nat.le_of_ble_eq_true rfl, by rw [hR]; exact Nat.le_of_ble_eq_true rfl⟩) (px_preV (ci := 4) hNW hK hP hLM rfl) rfl rfl hl.1 rfl (lv_room (Nat.le_of_ble_eq_true rfl)) d_M_create_57 ⟨by rw [hR]; exact Nat.le_of_ble_eq_true rfl, by rw [hR]; exact Nat.le_of_ble_eq_true rfl⟩) hS hA hAs (fun v Λ1 σ1 H locs hp hP hK hA hS => ?_)
  obtain ⟨z1, rfl, rfl, T⟩ := hp
  generalize σ1 = σa1 at hP T
  refine W.eq (g2 := F0 (xm x) 60 ls [.int (iI z1)]) rfl ?_
  refine lv_iconst (v := iI 1) hex hb d_M_create_60 rfl ?_
  refine r_iadd hex hb d_M_create_61 ?_
  refine lv_iload_n hex hb d_M_create_62 rfl (lv_at hl 2 rfl) ?_
  refine r_iadd hex hb d_M_create_63 ?_
  refine lv_bipush (v := iI 20) hex hb d_M_create_64 rfl ?_
  obtain ⟨h2, T⟩ := T
  obtain ⟨T1, T2⟩ := T
  refine r_icmp_le (a := (z1 + 1) + i2) (b := 20) (tgt := 72) hex hb h2 ⟨by omega, by omega⟩ d_M_create_66 rfl (fun hc => ?_) (fun hc => ?_)
  · have T := T1 hc
    refine lv_iconst (v := iI 0) hex hb d_M_create_72 rfl ?_
    refine lv_istore (lv' := [(4, .int (iI 0)), (0, .ref (r 0)), (1, .int (iI i1)), (2, .int (iI i2)), (3, .int (iI i3))]) hex hb d_M_create_73 hl (Nat.le_of_ble_eq_true rfl) rfl (fun ls hl => ?_)
    exact AtG.use T hK hA _ _ _ (lv_sub hl [1, 2, 3, 4, 0] rfl) hP hS
  · have T := T2 hc
    refine lv_bipush (v := iI (-5)) hex hb d_M_create_69 rfl ?_
    exact r_iret hex hb hr hlk hK hA hP hS ⟨_, rfl, rfl, T⟩ (Nat.zero_le _) (Nat.zero_le _) d_M_create_71
set_option maxHeartbeats 4000000 in
set_option maxRecDepth 100000 in
theorem u_M_create_75 {x : Cx} (hx : X_M_create x) {P : Int → Mem → Prop} {Λ : Lam} {σ : Mem} {r : Nat → Nat} {i1 : Int} {i2 : Int} {i3 : Int} {i4 : Int} (hL : LayM Λ r) (T : 0 ≤ i4 ∧ i4 < (90 : Int) ∧ rng (σ.2.1 1 (r 1) i4.toNat) ∧ (((σ.2.1 1 (r 1) i4.toNat) = 0 → 0 ≤ i4 ∧ i4 < (90 : Int) ∧ 0 ≤ i4 ∧ i4 < (90 : Int) ∧ 0 ≤ i4 ∧ i4 < (90 : Int) ∧ 0 ≤ i4 ∧ i4 < (90 : Int) ∧ N_M_create_126 x P Λ (upY (upY (upY (upY σ 1 (r 1) i4.toNat 1) 2 (r 2) i4.toNat i3) 3 (r 3) i4.toNat i2) 5 (r 5) i4.toNat 0) r i1 i4 0) ∧ (¬ (σ.2.1 1 (r 1) i4.toNat) = 0 → N_M_create_75 x P Λ σ r i1 i2 i3 (i4 + 1)))) : N_M_create_75 x P Λ σ r i1 i2 i3 i4 := by
  obtain ⟨hex, hb, hml, hown, hts, hr, hlk, hR, hnm, hAs, hNW⟩ := hx
  obtain ⟨hLM, hLA⟩ := hL
  refine ⟨(), fun hK hA ls H locs hl hP hS => ?_⟩
  refine lv_aload_n hex hb d_M_create_75 rfl (lv_at hl 0 rfl) ?_
  refine r_getR (ci := 4) (C := R_M) (T := F_M) (N := 22) hex hb hts (fun w h => List.mem_cons_of_mem _ (in_M w h)) hown hK hP hLM rfl 0 (by decide) (hts _ (List.mem_cons_of_mem _ bg_391)) (fun _ h9 => h9) rfl d_M_create_76 ?_
  refine lv_iload hex hb d_M_create_79 (lv_at hl 4 rfl) ?_
  obtain ⟨h1, T⟩ := T
  obtain ⟨h2, T⟩ := T
  refine r_iald hex hb hK hP (hLA 1 90 (by decide)).choose_spec (by decide) (by decide) h1 h2 d_M_create_81 ?_
  obtain ⟨h3, T⟩ := T
  obtain ⟨T1, T2⟩ := T
  refine r_if_eq (a := σ.2.1 1 (r 1) i4.toNat) (tgt := 91) hex hb h3 d_M_create_82 rfl (fun hc => ?_) (fun hc => ?_)
  · have T := T1 hc
    refine lv_aload_n hex hb d_M_create_91 rfl (lv_at hl 0 rfl) ?_
    refine r_getR (ci := 4) (C := R_M) (T := F_M) (N := 22) hex hb hts (fun w h => List.mem_cons_of_mem _ (in_M w h)) hown hK hP hLM rfl 0 (by decide) (hts _ (List.mem_cons_of_mem _ bg_391)) (fun _ h9 => h9) rfl d_M_create_92 ?_
    refine lv_iload hex hb d_M_create_95 (lv_at hl 4 rfl) ?_
    refine lv_iconst (v := iI 1) hex hb d_M_create_97 rfl ?_
    obtain ⟨h4, T⟩ := T
    obtain ⟨h5, T⟩ := T
    refine r_iast (v := 1) hex hb hK hP hA hS (hLA 1 90 (by decide)).choose_spec (by decide) (by decide) h4 h5 d_M_create_98 (fun H locs hP hS => ?_)
    refine lv_aload_n hex hb d_M_create_99 rfl (lv_at hl 0 rfl) ?_
    refine r_getR (ci := 4) (C := R_M) (T := F_M) (N := 22) hex hb hts (fun w h => List.mem_cons_of_mem _ (in_M w h)) hown hK hP hLM rfl 1 (by decide) (hts _ (List.mem_cons_of_mem _ bg_392)) (fun _ h9 => h9) rfl d_M_create_100 ?_
    refine lv_iload hex hb d_M_create_103 (lv_at hl 4 rfl) ?_
    refine lv_iload_n hex hb d_M_create_105 rfl (lv_at hl 3 rfl) ?_
    obtain ⟨h6, T⟩ := T
    obtain ⟨h7, T⟩ := T
    refine r_iast (v := i3) hex hb hK hP hA hS (hLA 2 90 (by decide)).choose_spec (by decide) (by decide) h6 h7 d_M_create_106 (fun H locs hP hS => ?_)
    refine lv_aload_n hex hb d_M_create_107 rfl (lv_at hl 0 rfl) ?_
    refine r_getR (ci := 4) (C := R_M) (T := F_M) (N := 22) hex hb hts (fun w h => List.mem_cons_of_mem _ (in_M w h)) hown hK hP hLM rfl 2 (by decide) (hts _ (List.mem_cons_of_mem _ bg_393)) (fun _ h9 => h9) rfl d_M_create_108 ?_
    refine lv_iload hex hb d_M_create_111 (lv_at hl 4 rfl) ?_
    refine lv_iload_n hex hb d_M_create_113 rfl (lv_at hl 2 rfl) ?_
    obtain ⟨h8, T⟩ := T
    obtain ⟨h9, T⟩ := T
    refine r_iast (v := i2) hex hb hK hP hA hS (hLA 3 90 (by decide)).choose_spec (by decide) (by decide) h8 h9 d_M_create_114 (fun H locs hP hS => ?_)
    refine lv_aload_n hex hb d_M_create_115 rfl (lv_at hl 0 rfl) ?_
    refine r_getR (ci := 4) (C := R_M) (T := F_M) (N := 22) hex hb hts (fun w h => List.mem_cons_of_mem _ (in_M w h)) hown hK hP hLM rfl 4 (by decide) (hts _ (List.mem_cons_of_mem _ bg_395)) (fun _ h9 => h9) rfl d_M_create_116 ?_
    refine lv_iload hex hb d_M_create_119 (lv_at hl 4 rfl) ?_
    refine lv_iconst (v := iI 0) hex hb d_M_create_121 rfl ?_
    obtain ⟨h10, T⟩ := T
    obtain ⟨h11, T⟩ := T
    refine r_iast (v := 0) hex hb hK hP hA hS (hLA 5 90 (by decide)).choose_spec (by decide) (by decide) h10 h11 d_M_create_122 (fun H locs hP hS => ?_)
    refine lv_iconst (v := iI 0) hex hb d_M_create_123 rfl ?_
    refine lv_istore (lv' := [(5, .int (iI 0)), (0, .ref (r 0)), (1, .int (iI i1)), (2, .int (iI i2)), (3, .int (iI i3)), (4, .int (iI i4))]) hex hb d_M_create_124 hl (Nat.le_of_ble_eq_true rfl) rfl (fun ls hl => ?_)
    exact AtG.use T hK hA _ _ _ (lv_sub hl [1, 2, 5, 0] rfl) hP hS
  · have T := T2 hc
    refine lv_iinc (v := iI (i4 + 1)) (lv' := [(4, .int (iI (i4 + 1))), (0, .ref (r 0)), (1, .int (iI i1)), (2, .int (iI i2)), (3, .int (iI i3))]) hex hb d_M_create_85 hl (k := 4) rfl (iI_add _ _) (Nat.le_of_ble_eq_true rfl) rfl (fun ls hl => ?_)
    refine lv_goto (tgt := 75) hex hb d_M_create_88 rfl ?_
    exact AtG.use T hK hA _ _ _ (lv_sub hl [1, 2, 3, 4, 0] rfl) hP hS
set_option maxHeartbeats 4000000 in
set_option maxRecDepth 100000 in
theorem u_M_create_126 {x : Cx} (hx : X_M_create x) {P : Int → Mem → Prop} {Λ : Lam} {σ : Mem} {r : Nat → Nat} {i1 : Int} {i4 : Int} {i5 : Int} (hL : LayM Λ r) (T : rng i5 ∧ ((3 ≤ i5 → 0 ≤ (σ.1 413 (r 0)) ∧ (σ.1 413 (r 0)) < (20 : Int) ∧ 0 ≤ i1 ∧ i1 < (6 : Int) ∧ P 0 (upY (upI (upY σ 8 (r 8) (σ.1 413 (r 0)).toNat i4) 413 (r 0) (((upY σ 8 (r 8) (σ.1 413 (r 0)).toNat i4).1 413 (r 0)) + 1)) 7 (r 7) i1.toNat i4)) ∧ (¬ 3 ≤ i5 → 0 ≤ ((3 * i4) + i5) ∧ ((3 * i4) + i5) < (270 : Int) ∧ N_M_create_126 x P Λ (upY σ 4 (r 4) ((3 * i4) + i5).toNat (-1)) r i1 i4 (i5 + 1)))) : N_M_create_126 x P Λ σ r i1 i4 i5 := by
  obtain ⟨hex, hb, hml, hown, hts, hr, hlk, hR, hnm, hAs, hNW⟩ := hx
  obtain ⟨hLM, hLA⟩ := hL
  refine ⟨(), fun hK hA ls H locs hl hP hS => ?_⟩
  refine lv_iload hex hb d_M_create_126 (lv_at hl 3 rfl) ?_
  refine lv_iconst (v := iI 3) hex hb d_M_create_128 rfl ?_
  obtain ⟨h1, T⟩ := T
  obtain ⟨T1, T2⟩ := T
  refine r_icmp_ge (a := i5) (b := 3) (tgt := 151) hex hb h1 ⟨by omega, by omega⟩ d_M_create_129 rfl (fun hc => ?_) (fun hc => ?_)
  · have T := T1 hc
    refine lv_aload_n hex hb d_M_create_151 rfl (lv_at hl 0 rfl) ?_
    refine r_getR (ci := 4) (C := R_M) (T := F_M) (N := 22) hex hb hts (fun w h => List.mem_cons_of_mem _ (in_M w h)) hown hK hP hLM rfl 14 (by decide) (hts _ (List.mem_cons_of_mem _ bg_405)) (fun _ h9 => h9) rfl d_M_create_152 ?_
    refine lv_aload_n hex hb d_M_create_155 rfl (lv_at hl 0 rfl) ?_
    refine r_getI (ci := 4) (C := R_M) (T := F_M) (N := 22) hex hb hts (fun w h => List.mem_cons_of_mem _ (in_M w h)) hown hK hP hLM rfl 13 (by decide) (hts _ (List.mem_cons_of_mem _ bg_404)) (fun _ h9 => h9) rfl d_M_create_156 ?_
    refine lv_iload hex hb d_M_create_159 (lv_at hl 2 rfl) ?_
    obtain ⟨h2, T⟩ := T
    obtain ⟨h3, T⟩ := T
    refine r_iast (v := i4) hex hb hK hP hA hS (hLA 8 20 (by decide)).choose_spec (by decide) (by decide) h2 h3 d_M_create_161 (fun H locs hP hS => ?_)
    refine lv_aload_n hex hb d_M_create_162 rfl (lv_at hl 0 rfl) ?_
    refine lv_dup hex hb d_M_create_163 rfl ?_
    refine r_getI (ci := 4) (C := R_M) (T := F_M) (N := 22) hex hb hts (fun w h => List.mem_cons_of_mem _ (in_M w h)) hown hK hP hLM rfl 13 (by decide) (hts _ (List.mem_cons_of_mem _ bg_404)) (fun _ h9 => h9) rfl d_M_create_164 ?_
    refine lv_iconst (v := iI 1) hex hb d_M_create_167 rfl ?_
    refine r_iadd hex hb d_M_create_168 ?_
    refine r_putI (ci := 4) (C := R_M) (T := F_M) (N := 22) (v := ((upY σ 8 (r 8) (σ.1 413 (r 0)).toNat i4).1 413 (r 0)) + 1) (ty := .int) hex hb hts (fun w h => List.mem_cons_of_mem _ (in_M w h)) tq_M tq_M_ok n_M hown hK hP hA hS hLM rfl 13 (by decide) (hts _ (List.mem_cons_of_mem _ bg_404)) (fun _ h9 => h9) rfl (by decide +kernel) rfl rfl rfl d_M_create_169 (fun H locs hP hS => ?_)
    refine lv_aload_n hex hb d_M_create_172 rfl (lv_at hl 0 rfl) ?_
    refine r_getR (ci := 4) (C := R_M) (T := F_M) (N := 22) hex hb hts (fun w h => List.mem_cons_of_mem _ (in_M w h)) hown hK hP hLM rfl 8 (by decide) (hts _ (List.mem_cons_of_mem _ bg_399)) (fun _ h9 => h9) rfl d_M_create_173 ?_
    refine lv_iload_n hex hb d_M_create_176 rfl (lv_at hl 1 rfl) ?_
    refine lv_iload hex hb d_M_create_177 (lv_at hl 2 rfl) ?_
    obtain ⟨h4, T⟩ := T
    obtain ⟨h5, T⟩ := T
    refine r_iast (v := i4) hex hb hK hP hA hS (hLA 7 6 (by decide)).choose_spec (by decide) (by decide) h4 h5 d_M_create_179 (fun H locs hP hS => ?_)
    refine lv_iconst (v := iI 0) hex hb d_M_create_180 rfl ?_
    exact r_iret hex hb hr hlk hK hA hP hS ⟨_, rfl, rfl, T⟩ (Nat.zero_le _) (Nat.zero_le _) d_M_create_181
  · have T := T2 hc
    refine lv_aload_n hex hb d_M_create_132 rfl (lv_at hl 0 rfl) ?_
    refine r_getR (ci := 4) (C := R_M) (T := F_M) (N := 22) hex hb hts (fun w h => List.mem_cons_of_mem _ (in_M w h)) hown hK hP hLM rfl 3 (by decide) (hts _ (List.mem_cons_of_mem _ bg_394)) (fun _ h9 => h9) rfl d_M_create_133 ?_
    refine lv_iconst (v := iI 3) hex hb d_M_create_136 rfl ?_
    refine lv_iload hex hb d_M_create_137 (lv_at hl 2 rfl) ?_
    refine r_imul hex hb d_M_create_139 ?_
    refine lv_iload hex hb d_M_create_140 (lv_at hl 3 rfl) ?_
    refine r_iadd hex hb d_M_create_142 ?_
    refine lv_iconst (v := iI (-1)) hex hb d_M_create_143 rfl ?_
    obtain ⟨h6, T⟩ := T
    obtain ⟨h7, T⟩ := T
    refine r_iast (v := (-1)) hex hb hK hP hA hS (hLA 4 270 (by decide)).choose_spec (by decide) (by decide) h6 h7 d_M_create_144 (fun H locs hP hS => ?_)
    refine lv_iinc (v := iI (i5 + 1)) (lv' := [(5, .int (iI (i5 + 1))), (0, .ref (r 0)), (1, .int (iI i1)), (4, .int (iI i4))]) hex hb d_M_create_145 hl (k := 3) rfl (iI_add _ _) (Nat.le_of_ble_eq_true rfl) rfl (fun ls hl => ?_)
    refine lv_goto (tgt := 126) hex hb d_M_create_148 rfl ?_
    exact AtG.use T hK hA _ _ _ (lv_sub hl [1, 2, 3, 0] rfl) hP hS
