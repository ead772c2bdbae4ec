-- DirtyCardHeapModel.collectYoung()V
def rm_M_collectYoung : Room := { frames := 4, cells := 0, slots := 0, locals := 90 }
abbrev X_M_collectYoung (x : Cx) : Prop := CxOk x b_M_collectYoung 3 wl_M_collectYoung R_M none rm_M_collectYoung "collectYoung"
abbrev K_M_collectYoung (l : Launch) (D : va_G) (Λ : Lam) (σ : Mem) (r : Nat → Nat) (P : Mem → Prop) : Prop := Ct l D y_M_collectYoung wl_M_collectYoung rm_M_collectYoung [.ref (r 0)] Λ σ (pV Λ P)
abbrev N_M_collectYoung_0 (x : Cx) (P : Mem → Prop) (Λ : Lam) (σ : Mem) (r : Nat → Nat) : Prop := AtG x (pV Λ P) 3 0 0 0 Λ σ [(0, .ref (r 0))] []
abbrev N_M_collectYoung_6 (x : Cx) (P : Mem → Prop) (Λ : Lam) (σ : Mem) (r : Nat → Nat) (i1 : Int) : Prop := AtG x (pV Λ P) 3 6 0 0 Λ σ [(0, .ref (r 0)), (1, .int (iI i1))] []
abbrev N_M_collectYoung_30 (x : Cx) (P : Mem → Prop) (Λ : Lam) (σ : Mem) (r : Nat → Nat) (i1 : Int) : Prop := AtG x (pV Λ P) 3 30 0 0 Λ σ [(0, .ref (r 0)), (1, .int (iI i1))] []
abbrev N_M_collectYoung_49 (x : Cx) (P : Mem → Prop) (Λ : Lam) (σ : Mem) (r : Nat → Nat) (i1 : Int) : Prop := AtG x (pV Λ P) 3 49 0 0 Λ σ [(0, .ref (r 0)), (1, .int (iI i1))] []
abbrev N_M_collectYoung_59 (x : Cx) (P : Mem → Prop) (Λ : Lam) (σ : Mem) (r : Nat → Nat) (i1 : Int) (i2 : Int) : Prop := AtG x (pV Λ P) 3 59 0 0 Λ σ [(0, .ref (r 0)), (1, .int (iI i1)), (2, .int (iI i2))] []
abbrev N_M_collectYoung_107 (x : Cx) (P : Mem → Prop) (Λ : Lam) (σ : Mem) (r : Nat → Nat) (i1 : Int) : Prop := AtG x (pV Λ P) 3 107 0 0 Λ σ [(0, .ref (r 0)), (1, .int (iI i1))] []
abbrev N_M_collectYoung_150 (x : Cx) (P : Mem → Prop) (Λ : Lam) (σ : Mem) (r : Nat → Nat) (i1 : Int) : Prop := AtG x (pV Λ P) 3 150 0 0 Λ σ [(0, .ref (r 0)), (1, .int (iI i1))] []
abbrev N_M_collectYoung_206 (x : Cx) (P : Mem → Prop) (Λ : Lam) (σ : Mem) (r : Nat → Nat) (i1 : Int) : Prop := AtG x (pV Λ P) 3 206 0 0 Λ σ [(0, .ref (r 0)), (1, .int (iI i1))] []
abbrev N_M_collectYoung_233 (x : Cx) (P : Mem → Prop) (Λ : Lam) (σ : Mem) (r : Nat → Nat) (i1 : Int) : Prop := AtG x (pV Λ P) 3 233 0 0 Λ σ [(0, .ref (r 0)), (1, .int (iI i1))] []
abbrev N_M_collectYoung_234 (x : Cx) (P : Mem → Prop) (Λ : Lam) (σ : Mem) (r : Nat → Nat) (i1 : Int) (s0 : Int) : Prop := AtG x (pV Λ P) 3 234 0 0 Λ σ [(0, .ref (r 0)), (1, .int (iI i1))] [.int (iI s0)]
abbrev N_M_collectYoung_265 (x : Cx) (P : Mem → Prop) (Λ : Lam) (σ : Mem) (r : Nat → Nat) (i1 : Int) (i2 : Int) (s1 : Int) : Prop := AtG x (pV Λ P) 3 265 0 0 Λ σ [(0, .ref (r 0)), (1, .int (iI i1)), (2, .int (iI i2))] [.int (iI s1), .ref (r 54)]
abbrev N_M_collectYoung_266 (x : Cx) (P : Mem → Prop) (Λ : Lam) (σ : Mem) (r : Nat → Nat) (i1 : Int) (i2 : Int) (s1 : Int) (s2 : Int) : Prop := AtG x (pV Λ P) 3 266 0 0 Λ σ [(0, .ref (r 0)), (1, .int (iI i1)), (2, .int (iI i2))] [.int (iI s2), .int (iI s1), .ref (r 54)]
theorem e_M_collectYoung {l : Launch} {D : va_G} {Λ : Lam} {σ : Mem} {r : Nat → Nat} {P : Mem → Prop} (h : ∀ x : Cx, xl x = l → xD x = D → X_M_collectYoung x → N_M_collectYoung_0 x P Λ σ r) : K_M_collectYoung l D Λ σ r P := Ct.of (by decide) rfl (Nat.le_of_ble_eq_true rfl) h
set_option maxHeartbeats 4000000 in
set_option maxRecDepth 100000 in
theorem u_M_collectYoung_0 {x : Cx} (hx : X_M_collectYoung x) {P : Mem → Prop} {Λ : Lam} {σ : Mem} {r : Nat → Nat} (hL : LayM Λ r) (T : K_M_prepare (xl x) (xD x) Λ σ r (fun σa1 => N_M_collectYoung_6 x P Λ σa1 r 0)) : N_M_collectYoung_0 x P Λ σ r := by
  obtain ⟨hex, hb, hml, hown, hts, hr, hlk, hR, hnm, hAs, hNW⟩ := hx
  obtain ⟨hLM, hLA⟩ := hL
  refine ⟨(), fun hK hA ls H locs hl hP hS => ?_⟩
  refine lv_aload_n hex hb d_M_collectYoung_0 rfl (lv_at hl 0 rfl) ?_
  refine r_call (va_runV (As := []) (rest := []) ⟨hex, hb, hml, hown, hts⟩ (Ct.use T H.size) (cwV 0 hts (gdV bg_468 bg_470 bp_19 bg_4 bc_M_prepare) rfl rfl rfl hdV_M_prepare ⟨by rw [hR]; exact Nat.le_of_ble_eq_true rfl, by rw [hR]; exact Nat.le_of_ble_eq_true rfl⟩) (px_preV (ci := 4) hNW hK hP hLM rfl) rfl rfl hl.1 rfl (lv_room (Nat.le_of_ble_eq_true rfl)) d_M_collectYoung_1 ⟨by rw [hR]; exact Nat.le_of_ble_eq_true rfl, by rw [hR]; exact Nat.le_of_ble_eq_true rfl⟩) hS hA hAs (fun v Λ1 σ1 H locs hp hP hK hA hS => ?_)
  obtain ⟨rfl, rfl, T⟩ := hp
  generalize σ1 = σa1 at hP T
  refine W.eq (g2 := F0 (xm x) 4 ls []) rfl ?_
  refine lv_iconst (v := iI 0) hex hb d_M_collectYoung_4 rfl ?_
  refine lv_istore_n (lv' := [(1, .int (iI 0)), (0, .ref (r 0))]) hex hb d_M_collectYoung_5 rfl hl (Nat.le_of_ble_eq_true rfl) rfl (fun ls hl => ?_)
  exact AtG.use T hK hA _ _ _ (lv_sub hl [1, 0] rfl) hP hS
set_option maxHeartbeats 4000000 in
set_option maxRecDepth 100000 in
theorem u_M_collectYoung_6 {x : Cx} (hx : X_M_collectYoung x) {P : Mem → Prop} {Λ : Lam} {σ : Mem} {r : Nat → Nat} {i1 : Int} (hL : LayM Λ r) (T : rng i1 ∧ ((6 ≤ i1 → N_M_collectYoung_30 x P Λ σ r 0) ∧ (¬ 6 ≤ i1 → 0 ≤ i1 ∧ i1 < (6 : Int) ∧ K_M_reach (xl x) (xD x) Λ σ r (σ.2.1 7 (r 7) i1.toNat) (fun σa4 => N_M_collectYoung_6 x P Λ σa4 r (i1 + 1))))) : N_M_collectYoung_6 x P Λ σ r i1 := by
  obtain ⟨hex, hb, hml, hown, hts, hr, hlk, hR, hnm, hAs, hNW⟩ := hx
  obtain ⟨hLM, hLA⟩ := hL
  refine ⟨(), fun hK hA ls H locs hl hP hS => ?_⟩
  refine lv_iload_n hex hb d_M_collectYoung_6 rfl (lv_at hl 1 rfl) ?_
  refine lv_bipush (v := iI 6) hex hb d_M_collectYoung_7 rfl ?_
  obtain ⟨h1, T⟩ := T
  obtain ⟨T1, T2⟩ := T
  refine r_icmp_ge (a := i1) (b := 6) (tgt := 28) hex hb h1 ⟨by omega, by omega⟩ d_M_collectYoung_9 rfl (fun hc => ?_) (fun hc => ?_)
  · have T := T1 hc
    refine lv_iconst (v := iI 0) hex hb d_M_collectYoung_28 rfl ?_
    refine lv_istore_n (lv' := [(1, .int (iI 0)), (0, .ref (r 0))]) hex hb d_M_collectYoung_29 rfl hl (Nat.le_of_ble_eq_true rfl) rfl (fun ls hl => ?_)
    exact AtG.use T hK hA _ _ _ (lv_sub hl [1, 0] rfl) hP hS
  · have T := T2 hc
    refine lv_aload_n hex hb d_M_collectYoung_12 rfl (lv_at hl 0 rfl) ?_
    refine lv_aload_n hex hb d_M_collectYoung_13 rfl (lv_at hl 0 rfl) ?_
    refine r_getR (ci := 4) (C := R_M) (T := F_M) (N := 22) hex hb hts (fun w h => List.mem_cons_of_mem _ (in_M w h)) hown hK hP hLM rfl 8 (by decide) (hts _ (List.mem_cons_of_mem _ bg_399)) (fun _ h9 => h9) rfl d_M_collectYoung_14 ?_
    refine lv_iload_n hex hb d_M_collectYoung_17 rfl (lv_at hl 1 rfl) ?_
    obtain ⟨h2, T⟩ := T
    obtain ⟨h3, T⟩ := T
    refine r_iald hex hb hK hP (hLA 7 6 (by decide)).choose_spec (by decide) (by decide) h2 h3 d_M_collectYoung_18 ?_
    refine r_call (va_runV (As := [.int (iI (σ.2.1 7 (r 7) i1.toNat))]) (rest := []) ⟨hex, hb, hml, hown, hts⟩ (Ct.use T H.size) (cwV 1 hts (gdV bg_504 bg_506 bp_28 bg_4 bc_M_reach) rfl rfl rfl hdV_M_reach ⟨by rw [hR]; exact Nat.le_of_ble_eq_true rfl, by rw [hR]; exact Nat.le_of_ble_eq_true rfl⟩) (px_preV (ci := 4) hNW hK hP hLM rfl) rfl rfl hl.1 rfl (lv_room (Nat.le_of_ble_eq_true rfl)) d_M_collectYoung_19 ⟨by rw [hR]; exact Nat.le_of_ble_eq_true rfl, by rw [hR]; exact Nat.le_of_ble_eq_true rfl⟩) hS hA hAs (fun v Λ1 σ1 H locs hp hP hK hA hS => ?_)
    obtain ⟨rfl, rfl, T⟩ := hp
    generalize σ1 = σa4 at hP T
    refine W.eq (g2 := F0 (xm x) 22 ls []) rfl ?_
    refine lv_iinc (v := iI (i1 + 1)) (lv' := [(1, .int (iI (i1 + 1))), (0, .ref (r 0))]) hex hb d_M_collectYoung_22 hl (k := 1) rfl (iI_add _ _) (Nat.le_of_ble_eq_true rfl) rfl (fun ls hl => ?_)
    refine lv_goto (tgt := 6) hex hb d_M_collectYoung_25 rfl ?_
    exact AtG.use T hK hA _ _ _ (lv_sub hl [1, 0] rfl) hP hS
set_option maxHeartbeats 4000000 in
set_option maxRecDepth 100000 in
theorem u_M_collectYoung_30 {x : Cx} (hx : X_M_collectYoung x) {P : Mem → Prop} {Λ : Lam} {σ : Mem} {r : Nat → Nat} {i1 : Int} (hL : LayM Λ r) (T : rng i1 ∧ ((64 ≤ i1 → N_M_collectYoung_49 x P Λ σ r 0) ∧ (¬ 64 ≤ i1 → K_M_reachFrom (xl x) (xD x) Λ σ r i1 (fun σa2 => N_M_collectYoung_30 x P Λ σa2 r (i1 + 1))))) : N_M_collectYoung_30 x P Λ σ r i1 := by
  obtain ⟨hex, hb, hml, hown, hts, hr, hlk, hR, hnm, hAs, hNW⟩ := hx
  obtain ⟨hLM, hLA⟩ := hL
  refine ⟨(), fun hK hA ls H locs hl hP hS => ?_⟩
  refine lv_iload_n hex hb d_M_collectYoung_30 rfl (lv_at hl 1 rfl) ?_
  refine lv_bipush (v := iI 64) hex hb d_M_collectYoung_31 rfl ?_
  obtain ⟨h1, T⟩ := T
  obtain ⟨T1, T2⟩ := T
  refine r_icmp_ge (a := i1) (b := 64) (tgt := 47) hex hb h1 ⟨by omega, by omega⟩ d_M_collectYoung_33 rfl (fun hc => ?_) (fun hc => ?_)
  · have T := T1 hc
    refine lv_iconst (v := iI 0) hex hb d_M_collectYoung_47 rfl ?_
    refine lv_istore_n (lv' := [(1, .int (iI 0)), (0, .ref (r 0))]) hex hb d_M_collectYoung_48 rfl hl (Nat.le_of_ble_eq_true rfl) rfl (fun ls hl => ?_)
    exact AtG.use T hK hA _ _ _ (lv_sub hl [1, 0] rfl) hP hS
  · have T := T2 hc
    refine lv_aload_n hex hb d_M_collectYoung_36 rfl (lv_at hl 0 rfl) ?_
    refine lv_iload_n hex hb d_M_collectYoung_37 rfl (lv_at hl 1 rfl) ?_
    refine r_call (va_runV (As := [.int (iI i1)]) (rest := []) ⟨hex, hb, hml, hown, hts⟩ (Ct.use T H.size) (cwV 1 hts (gdV bg_512 bg_514 bp_30 bg_4 bc_M_reachFrom) rfl rfl rfl hdV_M_reachFrom ⟨by rw [hR]; exact Nat.le_of_ble_eq_true rfl, by rw [hR]; exact Nat.le_of_ble_eq_true rfl⟩) (px_preV (ci := 4) hNW hK hP hLM rfl) rfl rfl hl.1 rfl (lv_room (Nat.le_of_ble_eq_true rfl)) d_M_collectYoung_38 ⟨by rw [hR]; exact Nat.le_of_ble_eq_true rfl, by rw [hR]; exact Nat.le_of_ble_eq_true rfl⟩) hS hA hAs (fun v Λ1 σ1 H locs hp hP hK hA hS => ?_)
    obtain ⟨rfl, rfl, T⟩ := hp
    generalize σ1 = σa2 at hP T
    refine W.eq (g2 := F0 (xm x) 41 ls []) rfl ?_
    refine lv_iinc (v := iI (i1 + 1)) (lv' := [(1, .int (iI (i1 + 1))), (0, .ref (r 0))]) hex hb d_M_collectYoung_41 hl (k := 1) rfl (iI_add _ _) (Nat.le_of_ble_eq_true rfl) rfl (fun ls hl => ?_)
    refine lv_goto (tgt := 30) hex hb d_M_collectYoung_44 rfl ?_
    exact AtG.use T hK hA _ _ _ (lv_sub hl [1, 0] rfl) hP hS
set_option maxHeartbeats 4000000 in
set_option maxRecDepth 100000 in
theorem u_M_collectYoung_49 {x : Cx} (hx : X_M_collectYoung x) {P : Mem → Prop} {Λ : Lam} {σ : Mem} {r : Nat → Nat} {i1 : Int} (hL : LayM Λ r) (T : rng i1 ∧ rng (σ.1 415 (r 0)) ∧ (((σ.1 415 (r 0)) ≤ i1 → N_M_collectYoung_107 x P Λ σ r 0) ∧ (¬ (σ.1 415 (r 0)) ≤ i1 → N_M_collectYoung_59 x P Λ σ r i1 0))) : N_M_collectYoung_49 x P Λ σ r i1 := by
  obtain ⟨hex, hb, hml, hown, hts, hr, hlk, hR, hnm, hAs, hNW⟩ := hx
  obtain ⟨hLM, hLA⟩ := hL
  refine ⟨(), fun hK hA ls H locs hl hP hS => ?_⟩
  refine lv_iload_n hex hb d_M_collectYoung_49 rfl (lv_at hl 1 rfl) ?_
  refine lv_aload_n hex hb d_M_collectYoung_50 rfl (lv_at hl 0 rfl) ?_
  refine r_getI (ci := 4) (C := R_M) (T := F_M) (N := 22) hex hb hts (fun w h => List.mem_cons_of_mem _ (in_M w h)) hown hK hP hLM rfl 15 (by decide) (hts _ (List.mem_cons_of_mem _ bg_406)) (fun _ h9 => h9) rfl d_M_collectYoung_51 ?_
  obtain ⟨h1, T⟩ := T
  obtain ⟨h2, T⟩ := T
  obtain ⟨T1, T2⟩ := T
  refine r_icmp_ge (a := i1) (b := σ.1 415 (r 0)) (tgt := 105) hex hb h1 h2 d_M_collectYoung_54 rfl (fun hc => ?_) (fun hc => ?_)
  · have T := T1 hc
    refine lv_iconst (v := iI 0) hex hb d_M_collectYoung_105 rfl ?_
    refine lv_istore_n (lv' := [(1, .int (iI 0)), (0, .ref (r 0))]) hex hb d_M_collectYoung_106 rfl hl (Nat.le_of_ble_eq_true rfl) rfl (fun ls hl => ?_)
    exact AtG.use T hK hA _ _ _ (lv_sub hl [1, 0] rfl) hP hS
  · have T := T2 hc
    refine lv_iconst (v := iI 0) hex hb d_M_collectYoung_57 rfl ?_
    refine lv_istore_n (lv' := [(2, .int (iI 0)), (0, .ref (r 0)), (1, .int (iI i1))]) hex hb d_M_collectYoung_58 rfl hl (Nat.le_of_ble_eq_true rfl) rfl (fun ls hl => ?_)
    exact AtG.use T hK hA _ _ _ (lv_sub hl [1, 2, 0] rfl) hP hS
set_option maxHeartbeats 4000000 in
set_option maxRecDepth 100000 in
theorem u_M_collectYoung_59 {x : Cx} (hx : X_M_collectYoung x) {P : Mem → Prop} {Λ : Lam} {σ : Mem} {r : Nat → Nat} {i1 : Int} {i2 : Int} (hL : LayM Λ r) (T : 0 ≤ i1 ∧ i1 < (20 : Int) ∧ 0 ≤ (σ.2.1 9 (r 9) i1.toNat) ∧ (σ.2.1 9 (r 9) i1.toNat) < (90 : Int) ∧ rng i2 ∧ rng (σ.2.1 3 (r 3) (σ.2.1 9 (r 9) i1.toNat).toNat) ∧ (((σ.2.1 3 (r 3) (σ.2.1 9 (r 9) i1.toNat).toNat) ≤ i2 → N_M_collectYoung_49 x P Λ σ r (i1 + 1)) ∧ (¬ (σ.2.1 3 (r 3) (σ.2.1 9 (r 9) i1.toNat).toNat) ≤ i2 → 0 ≤ i1 ∧ i1 < (20 : Int) ∧ 0 ≤ ((3 * (σ.2.1 9 (r 9) i1.toNat)) + i2) ∧ ((3 * (σ.2.1 9 (r 9) i1.toNat)) + i2) < (270 : Int) ∧ K_M_reach (xl x) (xD x) Λ σ r (σ.2.1 4 (r 4) ((3 * (σ.2.1 9 (r 9) i1.toNat)) + i2).toNat) (fun σa11 => N_M_collectYoung_59 x P Λ σa11 r i1 (i2 + 1))))) : N_M_collectYoung_59 x P Λ σ r i1 i2 := by
  obtain ⟨hex, hb, hml, hown, hts, hr, hlk, hR, hnm, hAs, hNW⟩ := hx
  obtain ⟨hLM, hLA⟩ := hL
  refine ⟨(), fun hK hA ls H locs hl hP hS => ?_⟩
  refine lv_iload_n hex hb d_M_collectYoung_59 rfl (lv_at hl 2 rfl) ?_
  refine lv_aload_n hex hb d_M_collectYoung_60 rfl (lv_at hl 0 rfl) ?_
  refine r_getR (ci := 4) (C := R_M) (T := F_M) (N := 22) hex hb hts (fun w h => List.mem_cons_of_mem _ (in_M w h)) hown hK hP hLM rfl 2 (by decide) (hts _ (List.mem_cons_of_mem _ bg_393)) (fun _ h9 => h9) rfl d_M_collectYoung_61 ?_
  refine lv_aload_n hex hb d_M_collectYoung_64 rfl (lv_at hl 0 rfl) ?_
  refine r_getR (ci := 4) (C := R_M) (T := F_M) (N := 22) hex hb hts (fun w h => List.mem_cons_of_mem _ (in_M w h)) hown hK hP hLM rfl 16 (by decide) (hts _ (List.mem_cons_of_mem _ bg_407)) (fun _ h9 => h9) rfl d_M_collectYoung_65 ?_
  refine lv_iload_n hex hb d_M_collectYoung_68 rfl (lv_at hl 1 rfl) ?_
  obtain ⟨h1, T⟩ := T
  obtain ⟨h2, T⟩ := T
  refine r_iald hex hb hK hP (hLA 9 20 (by decide)).choose_spec (by decide) (by decide) h1 h2 d_M_collectYoung_69 ?_
  obtain ⟨h3, T⟩ := T
  obtain ⟨h4, T⟩ := T
  refine r_iald hex hb hK hP (hLA 3 90 (by decide)).choose_spec (by decide) (by decide) h3 h4 d_M_collectYoung_70 ?_
  obtain ⟨h5, T⟩ := T
  obtain ⟨h6, T⟩ := T
  obtain ⟨T1, T2⟩ := T
  refine r_icmp_ge (a := i2) (b := σ.2.1 3 (r 3) (σ.2.1 9 (r 9) i1.toNat).toNat) (tgt := 99) hex hb h5 h6 d_M_collectYoung_71 rfl (fun hc => ?_) (fun hc => ?_)
  · have T := T1 hc
    refine lv_iinc (v := iI (i1 + 1)) (lv' := [(1, .int (iI (i1 + 1))), (0, .ref (r 0)), (2, .int (iI i2))]) hex hb d_M_collectYoung_99 hl (k := 1) rfl (iI_add _ _) (Nat.le_of_ble_eq_true rfl) rfl (fun ls hl => ?_)
    refine lv_goto (tgt := 49) hex hb d_M_collectYoung_102 rfl ?_
    exact AtG.use T hK hA _ _ _ (lv_sub hl [1, 0] rfl) hP hS
  · have T := T2 hc
    refine lv_aload_n hex hb d_M_collectYoung_74 rfl (lv_at hl 0 rfl) ?_
    refine lv_aload_n hex hb d_M_collectYoung_75 rfl (lv_at hl 0 rfl) ?_
    refine r_getR (ci := 4) (C := R_M) (T := F_M) (N := 22) hex hb hts (fun w h => List.mem_cons_of_mem _ (in_M w h)) hown hK hP hLM rfl 3 (by decide) (hts _ (List.mem_cons_of_mem _ bg_394)) (fun _ h9 => h9) rfl d_M_collectYoung_76 ?_
    refine lv_iconst (v := iI 3) hex hb d_M_collectYoung_79 rfl ?_
    refine lv_aload_n hex hb d_M_collectYoung_80 rfl (lv_at hl 0 rfl) ?_
    refine r_getR (ci := 4) (C := R_M) (T := F_M) (N := 22) hex hb hts (fun w h => List.mem_cons_of_mem _ (in_M w h)) hown hK hP hLM rfl 16 (by decide) (hts _ (List.mem_cons_of_mem _ bg_407)) (fun _ h9 => h9) rfl d_M_collectYoung_81 ?_
    refine lv_iload_n hex hb d_M_collectYoung_84 rfl (lv_at hl 1 rfl) ?_
    obtain ⟨h7, T⟩ := T
    obtain ⟨h8, T⟩ := T
    refine r_iald hex hb hK hP (hLA 9 20 (by decide)).choose_spec (by decide) (by decide) h7 h8 d_M_collectYoung_85 ?_
    refine r_imul hex hb d_M_collectYoung_86 ?_
    refine lv_iload_n hex hb d_M_collectYoung_87 rfl (lv_at hl 2 rfl) ?_
    refine r_iadd hex hb d_M_collectYoung_88 ?_
    obtain ⟨h9, T⟩ := T
    obtain ⟨h10, T⟩ := T
    refine r_iald hex hb hK hP (hLA 4 270 (by decide)).choose_spec (by decide) (by decide) h9 h10 d_M_collectYoung_89 ?_
    refine r_call (va_runV (As := [.int (iI (σ.2.1 4 (r 4) ((3 * (σ.2.1 9 (r 9) i1.toNat)) + i2).toNat))]) (rest := []) ⟨hex, hb, hml, hown, hts⟩ (Ct.use T H.size) (cwV 1 hts (gdV bg_504 bg_506 bp_28 bg_4 bc_M_reach) rfl rfl rfl hdV_M_reach ⟨by rw [hR]; exact Nat.le_of_ble_eq_true rfl, by rw [hR]; exact Nat.le_of_ble_eq_true rfl⟩) (px_preV (ci := 4) hNW hK hP hLM rfl) rfl rfl hl.1 rfl (lv_room (Nat.le_of_ble_eq_true rfl)) d_M_collectYoung_90 ⟨by rw [hR]; exact Nat.le_of_ble_eq_true rfl, by rw [hR]; exact Nat.le_of_ble_eq_true rfl⟩) hS hA hAs (fun v Λ1 σ1 H locs hp hP hK hA hS => ?_)
    obtain ⟨rfl, rfl, T⟩ := hp
    generalize σ1 = σa11 at hP T
    refine W.eq (g2 := F0 (xm x) 93 ls []) rfl ?_
    refine lv_iinc (v := iI (i2 + 1)) (lv' := [(2, .int (iI (i2 + 1))), (0, .ref (r 0)), (1, .int (iI i1))]) hex hb d_M_collectYoung_93 hl (k := 2) rfl (iI_add _ _) (Nat.le_of_ble_eq_true rfl) rfl (fun ls hl => ?_)
    refine lv_goto (tgt := 59) hex hb d_M_collectYoung_96 rfl ?_
    exact AtG.use T hK hA _ _ _ (lv_sub hl [1, 2, 0] rfl) hP hS
set_option maxHeartbeats 4000000 in
set_option maxRecDepth 100000 in
theorem u_M_collectYoung_107 {x : Cx} (hx : X_M_collectYoung x) {P : Mem → Prop} {Λ : Lam} {σ : Mem} {r : Nat → Nat} {i1 : Int} (hL : LayM Λ r) (T : rng i1 ∧ ((90 ≤ i1 → N_M_collectYoung_150 x P Λ (upI σ 413 (r 0) 0) r 0) ∧ (¬ 90 ≤ i1 → 0 ≤ i1 ∧ i1 < (90 : Int) ∧ rng (σ.2.1 1 (r 1) i1.toNat) ∧ ((¬ (σ.2.1 1 (r 1) i1.toNat) = 1 → N_M_collectYoung_107 x P Λ σ r (i1 + 1)) ∧ ((σ.2.1 1 (r 1) i1.toNat) = 1 → 0 ≤ i1 ∧ i1 < (90 : Int) ∧ rng (σ.2.1 55 (r 55) i1.toNat) ∧ ((¬ (σ.2.1 55 (r 55) i1.toNat) = 0 → N_M_collectYoung_107 x P Λ σ r (i1 + 1)) ∧ ((σ.2.1 55 (r 55) i1.toNat) = 0 → K_M_remove (xl x) (xD x) Λ σ r i1 (fun σa8 => N_M_collectYoung_107 x P Λ σa8 r (i1 + 1))))))))) : N_M_collectYoung_107 x P Λ σ r i1 := by
  obtain ⟨hex, hb, hml, hown, hts, hr, hlk, hR, hnm, hAs, hNW⟩ := hx
  obtain ⟨hLM, hLA⟩ := hL
  refine ⟨(), fun hK hA ls H locs hl hP hS => ?_⟩
  refine lv_iload_n hex hb d_M_collectYoung_107 rfl (lv_at hl 1 rfl) ?_
  refine lv_bipush (v := iI 90) hex hb d_M_collectYoung_108 rfl ?_
  obtain ⟨h1, T⟩ := T
  obtain ⟨T1, T2⟩ := T
  refine r_icmp_ge (a := i1) (b := 90) (tgt := 143) hex hb h1 ⟨by omega, by omega⟩ d_M_collectYoung_110 rfl (fun hc => ?_) (fun hc => ?_)
  · have T := T1 hc
    refine lv_aload_n hex hb d_M_collectYoung_143 rfl (lv_at hl 0 rfl) ?_
    refine lv_iconst (v := iI 0) hex hb d_M_collectYoung_144 rfl ?_
    refine r_putI (ci := 4) (C := R_M) (T := F_M) (N := 22) (v := 0) (ty := .int) hex hb hts (fun w h => List.mem_cons_of_mem _ (in_M w h)) tq_M tq_M_ok n_M hown hK hP hA hS hLM rfl 13 (by decide) (hts _ (List.mem_cons_of_mem _ bg_404)) (fun _ h9 => h9) rfl (by decide +kernel) rfl rfl rfl d_M_collectYoung_145 (fun H locs hP hS => ?_)
    refine lv_iconst (v := iI 0) hex hb d_M_collectYoung_148 rfl ?_
    refine lv_istore_n (lv' := [(1, .int (iI 0)), (0, .ref (r 0))]) hex hb d_M_collectYoung_149 rfl hl (Nat.le_of_ble_eq_true rfl) rfl (fun ls hl => ?_)
    exact AtG.use T hK hA _ _ _ (lv_sub hl [1, 0] rfl) hP hS
  · have T := T2 hc
    refine lv_aload_n hex hb d_M_collectYoung_113 rfl (lv_at hl 0 rfl) ?_
    refine r_getR (ci := 4) (C := R_M) (T := F_M) (N := 22) hex hb hts (fun w h => List.mem_cons_of_mem _ (in_M w h)) hown hK hP hLM rfl 0 (by decide) (hts _ (List.mem_cons_of_mem _ bg_391)) (fun _ h9 => h9) rfl d_M_collectYoung_114 ?_
    refine lv_iload_n hex hb d_M_collectYoung_117 rfl (lv_at hl 1 rfl) ?_
    obtain ⟨h2, T⟩ := T
    obtain ⟨h3, T⟩ := T
    refine r_iald hex hb hK hP (hLA 1 90 (by decide)).choose_spec (by decide) (by decide) h2 h3 d_M_collectYoung_118 ?_
    refine lv_iconst (v := iI 1) hex hb d_M_collectYoung_119 rfl ?_
    obtain ⟨h4, T⟩ := T
    obtain ⟨T1, T2⟩ := T
    refine r_icmp_ne (a := σ.2.1 1 (r 1) i1.toNat) (b := 1) (tgt := 137) hex hb h4 ⟨by omega, by omega⟩ d_M_collectYoung_120 rfl (fun hc => ?_) (fun hc => ?_)
    · have T := T1 hc
      refine lv_iinc (v := iI (i1 + 1)) (lv' := [(1, .int (iI (i1 + 1))), (0, .ref (r 0))]) hex hb d_M_collectYoung_137 hl (k := 1) rfl (iI_add _ _) (Nat.le_of_ble_eq_true rfl) rfl (fun ls hl => ?_)
      refine lv_goto (tgt := 107) hex hb d_M_collectYoung_140 rfl ?_
      exact AtG.use T hK hA _ _ _ (lv_sub hl [1, 0] rfl) hP hS
    · have T := T2 hc
      refine lv_aload_n hex hb d_M_collectYoung_123 rfl (lv_at hl 0 rfl) ?_
      refine r_getR (ci := 4) (C := R_M) (T := F_M) (N := 22) hex hb hts (fun w h => List.mem_cons_of_mem _ (in_M w h)) hown hK hP hLM rfl 17 (by decide) (hts _ (List.mem_cons_of_mem _ bg_408)) (fun _ h9 => h9) rfl d_M_collectYoung_124 ?_
      refine lv_iload_n hex hb d_M_collectYoung_127 rfl (lv_at hl 1 rfl) ?_
      obtain ⟨h5, T⟩ := T
      obtain ⟨h6, T⟩ := T
      refine r_zald hex hb hK hP (hLA 55 90 (by decide)).choose_spec (by decide) (by decide) (by decide) h5 h6 d_M_collectYoung_128 ?_
      obtain ⟨h7, T⟩ := T
      obtain ⟨T1, T2⟩ := T
      refine r_if_ne (a := σ.2.1 55 (r 55) i1.toNat) (tgt := 137) hex hb h7 d_M_collectYoung_129 rfl (fun hc => ?_) (fun hc => ?_)
      · have T := T1 hc
        refine lv_iinc (v := iI (i1 + 1)) (lv' := [(1, .int (iI (i1 + 1))), (0, .ref (r 0))]) hex hb d_M_collectYoung_137 hl (k := 1) rfl (iI_add _ _) (Nat.le_of_ble_eq_true rfl) rfl (fun ls hl => ?_)
        refine lv_goto (tgt := 107) hex hb d_M_collectYoung_140 rfl ?_
        exact AtG.use T hK hA _ _ _ (lv_sub hl [1, 0] rfl) hP hS
      · have T := T2 hc
        refine lv_aload_n hex hb d_M_collectYoung_132 rfl (lv_at hl 0 rfl) ?_
        refine lv_iload_n hex hb d_M_collectYoung_133 rfl (lv_at hl 1 rfl) ?_
        refine r_call (va_runV (As := [.int (iI i1)]) (rest := []) ⟨hex, hb, hml, hown, hts⟩ (Ct.use T H.size) (cwV 1 hts (gdV bg_476 bg_478 bp_21 bg_4 bc_M_remove) rfl rfl rfl hdV_M_remove ⟨by rw [hR]; exact Nat.le_of_ble_eq_true rfl, by rw [hR]; exact Nat.le_of_ble_eq_true rfl⟩) (px_preV (ci := 4) hNW hK hP hLM rfl) rfl rfl hl.1 rfl (lv_room (Nat.le_of_ble_eq_true rfl)) d_M_collectYoung_134 ⟨by rw [hR]; exact Nat.le_of_ble_eq_true rfl, by rw [hR]; exact Nat.le_of_ble_eq_true rfl⟩) hS hA hAs (fun v Λ1 σ1 H locs hp hP hK hA hS => ?_)
        obtain ⟨rfl, rfl, T⟩ := hp
        generalize σ1 = σa8 at hP T
        refine W.eq (g2 := F0 (xm x) 137 ls []) rfl ?_
        refine lv_iinc (v := iI (i1 + 1)) (lv' := [(1, .int (iI (i1 + 1))), (0, .ref (r 0))]) hex hb d_M_collectYoung_137 hl (k := 1) rfl (iI_add _ _) (Nat.le_of_ble_eq_true rfl) rfl (fun ls hl => ?_)
        refine lv_goto (tgt := 107) hex hb d_M_collectYoung_140 rfl ?_
        exact AtG.use T hK hA _ _ _ (lv_sub hl [1, 0] rfl) hP hS
set_option maxHeartbeats 4000000 in
set_option maxRecDepth 100000 in
theorem u_M_collectYoung_150 {x : Cx} (hx : X_M_collectYoung x) {P : Mem → Prop} {Λ : Lam} {σ : Mem} {r : Nat → Nat} {i1 : Int} (hL : LayM Λ r) (T : rng i1 ∧ rng (σ.1 415 (r 0)) ∧ (((σ.1 415 (r 0)) ≤ i1 → N_M_collectYoung_206 x P Λ σ r 0) ∧ (¬ (σ.1 415 (r 0)) ≤ i1 → 0 ≤ i1 ∧ i1 < (20 : Int) ∧ 0 ≤ (σ.2.1 9 (r 9) i1.toNat) ∧ (σ.2.1 9 (r 9) i1.toNat) < (90 : Int) ∧ rng (σ.2.1 1 (r 1) (σ.2.1 9 (r 9) i1.toNat).toNat) ∧ ((¬ (σ.2.1 1 (r 1) (σ.2.1 9 (r 9) i1.toNat).toNat) = 1 → N_M_collectYoung_150 x P Λ σ r (i1 + 1)) ∧ ((σ.2.1 1 (r 1) (σ.2.1 9 (r 9) i1.toNat).toNat) = 1 → 0 ≤ i1 ∧ i1 < (20 : Int) ∧ 0 ≤ (σ.1 413 (r 0)) ∧ (σ.1 413 (r 0)) < (20 : Int) ∧ N_M_collectYoung_150 x P Λ (upI (upY σ 8 (r 8) (σ.1 413 (r 0)).toNat (σ.2.1 9 (r 9) i1.toNat)) 413 (r 0) (((upY σ 8 (r 8) (σ.1 413 (r 0)).toNat (σ.2.1 9 (r 9) i1.toNat)).1 413 (r 0)) + 1)) r (i1 + 1)))))) : N_M_collectYoung_150 x P Λ σ r i1 := by
  obtain ⟨hex, hb, hml, hown, hts, hr, hlk, hR, hnm, hAs, hNW⟩ := hx
  obtain ⟨hLM, hLA⟩ := hL
  refine ⟨(), fun hK hA ls H locs hl hP hS => ?_⟩
  refine lv_iload_n hex hb d_M_collectYoung_150 rfl (lv_at hl 1 rfl) ?_
  refine lv_aload_n hex hb d_M_collectYoung_151 rfl (lv_at hl 0 rfl) ?_
  refine r_getI (ci := 4) (C := R_M) (T := F_M) (N := 22) hex hb hts (fun w h => List.mem_cons_of_mem _ (in_M w h)) hown hK hP hLM rfl 15 (by decide) (hts _ (List.mem_cons_of_mem _ bg_406)) (fun _ h9 => h9) rfl d_M_collectYoung_152 ?_
  obtain ⟨h1, T⟩ := T
  obtain ⟨h2, T⟩ := T
  obtain ⟨T1, T2⟩ := T
  refine r_icmp_ge (a := i1) (b := σ.1 415 (r 0)) (tgt := 204) hex hb h1 h2 d_M_collectYoung_155 rfl (fun hc => ?_) (fun hc => ?_)
  · have T := T1 hc
    refine lv_iconst (v := iI 0) hex hb d_M_collectYoung_204 rfl ?_
    refine lv_istore_n (lv' := [(1, .int (iI 0)), (0, .ref (r 0))]) hex hb d_M_collectYoung_205 rfl hl (Nat.le_of_ble_eq_true rfl) rfl (fun ls hl => ?_)
    exact AtG.use T hK hA _ _ _ (lv_sub hl [1, 0] rfl) hP hS
  · have T := T2 hc
    refine lv_aload_n hex hb d_M_collectYoung_158 rfl (lv_at hl 0 rfl) ?_
    refine r_getR (ci := 4) (C := R_M) (T := F_M) (N := 22) hex hb hts (fun w h => List.mem_cons_of_mem _ (in_M w h)) hown hK hP hLM rfl 0 (by decide) (hts _ (List.mem_cons_of_mem _ bg_391)) (fun _ h9 => h9) rfl d_M_collectYoung_159 ?_
    refine lv_aload_n hex hb d_M_collectYoung_162 rfl (lv_at hl 0 rfl) ?_
    refine r_getR (ci := 4) (C := R_M) (T := F_M) (N := 22) hex hb hts (fun w h => List.mem_cons_of_mem _ (in_M w h)) hown hK hP hLM rfl 16 (by decide) (hts _ (List.mem_cons_of_mem _ bg_407)) (fun _ h9 => h9) rfl d_M_collectYoung_163 ?_
    refine lv_iload_n hex hb d_M_collectYoung_166 rfl (lv_at hl 1 rfl) ?_
    obtain ⟨h3, T⟩ := T
    obtain ⟨h4, T⟩ := T
    refine r_iald hex hb hK hP (hLA 9 20 (by decide)).choose_spec (by decide) (by decide) h3 h4 d_M_collectYoung_167 ?_
    obtain ⟨h5, T⟩ := T
    obtain ⟨h6, T⟩ := T
    refine r_iald hex hb hK hP (hLA 1 90 (by decide)).choose_spec (by decide) (by decide) h5 h6 d_M_collectYoung_168 ?_
    refine lv_iconst (v := iI 1) hex hb d_M_collectYoung_169 rfl ?_
    obtain ⟨h7, T⟩ := T
    obtain ⟨T1, T2⟩ := T
    refine r_icmp_ne (a := σ.2.1 1 (r 1) (σ.2.1 9 (r 9) i1.toNat).toNat) (b := 1) (tgt := 198) hex hb h7 ⟨by omega, by omega⟩ d_M_collectYoung_170 rfl (fun hc => ?_) (fun hc => ?_)
    · have T := T1 hc
      refine lv_iinc (v := iI (i1 + 1)) (lv' := [(1, .int (iI (i1 + 1))), (0, .ref (r 0))]) hex hb d_M_collectYoung_198 hl (k := 1) rfl (iI_add _ _) (Nat.le_of_ble_eq_true rfl) rfl (fun ls hl => ?_)
      refine lv_goto (tgt := 150) hex hb d_M_collectYoung_201 rfl ?_
      exact AtG.use T hK hA _ _ _ (lv_sub hl [1, 0] rfl) hP hS
    · have T := T2 hc
      refine lv_aload_n hex hb d_M_collectYoung_173 rfl (lv_at hl 0 rfl) ?_
      refine r_getR (ci := 4) (C := R_M) (T := F_M) (N := 22) hex hb hts (fun w h => List.mem_cons_of_mem _ (in_M w h)) hown hK hP hLM rfl 14 (by decide) (hts _ (List.mem_cons_of_mem _ bg_405)) (fun _ h9 => h9) rfl d_M_collectYoung_174 ?_
      refine lv_aload_n hex hb d_M_collectYoung_177 rfl (lv_at hl 0 rfl) ?_
      refine r_getI (ci := 4) (C := R_M) (T := F_M) (N := 22) hex hb hts (fun w h => List.mem_cons_of_mem _ (in_M w h)) hown hK hP hLM rfl 13 (by decide) (hts _ (List.mem_cons_of_mem _ bg_404)) (fun _ h9 => h9) rfl d_M_collectYoung_178 ?_
      refine lv_aload_n hex hb d_M_collectYoung_181 rfl (lv_at hl 0 rfl) ?_
      refine r_getR (ci := 4) (C := R_M) (T := F_M) (N := 22) hex hb hts (fun w h => List.mem_cons_of_mem _ (in_M w h)) hown hK hP hLM rfl 16 (by decide) (hts _ (List.mem_cons_of_mem _ bg_407)) (fun _ h9 => h9) rfl d_M_collectYoung_182 ?_
      refine lv_iload_n hex hb d_M_collectYoung_185 rfl (lv_at hl 1 rfl) ?_
      obtain ⟨h8, T⟩ := T
      obtain ⟨h9, T⟩ := T
      refine r_iald hex hb hK hP (hLA 9 20 (by decide)).choose_spec (by decide) (by decide) h8 h9 d_M_collectYoung_186 ?_
      obtain ⟨h10, T⟩ := T
      obtain ⟨h11, T⟩ := T
      refine r_iast (v := σ.2.1 9 (r 9) i1.toNat) hex hb hK hP hA hS (hLA 8 20 (by decide)).choose_spec (by decide) (by decide) h10 h11 d_M_collectYoung_187 (fun H locs hP hS => ?_)
      refine lv_aload_n hex hb d_M_collectYoung_188 rfl (lv_at hl 0 rfl) ?_
      refine lv_dup hex hb d_M_collectYoung_189 rfl ?_
      refine r_getI (ci := 4) (C := R_M) (T := F_M) (N := 22) hex hb hts (fun w h => List.mem_cons_of_mem _ (in_M w h)) hown hK hP hLM rfl 13 (by decide) (hts _ (List.mem_cons_of_mem _ bg_404)) (fun _ h9 => h9) rfl d_M_collectYoung_190 ?_
      refine lv_iconst (v := iI 1) hex hb d_M_collectYoung_193 rfl ?_
      refine r_iadd hex hb d_M_collectYoung_194 ?_
      refine r_putI (ci := 4) (C := R_M) (T := F_M) (N := 22) (v := ((upY σ 8 (r 8) (σ.1 413 (r 0)).toNat (σ.2.1 9 (r 9) i1.toNat)).1 413 (r 0)) + 1) (ty := .int) hex hb hts (fun w h => List.mem_cons_of_mem _ (in_M w h)) tq_M tq_M_ok n_M hown hK hP hA hS hLM rfl 13 (by decide) (hts _ (List.mem_cons_of_mem _ bg_404)) (fun _ h9 => h9) rfl (by decide +kernel) rfl rfl rfl d_M_collectYoung_195 (fun H locs hP hS => ?_)
      refine lv_iinc (v := iI (i1 + 1)) (lv' := [(1, .int (iI (i1 + 1))), (0, .ref (r 0))]) hex hb d_M_collectYoung_198 hl (k := 1) rfl (iI_add _ _) (Nat.le_of_ble_eq_true rfl) rfl (fun ls hl => ?_)
      refine lv_goto (tgt := 150) hex hb d_M_collectYoung_201 rfl ?_
      exact AtG.use T hK hA _ _ _ (lv_sub hl [1, 0] rfl) hP hS
set_option maxHeartbeats 4000000 in
set_option maxRecDepth 100000 in
theorem u_M_collectYoung_206 {x : Cx} (hx : X_M_collectYoung x) {P : Mem → Prop} {Λ : Lam} {σ : Mem} {r : Nat → Nat} {i1 : Int} (hL : LayM Λ r) (T : rng i1 ∧ ((8 ≤ i1 → P σ) ∧ (¬ 8 ≤ i1 → 0 ≤ i1 ∧ i1 < (8 : Int) ∧ rng (σ.2.1 53 (r 53) i1.toNat) ∧ (((σ.2.1 53 (r 53) i1.toNat) = 0 → N_M_collectYoung_233 x P Λ σ r i1) ∧ (¬ (σ.2.1 53 (r 53) i1.toNat) = 0 → K_M_showsYoung (xl x) (xD x) Λ σ r i1 (fun z5 σa5 => rng z5 ∧ ((¬ z5 = 0 → N_M_collectYoung_233 x P Λ σa5 r i1) ∧ (z5 = 0 → N_M_collectYoung_234 x P Λ σa5 r i1 1)))))))) : N_M_collectYoung_206 x P Λ σ r i1 := by
  obtain ⟨hex, hb, hml, hown, hts, hr, hlk, hR, hnm, hAs, hNW⟩ := hx
  obtain ⟨hLM, hLA⟩ := hL
  refine ⟨(), fun hK hA ls H locs hl hP hS => ?_⟩
  refine lv_iload_n hex hb d_M_collectYoung_206 rfl (lv_at hl 1 rfl) ?_
  refine lv_bipush (v := iI 8) hex hb d_M_collectYoung_207 rfl ?_
  obtain ⟨h1, T⟩ := T
  obtain ⟨T1, T2⟩ := T
  refine r_icmp_ge (a := i1) (b := 8) (tgt := 297) hex hb h1 ⟨by omega, by omega⟩ d_M_collectYoung_209 rfl (fun hc => ?_) (fun hc => ?_)
  · have T := T1 hc
    exact r_vret hex hb hr hlk hK hA hP hS ⟨rfl, rfl, T⟩ (Nat.zero_le _) (Nat.zero_le _) d_M_collectYoung_297
  · have T := T2 hc
    refine lv_aload_n hex hb d_M_collectYoung_212 rfl (lv_at hl 0 rfl) ?_
    refine r_getR (ci := 4) (C := R_M) (T := F_M) (N := 22) hex hb hts (fun w h => List.mem_cons_of_mem _ (in_M w h)) hown hK hP hLM rfl 9 (by decide) (hts _ (List.mem_cons_of_mem _ bg_400)) (fun _ h9 => h9) rfl d_M_collectYoung_213 ?_
    refine lv_iload_n hex hb d_M_collectYoung_216 rfl (lv_at hl 1 rfl) ?_
    obtain ⟨h2, T⟩ := T
    obtain ⟨h3, T⟩ := T
    refine r_zald hex hb hK hP (hLA 53 8 (by decide)).choose_spec (by decide) (by decide) (by decide) h2 h3 d_M_collectYoung_217 ?_
    obtain ⟨h4, T⟩ := T
    obtain ⟨T1, T2⟩ := T
    refine r_if_eq (a := σ.2.1 53 (r 53) i1.toNat) (tgt := 233) hex hb h4 d_M_collectYoung_218 rfl (fun hc => ?_) (fun hc => ?_)
    · have T := T1 hc
      exact AtG.use T hK hA _ _ _ (lv_sub hl [0, 1] rfl) hP hS
    · have T := T2 hc
      refine lv_aload_n hex hb d_M_collectYoung_221 rfl (lv_at hl 0 rfl) ?_
      refine lv_iload_n hex hb d_M_collectYoung_222 rfl (lv_at hl 1 rfl) ?_
      refine r_call (va_runV (As := [.int (iI i1)]) (rest := []) ⟨hex, hb, hml, hown, hts⟩ (Ct.use T H.size) (cwV 1 hts (gdV bg_496 bg_498 bp_26 bg_4 bc_M_showsYoung) rfl rfl rfl hdV_M_showsYoung ⟨by rw [hR]; exact Nat.le_of_ble_eq_true rfl, by rw [hR]; exact Nat.le_of_ble_eq_true rfl⟩) (px_preV (ci := 4) hNW hK hP hLM rfl) rfl rfl hl.1 rfl (lv_room (Nat.le_of_ble_eq_true rfl)) d_M_collectYoung_223 ⟨by rw [hR]; exact Nat.le_of_ble_eq_true rfl, by rw [hR]; exact Nat.le_of_ble_eq_true rfl⟩) hS hA hAs (fun v Λ1 σ1 H locs hp hP hK hA hS => ?_)
      obtain ⟨z5, rfl, rfl, T⟩ := hp
      generalize σ1 = σa5 at hP T
      refine W.eq (g2 := F0 (xm x) 226 ls [.int (iI z5)]) rfl ?_
      obtain ⟨h6, T⟩ := T
      obtain ⟨T1, T2⟩ := T
      refine r_if_ne (a := z5) (tgt := 233) hex hb h6 d_M_collectYoung_226 rfl (fun hc => ?_) (fun hc => ?_)
      · have T := T1 hc
        exact AtG.use T hK hA _ _ _ (lv_sub hl [0, 1] rfl) hP hS
      · have T := T2 hc
        refine lv_iconst (v := iI 1) hex hb d_M_collectYoung_229 rfl ?_
        refine lv_goto (tgt := 234) hex hb d_M_collectYoung_230 rfl ?_
        exact AtG.use T hK hA _ _ _ (lv_sub hl [0, 1] rfl) hP hS
set_option maxHeartbeats 4000000 in
set_option maxRecDepth 100000 in
theorem u_M_collectYoung_233 {x : Cx} (hx : X_M_collectYoung x) {P : Mem → Prop} {Λ : Lam} {σ : Mem} {r : Nat → Nat} {i1 : Int} (hL : LayM Λ r) (T : N_M_collectYoung_234 x P Λ σ r i1 0) : N_M_collectYoung_233 x P Λ σ r i1 := by
  obtain ⟨hex, hb, hml, hown, hts, hr, hlk, hR, hnm, hAs, hNW⟩ := hx
  obtain ⟨hLM, hLA⟩ := hL
  refine ⟨(), fun hK hA ls H locs hl hP hS => ?_⟩
  refine lv_iconst (v := iI 0) hex hb d_M_collectYoung_233 rfl ?_
  exact AtG.use T hK hA _ _ _ (lv_sub hl [0, 1] rfl) hP hS
set_option maxHeartbeats 4000000 in
set_option maxRecDepth 100000 in
theorem u_M_collectYoung_234 {x : Cx} (hx : X_M_collectYoung x) {P : Mem → Prop} {Λ : Lam} {σ : Mem} {r : Nat → Nat} {i1 : Int} {s0 : Int} (hL : LayM Λ r) (T : 0 ≤ i1 ∧ i1 < (8 : Int) ∧ rng (σ.2.1 54 (r 54) i1.toNat) ∧ ((¬ (σ.2.1 54 (r 54) i1.toNat) = 0 → N_M_collectYoung_266 x P Λ σ r i1 s0 i1 1) ∧ ((σ.2.1 54 (r 54) i1.toNat) = 0 → rng s0 ∧ ((s0 = 0 → N_M_collectYoung_265 x P Λ σ r i1 s0 i1) ∧ (¬ s0 = 0 → rng (σ.1 411 (r 0)) ∧ ((¬ (σ.1 411 (r 0)) = 1 → N_M_collectYoung_265 x P Λ σ r i1 s0 i1) ∧ ((σ.1 411 (r 0)) = 1 → N_M_collectYoung_266 x P Λ σ r i1 s0 i1 1))))))) : N_M_collectYoung_234 x P Λ σ r i1 s0 := by
  obtain ⟨hex, hb, hml, hown, hts, hr, hlk, hR, hnm, hAs, hNW⟩ := hx
  obtain ⟨hLM, hLA⟩ := hL
  refine ⟨(), fun hK hA ls H locs hl hP hS => ?_⟩
  refine lv_istore_n (lv' := [(2, .int (iI s0)), (0, .ref (r 0)), (1, .int (iI i1))]) hex hb d_M_collectYoung_234 rfl hl (Nat.le_of_ble_eq_true rfl) rfl (fun ls hl => ?_)
  refine lv_aload_n hex hb d_M_collectYoung_235 rfl (lv_at hl 1 rfl) ?_
  refine r_getR (ci := 4) (C := R_M) (T := F_M) (N := 22) hex hb hts (fun w h => List.mem_cons_of_mem _ (in_M w h)) hown hK hP hLM rfl 10 (by decide) (hts _ (List.mem_cons_of_mem _ bg_401)) (fun _ h9 => h9) rfl d_M_collectYoung_236 ?_
  refine lv_iload_n hex hb d_M_collectYoung_239 rfl (lv_at hl 2 rfl) ?_
  refine lv_aload_n hex hb d_M_collectYoung_240 rfl (lv_at hl 1 rfl) ?_
  refine r_getR (ci := 4) (C := R_M) (T := F_M) (N := 22) hex hb hts (fun w h => List.mem_cons_of_mem _ (in_M w h)) hown hK hP hLM rfl 10 (by decide) (hts _ (List.mem_cons_of_mem _ bg_401)) (fun _ h9 => h9) rfl d_M_collectYoung_241 ?_
  refine lv_iload_n hex hb d_M_collectYoung_244 rfl (lv_at hl 2 rfl) ?_
  obtain ⟨h1, T⟩ := T
  obtain ⟨h2, T⟩ := T
  refine r_zald hex hb hK hP (hLA 54 8 (by decide)).choose_spec (by decide) (by decide) (by decide) h1 h2 d_M_collectYoung_245 ?_
  obtain ⟨h3, T⟩ := T
  obtain ⟨T1, T2⟩ := T
  refine r_if_ne (a := σ.2.1 54 (r 54) i1.toNat) (tgt := 261) hex hb h3 d_M_collectYoung_246 rfl (fun hc => ?_) (fun hc => ?_)
  · have T := T1 hc
    refine lv_iconst (v := iI 1) hex hb d_M_collectYoung_261 rfl ?_
    refine lv_goto (tgt := 266) hex hb d_M_collectYoung_262 rfl ?_
    exact AtG.use T hK hA _ _ _ (lv_sub hl [1, 2, 0] rfl) hP hS
  · have T := T2 hc
    refine lv_iload_n hex hb d_M_collectYoung_249 rfl (lv_at hl 0 rfl) ?_
    obtain ⟨h4, T⟩ := T
    obtain ⟨T1, T2⟩ := T
    refine r_if_eq (a := s0) (tgt := 265) hex hb h4 d_M_collectYoung_250 rfl (fun hc => ?_) (fun hc => ?_)
    · have T := T1 hc
      exact AtG.use T hK hA _ _ _ (lv_sub hl [1, 2, 0] rfl) hP hS
    · have T := T2 hc
      refine lv_aload_n hex hb d_M_collectYoung_253 rfl (lv_at hl 1 rfl) ?_
      refine r_getI (ci := 4) (C := R_M) (T := F_M) (N := 22) hex hb hts (fun w h => List.mem_cons_of_mem _ (in_M w h)) hown hK hP hLM rfl 11 (by decide) (hts _ (List.mem_cons_of_mem _ bg_402)) (fun _ h9 => h9) rfl d_M_collectYoung_254 ?_
      refine lv_iconst (v := iI 1) hex hb d_M_collectYoung_257 rfl ?_
      obtain ⟨h5, T⟩ := T
      obtain ⟨T1, T2⟩ := T
      refine r_icmp_ne (a := σ.1 411 (r 0)) (b := 1) (tgt := 265) hex hb h5 ⟨by omega, by omega⟩ d_M_collectYoung_258 rfl (fun hc => ?_) (fun hc => ?_)
      · have T := T1 hc
        exact AtG.use T hK hA _ _ _ (lv_sub hl [1, 2, 0] rfl) hP hS
      · have T := T2 hc
        refine lv_iconst (v := iI 1) hex hb d_M_collectYoung_261 rfl ?_
        refine lv_goto (tgt := 266) hex hb d_M_collectYoung_262 rfl ?_
        exact AtG.use T hK hA _ _ _ (lv_sub hl [1, 2, 0] rfl) hP hS
set_option maxHeartbeats 4000000 in
set_option maxRecDepth 100000 in
theorem u_M_collectYoung_265 {x : Cx} (hx : X_M_collectYoung x) {P : Mem → Prop} {Λ : Lam} {σ : Mem} {r : Nat → Nat} {i1 : Int} {i2 : Int} {s1 : Int} (hL : LayM Λ r) (T : N_M_collectYoung_266 x P Λ σ r i1 i2 s1 0) : N_M_collectYoung_265 x P Λ σ r i1 i2 s1 := by
  obtain ⟨hex, hb, hml, hown, hts, hr, hlk, hR, hnm, hAs, hNW⟩ := hx
  obtain ⟨hLM, hLA⟩ := hL
  refine ⟨(), fun hK hA ls H locs hl hP hS => ?_⟩
  refine lv_iconst (v := iI 0) hex hb d_M_collectYoung_265 rfl ?_
  exact AtG.use T hK hA _ _ _ (lv_sub hl [0, 1, 2] rfl) hP hS
set_option maxHeartbeats 4000000 in
set_option maxRecDepth 100000 in
theorem u_M_collectYoung_266 {x : Cx} (hx : X_M_collectYoung x) {P : Mem → Prop} {Λ : Lam} {σ : Mem} {r : Nat → Nat} {i1 : Int} {i2 : Int} {s1 : Int} {s2 : Int} (hL : LayM Λ r) (T : 0 ≤ s1 ∧ s1 < (8 : Int) ∧ (s2 = 0 ∨ s2 = 1) ∧ 0 ≤ i1 ∧ i1 < (8 : Int) ∧ rng ((upY σ 54 (r 54) s1.toNat s2).2.1 53 (r 53) i1.toNat) ∧ ((((upY σ 54 (r 54) s1.toNat s2).2.1 53 (r 53) i1.toNat) = 0 → 0 ≤ i1 ∧ i1 < (8 : Int) ∧ N_M_collectYoung_206 x P Λ (upY (upY σ 54 (r 54) s1.toNat s2) 53 (r 53) i1.toNat 0) r (i1 + 1)) ∧ (¬ ((upY σ 54 (r 54) s1.toNat s2).2.1 53 (r 53) i1.toNat) = 0 → rng i2 ∧ ((¬ i2 = 0 → 0 ≤ i1 ∧ i1 < (8 : Int) ∧ N_M_collectYoung_206 x P Λ (upY (upY σ 54 (r 54) s1.toNat s2) 53 (r 53) i1.toNat 0) r (i1 + 1)) ∧ (i2 = 0 → 0 ≤ i1 ∧ i1 < (8 : Int) ∧ N_M_collectYoung_206 x P Λ (upY (upY σ 54 (r 54) s1.toNat s2) 53 (r 53) i1.toNat 1) r (i1 + 1)))))) : N_M_collectYoung_266 x P Λ σ r i1 i2 s1 s2 := by
  obtain ⟨hex, hb, hml, hown, hts, hr, hlk, hR, hnm, hAs, hNW⟩ := hx
  obtain ⟨hLM, hLA⟩ := hL
  refine ⟨(), fun hK hA ls H locs hl hP hS => ?_⟩
  obtain ⟨h1, T⟩ := T
  obtain ⟨h2, T⟩ := T
  obtain ⟨h3, T⟩ := T
  refine r_zast (v := s2) hex hb hK hP hA hS (hLA 54 8 (by decide)).choose_spec (by decide) (by decide) (by decide) h1 h2 h3 d_M_collectYoung_266 (fun H locs hP hS => ?_)
  refine lv_aload_n hex hb d_M_collectYoung_267 rfl (lv_at hl 0 rfl) ?_
  refine r_getR (ci := 4) (C := R_M) (T := F_M) (N := 22) hex hb hts (fun w h => List.mem_cons_of_mem _ (in_M w h)) hown hK hP hLM rfl 9 (by decide) (hts _ (List.mem_cons_of_mem _ bg_400)) (fun _ h9 => h9) rfl d_M_collectYoung_268 ?_
  refine lv_iload_n hex hb d_M_collectYoung_271 rfl (lv_at hl 1 rfl) ?_
  refine lv_aload_n hex hb d_M_collectYoung_272 rfl (lv_at hl 0 rfl) ?_
  refine r_getR (ci := 4) (C := R_M) (T := F_M) (N := 22) hex hb hts (fun w h => List.mem_cons_of_mem _ (in_M w h)) hown hK hP hLM rfl 9 (by decide) (hts _ (List.mem_cons_of_mem _ bg_400)) (fun _ h9 => h9) rfl d_M_collectYoung_273 ?_
  refine lv_iload_n hex hb d_M_collectYoung_276 rfl (lv_at hl 1 rfl) ?_
  obtain ⟨h4, T⟩ := T
  obtain ⟨h5, T⟩ := T
  refine r_zald hex hb hK hP (hLA 53 8 (by decide)).choose_spec (by decide) (by decide) (by decide) h4 h5 d_M_collectYoung_277 ?_
  obtain ⟨h6, T⟩ := T
  obtain ⟨T1, T2⟩ := T
  refine r_if_eq (a := (upY σ 54 (r 54) s1.toNat s2).2.1 53 (r 53) i1.toNat) (tgt := 289) hex hb h6 d_M_collectYoung_278 rfl (fun hc => ?_) (fun hc => ?_)
  · have T := T1 hc
    refine lv_iconst (v := iI 0) hex hb d_M_collectYoung_289 rfl ?_
    obtain ⟨h7, T⟩ := T
    obtain ⟨h8, T⟩ := T
    refine r_zast (v := 0) hex hb hK hP hA hS (hLA 53 8 (by decide)).choose_spec (by decide) (by decide) (by decide) h7 h8 (by decide) d_M_collectYoung_290 (fun H locs hP hS => ?_)
    refine lv_iinc (v := iI (i1 + 1)) (lv' := [(1, .int (iI (i1 + 1))), (0, .ref (r 0)), (2, .int (iI i2))]) hex hb d_M_collectYoung_291 hl (k := 1) rfl (iI_add _ _) (Nat.le_of_ble_eq_true rfl) rfl (fun ls hl => ?_)
    refine lv_goto (tgt := 206) hex hb d_M_collectYoung_294 rfl ?_
    exact AtG.use T hK hA _ _ _ (lv_sub hl [1, 0] rfl) hP hS
  · have T := T2 hc
    refine lv_iload_n hex hb d_M_collectYoung_281 rfl (lv_at hl 2 rfl) ?_
    obtain ⟨h9, T⟩ := T
    obtain ⟨T1, T2⟩ := T
    refine r_if_ne (a := i2) (tgt := 289) hex hb h9 d_M_collectYoung_282 rfl (fun hc => ?_) (fun hc => ?_)
    · have T := T1 hc
      refine lv_iconst (v := iI 0) hex hb d_M_collectYoung_289 rfl ?_
      obtain ⟨h10, T⟩ := T
      obtain ⟨h11, T⟩ := T
      refine r_zast (v := 0) hex hb hK hP hA hS (hLA 53 8 (by decide)).choose_spec (by decide) (by decide) (by decide) h10 h11 (by decide) d_M_collectYoung_290 (fun H locs hP hS => ?_)
      refine lv_iinc (v := iI (i1 + 1)) (lv' := [(1, .int (iI (i1 + 1))), (0, .ref (r 0)), (2, .int (iI i2))]) hex hb d_M_collectYoung_291 hl (k := 1) rfl (iI_add _ _) (Nat.le_of_ble_eq_true rfl) rfl (fun ls hl => ?_)
      refine lv_goto (tgt := 206) hex hb d_M_collectYoung_294 rfl ?_
      exact AtG.use T hK hA _ _ _ (lv_sub hl [1, 0] rfl) hP hS
    · have T := T2 hc
      refine lv_iconst (v := iI 1) hex hb d_M_collectYoung_285 rfl ?_
      refine lv_goto (tgt := 290) hex hb d_M_collectYoung_286 rfl ?_
      obtain ⟨h12, T⟩ := T
      obtain ⟨h13, T⟩ := T
      refine r_zast (v := 1) hex hb hK hP hA hS (hLA 53 8 (by decide)).choose_spec (by decide) (by decide) (by decide) h12 h13 (by decide) d_M_collectYoung_290 (fun H locs hP hS => ?_)
      refine lv_iinc (v := iI (i1 + 1)) (lv' := [(1, .int (iI (i1 + 1))), (0, .ref (r 0)), (2, .int (iI i2))]) hex hb d_M_collectYoung_291 hl (k := 1) rfl (iI_add _ _) (Nat.le_of_ble_eq_true rfl) rfl (fun ls hl => ?_)
      refine lv_goto (tgt := 206) hex hb d_M_collectYoung_294 rfl ?_
      exact AtG.use T hK hA _ _ _ (lv_sub hl [1, 0] rfl) hP hS
-- DirtyCardHeapModel.meetAll()V
def rm_M_meetAll : Room := { frames := 0, cells := 0, slots := 0, locals := 0 }
abbrev X_M_meetAll (x : Cx) : Prop := CxOk x b_M_meetAll 6 wl_M_meetAll R_M none rm_M_meetAll "meetAll"
abbrev K_M_meetAll (l : Launch) (D : va_G) (Λ : Lam) (σ : Mem) (r : Nat → Nat) (P : Mem → Prop) : Prop := Ct l D y_M_meetAll wl_M_meetAll rm_M_meetAll [.ref (r 0)] Λ σ (pV Λ P)
abbrev N_M_meetAll_0 (x : Cx) (P : Mem → Prop) (Λ : Lam) (σ : Mem) (r : Nat → Nat) : Prop := AtG x (pV Λ P) 6 0 0 0 Λ σ [(0, .ref (r 0))] []
abbrev N_M_meetAll_2 (x : Cx) (P : Mem → Prop) (Λ : Lam) (σ : Mem) (r : Nat → Nat) (i1 : Int) : Prop := AtG x (pV Λ P) 6 2 0 0 Λ σ [(0, .ref (r 0)), (1, .int (iI i1))] []
abbrev N_M_meetAll_39 (x : Cx) (P : Mem → Prop) (Λ : Lam) (σ : Mem) (r : Nat → Nat) (i1 : Int) (i2 : Int) : Prop := AtG x (pV Λ P) 6 39 0 0 Λ σ [(0, .ref (r 0)), (1, .int (iI i1)), (2, .int (iI i2))] []
abbrev N_M_meetAll_53 (x : Cx) (P : Mem → Prop) (Λ : Lam) (σ : Mem) (r : Nat → Nat) (i1 : Int) (i2 : Int) (i3 : Int) : Prop := AtG x (pV Λ P) 6 53 0 0 Λ σ [(0, .ref (r 0)), (1, .int (iI i1)), (2, .int (iI i2)), (3, .int (iI i3))] []
abbrev N_M_meetAll_62 (x : Cx) (P : Mem → Prop) (Λ : Lam) (σ : Mem) (r : Nat → Nat) (i1 : Int) (i2 : Int) (i3 : Int) (i4 : Int) : Prop := AtG x (pV Λ P) 6 62 0 0 Λ σ [(0, .ref (r 0)), (1, .int (iI i1)), (2, .int (iI i2)), (3, .int (iI i3)), (4, .int (iI i4))] []
abbrev N_M_meetAll_118 (x : Cx) (P : Mem → Prop) (Λ : Lam) (σ : Mem) (r : Nat → Nat) (i2 : Int) (i3 : Int) (i4 : Int) (i5 : Int) : Prop := AtG x (pV Λ P) 6 118 0 0 Λ σ [(0, .ref (r 0)), (2, .int (iI i2)), (3, .int (iI i3)), (4, .int (iI i4)), (5, .int (iI i5))] []
abbrev N_M_meetAll_119 (x : Cx) (P : Mem → Prop) (Λ : Lam) (σ : Mem) (r : Nat → Nat) (i2 : Int) (i3 : Int) (i4 : Int) (i5 : Int) (s0 : Int) : Prop := AtG x (pV Λ P) 6 119 0 0 Λ σ [(0, .ref (r 0)), (2, .int (iI i2)), (3, .int (iI i3)), (4, .int (iI i4)), (5, .int (iI i5))] [.int (iI s0)]
theorem e_M_meetAll {l : Launch} {D : va_G} {Λ : Lam} {σ : Mem} {r : Nat → Nat} {P : Mem → Prop} (h : ∀ x : Cx, xl x = l → xD x = D → X_M_meetAll x → N_M_meetAll_0 x P Λ σ r) : K_M_meetAll l D Λ σ r P := Ct.of (by decide) rfl (Nat.le_of_ble_eq_true rfl) h
set_option maxHeartbeats 4000000 in
set_option maxRecDepth 100000 in
theorem u_M_meetAll_0 {x : Cx} (hx : X_M_meetAll x) {P : Mem → Prop} {Λ : Lam} {σ : Mem} {r : Nat → Nat} (hL : LayM Λ r) (T : N_M_meetAll_2 x P Λ σ r 0) : N_M_meetAll_0 x P Λ σ r := by
  obtain ⟨hex, hb, hml, hown, hts, hr, hlk, hR, hnm, hAs, hNW⟩ := hx
  obtain ⟨hLM, hLA⟩ := hL
  refine ⟨(), fun hK hA ls H locs hl hP hS => ?_⟩
  refine lv_iconst (v := iI 0) hex hb d_M_meetAll_0 rfl ?_
  refine lv_istore_n (lv' := [(1, .int (iI 0)), (0, .ref (r 0))]) hex hb d_M_meetAll_1 rfl hl (Nat.le_of_ble_eq_true rfl) rfl (fun ls hl => ?_)
  exact AtG.use T hK hA _ _ _ (lv_sub hl [1, 0] rfl) hP hS
set_option maxHeartbeats 4000000 in
set_option maxRecDepth 100000 in
theorem u_M_meetAll_2 {x : Cx} (hx : X_M_meetAll x) {P : Mem → Prop} {Λ : Lam} {σ : Mem} {r : Nat → Nat} {i1 : Int} (hL : LayM Λ r) (T : rng i1 ∧ ((6 ≤ i1 → N_M_meetAll_39 x P Λ σ r 1 0) ∧ (¬ 6 ≤ i1 → 0 ≤ i1 ∧ i1 < (6 : Int) ∧ rng (σ.2.1 7 (r 7) i1.toNat) ∧ (((σ.2.1 7 (r 7) i1.toNat) < 0 → N_M_meetAll_2 x P Λ σ r (i1 + 1)) ∧ (¬ (σ.2.1 7 (r 7) i1.toNat) < 0 → 0 ≤ i1 ∧ i1 < (6 : Int) ∧ 0 ≤ (σ.2.1 7 (r 7) i1.toNat) ∧ (σ.2.1 7 (r 7) i1.toNat) < (90 : Int) ∧ N_M_meetAll_2 x P Λ (upY σ 55 (r 55) (σ.2.1 7 (r 7) i1.toNat).toNat 1) r (i1 + 1)))))) : N_M_meetAll_2 x P Λ σ r i1 := by
  obtain ⟨hex, hb, hml, hown, hts, hr, hlk, hR, hnm, hAs, hNW⟩ := hx
  obtain ⟨hLM, hLA⟩ := hL
  refine ⟨(), fun hK hA ls H locs hl hP hS => ?_⟩
  refine lv_iload_n hex hb d_M_meetAll_2 rfl (lv_at hl 1 rfl) ?_
  refine lv_bipush (v := iI 6) hex hb d_M_meetAll_3 rfl ?_
  obtain ⟨h1, T⟩ := T
  obtain ⟨T1, T2⟩ := T
  refine r_icmp_ge (a := i1) (b := 6) (tgt := 35) hex hb h1 ⟨by omega, by omega⟩ d_M_meetAll_5 rfl (fun hc => ?_) (fun hc => ?_)
  · have T := T1 hc
    refine lv_iconst (v := iI 1) hex hb d_M_meetAll_35 rfl ?_
    refine lv_istore_n (lv' := [(1, .int (iI 1)), (0, .ref (r 0))]) hex hb d_M_meetAll_36 rfl hl (Nat.le_of_ble_eq_true rfl) rfl (fun ls hl => ?_)
    refine lv_iconst (v := iI 0) hex hb d_M_meetAll_37 rfl ?_
    refine lv_istore_n (lv' := [(2, .int (iI 0)), (1, .int (iI 1)), (0, .ref (r 0))]) hex hb d_M_meetAll_38 rfl hl (Nat.le_of_ble_eq_true rfl) rfl (fun ls hl => ?_)
    exact AtG.use T hK hA _ _ _ (lv_sub hl [2, 1, 0] rfl) hP hS
  · have T := T2 hc
    refine lv_aload_n hex hb d_M_meetAll_8 rfl (lv_at hl 0 rfl) ?_
    refine r_getR (ci := 4) (C := R_M) (T := F_M) (N := 22) hex hb hts (fun w h => List.mem_cons_of_mem _ (in_M w h)) hown hK hP hLM rfl 8 (by decide) (hts _ (List.mem_cons_of_mem _ bg_399)) (fun _ h9 => h9) rfl d_M_meetAll_9 ?_
    refine lv_iload_n hex hb d_M_meetAll_12 rfl (lv_at hl 1 rfl) ?_
    obtain ⟨h2, T⟩ := T
    obtain ⟨h3, T⟩ := T
    refine r_iald hex hb hK hP (hLA 7 6 (by decide)).choose_spec (by decide) (by decide) h2 h3 d_M_meetAll_13 ?_
    obtain ⟨h4, T⟩ := T
    obtain ⟨T1, T2⟩ := T
    refine r_if_lt (a := σ.2.1 7 (r 7) i1.toNat) (tgt := 29) hex hb h4 d_M_meetAll_14 rfl (fun hc => ?_) (fun hc => ?_)
    · have T := T1 hc
      refine lv_iinc (v := iI (i1 + 1)) (lv' := [(1, .int (iI (i1 + 1))), (0, .ref (r 0))]) hex hb d_M_meetAll_29 hl (k := 1) rfl (iI_add _ _) (Nat.le_of_ble_eq_true rfl) rfl (fun ls hl => ?_)
      refine lv_goto (tgt := 2) hex hb d_M_meetAll_32 rfl ?_
      exact AtG.use T hK hA _ _ _ (lv_sub hl [1, 0] rfl) hP hS
    · have T := T2 hc
      refine lv_aload_n hex hb d_M_meetAll_17 rfl (lv_at hl 0 rfl) ?_
      refine r_getR (ci := 4) (C := R_M) (T := F_M) (N := 22) hex hb hts (fun w h => List.mem_cons_of_mem _ (in_M w h)) hown hK hP hLM rfl 17 (by decide) (hts _ (List.mem_cons_of_mem _ bg_408)) (fun _ h9 => h9) rfl d_M_meetAll_18 ?_
      refine lv_aload_n hex hb d_M_meetAll_21 rfl (lv_at hl 0 rfl) ?_
      refine r_getR (ci := 4) (C := R_M) (T := F_M) (N := 22) hex hb hts (fun w h => List.mem_cons_of_mem _ (in_M w h)) hown hK hP hLM rfl 8 (by decide) (hts _ (List.mem_cons_of_mem _ bg_399)) (fun _ h9 => h9) rfl d_M_meetAll_22 ?_
      refine lv_iload_n hex hb d_M_meetAll_25 rfl (lv_at hl 1 rfl) ?_
      obtain ⟨h5, T⟩ := T
      obtain ⟨h6, T⟩ := T
      refine r_iald hex hb hK hP (hLA 7 6 (by decide)).choose_spec (by decide) (by decide) h5 h6 d_M_meetAll_26 ?_
      refine lv_iconst (v := iI 1) hex hb d_M_meetAll_27 rfl ?_
      obtain ⟨h7, T⟩ := T
      obtain ⟨h8, T⟩ := T
      refine r_zast (v := 1) hex hb hK hP hA hS (hLA 55 90 (by decide)).choose_spec (by decide) (by decide) (by decide) h7 h8 (by decide) d_M_meetAll_28 (fun H locs hP hS => ?_)
      refine lv_iinc (v := iI (i1 + 1)) (lv' := [(1, .int (iI (i1 + 1))), (0, .ref (r 0))]) hex hb d_M_meetAll_29 hl (k := 1) rfl (iI_add _ _) (Nat.le_of_ble_eq_true rfl) rfl (fun ls hl => ?_)
      refine lv_goto (tgt := 2) hex hb d_M_meetAll_32 rfl ?_
      exact AtG.use T hK hA _ _ _ (lv_sub hl [1, 0] rfl) hP hS
set_option maxHeartbeats 4000000 in
set_option maxRecDepth 100000 in
theorem u_M_meetAll_39 {x : Cx} (hx : X_M_meetAll x) {P : Mem → Prop} {Λ : Lam} {σ : Mem} {r : Nat → Nat} {i1 : Int} {i2 : Int} (hL : LayM Λ r) (T : rng i2 ∧ ((90 ≤ i2 → P σ) ∧ (¬ 90 ≤ i2 → rng i1 ∧ ((i1 = 0 → P σ) ∧ (¬ i1 = 0 → N_M_meetAll_53 x P Λ σ r 0 i2 0))))) : N_M_meetAll_39 x P Λ σ r i1 i2 := by
  obtain ⟨hex, hb, hml, hown, hts, hr, hlk, hR, hnm, hAs, hNW⟩ := hx
  obtain ⟨hLM, hLA⟩ := hL
  refine ⟨(), fun hK hA ls H locs hl hP hS => ?_⟩
  refine lv_iload_n hex hb d_M_meetAll_39 rfl (lv_at hl 2 rfl) ?_
  refine lv_bipush (v := iI 90) hex hb d_M_meetAll_40 rfl ?_
  obtain ⟨h1, T⟩ := T
  obtain ⟨T1, T2⟩ := T
  refine r_icmp_ge (a := i2) (b := 90) (tgt := 151) hex hb h1 ⟨by omega, by omega⟩ d_M_meetAll_42 rfl (fun hc => ?_) (fun hc => ?_)
  · have T := T1 hc
    exact r_vret hex hb hr hlk hK hA hP hS ⟨rfl, rfl, T⟩ (Nat.zero_le _) (Nat.zero_le _) d_M_meetAll_151
  · have T := T2 hc
    refine lv_iload_n hex hb d_M_meetAll_45 rfl (lv_at hl 1 rfl) ?_
    obtain ⟨h2, T⟩ := T
    obtain ⟨T1, T2⟩ := T
    refine r_if_eq (a := i1) (tgt := 151) hex hb h2 d_M_meetAll_46 rfl (fun hc => ?_) (fun hc => ?_)
    · have T := T1 hc
      exact r_vret hex hb hr hlk hK hA hP hS ⟨rfl, rfl, T⟩ (Nat.zero_le _) (Nat.zero_le _) d_M_meetAll_151
    · have T := T2 hc
      refine lv_iconst (v := iI 0) hex hb d_M_meetAll_49 rfl ?_
      refine lv_istore_n (lv' := [(1, .int (iI 0)), (0, .ref (r 0)), (2, .int (iI i2))]) hex hb d_M_meetAll_50 rfl hl (Nat.le_of_ble_eq_true rfl) rfl (fun ls hl => ?_)
      refine lv_iconst (v := iI 0) hex hb d_M_meetAll_51 rfl ?_
      refine lv_istore_n (lv' := [(3, .int (iI 0)), (1, .int (iI 0)), (0, .ref (r 0)), (2, .int (iI i2))]) hex hb d_M_meetAll_52 rfl hl (Nat.le_of_ble_eq_true rfl) rfl (fun ls hl => ?_)
      exact AtG.use T hK hA _ _ _ (lv_sub hl [2, 1, 3, 0] rfl) hP hS
set_option maxHeartbeats 4000000 in
set_option maxRecDepth 100000 in
theorem u_M_meetAll_53 {x : Cx} (hx : X_M_meetAll x) {P : Mem → Prop} {Λ : Lam} {σ : Mem} {r : Nat → Nat} {i1 : Int} {i2 : Int} {i3 : Int} (hL : LayM Λ r) (T : rng i3 ∧ ((90 ≤ i3 → N_M_meetAll_39 x P Λ σ r i1 (i2 + 1)) ∧ (¬ 90 ≤ i3 → N_M_meetAll_62 x P Λ σ r i1 i2 i3 0))) : N_M_meetAll_53 x P Λ σ r i1 i2 i3 := by
  obtain ⟨hex, hb, hml, hown, hts, hr, hlk, hR, hnm, hAs, hNW⟩ := hx
  obtain ⟨hLM, hLA⟩ := hL
  refine ⟨(), fun hK hA ls H locs hl hP hS => ?_⟩
  refine lv_iload_n hex hb d_M_meetAll_53 rfl (lv_at hl 3 rfl) ?_
  refine lv_bipush (v := iI 90) hex hb d_M_meetAll_54 rfl ?_
  obtain ⟨h1, T⟩ := T
  obtain ⟨T1, T2⟩ := T
  refine r_icmp_ge (a := i3) (b := 90) (tgt := 145) hex hb h1 ⟨by omega, by omega⟩ d_M_meetAll_56 rfl (fun hc => ?_) (fun hc => ?_)
  · have T := T1 hc
    refine lv_iinc (v := iI (i2 + 1)) (lv' := [(2, .int (iI (i2 + 1))), (0, .ref (r 0)), (1, .int (iI i1)), (3, .int (iI i3))]) hex hb d_M_meetAll_145 hl (k := 2) rfl (iI_add _ _) (Nat.le_of_ble_eq_true rfl) rfl (fun ls hl => ?_)
    refine lv_goto (tgt := 39) hex hb d_M_meetAll_148 rfl ?_
    exact AtG.use T hK hA _ _ _ (lv_sub hl [1, 2, 0] rfl) hP hS
  · have T := T2 hc
    refine lv_iconst (v := iI 0) hex hb d_M_meetAll_59 rfl ?_
    refine lv_istore (lv' := [(4, .int (iI 0)), (0, .ref (r 0)), (1, .int (iI i1)), (2, .int (iI i2)), (3, .int (iI i3))]) hex hb d_M_meetAll_60 hl (Nat.le_of_ble_eq_true rfl) rfl (fun ls hl => ?_)
    exact AtG.use T hK hA _ _ _ (lv_sub hl [1, 2, 3, 4, 0] rfl) hP hS
set_option maxHeartbeats 4000000 in
set_option maxRecDepth 100000 in
theorem u_M_meetAll_62 {x : Cx} (hx : X_M_meetAll x) {P : Mem → Prop} {Λ : Lam} {σ : Mem} {r : Nat → Nat} {i1 : Int} {i2 : Int} {i3 : Int} {i4 : Int} (hL : LayM Λ r) (T : 0 ≤ i3 ∧ i3 < (90 : Int) ∧ rng (σ.2.1 55 (r 55) i3.toNat) ∧ (((σ.2.1 55 (r 55) i3.toNat) = 0 → N_M_meetAll_53 x P Λ σ r i1 i2 (i3 + 1)) ∧ (¬ (σ.2.1 55 (r 55) i3.toNat) = 0 → 0 ≤ i3 ∧ i3 < (90 : Int) ∧ rng i4 ∧ rng (σ.2.1 3 (r 3) i3.toNat) ∧ (((σ.2.1 3 (r 3) i3.toNat) ≤ i4 → N_M_meetAll_53 x P Λ σ r i1 i2 (i3 + 1)) ∧ (¬ (σ.2.1 3 (r 3) i3.toNat) ≤ i4 → 0 ≤ ((3 * i3) + i4) ∧ ((3 * i3) + i4) < (270 : Int) ∧ rng i1 ∧ ((¬ i1 = 0 → N_M_meetAll_119 x P Λ σ r i2 i3 i4 (σ.2.1 4 (r 4) ((3 * i3) + i4).toNat) 1) ∧ (i1 = 0 → rng (σ.2.1 4 (r 4) ((3 * i3) + i4).toNat) ∧ (((σ.2.1 4 (r 4) ((3 * i3) + i4).toNat) < 0 → N_M_meetAll_118 x P Λ σ r i2 i3 i4 (σ.2.1 4 (r 4) ((3 * i3) + i4).toNat)) ∧ (¬ (σ.2.1 4 (r 4) ((3 * i3) + i4).toNat) < 0 → 0 ≤ (σ.2.1 4 (r 4) ((3 * i3) + i4).toNat) ∧ (σ.2.1 4 (r 4) ((3 * i3) + i4).toNat) < (90 : Int) ∧ rng (σ.2.1 55 (r 55) (σ.2.1 4 (r 4) ((3 * i3) + i4).toNat).toNat) ∧ ((¬ (σ.2.1 55 (r 55) (σ.2.1 4 (r 4) ((3 * i3) + i4).toNat).toNat) = 0 → N_M_meetAll_118 x P Λ σ r i2 i3 i4 (σ.2.1 4 (r 4) ((3 * i3) + i4).toNat)) ∧ ((σ.2.1 55 (r 55) (σ.2.1 4 (r 4) ((3 * i3) + i4).toNat).toNat) = 0 → N_M_meetAll_119 x P Λ σ r i2 i3 i4 (σ.2.1 4 (r 4) ((3 * i3) + i4).toNat) 1))))))))))) : N_M_meetAll_62 x P Λ σ r i1 i2 i3 i4 := by
  obtain ⟨hex, hb, hml, hown, hts, hr, hlk, hR, hnm, hAs, hNW⟩ := hx
  obtain ⟨hLM, hLA⟩ := hL
  refine ⟨(), fun hK hA ls H locs hl hP hS => ?_⟩
  refine lv_aload_n hex hb d_M_meetAll_62 rfl (lv_at hl 0 rfl) ?_
  refine r_getR (ci := 4) (C := R_M) (T := F_M) (N := 22) hex hb hts (fun w h => List.mem_cons_of_mem _ (in_M w h)) hown hK hP hLM rfl 17 (by decide) (hts _ (List.mem_cons_of_mem _ bg_408)) (fun _ h9 => h9) rfl d_M_meetAll_63 ?_
  refine lv_iload_n hex hb d_M_meetAll_66 rfl (lv_at hl 3 rfl) ?_
  obtain ⟨h1, T⟩ := T
  obtain ⟨h2, T⟩ := T
  refine r_zald hex hb hK hP (hLA 55 90 (by decide)).choose_spec (by decide) (by decide) (by decide) h1 h2 d_M_meetAll_67 ?_
  obtain ⟨h3, T⟩ := T
  obtain ⟨T1, T2⟩ := T
  refine r_if_eq (a := σ.2.1 55 (r 55) i3.toNat) (tgt := 139) hex hb h3 d_M_meetAll_68 rfl (fun hc => ?_) (fun hc => ?_)
  · have T := T1 hc
    refine lv_iinc (v := iI (i3 + 1)) (lv' := [(3, .int (iI (i3 + 1))), (0, .ref (r 0)), (1, .int (iI i1)), (2, .int (iI i2)), (4, .int (iI i4))]) hex hb d_M_meetAll_139 hl (k := 3) rfl (iI_add _ _) (Nat.le_of_ble_eq_true rfl) rfl (fun ls hl => ?_)
    refine lv_goto (tgt := 53) hex hb d_M_meetAll_142 rfl ?_
    exact AtG.use T hK hA _ _ _ (lv_sub hl [1, 2, 3, 0] rfl) hP hS
  · have T := T2 hc
    refine lv_iload hex hb d_M_meetAll_71 (lv_at hl 4 rfl) ?_
    refine lv_aload_n hex hb d_M_meetAll_73 rfl (lv_at hl 0 rfl) ?_
    refine r_getR (ci := 4) (C := R_M) (T := F_M) (N := 22) hex hb hts (fun w h => List.mem_cons_of_mem _ (in_M w h)) hown hK hP hLM rfl 2 (by decide) (hts _ (List.mem_cons_of_mem _ bg_393)) (fun _ h9 => h9) rfl d_M_meetAll_74 ?_
    refine lv_iload_n hex hb d_M_meetAll_77 rfl (lv_at hl 3 rfl) ?_
    obtain ⟨h4, T⟩ := T
    obtain ⟨h5, T⟩ := T
    refine r_iald hex hb hK hP (hLA 3 90 (by decide)).choose_spec (by decide) (by decide) h4 h5 d_M_meetAll_78 ?_
    obtain ⟨h6, T⟩ := T
    obtain ⟨h7, T⟩ := T
    obtain ⟨T1, T2⟩ := T
    refine r_icmp_ge (a := i4) (b := σ.2.1 3 (r 3) i3.toNat) (tgt := 139) hex hb h6 h7 d_M_meetAll_79 rfl (fun hc => ?_) (fun hc => ?_)
    · have T := T1 hc
      refine lv_iinc (v := iI (i3 + 1)) (lv' := [(3, .int (iI (i3 + 1))), (0, .ref (r 0)), (1, .int (iI i1)), (2, .int (iI i2)), (4, .int (iI i4))]) hex hb d_M_meetAll_139 hl (k := 3) rfl (iI_add _ _) (Nat.le_of_ble_eq_true rfl) rfl (fun ls hl => ?_)
      refine lv_goto (tgt := 53) hex hb d_M_meetAll_142 rfl ?_
      exact AtG.use T hK hA _ _ _ (lv_sub hl [1, 2, 3, 0] rfl) hP hS
    · have T := T2 hc
      refine lv_aload_n hex hb d_M_meetAll_82 rfl (lv_at hl 0 rfl) ?_
      refine r_getR (ci := 4) (C := R_M) (T := F_M) (N := 22) hex hb hts (fun w h => List.mem_cons_of_mem _ (in_M w h)) hown hK hP hLM rfl 3 (by decide) (hts _ (List.mem_cons_of_mem _ bg_394)) (fun _ h9 => h9) rfl d_M_meetAll_83 ?_
      refine lv_iconst (v := iI 3) hex hb d_M_meetAll_86 rfl ?_
      refine lv_iload_n hex hb d_M_meetAll_87 rfl (lv_at hl 3 rfl) ?_
      refine r_imul hex hb d_M_meetAll_88 ?_
      refine lv_iload hex hb d_M_meetAll_89 (lv_at hl 4 rfl) ?_
      refine r_iadd hex hb d_M_meetAll_91 ?_
      obtain ⟨h8, T⟩ := T
      obtain ⟨h9, T⟩ := T
      refine r_iald hex hb hK hP (hLA 4 270 (by decide)).choose_spec (by decide) (by decide) h8 h9 d_M_meetAll_92 ?_
      refine lv_istore (lv' := [(5, .int (iI (σ.2.1 4 (r 4) ((3 * i3) + i4).toNat))), (0, .ref (r 0)), (1, .int (iI i1)), (2, .int (iI i2)), (3, .int (iI i3)), (4, .int (iI i4))]) hex hb d_M_meetAll_93 hl (Nat.le_of_ble_eq_true rfl) rfl (fun ls hl => ?_)
      refine lv_iload_n hex hb d_M_meetAll_95 rfl (lv_at hl 2 rfl) ?_
      obtain ⟨h10, T⟩ := T
      obtain ⟨T1, T2⟩ := T
      refine r_if_ne (a := i1) (tgt := 114) hex hb h10 d_M_meetAll_96 rfl (fun hc => ?_) (fun hc => ?_)
      · have T := T1 hc
        refine lv_iconst (v := iI 1) hex hb d_M_meetAll_114 rfl ?_
        refine lv_goto (tgt := 119) hex hb d_M_meetAll_115 rfl ?_
        exact AtG.use T hK hA _ _ _ (lv_sub hl [1, 3, 4, 5, 0] rfl) hP hS
      · have T := T2 hc
        refine lv_iload hex hb d_M_meetAll_99 (lv_at hl 0 rfl) ?_
        obtain ⟨h11, T⟩ := T
        obtain ⟨T1, T2⟩ := T
        refine r_if_lt (a := σ.2.1 4 (r 4) ((3 * i3) + i4).toNat) (tgt := 118) hex hb h11 d_M_meetAll_101 rfl (fun hc => ?_) (fun hc => ?_)
        · have T := T1 hc
          exact AtG.use T hK hA _ _ _ (lv_sub hl [1, 3, 4, 5, 0] rfl) hP hS
        · have T := T2 hc
          refine lv_aload_n hex hb d_M_meetAll_104 rfl (lv_at hl 1 rfl) ?_
          refine r_getR (ci := 4) (C := R_M) (T := F_M) (N := 22) hex hb hts (fun w h => List.mem_cons_of_mem _ (in_M w h)) hown hK hP hLM rfl 17 (by decide) (hts _ (List.mem_cons_of_mem _ bg_408)) (fun _ h9 => h9) rfl d_M_meetAll_105 ?_
          refine lv_iload hex hb d_M_meetAll_108 (lv_at hl 0 rfl) ?_
          obtain ⟨h12, T⟩ := T
          obtain ⟨h13, T⟩ := T
          refine r_zald hex hb hK hP (hLA 55 90 (by decide)).choose_spec (by decide) (by decide) (by decide) h12 h13 d_M_meetAll_110 ?_
          obtain ⟨h14, T⟩ := T
          obtain ⟨T1, T2⟩ := T
          refine r_if_ne (a := σ.2.1 55 (r 55) (σ.2.1 4 (r 4) ((3 * i3) + i4).toNat).toNat) (tgt := 118) hex hb h14 d_M_meetAll_111 rfl (fun hc => ?_) (fun hc => ?_)
          · have T := T1 hc
            exact AtG.use T hK hA _ _ _ (lv_sub hl [1, 3, 4, 5, 0] rfl) hP hS
          · have T := T2 hc
            refine lv_iconst (v := iI 1) hex hb d_M_meetAll_114 rfl ?_
            refine lv_goto (tgt := 119) hex hb d_M_meetAll_115 rfl ?_
            exact AtG.use T hK hA _ _ _ (lv_sub hl [1, 3, 4, 5, 0] rfl) hP hS
set_option maxHeartbeats 4000000 in
set_option maxRecDepth 100000 in
theorem u_M_meetAll_118 {x : Cx} (hx : X_M_meetAll x) {P : Mem → Prop} {Λ : Lam} {σ : Mem} {r : Nat → Nat} {i2 : Int} {i3 : Int} {i4 : Int} {i5 : Int} (hL : LayM Λ r) (T : N_M_meetAll_119 x P Λ σ r i2 i3 i4 i5 0) : N_M_meetAll_118 x P Λ σ r i2 i3 i4 i5 := by
  obtain ⟨hex, hb, hml, hown, hts, hr, hlk, hR, hnm, hAs, hNW⟩ := hx
  obtain ⟨hLM, hLA⟩ := hL
  refine ⟨(), fun hK hA ls H locs hl hP hS => ?_⟩
  refine lv_iconst (v := iI 0) hex hb d_M_meetAll_118 rfl ?_
  exact AtG.use T hK hA _ _ _ (lv_sub hl [0, 1, 2, 3, 4] rfl) hP hS
set_option maxHeartbeats 4000000 in
set_option maxRecDepth 100000 in
theorem u_M_meetAll_119 {x : Cx} (hx : X_M_meetAll x) {P : Mem → Prop} {Λ : Lam} {σ : Mem} {r : Nat → Nat} {i2 : Int} {i3 : Int} {i4 : Int} {i5 : Int} {s0 : Int} (hL : LayM Λ r) (T : rng i5 ∧ ((i5 < 0 → N_M_meetAll_62 x P Λ σ r s0 i2 i3 (i4 + 1)) ∧ (¬ i5 < 0 → 0 ≤ i5 ∧ i5 < (90 : Int) ∧ N_M_meetAll_62 x P Λ (upY σ 55 (r 55) i5.toNat 1) r s0 i2 i3 (i4 + 1)))) : N_M_meetAll_119 x P Λ σ r i2 i3 i4 i5 s0 := by
  obtain ⟨hex, hb, hml, hown, hts, hr, hlk, hR, hnm, hAs, hNW⟩ := hx
  obtain ⟨hLM, hLA⟩ := hL
  refine ⟨(), fun hK hA ls H locs hl hP hS => ?_⟩
  refine lv_istore_n (lv' := [(1, .int (iI s0)), (0, .ref (r 0)), (2, .int (iI i2)), (3, .int (iI i3)), (4, .int (iI i4)), (5, .int (iI i5))]) hex hb d_M_meetAll_119 rfl hl (Nat.le_of_ble_eq_true rfl) rfl (fun ls hl => ?_)
  refine lv_iload hex hb d_M_meetAll_120 (lv_at hl 5 rfl) ?_
  obtain ⟨h1, T⟩ := T
  obtain ⟨T1, T2⟩ := T
  refine r_if_lt (a := i5) (tgt := 133) hex hb h1 d_M_meetAll_122 rfl (fun hc => ?_) (fun hc => ?_)
  · have T := T1 hc
    refine lv_iinc (v := iI (i4 + 1)) (lv' := [(4, .int (iI (i4 + 1))), (1, .int (iI s0)), (0, .ref (r 0)), (2, .int (iI i2)), (3, .int (iI i3)), (5, .int (iI i5))]) hex hb d_M_meetAll_133 hl (k := 4) rfl (iI_add _ _) (Nat.le_of_ble_eq_true rfl) rfl (fun ls hl => ?_)
    refine lv_goto (tgt := 62) hex hb d_M_meetAll_136 rfl ?_
    exact AtG.use T hK hA _ _ _ (lv_sub hl [2, 1, 3, 4, 0] rfl) hP hS
  · have T := T2 hc
    refine lv_aload_n hex hb d_M_meetAll_125 rfl (lv_at hl 1 rfl) ?_
    refine r_getR (ci := 4) (C := R_M) (T := F_M) (N := 22) hex hb hts (fun w h => List.mem_cons_of_mem _ (in_M w h)) hown hK hP hLM rfl 17 (by decide) (hts _ (List.mem_cons_of_mem _ bg_408)) (fun _ h9 => h9) rfl d_M_meetAll_126 ?_
    refine lv_iload hex hb d_M_meetAll_129 (lv_at hl 5 rfl) ?_
    refine lv_iconst (v := iI 1) hex hb d_M_meetAll_131 rfl ?_
    obtain ⟨h2, T⟩ := T
    obtain ⟨h3, T⟩ := T
    refine r_zast (v := 1) hex hb hK hP hA hS (hLA 55 90 (by decide)).choose_spec (by decide) (by decide) (by decide) h2 h3 (by decide) d_M_meetAll_132 (fun H locs hP hS => ?_)
    refine lv_iinc (v := iI (i4 + 1)) (lv' := [(4, .int (iI (i4 + 1))), (1, .int (iI s0)), (0, .ref (r 0)), (2, .int (iI i2)), (3, .int (iI i3)), (5, .int (iI i5))]) hex hb d_M_meetAll_133 hl (k := 4) rfl (iI_add _ _) (Nat.le_of_ble_eq_true rfl) rfl (fun ls hl => ?_)
    refine lv_goto (tgt := 62) hex hb d_M_meetAll_136 rfl ?_
    exact AtG.use T hK hA _ _ _ (lv_sub hl [2, 1, 3, 4, 0] rfl) hP hS
-- DirtyCardHeapModel.slide()V
def rm_M_slide : Room := { frames := 0, cells := 0, slots := 0, locals := 0 }
abbrev X_M_slide (x : Cx) : Prop := CxOk x b_M_slide 4 wl_M_slide R_M none rm_M_slide "slide"
abbrev K_M_slide (l : Launch) (D : va_G) (Λ : Lam) (σ : Mem) (r : Nat → Nat) (P : Mem → Prop) : Prop := Ct l D y_M_slide wl_M_slide rm_M_slide [.ref (r 0)] Λ σ (pV Λ P)
abbrev N_M_slide_0 (x : Cx) (P : Mem → Prop) (Λ : Lam) (σ : Mem) (r : Nat → Nat) : Prop := AtG x (pV Λ P) 4 0 0 0 Λ σ [(0, .ref (r 0))] []
abbrev N_M_slide_4 (x : Cx) (P : Mem → Prop) (Λ : Lam) (σ : Mem) (r : Nat → Nat) (i1 : Int) (i2 : Int) : Prop := AtG x (pV Λ P) 4 4 0 0 Λ σ [(0, .ref (r 0)), (1, .int (iI i1)), (2, .int (iI i2))] []
abbrev N_M_slide_12 (x : Cx) (P : Mem → Prop) (Λ : Lam) (σ : Mem) (r : Nat → Nat) (i1 : Int) (i2 : Int) (i3 : Int) : Prop := AtG x (pV Λ P) 4 12 0 0 Λ σ [(0, .ref (r 0)), (1, .int (iI i1)), (2, .int (iI i2)), (3, .int (iI i3))] []
theorem e_M_slide {l : Launch} {D : va_G} {Λ : Lam} {σ : Mem} {r : Nat → Nat} {P : Mem → Prop} (h : ∀ x : Cx, xl x = l → xD x = D → X_M_slide x → N_M_slide_0 x P Λ σ r) : K_M_slide l D Λ σ r P := Ct.of (by decide) rfl (Nat.le_of_ble_eq_true rfl) h
set_option maxHeartbeats 4000000 in
set_option maxRecDepth 100000 in
theorem u_M_slide_0 {x : Cx} (hx : X_M_slide x) {P : Mem → Prop} {Λ : Lam} {σ : Mem} {r : Nat → Nat} (hL : LayM Λ r) (T : N_M_slide_4 x P Λ σ r 0 0) : N_M_slide_0 x P Λ σ r := by
  obtain ⟨hex, hb, hml, hown, hts, hr, hlk, hR, hnm, hAs, hNW⟩ := hx
  obtain ⟨hLM, hLA⟩ := hL
  refine ⟨(), fun hK hA ls H locs hl hP hS => ?_⟩
  refine lv_iconst (v := iI 0) hex hb d_M_slide_0 rfl ?_
  refine lv_istore_n (lv' := [(1, .int (iI 0)), (0, .ref (r 0))]) hex hb d_M_slide_1 rfl hl (Nat.le_of_ble_eq_true rfl) rfl (fun ls hl => ?_)
  refine lv_iconst (v := iI 0) hex hb d_M_slide_2 rfl ?_
  refine lv_istore_n (lv' := [(2, .int (iI 0)), (1, .int (iI 0)), (0, .ref (r 0))]) hex hb d_M_slide_3 rfl hl (Nat.le_of_ble_eq_true rfl) rfl (fun ls hl => ?_)
  exact AtG.use T hK hA _ _ _ (lv_sub hl [2, 1, 0] rfl) hP hS
set_option maxHeartbeats 4000000 in
set_option maxRecDepth 100000 in
theorem u_M_slide_4 {x : Cx} (hx : X_M_slide x) {P : Mem → Prop} {Λ : Lam} {σ : Mem} {r : Nat → Nat} {i1 : Int} {i2 : Int} (hL : LayM Λ r) (T : rng i2 ∧ ((64 ≤ i2 → P σ) ∧ (¬ 64 ≤ i2 → N_M_slide_12 x P Λ σ r i1 i2 0))) : N_M_slide_4 x P Λ σ r i1 i2 := by
  obtain ⟨hex, hb, hml, hown, hts, hr, hlk, hR, hnm, hAs, hNW⟩ := hx
  obtain ⟨hLM, hLA⟩ := hL
  refine ⟨(), fun hK hA ls H locs hl hP hS => ?_⟩
  refine lv_iload_n hex hb d_M_slide_4 rfl (lv_at hl 2 rfl) ?_
  refine lv_bipush (v := iI 64) hex hb d_M_slide_5 rfl ?_
  obtain ⟨h1, T⟩ := T
  obtain ⟨T1, T2⟩ := T
  refine r_icmp_ge (a := i2) (b := 64) (tgt := 68) hex hb h1 ⟨by omega, by omega⟩ d_M_slide_7 rfl (fun hc => ?_) (fun hc => ?_)
  · have T := T1 hc
    exact r_vret hex hb hr hlk hK hA hP hS ⟨rfl, rfl, T⟩ (Nat.zero_le _) (Nat.zero_le _) d_M_slide_68
  · have T := T2 hc
    refine lv_iconst (v := iI 0) hex hb d_M_slide_10 rfl ?_
    refine lv_istore_n (lv' := [(3, .int (iI 0)), (0, .ref (r 0)), (1, .int (iI i1)), (2, .int (iI i2))]) hex hb d_M_slide_11 rfl hl (Nat.le_of_ble_eq_true rfl) rfl (fun ls hl => ?_)
    exact AtG.use T hK hA _ _ _ (lv_sub hl [1, 2, 3, 0] rfl) hP hS
set_option maxHeartbeats 4000000 in
set_option maxRecDepth 100000 in
theorem u_M_slide_12 {x : Cx} (hx : X_M_slide x) {P : Mem → Prop} {Λ : Lam} {σ : Mem} {r : Nat → Nat} {i1 : Int} {i2 : Int} {i3 : Int} (hL : LayM Λ r) (T : rng i3 ∧ ((90 ≤ i3 → N_M_slide_4 x P Λ σ r i1 (i2 + 1)) ∧ (¬ 90 ≤ i3 → 0 ≤ i3 ∧ i3 < (90 : Int) ∧ rng (σ.2.1 1 (r 1) i3.toNat) ∧ ((¬ (σ.2.1 1 (r 1) i3.toNat) = 2 → N_M_slide_12 x P Λ σ r i1 i2 (i3 + 1)) ∧ ((σ.2.1 1 (r 1) i3.toNat) = 2 → 0 ≤ i3 ∧ i3 < (90 : Int) ∧ rng (σ.2.1 10 (r 10) i3.toNat) ∧ rng i2 ∧ ((¬ (σ.2.1 10 (r 10) i3.toNat) = i2 → N_M_slide_12 x P Λ σ r i1 i2 (i3 + 1)) ∧ ((σ.2.1 10 (r 10) i3.toNat) = i2 → 0 ≤ i3 ∧ i3 < (90 : Int) ∧ 0 ≤ i3 ∧ i3 < (90 : Int) ∧ N_M_slide_12 x P Λ (upY σ 6 (r 6) i3.toNat i1) r ((i1 + 1) + ((upY σ 6 (r 6) i3.toNat i1).2.1 3 (r 3) i3.toNat)) i2 (i3 + 1)))))))) : N_M_slide_12 x P Λ σ r i1 i2 i3 := by
  obtain ⟨hex, hb, hml, hown, hts, hr, hlk, hR, hnm, hAs, hNW⟩ := hx
  obtain ⟨hLM, hLA⟩ := hL
  refine ⟨(), fun hK hA ls H locs hl hP hS => ?_⟩
  refine lv_iload_n hex hb d_M_slide_12 rfl (lv_at hl 3 rfl) ?_
  refine lv_bipush (v := iI 90) hex hb d_M_slide_13 rfl ?_
  obtain ⟨h1, T⟩ := T
  obtain ⟨T1, T2⟩ := T
  refine r_icmp_ge (a := i3) (b := 90) (tgt := 62) hex hb h1 ⟨by omega, by omega⟩ d_M_slide_15 rfl (fun hc => ?_) (fun hc => ?_)
  · have T := T1 hc
    refine lv_iinc (v := iI (i2 + 1)) (lv' := [(2, .int (iI (i2 + 1))), (0, .ref (r 0)), (1, .int (iI i1)), (3, .int (iI i3))]) hex hb d_M_slide_62 hl (k := 2) rfl (iI_add _ _) (Nat.le_of_ble_eq_true rfl) rfl (fun ls hl => ?_)
    refine lv_goto (tgt := 4) hex hb d_M_slide_65 rfl ?_
    exact AtG.use T hK hA _ _ _ (lv_sub hl [1, 2, 0] rfl) hP hS
  · have T := T2 hc
    refine lv_aload_n hex hb d_M_slide_18 rfl (lv_at hl 0 rfl) ?_
    refine r_getR (ci := 4) (C := R_M) (T := F_M) (N := 22) hex hb hts (fun w h => List.mem_cons_of_mem _ (in_M w h)) hown hK hP hLM rfl 0 (by decide) (hts _ (List.mem_cons_of_mem _ bg_391)) (fun _ h9 => h9) rfl d_M_slide_19 ?_
    refine lv_iload_n hex hb d_M_slide_22 rfl (lv_at hl 3 rfl) ?_
    obtain ⟨h2, T⟩ := T
    obtain ⟨h3, T⟩ := T
    refine r_iald hex hb hK hP (hLA 1 90 (by decide)).choose_spec (by decide) (by decide) h2 h3 d_M_slide_23 ?_
    refine lv_iconst (v := iI 2) hex hb d_M_slide_24 rfl ?_
    obtain ⟨h4, T⟩ := T
    obtain ⟨T1, T2⟩ := T
    refine r_icmp_ne (a := σ.2.1 1 (r 1) i3.toNat) (b := 2) (tgt := 56) hex hb h4 ⟨by omega, by omega⟩ d_M_slide_25 rfl (fun hc => ?_) (fun hc => ?_)
    · have T := T1 hc
      refine lv_iinc (v := iI (i3 + 1)) (lv' := [(3, .int (iI (i3 + 1))), (0, .ref (r 0)), (1, .int (iI i1)), (2, .int (iI i2))]) hex hb d_M_slide_56 hl (k := 3) rfl (iI_add _ _) (Nat.le_of_ble_eq_true rfl) rfl (fun ls hl => ?_)
      refine lv_goto (tgt := 12) hex hb d_M_slide_59 rfl ?_
      exact AtG.use T hK hA _ _ _ (lv_sub hl [1, 2, 3, 0] rfl) hP hS
    · have T := T2 hc
      refine lv_aload_n hex hb d_M_slide_28 rfl (lv_at hl 0 rfl) ?_
      refine r_getR (ci := 4) (C := R_M) (T := F_M) (N := 22) hex hb hts (fun w h => List.mem_cons_of_mem _ (in_M w h)) hown hK hP hLM rfl 20 (by decide) (hts _ (List.mem_cons_of_mem _ bg_411)) (fun _ h9 => h9) rfl d_M_slide_29 ?_
      refine lv_iload_n hex hb d_M_slide_32 rfl (lv_at hl 3 rfl) ?_
      obtain ⟨h5, T⟩ := T
      obtain ⟨h6, T⟩ := T
      refine r_iald hex hb hK hP (hLA 10 90 (by decide)).choose_spec (by decide) (by decide) h5 h6 d_M_slide_33 ?_
      refine lv_iload_n hex hb d_M_slide_34 rfl (lv_at hl 2 rfl) ?_
      obtain ⟨h7, T⟩ := T
      obtain ⟨h8, T⟩ := T
      obtain ⟨T1, T2⟩ := T
      refine r_icmp_ne (a := σ.2.1 10 (r 10) i3.toNat) (b := i2) (tgt := 56) hex hb h7 h8 d_M_slide_35 rfl (fun hc => ?_) (fun hc => ?_)
      · have T := T1 hc
        refine lv_iinc (v := iI (i3 + 1)) (lv' := [(3, .int (iI (i3 + 1))), (0, .ref (r 0)), (1, .int (iI i1)), (2, .int (iI i2))]) hex hb d_M_slide_56 hl (k := 3) rfl (iI_add _ _) (Nat.le_of_ble_eq_true rfl) rfl (fun ls hl => ?_)
        refine lv_goto (tgt := 12) hex hb d_M_slide_59 rfl ?_
        exact AtG.use T hK hA _ _ _ (lv_sub hl [1, 2, 3, 0] rfl) hP hS
      · have T := T2 hc
        refine lv_aload_n hex hb d_M_slide_38 rfl (lv_at hl 0 rfl) ?_
        refine r_getR (ci := 4) (C := R_M) (T := F_M) (N := 22) hex hb hts (fun w h => List.mem_cons_of_mem _ (in_M w h)) hown hK hP hLM rfl 5 (by decide) (hts _ (List.mem_cons_of_mem _ bg_396)) (fun _ h9 => h9) rfl d_M_slide_39 ?_
        refine lv_iload_n hex hb d_M_slide_42 rfl (lv_at hl 3 rfl) ?_
        refine lv_iload_n hex hb d_M_slide_43 rfl (lv_at hl 1 rfl) ?_
        obtain ⟨h9, T⟩ := T
        obtain ⟨h10, T⟩ := T
        refine r_iast (v := i1) hex hb hK hP hA hS (hLA 6 90 (by decide)).choose_spec (by decide) (by decide) h9 h10 d_M_slide_44 (fun H locs hP hS => ?_)
        refine lv_iload_n hex hb d_M_slide_45 rfl (lv_at hl 1 rfl) ?_
        refine lv_iconst (v := iI 1) hex hb d_M_slide_46 rfl ?_
        refine r_iadd hex hb d_M_slide_47 ?_
        refine lv_aload_n hex hb d_M_slide_48 rfl (lv_at hl 0 rfl) ?_
        refine r_getR (ci := 4) (C := R_M) (T := F_M) (N := 22) hex hb hts (fun w h => List.mem_cons_of_mem _ (in_M w h)) hown hK hP hLM rfl 2 (by decide) (hts _ (List.mem_cons_of_mem _ bg_393)) (fun _ h9 => h9) rfl d_M_slide_49 ?_
        refine lv_iload_n hex hb d_M_slide_52 rfl (lv_at hl 3 rfl) ?_
        obtain ⟨h11, T⟩ := T
        obtain ⟨h12, T⟩ := T
        refine r_iald hex hb hK hP (hLA 3 90 (by decide)).choose_spec (by decide) (by decide) h11 h12 d_M_slide_53 ?_
        refine r_iadd hex hb d_M_slide_54 ?_
        refine lv_istore_n (lv' := [(1, .int (iI ((i1 + 1) + ((upY σ 6 (r 6) i3.toNat i1).2.1 3 (r 3) i3.toNat)))), (0, .ref (r 0)), (2, .int (iI i2)), (3, .int (iI i3))]) hex hb d_M_slide_55 rfl hl (Nat.le_of_ble_eq_true rfl) rfl (fun ls hl => ?_)
        refine lv_iinc (v := iI (i3 + 1)) (lv' := [(3, .int (iI (i3 + 1))), (1, .int (iI ((i1 + 1) + ((upY σ 6 (r 6) i3.toNat i1).2.1 3 (r 3) i3.toNat)))), (0, .ref (r 0)), (2, .int (iI i2))]) hex hb d_M_slide_56 hl (k := 3) rfl (iI_add _ _) (Nat.le_of_ble_eq_true rfl) rfl (fun ls hl => ?_)
        refine lv_goto (tgt := 12) hex hb d_M_slide_59 rfl ?_
        exact AtG.use T hK hA _ _ _ (lv_sub hl [2, 1, 3, 0] rfl) hP hS
-- DirtyCardHeapModel.collectFull()V
def rm_M_collectFull : Room := { frames := 2, cells := 0, slots := 0, locals := 45 }
abbrev X_M_collectFull (x : Cx) : Prop := CxOk x b_M_collectFull 6 wl_M_collectFull R_M none rm_M_collectFull "collectFull"
abbrev K_M_collectFull (l : Launch) (D : va_G) (Λ : Lam) (σ : Mem) (r : Nat → Nat) (P : Mem → Prop) : Prop := Ct l D y_M_collectFull wl_M_collectFull rm_M_collectFull [.ref (r 0)] Λ σ (pV Λ P)
abbrev N_M_collectFull_0 (x : Cx) (P : Mem → Prop) (Λ : Lam) (σ : Mem) (r : Nat → Nat) : Prop := AtG x (pV Λ P) 6 0 0 0 Λ σ [(0, .ref (r 0))] []
abbrev N_M_collectFull_10 (x : Cx) (P : Mem → Prop) (Λ : Lam) (σ : Mem) (r : Nat → Nat) (i1 : Int) : Prop := AtG x (pV Λ P) 6 10 0 0 Λ σ [(0, .ref (r 0)), (1, .int (iI i1))] []
abbrev N_M_collectFull_55 (x : Cx) (P : Mem → Prop) (Λ : Lam) (σ : Mem) (r : Nat → Nat) (i1 : Int) (i2 : Int) (i3 : Int) : Prop := AtG x (pV Λ P) 6 55 0 0 Λ σ [(0, .ref (r 0)), (1, .int (iI i1)), (2, .int (iI i2)), (3, .int (iI i3))] []
abbrev N_M_collectFull_103 (x : Cx) (P : Mem → Prop) (Λ : Lam) (σ : Mem) (r : Nat → Nat) (i1 : Int) (i3 : Int) (i4 : Int) (s0 : Int) : Prop := AtG x (pV Λ P) 6 103 0 0 Λ σ [(0, .ref (r 0)), (1, .int (iI i1)), (3, .int (iI i3)), (4, .int (iI i4))] [.int (iI s0)]
abbrev N_M_collectFull_115 (x : Cx) (P : Mem → Prop) (Λ : Lam) (σ : Mem) (r : Nat → Nat) (i1 : Int) (i3 : Int) (i4 : Int) (i5 : Int) (s0 : Int) : Prop := AtG x (pV Λ P) 6 115 0 0 Λ σ [(0, .ref (r 0)), (1, .int (iI i1)), (3, .int (iI i3)), (4, .int (iI i4)), (5, .int (iI i5))] [.int (iI s0)]
abbrev N_M_collectFull_160 (x : Cx) (P : Mem → Prop) (Λ : Lam) (σ : Mem) (r : Nat → Nat) (i3 : Int) : Prop := AtG x (pV Λ P) 6 160 0 0 Λ σ [(0, .ref (r 0)), (3, .int (iI i3))] []
abbrev N_M_collectFull_188 (x : Cx) (P : Mem → Prop) (Λ : Lam) (σ : Mem) (r : Nat → Nat) (i3 : Int) : Prop := AtG x (pV Λ P) 6 188 0 0 Λ σ [(0, .ref (r 0)), (3, .int (iI i3))] []
theorem e_M_collectFull {l : Launch} {D : va_G} {Λ : Lam} {σ : Mem} {r : Nat → Nat} {P : Mem → Prop} (h : ∀ x : Cx, xl x = l → xD x = D → X_M_collectFull x → N_M_collectFull_0 x P Λ σ r) : K_M_collectFull l D Λ σ r P := Ct.of (by decide) rfl (Nat.le_of_ble_eq_true rfl) h
set_option maxHeartbeats 4000000 in
set_option maxRecDepth 100000 in
theorem u_M_collectFull_0 {x : Cx} (hx : X_M_collectFull x) {P : Mem → Prop} {Λ : Lam} {σ : Mem} {r : Nat → Nat} (hL : LayM Λ r) (T : K_M_prepare (xl x) (xD x) Λ σ r (fun σa1 => K_M_meetAll (xl x) (xD x) Λ σa1 r (fun σa2 => N_M_collectFull_10 x P Λ σa2 r 0))) : N_M_collectFull_0 x P Λ σ r := by
  obtain ⟨hex, hb, hml, hown, hts, hr, hlk, hR, hnm, hAs, hNW⟩ := hx
  obtain ⟨hLM, hLA⟩ := hL
  refine ⟨(), fun hK hA ls H locs hl hP hS => ?_⟩
  refine lv_aload_n hex hb d_M_collectFull_0 rfl (lv_at hl 0 rfl) ?_
  refine r_call (va_runV (As := []) (rest := []) ⟨hex, hb, hml, hown, hts⟩ (Ct.use T H.size) (cwV 0 hts (gdV bg_468 bg_470 bp_19 bg_4 bc_M_prepare) rfl rfl rfl hdV_M_prepare ⟨by rw [hR]; exact Nat.le_of_ble_eq_true rfl, by rw [hR]; exact Nat.le_of_ble_eq_true rfl⟩) (px_preV (ci := 4) hNW hK hP hLM rfl) rfl rfl hl.1 rfl (lv_room (Nat.le_of_ble_eq_true rfl)) d_M_collectFull_1 ⟨by rw [hR]; exact Nat.le_of_ble_eq_true rfl, by rw [hR]; exact Nat.le_of_ble_eq_true rfl⟩) hS hA hAs (fun v Λ1 σ1 H locs hp hP hK hA hS => ?_)
  obtain ⟨rfl, rfl, T⟩ := hp
  generalize σ1 = σa1 at hP T
  refine W.eq (g2 := F0 (xm x) 4 ls []) rfl ?_
  refine lv_aload_n hex hb d_M_collectFull_4 rfl (lv_at hl 0 rfl) ?_
  refine r_call (va_runV (As := []) (rest := []) ⟨hex, hb, hml, hown, hts⟩ (Ct.use T H.size) (cwV 0 hts (gdV bg_472 bg_474 bp_20 bg_4 bc_M_meetAll) rfl rfl rfl hdV_M_meetAll ⟨by rw [hR]; exact Nat.le_of_ble_eq_true rfl, by rw [hR]; exact Nat.le_of_ble_eq_true rfl⟩) (px_preV (ci := 4) hNW hK hP hLM rfl) rfl rfl hl.1 rfl (lv_room (Nat.le_of_ble_eq_true rfl)) d_M_collectFull_5 ⟨by rw [hR]; exact Nat.le_of_ble_eq_true rfl, by rw [hR]; exact Nat.le_of_ble_eq_true rfl⟩) hS hA hAs (fun v Λ1 σ1 H locs hp hP hK hA hS => ?_)
  obtain ⟨rfl, rfl, T⟩ := hp
  generalize σ1 = σa2 at hP T
  refine W.eq (g2 := F0 (xm x) 8 ls []) rfl ?_
  refine lv_iconst (v := iI 0) hex hb d_M_collectFull_8 rfl ?_
  refine lv_istore_n (lv' := [(1, .int (iI 0)), (0, .ref (r 0))]) hex hb d_M_collectFull_9 rfl hl (Nat.le_of_ble_eq_true rfl) rfl (fun ls hl => ?_)
  exact AtG.use T hK hA _ _ _ (lv_sub hl [1, 0] rfl) hP hS
set_option maxHeartbeats 4000000 in
set_option maxRecDepth 100000 in
theorem u_M_collectFull_10 {x : Cx} (hx : X_M_collectFull x) {P : Mem → Prop} {Λ : Lam} {σ : Mem} {r : Nat → Nat} {i1 : Int} (hL : LayM Λ r) (T : rng i1 ∧ ((90 ≤ i1 → K_M_slide (xl x) (xD x) Λ σ r (fun σa2 => N_M_collectFull_55 x P Λ σa2 r 0 1 0)) ∧ (¬ 90 ≤ i1 → 0 ≤ i1 ∧ i1 < (90 : Int) ∧ rng (σ.2.1 1 (r 1) i1.toNat) ∧ (((σ.2.1 1 (r 1) i1.toNat) = 0 → N_M_collectFull_10 x P Λ σ r (i1 + 1)) ∧ (¬ (σ.2.1 1 (r 1) i1.toNat) = 0 → 0 ≤ i1 ∧ i1 < (90 : Int) ∧ rng (σ.2.1 55 (r 55) i1.toNat) ∧ ((¬ (σ.2.1 55 (r 55) i1.toNat) = 0 → N_M_collectFull_10 x P Λ σ r (i1 + 1)) ∧ ((σ.2.1 55 (r 55) i1.toNat) = 0 → K_M_remove (xl x) (xD x) Λ σ r i1 (fun σa9 => N_M_collectFull_10 x P Λ σa9 r (i1 + 1))))))))) : N_M_collectFull_10 x P Λ σ r i1 := by
  obtain ⟨hex, hb, hml, hown, hts, hr, hlk, hR, hnm, hAs, hNW⟩ := hx
  obtain ⟨hLM, hLA⟩ := hL
  refine ⟨(), fun hK hA ls H locs hl hP hS => ?_⟩
  refine lv_iload_n hex hb d_M_collectFull_10 rfl (lv_at hl 1 rfl) ?_
  refine lv_bipush (v := iI 90) hex hb d_M_collectFull_11 rfl ?_
  obtain ⟨h1, T⟩ := T
  obtain ⟨T1, T2⟩ := T
  refine r_icmp_ge (a := i1) (b := 90) (tgt := 45) hex hb h1 ⟨by omega, by omega⟩ d_M_collectFull_13 rfl (fun hc => ?_) (fun hc => ?_)
  · have T := T1 hc
    refine lv_aload_n hex hb d_M_collectFull_45 rfl (lv_at hl 0 rfl) ?_
    refine r_call (va_runV (As := []) (rest := []) ⟨hex, hb, hml, hown, hts⟩ (Ct.use T H.size) (cwV 0 hts (gdV bg_480 bg_482 bp_22 bg_4 bc_M_slide) rfl rfl rfl hdV_M_slide ⟨by rw [hR]; exact Nat.le_of_ble_eq_true rfl, by rw [hR]; exact Nat.le_of_ble_eq_true rfl⟩) (px_preV (ci := 4) hNW hK hP hLM rfl) rfl rfl hl.1 rfl (lv_room (Nat.le_of_ble_eq_true rfl)) d_M_collectFull_46 ⟨by rw [hR]; exact Nat.le_of_ble_eq_true rfl, by rw [hR]; exact Nat.le_of_ble_eq_true rfl⟩) hS hA hAs (fun v Λ1 σ1 H locs hp hP hK hA hS => ?_)
    obtain ⟨rfl, rfl, T⟩ := hp
    generalize σ1 = σa2 at hP T
    refine W.eq (g2 := F0 (xm x) 49 ls []) rfl ?_
    refine lv_iconst (v := iI 0) hex hb d_M_collectFull_49 rfl ?_
    refine lv_istore_n (lv' := [(1, .int (iI 0)), (0, .ref (r 0))]) hex hb d_M_collectFull_50 rfl hl (Nat.le_of_ble_eq_true rfl) rfl (fun ls hl => ?_)
    refine lv_iconst (v := iI 1) hex hb d_M_collectFull_51 rfl ?_
    refine lv_istore_n (lv' := [(2, .int (iI 1)), (1, .int (iI 0)), (0, .ref (r 0))]) hex hb d_M_collectFull_52 rfl hl (Nat.le_of_ble_eq_true rfl) rfl (fun ls hl => ?_)
    refine lv_iconst (v := iI 0) hex hb d_M_collectFull_53 rfl ?_
    refine lv_istore_n (lv' := [(3, .int (iI 0)), (2, .int (iI 1)), (1, .int (iI 0)), (0, .ref (r 0))]) hex hb d_M_collectFull_54 rfl hl (Nat.le_of_ble_eq_true rfl) rfl (fun ls hl => ?_)
    exact AtG.use T hK hA _ _ _ (lv_sub hl [3, 2, 1, 0] rfl) hP hS
  · have T := T2 hc
    refine lv_aload_n hex hb d_M_collectFull_16 rfl (lv_at hl 0 rfl) ?_
    refine r_getR (ci := 4) (C := R_M) (T := F_M) (N := 22) hex hb hts (fun w h => List.mem_cons_of_mem _ (in_M w h)) hown hK hP hLM rfl 0 (by decide) (hts _ (List.mem_cons_of_mem _ bg_391)) (fun _ h9 => h9) rfl d_M_collectFull_17 ?_
    refine lv_iload_n hex hb d_M_collectFull_20 rfl (lv_at hl 1 rfl) ?_
    obtain ⟨h3, T⟩ := T
    obtain ⟨h4, T⟩ := T
    refine r_iald hex hb hK hP (hLA 1 90 (by decide)).choose_spec (by decide) (by decide) h3 h4 d_M_collectFull_21 ?_
    obtain ⟨h5, T⟩ := T
    obtain ⟨T1, T2⟩ := T
    refine r_if_eq (a := σ.2.1 1 (r 1) i1.toNat) (tgt := 39) hex hb h5 d_M_collectFull_22 rfl (fun hc => ?_) (fun hc => ?_)
    · have T := T1 hc
      refine lv_iinc (v := iI (i1 + 1)) (lv' := [(1, .int (iI (i1 + 1))), (0, .ref (r 0))]) hex hb d_M_collectFull_39 hl (k := 1) rfl (iI_add _ _) (Nat.le_of_ble_eq_true rfl) rfl (fun ls hl => ?_)
      refine lv_goto (tgt := 10) hex hb d_M_collectFull_42 rfl ?_
      exact AtG.use T hK hA _ _ _ (lv_sub hl [1, 0] rfl) hP hS
    · have T := T2 hc
      refine lv_aload_n hex hb d_M_collectFull_25 rfl (lv_at hl 0 rfl) ?_
      refine r_getR (ci := 4) (C := R_M) (T := F_M) (N := 22) hex hb hts (fun w h => List.mem_cons_of_mem _ (in_M w h)) hown hK hP hLM rfl 17 (by decide) (hts _ (List.mem_cons_of_mem _ bg_408)) (fun _ h9 => h9) rfl d_M_collectFull_26 ?_
      refine lv_iload_n hex hb d_M_collectFull_29 rfl (lv_at hl 1 rfl) ?_
      obtain ⟨h6, T⟩ := T
      obtain ⟨h7, T⟩ := T
      refine r_zald hex hb hK hP (hLA 55 90 (by decide)).choose_spec (by decide) (by decide) (by decide) h6 h7 d_M_collectFull_30 ?_
      obtain ⟨h8, T⟩ := T
      obtain ⟨T1, T2⟩ := T
      refine r_if_ne (a := σ.2.1 55 (r 55) i1.toNat) (tgt := 39) hex hb h8 d_M_collectFull_31 rfl (fun hc => ?_) (fun hc => ?_)
      · have T := T1 hc
        refine lv_iinc (v := iI (i1 + 1)) (lv' := [(1, .int (iI (i1 + 1))), (0, .ref (r 0))]) hex hb d_M_collectFull_39 hl (k := 1) rfl (iI_add _ _) (Nat.le_of_ble_eq_true rfl) rfl (fun ls hl => ?_)
        refine lv_goto (tgt := 10) hex hb d_M_collectFull_42 rfl ?_
        exact AtG.use T hK hA _ _ _ (lv_sub hl [1, 0] rfl) hP hS
      · have T := T2 hc
        refine lv_aload_n hex hb d_M_collectFull_34 rfl (lv_at hl 0 rfl) ?_
        refine lv_iload_n hex hb d_M_collectFull_35 rfl (lv_at hl 1 rfl) ?_
        refine r_call (va_runV (As := [.int (iI i1)]) (rest := []) ⟨hex, hb, hml, hown, hts⟩ (Ct.use T H.size) (cwV 1 hts (gdV bg_476 bg_478 bp_21 bg_4 bc_M_remove) rfl rfl rfl hdV_M_remove ⟨by rw [hR]; exact Nat.le_of_ble_eq_true rfl, by rw [hR]; exact Nat.le_of_ble_eq_true rfl⟩) (px_preV (ci := 4) hNW hK hP hLM rfl) rfl rfl hl.1 rfl (lv_room (Nat.le_of_ble_eq_true rfl)) d_M_collectFull_36 ⟨by rw [hR]; exact Nat.le_of_ble_eq_true rfl, by rw [hR]; exact Nat.le_of_ble_eq_true rfl⟩) hS hA hAs (fun v Λ1 σ1 H locs hp hP hK hA hS => ?_)
        obtain ⟨rfl, rfl, T⟩ := hp
        generalize σ1 = σa9 at hP T
        refine W.eq (g2 := F0 (xm x) 39 ls []) rfl ?_
        refine lv_iinc (v := iI (i1 + 1)) (lv' := [(1, .int (iI (i1 + 1))), (0, .ref (r 0))]) hex hb d_M_collectFull_39 hl (k := 1) rfl (iI_add _ _) (Nat.le_of_ble_eq_true rfl) rfl (fun ls hl => ?_)
        refine lv_goto (tgt := 10) hex hb d_M_collectFull_42 rfl ?_
        exact AtG.use T hK hA _ _ _ (lv_sub hl [1, 0] rfl) hP hS
set_option maxHeartbeats 4000000 in
set_option maxRecDepth 100000 in
theorem u_M_collectFull_55 {x : Cx} (hx : X_M_collectFull x) {P : Mem → Prop} {Λ : Lam} {σ : Mem} {r : Nat → Nat} {i1 : Int} {i2 : Int} {i3 : Int} (hL : LayM Λ r) (T : rng i3 ∧ rng (σ.1 413 (r 0)) ∧ (((σ.1 413 (r 0)) ≤ i3 → N_M_collectFull_160 x P Λ (upI (upI σ 413 (r 0) i1) 411 (r 0) 0) r 0) ∧ (¬ (σ.1 413 (r 0)) ≤ i3 → 0 ≤ i3 ∧ i3 < (20 : Int) ∧ 0 ≤ (σ.2.1 8 (r 8) i3.toNat) ∧ (σ.2.1 8 (r 8) i3.toNat) < (90 : Int) ∧ rng (σ.2.1 1 (r 1) (σ.2.1 8 (r 8) i3.toNat).toNat) ∧ ((¬ (σ.2.1 1 (r 1) (σ.2.1 8 (r 8) i3.toNat).toNat) = 1 → N_M_collectFull_55 x P Λ σ r i1 i2 (i3 + 1)) ∧ ((σ.2.1 1 (r 1) (σ.2.1 8 (r 8) i3.toNat).toNat) = 1 → rng i2 ∧ ((i2 = 0 → N_M_collectFull_103 x P Λ σ r i1 i3 (σ.2.1 8 (r 8) i3.toNat) (-1)) ∧ (¬ i2 = 0 → 0 ≤ (σ.2.1 8 (r 8) i3.toNat) ∧ (σ.2.1 8 (r 8) i3.toNat) < (90 : Int) ∧ K_M_place (xl x) (xD x) Λ σ r (1 + (σ.2.1 3 (r 3) (σ.2.1 8 (r 8) i3.toNat).toNat)) (fun z11 σa11 => N_M_collectFull_103 x P Λ σa11 r i1 i3 (σ.2.1 8 (r 8) i3.toNat) z11)))))))) : N_M_collectFull_55 x P Λ σ r i1 i2 i3 := by
  obtain ⟨hex, hb, hml, hown, hts, hr, hlk, hR, hnm, hAs, hNW⟩ := hx
  obtain ⟨hLM, hLA⟩ := hL
  refine ⟨(), fun hK hA ls H locs hl hP hS => ?_⟩
  refine lv_iload_n hex hb d_M_collectFull_55 rfl (lv_at hl 3 rfl) ?_
  refine lv_aload_n hex hb d_M_collectFull_56 rfl (lv_at hl 0 rfl) ?_
  refine r_getI (ci := 4) (C := R_M) (T := F_M) (N := 22) hex hb hts (fun w h => List.mem_cons_of_mem _ (in_M w h)) hown hK hP hLM rfl 13 (by decide) (hts _ (List.mem_cons_of_mem _ bg_404)) (fun _ h9 => h9) rfl d_M_collectFull_57 ?_
  obtain ⟨h1, T⟩ := T
  obtain ⟨h2, T⟩ := T
  obtain ⟨T1, T2⟩ := T
  refine r_icmp_ge (a := i3) (b := σ.1 413 (r 0)) (tgt := 148) hex hb h1 h2 d_M_collectFull_60 rfl (fun hc => ?_) (fun hc => ?_)
  · have T := T1 hc
    refine lv_aload_n hex hb d_M_collectFull_148 rfl (lv_at hl 0 rfl) ?_
    refine lv_iload_n hex hb d_M_collectFull_149 rfl (lv_at hl 1 rfl) ?_
    refine r_putI (ci := 4) (C := R_M) (T := F_M) (N := 22) (v := i1) (ty := .int) hex hb hts (fun w h => List.mem_cons_of_mem _ (in_M w h)) tq_M tq_M_ok n_M hown hK hP hA hS hLM rfl 13 (by decide) (hts _ (List.mem_cons_of_mem _ bg_404)) (fun _ h9 => h9) rfl (by decide +kernel) rfl rfl rfl d_M_collectFull_150 (fun H locs hP hS => ?_)
    refine lv_aload_n hex hb d_M_collectFull_153 rfl (lv_at hl 0 rfl) ?_
    refine lv_iconst (v := iI 0) hex hb d_M_collectFull_154 rfl ?_
    refine r_putI (ci := 4) (C := R_M) (T := F_M) (N := 22) (v := 0) (ty := .int) hex hb hts (fun w h => List.mem_cons_of_mem _ (in_M w h)) tq_M tq_M_ok n_M hown hK hP hA hS hLM rfl 11 (by decide) (hts _ (List.mem_cons_of_mem _ bg_402)) (fun _ h9 => h9) rfl (by decide +kernel) rfl rfl rfl d_M_collectFull_155 (fun H locs hP hS => ?_)
    refine lv_iconst (v := iI 0) hex hb d_M_collectFull_158 rfl ?_
    refine lv_istore_n (lv' := [(3, .int (iI 0)), (0, .ref (r 0)), (1, .int (iI i1)), (2, .int (iI i2))]) hex hb d_M_collectFull_159 rfl hl (Nat.le_of_ble_eq_true rfl) rfl (fun ls hl => ?_)
    exact AtG.use T hK hA _ _ _ (lv_sub hl [1, 0] rfl) hP hS
  · have T := T2 hc
    refine lv_aload_n hex hb d_M_collectFull_63 rfl (lv_at hl 0 rfl) ?_
    refine r_getR (ci := 4) (C := R_M) (T := F_M) (N := 22) hex hb hts (fun w h => List.mem_cons_of_mem _ (in_M w h)) hown hK hP hLM rfl 14 (by decide) (hts _ (List.mem_cons_of_mem _ bg_405)) (fun _ h9 => h9) rfl d_M_collectFull_64 ?_
    refine lv_iload_n hex hb d_M_collectFull_67 rfl (lv_at hl 3 rfl) ?_
    obtain ⟨h3, T⟩ := T
    obtain ⟨h4, T⟩ := T
    refine r_iald hex hb hK hP (hLA 8 20 (by decide)).choose_spec (by decide) (by decide) h3 h4 d_M_collectFull_68 ?_
    refine lv_istore (lv' := [(4, .int (iI (σ.2.1 8 (r 8) i3.toNat))), (0, .ref (r 0)), (1, .int (iI i1)), (2, .int (iI i2)), (3, .int (iI i3))]) hex hb d_M_collectFull_69 hl (Nat.le_of_ble_eq_true rfl) rfl (fun ls hl => ?_)
    refine lv_aload_n hex hb d_M_collectFull_71 rfl (lv_at hl 1 rfl) ?_
    refine r_getR (ci := 4) (C := R_M) (T := F_M) (N := 22) hex hb hts (fun w h => List.mem_cons_of_mem _ (in_M w h)) hown hK hP hLM rfl 0 (by decide) (hts _ (List.mem_cons_of_mem _ bg_391)) (fun _ h9 => h9) rfl d_M_collectFull_72 ?_
    refine lv_iload hex hb d_M_collectFull_75 (lv_at hl 0 rfl) ?_
    obtain ⟨h5, T⟩ := T
    obtain ⟨h6, T⟩ := T
    refine r_iald hex hb hK hP (hLA 1 90 (by decide)).choose_spec (by decide) (by decide) h5 h6 d_M_collectFull_77 ?_
    refine lv_iconst (v := iI 1) hex hb d_M_collectFull_78 rfl ?_
    obtain ⟨h7, T⟩ := T
    obtain ⟨T1, T2⟩ := T
    refine r_icmp_ne (a := σ.2.1 1 (r 1) (σ.2.1 8 (r 8) i3.toNat).toNat) (b := 1) (tgt := 142) hex hb h7 ⟨by omega, by omega⟩ d_M_collectFull_79 rfl (fun hc => ?_) (fun hc => ?_)
    · have T := T1 hc
      refine lv_iinc (v := iI (i3 + 1)) (lv' := [(3, .int (iI (i3 + 1))), (4, .int (iI (σ.2.1 8 (r 8) i3.toNat))), (0, .ref (r 0)), (1, .int (iI i1)), (2, .int (iI i2))]) hex hb d_M_collectFull_142 hl (k := 4) rfl (iI_add _ _) (Nat.le_of_ble_eq_true rfl) rfl (fun ls hl => ?_)
      refine lv_goto (tgt := 55) hex hb d_M_collectFull_145 rfl ?_
      exact AtG.use T hK hA _ _ _ (lv_sub hl [2, 3, 4, 0] rfl) hP hS
    · have T := T2 hc
      refine lv_iload_n hex hb d_M_collectFull_82 rfl (lv_at hl 3 rfl) ?_
      obtain ⟨h8, T⟩ := T
      obtain ⟨T1, T2⟩ := T
      refine r_if_eq (a := i2) (tgt := 102) hex hb h8 d_M_collectFull_83 rfl (fun hc => ?_) (fun hc => ?_)
      · have T := T1 hc
        refine lv_iconst (v := iI (-1)) hex hb d_M_collectFull_102 rfl ?_
        exact AtG.use T hK hA _ _ _ (lv_sub hl [1, 2, 4, 0] rfl) hP hS
      · have T := T2 hc
        refine lv_aload_n hex hb d_M_collectFull_86 rfl (lv_at hl 1 rfl) ?_
        refine lv_iconst (v := iI 1) hex hb d_M_collectFull_87 rfl ?_
        refine lv_aload_n hex hb d_M_collectFull_88 rfl (lv_at hl 1 rfl) ?_
        refine r_getR (ci := 4) (C := R_M) (T := F_M) (N := 22) hex hb hts (fun w h => List.mem_cons_of_mem _ (in_M w h)) hown hK hP hLM rfl 2 (by decide) (hts _ (List.mem_cons_of_mem _ bg_393)) (fun _ h9 => h9) rfl d_M_collectFull_89 ?_
        refine lv_iload hex hb d_M_collectFull_92 (lv_at hl 0 rfl) ?_
        obtain ⟨h9, T⟩ := T
        obtain ⟨h10, T⟩ := T
        refine r_iald hex hb hK hP (hLA 3 90 (by decide)).choose_spec (by decide) (by decide) h9 h10 d_M_collectFull_94 ?_
        refine r_iadd hex hb d_M_collectFull_95 ?_
        refine r_call (va_runV (As := [.int (iI (1 + (σ.2.1 3 (r 3) (σ.2.1 8 (r 8) i3.toNat).toNat)))]) (rest := []) ⟨hex, hb, hml, hown, hts⟩ (Ct.use T H.size) (cwV 1 hts (gdV bg_484 bg_486 bp_23 bg_4 bc_M_place) rfl rfl rfl hdV_M_place ⟨by rw [hR]; exact Nat.le_of_ble_eq_true rfl, by rw [hR]; exact Nat.le_of_ble_eq_true rfl⟩) (px_preV (ci := 4) hNW hK hP hLM rfl) rfl rfl hl.1 rfl (lv_room (Nat.le_of_ble_eq_true rfl)) d_M_collectFull_96 ⟨by rw [hR]; exact Nat.le_of_ble_eq_true rfl, by rw [hR]; exact Nat.le_of_ble_eq_true rfl⟩) hS hA hAs (fun v Λ1 σ1 H locs hp hP hK hA hS => ?_)
        obtain ⟨z11, rfl, rfl, T⟩ := hp
        generalize σ1 = σa11 at hP T
        refine W.eq (g2 := F0 (xm x) 99 ls [.int (iI z11)]) rfl ?_
        refine lv_goto (tgt := 103) hex hb d_M_collectFull_99 rfl ?_
        exact AtG.use T hK hA _ _ _ (lv_sub hl [1, 2, 4, 0] rfl) hP hS
set_option maxHeartbeats 4000000 in
set_option maxRecDepth 100000 in
theorem u_M_collectFull_103 {x : Cx} (hx : X_M_collectFull x) {P : Mem → Prop} {Λ : Lam} {σ : Mem} {r : Nat → Nat} {i1 : Int} {i3 : Int} {i4 : Int} {s0 : Int} (hL : LayM Λ r) (T : rng s0 ∧ ((s0 < 0 → N_M_collectFull_115 x P Λ σ r i1 i3 i4 s0 0) ∧ (¬ s0 < 0 → N_M_collectFull_115 x P Λ σ r i1 i3 i4 s0 1))) : N_M_collectFull_103 x P Λ σ r i1 i3 i4 s0 := by
  obtain ⟨hex, hb, hml, hown, hts, hr, hlk, hR, hnm, hAs, hNW⟩ := hx
  obtain ⟨hLM, hLA⟩ := hL
  refine ⟨(), fun hK hA ls H locs hl hP hS => ?_⟩
  refine lv_istore (lv' := [(5, .int (iI s0)), (0, .ref (r 0)), (1, .int (iI i1)), (3, .int (iI i3)), (4, .int (iI i4))]) hex hb d_M_collectFull_103 hl (Nat.le_of_ble_eq_true rfl) rfl (fun ls hl => ?_)
  refine lv_iload hex hb d_M_collectFull_105 (lv_at hl 0 rfl) ?_
  obtain ⟨h1, T⟩ := T
  obtain ⟨T1, T2⟩ := T
  refine r_if_lt (a := s0) (tgt := 114) hex hb h1 d_M_collectFull_107 rfl (fun hc => ?_) (fun hc => ?_)
  · have T := T1 hc
    refine lv_iconst (v := iI 0) hex hb d_M_collectFull_114 rfl ?_
    exact AtG.use T hK hA _ _ _ (lv_sub hl [1, 2, 3, 4, 0] rfl) hP hS
  · have T := T2 hc
    refine lv_iconst (v := iI 1) hex hb d_M_collectFull_110 rfl ?_
    refine lv_goto (tgt := 115) hex hb d_M_collectFull_111 rfl ?_
    exact AtG.use T hK hA _ _ _ (lv_sub hl [1, 2, 3, 4, 0] rfl) hP hS
set_option maxHeartbeats 4000000 in
set_option maxRecDepth 100000 in
theorem u_M_collectFull_115 {x : Cx} (hx : X_M_collectFull x) {P : Mem → Prop} {Λ : Lam} {σ : Mem} {r : Nat → Nat} {i1 : Int} {i3 : Int} {i4 : Int} {i5 : Int} {s0 : Int} (hL : LayM Λ r) (T : rng s0 ∧ ((s0 = 0 → 0 ≤ i1 ∧ i1 < (20 : Int) ∧ N_M_collectFull_55 x P Λ (upY σ 8 (r 8) i1.toNat i4) r (i1 + 1) s0 (i3 + 1)) ∧ (¬ s0 = 0 → K_M_becomeOld (xl x) (xD x) Λ σ r i4 i5 (fun σa4 => N_M_collectFull_55 x P Λ σa4 r i1 s0 (i3 + 1))))) : N_M_collectFull_115 x P Λ σ r i1 i3 i4 i5 s0 := by
  obtain ⟨hex, hb, hml, hown, hts, hr, hlk, hR, hnm, hAs, hNW⟩ := hx
  obtain ⟨hLM, hLA⟩ := hL
  refine ⟨(), fun hK hA ls H locs hl hP hS => ?_⟩
  refine lv_istore_n (lv' := [(2, .int (iI s0)), (0, .ref (r 0)), (1, .int (iI i1)), (3, .int (iI i3)), (4, .int (iI i4)), (5, .int (iI i5))]) hex hb d_M_collectFull_115 rfl hl (Nat.le_of_ble_eq_true rfl) rfl (fun ls hl => ?_)
  refine lv_iload_n hex hb d_M_collectFull_116 rfl (lv_at hl 0 rfl) ?_
  obtain ⟨h1, T⟩ := T
  obtain ⟨T1, T2⟩ := T
  refine r_if_eq (a := s0) (tgt := 131) hex hb h1 d_M_collectFull_117 rfl (fun hc => ?_) (fun hc => ?_)
  · have T := T1 hc
    refine lv_aload_n hex hb d_M_collectFull_131 rfl (lv_at hl 1 rfl) ?_
    refine r_getR (ci := 4) (C := R_M) (T := F_M) (N := 22) hex hb hts (fun w h => List.mem_cons_of_mem _ (in_M w h)) hown hK hP hLM rfl 14 (by decide) (hts _ (List.mem_cons_of_mem _ bg_405)) (fun _ h9 => h9) rfl d_M_collectFull_132 ?_
    refine lv_iload_n hex hb d_M_collectFull_135 rfl (lv_at hl 2 rfl) ?_
    refine lv_iload hex hb d_M_collectFull_136 (lv_at hl 4 rfl) ?_
    obtain ⟨h2, T⟩ := T
    obtain ⟨h3, T⟩ := T
    refine r_iast (v := i4) hex hb hK hP hA hS (hLA 8 20 (by decide)).choose_spec (by decide) (by decide) h2 h3 d_M_collectFull_138 (fun H locs hP hS => ?_)
    refine lv_iinc (v := iI (i1 + 1)) (lv' := [(1, .int (iI (i1 + 1))), (2, .int (iI s0)), (0, .ref (r 0)), (3, .int (iI i3)), (4, .int (iI i4)), (5, .int (iI i5))]) hex hb d_M_collectFull_139 hl (k := 2) rfl (iI_add _ _) (Nat.le_of_ble_eq_true rfl) rfl (fun ls hl => ?_)
    refine lv_iinc (v := iI (i3 + 1)) (lv' := [(3, .int (iI (i3 + 1))), (1, .int (iI (i1 + 1))), (2, .int (iI s0)), (0, .ref (r 0)), (4, .int (iI i4)), (5, .int (iI i5))]) hex hb d_M_collectFull_142 hl (k := 3) rfl (iI_add _ _) (Nat.le_of_ble_eq_true rfl) rfl (fun ls hl => ?_)
    refine lv_goto (tgt := 55) hex hb d_M_collectFull_145 rfl ?_
    exact AtG.use T hK hA _ _ _ (lv_sub hl [3, 1, 2, 0] rfl) hP hS
  · have T := T2 hc
    refine lv_aload_n hex hb d_M_collectFull_120 rfl (lv_at hl 1 rfl) ?_
    refine lv_iload hex hb d_M_collectFull_121 (lv_at hl 4 rfl) ?_
    refine lv_iload hex hb d_M_collectFull_123 (lv_at hl 5 rfl) ?_
    refine r_call (va_runV (As := [.int (iI i4), .int (iI i5)]) (rest := []) ⟨hex, hb, hml, hown, hts⟩ (Ct.use T H.size) (cwV 2 hts (gdV bg_492 bg_494 bp_25 bg_4 bc_M_becomeOld) rfl rfl rfl hdV_M_becomeOld ⟨by rw [hR]; exact Nat.le_of_ble_eq_true rfl, by rw [hR]; exact Nat.le_of_ble_eq_true rfl⟩) (px_preV (ci := 4) hNW hK hP hLM rfl) rfl rfl hl.1 rfl (lv_room (Nat.le_of_ble_eq_true rfl)) d_M_collectFull_125 ⟨by rw [hR]; exact Nat.le_of_ble_eq_true rfl, by rw [hR]; exact Nat.le_of_ble_eq_true rfl⟩) hS hA hAs (fun v Λ1 σ1 H locs hp hP hK hA hS => ?_)
    obtain ⟨rfl, rfl, T⟩ := hp
    generalize σ1 = σa4 at hP T
    refine W.eq (g2 := F0 (xm x) 128 ls []) rfl ?_
    refine lv_goto (tgt := 142) hex hb d_M_collectFull_128 rfl ?_
    refine lv_iinc (v := iI (i3 + 1)) (lv' := [(3, .int (iI (i3 + 1))), (2, .int (iI s0)), (0, .ref (r 0)), (1, .int (iI i1)), (4, .int (iI i4)), (5, .int (iI i5))]) hex hb d_M_collectFull_142 hl (k := 3) rfl (iI_add _ _) (Nat.le_of_ble_eq_true rfl) rfl (fun ls hl => ?_)
    refine lv_goto (tgt := 55) hex hb d_M_collectFull_145 rfl ?_
    exact AtG.use T hK hA _ _ _ (lv_sub hl [2, 3, 1, 0] rfl) hP hS
set_option maxHeartbeats 4000000 in
set_option maxRecDepth 100000 in
theorem u_M_collectFull_160 {x : Cx} (hx : X_M_collectFull x) {P : Mem → Prop} {Λ : Lam} {σ : Mem} {r : Nat → Nat} {i3 : Int} (hL : LayM Λ r) (T : rng i3 ∧ ((90 ≤ i3 → N_M_collectFull_188 x P Λ σ r 0) ∧ (¬ 90 ≤ i3 → 0 ≤ i3 ∧ i3 < (90 : Int) ∧ 0 ≤ i3 ∧ i3 < (90 : Int) ∧ N_M_collectFull_160 x P Λ (upY (upY σ 51 (r 51) i3.toNat 0) 52 (r 52) i3.toNat 0) r (i3 + 1)))) : N_M_collectFull_160 x P Λ σ r i3 := by
  obtain ⟨hex, hb, hml, hown, hts, hr, hlk, hR, hnm, hAs, hNW⟩ := hx
  obtain ⟨hLM, hLA⟩ := hL
  refine ⟨(), fun hK hA ls H locs hl hP hS => ?_⟩
  refine lv_iload_n hex hb d_M_collectFull_160 rfl (lv_at hl 1 rfl) ?_
  refine lv_bipush (v := iI 90) hex hb d_M_collectFull_161 rfl ?_
  obtain ⟨h1, T⟩ := T
  obtain ⟨T1, T2⟩ := T
  refine r_icmp_ge (a := i3) (b := 90) (tgt := 186) hex hb h1 ⟨by omega, by omega⟩ d_M_collectFull_163 rfl (fun hc => ?_) (fun hc => ?_)
  · have T := T1 hc
    refine lv_iconst (v := iI 0) hex hb d_M_collectFull_186 rfl ?_
    refine lv_istore_n (lv' := [(3, .int (iI 0)), (0, .ref (r 0))]) hex hb d_M_collectFull_187 rfl hl (Nat.le_of_ble_eq_true rfl) rfl (fun ls hl => ?_)
    exact AtG.use T hK hA _ _ _ (lv_sub hl [1, 0] rfl) hP hS
  · have T := T2 hc
    refine lv_aload_n hex hb d_M_collectFull_166 rfl (lv_at hl 0 rfl) ?_
    refine r_getR (ci := 4) (C := R_M) (T := F_M) (N := 22) hex hb hts (fun w h => List.mem_cons_of_mem _ (in_M w h)) hown hK hP hLM rfl 6 (by decide) (hts _ (List.mem_cons_of_mem _ bg_397)) (fun _ h9 => h9) rfl d_M_collectFull_167 ?_
    refine lv_iload_n hex hb d_M_collectFull_170 rfl (lv_at hl 1 rfl) ?_
    refine lv_iconst (v := iI 0) hex hb d_M_collectFull_171 rfl ?_
    obtain ⟨h2, T⟩ := T
    obtain ⟨h3, T⟩ := T
    refine r_zast (v := 0) hex hb hK hP hA hS (hLA 51 90 (by decide)).choose_spec (by decide) (by decide) (by decide) h2 h3 (by decide) d_M_collectFull_172 (fun H locs hP hS => ?_)
    refine lv_aload_n hex hb d_M_collectFull_173 rfl (lv_at hl 0 rfl) ?_
    refine r_getR (ci := 4) (C := R_M) (T := F_M) (N := 22) hex hb hts (fun w h => List.mem_cons_of_mem _ (in_M w h)) hown hK hP hLM rfl 7 (by decide) (hts _ (List.mem_cons_of_mem _ bg_398)) (fun _ h9 => h9) rfl d_M_collectFull_174 ?_
    refine lv_iload_n hex hb d_M_collectFull_177 rfl (lv_at hl 1 rfl) ?_
    refine lv_iconst (v := iI 0) hex hb d_M_collectFull_178 rfl ?_
    obtain ⟨h4, T⟩ := T
    obtain ⟨h5, T⟩ := T
    refine r_zast (v := 0) hex hb hK hP hA hS (hLA 52 90 (by decide)).choose_spec (by decide) (by decide) (by decide) h4 h5 (by decide) d_M_collectFull_179 (fun H locs hP hS => ?_)
    refine lv_iinc (v := iI (i3 + 1)) (lv' := [(3, .int (iI (i3 + 1))), (0, .ref (r 0))]) hex hb d_M_collectFull_180 hl (k := 1) rfl (iI_add _ _) (Nat.le_of_ble_eq_true rfl) rfl (fun ls hl => ?_)
    refine lv_goto (tgt := 160) hex hb d_M_collectFull_183 rfl ?_
    exact AtG.use T hK hA _ _ _ (lv_sub hl [1, 0] rfl) hP hS
set_option maxHeartbeats 4000000 in
set_option maxRecDepth 100000 in
theorem u_M_collectFull_188 {x : Cx} (hx : X_M_collectFull x) {P : Mem → Prop} {Λ : Lam} {σ : Mem} {r : Nat → Nat} {i3 : Int} (hL : LayM Λ r) (T : rng i3 ∧ ((8 ≤ i3 → P σ) ∧ (¬ 8 ≤ i3 → 0 ≤ i3 ∧ i3 < (8 : Int) ∧ K_M_showsYoung (xl x) (xD x) Λ (upY σ 54 (r 54) i3.toNat 0) r i3 (fun z4 σa4 => 0 ≤ i3 ∧ i3 < (8 : Int) ∧ (z4 = 0 ∨ z4 = 1) ∧ N_M_collectFull_188 x P Λ (upY σa4 53 (r 53) i3.toNat z4) r (i3 + 1))))) : N_M_collectFull_188 x P Λ σ r i3 := by
  obtain ⟨hex, hb, hml, hown, hts, hr, hlk, hR, hnm, hAs, hNW⟩ := hx
  obtain ⟨hLM, hLA⟩ := hL
  refine ⟨(), fun hK hA ls H locs hl hP hS => ?_⟩
  refine lv_iload_n hex hb d_M_collectFull_188 rfl (lv_at hl 1 rfl) ?_
  refine lv_bipush (v := iI 8) hex hb d_M_collectFull_189 rfl ?_
  obtain ⟨h1, T⟩ := T
  obtain ⟨T1, T2⟩ := T
  refine r_icmp_ge (a := i3) (b := 8) (tgt := 218) hex hb h1 ⟨by omega, by omega⟩ d_M_collectFull_191 rfl (fun hc => ?_) (fun hc => ?_)
  · have T := T1 hc
    exact r_vret hex hb hr hlk hK hA hP hS ⟨rfl, rfl, T⟩ (Nat.zero_le _) (Nat.zero_le _) d_M_collectFull_218
  · have T := T2 hc
    refine lv_aload_n hex hb d_M_collectFull_194 rfl (lv_at hl 0 rfl) ?_
    refine r_getR (ci := 4) (C := R_M) (T := F_M) (N := 22) hex hb hts (fun w h => List.mem_cons_of_mem _ (in_M w h)) hown hK hP hLM rfl 10 (by decide) (hts _ (List.mem_cons_of_mem _ bg_401)) (fun _ h9 => h9) rfl d_M_collectFull_195 ?_
    refine lv_iload_n hex hb d_M_collectFull_198 rfl (lv_at hl 1 rfl) ?_
    refine lv_iconst (v := iI 0) hex hb d_M_collectFull_199 rfl ?_
    obtain ⟨h2, T⟩ := T
    obtain ⟨h3, T⟩ := T
    refine r_zast (v := 0) hex hb hK hP hA hS (hLA 54 8 (by decide)).choose_spec (by decide) (by decide) (by decide) h2 h3 (by decide) d_M_collectFull_200 (fun H locs hP hS => ?_)
    refine lv_aload_n hex hb d_M_collectFull_201 rfl (lv_at hl 0 rfl) ?_
    refine r_getR (ci := 4) (C := R_M) (T := F_M) (N := 22) hex hb hts (fun w h => List.mem_cons_of_mem _ (in_M w h)) hown hK hP hLM rfl 9 (by decide) (hts _ (List.mem_cons_of_mem _ bg_400)) (fun _ h9 => h9) rfl d_M_collectFull_202 ?_
    refine lv_iload_n hex hb d_M_collectFull_205 rfl (lv_at hl 1 rfl) ?_
    refine lv_aload_n hex hb d_M_collectFull_206 rfl (lv_at hl 0 rfl) ?_
    refine lv_iload_n hex hb d_M_collectFull_207 rfl (lv_at hl 1 rfl) ?_
    refine r_call (va_runV (As := [.int (iI i3)]) (rest := [.int (iI i3), .ref (r 53)]) ⟨hex, hb, hml, hown, hts⟩ (Ct.use T H.size) (cwV 1 hts (gdV bg_496 bg_498 bp_26 bg_4 bc_M_showsYoung) rfl rfl rfl hdV_M_showsYoung ⟨by rw [hR]; exact Nat.le_of_ble_eq_true rfl, by rw [hR]; exact Nat.le_of_ble_eq_true rfl⟩) (px_preV (ci := 4) hNW hK hP hLM rfl) rfl rfl hl.1 rfl (lv_room (Nat.le_of_ble_eq_true rfl)) d_M_collectFull_208 ⟨by rw [hR]; exact Nat.le_of_ble_eq_true rfl, by rw [hR]; exact Nat.le_of_ble_eq_true rfl⟩) hS hA hAs (fun v Λ1 σ1 H locs hp hP hK hA hS => ?_)
    obtain ⟨z4, rfl, rfl, T⟩ := hp
    generalize σ1 = σa4 at hP T
    refine W.eq (g2 := F0 (xm x) 211 ls [.int (iI z4), .int (iI i3), .ref (r 53)]) rfl ?_
    obtain ⟨h5, T⟩ := T
    obtain ⟨h6, T⟩ := T
    obtain ⟨h7, T⟩ := T
    refine r_zast (v := z4) hex hb hK hP hA hS (hLA 53 8 (by decide)).choose_spec (by decide) (by decide) (by decide) h5 h6 h7 d_M_collectFull_211 (fun H locs hP hS => ?_)
    refine lv_iinc (v := iI (i3 + 1)) (lv' := [(3, .int (iI (i3 + 1))), (0, .ref (r 0))]) hex hb d_M_collectFull_212 hl (k := 1) rfl (iI_add _ _) (Nat.le_of_ble_eq_true rfl) rfl (fun ls hl => ?_)
    refine lv_goto (tgt := 188) hex hb d_M_collectFull_215 rfl ?_
    exact AtG.use T hK hA _ _ _ (lv_sub hl [1, 0] rfl) hP hS
-- DirtyCardHeapModel.collect(Z)I
def rm_M_collect : Room := { frames := 5, cells := 0, slots := 0, locals := 112 }
abbrev X_M_collect (x : Cx) : Prop := CxOk x b_M_collect 2 wl_M_collect R_M (some .int) rm_M_collect "collect"
abbrev K_M_collect (l : Launch) (D : va_G) (Λ : Lam) (σ : Mem) (r : Nat → Nat) (a1 : Int) (P : Int → Mem → Prop) : Prop := Ct l D y_M_collect wl_M_collect rm_M_collect [.ref (r 0), .int (iI a1)] Λ σ (pI Λ P)
abbrev N_M_collect_0 (x : Cx) (P : Int → Mem → Prop) (Λ : Lam) (σ : Mem) (r : Nat → Nat) (a1 : Int) : Prop := AtG x (pI Λ P) 2 0 0 0 Λ σ [(0, .ref (r 0)), (1, .int (iI a1))] []
theorem e_M_collect {l : Launch} {D : va_G} {Λ : Lam} {σ : Mem} {r : Nat → Nat} {a1 : Int} {P : Int → Mem → Prop} (h : ∀ x : Cx, xl x = l → xD x = D → X_M_collect x → N_M_collect_0 x P Λ σ r a1) : K_M_collect l D Λ σ r a1 P := Ct.of (by decide) rfl (Nat.le_of_ble_eq_true rfl) h
set_option maxHeartbeats 4000000 in
set_option maxRecDepth 100000 in
theorem u_M_collect_0 {x : Cx} (hx : X_M_collect x) {P : Int → Mem → Prop} {Λ : Lam} {σ : Mem} {r : Nat → Nat} {a1 : Int} (hL : LayM Λ r) (T : rng a1 ∧ ((a1 = 0 → K_M_collectYoung (xl x) (xD x) Λ σ r (fun σa2 => P (σa2.1 421 (r 0)) σa2)) ∧ (¬ a1 = 0 → K_M_collectFull (xl x) (xD x) Λ σ r (fun σa3 => P (σa3.1 421 (r 0)) σa3)))) : N_M_collect_0 x P Λ σ r a1 := by
  obtain ⟨hex, hb, hml, hown, hts, hr, hlk, hR, hnm, hAs, hNW⟩ := hx
  obtain ⟨hLM, hLA⟩ := hL
  refine ⟨(), fun hK hA ls H locs hl hP hS => ?_⟩
  refine lv_iload_n hex hb d_M_collect_0 rfl (lv_at hl 1 rfl) ?_
  obtain ⟨h1, T⟩ := T
  obtain ⟨T1, T2⟩ := T
  refine r_if_eq (a := a1) (tgt := 11) hex hb h1 d_M_collect_1 rfl (fun hc => ?_) (fun hc => ?_)
  · have T := T1 hc
    refine lv_aload_n hex hb d_M_collect_11 rfl (lv_at hl 0 rfl) ?_
    refine r_call (va_runV (As := []) (rest := []) ⟨hex, hb, hml, hown, hts⟩ (Ct.use T H.size) (cwV 0 hts (gdV bg_500 bg_502 bp_27 bg_4 bc_M_collectYoung) rfl rfl rfl hdV_M_collectYoung ⟨by rw [hR]; exact Nat.le_of_ble_eq_true rfl, by rw [hR]; exact Nat.le_of_ble_eq_true rfl⟩) (px_preV (ci := 4) hNW hK hP hLM rfl) rfl rfl hl.1 rfl (lv_room (Nat.le_of_ble_eq_true rfl)) d_M_collect_12 ⟨by rw [hR]; exact Nat.le_of_ble_eq_true rfl, by rw [hR]; exact Nat.le_of_ble_eq_true rfl⟩) hS hA hAs (fun v Λ1 σ1 H locs hp hP hK hA hS => ?_)
    obtain ⟨rfl, rfl, T⟩ := hp
    generalize σ1 = σa2 at hP T
    refine W.eq (g2 := F0 (xm x) 15 ls []) rfl ?_
    refine lv_aload_n hex hb d_M_collect_15 rfl (lv_at hl 0 rfl) ?_
    refine r_getI (ci := 4) (C := R_M) (T := F_M) (N := 22) hex hb hts (fun w h => List.mem_cons_of_mem _ (in_M w h)) hown hK hP hLM rfl 21 (by decide) (hts _ (List.mem_cons_of_mem _ bg_412)) (fun _ h9 => h9) rfl d_M_collect_16 ?_
    exact r_iret hex hb hr hlk hK hA hP hS ⟨_, rfl, rfl, T⟩ (Nat.zero_le _) (Nat.zero_le _) d_M_collect_19
  · have T := T2 hc
    refine lv_aload_n hex hb d_M_collect_4 rfl (lv_at hl 0 rfl) ?_
    refine r_call (va_runV (As := []) (rest := []) ⟨hex, hb, hml, hown, hts⟩ (Ct.use T H.size) (cwV 0 hts (gdV bg_464 bg_466 bp_18 bg_4 bc_M_collectFull) rfl rfl rfl hdV_M_collectFull ⟨by rw [hR]; exact Nat.le_of_ble_eq_true rfl, by rw [hR]; exact Nat.le_of_ble_eq_true rfl⟩) (px_preV (ci := 4) hNW hK hP hLM rfl) rfl rfl hl.1 rfl (lv_room (Nat.le_of_ble_eq_true rfl)) d_M_collect_5 ⟨by rw [hR]; exact Nat.le_of_ble_eq_true rfl, by rw [hR]; exact Nat.le_of_ble_eq_true rfl⟩) hS hA hAs (fun v Λ1 σ1 H locs hp hP hK hA hS => ?_)
    obtain ⟨rfl, rfl, T⟩ := hp
    generalize σ1 = σa3 at hP T
    refine W.eq (g2 := F0 (xm x) 8 ls []) rfl ?_
    refine lv_goto (tgt := 15) hex hb d_M_collect_8 rfl ?_
    refine lv_aload_n hex hb d_M_collect_15 rfl (lv_at hl 0 rfl) ?_
    refine r_getI (ci := 4) (C := R_M) (T := F_M) (N := 22) hex hb hts (fun w h => List.mem_cons_of_mem _ (in_M w h)) hown hK hP hLM rfl 21 (by decide) (hts _ (List.mem_cons_of_mem _ bg_412)) (fun _ h9 => h9) rfl d_M_collect_16 ?_
    exact r_iret hex hb hr hlk hK hA hP hS ⟨_, rfl, rfl, T⟩ (Nat.zero_le _) (Nat.zero_le _) d_M_collect_19
set_option maxRecDepth 100000 in
theorem w_M_collect {l : Launch} {D : va_G} {Λ : Lam} {σ : Mem} {r : Nat → Nat} {a1 : Int} {P : Int → Mem → Prop} (hL : LayM Λ r) (T : rng a1 ∧ ((a1 = 0 → K_M_collectYoung l D Λ σ r (fun σa2 => P (σa2.1 421 (r 0)) σa2)) ∧ (¬ a1 = 0 → K_M_collectFull l D Λ σ r (fun σa3 => P (σa3.1 421 (r 0)) σa3)))) : K_M_collect l D Λ σ r a1 P := e_M_collect (fun x hl hD hx => by subst hl; subst hD; exact u_M_collect_0 hx hL T)
-- DirtyCardHeapModel.cells(I)I
def rm_M_cells : Room := { frames := 0, cells := 0, slots := 0, locals := 0 }
abbrev X_M_cells (x : Cx) : Prop := CxOk x b_M_cells 4 wl_M_cells R_M (some .int) rm_M_cells "cells"
abbrev K_M_cells (l : Launch) (D : va_G) (Λ : Lam) (σ : Mem) (r : Nat → Nat) (a1 : Int) (P : Int → Mem → Prop) : Prop := Ct l D y_M_cells wl_M_cells rm_M_cells [.ref (r 0), .int (iI a1)] Λ σ (pI Λ P)
abbrev N_M_cells_0 (x : Cx) (P : Int → Mem → Prop) (Λ : Lam) (σ : Mem) (r : Nat → Nat) (a1 : Int) : Prop := AtG x (pI Λ P) 4 0 0 0 Λ σ [(0, .ref (r 0)), (1, .int (iI a1))] []
abbrev N_M_cells_4 (x : Cx) (P : Int → Mem → Prop) (Λ : Lam) (σ : Mem) (r : Nat → Nat) (i1 : Int) (i2 : Int) (i3 : Int) : Prop := AtG x (pI Λ P) 4 4 0 0 Λ σ [(0, .ref (r 0)), (1, .int (iI i1)), (2, .int (iI i2)), (3, .int (iI i3))] []
theorem e_M_cells {l : Launch} {D : va_G} {Λ : Lam} {σ : Mem} {r : Nat → Nat} {a1 : Int} {P : Int → Mem → Prop} (h : ∀ x : Cx, xl x = l → xD x = D → X_M_cells x → N_M_cells_0 x P Λ σ r a1) : K_M_cells l D Λ σ r a1 P := Ct.of (by decide) rfl (Nat.le_of_ble_eq_true rfl) h
set_option maxHeartbeats 4000000 in
set_option maxRecDepth 100000 in
theorem u_M_cells_0 {x : Cx} (hx : X_M_cells x) {P : Int → Mem → Prop} {Λ : Lam} {σ : Mem} {r : Nat → Nat} {a1 : Int} (hL : LayM Λ r) (T : N_M_cells_4 x P Λ σ r a1 0 0) : N_M_cells_0 x P Λ σ r a1 := by
  obtain ⟨hex, hb, hml, hown, hts, hr, hlk, hR, hnm, hAs, hNW⟩ := hx
  obtain ⟨hLM, hLA⟩ := hL
  refine ⟨(), fun hK hA ls H locs hl hP hS => ?_⟩
  refine lv_iconst (v := iI 0) hex hb d_M_cells_0 rfl ?_
  refine lv_istore_n (lv' := [(2, .int (iI 0)), (0, .ref (r 0)), (1, .int (iI a1))]) hex hb d_M_cells_1 rfl hl (Nat.le_of_ble_eq_true rfl) rfl (fun ls hl => ?_)
  refine lv_iconst (v := iI 0) hex hb d_M_cells_2 rfl ?_
  refine lv_istore_n (lv' := [(3, .int (iI 0)), (2, .int (iI 0)), (0, .ref (r 0)), (1, .int (iI a1))]) hex hb d_M_cells_3 rfl hl (Nat.le_of_ble_eq_true rfl) rfl (fun ls hl => ?_)
  exact AtG.use T hK hA _ _ _ (lv_sub hl [2, 3, 1, 0] rfl) hP hS
set_option maxHeartbeats 4000000 in
set_option maxRecDepth 100000 in
theorem u_M_cells_4 {x : Cx} (hx : X_M_cells x) {P : Int → Mem → Prop} {Λ : Lam} {σ : Mem} {r : Nat → Nat} {i1 : Int} {i2 : Int} {i3 : Int} (hL : LayM Λ r) (T : rng i3 ∧ ((90 ≤ i3 → P i2 σ) ∧ (¬ 90 ≤ i3 → 0 ≤ i3 ∧ i3 < (90 : Int) ∧ rng (σ.2.1 1 (r 1) i3.toNat) ∧ rng i1 ∧ ((¬ (σ.2.1 1 (r 1) i3.toNat) = i1 → N_M_cells_4 x P Λ σ r i1 i2 (i3 + 1)) ∧ ((σ.2.1 1 (r 1) i3.toNat) = i1 → 0 ≤ i3 ∧ i3 < (90 : Int) ∧ N_M_cells_4 x P Λ σ r i1 ((i2 + 1) + (σ.2.1 3 (r 3) i3.toNat)) (i3 + 1)))))) : N_M_cells_4 x P Λ σ r i1 i2 i3 := by
  obtain ⟨hex, hb, hml, hown, hts, hr, hlk, hR, hnm, hAs, hNW⟩ := hx
  obtain ⟨hLM, hLA⟩ := hL
  refine ⟨(), fun hK hA ls H locs hl hP hS => ?_⟩
  refine lv_iload_n hex hb d_M_cells_4 rfl (lv_at hl 3 rfl) ?_
  refine lv_bipush (v := iI 90) hex hb d_M_cells_5 rfl ?_
  obtain ⟨h1, T⟩ := T
  obtain ⟨T1, T2⟩ := T
  refine r_icmp_ge (a := i3) (b := 90) (tgt := 41) hex hb h1 ⟨by omega, by omega⟩ d_M_cells_7 rfl (fun hc => ?_) (fun hc => ?_)
  · have T := T1 hc
    refine lv_iload_n hex hb d_M_cells_41 rfl (lv_at hl 2 rfl) ?_
    exact r_iret hex hb hr hlk hK hA hP hS ⟨_, rfl, rfl, T⟩ (Nat.zero_le _) (Nat.zero_le _) d_M_cells_42
  · have T := T2 hc
    refine lv_aload_n hex hb d_M_cells_10 rfl (lv_at hl 0 rfl) ?_
    refine r_getR (ci := 4) (C := R_M) (T := F_M) (N := 22) hex hb hts (fun w h => List.mem_cons_of_mem _ (in_M w h)) hown hK hP hLM rfl 0 (by decide) (hts _ (List.mem_cons_of_mem _ bg_391)) (fun _ h9 => h9) rfl d_M_cells_11 ?_
    refine lv_iload_n hex hb d_M_cells_14 rfl (lv_at hl 3 rfl) ?_
    obtain ⟨h2, T⟩ := T
    obtain ⟨h3, T⟩ := T
    refine r_iald hex hb hK hP (hLA 1 90 (by decide)).choose_spec (by decide) (by decide) h2 h3 d_M_cells_15 ?_
    refine lv_iload_n hex hb d_M_cells_16 rfl (lv_at hl 1 rfl) ?_
    obtain ⟨h4, T⟩ := T
    obtain ⟨h5, T⟩ := T
    obtain ⟨T1, T2⟩ := T
    refine r_icmp_ne (a := σ.2.1 1 (r 1) i3.toNat) (b := i1) (tgt := 33) hex hb h4 h5 d_M_cells_17 rfl (fun hc => ?_) (fun hc => ?_)
    · have T := T1 hc
      refine lv_iload_n hex hb d_M_cells_33 rfl (lv_at hl 2 rfl) ?_
      refine lv_istore_n (lv' := [(2, .int (iI i2)), (0, .ref (r 0)), (1, .int (iI i1)), (3, .int (iI i3))]) hex hb d_M_cells_34 rfl hl (Nat.le_of_ble_eq_true rfl) rfl (fun ls hl => ?_)
      refine lv_iinc (v := iI (i3 + 1)) (lv' := [(3, .int (iI (i3 + 1))), (2, .int (iI i2)), (0, .ref (r 0)), (1, .int (iI i1))]) hex hb d_M_cells_35 hl (k := 3) rfl (iI_add _ _) (Nat.le_of_ble_eq_true rfl) rfl (fun ls hl => ?_)
      refine lv_goto (tgt := 4) hex hb d_M_cells_38 rfl ?_
      exact AtG.use T hK hA _ _ _ (lv_sub hl [2, 3, 1, 0] rfl) hP hS
    · have T := T2 hc
      refine lv_iload_n hex hb d_M_cells_20 rfl (lv_at hl 2 rfl) ?_
      refine lv_iconst (v := iI 1) hex hb d_M_cells_21 rfl ?_
      refine r_iadd hex hb d_M_cells_22 ?_
      refine lv_aload_n hex hb d_M_cells_23 rfl (lv_at hl 0 rfl) ?_
      refine r_getR (ci := 4) (C := R_M) (T := F_M) (N := 22) hex hb hts (fun w h => List.mem_cons_of_mem _ (in_M w h)) hown hK hP hLM rfl 2 (by decide) (hts _ (List.mem_cons_of_mem _ bg_393)) (fun _ h9 => h9) rfl d_M_cells_24 ?_
      refine lv_iload_n hex hb d_M_cells_27 rfl (lv_at hl 3 rfl) ?_
      obtain ⟨h6, T⟩ := T
      obtain ⟨h7, T⟩ := T
      refine r_iald hex hb hK hP (hLA 3 90 (by decide)).choose_spec (by decide) (by decide) h6 h7 d_M_cells_28 ?_
      refine r_iadd hex hb d_M_cells_29 ?_
      refine lv_goto (tgt := 34) hex hb d_M_cells_30 rfl ?_
      refine lv_istore_n (lv' := [(2, .int (iI ((i2 + 1) + (σ.2.1 3 (r 3) i3.toNat)))), (0, .ref (r 0)), (1, .int (iI i1)), (3, .int (iI i3))]) hex hb d_M_cells_34 rfl hl (Nat.le_of_ble_eq_true rfl) rfl (fun ls hl => ?_)
      refine lv_iinc (v := iI (i3 + 1)) (lv' := [(3, .int (iI (i3 + 1))), (2, .int (iI ((i2 + 1) + (σ.2.1 3 (r 3) i3.toNat)))), (0, .ref (r 0)), (1, .int (iI i1))]) hex hb d_M_cells_35 hl (k := 3) rfl (iI_add _ _) (Nat.le_of_ble_eq_true rfl) rfl (fun ls hl => ?_)
      refine lv_goto (tgt := 4) hex hb d_M_cells_38 rfl ?_
      exact AtG.use T hK hA _ _ _ (lv_sub hl [2, 3, 1, 0] rfl) hP hS
-- DirtyCardHeapModel.oldCells()I
def rm_M_oldCells : Room := { frames := 1, cells := 0, slots := 0, locals := 23 }
abbrev X_M_oldCells (x : Cx) : Prop := CxOk x b_M_oldCells 1 wl_M_oldCells R_M (some .int) rm_M_oldCells "oldCells"
abbrev K_M_oldCells (l : Launch) (D : va_G) (Λ : Lam) (σ : Mem) (r : Nat → Nat) (P : Int → Mem → Prop) : Prop := Ct l D y_M_oldCells wl_M_oldCells rm_M_oldCells [.ref (r 0)] Λ σ (pI Λ P)
abbrev N_M_oldCells_0 (x : Cx) (P : Int → Mem → Prop) (Λ : Lam) (σ : Mem) (r : Nat → Nat) : Prop := AtG x (pI Λ P) 1 0 0 0 Λ σ [(0, .ref (r 0))] []
theorem e_M_oldCells {l : Launch} {D : va_G} {Λ : Lam} {σ : Mem} {r : Nat → Nat} {P : Int → Mem → Prop} (h : ∀ x : Cx, xl x = l → xD x = D → X_M_oldCells x → N_M_oldCells_0 x P Λ σ r) : K_M_oldCells l D Λ σ r P := Ct.of (by decide) rfl (Nat.le_of_ble_eq_true rfl) h
set_option maxHeartbeats 4000000 in
set_option maxRecDepth 100000 in
theorem u_M_oldCells_0 {x : Cx} (hx : X_M_oldCells x) {P : Int → Mem → Prop} {Λ : Lam} {σ : Mem} {r : Nat → Nat} (hL : LayM Λ r) (T : K_M_cells (xl x) (xD x) Λ σ r 2 (fun z1 σa1 => P z1 σa1)) : N_M_oldCells_0 x P Λ σ r := by
  obtain ⟨hex, hb, hml, hown, hts, hr, hlk, hR, hnm, hAs, hNW⟩ := hx
  obtain ⟨hLM, hLA⟩ := hL
  refine ⟨(), fun hK hA ls H locs hl hP hS => ?_⟩
  refine lv_aload_n hex hb d_M_oldCells_0 rfl (lv_at hl 0 rfl) ?_
  refine lv_iconst (v := iI 2) hex hb d_M_oldCells_1 rfl ?_
  refine r_call (va_runV (As := [.int (iI 2)]) (rest := []) ⟨hex, hb, hml, hown, hts⟩ (Ct.use T H.size) (cwV 1 hts (gdV bg_527 bg_529 bp_31 bg_4 bc_M_cells) rfl rfl rfl hdV_M_cells ⟨by rw [hR]; exact Nat.le_of_ble_eq_true rfl, by rw [hR]; exact Nat.le_of_ble_eq_true rfl⟩) (px_preV (ci := 4) hNW hK hP hLM rfl) rfl rfl hl.1 rfl (lv_room (Nat.le_of_ble_eq_true rfl)) d_M_oldCells_2 ⟨by rw [hR]; exact Nat.le_of_ble_eq_true rfl, by rw [hR]; exact Nat.le_of_ble_eq_true rfl⟩) hS hA hAs (fun v Λ1 σ1 H locs hp hP hK hA hS => ?_)
  obtain ⟨z1, rfl, rfl, T⟩ := hp
  generalize σ1 = σa1 at hP T
  refine W.eq (g2 := F0 (xm x) 5 ls [.int (iI z1)]) rfl ?_
  exact r_iret hex hb hr hlk hK hA hP hS ⟨_, rfl, rfl, T⟩ (Nat.zero_le _) (Nat.zero_le _) d_M_oldCells_5
set_option maxRecDepth 100000 in
theorem w_M_oldCells {l : Launch} {D : va_G} {Λ : Lam} {σ : Mem} {r : Nat → Nat} {P : Int → Mem → Prop} (hL : LayM Λ r) (T : K_M_cells l D Λ σ r 2 (fun z1 σa1 => P z1 σa1)) : K_M_oldCells l D Λ σ r P := e_M_oldCells (fun x hl hD hx => by subst hl; subst hD; exact u_M_oldCells_0 hx hL T)
-- DirtyCardHeapModel.youngCells()I
def rm_M_youngCells : Room := { frames := 1, cells := 0, slots := 0, locals := 23 }
abbrev X_M_youngCells (x : Cx) : Prop := CxOk x b_M_youngCells 1 wl_M_youngCells R_M (some .int) rm_M_youngCells "youngCells"
abbrev K_M_youngCells (l : Launch) (D : va_G) (Λ : Lam) (σ : Mem) (r : Nat → Nat) (P : Int → Mem → Prop) : Prop := Ct l D y_M_youngCells wl_M_youngCells rm_M_youngCells [.ref (r 0)] Λ σ (pI Λ P)
abbrev N_M_youngCells_0 (x : Cx) (P : Int → Mem → Prop) (Λ : Lam) (σ : Mem) (r : Nat → Nat) : Prop := AtG x (pI Λ P) 1 0 0 0 Λ σ [(0, .ref (r 0))] []
theorem e_M_youngCells {l : Launch} {D : va_G} {Λ : Lam} {σ : Mem} {r : Nat → Nat} {P : Int → Mem → Prop} (h : ∀ x : Cx, xl x = l → xD x = D → X_M_youngCells x → N_M_youngCells_0 x P Λ σ r) : K_M_youngCells l D Λ σ r P := Ct.of (by decide) rfl (Nat.le_of_ble_eq_true rfl) h
set_option maxHeartbeats 4000000 in
set_option maxRecDepth 100000 in
theorem u_M_youngCells_0 {x : Cx} (hx : X_M_youngCells x) {P : Int → Mem → Prop} {Λ : Lam} {σ : Mem} {r : Nat → Nat} (hL : LayM Λ r) (T : K_M_cells (xl x) (xD x) Λ σ r 1 (fun z1 σa1 => P z1 σa1)) : N_M_youngCells_0 x P Λ σ r := by
  obtain ⟨hex, hb, hml, hown, hts, hr, hlk, hR, hnm, hAs, hNW⟩ := hx
  obtain ⟨hLM, hLA⟩ := hL
  refine ⟨(), fun hK hA ls H locs hl hP hS => ?_⟩
  refine lv_aload_n hex hb d_M_youngCells_0 rfl (lv_at hl 0 rfl) ?_
  refine lv_iconst (v := iI 1) hex hb d_M_youngCells_1 rfl ?_
  refine r_call (va_runV (As := [.int (iI 1)]) (rest := []) ⟨hex, hb, hml, hown, hts⟩ (Ct.use T H.size) (cwV 1 hts (gdV bg_527 bg_529 bp_31 bg_4 bc_M_cells) rfl rfl rfl hdV_M_cells ⟨by rw [hR]; exact Nat.le_of_ble_eq_true rfl, by rw [hR]; exact Nat.le_of_ble_eq_true rfl⟩) (px_preV (ci := 4) hNW hK hP hLM rfl) rfl rfl hl.1 rfl (lv_room (Nat.le_of_ble_eq_true rfl)) d_M_youngCells_2 ⟨by rw [hR]; exact Nat.le_of_ble_eq_true rfl, by rw [hR]; exact Nat.le_of_ble_eq_true rfl⟩) hS hA hAs (fun v Λ1 σ1 H locs hp hP hK hA hS => ?_)
  obtain ⟨z1, rfl, rfl, T⟩ := hp
  generalize σ1 = σa1 at hP T
  refine W.eq (g2 := F0 (xm x) 5 ls [.int (iI z1)]) rfl ?_
  exact r_iret hex hb hr hlk hK hA hP hS ⟨_, rfl, rfl, T⟩ (Nat.zero_le _) (Nat.zero_le _) d_M_youngCells_5
set_option maxRecDepth 100000 in
theorem w_M_youngCells {l : Launch} {D : va_G} {Λ : Lam} {σ : Mem} {r : Nat → Nat} {P : Int → Mem → Prop} (hL : LayM Λ r) (T : K_M_cells l D Λ σ r 1 (fun z1 σa1 => P z1 σa1)) : K_M_youngCells l D Λ σ r P := e_M_youngCells (fun x hl hD hx => by subst hl; subst hD; exact u_M_youngCells_0 hx hL T)
