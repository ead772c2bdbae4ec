-- DirtyCardHeapModel.isRoot(I)Z
def rm_M_isRoot : Room := { frames := 0, cells := 0, slots := 0, locals := 0 }
abbrev X_M_isRoot (x : Cx) : Prop := CxOk x b_M_isRoot 1 wl_M_isRoot R_M (some .boolean) rm_M_isRoot "isRoot"
abbrev K_M_isRoot (l : Launch) (D : va_G) (Λ : Lam) (σ : Mem) (a1 : Int) (P : Int → Mem → Prop) : Prop := Ct l D y_M_isRoot wl_M_isRoot rm_M_isRoot [.int (iI a1)] Λ σ (pI Λ P)
abbrev N_M_isRoot_0 (x : Cx) (P : Int → Mem → Prop) (Λ : Lam) (σ : Mem) (a1 : Int) : Prop := AtG x (pI Λ P) 1 0 0 0 Λ σ [(0, .int (iI a1))] []
theorem e_M_isRoot {l : Launch} {D : va_G} {Λ : Lam} {σ : Mem} {a1 : Int} {P : Int → Mem → Prop} (h : ∀ x : Cx, xl x = l → xD x = D → X_M_isRoot x → N_M_isRoot_0 x P Λ σ a1) : K_M_isRoot l D Λ σ a1 P := Ct.of (by decide) rfl (Nat.le_of_ble_eq_true rfl) h
set_option maxHeartbeats 4000000 in
set_option maxRecDepth 100000 in
theorem u_M_isRoot_0 {x : Cx} (hx : X_M_isRoot x) {P : Int → Mem → Prop} {Λ : Lam} {σ : Mem} {a1 : Int} (T : rng a1 ∧ ((a1 < 0 → P 0 σ) ∧ (¬ a1 < 0 → ((6 ≤ a1 → P 0 σ) ∧ (¬ 6 ≤ a1 → P 1 σ))))) : N_M_isRoot_0 x P Λ σ a1 := by
  obtain ⟨hex, hb, hml, hown, hts, hr, hlk, hR, hnm, hAs, hNW⟩ := hx
  refine ⟨(), fun hK hA ls H locs hl hP hS => ?_⟩
  refine lv_iload_n hex hb d_M_isRoot_0 rfl (lv_at hl 0 rfl) ?_
  obtain ⟨h1, T⟩ := T
  obtain ⟨T1, T2⟩ := T
  refine r_if_lt (a := a1) (tgt := 14) hex hb h1 d_M_isRoot_1 rfl (fun hc => ?_) (fun hc => ?_)
  · have T := T1 hc
    refine lv_iconst (v := iI 0) hex hb d_M_isRoot_14 rfl ?_
    exact r_zret hex hb hr hlk hK hA hP hS (by decide) ⟨_, rfl, rfl, T⟩ (Nat.zero_le _) (Nat.zero_le _) d_M_isRoot_15
  · have T := T2 hc
    refine lv_iload_n hex hb d_M_isRoot_4 rfl (lv_at hl 0 rfl) ?_
    refine lv_bipush (v := iI 6) hex hb d_M_isRoot_5 rfl ?_
    obtain ⟨T1, T2⟩ := T
    refine r_icmp_ge (a := a1) (b := 6) (tgt := 14) hex hb h1 ⟨by omega, by omega⟩ d_M_isRoot_7 rfl (fun hc => ?_) (fun hc => ?_)
    · have T := T1 hc
      refine lv_iconst (v := iI 0) hex hb d_M_isRoot_14 rfl ?_
      exact r_zret hex hb hr hlk hK hA hP hS (by decide) ⟨_, rfl, rfl, T⟩ (Nat.zero_le _) (Nat.zero_le _) d_M_isRoot_15
    · have T := T2 hc
      refine lv_iconst (v := iI 1) hex hb d_M_isRoot_10 rfl ?_
      refine lv_goto (tgt := 15) hex hb d_M_isRoot_11 rfl ?_
      exact r_zret hex hb hr hlk hK hA hP hS (by decide) ⟨_, rfl, rfl, T⟩ (Nat.zero_le _) (Nat.zero_le _) d_M_isRoot_15
set_option maxRecDepth 100000 in
theorem w_M_isRoot {l : Launch} {D : va_G} {Λ : Lam} {σ : Mem} {a1 : Int} {P : Int → Mem → Prop} (T : rng a1 ∧ ((a1 < 0 → P 0 σ) ∧ (¬ a1 < 0 → ((6 ≤ a1 → P 0 σ) ∧ (¬ 6 ≤ a1 → P 1 σ))))) : K_M_isRoot l D Λ σ a1 P := e_M_isRoot (fun x hl hD hx => by subst hl; subst hD; exact u_M_isRoot_0 hx  T)
-- DirtyCardHeapModel.isFree(I)Z
def rm_M_isFree : Room := { frames := 0, cells := 0, slots := 0, locals := 0 }
abbrev X_M_isFree (x : Cx) : Prop := CxOk x b_M_isFree 3 wl_M_isFree R_M (some .boolean) rm_M_isFree "isFree"
abbrev K_M_isFree (l : Launch) (D : va_G) (Λ : Lam) (σ : Mem) (r : Nat → Nat) (a1 : Int) (P : Int → Mem → Prop) : Prop := Ct l D y_M_isFree wl_M_isFree rm_M_isFree [.ref (r 0), .int (iI a1)] Λ σ (pI Λ P)
abbrev N_M_isFree_0 (x : Cx) (P : Int → Mem → Prop) (Λ : Lam) (σ : Mem) (r : Nat → Nat) (a1 : Int) : Prop := AtG x (pI Λ P) 3 0 0 0 Λ σ [(0, .ref (r 0)), (1, .int (iI a1))] []
abbrev N_M_isFree_2 (x : Cx) (P : Int → Mem → Prop) (Λ : Lam) (σ : Mem) (r : Nat → Nat) (i1 : Int) (i2 : Int) : Prop := AtG x (pI Λ P) 3 2 0 0 Λ σ [(0, .ref (r 0)), (1, .int (iI i1)), (2, .int (iI i2))] []
theorem e_M_isFree {l : Launch} {D : va_G} {Λ : Lam} {σ : Mem} {r : Nat → Nat} {a1 : Int} {P : Int → Mem → Prop} (h : ∀ x : Cx, xl x = l → xD x = D → X_M_isFree x → N_M_isFree_0 x P Λ σ r a1) : K_M_isFree l D Λ σ r a1 P := Ct.of (by decide) rfl (Nat.le_of_ble_eq_true rfl) h
set_option maxHeartbeats 4000000 in
set_option maxRecDepth 100000 in
theorem u_M_isFree_0 {x : Cx} (hx : X_M_isFree x) {P : Int → Mem → Prop} {Λ : Lam} {σ : Mem} {r : Nat → Nat} {a1 : Int} (hL : LayM Λ r) (T : N_M_isFree_2 x P Λ σ r a1 0) : N_M_isFree_0 x P Λ σ r a1 := by
  obtain ⟨hex, hb, hml, hown, hts, hr, hlk, hR, hnm, hAs, hNW⟩ := hx
  obtain ⟨hLM, hLA⟩ := hL
  refine ⟨(), fun hK hA ls H locs hl hP hS => ?_⟩
  refine lv_iconst (v := iI 0) hex hb d_M_isFree_0 rfl ?_
  refine lv_istore_n (lv' := [(2, .int (iI 0)), (0, .ref (r 0)), (1, .int (iI a1))]) hex hb d_M_isFree_1 rfl hl (Nat.le_of_ble_eq_true rfl) rfl (fun ls hl => ?_)
  exact AtG.use T hK hA _ _ _ (lv_sub hl [1, 2, 0] rfl) hP hS
set_option maxHeartbeats 4000000 in
set_option maxRecDepth 100000 in
theorem u_M_isFree_2 {x : Cx} (hx : X_M_isFree x) {P : Int → Mem → Prop} {Λ : Lam} {σ : Mem} {r : Nat → Nat} {i1 : Int} {i2 : Int} (hL : LayM Λ r) (T : rng i2 ∧ ((90 ≤ i2 → P 1 σ) ∧ (¬ 90 ≤ i2 → 0 ≤ i2 ∧ i2 < (90 : Int) ∧ rng (σ.2.1 1 (r 1) i2.toNat) ∧ ((¬ (σ.2.1 1 (r 1) i2.toNat) = 2 → N_M_isFree_2 x P Λ σ r i1 (i2 + 1)) ∧ ((σ.2.1 1 (r 1) i2.toNat) = 2 → 0 ≤ i2 ∧ i2 < (90 : Int) ∧ rng i1 ∧ rng (σ.2.1 6 (r 6) i2.toNat) ∧ ((i1 < (σ.2.1 6 (r 6) i2.toNat) → N_M_isFree_2 x P Λ σ r i1 (i2 + 1)) ∧ (¬ i1 < (σ.2.1 6 (r 6) i2.toNat) → 0 ≤ i2 ∧ i2 < (90 : Int) ∧ 0 ≤ i2 ∧ i2 < (90 : Int) ∧ rng ((σ.2.1 6 (r 6) i2.toNat) + (σ.2.1 3 (r 3) i2.toNat)) ∧ ((((σ.2.1 6 (r 6) i2.toNat) + (σ.2.1 3 (r 3) i2.toNat)) < i1 → N_M_isFree_2 x P Λ σ r i1 (i2 + 1)) ∧ (¬ ((σ.2.1 6 (r 6) i2.toNat) + (σ.2.1 3 (r 3) i2.toNat)) < i1 → P 0 σ))))))))) : N_M_isFree_2 x P Λ σ r i1 i2 := by
  obtain ⟨hex, hb, hml, hown, hts, hr, hlk, hR, hnm, hAs, hNW⟩ := hx
  obtain ⟨hLM, hLA⟩ := hL
  refine ⟨(), fun hK hA ls H locs hl hP hS => ?_⟩
  refine lv_iload_n hex hb d_M_isFree_2 rfl (lv_at hl 2 rfl) ?_
  refine lv_bipush (v := iI 90) hex hb d_M_isFree_3 rfl ?_
  obtain ⟨h1, T⟩ := T
  obtain ⟨T1, T2⟩ := T
  refine r_icmp_ge (a := i2) (b := 90) (tgt := 53) hex hb h1 ⟨by omega, by omega⟩ d_M_isFree_5 rfl (fun hc => ?_) (fun hc => ?_)
  · have T := T1 hc
    refine lv_iconst (v := iI 1) hex hb d_M_isFree_53 rfl ?_
    exact r_zret hex hb hr hlk hK hA hP hS (by decide) ⟨_, rfl, rfl, T⟩ (Nat.zero_le _) (Nat.zero_le _) d_M_isFree_54
  · have T := T2 hc
    refine lv_aload_n hex hb d_M_isFree_8 rfl (lv_at hl 0 rfl) ?_
    refine r_getR (ci := 4) (C := R_M) (T := F_M) (N := 22) hex hb hts (fun w h => List.mem_cons_of_mem _ (in_M w h)) hown hK hP hLM rfl 0 (by decide) (hts _ (List.mem_cons_of_mem _ bg_391)) (fun _ h9 => h9) rfl d_M_isFree_9 ?_
    refine lv_iload_n hex hb d_M_isFree_12 rfl (lv_at hl 2 rfl) ?_
    obtain ⟨h2, T⟩ := T
    obtain ⟨h3, T⟩ := T
    refine r_iald hex hb hK hP (hLA 1 90 (by decide)).choose_spec (by decide) (by decide) h2 h3 d_M_isFree_13 ?_
    refine lv_iconst (v := iI 2) hex hb d_M_isFree_14 rfl ?_
    obtain ⟨h4, T⟩ := T
    obtain ⟨T1, T2⟩ := T
    refine r_icmp_ne (a := σ.2.1 1 (r 1) i2.toNat) (b := 2) (tgt := 47) hex hb h4 ⟨by omega, by omega⟩ d_M_isFree_15 rfl (fun hc => ?_) (fun hc => ?_)
    · have T := T1 hc
      refine lv_iinc (v := iI (i2 + 1)) (lv' := [(2, .int (iI (i2 + 1))), (0, .ref (r 0)), (1, .int (iI i1))]) hex hb d_M_isFree_47 hl (k := 2) rfl (iI_add _ _) (Nat.le_of_ble_eq_true rfl) rfl (fun ls hl => ?_)
      refine lv_goto (tgt := 2) hex hb d_M_isFree_50 rfl ?_
      exact AtG.use T hK hA _ _ _ (lv_sub hl [1, 2, 0] rfl) hP hS
    · have T := T2 hc
      refine lv_iload_n hex hb d_M_isFree_18 rfl (lv_at hl 1 rfl) ?_
      refine lv_aload_n hex hb d_M_isFree_19 rfl (lv_at hl 0 rfl) ?_
      refine r_getR (ci := 4) (C := R_M) (T := F_M) (N := 22) hex hb hts (fun w h => List.mem_cons_of_mem _ (in_M w h)) hown hK hP hLM rfl 5 (by decide) (hts _ (List.mem_cons_of_mem _ bg_396)) (fun _ h9 => h9) rfl d_M_isFree_20 ?_
      refine lv_iload_n hex hb d_M_isFree_23 rfl (lv_at hl 2 rfl) ?_
      obtain ⟨h5, T⟩ := T
      obtain ⟨h6, T⟩ := T
      refine r_iald hex hb hK hP (hLA 6 90 (by decide)).choose_spec (by decide) (by decide) h5 h6 d_M_isFree_24 ?_
      obtain ⟨h7, T⟩ := T
      obtain ⟨h8, T⟩ := T
      obtain ⟨T1, T2⟩ := T
      refine r_icmp_lt (a := i1) (b := σ.2.1 6 (r 6) i2.toNat) (tgt := 47) hex hb h7 h8 d_M_isFree_25 rfl (fun hc => ?_) (fun hc => ?_)
      · have T := T1 hc
        refine lv_iinc (v := iI (i2 + 1)) (lv' := [(2, .int (iI (i2 + 1))), (0, .ref (r 0)), (1, .int (iI i1))]) hex hb d_M_isFree_47 hl (k := 2) rfl (iI_add _ _) (Nat.le_of_ble_eq_true rfl) rfl (fun ls hl => ?_)
        refine lv_goto (tgt := 2) hex hb d_M_isFree_50 rfl ?_
        exact AtG.use T hK hA _ _ _ (lv_sub hl [1, 2, 0] rfl) hP hS
      · have T := T2 hc
        refine lv_iload_n hex hb d_M_isFree_28 rfl (lv_at hl 1 rfl) ?_
        refine lv_aload_n hex hb d_M_isFree_29 rfl (lv_at hl 0 rfl) ?_
        refine r_getR (ci := 4) (C := R_M) (T := F_M) (N := 22) hex hb hts (fun w h => List.mem_cons_of_mem _ (in_M w h)) hown hK hP hLM rfl 5 (by decide) (hts _ (List.mem_cons_of_mem _ bg_396)) (fun _ h9 => h9) rfl d_M_isFree_30 ?_
        refine lv_iload_n hex hb d_M_isFree_33 rfl (lv_at hl 2 rfl) ?_
        obtain ⟨h9, T⟩ := T
        obtain ⟨h10, T⟩ := T
        refine r_iald hex hb hK hP (hLA 6 90 (by decide)).choose_spec (by decide) (by decide) h9 h10 d_M_isFree_34 ?_
        refine lv_aload_n hex hb d_M_isFree_35 rfl (lv_at hl 0 rfl) ?_
        refine r_getR (ci := 4) (C := R_M) (T := F_M) (N := 22) hex hb hts (fun w h => List.mem_cons_of_mem _ (in_M w h)) hown hK hP hLM rfl 2 (by decide) (hts _ (List.mem_cons_of_mem _ bg_393)) (fun _ h9 => h9) rfl d_M_isFree_36 ?_
        refine lv_iload_n hex hb d_M_isFree_39 rfl (lv_at hl 2 rfl) ?_
        obtain ⟨h11, T⟩ := T
        obtain ⟨h12, T⟩ := T
        refine r_iald hex hb hK hP (hLA 3 90 (by decide)).choose_spec (by decide) (by decide) h11 h12 d_M_isFree_40 ?_
        refine r_iadd hex hb d_M_isFree_41 ?_
        obtain ⟨h13, T⟩ := T
        obtain ⟨T1, T2⟩ := T
        refine r_icmp_gt (a := i1) (b := (σ.2.1 6 (r 6) i2.toNat) + (σ.2.1 3 (r 3) i2.toNat)) (tgt := 47) hex hb h7 h13 d_M_isFree_42 rfl (fun hc => ?_) (fun hc => ?_)
        · have T := T1 hc
          refine lv_iinc (v := iI (i2 + 1)) (lv' := [(2, .int (iI (i2 + 1))), (0, .ref (r 0)), (1, .int (iI i1))]) hex hb d_M_isFree_47 hl (k := 2) rfl (iI_add _ _) (Nat.le_of_ble_eq_true rfl) rfl (fun ls hl => ?_)
          refine lv_goto (tgt := 2) hex hb d_M_isFree_50 rfl ?_
          exact AtG.use T hK hA _ _ _ (lv_sub hl [1, 2, 0] rfl) hP hS
        · have T := T2 hc
          refine lv_iconst (v := iI 0) hex hb d_M_isFree_45 rfl ?_
          exact r_zret hex hb hr hlk hK hA hP hS (by decide) ⟨_, rfl, rfl, T⟩ (Nat.zero_le _) (Nat.zero_le _) d_M_isFree_46
-- DirtyCardHeapModel.place(I)I
def rm_M_place : Room := { frames := 1, cells := 0, slots := 0, locals := 22 }
abbrev X_M_place (x : Cx) : Prop := CxOk x b_M_place 4 wl_M_place R_M (some .int) rm_M_place "place"
abbrev K_M_place (l : Launch) (D : va_G) (Λ : Lam) (σ : Mem) (r : Nat → Nat) (a1 : Int) (P : Int → Mem → Prop) : Prop := Ct l D y_M_place wl_M_place rm_M_place [.ref (r 0), .int (iI a1)] Λ σ (pI Λ P)
abbrev N_M_place_0 (x : Cx) (P : Int → Mem → Prop) (Λ : Lam) (σ : Mem) (r : Nat → Nat) (a1 : Int) : Prop := AtG x (pI Λ P) 4 0 0 0 Λ σ [(0, .ref (r 0)), (1, .int (iI a1))] []
abbrev N_M_place_4 (x : Cx) (P : Int → Mem → Prop) (Λ : Lam) (σ : Mem) (r : Nat → Nat) (i1 : Int) (i2 : Int) (i3 : Int) : Prop := AtG x (pI Λ P) 4 4 0 0 Λ σ [(0, .ref (r 0)), (1, .int (iI i1)), (2, .int (iI i2)), (3, .int (iI i3))] []
abbrev N_M_place_25 (x : Cx) (P : Int → Mem → Prop) (Λ : Lam) (σ : Mem) (r : Nat → Nat) (i1 : Int) (i3 : Int) (s0 : Int) : Prop := AtG x (pI Λ P) 4 25 0 0 Λ σ [(0, .ref (r 0)), (1, .int (iI i1)), (3, .int (iI i3))] [.int (iI s0)]
theorem e_M_place {l : Launch} {D : va_G} {Λ : Lam} {σ : Mem} {r : Nat → Nat} {a1 : Int} {P : Int → Mem → Prop} (h : ∀ x : Cx, xl x = l → xD x = D → X_M_place x → N_M_place_0 x P Λ σ r a1) : K_M_place l D Λ σ r a1 P := Ct.of (by decide) rfl (Nat.le_of_ble_eq_true rfl) h
set_option maxHeartbeats 4000000 in
set_option maxRecDepth 100000 in
theorem u_M_place_0 {x : Cx} (hx : X_M_place x) {P : Int → Mem → Prop} {Λ : Lam} {σ : Mem} {r : Nat → Nat} {a1 : Int} (hL : LayM Λ r) (T : N_M_place_4 x P Λ σ r a1 0 0) : N_M_place_0 x P Λ σ r a1 := by
  obtain ⟨hex, hb, hml, hown, hts, hr, hlk, hR, hnm, hAs, hNW⟩ := hx
  obtain ⟨hLM, hLA⟩ := hL
  refine ⟨(), fun hK hA ls H locs hl hP hS => ?_⟩
  refine lv_iconst (v := iI 0) hex hb d_M_place_0 rfl ?_
  refine lv_istore_n (lv' := [(2, .int (iI 0)), (0, .ref (r 0)), (1, .int (iI a1))]) hex hb d_M_place_1 rfl hl (Nat.le_of_ble_eq_true rfl) rfl (fun ls hl => ?_)
  refine lv_iconst (v := iI 0) hex hb d_M_place_2 rfl ?_
  refine lv_istore_n (lv' := [(3, .int (iI 0)), (2, .int (iI 0)), (0, .ref (r 0)), (1, .int (iI a1))]) hex hb d_M_place_3 rfl hl (Nat.le_of_ble_eq_true rfl) rfl (fun ls hl => ?_)
  exact AtG.use T hK hA _ _ _ (lv_sub hl [2, 3, 1, 0] rfl) hP hS
set_option maxHeartbeats 4000000 in
set_option maxRecDepth 100000 in
theorem u_M_place_4 {x : Cx} (hx : X_M_place x) {P : Int → Mem → Prop} {Λ : Lam} {σ : Mem} {r : Nat → Nat} {i1 : Int} {i2 : Int} {i3 : Int} (hL : LayM Λ r) (T : rng i3 ∧ ((64 ≤ i3 → P (-1) σ) ∧ (¬ 64 ≤ i3 → K_M_isFree (xl x) (xD x) Λ σ r i3 (fun z2 σa2 => rng z2 ∧ ((z2 = 0 → N_M_place_25 x P Λ σa2 r i1 i3 0) ∧ (¬ z2 = 0 → N_M_place_25 x P Λ σa2 r i1 i3 (i2 + 1))))))) : N_M_place_4 x P Λ σ r i1 i2 i3 := by
  obtain ⟨hex, hb, hml, hown, hts, hr, hlk, hR, hnm, hAs, hNW⟩ := hx
  obtain ⟨hLM, hLA⟩ := hL
  refine ⟨(), fun hK hA ls H locs hl hP hS => ?_⟩
  refine lv_iload_n hex hb d_M_place_4 rfl (lv_at hl 3 rfl) ?_
  refine lv_bipush (v := iI 64) hex hb d_M_place_5 rfl ?_
  obtain ⟨h1, T⟩ := T
  obtain ⟨T1, T2⟩ := T
  refine r_icmp_ge (a := i3) (b := 64) (tgt := 43) hex hb h1 ⟨by omega, by omega⟩ d_M_place_7 rfl (fun hc => ?_) (fun hc => ?_)
  · have T := T1 hc
    refine lv_iconst (v := iI (-1)) hex hb d_M_place_43 rfl ?_
    exact r_iret hex hb hr hlk hK hA hP hS ⟨_, rfl, rfl, T⟩ (Nat.zero_le _) (Nat.zero_le _) d_M_place_44
  · have T := T2 hc
    refine lv_aload_n hex hb d_M_place_10 rfl (lv_at hl 0 rfl) ?_
    refine lv_iload_n hex hb d_M_place_11 rfl (lv_at hl 3 rfl) ?_
    refine r_call (va_runV (As := [.int (iI i3)]) (rest := []) ⟨hex, hb, hml, hown, hts⟩ (Ct.use T H.size) (cwV 1 hts (gdV bg_488 bg_490 bp_24 bg_4 bc_M_isFree) rfl rfl rfl hdV_M_isFree ⟨by rw [hR]; exact Nat.le_of_ble_eq_true rfl, by rw [hR]; exact Nat.le_of_ble_eq_true rfl⟩) (px_preV (ci := 4) hNW hK hP hLM rfl) rfl rfl hl.1 rfl (lv_room (Nat.le_of_ble_eq_true rfl)) d_M_place_12 ⟨by rw [hR]; exact Nat.le_of_ble_eq_true rfl, by rw [hR]; exact Nat.le_of_ble_eq_true rfl⟩) hS hA hAs (fun v Λ1 σ1 H locs hp hP hK hA hS => ?_)
    obtain ⟨z2, rfl, rfl, T⟩ := hp
    generalize σ1 = σa2 at hP T
    refine W.eq (g2 := F0 (xm x) 15 ls [.int (iI z2)]) rfl ?_
    obtain ⟨h3, T⟩ := T
    obtain ⟨T1, T2⟩ := T
    refine r_if_eq (a := z2) (tgt := 24) hex hb h3 d_M_place_15 rfl (fun hc => ?_) (fun hc => ?_)
    · have T := T1 hc
      refine lv_iconst (v := iI 0) hex hb d_M_place_24 rfl ?_
      exact AtG.use T hK hA _ _ _ (lv_sub hl [0, 1, 3] rfl) hP hS
    · have T := T2 hc
      refine lv_iload_n hex hb d_M_place_18 rfl (lv_at hl 2 rfl) ?_
      refine lv_iconst (v := iI 1) hex hb d_M_place_19 rfl ?_
      refine r_iadd hex hb d_M_place_20 ?_
      refine lv_goto (tgt := 25) hex hb d_M_place_21 rfl ?_
      exact AtG.use T hK hA _ _ _ (lv_sub hl [0, 1, 3] rfl) hP hS
set_option maxHeartbeats 4000000 in
set_option maxRecDepth 100000 in
theorem u_M_place_25 {x : Cx} (hx : X_M_place x) {P : Int → Mem → Prop} {Λ : Lam} {σ : Mem} {r : Nat → Nat} {i1 : Int} {i3 : Int} {s0 : Int} (hL : LayM Λ r) (T : rng s0 ∧ rng i1 ∧ ((¬ s0 = i1 → N_M_place_4 x P Λ σ r i1 s0 (i3 + 1)) ∧ (s0 = i1 → P ((i3 - i1) + 1) σ))) : N_M_place_25 x P Λ σ r i1 i3 s0 := by
  obtain ⟨hex, hb, hml, hown, hts, hr, hlk, hR, hnm, hAs, hNW⟩ := hx
  obtain ⟨hLM, hLA⟩ := hL
  refine ⟨(), fun hK hA ls H locs hl hP hS => ?_⟩
  refine lv_istore_n (lv' := [(2, .int (iI s0)), (0, .ref (r 0)), (1, .int (iI i1)), (3, .int (iI i3))]) hex hb d_M_place_25 rfl hl (Nat.le_of_ble_eq_true rfl) rfl (fun ls hl => ?_)
  refine lv_iload_n hex hb d_M_place_26 rfl (lv_at hl 0 rfl) ?_
  refine lv_iload_n hex hb d_M_place_27 rfl (lv_at hl 2 rfl) ?_
  obtain ⟨h1, T⟩ := T
  obtain ⟨h2, T⟩ := T
  obtain ⟨T1, T2⟩ := T
  refine r_icmp_ne (a := s0) (b := i1) (tgt := 37) hex hb h1 h2 d_M_place_28 rfl (fun hc => ?_) (fun hc => ?_)
  · have T := T1 hc
    refine lv_iinc (v := iI (i3 + 1)) (lv' := [(3, .int (iI (i3 + 1))), (2, .int (iI s0)), (0, .ref (r 0)), (1, .int (iI i1))]) hex hb d_M_place_37 hl (k := 3) rfl (iI_add _ _) (Nat.le_of_ble_eq_true rfl) rfl (fun ls hl => ?_)
    refine lv_goto (tgt := 4) hex hb d_M_place_40 rfl ?_
    exact AtG.use T hK hA _ _ _ (lv_sub hl [2, 3, 1, 0] rfl) hP hS
  · have T := T2 hc
    refine lv_iload_n hex hb d_M_place_31 rfl (lv_at hl 3 rfl) ?_
    refine lv_iload_n hex hb d_M_place_32 rfl (lv_at hl 2 rfl) ?_
    refine r_isub hex hb d_M_place_33 ?_
    refine lv_iconst (v := iI 1) hex hb d_M_place_34 rfl ?_
    refine r_iadd hex hb d_M_place_35 ?_
    exact r_iret hex hb hr hlk hK hA hP hS ⟨_, rfl, rfl, T⟩ (Nat.zero_le _) (Nat.zero_le _) d_M_place_36
-- DirtyCardHeapModel.lies(II)Z
def rm_M_lies : Room := { frames := 0, cells := 0, slots := 0, locals := 0 }
abbrev X_M_lies (x : Cx) : Prop := CxOk x b_M_lies 3 wl_M_lies R_M (some .boolean) rm_M_lies "lies"
abbrev K_M_lies (l : Launch) (D : va_G) (Λ : Lam) (σ : Mem) (r : Nat → Nat) (a1 : Int) (a2 : Int) (P : Int → Mem → Prop) : Prop := Ct l D y_M_lies wl_M_lies rm_M_lies [.ref (r 0), .int (iI a1), .int (iI a2)] Λ σ (pI Λ P)
abbrev N_M_lies_0 (x : Cx) (P : Int → Mem → Prop) (Λ : Lam) (σ : Mem) (r : Nat → Nat) (a1 : Int) (a2 : Int) : Prop := AtG x (pI Λ P) 3 0 0 0 Λ σ [(0, .ref (r 0)), (1, .int (iI a1)), (2, .int (iI a2))] []
theorem e_M_lies {l : Launch} {D : va_G} {Λ : Lam} {σ : Mem} {r : Nat → Nat} {a1 : Int} {a2 : Int} {P : Int → Mem → Prop} (h : ∀ x : Cx, xl x = l → xD x = D → X_M_lies x → N_M_lies_0 x P Λ σ r a1 a2) : K_M_lies l D Λ σ r a1 a2 P := Ct.of (by decide) rfl (Nat.le_of_ble_eq_true rfl) h
set_option maxHeartbeats 4000000 in
set_option maxRecDepth 100000 in
theorem u_M_lies_0 {x : Cx} (hx : X_M_lies x) {P : Int → Mem → Prop} {Λ : Lam} {σ : Mem} {r : Nat → Nat} {a1 : Int} {a2 : Int} (hL : LayM Λ r) (T : 0 ≤ a1 ∧ a1 < (90 : Int) ∧ rng (σ.2.1 1 (r 1) a1.toNat) ∧ ((¬ (σ.2.1 1 (r 1) a1.toNat) = 2 → P 0 σ) ∧ ((σ.2.1 1 (r 1) a1.toNat) = 2 → 0 ≤ a1 ∧ a1 < (90 : Int) ∧ rng (σ.2.1 6 (r 6) a1.toNat) ∧ rng ((8 * a2) + 8) ∧ ((((8 * a2) + 8) ≤ (σ.2.1 6 (r 6) a1.toNat) → P 0 σ) ∧ (¬ ((8 * a2) + 8) ≤ (σ.2.1 6 (r 6) a1.toNat) → 0 ≤ a1 ∧ a1 < (90 : Int) ∧ 0 ≤ a1 ∧ a1 < (90 : Int) ∧ rng ((σ.2.1 6 (r 6) a1.toNat) + (σ.2.1 3 (r 3) a1.toNat)) ∧ rng (8 * a2) ∧ ((((σ.2.1 6 (r 6) a1.toNat) + (σ.2.1 3 (r 3) a1.toNat)) < (8 * a2) → P 0 σ) ∧ (¬ ((σ.2.1 6 (r 6) a1.toNat) + (σ.2.1 3 (r 3) a1.toNat)) < (8 * a2) → P 1 σ))))))) : N_M_lies_0 x P Λ σ r a1 a2 := by
  obtain ⟨hex, hb, hml, hown, hts, hr, hlk, hR, hnm, hAs, hNW⟩ := hx
  obtain ⟨hLM, hLA⟩ := hL
  refine ⟨(), fun hK hA ls H locs hl hP hS => ?_⟩
  refine lv_aload_n hex hb d_M_lies_0 rfl (lv_at hl 0 rfl) ?_
  refine r_getR (ci := 4) (C := R_M) (T := F_M) (N := 22) hex hb hts (fun w h => List.mem_cons_of_mem _ (in_M w h)) hown hK hP hLM rfl 0 (by decide) (hts _ (List.mem_cons_of_mem _ bg_391)) (fun _ h9 => h9) rfl d_M_lies_1 ?_
  refine lv_iload_n hex hb d_M_lies_4 rfl (lv_at hl 1 rfl) ?_
  obtain ⟨h1, T⟩ := T
  obtain ⟨h2, T⟩ := T
  refine r_iald hex hb hK hP (hLA 1 90 (by decide)).choose_spec (by decide) (by decide) h1 h2 d_M_lies_5 ?_
  refine lv_iconst (v := iI 2) hex hb d_M_lies_6 rfl ?_
  obtain ⟨h3, T⟩ := T
  obtain ⟨T1, T2⟩ := T
  refine r_icmp_ne (a := σ.2.1 1 (r 1) a1.toNat) (b := 2) (tgt := 50) hex hb h3 ⟨by omega, by omega⟩ d_M_lies_7 rfl (fun hc => ?_) (fun hc => ?_)
  · have T := T1 hc
    refine lv_iconst (v := iI 0) hex hb d_M_lies_50 rfl ?_
    exact r_zret hex hb hr hlk hK hA hP hS (by decide) ⟨_, rfl, rfl, T⟩ (Nat.zero_le _) (Nat.zero_le _) d_M_lies_51
  · have T := T2 hc
    refine lv_aload_n hex hb d_M_lies_10 rfl (lv_at hl 0 rfl) ?_
    refine r_getR (ci := 4) (C := R_M) (T := F_M) (N := 22) hex hb hts (fun w h => List.mem_cons_of_mem _ (in_M w h)) hown hK hP hLM rfl 5 (by decide) (hts _ (List.mem_cons_of_mem _ bg_396)) (fun _ h9 => h9) rfl d_M_lies_11 ?_
    refine lv_iload_n hex hb d_M_lies_14 rfl (lv_at hl 1 rfl) ?_
    obtain ⟨h4, T⟩ := T
    obtain ⟨h5, T⟩ := T
    refine r_iald hex hb hK hP (hLA 6 90 (by decide)).choose_spec (by decide) (by decide) h4 h5 d_M_lies_15 ?_
    refine lv_bipush (v := iI 8) hex hb d_M_lies_16 rfl ?_
    refine lv_iload_n hex hb d_M_lies_18 rfl (lv_at hl 2 rfl) ?_
    refine r_imul hex hb d_M_lies_19 ?_
    refine lv_bipush (v := iI 8) hex hb d_M_lies_20 rfl ?_
    refine r_iadd hex hb d_M_lies_22 ?_
    obtain ⟨h6, T⟩ := T
    obtain ⟨h7, T⟩ := T
    obtain ⟨T1, T2⟩ := T
    refine r_icmp_ge (a := σ.2.1 6 (r 6) a1.toNat) (b := (8 * a2) + 8) (tgt := 50) hex hb h6 h7 d_M_lies_23 rfl (fun hc => ?_) (fun hc => ?_)
    · have T := T1 hc
      refine lv_iconst (v := iI 0) hex hb d_M_lies_50 rfl ?_
      exact r_zret hex hb hr hlk hK hA hP hS (by decide) ⟨_, rfl, rfl, T⟩ (Nat.zero_le _) (Nat.zero_le _) d_M_lies_51
    · have T := T2 hc
      refine lv_aload_n hex hb d_M_lies_26 rfl (lv_at hl 0 rfl) ?_
      refine r_getR (ci := 4) (C := R_M) (T := F_M) (N := 22) hex hb hts (fun w h => List.mem_cons_of_mem _ (in_M w h)) hown hK hP hLM rfl 5 (by decide) (hts _ (List.mem_cons_of_mem _ bg_396)) (fun _ h9 => h9) rfl d_M_lies_27 ?_
      refine lv_iload_n hex hb d_M_lies_30 rfl (lv_at hl 1 rfl) ?_
      obtain ⟨h8, T⟩ := T
      obtain ⟨h9, T⟩ := T
      refine r_iald hex hb hK hP (hLA 6 90 (by decide)).choose_spec (by decide) (by decide) h8 h9 d_M_lies_31 ?_
      refine lv_aload_n hex hb d_M_lies_32 rfl (lv_at hl 0 rfl) ?_
      refine r_getR (ci := 4) (C := R_M) (T := F_M) (N := 22) hex hb hts (fun w h => List.mem_cons_of_mem _ (in_M w h)) hown hK hP hLM rfl 2 (by decide) (hts _ (List.mem_cons_of_mem _ bg_393)) (fun _ h9 => h9) rfl d_M_lies_33 ?_
      refine lv_iload_n hex hb d_M_lies_36 rfl (lv_at hl 1 rfl) ?_
      obtain ⟨h10, T⟩ := T
      obtain ⟨h11, T⟩ := T
      refine r_iald hex hb hK hP (hLA 3 90 (by decide)).choose_spec (by decide) (by decide) h10 h11 d_M_lies_37 ?_
      refine r_iadd hex hb d_M_lies_38 ?_
      refine lv_bipush (v := iI 8) hex hb d_M_lies_39 rfl ?_
      refine lv_iload_n hex hb d_M_lies_41 rfl (lv_at hl 2 rfl) ?_
      refine r_imul hex hb d_M_lies_42 ?_
      obtain ⟨h12, T⟩ := T
      obtain ⟨h13, T⟩ := T
      obtain ⟨T1, T2⟩ := T
      refine r_icmp_lt (a := (σ.2.1 6 (r 6) a1.toNat) + (σ.2.1 3 (r 3) a1.toNat)) (b := 8 * a2) (tgt := 50) hex hb h12 h13 d_M_lies_43 rfl (fun hc => ?_) (fun hc => ?_)
      · have T := T1 hc
        refine lv_iconst (v := iI 0) hex hb d_M_lies_50 rfl ?_
        exact r_zret hex hb hr hlk hK hA hP hS (by decide) ⟨_, rfl, rfl, T⟩ (Nat.zero_le _) (Nat.zero_le _) d_M_lies_51
      · have T := T2 hc
        refine lv_iconst (v := iI 1) hex hb d_M_lies_46 rfl ?_
        refine lv_goto (tgt := 51) hex hb d_M_lies_47 rfl ?_
        exact r_zret hex hb hr hlk hK hA hP hS (by decide) ⟨_, rfl, rfl, T⟩ (Nat.zero_le _) (Nat.zero_le _) d_M_lies_51
set_option maxRecDepth 100000 in
theorem w_M_lies {l : Launch} {D : va_G} {Λ : Lam} {σ : Mem} {r : Nat → Nat} {a1 : Int} {a2 : Int} {P : Int → Mem → Prop} (hL : LayM Λ r) (T : 0 ≤ a1 ∧ a1 < (90 : Int) ∧ rng (σ.2.1 1 (r 1) a1.toNat) ∧ ((¬ (σ.2.1 1 (r 1) a1.toNat) = 2 → P 0 σ) ∧ ((σ.2.1 1 (r 1) a1.toNat) = 2 → 0 ≤ a1 ∧ a1 < (90 : Int) ∧ rng (σ.2.1 6 (r 6) a1.toNat) ∧ rng ((8 * a2) + 8) ∧ ((((8 * a2) + 8) ≤ (σ.2.1 6 (r 6) a1.toNat) → P 0 σ) ∧ (¬ ((8 * a2) + 8) ≤ (σ.2.1 6 (r 6) a1.toNat) → 0 ≤ a1 ∧ a1 < (90 : Int) ∧ 0 ≤ a1 ∧ a1 < (90 : Int) ∧ rng ((σ.2.1 6 (r 6) a1.toNat) + (σ.2.1 3 (r 3) a1.toNat)) ∧ rng (8 * a2) ∧ ((((σ.2.1 6 (r 6) a1.toNat) + (σ.2.1 3 (r 3) a1.toNat)) < (8 * a2) → P 0 σ) ∧ (¬ ((σ.2.1 6 (r 6) a1.toNat) + (σ.2.1 3 (r 3) a1.toNat)) < (8 * a2) → P 1 σ))))))) : K_M_lies l D Λ σ r a1 a2 P := e_M_lies (fun x hl hD hx => by subst hl; subst hD; exact u_M_lies_0 hx hL T)
-- DirtyCardHeapModel.showsYoung(I)Z
def rm_M_showsYoung : Room := { frames := 0, cells := 0, slots := 0, locals := 0 }
abbrev X_M_showsYoung (x : Cx) : Prop := CxOk x b_M_showsYoung 5 wl_M_showsYoung R_M (some .boolean) rm_M_showsYoung "showsYoung"
abbrev K_M_showsYoung (l : Launch) (D : va_G) (Λ : Lam) (σ : Mem) (r : Nat → Nat) (a1 : Int) (P : Int → Mem → Prop) : Prop := Ct l D y_M_showsYoung wl_M_showsYoung rm_M_showsYoung [.ref (r 0), .int (iI a1)] Λ σ (pI Λ P)
abbrev N_M_showsYoung_0 (x : Cx) (P : Int → Mem → Prop) (Λ : Lam) (σ : Mem) (r : Nat → Nat) (a1 : Int) : Prop := AtG x (pI Λ P) 5 0 0 0 Λ σ [(0, .ref (r 0)), (1, .int (iI a1))] []
abbrev N_M_showsYoung_2 (x : Cx) (P : Int → Mem → Prop) (Λ : Lam) (σ : Mem) (r : Nat → Nat) (i1 : Int) (i2 : Int) : Prop := AtG x (pI Λ P) 5 2 0 0 Λ σ [(0, .ref (r 0)), (1, .int (iI i1)), (2, .int (iI i2))] []
abbrev N_M_showsYoung_10 (x : Cx) (P : Int → Mem → Prop) (Λ : Lam) (σ : Mem) (r : Nat → Nat) (i1 : Int) (i2 : Int) (i3 : Int) : Prop := AtG x (pI Λ P) 5 10 0 0 Λ σ [(0, .ref (r 0)), (1, .int (iI i1)), (2, .int (iI i2)), (3, .int (iI i3))] []
theorem e_M_showsYoung {l : Launch} {D : va_G} {Λ : Lam} {σ : Mem} {r : Nat → Nat} {a1 : Int} {P : Int → Mem → Prop} (h : ∀ x : Cx, xl x = l → xD x = D → X_M_showsYoung x → N_M_showsYoung_0 x P Λ σ r a1) : K_M_showsYoung l D Λ σ r a1 P := Ct.of (by decide) rfl (Nat.le_of_ble_eq_true rfl) h
set_option maxHeartbeats 4000000 in
set_option maxRecDepth 100000 in
theorem u_M_showsYoung_0 {x : Cx} (hx : X_M_showsYoung x) {P : Int → Mem → Prop} {Λ : Lam} {σ : Mem} {r : Nat → Nat} {a1 : Int} (hL : LayM Λ r) (T : N_M_showsYoung_2 x P Λ σ r a1 0) : N_M_showsYoung_0 x P Λ σ r a1 := by
  obtain ⟨hex, hb, hml, hown, hts, hr, hlk, hR, hnm, hAs, hNW⟩ := hx
  obtain ⟨hLM, hLA⟩ := hL
  refine ⟨(), fun hK hA ls H locs hl hP hS => ?_⟩
  refine lv_iconst (v := iI 0) hex hb d_M_showsYoung_0 rfl ?_
  refine lv_istore_n (lv' := [(2, .int (iI 0)), (0, .ref (r 0)), (1, .int (iI a1))]) hex hb d_M_showsYoung_1 rfl hl (Nat.le_of_ble_eq_true rfl) rfl (fun ls hl => ?_)
  exact AtG.use T hK hA _ _ _ (lv_sub hl [1, 2, 0] rfl) hP hS
set_option maxHeartbeats 4000000 in
set_option maxRecDepth 100000 in
theorem u_M_showsYoung_2 {x : Cx} (hx : X_M_showsYoung x) {P : Int → Mem → Prop} {Λ : Lam} {σ : Mem} {r : Nat → Nat} {i1 : Int} {i2 : Int} (hL : LayM Λ r) (T : rng i2 ∧ ((90 ≤ i2 → P 0 σ) ∧ (¬ 90 ≤ i2 → N_M_showsYoung_10 x P Λ σ r i1 i2 0))) : N_M_showsYoung_2 x P Λ σ r i1 i2 := by
  obtain ⟨hex, hb, hml, hown, hts, hr, hlk, hR, hnm, hAs, hNW⟩ := hx
  obtain ⟨hLM, hLA⟩ := hL
  refine ⟨(), fun hK hA ls H locs hl hP hS => ?_⟩
  refine lv_iload_n hex hb d_M_showsYoung_2 rfl (lv_at hl 2 rfl) ?_
  refine lv_bipush (v := iI 90) hex hb d_M_showsYoung_3 rfl ?_
  obtain ⟨h1, T⟩ := T
  obtain ⟨T1, T2⟩ := T
  refine r_icmp_ge (a := i2) (b := 90) (tgt := 89) hex hb h1 ⟨by omega, by omega⟩ d_M_showsYoung_5 rfl (fun hc => ?_) (fun hc => ?_)
  · have T := T1 hc
    refine lv_iconst (v := iI 0) hex hb d_M_showsYoung_89 rfl ?_
    exact r_zret hex hb hr hlk hK hA hP hS (by decide) ⟨_, rfl, rfl, T⟩ (Nat.zero_le _) (Nat.zero_le _) d_M_showsYoung_90
  · have T := T2 hc
    refine lv_iconst (v := iI 0) hex hb d_M_showsYoung_8 rfl ?_
    refine lv_istore_n (lv' := [(3, .int (iI 0)), (0, .ref (r 0)), (1, .int (iI i1)), (2, .int (iI i2))]) hex hb d_M_showsYoung_9 rfl hl (Nat.le_of_ble_eq_true rfl) rfl (fun ls hl => ?_)
    exact AtG.use T hK hA _ _ _ (lv_sub hl [1, 2, 3, 0] rfl) hP hS
set_option maxHeartbeats 4000000 in
set_option maxRecDepth 100000 in
theorem u_M_showsYoung_10 {x : Cx} (hx : X_M_showsYoung x) {P : Int → Mem → Prop} {Λ : Lam} {σ : Mem} {r : Nat → Nat} {i1 : Int} {i2 : Int} {i3 : Int} (hL : LayM Λ r) (T : 0 ≤ i2 ∧ i2 < (90 : Int) ∧ rng (σ.2.1 1 (r 1) i2.toNat) ∧ ((¬ (σ.2.1 1 (r 1) i2.toNat) = 2 → N_M_showsYoung_2 x P Λ σ r i1 (i2 + 1)) ∧ ((σ.2.1 1 (r 1) i2.toNat) = 2 → 0 ≤ i2 ∧ i2 < (90 : Int) ∧ rng i3 ∧ rng (σ.2.1 3 (r 3) i2.toNat) ∧ (((σ.2.1 3 (r 3) i2.toNat) ≤ i3 → N_M_showsYoung_2 x P Λ σ r i1 (i2 + 1)) ∧ (¬ (σ.2.1 3 (r 3) i2.toNat) ≤ i3 → 0 ≤ ((3 * i2) + i3) ∧ ((3 * i2) + i3) < (270 : Int) ∧ 0 ≤ i2 ∧ i2 < (90 : Int) ∧ rng i1 ∧ ((¬ (iDiv (((σ.2.1 6 (r 6) i2.toNat) + 1) + i3) 8) = i1 → N_M_showsYoung_10 x P Λ σ r i1 i2 (i3 + 1)) ∧ ((iDiv (((σ.2.1 6 (r 6) i2.toNat) + 1) + i3) 8) = i1 → rng (σ.2.1 4 (r 4) ((3 * i2) + i3).toNat) ∧ (((σ.2.1 4 (r 4) ((3 * i2) + i3).toNat) < 0 → N_M_showsYoung_10 x P Λ σ r i1 i2 (i3 + 1)) ∧ (¬ (σ.2.1 4 (r 4) ((3 * i2) + i3).toNat) < 0 → 0 ≤ (σ.2.1 4 (r 4) ((3 * i2) + i3).toNat) ∧ (σ.2.1 4 (r 4) ((3 * i2) + i3).toNat) < (90 : Int) ∧ rng (σ.2.1 1 (r 1) (σ.2.1 4 (r 4) ((3 * i2) + i3).toNat).toNat) ∧ ((¬ (σ.2.1 1 (r 1) (σ.2.1 4 (r 4) ((3 * i2) + i3).toNat).toNat) = 1 → N_M_showsYoung_10 x P Λ σ r i1 i2 (i3 + 1)) ∧ ((σ.2.1 1 (r 1) (σ.2.1 4 (r 4) ((3 * i2) + i3).toNat).toNat) = 1 → P 1 σ))))))))))) : N_M_showsYoung_10 x P Λ σ r i1 i2 i3 := by
  obtain ⟨hex, hb, hml, hown, hts, hr, hlk, hR, hnm, hAs, hNW⟩ := hx
  obtain ⟨hLM, hLA⟩ := hL
  refine ⟨(), fun hK hA ls H locs hl hP hS => ?_⟩
  refine lv_aload_n hex hb d_M_showsYoung_10 rfl (lv_at hl 0 rfl) ?_
  refine r_getR (ci := 4) (C := R_M) (T := F_M) (N := 22) hex hb hts (fun w h => List.mem_cons_of_mem _ (in_M w h)) hown hK hP hLM rfl 0 (by decide) (hts _ (List.mem_cons_of_mem _ bg_391)) (fun _ h9 => h9) rfl d_M_showsYoung_11 ?_
  refine lv_iload_n hex hb d_M_showsYoung_14 rfl (lv_at hl 2 rfl) ?_
  obtain ⟨h1, T⟩ := T
  obtain ⟨h2, T⟩ := T
  refine r_iald hex hb hK hP (hLA 1 90 (by decide)).choose_spec (by decide) (by decide) h1 h2 d_M_showsYoung_15 ?_
  refine lv_iconst (v := iI 2) hex hb d_M_showsYoung_16 rfl ?_
  obtain ⟨h3, T⟩ := T
  obtain ⟨T1, T2⟩ := T
  refine r_icmp_ne (a := σ.2.1 1 (r 1) i2.toNat) (b := 2) (tgt := 83) hex hb h3 ⟨by omega, by omega⟩ d_M_showsYoung_17 rfl (fun hc => ?_) (fun hc => ?_)
  · have T := T1 hc
    refine lv_iinc (v := iI (i2 + 1)) (lv' := [(2, .int (iI (i2 + 1))), (0, .ref (r 0)), (1, .int (iI i1)), (3, .int (iI i3))]) hex hb d_M_showsYoung_83 hl (k := 2) rfl (iI_add _ _) (Nat.le_of_ble_eq_true rfl) rfl (fun ls hl => ?_)
    refine lv_goto (tgt := 2) hex hb d_M_showsYoung_86 rfl ?_
    exact AtG.use T hK hA _ _ _ (lv_sub hl [1, 2, 0] rfl) hP hS
  · have T := T2 hc
    refine lv_iload_n hex hb d_M_showsYoung_20 rfl (lv_at hl 3 rfl) ?_
    refine lv_aload_n hex hb d_M_showsYoung_21 rfl (lv_at hl 0 rfl) ?_
    refine r_getR (ci := 4) (C := R_M) (T := F_M) (N := 22) hex hb hts (fun w h => List.mem_cons_of_mem _ (in_M w h)) hown hK hP hLM rfl 2 (by decide) (hts _ (List.mem_cons_of_mem _ bg_393)) (fun _ h9 => h9) rfl d_M_showsYoung_22 ?_
    refine lv_iload_n hex hb d_M_showsYoung_25 rfl (lv_at hl 2 rfl) ?_
    obtain ⟨h4, T⟩ := T
    obtain ⟨h5, T⟩ := T
    refine r_iald hex hb hK hP (hLA 3 90 (by decide)).choose_spec (by decide) (by decide) h4 h5 d_M_showsYoung_26 ?_
    obtain ⟨h6, T⟩ := T
    obtain ⟨h7, T⟩ := T
    obtain ⟨T1, T2⟩ := T
    refine r_icmp_ge (a := i3) (b := σ.2.1 3 (r 3) i2.toNat) (tgt := 83) hex hb h6 h7 d_M_showsYoung_27 rfl (fun hc => ?_) (fun hc => ?_)
    · have T := T1 hc
      refine lv_iinc (v := iI (i2 + 1)) (lv' := [(2, .int (iI (i2 + 1))), (0, .ref (r 0)), (1, .int (iI i1)), (3, .int (iI i3))]) hex hb d_M_showsYoung_83 hl (k := 2) rfl (iI_add _ _) (Nat.le_of_ble_eq_true rfl) rfl (fun ls hl => ?_)
      refine lv_goto (tgt := 2) hex hb d_M_showsYoung_86 rfl ?_
      exact AtG.use T hK hA _ _ _ (lv_sub hl [1, 2, 0] rfl) hP hS
    · have T := T2 hc
      refine lv_aload_n hex hb d_M_showsYoung_30 rfl (lv_at hl 0 rfl) ?_
      refine r_getR (ci := 4) (C := R_M) (T := F_M) (N := 22) hex hb hts (fun w h => List.mem_cons_of_mem _ (in_M w h)) hown hK hP hLM rfl 3 (by decide) (hts _ (List.mem_cons_of_mem _ bg_394)) (fun _ h9 => h9) rfl d_M_showsYoung_31 ?_
      refine lv_iconst (v := iI 3) hex hb d_M_showsYoung_34 rfl ?_
      refine lv_iload_n hex hb d_M_showsYoung_35 rfl (lv_at hl 2 rfl) ?_
      refine r_imul hex hb d_M_showsYoung_36 ?_
      refine lv_iload_n hex hb d_M_showsYoung_37 rfl (lv_at hl 3 rfl) ?_
      refine r_iadd hex hb d_M_showsYoung_38 ?_
      obtain ⟨h8, T⟩ := T
      obtain ⟨h9, T⟩ := T
      refine r_iald hex hb hK hP (hLA 4 270 (by decide)).choose_spec (by decide) (by decide) h8 h9 d_M_showsYoung_39 ?_
      refine lv_istore (lv' := [(4, .int (iI (σ.2.1 4 (r 4) ((3 * i2) + i3).toNat))), (0, .ref (r 0)), (1, .int (iI i1)), (2, .int (iI i2)), (3, .int (iI i3))]) hex hb d_M_showsYoung_40 hl (Nat.le_of_ble_eq_true rfl) rfl (fun ls hl => ?_)
      refine lv_aload_n hex hb d_M_showsYoung_42 rfl (lv_at hl 1 rfl) ?_
      refine r_getR (ci := 4) (C := R_M) (T := F_M) (N := 22) hex hb hts (fun w h => List.mem_cons_of_mem _ (in_M w h)) hown hK hP hLM rfl 5 (by decide) (hts _ (List.mem_cons_of_mem _ bg_396)) (fun _ h9 => h9) rfl d_M_showsYoung_43 ?_
      refine lv_iload_n hex hb d_M_showsYoung_46 rfl (lv_at hl 3 rfl) ?_
      obtain ⟨h10, T⟩ := T
      obtain ⟨h11, T⟩ := T
      refine r_iald hex hb hK hP (hLA 6 90 (by decide)).choose_spec (by decide) (by decide) h10 h11 d_M_showsYoung_47 ?_
      refine lv_iconst (v := iI 1) hex hb d_M_showsYoung_48 rfl ?_
      refine r_iadd hex hb d_M_showsYoung_49 ?_
      refine lv_iload_n hex hb d_M_showsYoung_50 rfl (lv_at hl 4 rfl) ?_
      refine r_iadd hex hb d_M_showsYoung_51 ?_
      refine lv_bipush (v := iI 8) hex hb d_M_showsYoung_52 rfl ?_
      refine r_idiv hex hb ⟨by omega, by omega⟩ (by omega) d_M_showsYoung_54 ?_
      refine lv_iload_n hex hb d_M_showsYoung_55 rfl (lv_at hl 2 rfl) ?_
      obtain ⟨h12, T⟩ := T
      obtain ⟨T1, T2⟩ := T
      refine r_icmp_ne (a := iDiv (((σ.2.1 6 (r 6) i2.toNat) + 1) + i3) 8) (b := i1) (tgt := 77) hex hb (rng_div _ _) h12 d_M_showsYoung_56 rfl (fun hc => ?_) (fun hc => ?_)
      · have T := T1 hc
        refine lv_iinc (v := iI (i3 + 1)) (lv' := [(3, .int (iI (i3 + 1))), (4, .int (iI (σ.2.1 4 (r 4) ((3 * i2) + i3).toNat))), (0, .ref (r 0)), (1, .int (iI i1)), (2, .int (iI i2))]) hex hb d_M_showsYoung_77 hl (k := 4) rfl (iI_add _ _) (Nat.le_of_ble_eq_true rfl) rfl (fun ls hl => ?_)
        refine lv_goto (tgt := 10) hex hb d_M_showsYoung_80 rfl ?_
        exact AtG.use T hK hA _ _ _ (lv_sub hl [2, 3, 4, 0] rfl) hP hS
      · have T := T2 hc
        refine lv_iload hex hb d_M_showsYoung_59 (lv_at hl 0 rfl) ?_
        obtain ⟨h13, T⟩ := T
        obtain ⟨T1, T2⟩ := T
        refine r_if_lt (a := σ.2.1 4 (r 4) ((3 * i2) + i3).toNat) (tgt := 77) hex hb h13 d_M_showsYoung_61 rfl (fun hc => ?_) (fun hc => ?_)
        · have T := T1 hc
          refine lv_iinc (v := iI (i3 + 1)) (lv' := [(3, .int (iI (i3 + 1))), (4, .int (iI (σ.2.1 4 (r 4) ((3 * i2) + i3).toNat))), (0, .ref (r 0)), (1, .int (iI i1)), (2, .int (iI i2))]) hex hb d_M_showsYoung_77 hl (k := 4) rfl (iI_add _ _) (Nat.le_of_ble_eq_true rfl) rfl (fun ls hl => ?_)
          refine lv_goto (tgt := 10) hex hb d_M_showsYoung_80 rfl ?_
          exact AtG.use T hK hA _ _ _ (lv_sub hl [2, 3, 4, 0] rfl) hP hS
        · have T := T2 hc
          refine lv_aload_n hex hb d_M_showsYoung_64 rfl (lv_at hl 1 rfl) ?_
          refine r_getR (ci := 4) (C := R_M) (T := F_M) (N := 22) hex hb hts (fun w h => List.mem_cons_of_mem _ (in_M w h)) hown hK hP hLM rfl 0 (by decide) (hts _ (List.mem_cons_of_mem _ bg_391)) (fun _ h9 => h9) rfl d_M_showsYoung_65 ?_
          refine lv_iload hex hb d_M_showsYoung_68 (lv_at hl 0 rfl) ?_
          obtain ⟨h14, T⟩ := T
          obtain ⟨h15, T⟩ := T
          refine r_iald hex hb hK hP (hLA 1 90 (by decide)).choose_spec (by decide) (by decide) h14 h15 d_M_showsYoung_70 ?_
          refine lv_iconst (v := iI 1) hex hb d_M_showsYoung_71 rfl ?_
          obtain ⟨h16, T⟩ := T
          obtain ⟨T1, T2⟩ := T
          refine r_icmp_ne (a := σ.2.1 1 (r 1) (σ.2.1 4 (r 4) ((3 * i2) + i3).toNat).toNat) (b := 1) (tgt := 77) hex hb h16 ⟨by omega, by omega⟩ d_M_showsYoung_72 rfl (fun hc => ?_) (fun hc => ?_)
          · have T := T1 hc
            refine lv_iinc (v := iI (i3 + 1)) (lv' := [(3, .int (iI (i3 + 1))), (4, .int (iI (σ.2.1 4 (r 4) ((3 * i2) + i3).toNat))), (0, .ref (r 0)), (1, .int (iI i1)), (2, .int (iI i2))]) hex hb d_M_showsYoung_77 hl (k := 4) rfl (iI_add _ _) (Nat.le_of_ble_eq_true rfl) rfl (fun ls hl => ?_)
            refine lv_goto (tgt := 10) hex hb d_M_showsYoung_80 rfl ?_
            exact AtG.use T hK hA _ _ _ (lv_sub hl [2, 3, 4, 0] rfl) hP hS
          · have T := T2 hc
            refine lv_iconst (v := iI 1) hex hb d_M_showsYoung_75 rfl ?_
            exact r_zret hex hb hr hlk hK hA hP hS (by decide) ⟨_, rfl, rfl, T⟩ (Nat.zero_le _) (Nat.zero_le _) d_M_showsYoung_76
-- DirtyCardHeapModel.becomeOld(II)V
def rm_M_becomeOld : Room := { frames := 0, cells := 0, slots := 0, locals := 0 }
abbrev X_M_becomeOld (x : Cx) : Prop := CxOk x b_M_becomeOld 3 wl_M_becomeOld R_M none rm_M_becomeOld "becomeOld"
abbrev K_M_becomeOld (l : Launch) (D : va_G) (Λ : Lam) (σ : Mem) (r : Nat → Nat) (a1 : Int) (a2 : Int) (P : Mem → Prop) : Prop := Ct l D y_M_becomeOld wl_M_becomeOld rm_M_becomeOld [.ref (r 0), .int (iI a1), .int (iI a2)] Λ σ (pV Λ P)
abbrev N_M_becomeOld_0 (x : Cx) (P : Mem → Prop) (Λ : Lam) (σ : Mem) (r : Nat → Nat) (a1 : Int) (a2 : Int) : Prop := AtG x (pV Λ P) 3 0 0 0 Λ σ [(0, .ref (r 0)), (1, .int (iI a1)), (2, .int (iI a2))] []
theorem e_M_becomeOld {l : Launch} {D : va_G} {Λ : Lam} {σ : Mem} {r : Nat → Nat} {a1 : Int} {a2 : Int} {P : Mem → Prop} (h : ∀ x : Cx, xl x = l → xD x = D → X_M_becomeOld x → N_M_becomeOld_0 x P Λ σ r a1 a2) : K_M_becomeOld l D Λ σ r a1 a2 P := Ct.of (by decide) rfl (Nat.le_of_ble_eq_true rfl) h
set_option maxHeartbeats 4000000 in
set_option maxRecDepth 100000 in
theorem u_M_becomeOld_0 {x : Cx} (hx : X_M_becomeOld x) {P : Mem → Prop} {Λ : Lam} {σ : Mem} {r : Nat → Nat} {a1 : Int} {a2 : Int} (hL : LayM Λ r) (T : 0 ≤ a1 ∧ a1 < (90 : Int) ∧ 0 ≤ a1 ∧ a1 < (90 : Int) ∧ 0 ≤ a1 ∧ a1 < (90 : Int) ∧ 0 ≤ a1 ∧ a1 < (90 : Int) ∧ P (upI (upY (upY (upY (upY σ 1 (r 1) a1.toNat 2) 6 (r 6) a1.toNat a2) 51 (r 51) a1.toNat 0) 52 (r 52) a1.toNat 0) 421 (r 0) (((upY (upY (upY (upY σ 1 (r 1) a1.toNat 2) 6 (r 6) a1.toNat a2) 51 (r 51) a1.toNat 0) 52 (r 52) a1.toNat 0).1 421 (r 0)) + 1))) : N_M_becomeOld_0 x P Λ σ r a1 a2 := by
  obtain ⟨hex, hb, hml, hown, hts, hr, hlk, hR, hnm, hAs, hNW⟩ := hx
  obtain ⟨hLM, hLA⟩ := hL
  refine ⟨(), fun hK hA ls H locs hl hP hS => ?_⟩
  refine lv_aload_n hex hb d_M_becomeOld_0 rfl (lv_at hl 0 rfl) ?_
  refine r_getR (ci := 4) (C := R_M) (T := F_M) (N := 22) hex hb hts (fun w h => List.mem_cons_of_mem _ (in_M w h)) hown hK hP hLM rfl 0 (by decide) (hts _ (List.mem_cons_of_mem _ bg_391)) (fun _ h9 => h9) rfl d_M_becomeOld_1 ?_
  refine lv_iload_n hex hb d_M_becomeOld_4 rfl (lv_at hl 1 rfl) ?_
  refine lv_iconst (v := iI 2) hex hb d_M_becomeOld_5 rfl ?_
  obtain ⟨h1, T⟩ := T
  obtain ⟨h2, T⟩ := T
  refine r_iast (v := 2) hex hb hK hP hA hS (hLA 1 90 (by decide)).choose_spec (by decide) (by decide) h1 h2 d_M_becomeOld_6 (fun H locs hP hS => ?_)
  refine lv_aload_n hex hb d_M_becomeOld_7 rfl (lv_at hl 0 rfl) ?_
  refine r_getR (ci := 4) (C := R_M) (T := F_M) (N := 22) hex hb hts (fun w h => List.mem_cons_of_mem _ (in_M w h)) hown hK hP hLM rfl 5 (by decide) (hts _ (List.mem_cons_of_mem _ bg_396)) (fun _ h9 => h9) rfl d_M_becomeOld_8 ?_
  refine lv_iload_n hex hb d_M_becomeOld_11 rfl (lv_at hl 1 rfl) ?_
  refine lv_iload_n hex hb d_M_becomeOld_12 rfl (lv_at hl 2 rfl) ?_
  obtain ⟨h3, T⟩ := T
  obtain ⟨h4, T⟩ := T
  refine r_iast (v := a2) hex hb hK hP hA hS (hLA 6 90 (by decide)).choose_spec (by decide) (by decide) h3 h4 d_M_becomeOld_13 (fun H locs hP hS => ?_)
  refine lv_aload_n hex hb d_M_becomeOld_14 rfl (lv_at hl 0 rfl) ?_
  refine r_getR (ci := 4) (C := R_M) (T := F_M) (N := 22) hex hb hts (fun w h => List.mem_cons_of_mem _ (in_M w h)) hown hK hP hLM rfl 6 (by decide) (hts _ (List.mem_cons_of_mem _ bg_397)) (fun _ h9 => h9) rfl d_M_becomeOld_15 ?_
  refine lv_iload_n hex hb d_M_becomeOld_18 rfl (lv_at hl 1 rfl) ?_
  refine lv_iconst (v := iI 0) hex hb d_M_becomeOld_19 rfl ?_
  obtain ⟨h5, T⟩ := T
  obtain ⟨h6, T⟩ := T
  refine r_zast (v := 0) hex hb hK hP hA hS (hLA 51 90 (by decide)).choose_spec (by decide) (by decide) (by decide) h5 h6 (by decide) d_M_becomeOld_20 (fun H locs hP hS => ?_)
  refine lv_aload_n hex hb d_M_becomeOld_21 rfl (lv_at hl 0 rfl) ?_
  refine r_getR (ci := 4) (C := R_M) (T := F_M) (N := 22) hex hb hts (fun w h => List.mem_cons_of_mem _ (in_M w h)) hown hK hP hLM rfl 7 (by decide) (hts _ (List.mem_cons_of_mem _ bg_398)) (fun _ h9 => h9) rfl d_M_becomeOld_22 ?_
  refine lv_iload_n hex hb d_M_becomeOld_25 rfl (lv_at hl 1 rfl) ?_
  refine lv_iconst (v := iI 0) hex hb d_M_becomeOld_26 rfl ?_
  obtain ⟨h7, T⟩ := T
  obtain ⟨h8, T⟩ := T
  refine r_zast (v := 0) hex hb hK hP hA hS (hLA 52 90 (by decide)).choose_spec (by decide) (by decide) (by decide) h7 h8 (by decide) d_M_becomeOld_27 (fun H locs hP hS => ?_)
  refine lv_aload_n hex hb d_M_becomeOld_28 rfl (lv_at hl 0 rfl) ?_
  refine lv_dup hex hb d_M_becomeOld_29 rfl ?_
  refine r_getI (ci := 4) (C := R_M) (T := F_M) (N := 22) hex hb hts (fun w h => List.mem_cons_of_mem _ (in_M w h)) hown hK hP hLM rfl 21 (by decide) (hts _ (List.mem_cons_of_mem _ bg_412)) (fun _ h9 => h9) rfl d_M_becomeOld_30 ?_
  refine lv_iconst (v := iI 1) hex hb d_M_becomeOld_33 rfl ?_
  refine r_iadd hex hb d_M_becomeOld_34 ?_
  refine r_putI (ci := 4) (C := R_M) (T := F_M) (N := 22) (v := ((upY (upY (upY (upY σ 1 (r 1) a1.toNat 2) 6 (r 6) a1.toNat a2) 51 (r 51) a1.toNat 0) 52 (r 52) a1.toNat 0).1 421 (r 0)) + 1) (ty := .int) hex hb hts (fun w h => List.mem_cons_of_mem _ (in_M w h)) tq_M tq_M_ok n_M hown hK hP hA hS hLM rfl 21 (by decide) (hts _ (List.mem_cons_of_mem _ bg_412)) (fun _ h9 => h9) rfl (by decide +kernel) rfl rfl rfl d_M_becomeOld_35 (fun H locs hP hS => ?_)
  exact r_vret hex hb hr hlk hK hA hP hS ⟨rfl, rfl, T⟩ (Nat.zero_le _) (Nat.zero_le _) d_M_becomeOld_38
set_option maxRecDepth 100000 in
theorem w_M_becomeOld {l : Launch} {D : va_G} {Λ : Lam} {σ : Mem} {r : Nat → Nat} {a1 : Int} {a2 : Int} {P : Mem → Prop} (hL : LayM Λ r) (T : 0 ≤ a1 ∧ a1 < (90 : Int) ∧ 0 ≤ a1 ∧ a1 < (90 : Int) ∧ 0 ≤ a1 ∧ a1 < (90 : Int) ∧ 0 ≤ a1 ∧ a1 < (90 : Int) ∧ P (upI (upY (upY (upY (upY σ 1 (r 1) a1.toNat 2) 6 (r 6) a1.toNat a2) 51 (r 51) a1.toNat 0) 52 (r 52) a1.toNat 0) 421 (r 0) (((upY (upY (upY (upY σ 1 (r 1) a1.toNat 2) 6 (r 6) a1.toNat a2) 51 (r 51) a1.toNat 0) 52 (r 52) a1.toNat 0).1 421 (r 0)) + 1))) : K_M_becomeOld l D Λ σ r a1 a2 P := e_M_becomeOld (fun x hl hD hx => by subst hl; subst hD; exact u_M_becomeOld_0 hx hL T)
-- DirtyCardHeapModel.remove(I)V
def rm_M_remove : Room := { frames := 0, cells := 0, slots := 0, locals := 0 }
abbrev X_M_remove (x : Cx) : Prop := CxOk x b_M_remove 3 wl_M_remove R_M none rm_M_remove "remove"
abbrev K_M_remove (l : Launch) (D : va_G) (Λ : Lam) (σ : Mem) (r : Nat → Nat) (a1 : Int) (P : Mem → Prop) : Prop := Ct l D y_M_remove wl_M_remove rm_M_remove [.ref (r 0), .int (iI a1)] Λ σ (pV Λ P)
abbrev N_M_remove_0 (x : Cx) (P : Mem → Prop) (Λ : Lam) (σ : Mem) (r : Nat → Nat) (a1 : Int) : Prop := AtG x (pV Λ P) 3 0 0 0 Λ σ [(0, .ref (r 0)), (1, .int (iI a1))] []
abbrev N_M_remove_23 (x : Cx) (P : Mem → Prop) (Λ : Lam) (σ : Mem) (r : Nat → Nat) (i1 : Int) (i2 : Int) : Prop := AtG x (pV Λ P) 3 23 0 0 Λ σ [(0, .ref (r 0)), (1, .int (iI i1)), (2, .int (iI i2))] []
theorem e_M_remove {l : Launch} {D : va_G} {Λ : Lam} {σ : Mem} {r : Nat → Nat} {a1 : Int} {P : Mem → Prop} (h : ∀ x : Cx, xl x = l → xD x = D → X_M_remove x → N_M_remove_0 x P Λ σ r a1) : K_M_remove l D Λ σ r a1 P := Ct.of (by decide) rfl (Nat.le_of_ble_eq_true rfl) h
set_option maxHeartbeats 4000000 in
set_option maxRecDepth 100000 in
theorem u_M_remove_0 {x : Cx} (hx : X_M_remove x) {P : Mem → Prop} {Λ : Lam} {σ : Mem} {r : Nat → Nat} {a1 : Int} (hL : LayM Λ r) (T : 0 ≤ a1 ∧ a1 < (90 : Int) ∧ 0 ≤ a1 ∧ a1 < (90 : Int) ∧ 0 ≤ a1 ∧ a1 < (90 : Int) ∧ N_M_remove_23 x P Λ (upY (upY (upY σ 1 (r 1) a1.toNat 0) 51 (r 51) a1.toNat 0) 52 (r 52) a1.toNat 0) r a1 0) : N_M_remove_0 x P Λ σ r a1 := by
  obtain ⟨hex, hb, hml, hown, hts, hr, hlk, hR, hnm, hAs, hNW⟩ := hx
  obtain ⟨hLM, hLA⟩ := hL
  refine ⟨(), fun hK hA ls H locs hl hP hS => ?_⟩
  refine lv_aload_n hex hb d_M_remove_0 rfl (lv_at hl 0 rfl) ?_
  refine r_getR (ci := 4) (C := R_M) (T := F_M) (N := 22) hex hb hts (fun w h => List.mem_cons_of_mem _ (in_M w h)) hown hK hP hLM rfl 0 (by decide) (hts _ (List.mem_cons_of_mem _ bg_391)) (fun _ h9 => h9) rfl d_M_remove_1 ?_
  refine lv_iload_n hex hb d_M_remove_4 rfl (lv_at hl 1 rfl) ?_
  refine lv_iconst (v := iI 0) hex hb d_M_remove_5 rfl ?_
  obtain ⟨h1, T⟩ := T
  obtain ⟨h2, T⟩ := T
  refine r_iast (v := 0) hex hb hK hP hA hS (hLA 1 90 (by decide)).choose_spec (by decide) (by decide) h1 h2 d_M_remove_6 (fun H locs hP hS => ?_)
  refine lv_aload_n hex hb d_M_remove_7 rfl (lv_at hl 0 rfl) ?_
  refine r_getR (ci := 4) (C := R_M) (T := F_M) (N := 22) hex hb hts (fun w h => List.mem_cons_of_mem _ (in_M w h)) hown hK hP hLM rfl 6 (by decide) (hts _ (List.mem_cons_of_mem _ bg_397)) (fun _ h9 => h9) rfl d_M_remove_8 ?_
  refine lv_iload_n hex hb d_M_remove_11 rfl (lv_at hl 1 rfl) ?_
  refine lv_iconst (v := iI 0) hex hb d_M_remove_12 rfl ?_
  obtain ⟨h3, T⟩ := T
  obtain ⟨h4, T⟩ := T
  refine r_zast (v := 0) hex hb hK hP hA hS (hLA 51 90 (by decide)).choose_spec (by decide) (by decide) (by decide) h3 h4 (by decide) d_M_remove_13 (fun H locs hP hS => ?_)
  refine lv_aload_n hex hb d_M_remove_14 rfl (lv_at hl 0 rfl) ?_
  refine r_getR (ci := 4) (C := R_M) (T := F_M) (N := 22) hex hb hts (fun w h => List.mem_cons_of_mem _ (in_M w h)) hown hK hP hLM rfl 7 (by decide) (hts _ (List.mem_cons_of_mem _ bg_398)) (fun _ h9 => h9) rfl d_M_remove_15 ?_
  refine lv_iload_n hex hb d_M_remove_18 rfl (lv_at hl 1 rfl) ?_
  refine lv_iconst (v := iI 0) hex hb d_M_remove_19 rfl ?_
  obtain ⟨h5, T⟩ := T
  obtain ⟨h6, T⟩ := T
  refine r_zast (v := 0) hex hb hK hP hA hS (hLA 52 90 (by decide)).choose_spec (by decide) (by decide) (by decide) h5 h6 (by decide) d_M_remove_20 (fun H locs hP hS => ?_)
  refine lv_iconst (v := iI 0) hex hb d_M_remove_21 rfl ?_
  refine lv_istore_n (lv' := [(2, .int (iI 0)), (0, .ref (r 0)), (1, .int (iI a1))]) hex hb d_M_remove_22 rfl hl (Nat.le_of_ble_eq_true rfl) rfl (fun ls hl => ?_)
  exact AtG.use T hK hA _ _ _ (lv_sub hl [1, 2, 0] rfl) hP hS
set_option maxHeartbeats 4000000 in
set_option maxRecDepth 100000 in
theorem u_M_remove_23 {x : Cx} (hx : X_M_remove x) {P : Mem → Prop} {Λ : Lam} {σ : Mem} {r : Nat → Nat} {i1 : Int} {i2 : Int} (hL : LayM Λ r) (T : rng i2 ∧ ((270 ≤ i2 → P σ) ∧ (¬ 270 ≤ i2 → 0 ≤ i2 ∧ i2 < (270 : Int) ∧ rng (σ.2.1 4 (r 4) i2.toNat) ∧ rng i1 ∧ ((¬ (σ.2.1 4 (r 4) i2.toNat) = i1 → 0 ≤ i2 ∧ i2 < (270 : Int) ∧ 0 ≤ i2 ∧ i2 < (270 : Int) ∧ N_M_remove_23 x P Λ (upY σ 4 (r 4) i2.toNat (σ.2.1 4 (r 4) i2.toNat)) r i1 (i2 + 1)) ∧ ((σ.2.1 4 (r 4) i2.toNat) = i1 → 0 ≤ i2 ∧ i2 < (270 : Int) ∧ N_M_remove_23 x P Λ (upY σ 4 (r 4) i2.toNat (-1)) r i1 (i2 + 1)))))) : N_M_remove_23 x P Λ σ r i1 i2 := by
  obtain ⟨hex, hb, hml, hown, hts, hr, hlk, hR, hnm, hAs, hNW⟩ := hx
  obtain ⟨hLM, hLA⟩ := hL
  refine ⟨(), fun hK hA ls H locs hl hP hS => ?_⟩
  refine lv_iload_n hex hb d_M_remove_23 rfl (lv_at hl 2 rfl) ?_
  refine lv_sipush (v := iI 270) hex hb d_M_remove_24 rfl ?_
  obtain ⟨h1, T⟩ := T
  obtain ⟨T1, T2⟩ := T
  refine r_icmp_ge (a := i2) (b := 270) (tgt := 62) hex hb h1 ⟨by omega, by omega⟩ d_M_remove_27 rfl (fun hc => ?_) (fun hc => ?_)
  · have T := T1 hc
    exact r_vret hex hb hr hlk hK hA hP hS ⟨rfl, rfl, T⟩ (Nat.zero_le _) (Nat.zero_le _) d_M_remove_62
  · have T := T2 hc
    refine lv_aload_n hex hb d_M_remove_30 rfl (lv_at hl 0 rfl) ?_
    refine r_getR (ci := 4) (C := R_M) (T := F_M) (N := 22) hex hb hts (fun w h => List.mem_cons_of_mem _ (in_M w h)) hown hK hP hLM rfl 3 (by decide) (hts _ (List.mem_cons_of_mem _ bg_394)) (fun _ h9 => h9) rfl d_M_remove_31 ?_
    refine lv_iload_n hex hb d_M_remove_34 rfl (lv_at hl 2 rfl) ?_
    refine lv_aload_n hex hb d_M_remove_35 rfl (lv_at hl 0 rfl) ?_
    refine r_getR (ci := 4) (C := R_M) (T := F_M) (N := 22) hex hb hts (fun w h => List.mem_cons_of_mem _ (in_M w h)) hown hK hP hLM rfl 3 (by decide) (hts _ (List.mem_cons_of_mem _ bg_394)) (fun _ h9 => h9) rfl d_M_remove_36 ?_
    refine lv_iload_n hex hb d_M_remove_39 rfl (lv_at hl 2 rfl) ?_
    obtain ⟨h2, T⟩ := T
    obtain ⟨h3, T⟩ := T
    refine r_iald hex hb hK hP (hLA 4 270 (by decide)).choose_spec (by decide) (by decide) h2 h3 d_M_remove_40 ?_
    refine lv_iload_n hex hb d_M_remove_41 rfl (lv_at hl 1 rfl) ?_
    obtain ⟨h4, T⟩ := T
    obtain ⟨h5, T⟩ := T
    obtain ⟨T1, T2⟩ := T
    refine r_icmp_ne (a := σ.2.1 4 (r 4) i2.toNat) (b := i1) (tgt := 49) hex hb h4 h5 d_M_remove_42 rfl (fun hc => ?_) (fun hc => ?_)
    · have T := T1 hc
      refine lv_aload_n hex hb d_M_remove_49 rfl (lv_at hl 0 rfl) ?_
      refine r_getR (ci := 4) (C := R_M) (T := F_M) (N := 22) hex hb hts (fun w h => List.mem_cons_of_mem _ (in_M w h)) hown hK hP hLM rfl 3 (by decide) (hts _ (List.mem_cons_of_mem _ bg_394)) (fun _ h9 => h9) rfl d_M_remove_50 ?_
      refine lv_iload_n hex hb d_M_remove_53 rfl (lv_at hl 2 rfl) ?_
      obtain ⟨h6, T⟩ := T
      obtain ⟨h7, T⟩ := T
      refine r_iald hex hb hK hP (hLA 4 270 (by decide)).choose_spec (by decide) (by decide) h6 h7 d_M_remove_54 ?_
      obtain ⟨h8, T⟩ := T
      obtain ⟨h9, T⟩ := T
      refine r_iast (v := σ.2.1 4 (r 4) i2.toNat) hex hb hK hP hA hS (hLA 4 270 (by decide)).choose_spec (by decide) (by decide) h8 h9 d_M_remove_55 (fun H locs hP hS => ?_)
      refine lv_iinc (v := iI (i2 + 1)) (lv' := [(2, .int (iI (i2 + 1))), (0, .ref (r 0)), (1, .int (iI i1))]) hex hb d_M_remove_56 hl (k := 2) rfl (iI_add _ _) (Nat.le_of_ble_eq_true rfl) rfl (fun ls hl => ?_)
      refine lv_goto (tgt := 23) hex hb d_M_remove_59 rfl ?_
      exact AtG.use T hK hA _ _ _ (lv_sub hl [1, 2, 0] rfl) hP hS
    · have T := T2 hc
      refine lv_iconst (v := iI (-1)) hex hb d_M_remove_45 rfl ?_
      refine lv_goto (tgt := 55) hex hb d_M_remove_46 rfl ?_
      obtain ⟨h10, T⟩ := T
      obtain ⟨h11, T⟩ := T
      refine r_iast (v := (-1)) hex hb hK hP hA hS (hLA 4 270 (by decide)).choose_spec (by decide) (by decide) h10 h11 d_M_remove_55 (fun H locs hP hS => ?_)
      refine lv_iinc (v := iI (i2 + 1)) (lv' := [(2, .int (iI (i2 + 1))), (0, .ref (r 0)), (1, .int (iI i1))]) hex hb d_M_remove_56 hl (k := 2) rfl (iI_add _ _) (Nat.le_of_ble_eq_true rfl) rfl (fun ls hl => ?_)
      refine lv_goto (tgt := 23) hex hb d_M_remove_59 rfl ?_
      exact AtG.use T hK hA _ _ _ (lv_sub hl [1, 2, 0] rfl) hP hS
-- DirtyCardHeapModel.reach(I)V
def rm_M_reach : Room := { frames := 2, cells := 0, slots := 0, locals := 45 }
abbrev X_M_reach (x : Cx) : Prop := CxOk x b_M_reach 4 wl_M_reach R_M none rm_M_reach "reach"
abbrev K_M_reach (l : Launch) (D : va_G) (Λ : Lam) (σ : Mem) (r : Nat → Nat) (a1 : Int) (P : Mem → Prop) : Prop := Ct l D y_M_reach wl_M_reach rm_M_reach [.ref (r 0), .int (iI a1)] Λ σ (pV Λ P)
abbrev N_M_reach_0 (x : Cx) (P : Mem → Prop) (Λ : Lam) (σ : Mem) (r : Nat → Nat) (a1 : Int) : Prop := AtG x (pV Λ P) 4 0 0 0 Λ σ [(0, .ref (r 0)), (1, .int (iI a1))] []
abbrev N_M_reach_80 (x : Cx) (P : Mem → Prop) (Λ : Lam) (σ : Mem) (r : Nat → Nat) (i1 : Int) (s1 : Int) (s2 : Int) : Prop := AtG x (pV Λ P) 4 80 0 0 Λ σ [(0, .ref (r 0)), (1, .int (iI i1))] [.int (iI s2), .int (iI s1), .ref (r 5)]
abbrev N_M_reach_107 (x : Cx) (P : Mem → Prop) (Λ : Lam) (σ : Mem) (r : Nat → Nat) (i1 : Int) (s0 : Int) : Prop := AtG x (pV Λ P) 4 107 0 0 Λ σ [(0, .ref (r 0)), (1, .int (iI i1))] [.int (iI s0)]
abbrev N_M_reach_136 (x : Cx) (P : Mem → Prop) (Λ : Lam) (σ : Mem) (r : Nat → Nat) (i1 : Int) (s1 : Int) (s2 : Int) : Prop := AtG x (pV Λ P) 4 136 0 0 Λ σ [(0, .ref (r 0)), (1, .int (iI i1))] [.int (iI s2), .int (iI s1), .ref (r 51)]
abbrev N_M_reach_139 (x : Cx) (P : Mem → Prop) (Λ : Lam) (σ : Mem) (r : Nat → Nat) (i1 : Int) (i3 : Int) : Prop := AtG x (pV Λ P) 4 139 0 0 Λ σ [(0, .ref (r 0)), (1, .int (iI i1)), (3, .int (iI i3))] []
theorem e_M_reach {l : Launch} {D : va_G} {Λ : Lam} {σ : Mem} {r : Nat → Nat} {a1 : Int} {P : Mem → Prop} (h : ∀ x : Cx, xl x = l → xD x = D → X_M_reach x → N_M_reach_0 x P Λ σ r a1) : K_M_reach l D Λ σ r a1 P := Ct.of (by decide) rfl (Nat.le_of_ble_eq_true rfl) h
set_option maxHeartbeats 4000000 in
set_option maxRecDepth 100000 in
theorem u_M_reach_0 {x : Cx} (hx : X_M_reach x) {P : Mem → Prop} {Λ : Lam} {σ : Mem} {r : Nat → Nat} {a1 : Int} (hL : LayM Λ r) (T : rng a1 ∧ ((a1 < 0 → P σ) ∧ (¬ a1 < 0 → 0 ≤ a1 ∧ a1 < (90 : Int) ∧ rng (σ.2.1 1 (r 1) a1.toNat) ∧ ((¬ (σ.2.1 1 (r 1) a1.toNat) = 1 → P σ) ∧ ((σ.2.1 1 (r 1) a1.toNat) = 1 → 0 ≤ a1 ∧ a1 < (90 : Int) ∧ rng (σ.2.1 55 (r 55) a1.toNat) ∧ (((σ.2.1 55 (r 55) a1.toNat) = 0 → 0 ≤ a1 ∧ a1 < (90 : Int) ∧ 0 ≤ ((upY σ 55 (r 55) a1.toNat 1).1 415 (r 0)) ∧ ((upY σ 55 (r 55) a1.toNat 1).1 415 (r 0)) < (20 : Int) ∧ 0 ≤ a1 ∧ a1 < (90 : Int) ∧ rng ((upI (upY (upY σ 55 (r 55) a1.toNat 1) 9 (r 9) ((upY σ 55 (r 55) a1.toNat 1).1 415 (r 0)).toNat a1) 415 (r 0) (((upY (upY σ 55 (r 55) a1.toNat 1) 9 (r 9) ((upY σ 55 (r 55) a1.toNat 1).1 415 (r 0)).toNat a1).1 415 (r 0)) + 1)).2.1 5 (r 5) a1.toNat) ∧ ((9 ≤ ((upI (upY (upY σ 55 (r 55) a1.toNat 1) 9 (r 9) ((upY σ 55 (r 55) a1.toNat 1).1 415 (r 0)).toNat a1) 415 (r 0) (((upY (upY σ 55 (r 55) a1.toNat 1) 9 (r 9) ((upY σ 55 (r 55) a1.toNat 1).1 415 (r 0)).toNat a1).1 415 (r 0)) + 1)).2.1 5 (r 5) a1.toNat) → N_M_reach_80 x P Λ (upI (upY (upY σ 55 (r 55) a1.toNat 1) 9 (r 9) ((upY σ 55 (r 55) a1.toNat 1).1 415 (r 0)).toNat a1) 415 (r 0) (((upY (upY σ 55 (r 55) a1.toNat 1) 9 (r 9) ((upY σ 55 (r 55) a1.toNat 1).1 415 (r 0)).toNat a1).1 415 (r 0)) + 1)) r a1 a1 9) ∧ (¬ 9 ≤ ((upI (upY (upY σ 55 (r 55) a1.toNat 1) 9 (r 9) ((upY σ 55 (r 55) a1.toNat 1).1 415 (r 0)).toNat a1) 415 (r 0) (((upY (upY σ 55 (r 55) a1.toNat 1) 9 (r 9) ((upY σ 55 (r 55) a1.toNat 1).1 415 (r 0)).toNat a1).1 415 (r 0)) + 1)).2.1 5 (r 5) a1.toNat) → 0 ≤ a1 ∧ a1 < (90 : Int) ∧ N_M_reach_80 x P Λ (upI (upY (upY σ 55 (r 55) a1.toNat 1) 9 (r 9) ((upY σ 55 (r 55) a1.toNat 1).1 415 (r 0)).toNat a1) 415 (r 0) (((upY (upY σ 55 (r 55) a1.toNat 1) 9 (r 9) ((upY σ 55 (r 55) a1.toNat 1).1 415 (r 0)).toNat a1).1 415 (r 0)) + 1)) r a1 a1 (((upI (upY (upY σ 55 (r 55) a1.toNat 1) 9 (r 9) ((upY σ 55 (r 55) a1.toNat 1).1 415 (r 0)).toNat a1) 415 (r 0) (((upY (upY σ 55 (r 55) a1.toNat 1) 9 (r 9) ((upY σ 55 (r 55) a1.toNat 1).1 415 (r 0)).toNat a1).1 415 (r 0)) + 1)).2.1 5 (r 5) a1.toNat) + 1)))) ∧ (¬ (σ.2.1 55 (r 55) a1.toNat) = 0 → P σ))))))) : N_M_reach_0 x P Λ σ r a1 := by
  obtain ⟨hex, hb, hml, hown, hts, hr, hlk, hR, hnm, hAs, hNW⟩ := hx
  obtain ⟨hLM, hLA⟩ := hL
  refine ⟨(), fun hK hA ls H locs hl hP hS => ?_⟩
  refine lv_iload_n hex hb d_M_reach_0 rfl (lv_at hl 1 rfl) ?_
  obtain ⟨h1, T⟩ := T
  obtain ⟨T1, T2⟩ := T
  refine r_if_lt (a := a1) (tgt := 23) hex hb h1 d_M_reach_1 rfl (fun hc => ?_) (fun hc => ?_)
  · have T := T1 hc
    exact r_vret hex hb hr hlk hK hA hP hS ⟨rfl, rfl, T⟩ (Nat.zero_le _) (Nat.zero_le _) d_M_reach_23
  · have T := T2 hc
    refine lv_aload_n hex hb d_M_reach_4 rfl (lv_at hl 0 rfl) ?_
    refine r_getR (ci := 4) (C := R_M) (T := F_M) (N := 22) hex hb hts (fun w h => List.mem_cons_of_mem _ (in_M w h)) hown hK hP hLM rfl 0 (by decide) (hts _ (List.mem_cons_of_mem _ bg_391)) (fun _ h9 => h9) rfl d_M_reach_5 ?_
    refine lv_iload_n hex hb d_M_reach_8 rfl (lv_at hl 1 rfl) ?_
    obtain ⟨h2, T⟩ := T
    obtain ⟨h3, T⟩ := T
    refine r_iald hex hb hK hP (hLA 1 90 (by decide)).choose_spec (by decide) (by decide) h2 h3 d_M_reach_9 ?_
    refine lv_iconst (v := iI 1) hex hb d_M_reach_10 rfl ?_
    obtain ⟨h4, T⟩ := T
    obtain ⟨T1, T2⟩ := T
    refine r_icmp_ne (a := σ.2.1 1 (r 1) a1.toNat) (b := 1) (tgt := 23) hex hb h4 ⟨by omega, by omega⟩ d_M_reach_11 rfl (fun hc => ?_) (fun hc => ?_)
    · have T := T1 hc
      exact r_vret hex hb hr hlk hK hA hP hS ⟨rfl, rfl, T⟩ (Nat.zero_le _) (Nat.zero_le _) d_M_reach_23
    · have T := T2 hc
      refine lv_aload_n hex hb d_M_reach_14 rfl (lv_at hl 0 rfl) ?_
      refine r_getR (ci := 4) (C := R_M) (T := F_M) (N := 22) hex hb hts (fun w h => List.mem_cons_of_mem _ (in_M w h)) hown hK hP hLM rfl 17 (by decide) (hts _ (List.mem_cons_of_mem _ bg_408)) (fun _ h9 => h9) rfl d_M_reach_15 ?_
      refine lv_iload_n hex hb d_M_reach_18 rfl (lv_at hl 1 rfl) ?_
      obtain ⟨h5, T⟩ := T
      obtain ⟨h6, T⟩ := T
      refine r_zald hex hb hK hP (hLA 55 90 (by decide)).choose_spec (by decide) (by decide) (by decide) h5 h6 d_M_reach_19 ?_
      obtain ⟨h7, T⟩ := T
      obtain ⟨T1, T2⟩ := T
      refine r_if_eq (a := σ.2.1 55 (r 55) a1.toNat) (tgt := 24) hex hb h7 d_M_reach_20 rfl (fun hc => ?_) (fun hc => ?_)
      · have T := T1 hc
        refine lv_aload_n hex hb d_M_reach_24 rfl (lv_at hl 0 rfl) ?_
        refine r_getR (ci := 4) (C := R_M) (T := F_M) (N := 22) hex hb hts (fun w h => List.mem_cons_of_mem _ (in_M w h)) hown hK hP hLM rfl 17 (by decide) (hts _ (List.mem_cons_of_mem _ bg_408)) (fun _ h9 => h9) rfl d_M_reach_25 ?_
        refine lv_iload_n hex hb d_M_reach_28 rfl (lv_at hl 1 rfl) ?_
        refine lv_iconst (v := iI 1) hex hb d_M_reach_29 rfl ?_
        obtain ⟨h8, T⟩ := T
        obtain ⟨h9, T⟩ := T
        refine r_zast (v := 1) hex hb hK hP hA hS (hLA 55 90 (by decide)).choose_spec (by decide) (by decide) (by decide) h8 h9 (by decide) d_M_reach_30 (fun H locs hP hS => ?_)
        refine lv_aload_n hex hb d_M_reach_31 rfl (lv_at hl 0 rfl) ?_
        refine r_getR (ci := 4) (C := R_M) (T := F_M) (N := 22) hex hb hts (fun w h => List.mem_cons_of_mem _ (in_M w h)) hown hK hP hLM rfl 16 (by decide) (hts _ (List.mem_cons_of_mem _ bg_407)) (fun _ h9 => h9) rfl d_M_reach_32 ?_
        refine lv_aload_n hex hb d_M_reach_35 rfl (lv_at hl 0 rfl) ?_
        refine r_getI (ci := 4) (C := R_M) (T := F_M) (N := 22) hex hb hts (fun w h => List.mem_cons_of_mem _ (in_M w h)) hown hK hP hLM rfl 15 (by decide) (hts _ (List.mem_cons_of_mem _ bg_406)) (fun _ h9 => h9) rfl d_M_reach_36 ?_
        refine lv_iload_n hex hb d_M_reach_39 rfl (lv_at hl 1 rfl) ?_
        obtain ⟨h10, T⟩ := T
        obtain ⟨h11, T⟩ := T
        refine r_iast (v := a1) hex hb hK hP hA hS (hLA 9 20 (by decide)).choose_spec (by decide) (by decide) h10 h11 d_M_reach_40 (fun H locs hP hS => ?_)
        refine lv_aload_n hex hb d_M_reach_41 rfl (lv_at hl 0 rfl) ?_
        refine lv_dup hex hb d_M_reach_42 rfl ?_
        refine r_getI (ci := 4) (C := R_M) (T := F_M) (N := 22) hex hb hts (fun w h => List.mem_cons_of_mem _ (in_M w h)) hown hK hP hLM rfl 15 (by decide) (hts _ (List.mem_cons_of_mem _ bg_406)) (fun _ h9 => h9) rfl d_M_reach_43 ?_
        refine lv_iconst (v := iI 1) hex hb d_M_reach_46 rfl ?_
        refine r_iadd hex hb d_M_reach_47 ?_
        refine r_putI (ci := 4) (C := R_M) (T := F_M) (N := 22) (v := ((upY (upY σ 55 (r 55) a1.toNat 1) 9 (r 9) ((upY σ 55 (r 55) a1.toNat 1).1 415 (r 0)).toNat a1).1 415 (r 0)) + 1) (ty := .int) hex hb hts (fun w h => List.mem_cons_of_mem _ (in_M w h)) tq_M tq_M_ok n_M hown hK hP hA hS hLM rfl 15 (by decide) (hts _ (List.mem_cons_of_mem _ bg_406)) (fun _ h9 => h9) rfl (by decide +kernel) rfl rfl rfl d_M_reach_48 (fun H locs hP hS => ?_)
        refine lv_aload_n hex hb d_M_reach_51 rfl (lv_at hl 0 rfl) ?_
        refine r_getR (ci := 4) (C := R_M) (T := F_M) (N := 22) hex hb hts (fun w h => List.mem_cons_of_mem _ (in_M w h)) hown hK hP hLM rfl 4 (by decide) (hts _ (List.mem_cons_of_mem _ bg_395)) (fun _ h9 => h9) rfl d_M_reach_52 ?_
        refine lv_iload_n hex hb d_M_reach_55 rfl (lv_at hl 1 rfl) ?_
        refine lv_aload_n hex hb d_M_reach_56 rfl (lv_at hl 0 rfl) ?_
        refine r_getR (ci := 4) (C := R_M) (T := F_M) (N := 22) hex hb hts (fun w h => List.mem_cons_of_mem _ (in_M w h)) hown hK hP hLM rfl 4 (by decide) (hts _ (List.mem_cons_of_mem _ bg_395)) (fun _ h9 => h9) rfl d_M_reach_57 ?_
        refine lv_iload_n hex hb d_M_reach_60 rfl (lv_at hl 1 rfl) ?_
        obtain ⟨h12, T⟩ := T
        obtain ⟨h13, T⟩ := T
        refine r_iald hex hb hK hP (hLA 5 90 (by decide)).choose_spec (by decide) (by decide) h12 h13 d_M_reach_61 ?_
        refine lv_bipush (v := iI 9) hex hb d_M_reach_62 rfl ?_
        obtain ⟨h14, T⟩ := T
        obtain ⟨T1, T2⟩ := T
        refine r_icmp_ge (a := (upI (upY (upY σ 55 (r 55) a1.toNat 1) 9 (r 9) ((upY σ 55 (r 55) a1.toNat 1).1 415 (r 0)).toNat a1) 415 (r 0) (((upY (upY σ 55 (r 55) a1.toNat 1) 9 (r 9) ((upY σ 55 (r 55) a1.toNat 1).1 415 (r 0)).toNat a1).1 415 (r 0)) + 1)).2.1 5 (r 5) a1.toNat) (b := 9) (tgt := 78) hex hb h14 ⟨by omega, by omega⟩ d_M_reach_64 rfl (fun hc => ?_) (fun hc => ?_)
        · have T := T1 hc
          refine lv_bipush (v := iI 9) hex hb d_M_reach_78 rfl ?_
          exact AtG.use T hK hA _ _ _ (lv_sub hl [0, 1] rfl) hP hS
        · have T := T2 hc
          refine lv_aload_n hex hb d_M_reach_67 rfl (lv_at hl 0 rfl) ?_
          refine r_getR (ci := 4) (C := R_M) (T := F_M) (N := 22) hex hb hts (fun w h => List.mem_cons_of_mem _ (in_M w h)) hown hK hP hLM rfl 4 (by decide) (hts _ (List.mem_cons_of_mem _ bg_395)) (fun _ h9 => h9) rfl d_M_reach_68 ?_
          refine lv_iload_n hex hb d_M_reach_71 rfl (lv_at hl 1 rfl) ?_
          obtain ⟨h15, T⟩ := T
          obtain ⟨h16, T⟩ := T
          refine r_iald hex hb hK hP (hLA 5 90 (by decide)).choose_spec (by decide) (by decide) h15 h16 d_M_reach_72 ?_
          refine lv_iconst (v := iI 1) hex hb d_M_reach_73 rfl ?_
          refine r_iadd hex hb d_M_reach_74 ?_
          refine lv_goto (tgt := 80) hex hb d_M_reach_75 rfl ?_
          exact AtG.use T hK hA _ _ _ (lv_sub hl [0, 1] rfl) hP hS
      · have T := T2 hc
        exact r_vret hex hb hr hlk hK hA hP hS ⟨rfl, rfl, T⟩ (Nat.zero_le _) (Nat.zero_le _) d_M_reach_23
set_option maxHeartbeats 4000000 in
set_option maxRecDepth 100000 in
theorem u_M_reach_80 {x : Cx} (hx : X_M_reach x) {P : Mem → Prop} {Λ : Lam} {σ : Mem} {r : Nat → Nat} {i1 : Int} {s1 : Int} {s2 : Int} (hL : LayM Λ r) (T : 0 ≤ s1 ∧ s1 < (90 : Int) ∧ 0 ≤ i1 ∧ i1 < (90 : Int) ∧ rng ((upY σ 5 (r 5) s1.toNat s2).2.1 5 (r 5) i1.toNat) ∧ ((((upY σ 5 (r 5) s1.toNat s2).2.1 5 (r 5) i1.toNat) < 2 → N_M_reach_107 x P Λ (upY σ 5 (r 5) s1.toNat s2) r i1 (-1)) ∧ (¬ ((upY σ 5 (r 5) s1.toNat s2).2.1 5 (r 5) i1.toNat) < 2 → 0 ≤ i1 ∧ i1 < (90 : Int) ∧ K_M_place (xl x) (xD x) Λ (upY σ 5 (r 5) s1.toNat s2) r (1 + ((upY σ 5 (r 5) s1.toNat s2).2.1 3 (r 3) i1.toNat)) (fun z8 σa8 => N_M_reach_107 x P Λ σa8 r i1 z8)))) : N_M_reach_80 x P Λ σ r i1 s1 s2 := by
  obtain ⟨hex, hb, hml, hown, hts, hr, hlk, hR, hnm, hAs, hNW⟩ := hx
  obtain ⟨hLM, hLA⟩ := hL
  refine ⟨(), fun hK hA ls H locs hl hP hS => ?_⟩
  obtain ⟨h1, T⟩ := T
  obtain ⟨h2, T⟩ := T
  refine r_iast (v := s2) hex hb hK hP hA hS (hLA 5 90 (by decide)).choose_spec (by decide) (by decide) h1 h2 d_M_reach_80 (fun H locs hP hS => ?_)
  refine lv_aload_n hex hb d_M_reach_81 rfl (lv_at hl 0 rfl) ?_
  refine r_getR (ci := 4) (C := R_M) (T := F_M) (N := 22) hex hb hts (fun w h => List.mem_cons_of_mem _ (in_M w h)) hown hK hP hLM rfl 4 (by decide) (hts _ (List.mem_cons_of_mem _ bg_395)) (fun _ h9 => h9) rfl d_M_reach_82 ?_
  refine lv_iload_n hex hb d_M_reach_85 rfl (lv_at hl 1 rfl) ?_
  obtain ⟨h3, T⟩ := T
  obtain ⟨h4, T⟩ := T
  refine r_iald hex hb hK hP (hLA 5 90 (by decide)).choose_spec (by decide) (by decide) h3 h4 d_M_reach_86 ?_
  refine lv_iconst (v := iI 2) hex hb d_M_reach_87 rfl ?_
  obtain ⟨h5, T⟩ := T
  obtain ⟨T1, T2⟩ := T
  refine r_icmp_lt (a := (upY σ 5 (r 5) s1.toNat s2).2.1 5 (r 5) i1.toNat) (b := 2) (tgt := 106) hex hb h5 ⟨by omega, by omega⟩ d_M_reach_88 rfl (fun hc => ?_) (fun hc => ?_)
  · have T := T1 hc
    refine lv_iconst (v := iI (-1)) hex hb d_M_reach_106 rfl ?_
    exact AtG.use T hK hA _ _ _ (lv_sub hl [0, 1] rfl) hP hS
  · have T := T2 hc
    refine lv_aload_n hex hb d_M_reach_91 rfl (lv_at hl 0 rfl) ?_
    refine lv_iconst (v := iI 1) hex hb d_M_reach_92 rfl ?_
    refine lv_aload_n hex hb d_M_reach_93 rfl (lv_at hl 0 rfl) ?_
    refine r_getR (ci := 4) (C := R_M) (T := F_M) (N := 22) hex hb hts (fun w h => List.mem_cons_of_mem _ (in_M w h)) hown hK hP hLM rfl 2 (by decide) (hts _ (List.mem_cons_of_mem _ bg_393)) (fun _ h9 => h9) rfl d_M_reach_94 ?_
    refine lv_iload_n hex hb d_M_reach_97 rfl (lv_at hl 1 rfl) ?_
    obtain ⟨h6, T⟩ := T
    obtain ⟨h7, T⟩ := T
    refine r_iald hex hb hK hP (hLA 3 90 (by decide)).choose_spec (by decide) (by decide) h6 h7 d_M_reach_98 ?_
    refine r_iadd hex hb d_M_reach_99 ?_
    refine r_call (va_runV (As := [.int (iI (1 + ((upY σ 5 (r 5) s1.toNat s2).2.1 3 (r 3) i1.toNat)))]) (rest := []) ⟨hex, hb, hml, hown, hts⟩ (Ct.use T H.size) (cwV 1 hts (gdV bg_484 bg_486 bp_23 bg_4 bc_M_place) rfl rfl rfl hdV_M_place ⟨by rw [hR]; exact Nat.le_of_ble_eq_true rfl, by rw [hR]; exact Nat.le_of_ble_eq_true rfl⟩) (px_preV (ci := 4) hNW hK hP hLM rfl) rfl rfl hl.1 rfl (lv_room (Nat.le_of_ble_eq_true rfl)) d_M_reach_100 ⟨by rw [hR]; exact Nat.le_of_ble_eq_true rfl, by rw [hR]; exact Nat.le_of_ble_eq_true rfl⟩) hS hA hAs (fun v Λ1 σ1 H locs hp hP hK hA hS => ?_)
    obtain ⟨z8, rfl, rfl, T⟩ := hp
    generalize σ1 = σa8 at hP T
    refine W.eq (g2 := F0 (xm x) 103 ls [.int (iI z8)]) rfl ?_
    refine lv_goto (tgt := 107) hex hb d_M_reach_103 rfl ?_
    exact AtG.use T hK hA _ _ _ (lv_sub hl [0, 1] rfl) hP hS
set_option maxHeartbeats 4000000 in
set_option maxRecDepth 100000 in
theorem u_M_reach_107 {x : Cx} (hx : X_M_reach x) {P : Mem → Prop} {Λ : Lam} {σ : Mem} {r : Nat → Nat} {i1 : Int} {s0 : Int} (hL : LayM Λ r) (T : rng s0 ∧ ((0 ≤ s0 → K_M_becomeOld (xl x) (xD x) Λ σ r i1 s0 (fun σa2 => rng (σa2.1 411 (r 0)) ∧ (((σa2.1 411 (r 0)) = 0 → N_M_reach_136 x P Λ σa2 r i1 i1 0) ∧ (¬ (σa2.1 411 (r 0)) = 0 → N_M_reach_136 x P Λ σa2 r i1 i1 1)))) ∧ (¬ 0 ≤ s0 → P σ))) : N_M_reach_107 x P Λ σ r i1 s0 := by
  obtain ⟨hex, hb, hml, hown, hts, hr, hlk, hR, hnm, hAs, hNW⟩ := hx
  obtain ⟨hLM, hLA⟩ := hL
  refine ⟨(), fun hK hA ls H locs hl hP hS => ?_⟩
  refine lv_istore_n (lv' := [(2, .int (iI s0)), (0, .ref (r 0)), (1, .int (iI i1))]) hex hb d_M_reach_107 rfl hl (Nat.le_of_ble_eq_true rfl) rfl (fun ls hl => ?_)
  refine lv_iload_n hex hb d_M_reach_108 rfl (lv_at hl 0 rfl) ?_
  obtain ⟨h1, T⟩ := T
  obtain ⟨T1, T2⟩ := T
  refine r_if_ge (a := s0) (tgt := 113) hex hb h1 d_M_reach_109 rfl (fun hc => ?_) (fun hc => ?_)
  · have T := T1 hc
    refine lv_aload_n hex hb d_M_reach_113 rfl (lv_at hl 1 rfl) ?_
    refine lv_iload_n hex hb d_M_reach_114 rfl (lv_at hl 2 rfl) ?_
    refine lv_iload_n hex hb d_M_reach_115 rfl (lv_at hl 0 rfl) ?_
    refine r_call (va_runV (As := [.int (iI i1), .int (iI s0)]) (rest := []) ⟨hex, hb, hml, hown, hts⟩ (Ct.use T H.size) (cwV 2 hts (gdV bg_492 bg_494 bp_25 bg_4 bc_M_becomeOld) rfl rfl rfl hdV_M_becomeOld ⟨by rw [hR]; exact Nat.le_of_ble_eq_true rfl, by rw [hR]; exact Nat.le_of_ble_eq_true rfl⟩) (px_preV (ci := 4) hNW hK hP hLM rfl) rfl rfl hl.1 rfl (lv_room (Nat.le_of_ble_eq_true rfl)) d_M_reach_116 ⟨by rw [hR]; exact Nat.le_of_ble_eq_true rfl, by rw [hR]; exact Nat.le_of_ble_eq_true rfl⟩) hS hA hAs (fun v Λ1 σ1 H locs hp hP hK hA hS => ?_)
    obtain ⟨rfl, rfl, T⟩ := hp
    generalize σ1 = σa2 at hP T
    refine W.eq (g2 := F0 (xm x) 119 ls []) rfl ?_
    refine lv_aload_n hex hb d_M_reach_119 rfl (lv_at hl 1 rfl) ?_
    refine r_getR (ci := 4) (C := R_M) (T := F_M) (N := 22) hex hb hts (fun w h => List.mem_cons_of_mem _ (in_M w h)) hown hK hP hLM rfl 6 (by decide) (hts _ (List.mem_cons_of_mem _ bg_397)) (fun _ h9 => h9) rfl d_M_reach_120 ?_
    refine lv_iload_n hex hb d_M_reach_123 rfl (lv_at hl 2 rfl) ?_
    refine lv_aload_n hex hb d_M_reach_124 rfl (lv_at hl 1 rfl) ?_
    refine r_getI (ci := 4) (C := R_M) (T := F_M) (N := 22) hex hb hts (fun w h => List.mem_cons_of_mem _ (in_M w h)) hown hK hP hLM rfl 11 (by decide) (hts _ (List.mem_cons_of_mem _ bg_402)) (fun _ h9 => h9) rfl d_M_reach_125 ?_
    obtain ⟨h3, T⟩ := T
    obtain ⟨T1, T2⟩ := T
    refine r_if_eq (a := σa2.1 411 (r 0)) (tgt := 135) hex hb h3 d_M_reach_128 rfl (fun hc => ?_) (fun hc => ?_)
    · have T := T1 hc
      refine lv_iconst (v := iI 0) hex hb d_M_reach_135 rfl ?_
      exact AtG.use T hK hA _ _ _ (lv_sub hl [1, 2] rfl) hP hS
    · have T := T2 hc
      refine lv_iconst (v := iI 1) hex hb d_M_reach_131 rfl ?_
      refine lv_goto (tgt := 136) hex hb d_M_reach_132 rfl ?_
      exact AtG.use T hK hA _ _ _ (lv_sub hl [1, 2] rfl) hP hS
  · have T := T2 hc
    exact r_vret hex hb hr hlk hK hA hP hS ⟨rfl, rfl, T⟩ (Nat.zero_le _) (Nat.zero_le _) d_M_reach_112
set_option maxHeartbeats 4000000 in
set_option maxRecDepth 100000 in
theorem u_M_reach_136 {x : Cx} (hx : X_M_reach x) {P : Mem → Prop} {Λ : Lam} {σ : Mem} {r : Nat → Nat} {i1 : Int} {s1 : Int} {s2 : Int} (hL : LayM Λ r) (T : 0 ≤ s1 ∧ s1 < (90 : Int) ∧ (s2 = 0 ∨ s2 = 1) ∧ N_M_reach_139 x P Λ (upY σ 51 (r 51) s1.toNat s2) r i1 0) : N_M_reach_136 x P Λ σ r i1 s1 s2 := by
  obtain ⟨hex, hb, hml, hown, hts, hr, hlk, hR, hnm, hAs, hNW⟩ := hx
  obtain ⟨hLM, hLA⟩ := hL
  refine ⟨(), fun hK hA ls H locs hl hP hS => ?_⟩
  obtain ⟨h1, T⟩ := T
  obtain ⟨h2, T⟩ := T
  obtain ⟨h3, T⟩ := T
  refine r_zast (v := s2) hex hb hK hP hA hS (hLA 51 90 (by decide)).choose_spec (by decide) (by decide) (by decide) h1 h2 h3 d_M_reach_136 (fun H locs hP hS => ?_)
  refine lv_iconst (v := iI 0) hex hb d_M_reach_137 rfl ?_
  refine lv_istore_n (lv' := [(3, .int (iI 0)), (0, .ref (r 0)), (1, .int (iI i1))]) hex hb d_M_reach_138 rfl hl (Nat.le_of_ble_eq_true rfl) rfl (fun ls hl => ?_)
  exact AtG.use T hK hA _ _ _ (lv_sub hl [1, 2, 0] rfl) hP hS
set_option maxHeartbeats 4000000 in
set_option maxRecDepth 100000 in
theorem u_M_reach_139 {x : Cx} (hx : X_M_reach x) {P : Mem → Prop} {Λ : Lam} {σ : Mem} {r : Nat → Nat} {i1 : Int} {i3 : Int} (hL : LayM Λ r) (T : rng i3 ∧ ((8 ≤ i3 → P σ) ∧ (¬ 8 ≤ i3 → 0 ≤ i3 ∧ i3 < (8 : Int) ∧ rng (σ.2.1 53 (r 53) i3.toNat) ∧ ((¬ (σ.2.1 53 (r 53) i3.toNat) = 0 → 0 ≤ i3 ∧ i3 < (8 : Int) ∧ N_M_reach_139 x P Λ (upY σ 53 (r 53) i3.toNat 1) r i1 (i3 + 1)) ∧ ((σ.2.1 53 (r 53) i3.toNat) = 0 → K_M_lies (xl x) (xD x) Λ σ r i1 i3 (fun z7 σa7 => rng z7 ∧ ((z7 = 0 → 0 ≤ i3 ∧ i3 < (8 : Int) ∧ N_M_reach_139 x P Λ (upY σa7 53 (r 53) i3.toNat 0) r i1 (i3 + 1)) ∧ (¬ z7 = 0 → 0 ≤ i3 ∧ i3 < (8 : Int) ∧ N_M_reach_139 x P Λ (upY σa7 53 (r 53) i3.toNat 1) r i1 (i3 + 1))))))))) : N_M_reach_139 x P Λ σ r i1 i3 := by
  obtain ⟨hex, hb, hml, hown, hts, hr, hlk, hR, hnm, hAs, hNW⟩ := hx
  obtain ⟨hLM, hLA⟩ := hL
  refine ⟨(), fun hK hA ls H locs hl hP hS => ?_⟩
  refine lv_iload_n hex hb d_M_reach_139 rfl (lv_at hl 2 rfl) ?_
  refine lv_bipush (v := iI 8) hex hb d_M_reach_140 rfl ?_
  obtain ⟨h1, T⟩ := T
  obtain ⟨T1, T2⟩ := T
  refine r_icmp_ge (a := i3) (b := 8) (tgt := 180) hex hb h1 ⟨by omega, by omega⟩ d_M_reach_142 rfl (fun hc => ?_) (fun hc => ?_)
  · have T := T1 hc
    exact r_vret hex hb hr hlk hK hA hP hS ⟨rfl, rfl, T⟩ (Nat.zero_le _) (Nat.zero_le _) d_M_reach_180
  · have T := T2 hc
    refine lv_aload_n hex hb d_M_reach_145 rfl (lv_at hl 0 rfl) ?_
    refine r_getR (ci := 4) (C := R_M) (T := F_M) (N := 22) hex hb hts (fun w h => List.mem_cons_of_mem _ (in_M w h)) hown hK hP hLM rfl 9 (by decide) (hts _ (List.mem_cons_of_mem _ bg_400)) (fun _ h9 => h9) rfl d_M_reach_146 ?_
    refine lv_iload_n hex hb d_M_reach_149 rfl (lv_at hl 2 rfl) ?_
    refine lv_aload_n hex hb d_M_reach_150 rfl (lv_at hl 0 rfl) ?_
    refine r_getR (ci := 4) (C := R_M) (T := F_M) (N := 22) hex hb hts (fun w h => List.mem_cons_of_mem _ (in_M w h)) hown hK hP hLM rfl 9 (by decide) (hts _ (List.mem_cons_of_mem _ bg_400)) (fun _ h9 => h9) rfl d_M_reach_151 ?_
    refine lv_iload_n hex hb d_M_reach_154 rfl (lv_at hl 2 rfl) ?_
    obtain ⟨h2, T⟩ := T
    obtain ⟨h3, T⟩ := T
    refine r_zald hex hb hK hP (hLA 53 8 (by decide)).choose_spec (by decide) (by decide) (by decide) h2 h3 d_M_reach_155 ?_
    obtain ⟨h4, T⟩ := T
    obtain ⟨T1, T2⟩ := T
    refine r_if_ne (a := σ.2.1 53 (r 53) i3.toNat) (tgt := 168) hex hb h4 d_M_reach_156 rfl (fun hc => ?_) (fun hc => ?_)
    · have T := T1 hc
      refine lv_iconst (v := iI 1) hex hb d_M_reach_168 rfl ?_
      refine lv_goto (tgt := 173) hex hb d_M_reach_169 rfl ?_
      obtain ⟨h5, T⟩ := T
      obtain ⟨h6, T⟩ := T
      refine r_zast (v := 1) hex hb hK hP hA hS (hLA 53 8 (by decide)).choose_spec (by decide) (by decide) (by decide) h5 h6 (by decide) d_M_reach_173 (fun H locs hP hS => ?_)
      refine lv_iinc (v := iI (i3 + 1)) (lv' := [(3, .int (iI (i3 + 1))), (0, .ref (r 0)), (1, .int (iI i1))]) hex hb d_M_reach_174 hl (k := 2) rfl (iI_add _ _) (Nat.le_of_ble_eq_true rfl) rfl (fun ls hl => ?_)
      refine lv_goto (tgt := 139) hex hb d_M_reach_177 rfl ?_
      exact AtG.use T hK hA _ _ _ (lv_sub hl [1, 2, 0] rfl) hP hS
    · have T := T2 hc
      refine lv_aload_n hex hb d_M_reach_159 rfl (lv_at hl 0 rfl) ?_
      refine lv_iload_n hex hb d_M_reach_160 rfl (lv_at hl 1 rfl) ?_
      refine lv_iload_n hex hb d_M_reach_161 rfl (lv_at hl 2 rfl) ?_
      refine r_call (va_runV (As := [.int (iI i1), .int (iI i3)]) (rest := [.int (iI i3), .ref (r 53)]) ⟨hex, hb, hml, hown, hts⟩ (Ct.use T H.size) (cwV 2 hts (gdV bg_508 bg_510 bp_29 bg_4 bc_M_lies) rfl rfl rfl hdV_M_lies ⟨by rw [hR]; exact Nat.le_of_ble_eq_true rfl, by rw [hR]; exact Nat.le_of_ble_eq_true rfl⟩) (px_preV (ci := 4) hNW hK hP hLM rfl) rfl rfl hl.1 rfl (lv_room (Nat.le_of_ble_eq_true rfl)) d_M_reach_162 ⟨by rw [hR]; exact Nat.le_of_ble_eq_true rfl, by rw [hR]; exact Nat.le_of_ble_eq_true rfl⟩) hS hA hAs (fun v Λ1 σ1 H locs hp hP hK hA hS => ?_)
      obtain ⟨z7, rfl, rfl, T⟩ := hp
      generalize σ1 = σa7 at hP T
      refine W.eq (g2 := F0 (xm x) 165 ls [.int (iI z7), .int (iI i3), .ref (r 53)]) rfl ?_
      obtain ⟨h8, T⟩ := T
      obtain ⟨T1, T2⟩ := T
      refine r_if_eq (a := z7) (tgt := 172) hex hb h8 d_M_reach_165 rfl (fun hc => ?_) (fun hc => ?_)
      · have T := T1 hc
        refine lv_iconst (v := iI 0) hex hb d_M_reach_172 rfl ?_
        obtain ⟨h9, T⟩ := T
        obtain ⟨h10, T⟩ := T
        refine r_zast (v := 0) hex hb hK hP hA hS (hLA 53 8 (by decide)).choose_spec (by decide) (by decide) (by decide) h9 h10 (by decide) d_M_reach_173 (fun H locs hP hS => ?_)
        refine lv_iinc (v := iI (i3 + 1)) (lv' := [(3, .int (iI (i3 + 1))), (0, .ref (r 0)), (1, .int (iI i1))]) hex hb d_M_reach_174 hl (k := 2) rfl (iI_add _ _) (Nat.le_of_ble_eq_true rfl) rfl (fun ls hl => ?_)
        refine lv_goto (tgt := 139) hex hb d_M_reach_177 rfl ?_
        exact AtG.use T hK hA _ _ _ (lv_sub hl [1, 2, 0] rfl) hP hS
      · have T := T2 hc
        refine lv_iconst (v := iI 1) hex hb d_M_reach_168 rfl ?_
        refine lv_goto (tgt := 173) hex hb d_M_reach_169 rfl ?_
        obtain ⟨h11, T⟩ := T
        obtain ⟨h12, T⟩ := T
        refine r_zast (v := 1) hex hb hK hP hA hS (hLA 53 8 (by decide)).choose_spec (by decide) (by decide) (by decide) h11 h12 (by decide) d_M_reach_173 (fun H locs hP hS => ?_)
        refine lv_iinc (v := iI (i3 + 1)) (lv' := [(3, .int (iI (i3 + 1))), (0, .ref (r 0)), (1, .int (iI i1))]) hex hb d_M_reach_174 hl (k := 2) rfl (iI_add _ _) (Nat.le_of_ble_eq_true rfl) rfl (fun ls hl => ?_)
        refine lv_goto (tgt := 139) hex hb d_M_reach_177 rfl ?_
        exact AtG.use T hK hA _ _ _ (lv_sub hl [1, 2, 0] rfl) hP hS
-- DirtyCardHeapModel.reachFrom(I)V
def rm_M_reachFrom : Room := { frames := 3, cells := 0, slots := 0, locals := 68 }
abbrev X_M_reachFrom (x : Cx) : Prop := CxOk x b_M_reachFrom 3 wl_M_reachFrom R_M none rm_M_reachFrom "reachFrom"
abbrev K_M_reachFrom (l : Launch) (D : va_G) (Λ : Lam) (σ : Mem) (r : Nat → Nat) (a1 : Int) (P : Mem → Prop) : Prop := Ct l D y_M_reachFrom wl_M_reachFrom rm_M_reachFrom [.ref (r 0), .int (iI a1)] Λ σ (pV Λ P)
abbrev N_M_reachFrom_0 (x : Cx) (P : Mem → Prop) (Λ : Lam) (σ : Mem) (r : Nat → Nat) (a1 : Int) : Prop := AtG x (pV Λ P) 3 0 0 0 Λ σ [(0, .ref (r 0)), (1, .int (iI a1))] []
abbrev N_M_reachFrom_2 (x : Cx) (P : Mem → Prop) (Λ : Lam) (σ : Mem) (r : Nat → Nat) (i1 : Int) (i2 : Int) : Prop := AtG x (pV Λ P) 3 2 0 0 Λ σ [(0, .ref (r 0)), (1, .int (iI i1)), (2, .int (iI i2))] []
theorem e_M_reachFrom {l : Launch} {D : va_G} {Λ : Lam} {σ : Mem} {r : Nat → Nat} {a1 : Int} {P : Mem → Prop} (h : ∀ x : Cx, xl x = l → xD x = D → X_M_reachFrom x → N_M_reachFrom_0 x P Λ σ r a1) : K_M_reachFrom l D Λ σ r a1 P := Ct.of (by decide) rfl (Nat.le_of_ble_eq_true rfl) h
set_option maxHeartbeats 4000000 in
set_option maxRecDepth 100000 in
theorem u_M_reachFrom_0 {x : Cx} (hx : X_M_reachFrom x) {P : Mem → Prop} {Λ : Lam} {σ : Mem} {r : Nat → Nat} {a1 : Int} (hL : LayM Λ r) (T : N_M_reachFrom_2 x P Λ σ r a1 0) : N_M_reachFrom_0 x P Λ σ r a1 := by
  obtain ⟨hex, hb, hml, hown, hts, hr, hlk, hR, hnm, hAs, hNW⟩ := hx
  obtain ⟨hLM, hLA⟩ := hL
  refine ⟨(), fun hK hA ls H locs hl hP hS => ?_⟩
  refine lv_iconst (v := iI 0) hex hb d_M_reachFrom_0 rfl ?_
  refine lv_istore_n (lv' := [(2, .int (iI 0)), (0, .ref (r 0)), (1, .int (iI a1))]) hex hb d_M_reachFrom_1 rfl hl (Nat.le_of_ble_eq_true rfl) rfl (fun ls hl => ?_)
  exact AtG.use T hK hA _ _ _ (lv_sub hl [1, 2, 0] rfl) hP hS
set_option maxHeartbeats 4000000 in
set_option maxRecDepth 100000 in
theorem u_M_reachFrom_2 {x : Cx} (hx : X_M_reachFrom x) {P : Mem → Prop} {Λ : Lam} {σ : Mem} {r : Nat → Nat} {i1 : Int} {i2 : Int} (hL : LayM Λ r) (T : rng i2 ∧ ((90 ≤ i2 → P σ) ∧ (¬ 90 ≤ i2 → 0 ≤ i2 ∧ i2 < (90 : Int) ∧ rng (σ.2.1 56 (r 56) i2.toNat) ∧ (((σ.2.1 56 (r 56) i2.toNat) = 0 → N_M_reachFrom_2 x P Λ σ r i1 (i2 + 1)) ∧ (¬ (σ.2.1 56 (r 56) i2.toNat) = 0 → 0 ≤ (iDiv i1 8) ∧ (iDiv i1 8) < (8 : Int) ∧ rng (σ.2.1 57 (r 57) (iDiv i1 8).toNat) ∧ (((σ.2.1 57 (r 57) (iDiv i1 8).toNat) = 0 → N_M_reachFrom_2 x P Λ σ r i1 (i2 + 1)) ∧ (¬ (σ.2.1 57 (r 57) (iDiv i1 8).toNat) = 0 → 0 ≤ i2 ∧ i2 < (90 : Int) ∧ rng i1 ∧ rng (σ.2.1 6 (r 6) i2.toNat) ∧ ((i1 ≤ (σ.2.1 6 (r 6) i2.toNat) → N_M_reachFrom_2 x P Λ σ r i1 (i2 + 1)) ∧ (¬ i1 ≤ (σ.2.1 6 (r 6) i2.toNat) → 0 ≤ i2 ∧ i2 < (90 : Int) ∧ 0 ≤ i2 ∧ i2 < (90 : Int) ∧ rng ((σ.2.1 6 (r 6) i2.toNat) + (σ.2.1 3 (r 3) i2.toNat)) ∧ ((((σ.2.1 6 (r 6) i2.toNat) + (σ.2.1 3 (r 3) i2.toNat)) < i1 → N_M_reachFrom_2 x P Λ σ r i1 (i2 + 1)) ∧ (¬ ((σ.2.1 6 (r 6) i2.toNat) + (σ.2.1 3 (r 3) i2.toNat)) < i1 → 0 ≤ i2 ∧ i2 < (90 : Int) ∧ 0 ≤ ((((3 * i2) + i1) - (σ.2.1 6 (r 6) i2.toNat)) - 1) ∧ ((((3 * i2) + i1) - (σ.2.1 6 (r 6) i2.toNat)) - 1) < (270 : Int) ∧ K_M_reach (xl x) (xD x) Λ σ r (σ.2.1 4 (r 4) ((((3 * i2) + i1) - (σ.2.1 6 (r 6) i2.toNat)) - 1).toNat) (fun σa21 => N_M_reachFrom_2 x P Λ σa21 r i1 (i2 + 1))))))))))))) : N_M_reachFrom_2 x P Λ σ r i1 i2 := by
  obtain ⟨hex, hb, hml, hown, hts, hr, hlk, hR, hnm, hAs, hNW⟩ := hx
  obtain ⟨hLM, hLA⟩ := hL
  refine ⟨(), fun hK hA ls H locs hl hP hS => ?_⟩
  refine lv_iload_n hex hb d_M_reachFrom_2 rfl (lv_at hl 2 rfl) ?_
  refine lv_bipush (v := iI 90) hex hb d_M_reachFrom_3 rfl ?_
  obtain ⟨h1, T⟩ := T
  obtain ⟨T1, T2⟩ := T
  refine r_icmp_ge (a := i2) (b := 90) (tgt := 85) hex hb h1 ⟨by omega, by omega⟩ d_M_reachFrom_5 rfl (fun hc => ?_) (fun hc => ?_)
  · have T := T1 hc
    exact r_vret hex hb hr hlk hK hA hP hS ⟨rfl, rfl, T⟩ (Nat.zero_le _) (Nat.zero_le _) d_M_reachFrom_85
  · have T := T2 hc
    refine lv_aload_n hex hb d_M_reachFrom_8 rfl (lv_at hl 0 rfl) ?_
    refine r_getR (ci := 4) (C := R_M) (T := F_M) (N := 22) hex hb hts (fun w h => List.mem_cons_of_mem _ (in_M w h)) hown hK hP hLM rfl 18 (by decide) (hts _ (List.mem_cons_of_mem _ bg_409)) (fun _ h9 => h9) rfl d_M_reachFrom_9 ?_
    refine lv_iload_n hex hb d_M_reachFrom_12 rfl (lv_at hl 2 rfl) ?_
    obtain ⟨h2, T⟩ := T
    obtain ⟨h3, T⟩ := T
    refine r_zald hex hb hK hP (hLA 56 90 (by decide)).choose_spec (by decide) (by decide) (by decide) h2 h3 d_M_reachFrom_13 ?_
    obtain ⟨h4, T⟩ := T
    obtain ⟨T1, T2⟩ := T
    refine r_if_eq (a := σ.2.1 56 (r 56) i2.toNat) (tgt := 79) hex hb h4 d_M_reachFrom_14 rfl (fun hc => ?_) (fun hc => ?_)
    · have T := T1 hc
      refine lv_iinc (v := iI (i2 + 1)) (lv' := [(2, .int (iI (i2 + 1))), (0, .ref (r 0)), (1, .int (iI i1))]) hex hb d_M_reachFrom_79 hl (k := 2) rfl (iI_add _ _) (Nat.le_of_ble_eq_true rfl) rfl (fun ls hl => ?_)
      refine lv_goto (tgt := 2) hex hb d_M_reachFrom_82 rfl ?_
      exact AtG.use T hK hA _ _ _ (lv_sub hl [1, 2, 0] rfl) hP hS
    · have T := T2 hc
      refine lv_aload_n hex hb d_M_reachFrom_17 rfl (lv_at hl 0 rfl) ?_
      refine r_getR (ci := 4) (C := R_M) (T := F_M) (N := 22) hex hb hts (fun w h => List.mem_cons_of_mem _ (in_M w h)) hown hK hP hLM rfl 19 (by decide) (hts _ (List.mem_cons_of_mem _ bg_410)) (fun _ h9 => h9) rfl d_M_reachFrom_18 ?_
      refine lv_iload_n hex hb d_M_reachFrom_21 rfl (lv_at hl 1 rfl) ?_
      refine lv_bipush (v := iI 8) hex hb d_M_reachFrom_22 rfl ?_
      refine r_idiv hex hb ⟨by omega, by omega⟩ (by omega) d_M_reachFrom_24 ?_
      obtain ⟨h5, T⟩ := T
      obtain ⟨h6, T⟩ := T
      refine r_zald hex hb hK hP (hLA 57 8 (by decide)).choose_spec (by decide) (by decide) (by decide) h5 h6 d_M_reachFrom_25 ?_
      obtain ⟨h7, T⟩ := T
      obtain ⟨T1, T2⟩ := T
      refine r_if_eq (a := σ.2.1 57 (r 57) (iDiv i1 8).toNat) (tgt := 79) hex hb h7 d_M_reachFrom_26 rfl (fun hc => ?_) (fun hc => ?_)
      · have T := T1 hc
        refine lv_iinc (v := iI (i2 + 1)) (lv' := [(2, .int (iI (i2 + 1))), (0, .ref (r 0)), (1, .int (iI i1))]) hex hb d_M_reachFrom_79 hl (k := 2) rfl (iI_add _ _) (Nat.le_of_ble_eq_true rfl) rfl (fun ls hl => ?_)
        refine lv_goto (tgt := 2) hex hb d_M_reachFrom_82 rfl ?_
        exact AtG.use T hK hA _ _ _ (lv_sub hl [1, 2, 0] rfl) hP hS
      · have T := T2 hc
        refine lv_iload_n hex hb d_M_reachFrom_29 rfl (lv_at hl 1 rfl) ?_
        refine lv_aload_n hex hb d_M_reachFrom_30 rfl (lv_at hl 0 rfl) ?_
        refine r_getR (ci := 4) (C := R_M) (T := F_M) (N := 22) hex hb hts (fun w h => List.mem_cons_of_mem _ (in_M w h)) hown hK hP hLM rfl 5 (by decide) (hts _ (List.mem_cons_of_mem _ bg_396)) (fun _ h9 => h9) rfl d_M_reachFrom_31 ?_
        refine lv_iload_n hex hb d_M_reachFrom_34 rfl (lv_at hl 2 rfl) ?_
        obtain ⟨h8, T⟩ := T
        obtain ⟨h9, T⟩ := T
        refine r_iald hex hb hK hP (hLA 6 90 (by decide)).choose_spec (by decide) (by decide) h8 h9 d_M_reachFrom_35 ?_
        obtain ⟨h10, T⟩ := T
        obtain ⟨h11, T⟩ := T
        obtain ⟨T1, T2⟩ := T
        refine r_icmp_le (a := i1) (b := σ.2.1 6 (r 6) i2.toNat) (tgt := 79) hex hb h10 h11 d_M_reachFrom_36 rfl (fun hc => ?_) (fun hc => ?_)
        · have T := T1 hc
          refine lv_iinc (v := iI (i2 + 1)) (lv' := [(2, .int (iI (i2 + 1))), (0, .ref (r 0)), (1, .int (iI i1))]) hex hb d_M_reachFrom_79 hl (k := 2) rfl (iI_add _ _) (Nat.le_of_ble_eq_true rfl) rfl (fun ls hl => ?_)
          refine lv_goto (tgt := 2) hex hb d_M_reachFrom_82 rfl ?_
          exact AtG.use T hK hA _ _ _ (lv_sub hl [1, 2, 0] rfl) hP hS
        · have T := T2 hc
          refine lv_iload_n hex hb d_M_reachFrom_39 rfl (lv_at hl 1 rfl) ?_
          refine lv_aload_n hex hb d_M_reachFrom_40 rfl (lv_at hl 0 rfl) ?_
          refine r_getR (ci := 4) (C := R_M) (T := F_M) (N := 22) hex hb hts (fun w h => List.mem_cons_of_mem _ (in_M w h)) hown hK hP hLM rfl 5 (by decide) (hts _ (List.mem_cons_of_mem _ bg_396)) (fun _ h9 => h9) rfl d_M_reachFrom_41 ?_
          refine lv_iload_n hex hb d_M_reachFrom_44 rfl (lv_at hl 2 rfl) ?_
          obtain ⟨h12, T⟩ := T
          obtain ⟨h13, T⟩ := T
          refine r_iald hex hb hK hP (hLA 6 90 (by decide)).choose_spec (by decide) (by decide) h12 h13 d_M_reachFrom_45 ?_
          refine lv_aload_n hex hb d_M_reachFrom_46 rfl (lv_at hl 0 rfl) ?_
          refine r_getR (ci := 4) (C := R_M) (T := F_M) (N := 22) hex hb hts (fun w h => List.mem_cons_of_mem _ (in_M w h)) hown hK hP hLM rfl 2 (by decide) (hts _ (List.mem_cons_of_mem _ bg_393)) (fun _ h9 => h9) rfl d_M_reachFrom_47 ?_
          refine lv_iload_n hex hb d_M_reachFrom_50 rfl (lv_at hl 2 rfl) ?_
          obtain ⟨h14, T⟩ := T
          obtain ⟨h15, T⟩ := T
          refine r_iald hex hb hK hP (hLA 3 90 (by decide)).choose_spec (by decide) (by decide) h14 h15 d_M_reachFrom_51 ?_
          refine r_iadd hex hb d_M_reachFrom_52 ?_
          obtain ⟨h16, T⟩ := T
          obtain ⟨T1, T2⟩ := T
          refine r_icmp_gt (a := i1) (b := (σ.2.1 6 (r 6) i2.toNat) + (σ.2.1 3 (r 3) i2.toNat)) (tgt := 79) hex hb h10 h16 d_M_reachFrom_53 rfl (fun hc => ?_) (fun hc => ?_)
          · have T := T1 hc
            refine lv_iinc (v := iI (i2 + 1)) (lv' := [(2, .int (iI (i2 + 1))), (0, .ref (r 0)), (1, .int (iI i1))]) hex hb d_M_reachFrom_79 hl (k := 2) rfl (iI_add _ _) (Nat.le_of_ble_eq_true rfl) rfl (fun ls hl => ?_)
            refine lv_goto (tgt := 2) hex hb d_M_reachFrom_82 rfl ?_
            exact AtG.use T hK hA _ _ _ (lv_sub hl [1, 2, 0] rfl) hP hS
          · have T := T2 hc
            refine lv_aload_n hex hb d_M_reachFrom_56 rfl (lv_at hl 0 rfl) ?_
            refine lv_aload_n hex hb d_M_reachFrom_57 rfl (lv_at hl 0 rfl) ?_
            refine r_getR (ci := 4) (C := R_M) (T := F_M) (N := 22) hex hb hts (fun w h => List.mem_cons_of_mem _ (in_M w h)) hown hK hP hLM rfl 3 (by decide) (hts _ (List.mem_cons_of_mem _ bg_394)) (fun _ h9 => h9) rfl d_M_reachFrom_58 ?_
            refine lv_iconst (v := iI 3) hex hb d_M_reachFrom_61 rfl ?_
            refine lv_iload_n hex hb d_M_reachFrom_62 rfl (lv_at hl 2 rfl) ?_
            refine r_imul hex hb d_M_reachFrom_63 ?_
            refine lv_iload_n hex hb d_M_reachFrom_64 rfl (lv_at hl 1 rfl) ?_
            refine r_iadd hex hb d_M_reachFrom_65 ?_
            refine lv_aload_n hex hb d_M_reachFrom_66 rfl (lv_at hl 0 rfl) ?_
            refine r_getR (ci := 4) (C := R_M) (T := F_M) (N := 22) hex hb hts (fun w h => List.mem_cons_of_mem _ (in_M w h)) hown hK hP hLM rfl 5 (by decide) (hts _ (List.mem_cons_of_mem _ bg_396)) (fun _ h9 => h9) rfl d_M_reachFrom_67 ?_
            refine lv_iload_n hex hb d_M_reachFrom_70 rfl (lv_at hl 2 rfl) ?_
            obtain ⟨h17, T⟩ := T
            obtain ⟨h18, T⟩ := T
            refine r_iald hex hb hK hP (hLA 6 90 (by decide)).choose_spec (by decide) (by decide) h17 h18 d_M_reachFrom_71 ?_
            refine r_isub hex hb d_M_reachFrom_72 ?_
            refine lv_iconst (v := iI 1) hex hb d_M_reachFrom_73 rfl ?_
            refine r_isub hex hb d_M_reachFrom_74 ?_
            obtain ⟨h19, T⟩ := T
            obtain ⟨h20, T⟩ := T
            refine r_iald hex hb hK hP (hLA 4 270 (by decide)).choose_spec (by decide) (by decide) h19 h20 d_M_reachFrom_75 ?_
            refine r_call (va_runV (As := [.int (iI (σ.2.1 4 (r 4) ((((3 * i2) + i1) - (σ.2.1 6 (r 6) i2.toNat)) - 1).toNat))]) (rest := []) ⟨hex, hb, hml, hown, hts⟩ (Ct.use T H.size) (cwV 1 hts (gdV bg_504 bg_506 bp_28 bg_4 bc_M_reach) rfl rfl rfl hdV_M_reach ⟨by rw [hR]; exact Nat.le_of_ble_eq_true rfl, by rw [hR]; exact Nat.le_of_ble_eq_true rfl⟩) (px_preV (ci := 4) hNW hK hP hLM rfl) rfl rfl hl.1 rfl (lv_room (Nat.le_of_ble_eq_true rfl)) d_M_reachFrom_76 ⟨by rw [hR]; exact Nat.le_of_ble_eq_true rfl, by rw [hR]; exact Nat.le_of_ble_eq_true rfl⟩) hS hA hAs (fun v Λ1 σ1 H locs hp hP hK hA hS => ?_)
            obtain ⟨rfl, rfl, T⟩ := hp
            generalize σ1 = σa21 at hP T
            refine W.eq (g2 := F0 (xm x) 79 ls []) rfl ?_
            refine lv_iinc (v := iI (i2 + 1)) (lv' := [(2, .int (iI (i2 + 1))), (0, .ref (r 0)), (1, .int (iI i1))]) hex hb d_M_reachFrom_79 hl (k := 2) rfl (iI_add _ _) (Nat.le_of_ble_eq_true rfl) rfl (fun ls hl => ?_)
            refine lv_goto (tgt := 2) hex hb d_M_reachFrom_82 rfl ?_
            exact AtG.use T hK hA _ _ _ (lv_sub hl [1, 2, 0] rfl) hP hS
-- DirtyCardHeapModel.prepare()V
def rm_M_prepare : Room := { frames := 0, cells := 0, slots := 0, locals := 0 }
abbrev X_M_prepare (x : Cx) : Prop := CxOk x b_M_prepare 2 wl_M_prepare R_M none rm_M_prepare "prepare"
abbrev K_M_prepare (l : Launch) (D : va_G) (Λ : Lam) (σ : Mem) (r : Nat → Nat) (P : Mem → Prop) : Prop := Ct l D y_M_prepare wl_M_prepare rm_M_prepare [.ref (r 0)] Λ σ (pV Λ P)
abbrev N_M_prepare_0 (x : Cx) (P : Mem → Prop) (Λ : Lam) (σ : Mem) (r : Nat → Nat) : Prop := AtG x (pV Λ P) 2 0 0 0 Λ σ [(0, .ref (r 0))] []
abbrev N_M_prepare_12 (x : Cx) (P : Mem → Prop) (Λ : Lam) (σ : Mem) (r : Nat → Nat) (i1 : Int) : Prop := AtG x (pV Λ P) 2 12 0 0 Λ σ [(0, .ref (r 0)), (1, .int (iI i1))] []
abbrev N_M_prepare_45 (x : Cx) (P : Mem → Prop) (Λ : Lam) (σ : Mem) (r : Nat → Nat) (i1 : Int) (s1 : Int) (s2 : Int) : Prop := AtG x (pV Λ P) 2 45 0 0 Λ σ [(0, .ref (r 0)), (1, .int (iI i1))] [.int (iI s2), .int (iI s1), .ref (r 56)]
abbrev N_M_prepare_66 (x : Cx) (P : Mem → Prop) (Λ : Lam) (σ : Mem) (r : Nat → Nat) (i1 : Int) : Prop := AtG x (pV Λ P) 2 66 0 0 Λ σ [(0, .ref (r 0)), (1, .int (iI i1))] []
theorem e_M_prepare {l : Launch} {D : va_G} {Λ : Lam} {σ : Mem} {r : Nat → Nat} {P : Mem → Prop} (h : ∀ x : Cx, xl x = l → xD x = D → X_M_prepare x → N_M_prepare_0 x P Λ σ r) : K_M_prepare l D Λ σ r P := Ct.of (by decide) rfl (Nat.le_of_ble_eq_true rfl) h
set_option maxHeartbeats 4000000 in
set_option maxRecDepth 100000 in
theorem u_M_prepare_0 {x : Cx} (hx : X_M_prepare x) {P : Mem → Prop} {Λ : Lam} {σ : Mem} {r : Nat → Nat} (hL : LayM Λ r) (T : N_M_prepare_12 x P Λ (upI (upI σ 421 (r 0) 0) 415 (r 0) 0) r 0) : N_M_prepare_0 x P Λ σ r := by
  obtain ⟨hex, hb, hml, hown, hts, hr, hlk, hR, hnm, hAs, hNW⟩ := hx
  obtain ⟨hLM, hLA⟩ := hL
  refine ⟨(), fun hK hA ls H locs hl hP hS => ?_⟩
  refine lv_aload_n hex hb d_M_prepare_0 rfl (lv_at hl 0 rfl) ?_
  refine lv_iconst (v := iI 0) hex hb d_M_prepare_1 rfl ?_
  refine r_putI (ci := 4) (C := R_M) (T := F_M) (N := 22) (v := 0) (ty := .int) hex hb hts (fun w h => List.mem_cons_of_mem _ (in_M w h)) tq_M tq_M_ok n_M hown hK hP hA hS hLM rfl 21 (by decide) (hts _ (List.mem_cons_of_mem _ bg_412)) (fun _ h9 => h9) rfl (by decide +kernel) rfl rfl rfl d_M_prepare_2 (fun H locs hP hS => ?_)
  refine lv_aload_n hex hb d_M_prepare_5 rfl (lv_at hl 0 rfl) ?_
  refine lv_iconst (v := iI 0) hex hb d_M_prepare_6 rfl ?_
  refine r_putI (ci := 4) (C := R_M) (T := F_M) (N := 22) (v := 0) (ty := .int) hex hb hts (fun w h => List.mem_cons_of_mem _ (in_M w h)) tq_M tq_M_ok n_M hown hK hP hA hS hLM rfl 15 (by decide) (hts _ (List.mem_cons_of_mem _ bg_406)) (fun _ h9 => h9) rfl (by decide +kernel) rfl rfl rfl d_M_prepare_7 (fun H locs hP hS => ?_)
  refine lv_iconst (v := iI 0) hex hb d_M_prepare_10 rfl ?_
  refine lv_istore_n (lv' := [(1, .int (iI 0)), (0, .ref (r 0))]) hex hb d_M_prepare_11 rfl hl (Nat.le_of_ble_eq_true rfl) rfl (fun ls hl => ?_)
  exact AtG.use T hK hA _ _ _ (lv_sub hl [1, 0] rfl) hP hS
set_option maxHeartbeats 4000000 in
set_option maxRecDepth 100000 in
theorem u_M_prepare_12 {x : Cx} (hx : X_M_prepare x) {P : Mem → Prop} {Λ : Lam} {σ : Mem} {r : Nat → Nat} {i1 : Int} (hL : LayM Λ r) (T : rng i1 ∧ ((90 ≤ i1 → N_M_prepare_66 x P Λ σ r 0) ∧ (¬ 90 ≤ i1 → 0 ≤ i1 ∧ i1 < (90 : Int) ∧ 0 ≤ i1 ∧ i1 < (90 : Int) ∧ rng ((upY σ 55 (r 55) i1.toNat 0).2.1 1 (r 1) i1.toNat) ∧ ((¬ ((upY σ 55 (r 55) i1.toNat 0).2.1 1 (r 1) i1.toNat) = 2 → N_M_prepare_45 x P Λ (upY σ 55 (r 55) i1.toNat 0) r i1 i1 0) ∧ (((upY σ 55 (r 55) i1.toNat 0).2.1 1 (r 1) i1.toNat) = 2 → N_M_prepare_45 x P Λ (upY σ 55 (r 55) i1.toNat 0) r i1 i1 1))))) : N_M_prepare_12 x P Λ σ r i1 := by
  obtain ⟨hex, hb, hml, hown, hts, hr, hlk, hR, hnm, hAs, hNW⟩ := hx
  obtain ⟨hLM, hLA⟩ := hL
  refine ⟨(), fun hK hA ls H locs hl hP hS => ?_⟩
  refine lv_iload_n hex hb d_M_prepare_12 rfl (lv_at hl 1 rfl) ?_
  refine lv_bipush (v := iI 90) hex hb d_M_prepare_13 rfl ?_
  obtain ⟨h1, T⟩ := T
  obtain ⟨T1, T2⟩ := T
  refine r_icmp_ge (a := i1) (b := 90) (tgt := 64) hex hb h1 ⟨by omega, by omega⟩ d_M_prepare_15 rfl (fun hc => ?_) (fun hc => ?_)
  · have T := T1 hc
    refine lv_iconst (v := iI 0) hex hb d_M_prepare_64 rfl ?_
    refine lv_istore_n (lv' := [(1, .int (iI 0)), (0, .ref (r 0))]) hex hb d_M_prepare_65 rfl hl (Nat.le_of_ble_eq_true rfl) rfl (fun ls hl => ?_)
    exact AtG.use T hK hA _ _ _ (lv_sub hl [1, 0] rfl) hP hS
  · have T := T2 hc
    refine lv_aload_n hex hb d_M_prepare_18 rfl (lv_at hl 0 rfl) ?_
    refine r_getR (ci := 4) (C := R_M) (T := F_M) (N := 22) hex hb hts (fun w h => List.mem_cons_of_mem _ (in_M w h)) hown hK hP hLM rfl 17 (by decide) (hts _ (List.mem_cons_of_mem _ bg_408)) (fun _ h9 => h9) rfl d_M_prepare_19 ?_
    refine lv_iload_n hex hb d_M_prepare_22 rfl (lv_at hl 1 rfl) ?_
    refine lv_iconst (v := iI 0) hex hb d_M_prepare_23 rfl ?_
    obtain ⟨h2, T⟩ := T
    obtain ⟨h3, T⟩ := T
    refine r_zast (v := 0) hex hb hK hP hA hS (hLA 55 90 (by decide)).choose_spec (by decide) (by decide) (by decide) h2 h3 (by decide) d_M_prepare_24 (fun H locs hP hS => ?_)
    refine lv_aload_n hex hb d_M_prepare_25 rfl (lv_at hl 0 rfl) ?_
    refine r_getR (ci := 4) (C := R_M) (T := F_M) (N := 22) hex hb hts (fun w h => List.mem_cons_of_mem _ (in_M w h)) hown hK hP hLM rfl 18 (by decide) (hts _ (List.mem_cons_of_mem _ bg_409)) (fun _ h9 => h9) rfl d_M_prepare_26 ?_
    refine lv_iload_n hex hb d_M_prepare_29 rfl (lv_at hl 1 rfl) ?_
    refine lv_aload_n hex hb d_M_prepare_30 rfl (lv_at hl 0 rfl) ?_
    refine r_getR (ci := 4) (C := R_M) (T := F_M) (N := 22) hex hb hts (fun w h => List.mem_cons_of_mem _ (in_M w h)) hown hK hP hLM rfl 0 (by decide) (hts _ (List.mem_cons_of_mem _ bg_391)) (fun _ h9 => h9) rfl d_M_prepare_31 ?_
    refine lv_iload_n hex hb d_M_prepare_34 rfl (lv_at hl 1 rfl) ?_
    obtain ⟨h4, T⟩ := T
    obtain ⟨h5, T⟩ := T
    refine r_iald hex hb hK hP (hLA 1 90 (by decide)).choose_spec (by decide) (by decide) h4 h5 d_M_prepare_35 ?_
    refine lv_iconst (v := iI 2) hex hb d_M_prepare_36 rfl ?_
    obtain ⟨h6, T⟩ := T
    obtain ⟨T1, T2⟩ := T
    refine r_icmp_ne (a := (upY σ 55 (r 55) i1.toNat 0).2.1 1 (r 1) i1.toNat) (b := 2) (tgt := 44) hex hb h6 ⟨by omega, by omega⟩ d_M_prepare_37 rfl (fun hc => ?_) (fun hc => ?_)
    · have T := T1 hc
      refine lv_iconst (v := iI 0) hex hb d_M_prepare_44 rfl ?_
      exact AtG.use T hK hA _ _ _ (lv_sub hl [0, 1] rfl) hP hS
    · have T := T2 hc
      refine lv_iconst (v := iI 1) hex hb d_M_prepare_40 rfl ?_
      refine lv_goto (tgt := 45) hex hb d_M_prepare_41 rfl ?_
      exact AtG.use T hK hA _ _ _ (lv_sub hl [0, 1] rfl) hP hS
set_option maxHeartbeats 4000000 in
set_option maxRecDepth 100000 in
theorem u_M_prepare_45 {x : Cx} (hx : X_M_prepare x) {P : Mem → Prop} {Λ : Lam} {σ : Mem} {r : Nat → Nat} {i1 : Int} {s1 : Int} {s2 : Int} (hL : LayM Λ r) (T : 0 ≤ s1 ∧ s1 < (90 : Int) ∧ (s2 = 0 ∨ s2 = 1) ∧ 0 ≤ i1 ∧ i1 < (90 : Int) ∧ 0 ≤ i1 ∧ i1 < (90 : Int) ∧ N_M_prepare_12 x P Λ (upY (upY σ 56 (r 56) s1.toNat s2) 10 (r 10) i1.toNat ((upY σ 56 (r 56) s1.toNat s2).2.1 6 (r 6) i1.toNat)) r (i1 + 1)) : N_M_prepare_45 x P Λ σ r i1 s1 s2 := by
  obtain ⟨hex, hb, hml, hown, hts, hr, hlk, hR, hnm, hAs, hNW⟩ := hx
  obtain ⟨hLM, hLA⟩ := hL
  refine ⟨(), fun hK hA ls H locs hl hP hS => ?_⟩
  obtain ⟨h1, T⟩ := T
  obtain ⟨h2, T⟩ := T
  obtain ⟨h3, T⟩ := T
  refine r_zast (v := s2) hex hb hK hP hA hS (hLA 56 90 (by decide)).choose_spec (by decide) (by decide) (by decide) h1 h2 h3 d_M_prepare_45 (fun H locs hP hS => ?_)
  refine lv_aload_n hex hb d_M_prepare_46 rfl (lv_at hl 0 rfl) ?_
  refine r_getR (ci := 4) (C := R_M) (T := F_M) (N := 22) hex hb hts (fun w h => List.mem_cons_of_mem _ (in_M w h)) hown hK hP hLM rfl 20 (by decide) (hts _ (List.mem_cons_of_mem _ bg_411)) (fun _ h9 => h9) rfl d_M_prepare_47 ?_
  refine lv_iload_n hex hb d_M_prepare_50 rfl (lv_at hl 1 rfl) ?_
  refine lv_aload_n hex hb d_M_prepare_51 rfl (lv_at hl 0 rfl) ?_
  refine r_getR (ci := 4) (C := R_M) (T := F_M) (N := 22) hex hb hts (fun w h => List.mem_cons_of_mem _ (in_M w h)) hown hK hP hLM rfl 5 (by decide) (hts _ (List.mem_cons_of_mem _ bg_396)) (fun _ h9 => h9) rfl d_M_prepare_52 ?_
  refine lv_iload_n hex hb d_M_prepare_55 rfl (lv_at hl 1 rfl) ?_
  obtain ⟨h4, T⟩ := T
  obtain ⟨h5, T⟩ := T
  refine r_iald hex hb hK hP (hLA 6 90 (by decide)).choose_spec (by decide) (by decide) h4 h5 d_M_prepare_56 ?_
  obtain ⟨h6, T⟩ := T
  obtain ⟨h7, T⟩ := T
  refine r_iast (v := (upY σ 56 (r 56) s1.toNat s2).2.1 6 (r 6) i1.toNat) hex hb hK hP hA hS (hLA 10 90 (by decide)).choose_spec (by decide) (by decide) h6 h7 d_M_prepare_57 (fun H locs hP hS => ?_)
  refine lv_iinc (v := iI (i1 + 1)) (lv' := [(1, .int (iI (i1 + 1))), (0, .ref (r 0))]) hex hb d_M_prepare_58 hl (k := 1) rfl (iI_add _ _) (Nat.le_of_ble_eq_true rfl) rfl (fun ls hl => ?_)
  refine lv_goto (tgt := 12) hex hb d_M_prepare_61 rfl ?_
  exact AtG.use T hK hA _ _ _ (lv_sub hl [1, 0] rfl) hP hS
set_option maxHeartbeats 4000000 in
set_option maxRecDepth 100000 in
theorem u_M_prepare_66 {x : Cx} (hx : X_M_prepare x) {P : Mem → Prop} {Λ : Lam} {σ : Mem} {r : Nat → Nat} {i1 : Int} (hL : LayM Λ r) (T : rng i1 ∧ ((8 ≤ i1 → P σ) ∧ (¬ 8 ≤ i1 → 0 ≤ i1 ∧ i1 < (8 : Int) ∧ 0 ≤ i1 ∧ i1 < (8 : Int) ∧ (σ.2.1 53 (r 53) i1.toNat = 0 ∨ σ.2.1 53 (r 53) i1.toNat = 1) ∧ N_M_prepare_66 x P Λ (upY σ 57 (r 57) i1.toNat (σ.2.1 53 (r 53) i1.toNat)) r (i1 + 1)))) : N_M_prepare_66 x P Λ σ r i1 := by
  obtain ⟨hex, hb, hml, hown, hts, hr, hlk, hR, hnm, hAs, hNW⟩ := hx
  obtain ⟨hLM, hLA⟩ := hL
  refine ⟨(), fun hK hA ls H locs hl hP hS => ?_⟩
  refine lv_iload_n hex hb d_M_prepare_66 rfl (lv_at hl 1 rfl) ?_
  refine lv_bipush (v := iI 8) hex hb d_M_prepare_67 rfl ?_
  obtain ⟨h1, T⟩ := T
  obtain ⟨T1, T2⟩ := T
  refine r_icmp_ge (a := i1) (b := 8) (tgt := 90) hex hb h1 ⟨by omega, by omega⟩ d_M_prepare_69 rfl (fun hc => ?_) (fun hc => ?_)
  · have T := T1 hc
    exact r_vret hex hb hr hlk hK hA hP hS ⟨rfl, rfl, T⟩ (Nat.zero_le _) (Nat.zero_le _) d_M_prepare_90
  · have T := T2 hc
    refine lv_aload_n hex hb d_M_prepare_72 rfl (lv_at hl 0 rfl) ?_
    refine r_getR (ci := 4) (C := R_M) (T := F_M) (N := 22) hex hb hts (fun w h => List.mem_cons_of_mem _ (in_M w h)) hown hK hP hLM rfl 19 (by decide) (hts _ (List.mem_cons_of_mem _ bg_410)) (fun _ h9 => h9) rfl d_M_prepare_73 ?_
    refine lv_iload_n hex hb d_M_prepare_76 rfl (lv_at hl 1 rfl) ?_
    refine lv_aload_n hex hb d_M_prepare_77 rfl (lv_at hl 0 rfl) ?_
    refine r_getR (ci := 4) (C := R_M) (T := F_M) (N := 22) hex hb hts (fun w h => List.mem_cons_of_mem _ (in_M w h)) hown hK hP hLM rfl 9 (by decide) (hts _ (List.mem_cons_of_mem _ bg_400)) (fun _ h9 => h9) rfl d_M_prepare_78 ?_
    refine lv_iload_n hex hb d_M_prepare_81 rfl (lv_at hl 1 rfl) ?_
    obtain ⟨h2, T⟩ := T
    obtain ⟨h3, T⟩ := T
    refine r_zald hex hb hK hP (hLA 53 8 (by decide)).choose_spec (by decide) (by decide) (by decide) h2 h3 d_M_prepare_82 ?_
    obtain ⟨h4, T⟩ := T
    obtain ⟨h5, T⟩ := T
    obtain ⟨h6, T⟩ := T
    refine r_zast (v := σ.2.1 53 (r 53) i1.toNat) hex hb hK hP hA hS (hLA 57 8 (by decide)).choose_spec (by decide) (by decide) (by decide) h4 h5 h6 d_M_prepare_83 (fun H locs hP hS => ?_)
    refine lv_iinc (v := iI (i1 + 1)) (lv' := [(1, .int (iI (i1 + 1))), (0, .ref (r 0))]) hex hb d_M_prepare_84 hl (k := 1) rfl (iI_add _ _) (Nat.le_of_ble_eq_true rfl) rfl (fun ls hl => ?_)
    refine lv_goto (tgt := 66) hex hb d_M_prepare_87 rfl ?_
    exact AtG.use T hK hA _ _ _ (lv_sub hl [1, 0] rfl) hP hS
