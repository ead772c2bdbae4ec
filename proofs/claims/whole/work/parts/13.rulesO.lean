-- DirtyCardHeap$OldPart.findPlace(I)I
def rm_O_findPlace : Room := { frames := 0, cells := 0, slots := 0, locals := 0 }
abbrev X_O_findPlace (x : Cx) : Prop := CxOk x b_O_findPlace 4 wl_O_findPlace R_O (some .int) rm_O_findPlace "findPlace"
abbrev K_O_findPlace (l : Launch) (D : va_G) (Λ : Lam) (σ : Mem) (c : Nat → Nat) (a1 : Int) (P : Int → Mem → Prop) : Prop := Ct l D y_O_findPlace wl_O_findPlace rm_O_findPlace [.ref (c 4), .int (iI a1)] Λ σ (pI Λ P)
abbrev N_O_findPlace_0 (x : Cx) (P : Int → Mem → Prop) (Λ : Lam) (σ : Mem) (c : Nat → Nat) (a1 : Int) : Prop := AtG x (pI Λ P) 4 0 0 0 Λ σ [(0, .ref (c 4)), (1, .int (iI a1))] []
abbrev N_O_findPlace_4 (x : Cx) (P : Int → Mem → Prop) (Λ : Lam) (σ : Mem) (c : Nat → Nat) (i1 : Int) (i2 : Int) (i3 : Int) : Prop := AtG x (pI Λ P) 4 4 0 0 Λ σ [(0, .ref (c 4)), (1, .int (iI i1)), (2, .int (iI i2)), (3, .int (iI i3))] []
abbrev N_O_findPlace_26 (x : Cx) (P : Int → Mem → Prop) (Λ : Lam) (σ : Mem) (c : Nat → Nat) (i1 : Int) (i3 : Int) (s0 : Int) : Prop := AtG x (pI Λ P) 4 26 0 0 Λ σ [(0, .ref (c 4)), (1, .int (iI i1)), (3, .int (iI i3))] [.int (iI s0)]
theorem e_O_findPlace {l : Launch} {D : va_G} {Λ : Lam} {σ : Mem} {c : Nat → Nat} {a1 : Int} {P : Int → Mem → Prop} (h : ∀ x : Cx, xl x = l → xD x = D → X_O_findPlace x → N_O_findPlace_0 x P Λ σ c a1) : K_O_findPlace l D Λ σ c a1 P := Ct.of (by decide) rfl (Nat.le_of_ble_eq_true rfl) h
set_option maxHeartbeats 4000000 in
set_option maxRecDepth 100000 in
theorem u_O_findPlace_0 {x : Cx} (hx : X_O_findPlace x) {P : Int → Mem → Prop} {Λ : Lam} {σ : Mem} {c : Nat → Nat} {a1 : Int} (hL : LayC Λ c) (T : N_O_findPlace_4 x P Λ σ c a1 0 0) : N_O_findPlace_0 x P Λ σ c a1 := by
  obtain ⟨hex, hb, hml, hown, hts, hr, hlk, hR, hnm, hAs, hNW⟩ := hx
  obtain ⟨hLH, ⟨cA1, hLA1⟩, ⟨hLR2, cA3, hLA3⟩, hLO, ⟨cA5, hLA5⟩, ⟨hLR6, cA7, hLA7⟩⟩ := hL
  refine ⟨(), fun hK hA ls H locs hl hP hS => ?_⟩
  refine lv_iconst (v := iI 0) hex hb d_O_findPlace_0 rfl ?_
  refine lv_istore_n (lv' := [(2, .int (iI 0)), (0, .ref (c 4)), (1, .int (iI a1))]) hex hb d_O_findPlace_1 rfl hl (Nat.le_of_ble_eq_true rfl) rfl (fun ls hl => ?_)
  refine lv_iconst (v := iI 0) hex hb d_O_findPlace_2 rfl ?_
  refine lv_istore_n (lv' := [(3, .int (iI 0)), (2, .int (iI 0)), (0, .ref (c 4)), (1, .int (iI a1))]) hex hb d_O_findPlace_3 rfl hl (Nat.le_of_ble_eq_true rfl) rfl (fun ls hl => ?_)
  exact AtG.use T hK hA _ _ _ (lv_sub hl [2, 3, 1, 0] rfl) hP hS
set_option maxHeartbeats 4000000 in
set_option maxRecDepth 100000 in
theorem u_O_findPlace_4 {x : Cx} (hx : X_O_findPlace x) {P : Int → Mem → Prop} {Λ : Lam} {σ : Mem} {c : Nat → Nat} {i1 : Int} {i2 : Int} {i3 : Int} (hL : LayC Λ c) (T : rng i3 ∧ ((64 ≤ i3 → P (-1) σ) ∧ (¬ 64 ≤ i3 → 0 ≤ i3 ∧ i3 < (64 : Int) ∧ ((σ.2.2 102 (c 5) i3.toNat = none → N_O_findPlace_26 x P Λ σ c i1 i3 (i2 + 1)) ∧ (∀ t4, σ.2.2 102 (c 5) i3.toNat = some t4 → N_O_findPlace_26 x P Λ σ c i1 i3 0))))) : N_O_findPlace_4 x P Λ σ c i1 i2 i3 := by
  obtain ⟨hex, hb, hml, hown, hts, hr, hlk, hR, hnm, hAs, hNW⟩ := hx
  obtain ⟨hLH, ⟨cA1, hLA1⟩, ⟨hLR2, cA3, hLA3⟩, hLO, ⟨cA5, hLA5⟩, ⟨hLR6, cA7, hLA7⟩⟩ := hL
  refine ⟨(), fun hK hA ls H locs hl hP hS => ?_⟩
  refine lv_iload_n hex hb d_O_findPlace_4 rfl (lv_at hl 3 rfl) ?_
  refine lv_bipush (v := iI 64) hex hb d_O_findPlace_5 rfl ?_
  obtain ⟨h1, T⟩ := T
  obtain ⟨T1, T2⟩ := T
  refine r_icmp_ge (a := i3) (b := 64) (tgt := 44) hex hb h1 ⟨by omega, by omega⟩ d_O_findPlace_7 rfl (fun hc => ?_) (fun hc => ?_)
  · have T := T1 hc
    refine lv_iconst (v := iI (-1)) hex hb d_O_findPlace_44 rfl ?_
    exact r_iret hex hb hr hlk hK hA hP hS ⟨_, rfl, rfl, T⟩ (Nat.zero_le _) (Nat.zero_le _) d_O_findPlace_45
  · have T := T2 hc
    refine lv_aload_n hex hb d_O_findPlace_10 rfl (lv_at hl 0 rfl) ?_
    refine r_getR (ci := 0) (C := R_O) (T := F_O) (N := 1) hex hb hts (fun w h => List.mem_cons_of_mem _ (in_O w h)) hown hK hP hLO rfl 0 (by decide) (hts _ (List.mem_cons_of_mem _ bg_40)) (fun _ h9 => h9) rfl d_O_findPlace_11 ?_
    refine lv_iload_n hex hb d_O_findPlace_14 rfl (lv_at hl 3 rfl) ?_
    obtain ⟨h2, T⟩ := T
    obtain ⟨h3, T⟩ := T
    refine r_aald hex hb hK hP hLA5 (by decide) (by decide) h2 h3 d_O_findPlace_15 ?_
    obtain ⟨Tn, Ts⟩ := T
    refine r_ifnonnull (o := σ.2.2 102 (c 5) i3.toNat) (tgt := 25) hex hb d_O_findPlace_16 rfl (fun hn => ?_) (fun t4 ht5 => ?_)
    · have T := Tn hn
      refine lv_iload_n hex hb d_O_findPlace_19 rfl (lv_at hl 2 rfl) ?_
      refine lv_iconst (v := iI 1) hex hb d_O_findPlace_20 rfl ?_
      refine r_iadd hex hb d_O_findPlace_21 ?_
      refine lv_goto (tgt := 26) hex hb d_O_findPlace_22 rfl ?_
      exact AtG.use T hK hA _ _ _ (lv_sub hl [0, 1, 3] rfl) hP hS
    · have T := Ts t4 ht5
      refine lv_iconst (v := iI 0) hex hb d_O_findPlace_25 rfl ?_
      exact AtG.use T hK hA _ _ _ (lv_sub hl [0, 1, 3] rfl) hP hS
set_option maxHeartbeats 4000000 in
set_option maxRecDepth 100000 in
theorem u_O_findPlace_26 {x : Cx} (hx : X_O_findPlace x) {P : Int → Mem → Prop} {Λ : Lam} {σ : Mem} {c : Nat → Nat} {i1 : Int} {i3 : Int} {s0 : Int} (hL : LayC Λ c) (T : rng s0 ∧ rng i1 ∧ ((¬ s0 = i1 → N_O_findPlace_4 x P Λ σ c i1 s0 (i3 + 1)) ∧ (s0 = i1 → P ((i3 + 1) - i1) σ))) : N_O_findPlace_26 x P Λ σ c i1 i3 s0 := by
  obtain ⟨hex, hb, hml, hown, hts, hr, hlk, hR, hnm, hAs, hNW⟩ := hx
  obtain ⟨hLH, ⟨cA1, hLA1⟩, ⟨hLR2, cA3, hLA3⟩, hLO, ⟨cA5, hLA5⟩, ⟨hLR6, cA7, hLA7⟩⟩ := hL
  refine ⟨(), fun hK hA ls H locs hl hP hS => ?_⟩
  refine lv_istore_n (lv' := [(2, .int (iI s0)), (0, .ref (c 4)), (1, .int (iI i1)), (3, .int (iI i3))]) hex hb d_O_findPlace_26 rfl hl (Nat.le_of_ble_eq_true rfl) rfl (fun ls hl => ?_)
  refine lv_iload_n hex hb d_O_findPlace_27 rfl (lv_at hl 0 rfl) ?_
  refine lv_iload_n hex hb d_O_findPlace_28 rfl (lv_at hl 2 rfl) ?_
  obtain ⟨h1, T⟩ := T
  obtain ⟨h2, T⟩ := T
  obtain ⟨T1, T2⟩ := T
  refine r_icmp_ne (a := s0) (b := i1) (tgt := 38) hex hb h1 h2 d_O_findPlace_29 rfl (fun hc => ?_) (fun hc => ?_)
  · have T := T1 hc
    refine lv_iinc (v := iI (i3 + 1)) (lv' := [(3, .int (iI (i3 + 1))), (2, .int (iI s0)), (0, .ref (c 4)), (1, .int (iI i1))]) hex hb d_O_findPlace_38 hl (k := 3) rfl (iI_add _ _) (Nat.le_of_ble_eq_true rfl) rfl (fun ls hl => ?_)
    refine lv_goto (tgt := 4) hex hb d_O_findPlace_41 rfl ?_
    exact AtG.use T hK hA _ _ _ (lv_sub hl [2, 3, 1, 0] rfl) hP hS
  · have T := T2 hc
    refine lv_iload_n hex hb d_O_findPlace_32 rfl (lv_at hl 3 rfl) ?_
    refine lv_iconst (v := iI 1) hex hb d_O_findPlace_33 rfl ?_
    refine r_iadd hex hb d_O_findPlace_34 ?_
    refine lv_iload_n hex hb d_O_findPlace_35 rfl (lv_at hl 2 rfl) ?_
    refine r_isub hex hb d_O_findPlace_36 ?_
    exact r_iret hex hb hr hlk hK hA hP hS ⟨_, rfl, rfl, T⟩ (Nat.zero_le _) (Nat.zero_le _) d_O_findPlace_37
-- DirtyCardHeap$OldPart.fill(IILDirtyCardHeap$Thing;)V
def rm_O_fill : Room := { frames := 1, cells := 0, slots := 0, locals := 21 }
abbrev X_O_fill (x : Cx) : Prop := CxOk x b_O_fill 5 wl_O_fill R_O none rm_O_fill "fill"
abbrev K_O_fill (l : Launch) (D : va_G) (Λ : Lam) (σ : Mem) (c : Nat → Nat) (a1 : Int) (a2 : Int) (a3 : Option Nat) (P : Mem → Prop) : Prop := Ct l D y_O_fill wl_O_fill rm_O_fill [.ref (c 4), .int (iI a1), .int (iI a2), va_rf a3] Λ σ (pV Λ P)
abbrev N_O_fill_0 (x : Cx) (P : Mem → Prop) (Λ : Lam) (σ : Mem) (c : Nat → Nat) (a1 : Int) (a2 : Int) (a3 : Option Nat) : Prop := AtG x (pV Λ P) 5 0 0 0 Λ σ [(0, .ref (c 4)), (1, .int (iI a1)), (2, .int (iI a2)), (3, va_rf a3)] []
abbrev N_O_fill_7 (x : Cx) (P : Mem → Prop) (Λ : Lam) (σ : Mem) (c : Nat → Nat) (i1 : Int) (i2 : Int) (o3 : Option Nat) (i4 : Int) : Prop := AtG x (pV Λ P) 5 7 0 0 Λ σ [(0, .ref (c 4)), (1, .int (iI i1)), (2, .int (iI i2)), (3, va_rf o3), (4, .int (iI i4))] []
theorem e_O_fill {l : Launch} {D : va_G} {Λ : Lam} {σ : Mem} {c : Nat → Nat} {a1 : Int} {a2 : Int} {a3 : Option Nat} {P : Mem → Prop} (h : ∀ x : Cx, xl x = l → xD x = D → X_O_fill x → N_O_fill_0 x P Λ σ c a1 a2 a3) : K_O_fill l D Λ σ c a1 a2 a3 P := by cases a3 <;> exact Ct.of (by decide) rfl (Nat.le_of_ble_eq_true rfl) h
set_option maxHeartbeats 4000000 in
set_option maxRecDepth 100000 in
theorem u_O_fill_0 {x : Cx} (hx : X_O_fill x) {P : Mem → Prop} {Λ : Lam} {σ : Mem} {c : Nat → Nat} {a1 : Int} {a2 : Int} {a3 : Option Nat} (hL : LayC Λ c) (T : rng a1 ∧ N_O_fill_7 x P Λ σ c a1 a2 a3 (max a1 0)) : N_O_fill_0 x P Λ σ c a1 a2 a3 := by
  obtain ⟨hex, hb, hml, hown, hts, hr, hlk, hR, hnm, hAs, hNW⟩ := hx
  obtain ⟨hLH, ⟨cA1, hLA1⟩, ⟨hLR2, cA3, hLA3⟩, hLO, ⟨cA5, hLA5⟩, ⟨hLR6, cA7, hLA7⟩⟩ := hL
  refine ⟨(), fun hK hA ls H locs hl hP hS => ?_⟩
  refine lv_iload_n hex hb d_O_fill_0 rfl (lv_at hl 1 rfl) ?_
  refine lv_iconst (v := iI 0) hex hb d_O_fill_1 rfl ?_
  obtain ⟨h1, T⟩ := T
  refine va_mmax hex hb (by rw [hml]; exact hl.1.symm) hown (hts _ (List.mem_cons_of_mem _ bg_130)) (hts _ (List.mem_cons_of_mem _ bg_131)) (hts _ (List.mem_cons_of_mem _ bg_5)) (hts _ (List.mem_cons_of_mem _ bg_132)) (by rw [hR]; exact Nat.le_of_ble_eq_true rfl) (by rw [hR]; exact Nat.le_of_ble_eq_true rfl) (Nat.zero_le _) (Nat.zero_le _) d_O_fill_2 ?_
  rw [iI_max h1 ⟨by omega, by omega⟩]
  refine lv_istore (lv' := [(4, .int (iI (max a1 0))), (0, .ref (c 4)), (1, .int (iI a1)), (2, .int (iI a2)), (3, va_rf a3)]) hex hb d_O_fill_5 hl (Nat.le_of_ble_eq_true rfl) (by generalize a3 = zz; cases zz <;> rfl) (fun ls hl => ?_)
  exact AtG.use T hK hA _ _ _ (lv_sub hl [1, 2, 3, 4, 0] rfl) hP hS
set_option maxHeartbeats 4000000 in
set_option maxRecDepth 100000 in
theorem u_O_fill_7 {x : Cx} (hx : X_O_fill x) {P : Mem → Prop} {Λ : Lam} {σ : Mem} {c : Nat → Nat} {i1 : Int} {i2 : Int} {o3 : Option Nat} {i4 : Int} (hL : LayC Λ c) (T : rng i4 ∧ rng (i1 + i2) ∧ (((i1 + i2) ≤ i4 → P σ) ∧ (¬ (i1 + i2) ≤ i4 → ((64 ≤ i4 → P σ) ∧ (¬ 64 ≤ i4 → 0 ≤ i4 ∧ i4 < (64 : Int) ∧ (∀ t, o3 = some t → isT Λ t) ∧ N_O_fill_7 x P Λ (upX σ 102 (c 5) i4.toNat o3) c i1 i2 o3 (i4 + 1)))))) : N_O_fill_7 x P Λ σ c i1 i2 o3 i4 := by
  obtain ⟨hex, hb, hml, hown, hts, hr, hlk, hR, hnm, hAs, hNW⟩ := hx
  obtain ⟨hLH, ⟨cA1, hLA1⟩, ⟨hLR2, cA3, hLA3⟩, hLO, ⟨cA5, hLA5⟩, ⟨hLR6, cA7, hLA7⟩⟩ := hL
  refine ⟨(), fun hK hA ls H locs hl hP hS => ?_⟩
  refine lv_iload hex hb d_O_fill_7 (lv_at hl 4 rfl) ?_
  refine lv_iload_n hex hb d_O_fill_9 rfl (lv_at hl 1 rfl) ?_
  refine lv_iload_n hex hb d_O_fill_10 rfl (lv_at hl 2 rfl) ?_
  refine r_iadd hex hb d_O_fill_11 ?_
  obtain ⟨h1, T⟩ := T
  obtain ⟨h2, T⟩ := T
  obtain ⟨T1, T2⟩ := T
  refine r_icmp_ge (a := i4) (b := i1 + i2) (tgt := 36) hex hb h1 h2 d_O_fill_12 rfl (fun hc => ?_) (fun hc => ?_)
  · have T := T1 hc
    exact r_vret hex hb hr hlk hK hA hP hS ⟨rfl, rfl, T⟩ (Nat.zero_le _) (Nat.zero_le _) d_O_fill_36
  · have T := T2 hc
    refine lv_iload hex hb d_O_fill_15 (lv_at hl 4 rfl) ?_
    refine lv_bipush (v := iI 64) hex hb d_O_fill_17 rfl ?_
    obtain ⟨T1, T2⟩ := T
    refine r_icmp_ge (a := i4) (b := 64) (tgt := 36) hex hb h1 ⟨by omega, by omega⟩ d_O_fill_19 rfl (fun hc => ?_) (fun hc => ?_)
    · have T := T1 hc
      exact r_vret hex hb hr hlk hK hA hP hS ⟨rfl, rfl, T⟩ (Nat.zero_le _) (Nat.zero_le _) d_O_fill_36
    · have T := T2 hc
      refine lv_aload_n hex hb d_O_fill_22 rfl (lv_at hl 0 rfl) ?_
      refine r_getR (ci := 0) (C := R_O) (T := F_O) (N := 1) hex hb hts (fun w h => List.mem_cons_of_mem _ (in_O w h)) hown hK hP hLO rfl 0 (by decide) (hts _ (List.mem_cons_of_mem _ bg_40)) (fun _ h9 => h9) rfl d_O_fill_23 ?_
      refine lv_iload hex hb d_O_fill_26 (lv_at hl 4 rfl) ?_
      refine r_aload_n (o := o3) hex hb d_O_fill_28 rfl (lv_at hl 3 rfl) ?_
      obtain ⟨h3, T⟩ := T
      obtain ⟨h4, T⟩ := T
      obtain ⟨h5, T⟩ := T
      refine r_aast (o := o3) (ci := 2) hex hb hK hP hA hS hLA5 (by decide) (by decide) rfl rfl (fun t ht => ⟨_, (h5 t ht).1⟩) h3 h4 d_O_fill_29 (fun H locs hP hS => ?_)
      refine lv_iinc (v := iI (i4 + 1)) (lv' := [(4, .int (iI (i4 + 1))), (0, .ref (c 4)), (1, .int (iI i1)), (2, .int (iI i2)), (3, va_rf o3)]) hex hb d_O_fill_30 hl (k := 4) rfl (iI_add _ _) (Nat.le_of_ble_eq_true rfl) (by generalize o3 = zz; cases zz <;> rfl) (fun ls hl => ?_)
      refine lv_goto (tgt := 7) hex hb d_O_fill_33 rfl ?_
      exact AtG.use T hK hA _ _ _ (lv_sub hl [1, 2, 3, 4, 0] rfl) hP hS
-- DirtyCardHeap$OldPart.putAt(LDirtyCardHeap$Thing;I)V
def rm_O_putAt : Room := { frames := 2, cells := 0, slots := 0, locals := 45 }
abbrev X_O_putAt (x : Cx) : Prop := CxOk x b_O_putAt 3 wl_O_putAt R_O none rm_O_putAt "putAt"
abbrev K_O_putAt (l : Launch) (D : va_G) (Λ : Lam) (σ : Mem) (c : Nat → Nat) (a1 : Option Nat) (a2 : Int) (P : Mem → Prop) : Prop := Ct l D y_O_putAt wl_O_putAt rm_O_putAt [.ref (c 4), va_rf a1, .int (iI a2)] Λ σ (pV Λ P)
abbrev N_O_putAt_0 (x : Cx) (P : Mem → Prop) (Λ : Lam) (σ : Mem) (c : Nat → Nat) (a1 : Option Nat) (a2 : Int) : Prop := AtG x (pV Λ P) 3 0 0 0 Λ σ [(0, .ref (c 4)), (1, va_rf a1), (2, .int (iI a2))] []
theorem e_O_putAt {l : Launch} {D : va_G} {Λ : Lam} {σ : Mem} {c : Nat → Nat} {a1 : Option Nat} {a2 : Int} {P : Mem → Prop} (h : ∀ x : Cx, xl x = l → xD x = D → X_O_putAt x → N_O_putAt_0 x P Λ σ c a1 a2) : K_O_putAt l D Λ σ c a1 a2 P := by cases a1 <;> exact Ct.of (by decide) rfl (Nat.le_of_ble_eq_true rfl) h
set_option maxHeartbeats 4000000 in
set_option maxRecDepth 100000 in
theorem u_O_putAt_0 {x : Cx} (hx : X_O_putAt x) {P : Mem → Prop} {Λ : Lam} {σ : Mem} {c : Nat → Nat} {a1 : Option Nat} {a2 : Int} (hL : LayC Λ c) (T : (∃ t1, a1 = some t1 ∧ isT Λ t1 ∧ K_T_size (xl x) (xD x) Λ (upI σ 203 t1 a2) t1 (fun z4 σa4 => K_O_fill (xl x) (xD x) Λ σa4 c a2 z4 (some t1) (fun σa5 => P σa5)))) : N_O_putAt_0 x P Λ σ c a1 a2 := by
  obtain ⟨hex, hb, hml, hown, hts, hr, hlk, hR, hnm, hAs, hNW⟩ := hx
  obtain ⟨hLH, ⟨cA1, hLA1⟩, ⟨hLR2, cA3, hLA3⟩, hLO, ⟨cA5, hLA5⟩, ⟨hLR6, cA7, hLA7⟩⟩ := hL
  refine ⟨(), fun hK hA ls H locs hl hP hS => ?_⟩
  refine r_aload_n (o := a1) hex hb d_O_putAt_0 rfl (lv_at hl 1 rfl) ?_
  refine lv_iload_n hex hb d_O_putAt_1 rfl (lv_at hl 2 rfl) ?_
  obtain ⟨t1, ht2, T⟩ := T
  have hl : lv_has ls 3 [(0, .ref (c 4)), (1, .ref t1), (2, .int (iI a2))] := by have h9 := hl; rw [ht2] at h9; exact h9
  rw [ht2]
  obtain ⟨⟨hT3, ⟨cT3, hF3⟩, hn3⟩, T⟩ := T
  refine r_putI (ci := 2) (C := R_T) (T := F_T) (N := 7) (v := a2) (ty := .int) hex hb hts (fun w h => List.mem_cons_of_mem _ (in_T w h)) tq_T tq_T_ok n_T hown hK hP hA hS hT3 rfl 3 (by decide) (hts _ (List.mem_cons_of_mem _ bg_237)) (fun _ h9 => h9) rfl (by decide +kernel) rfl rfl rfl d_O_putAt_2 (fun H locs hP hS => ?_)
  refine lv_aload_n hex hb d_O_putAt_5 rfl (lv_at hl 0 rfl) ?_
  refine lv_iload_n hex hb d_O_putAt_6 rfl (lv_at hl 2 rfl) ?_
  refine lv_aload_n hex hb d_O_putAt_7 rfl (lv_at hl 1 rfl) ?_
  refine r_call (va_runV (As := []) (rest := [.int (iI a2), .ref (c 4)]) ⟨hex, hb, hml, hown, hts⟩ (Ct.use T H.size) (cwV 0 hts (gdV bg_125 bg_86 bg_87 bg_6 bc_T_size) rfl rfl rfl hdV_T_size ⟨by rw [hR]; exact Nat.le_of_ble_eq_true rfl, by rw [hR]; exact Nat.le_of_ble_eq_true rfl⟩) (px_preV (ci := 2) hNW hK hP hT3 rfl) rfl rfl hl.1 rfl (lv_room (Nat.le_of_ble_eq_true rfl)) d_O_putAt_8 ⟨by rw [hR]; exact Nat.le_of_ble_eq_true rfl, by rw [hR]; exact Nat.le_of_ble_eq_true rfl⟩) hS hA hAs (fun v Λ1 σ1 H locs hp hP hK hA hS => ?_)
  obtain ⟨z4, rfl, rfl, T⟩ := hp
  generalize σ1 = σa4 at hP T
  refine W.eq (g2 := F0 (xm x) 11 ls [.int (iI z4), .int (iI a2), .ref (c 4)]) rfl ?_
  refine lv_aload_n hex hb d_O_putAt_11 rfl (lv_at hl 1 rfl) ?_
  refine r_call (va_runV (As := [.int (iI a2), .int (iI z4), .ref t1]) (rest := []) ⟨hex, hb, hml, hown, hts⟩ (Ct.use T H.size) (cwV 3 hts (gdV bg_126 bg_128 bp_4 bg_3 bc_O_fill) rfl rfl rfl hdV_O_fill ⟨by rw [hR]; exact Nat.le_of_ble_eq_true rfl, by rw [hR]; exact Nat.le_of_ble_eq_true rfl⟩) (px_preV (ci := 0) hNW hK hP hLO rfl) rfl rfl hl.1 rfl (lv_room (Nat.le_of_ble_eq_true rfl)) d_O_putAt_12 ⟨by rw [hR]; exact Nat.le_of_ble_eq_true rfl, by rw [hR]; exact Nat.le_of_ble_eq_true rfl⟩) hS hA hAs (fun v Λ1 σ1 H locs hp hP hK hA hS => ?_)
  obtain ⟨rfl, rfl, T⟩ := hp
  generalize σ1 = σa5 at hP T
  refine W.eq (g2 := F0 (xm x) 15 ls []) rfl ?_
  exact r_vret hex hb hr hlk hK hA hP hS ⟨rfl, rfl, T⟩ (Nat.zero_le _) (Nat.zero_le _) d_O_putAt_15
set_option maxRecDepth 100000 in
theorem w_O_putAt {l : Launch} {D : va_G} {Λ : Lam} {σ : Mem} {c : Nat → Nat} {a1 : Option Nat} {a2 : Int} {P : Mem → Prop} (hL : LayC Λ c) (T : (∃ t1, a1 = some t1 ∧ isT Λ t1 ∧ K_T_size l D Λ (upI σ 203 t1 a2) t1 (fun z4 σa4 => K_O_fill l D Λ σa4 c a2 z4 (some t1) (fun σa5 => P σa5)))) : K_O_putAt l D Λ σ c a1 a2 P := e_O_putAt (fun x hl hD hx => by subst hl; subst hD; exact u_O_putAt_0 hx hL T)
-- DirtyCardHeap$OldPart.takeOut(LDirtyCardHeap$Thing;)V
def rm_O_takeOut : Room := { frames := 2, cells := 0, slots := 0, locals := 45 }
abbrev X_O_takeOut (x : Cx) : Prop := CxOk x b_O_takeOut 2 wl_O_takeOut R_O none rm_O_takeOut "takeOut"
abbrev K_O_takeOut (l : Launch) (D : va_G) (Λ : Lam) (σ : Mem) (c : Nat → Nat) (a1 : Option Nat) (P : Mem → Prop) : Prop := Ct l D y_O_takeOut wl_O_takeOut rm_O_takeOut [.ref (c 4), va_rf a1] Λ σ (pV Λ P)
abbrev N_O_takeOut_0 (x : Cx) (P : Mem → Prop) (Λ : Lam) (σ : Mem) (c : Nat → Nat) (a1 : Option Nat) : Prop := AtG x (pV Λ P) 2 0 0 0 Λ σ [(0, .ref (c 4)), (1, va_rf a1)] []
theorem e_O_takeOut {l : Launch} {D : va_G} {Λ : Lam} {σ : Mem} {c : Nat → Nat} {a1 : Option Nat} {P : Mem → Prop} (h : ∀ x : Cx, xl x = l → xD x = D → X_O_takeOut x → N_O_takeOut_0 x P Λ σ c a1) : K_O_takeOut l D Λ σ c a1 P := by cases a1 <;> exact Ct.of (by decide) rfl (Nat.le_of_ble_eq_true rfl) h
set_option maxHeartbeats 4000000 in
set_option maxRecDepth 100000 in
theorem u_O_takeOut_0 {x : Cx} (hx : X_O_takeOut x) {P : Mem → Prop} {Λ : Lam} {σ : Mem} {c : Nat → Nat} {a1 : Option Nat} (hL : LayC Λ c) (T : (∃ t1, a1 = some t1 ∧ isT Λ t1 ∧ K_T_size (xl x) (xD x) Λ σ t1 (fun z4 σa4 => K_O_fill (xl x) (xD x) Λ σa4 c (σ.1 203 t1) z4 none (fun σa5 => P σa5)))) : N_O_takeOut_0 x P Λ σ c a1 := by
  obtain ⟨hex, hb, hml, hown, hts, hr, hlk, hR, hnm, hAs, hNW⟩ := hx
  obtain ⟨hLH, ⟨cA1, hLA1⟩, ⟨hLR2, cA3, hLA3⟩, hLO, ⟨cA5, hLA5⟩, ⟨hLR6, cA7, hLA7⟩⟩ := hL
  refine ⟨(), fun hK hA ls H locs hl hP hS => ?_⟩
  refine lv_aload_n hex hb d_O_takeOut_0 rfl (lv_at hl 0 rfl) ?_
  refine r_aload_n (o := a1) hex hb d_O_takeOut_1 rfl (lv_at hl 1 rfl) ?_
  obtain ⟨t1, ht2, T⟩ := T
  have hl : lv_has ls 2 [(0, .ref (c 4)), (1, .ref t1)] := by have h9 := hl; rw [ht2] at h9; exact h9
  rw [ht2]
  obtain ⟨⟨hT3, ⟨cT3, hF3⟩, hn3⟩, T⟩ := T
  refine r_getI (ci := 2) (C := R_T) (T := F_T) (N := 7) hex hb hts (fun w h => List.mem_cons_of_mem _ (in_T w h)) hown hK hP hT3 rfl 3 (by decide) (hts _ (List.mem_cons_of_mem _ bg_237)) (fun _ h9 => h9) rfl d_O_takeOut_2 ?_
  refine lv_aload_n hex hb d_O_takeOut_5 rfl (lv_at hl 1 rfl) ?_
  refine r_call (va_runV (As := []) (rest := [.int (iI (σ.1 203 t1)), .ref (c 4)]) ⟨hex, hb, hml, hown, hts⟩ (Ct.use T H.size) (cwV 0 hts (gdV bg_125 bg_86 bg_87 bg_6 bc_T_size) rfl rfl rfl hdV_T_size ⟨by rw [hR]; exact Nat.le_of_ble_eq_true rfl, by rw [hR]; exact Nat.le_of_ble_eq_true rfl⟩) (px_preV (ci := 2) hNW hK hP hT3 rfl) rfl rfl hl.1 rfl (lv_room (Nat.le_of_ble_eq_true rfl)) d_O_takeOut_6 ⟨by rw [hR]; exact Nat.le_of_ble_eq_true rfl, by rw [hR]; exact Nat.le_of_ble_eq_true rfl⟩) hS hA hAs (fun v Λ1 σ1 H locs hp hP hK hA hS => ?_)
  obtain ⟨z4, rfl, rfl, T⟩ := hp
  generalize σ1 = σa4 at hP T
  refine W.eq (g2 := F0 (xm x) 9 ls [.int (iI z4), .int (iI (σ.1 203 t1)), .ref (c 4)]) rfl ?_
  refine lv_null hex hb d_O_takeOut_9 ?_
  refine r_call (va_runV (As := [.int (iI (σ.1 203 t1)), .int (iI z4), va_rf none]) (rest := []) ⟨hex, hb, hml, hown, hts⟩ (Ct.use T H.size) (cwV 3 hts (gdV bg_126 bg_128 bp_4 bg_3 bc_O_fill) rfl rfl rfl hdV_O_fill ⟨by rw [hR]; exact Nat.le_of_ble_eq_true rfl, by rw [hR]; exact Nat.le_of_ble_eq_true rfl⟩) (px_preV (ci := 0) hNW hK hP hLO rfl) rfl rfl hl.1 rfl (lv_room (Nat.le_of_ble_eq_true rfl)) d_O_takeOut_10 ⟨by rw [hR]; exact Nat.le_of_ble_eq_true rfl, by rw [hR]; exact Nat.le_of_ble_eq_true rfl⟩) hS hA hAs (fun v Λ1 σ1 H locs hp hP hK hA hS => ?_)
  obtain ⟨rfl, rfl, T⟩ := hp
  generalize σ1 = σa5 at hP T
  refine W.eq (g2 := F0 (xm x) 13 ls []) rfl ?_
  exact r_vret hex hb hr hlk hK hA hP hS ⟨rfl, rfl, T⟩ (Nat.zero_le _) (Nat.zero_le _) d_O_takeOut_13
set_option maxRecDepth 100000 in
theorem w_O_takeOut {l : Launch} {D : va_G} {Λ : Lam} {σ : Mem} {c : Nat → Nat} {a1 : Option Nat} {P : Mem → Prop} (hL : LayC Λ c) (T : (∃ t1, a1 = some t1 ∧ isT Λ t1 ∧ K_T_size l D Λ σ t1 (fun z4 σa4 => K_O_fill l D Λ σa4 c (σ.1 203 t1) z4 none (fun σa5 => P σa5)))) : K_O_takeOut l D Λ σ c a1 P := e_O_takeOut (fun x hl hD hx => by subst hl; subst hD; exact u_O_takeOut_0 hx hL T)
-- DirtyCardHeap$OldPart.thingAt(I)LDirtyCardHeap$Thing;
def rm_O_thingAt : Room := { frames := 0, cells := 0, slots := 0, locals := 0 }
abbrev X_O_thingAt (x : Cx) : Prop := CxOk x b_O_thingAt 3 wl_O_thingAt R_O (some (.object "DirtyCardHeap$Thing")) rm_O_thingAt "thingAt"
abbrev K_O_thingAt (l : Launch) (D : va_G) (Λ : Lam) (σ : Mem) (c : Nat → Nat) (a1 : Int) (P : Option Nat → Mem → Prop) : Prop := Ct l D y_O_thingAt wl_O_thingAt rm_O_thingAt [.ref (c 4), .int (iI a1)] Λ σ (pQ Λ P)
abbrev N_O_thingAt_0 (x : Cx) (P : Option Nat → Mem → Prop) (Λ : Lam) (σ : Mem) (c : Nat → Nat) (a1 : Int) : Prop := AtG x (pQ Λ P) 3 0 0 0 Λ σ [(0, .ref (c 4)), (1, .int (iI a1))] []
theorem e_O_thingAt {l : Launch} {D : va_G} {Λ : Lam} {σ : Mem} {c : Nat → Nat} {a1 : Int} {P : Option Nat → Mem → Prop} (h : ∀ x : Cx, xl x = l → xD x = D → X_O_thingAt x → N_O_thingAt_0 x P Λ σ c a1) : K_O_thingAt l D Λ σ c a1 P := Ct.of (by decide) rfl (Nat.le_of_ble_eq_true rfl) h
set_option maxHeartbeats 4000000 in
set_option maxRecDepth 100000 in
theorem u_O_thingAt_0 {x : Cx} (hx : X_O_thingAt x) {P : Option Nat → Mem → Prop} {Λ : Lam} {σ : Mem} {c : Nat → Nat} {a1 : Int} (hL : LayC Λ c) (T : 0 ≤ a1 ∧ a1 < (64 : Int) ∧ ((σ.2.2 102 (c 5) a1.toNat = none → P none σ) ∧ (∀ t3, σ.2.2 102 (c 5) a1.toNat = some t3 → isT Λ t3 ∧ rng (σ.1 203 t3) ∧ rng a1 ∧ ((¬ (σ.1 203 t3) = a1 → P none σ) ∧ ((σ.1 203 t3) = a1 → P (some t3) σ))))) : N_O_thingAt_0 x P Λ σ c a1 := by
  obtain ⟨hex, hb, hml, hown, hts, hr, hlk, hR, hnm, hAs, hNW⟩ := hx
  obtain ⟨hLH, ⟨cA1, hLA1⟩, ⟨hLR2, cA3, hLA3⟩, hLO, ⟨cA5, hLA5⟩, ⟨hLR6, cA7, hLA7⟩⟩ := hL
  refine ⟨(), fun hK hA ls H locs hl hP hS => ?_⟩
  refine lv_aload_n hex hb d_O_thingAt_0 rfl (lv_at hl 0 rfl) ?_
  refine r_getR (ci := 0) (C := R_O) (T := F_O) (N := 1) hex hb hts (fun w h => List.mem_cons_of_mem _ (in_O w h)) hown hK hP hLO rfl 0 (by decide) (hts _ (List.mem_cons_of_mem _ bg_40)) (fun _ h9 => h9) rfl d_O_thingAt_1 ?_
  refine lv_iload_n hex hb d_O_thingAt_4 rfl (lv_at hl 1 rfl) ?_
  obtain ⟨h1, T⟩ := T
  obtain ⟨h2, T⟩ := T
  refine r_aald hex hb hK hP hLA5 (by decide) (by decide) h1 h2 d_O_thingAt_5 ?_
  refine r_astore_n (o := σ.2.2 102 (c 5) a1.toNat) (lv' := [(2, va_rf (σ.2.2 102 (c 5) a1.toNat)), (0, .ref (c 4)), (1, .int (iI a1))]) hex hb d_O_thingAt_6 rfl hl (Nat.le_of_ble_eq_true rfl) rfl (fun ls hl => ?_)
  refine r_aload_n (o := σ.2.2 102 (c 5) a1.toNat) hex hb d_O_thingAt_7 rfl (lv_at hl 0 rfl) ?_
  obtain ⟨Tn, Ts⟩ := T
  refine r_ifnull (o := σ.2.2 102 (c 5) a1.toNat) (tgt := 23) hex hb d_O_thingAt_8 rfl (fun hn => ?_) (fun t3 ht4 => ?_)
  · have T := Tn hn
    have hl : lv_has ls 3 [(2, va_rf none), (0, .ref (c 4)), (1, .int (iI a1))] := by have h9 := hl; rw [hn] at h9; exact h9
    refine lv_null hex hb d_O_thingAt_23 ?_
    exact r_aret (o := none) hex hb hr hlk hK hA hP hS ⟨_, rfl, rfl, T⟩ (Nat.zero_le _) (Nat.zero_le _) d_O_thingAt_24
  · have T := Ts t3 ht4
    have hl : lv_has ls 3 [(2, .ref t3), (0, .ref (c 4)), (1, .int (iI a1))] := by have h9 := hl; rw [ht4] at h9; exact h9
    refine lv_aload_n hex hb d_O_thingAt_11 rfl (lv_at hl 0 rfl) ?_
    obtain ⟨⟨hT5, ⟨cT5, hF5⟩, hn5⟩, T⟩ := T
    refine r_getI (ci := 2) (C := R_T) (T := F_T) (N := 7) hex hb hts (fun w h => List.mem_cons_of_mem _ (in_T w h)) hown hK hP hT5 rfl 3 (by decide) (hts _ (List.mem_cons_of_mem _ bg_237)) (fun _ h9 => h9) rfl d_O_thingAt_12 ?_
    refine lv_iload_n hex hb d_O_thingAt_15 rfl (lv_at hl 2 rfl) ?_
    obtain ⟨h6, T⟩ := T
    obtain ⟨h7, T⟩ := T
    obtain ⟨T1, T2⟩ := T
    refine r_icmp_ne (a := σ.1 203 t3) (b := a1) (tgt := 23) hex hb h6 h7 d_O_thingAt_16 rfl (fun hc => ?_) (fun hc => ?_)
    · have T := T1 hc
      refine lv_null hex hb d_O_thingAt_23 ?_
      exact r_aret (o := none) hex hb hr hlk hK hA hP hS ⟨_, rfl, rfl, T⟩ (Nat.zero_le _) (Nat.zero_le _) d_O_thingAt_24
    · have T := T2 hc
      refine lv_aload_n hex hb d_O_thingAt_19 rfl (lv_at hl 0 rfl) ?_
      refine lv_goto (tgt := 24) hex hb d_O_thingAt_20 rfl ?_
      exact r_aret (o := (some t3)) hex hb hr hlk hK hA hP hS ⟨_, rfl, rfl, T⟩ (Nat.zero_le _) (Nat.zero_le _) d_O_thingAt_24
set_option maxRecDepth 100000 in
theorem w_O_thingAt {l : Launch} {D : va_G} {Λ : Lam} {σ : Mem} {c : Nat → Nat} {a1 : Int} {P : Option Nat → Mem → Prop} (hL : LayC Λ c) (T : 0 ≤ a1 ∧ a1 < (64 : Int) ∧ ((σ.2.2 102 (c 5) a1.toNat = none → P none σ) ∧ (∀ t3, σ.2.2 102 (c 5) a1.toNat = some t3 → isT Λ t3 ∧ rng (σ.1 203 t3) ∧ rng a1 ∧ ((¬ (σ.1 203 t3) = a1 → P none σ) ∧ ((σ.1 203 t3) = a1 → P (some t3) σ))))) : K_O_thingAt l D Λ σ c a1 P := e_O_thingAt (fun x hl hD hx => by subst hl; subst hD; exact u_O_thingAt_0 hx hL T)
-- DirtyCardHeap$OldPart.firstFrom(I)LDirtyCardHeap$Thing;
def rm_O_firstFrom : Room := { frames := 1, cells := 0, slots := 0, locals := 22 }
abbrev X_O_firstFrom (x : Cx) : Prop := CxOk x b_O_firstFrom 4 wl_O_firstFrom R_O (some (.object "DirtyCardHeap$Thing")) rm_O_firstFrom "firstFrom"
abbrev K_O_firstFrom (l : Launch) (D : va_G) (Λ : Lam) (σ : Mem) (c : Nat → Nat) (a1 : Int) (P : Option Nat → Mem → Prop) : Prop := Ct l D y_O_firstFrom wl_O_firstFrom rm_O_firstFrom [.ref (c 4), .int (iI a1)] Λ σ (pQ Λ P)
abbrev N_O_firstFrom_0 (x : Cx) (P : Option Nat → Mem → Prop) (Λ : Lam) (σ : Mem) (c : Nat → Nat) (a1 : Int) : Prop := AtG x (pQ Λ P) 4 0 0 0 Λ σ [(0, .ref (c 4)), (1, .int (iI a1))] []
abbrev N_O_firstFrom_6 (x : Cx) (P : Option Nat → Mem → Prop) (Λ : Lam) (σ : Mem) (c : Nat → Nat) (i2 : Int) : Prop := AtG x (pQ Λ P) 4 6 0 0 Λ σ [(0, .ref (c 4)), (2, .int (iI i2))] []
theorem e_O_firstFrom {l : Launch} {D : va_G} {Λ : Lam} {σ : Mem} {c : Nat → Nat} {a1 : Int} {P : Option Nat → Mem → Prop} (h : ∀ x : Cx, xl x = l → xD x = D → X_O_firstFrom x → N_O_firstFrom_0 x P Λ σ c a1) : K_O_firstFrom l D Λ σ c a1 P := Ct.of (by decide) rfl (Nat.le_of_ble_eq_true rfl) h
set_option maxHeartbeats 4000000 in
set_option maxRecDepth 100000 in
theorem u_O_firstFrom_0 {x : Cx} (hx : X_O_firstFrom x) {P : Option Nat → Mem → Prop} {Λ : Lam} {σ : Mem} {c : Nat → Nat} {a1 : Int} (hL : LayC Λ c) (T : rng a1 ∧ N_O_firstFrom_6 x P Λ σ c (max a1 0)) : N_O_firstFrom_0 x P Λ σ c a1 := by
  obtain ⟨hex, hb, hml, hown, hts, hr, hlk, hR, hnm, hAs, hNW⟩ := hx
  obtain ⟨hLH, ⟨cA1, hLA1⟩, ⟨hLR2, cA3, hLA3⟩, hLO, ⟨cA5, hLA5⟩, ⟨hLR6, cA7, hLA7⟩⟩ := hL
  refine ⟨(), fun hK hA ls H locs hl hP hS => ?_⟩
  refine lv_iload_n hex hb d_O_firstFrom_0 rfl (lv_at hl 1 rfl) ?_
  refine lv_iconst (v := iI 0) hex hb d_O_firstFrom_1 rfl ?_
  obtain ⟨h1, T⟩ := T
  refine va_mmax hex hb (by rw [hml]; exact hl.1.symm) hown (hts _ (List.mem_cons_of_mem _ bg_130)) (hts _ (List.mem_cons_of_mem _ bg_131)) (hts _ (List.mem_cons_of_mem _ bg_5)) (hts _ (List.mem_cons_of_mem _ bg_132)) (by rw [hR]; exact Nat.le_of_ble_eq_true rfl) (by rw [hR]; exact Nat.le_of_ble_eq_true rfl) (Nat.zero_le _) (Nat.zero_le _) d_O_firstFrom_2 ?_
  rw [iI_max h1 ⟨by omega, by omega⟩]
  refine lv_istore_n (lv' := [(2, .int (iI (max a1 0))), (0, .ref (c 4)), (1, .int (iI a1))]) hex hb d_O_firstFrom_5 rfl hl (Nat.le_of_ble_eq_true rfl) rfl (fun ls hl => ?_)
  exact AtG.use T hK hA _ _ _ (lv_sub hl [1, 0] rfl) hP hS
set_option maxHeartbeats 4000000 in
set_option maxRecDepth 100000 in
theorem u_O_firstFrom_6 {x : Cx} (hx : X_O_firstFrom x) {P : Option Nat → Mem → Prop} {Λ : Lam} {σ : Mem} {c : Nat → Nat} {i2 : Int} (hL : LayC Λ c) (T : rng i2 ∧ ((64 ≤ i2 → P none σ) ∧ (¬ 64 ≤ i2 → K_O_thingAt (xl x) (xD x) Λ σ c i2 (fun o2r σa2 => ((o2r = none → N_O_firstFrom_6 x P Λ σa2 c (i2 + 1)) ∧ (∀ t3, o2r = some t3 → P (some t3) σa2)))))) : N_O_firstFrom_6 x P Λ σ c i2 := by
  obtain ⟨hex, hb, hml, hown, hts, hr, hlk, hR, hnm, hAs, hNW⟩ := hx
  obtain ⟨hLH, ⟨cA1, hLA1⟩, ⟨hLR2, cA3, hLA3⟩, hLO, ⟨cA5, hLA5⟩, ⟨hLR6, cA7, hLA7⟩⟩ := hL
  refine ⟨(), fun hK hA ls H locs hl hP hS => ?_⟩
  refine lv_iload_n hex hb d_O_firstFrom_6 rfl (lv_at hl 1 rfl) ?_
  refine lv_bipush (v := iI 64) hex hb d_O_firstFrom_7 rfl ?_
  obtain ⟨h1, T⟩ := T
  obtain ⟨T1, T2⟩ := T
  refine r_icmp_ge (a := i2) (b := 64) (tgt := 30) hex hb h1 ⟨by omega, by omega⟩ d_O_firstFrom_9 rfl (fun hc => ?_) (fun hc => ?_)
  · have T := T1 hc
    refine lv_null hex hb d_O_firstFrom_30 ?_
    exact r_aret (o := none) hex hb hr hlk hK hA hP hS ⟨_, rfl, rfl, T⟩ (Nat.zero_le _) (Nat.zero_le _) d_O_firstFrom_31
  · have T := T2 hc
    refine lv_aload_n hex hb d_O_firstFrom_12 rfl (lv_at hl 0 rfl) ?_
    refine lv_iload_n hex hb d_O_firstFrom_13 rfl (lv_at hl 1 rfl) ?_
    refine r_call (va_runV (As := [.int (iI i2)]) (rest := []) ⟨hex, hb, hml, hown, hts⟩ (Ct.use T H.size) (cwV 1 hts (gdV bg_201 bg_202 bg_203 bg_3 bc_O_thingAt) rfl rfl rfl hdV_O_thingAt ⟨by rw [hR]; exact Nat.le_of_ble_eq_true rfl, by rw [hR]; exact Nat.le_of_ble_eq_true rfl⟩) (px_preV (ci := 0) hNW hK hP hLO rfl) rfl rfl hl.1 rfl (lv_room (Nat.le_of_ble_eq_true rfl)) d_O_firstFrom_14 ⟨by rw [hR]; exact Nat.le_of_ble_eq_true rfl, by rw [hR]; exact Nat.le_of_ble_eq_true rfl⟩) hS hA hAs (fun v Λ1 σ1 H locs hp hP hK hA hS => ?_)
    obtain ⟨o2r, rfl, rfl, T⟩ := hp
    generalize σ1 = σa2 at hP T
    refine W.eq (g2 := F0 (xm x) 17 ls [va_rf o2r]) rfl ?_
    refine r_astore_n (o := o2r) (lv' := [(3, va_rf o2r), (0, .ref (c 4)), (2, .int (iI i2))]) hex hb d_O_firstFrom_17 rfl hl (Nat.le_of_ble_eq_true rfl) rfl (fun ls hl => ?_)
    refine r_aload_n (o := o2r) hex hb d_O_firstFrom_18 rfl (lv_at hl 0 rfl) ?_
    obtain ⟨Tn, Ts⟩ := T
    refine r_ifnull (o := o2r) (tgt := 24) hex hb d_O_firstFrom_19 rfl (fun hn => ?_) (fun t3 ht4 => ?_)
    · have T := Tn hn
      have hl : lv_has ls 4 [(3, va_rf none), (0, .ref (c 4)), (2, .int (iI i2))] := by have h9 := hl; rw [hn] at h9; exact h9
      refine lv_iinc (v := iI (i2 + 1)) (lv' := [(2, .int (iI (i2 + 1))), (3, va_rf none), (0, .ref (c 4))]) hex hb d_O_firstFrom_24 hl (k := 2) rfl (iI_add _ _) (Nat.le_of_ble_eq_true rfl) rfl (fun ls hl => ?_)
      refine lv_goto (tgt := 6) hex hb d_O_firstFrom_27 rfl ?_
      exact AtG.use T hK hA _ _ _ (lv_sub hl [2, 0] rfl) hP hS
    · have T := Ts t3 ht4
      have hl : lv_has ls 4 [(3, .ref t3), (0, .ref (c 4)), (2, .int (iI i2))] := by have h9 := hl; rw [ht4] at h9; exact h9
      refine lv_aload_n hex hb d_O_firstFrom_22 rfl (lv_at hl 0 rfl) ?_
      exact r_aret (o := (some t3)) hex hb hr hlk hK hA hP hS ⟨_, rfl, rfl, T⟩ (Nat.zero_le _) (Nat.zero_le _) d_O_firstFrom_23
-- DirtyCardHeap$OldPart.firstGrey()LDirtyCardHeap$Thing;
def rm_O_firstGrey : Room := { frames := 1, cells := 0, slots := 0, locals := 22 }
abbrev X_O_firstGrey (x : Cx) : Prop := CxOk x b_O_firstGrey 3 wl_O_firstGrey R_O (some (.object "DirtyCardHeap$Thing")) rm_O_firstGrey "firstGrey"
abbrev K_O_firstGrey (l : Launch) (D : va_G) (Λ : Lam) (σ : Mem) (c : Nat → Nat) (P : Option Nat → Mem → Prop) : Prop := Ct l D y_O_firstGrey wl_O_firstGrey rm_O_firstGrey [.ref (c 4)] Λ σ (pQ Λ P)
abbrev N_O_firstGrey_0 (x : Cx) (P : Option Nat → Mem → Prop) (Λ : Lam) (σ : Mem) (c : Nat → Nat) : Prop := AtG x (pQ Λ P) 3 0 0 0 Λ σ [(0, .ref (c 4))] []
abbrev N_O_firstGrey_2 (x : Cx) (P : Option Nat → Mem → Prop) (Λ : Lam) (σ : Mem) (c : Nat → Nat) (i1 : Int) : Prop := AtG x (pQ Λ P) 3 2 0 0 Λ σ [(0, .ref (c 4)), (1, .int (iI i1))] []
theorem e_O_firstGrey {l : Launch} {D : va_G} {Λ : Lam} {σ : Mem} {c : Nat → Nat} {P : Option Nat → Mem → Prop} (h : ∀ x : Cx, xl x = l → xD x = D → X_O_firstGrey x → N_O_firstGrey_0 x P Λ σ c) : K_O_firstGrey l D Λ σ c P := Ct.of (by decide) rfl (Nat.le_of_ble_eq_true rfl) h
set_option maxHeartbeats 4000000 in
set_option maxRecDepth 100000 in
theorem u_O_firstGrey_0 {x : Cx} (hx : X_O_firstGrey x) {P : Option Nat → Mem → Prop} {Λ : Lam} {σ : Mem} {c : Nat → Nat} (hL : LayC Λ c) (T : N_O_firstGrey_2 x P Λ σ c 0) : N_O_firstGrey_0 x P Λ σ c := by
  obtain ⟨hex, hb, hml, hown, hts, hr, hlk, hR, hnm, hAs, hNW⟩ := hx
  obtain ⟨hLH, ⟨cA1, hLA1⟩, ⟨hLR2, cA3, hLA3⟩, hLO, ⟨cA5, hLA5⟩, ⟨hLR6, cA7, hLA7⟩⟩ := hL
  refine ⟨(), fun hK hA ls H locs hl hP hS => ?_⟩
  refine lv_iconst (v := iI 0) hex hb d_O_firstGrey_0 rfl ?_
  refine lv_istore_n (lv' := [(1, .int (iI 0)), (0, .ref (c 4))]) hex hb d_O_firstGrey_1 rfl hl (Nat.le_of_ble_eq_true rfl) rfl (fun ls hl => ?_)
  exact AtG.use T hK hA _ _ _ (lv_sub hl [1, 0] rfl) hP hS
set_option maxHeartbeats 4000000 in
set_option maxRecDepth 100000 in
theorem u_O_firstGrey_2 {x : Cx} (hx : X_O_firstGrey x) {P : Option Nat → Mem → Prop} {Λ : Lam} {σ : Mem} {c : Nat → Nat} {i1 : Int} (hL : LayC Λ c) (T : rng i1 ∧ ((64 ≤ i1 → P none σ) ∧ (¬ 64 ≤ i1 → K_O_thingAt (xl x) (xD x) Λ σ c i1 (fun o2r σa2 => ((o2r = none → N_O_firstGrey_2 x P Λ σa2 c (i1 + 1)) ∧ (∀ t3, o2r = some t3 → isT Λ t3 ∧ rng (σa2.1 205 t3) ∧ (((σa2.1 205 t3) = 0 → N_O_firstGrey_2 x P Λ σa2 c (i1 + 1)) ∧ (¬ (σa2.1 205 t3) = 0 → P (some t3) σa2)))))))) : N_O_firstGrey_2 x P Λ σ c i1 := by
  obtain ⟨hex, hb, hml, hown, hts, hr, hlk, hR, hnm, hAs, hNW⟩ := hx
  obtain ⟨hLH, ⟨cA1, hLA1⟩, ⟨hLR2, cA3, hLA3⟩, hLO, ⟨cA5, hLA5⟩, ⟨hLR6, cA7, hLA7⟩⟩ := hL
  refine ⟨(), fun hK hA ls H locs hl hP hS => ?_⟩
  refine lv_iload_n hex hb d_O_firstGrey_2 rfl (lv_at hl 1 rfl) ?_
  refine lv_bipush (v := iI 64) hex hb d_O_firstGrey_3 rfl ?_
  obtain ⟨h1, T⟩ := T
  obtain ⟨T1, T2⟩ := T
  refine r_icmp_ge (a := i1) (b := 64) (tgt := 33) hex hb h1 ⟨by omega, by omega⟩ d_O_firstGrey_5 rfl (fun hc => ?_) (fun hc => ?_)
  · have T := T1 hc
    refine lv_null hex hb d_O_firstGrey_33 ?_
    exact r_aret (o := none) hex hb hr hlk hK hA hP hS ⟨_, rfl, rfl, T⟩ (Nat.zero_le _) (Nat.zero_le _) d_O_firstGrey_34
  · have T := T2 hc
    refine lv_aload_n hex hb d_O_firstGrey_8 rfl (lv_at hl 0 rfl) ?_
    refine lv_iload_n hex hb d_O_firstGrey_9 rfl (lv_at hl 1 rfl) ?_
    refine r_call (va_runV (As := [.int (iI i1)]) (rest := []) ⟨hex, hb, hml, hown, hts⟩ (Ct.use T H.size) (cwV 1 hts (gdV bg_201 bg_202 bg_203 bg_3 bc_O_thingAt) rfl rfl rfl hdV_O_thingAt ⟨by rw [hR]; exact Nat.le_of_ble_eq_true rfl, by rw [hR]; exact Nat.le_of_ble_eq_true rfl⟩) (px_preV (ci := 0) hNW hK hP hLO rfl) rfl rfl hl.1 rfl (lv_room (Nat.le_of_ble_eq_true rfl)) d_O_firstGrey_10 ⟨by rw [hR]; exact Nat.le_of_ble_eq_true rfl, by rw [hR]; exact Nat.le_of_ble_eq_true rfl⟩) hS hA hAs (fun v Λ1 σ1 H locs hp hP hK hA hS => ?_)
    obtain ⟨o2r, rfl, rfl, T⟩ := hp
    generalize σ1 = σa2 at hP T
    refine W.eq (g2 := F0 (xm x) 13 ls [va_rf o2r]) rfl ?_
    refine r_astore_n (o := o2r) (lv' := [(2, va_rf o2r), (0, .ref (c 4)), (1, .int (iI i1))]) hex hb d_O_firstGrey_13 rfl hl (Nat.le_of_ble_eq_true rfl) rfl (fun ls hl => ?_)
    refine r_aload_n (o := o2r) hex hb d_O_firstGrey_14 rfl (lv_at hl 0 rfl) ?_
    obtain ⟨Tn, Ts⟩ := T
    refine r_ifnull (o := o2r) (tgt := 27) hex hb d_O_firstGrey_15 rfl (fun hn => ?_) (fun t3 ht4 => ?_)
    · have T := Tn hn
      have hl : lv_has ls 3 [(2, va_rf none), (0, .ref (c 4)), (1, .int (iI i1))] := by have h9 := hl; rw [hn] at h9; exact h9
      refine lv_iinc (v := iI (i1 + 1)) (lv' := [(1, .int (iI (i1 + 1))), (2, va_rf none), (0, .ref (c 4))]) hex hb d_O_firstGrey_27 hl (k := 2) rfl (iI_add _ _) (Nat.le_of_ble_eq_true rfl) rfl (fun ls hl => ?_)
      refine lv_goto (tgt := 2) hex hb d_O_firstGrey_30 rfl ?_
      exact AtG.use T hK hA _ _ _ (lv_sub hl [2, 0] rfl) hP hS
    · have T := Ts t3 ht4
      have hl : lv_has ls 3 [(2, .ref t3), (0, .ref (c 4)), (1, .int (iI i1))] := by have h9 := hl; rw [ht4] at h9; exact h9
      refine lv_aload_n hex hb d_O_firstGrey_18 rfl (lv_at hl 0 rfl) ?_
      obtain ⟨⟨hT5, ⟨cT5, hF5⟩, hn5⟩, T⟩ := T
      refine r_getI (ci := 2) (C := R_T) (T := F_T) (N := 7) hex hb hts (fun w h => List.mem_cons_of_mem _ (in_T w h)) hown hK hP hT5 rfl 5 (by decide) (hts _ (List.mem_cons_of_mem _ bg_241)) (fun _ h9 => h9) rfl d_O_firstGrey_19 ?_
      obtain ⟨h6, T⟩ := T
      obtain ⟨T1, T2⟩ := T
      refine r_if_eq (a := σa2.1 205 t3) (tgt := 27) hex hb h6 d_O_firstGrey_22 rfl (fun hc => ?_) (fun hc => ?_)
      · have T := T1 hc
        refine lv_iinc (v := iI (i1 + 1)) (lv' := [(1, .int (iI (i1 + 1))), (2, .ref t3), (0, .ref (c 4))]) hex hb d_O_firstGrey_27 hl (k := 2) rfl (iI_add _ _) (Nat.le_of_ble_eq_true rfl) rfl (fun ls hl => ?_)
        refine lv_goto (tgt := 2) hex hb d_O_firstGrey_30 rfl ?_
        exact AtG.use T hK hA _ _ _ (lv_sub hl [2, 0] rfl) hP hS
      · have T := T2 hc
        refine lv_aload_n hex hb d_O_firstGrey_25 rfl (lv_at hl 0 rfl) ?_
        exact r_aret (o := (some t3)) hex hb hr hlk hK hA hP hS ⟨_, rfl, rfl, T⟩ (Nat.zero_le _) (Nat.zero_le _) d_O_firstGrey_26
-- DirtyCardHeap$OldPart.referenceIn(I)LDirtyCardHeap$Thing;
def rm_O_referenceIn : Room := { frames := 1, cells := 0, slots := 0, locals := 21 }
abbrev X_O_referenceIn (x : Cx) : Prop := CxOk x b_O_referenceIn 4 wl_O_referenceIn R_O (some (.object "DirtyCardHeap$Thing")) rm_O_referenceIn "referenceIn"
abbrev K_O_referenceIn (l : Launch) (D : va_G) (Λ : Lam) (σ : Mem) (c : Nat → Nat) (a1 : Int) (P : Option Nat → Mem → Prop) : Prop := Ct l D y_O_referenceIn wl_O_referenceIn rm_O_referenceIn [.ref (c 4), .int (iI a1)] Λ σ (pQ Λ P)
abbrev N_O_referenceIn_0 (x : Cx) (P : Option Nat → Mem → Prop) (Λ : Lam) (σ : Mem) (c : Nat → Nat) (a1 : Int) : Prop := AtG x (pQ Λ P) 4 0 0 0 Λ σ [(0, .ref (c 4)), (1, .int (iI a1))] []
theorem e_O_referenceIn {l : Launch} {D : va_G} {Λ : Lam} {σ : Mem} {c : Nat → Nat} {a1 : Int} {P : Option Nat → Mem → Prop} (h : ∀ x : Cx, xl x = l → xD x = D → X_O_referenceIn x → N_O_referenceIn_0 x P Λ σ c a1) : K_O_referenceIn l D Λ σ c a1 P := Ct.of (by decide) rfl (Nat.le_of_ble_eq_true rfl) h
set_option maxHeartbeats 4000000 in
set_option maxRecDepth 100000 in
theorem u_O_referenceIn_0 {x : Cx} (hx : X_O_referenceIn x) {P : Option Nat → Mem → Prop} {Λ : Lam} {σ : Mem} {c : Nat → Nat} {a1 : Int} (hL : LayC Λ c) (T : 0 ≤ a1 ∧ a1 < (64 : Int) ∧ ((σ.2.2 102 (c 5) a1.toNat = none → P none σ) ∧ (∀ t3, σ.2.2 102 (c 5) a1.toNat = some t3 → isT Λ t3 ∧ K_T_hasField (xl x) (xD x) Λ σ t3 ((a1 - (σ.1 203 t3)) - 1) (fun z6 σa6 => rng z6 ∧ ((z6 = 0 → P none σa6) ∧ (¬ z6 = 0 → 0 ≤ ((a1 - (σ.1 203 t3)) - 1) ∧ ((a1 - (σ.1 203 t3)) - 1) < ((nfL Λ t3 : Nat) : Int) ∧ P (σa6.2.2 103 (faL Λ t3) ((a1 - (σ.1 203 t3)) - 1).toNat) σa6)))))) : N_O_referenceIn_0 x P Λ σ c a1 := by
  obtain ⟨hex, hb, hml, hown, hts, hr, hlk, hR, hnm, hAs, hNW⟩ := hx
  obtain ⟨hLH, ⟨cA1, hLA1⟩, ⟨hLR2, cA3, hLA3⟩, hLO, ⟨cA5, hLA5⟩, ⟨hLR6, cA7, hLA7⟩⟩ := hL
  refine ⟨(), fun hK hA ls H locs hl hP hS => ?_⟩
  refine lv_aload_n hex hb d_O_referenceIn_0 rfl (lv_at hl 0 rfl) ?_
  refine r_getR (ci := 0) (C := R_O) (T := F_O) (N := 1) hex hb hts (fun w h => List.mem_cons_of_mem _ (in_O w h)) hown hK hP hLO rfl 0 (by decide) (hts _ (List.mem_cons_of_mem _ bg_40)) (fun _ h9 => h9) rfl d_O_referenceIn_1 ?_
  refine lv_iload_n hex hb d_O_referenceIn_4 rfl (lv_at hl 1 rfl) ?_
  obtain ⟨h1, T⟩ := T
  obtain ⟨h2, T⟩ := T
  refine r_aald hex hb hK hP hLA5 (by decide) (by decide) h1 h2 d_O_referenceIn_5 ?_
  refine r_astore_n (o := σ.2.2 102 (c 5) a1.toNat) (lv' := [(2, va_rf (σ.2.2 102 (c 5) a1.toNat)), (0, .ref (c 4)), (1, .int (iI a1))]) hex hb d_O_referenceIn_6 rfl hl (Nat.le_of_ble_eq_true rfl) rfl (fun ls hl => ?_)
  refine r_aload_n (o := σ.2.2 102 (c 5) a1.toNat) hex hb d_O_referenceIn_7 rfl (lv_at hl 0 rfl) ?_
  obtain ⟨Tn, Ts⟩ := T
  refine r_ifnonnull (o := σ.2.2 102 (c 5) a1.toNat) (tgt := 13) hex hb d_O_referenceIn_8 rfl (fun hn => ?_) (fun t3 ht4 => ?_)
  · have T := Tn hn
    have hl : lv_has ls 4 [(2, va_rf none), (0, .ref (c 4)), (1, .int (iI a1))] := by have h9 := hl; rw [hn] at h9; exact h9
    refine lv_null hex hb d_O_referenceIn_11 ?_
    exact r_aret (o := none) hex hb hr hlk hK hA hP hS ⟨_, rfl, rfl, T⟩ (Nat.zero_le _) (Nat.zero_le _) d_O_referenceIn_12
  · have T := Ts t3 ht4
    have hl : lv_has ls 4 [(2, .ref t3), (0, .ref (c 4)), (1, .int (iI a1))] := by have h9 := hl; rw [ht4] at h9; exact h9
    refine lv_iload_n hex hb d_O_referenceIn_13 rfl (lv_at hl 2 rfl) ?_
    refine lv_aload_n hex hb d_O_referenceIn_14 rfl (lv_at hl 0 rfl) ?_
    obtain ⟨⟨hT5, ⟨cT5, hF5⟩, hn5⟩, T⟩ := T
    refine r_getI (ci := 2) (C := R_T) (T := F_T) (N := 7) hex hb hts (fun w h => List.mem_cons_of_mem _ (in_T w h)) hown hK hP hT5 rfl 3 (by decide) (hts _ (List.mem_cons_of_mem _ bg_237)) (fun _ h9 => h9) rfl d_O_referenceIn_15 ?_
    refine r_isub hex hb d_O_referenceIn_18 ?_
    refine lv_iconst (v := iI 1) hex hb d_O_referenceIn_19 rfl ?_
    refine r_isub hex hb d_O_referenceIn_20 ?_
    refine lv_istore_n (lv' := [(3, .int (iI ((a1 - (σ.1 203 t3)) - 1))), (2, .ref t3), (0, .ref (c 4)), (1, .int (iI a1))]) hex hb d_O_referenceIn_21 rfl hl (Nat.le_of_ble_eq_true rfl) rfl (fun ls hl => ?_)
    refine lv_aload_n hex hb d_O_referenceIn_22 rfl (lv_at hl 1 rfl) ?_
    refine lv_iload_n hex hb d_O_referenceIn_23 rfl (lv_at hl 0 rfl) ?_
    refine r_call (va_runV (As := [.int (iI ((a1 - (σ.1 203 t3)) - 1))]) (rest := []) ⟨hex, hb, hml, hown, hts⟩ (Ct.use T H.size) (cwV 1 hts (gdV bg_149 bg_150 bg_151 bg_6 bc_T_hasField) rfl rfl rfl hdV_T_hasField ⟨by rw [hR]; exact Nat.le_of_ble_eq_true rfl, by rw [hR]; exact Nat.le_of_ble_eq_true rfl⟩) (px_preV (ci := 2) hNW hK hP hT5 rfl) rfl rfl hl.1 rfl (lv_room (Nat.le_of_ble_eq_true rfl)) d_O_referenceIn_24 ⟨by rw [hR]; exact Nat.le_of_ble_eq_true rfl, by rw [hR]; exact Nat.le_of_ble_eq_true rfl⟩) hS hA hAs (fun v Λ1 σ1 H locs hp hP hK hA hS => ?_)
    obtain ⟨z6, rfl, rfl, T⟩ := hp
    generalize σ1 = σa6 at hP T
    refine W.eq (g2 := F0 (xm x) 27 ls [.int (iI z6)]) rfl ?_
    obtain ⟨h7, T⟩ := T
    obtain ⟨T1, T2⟩ := T
    refine r_if_eq (a := z6) (tgt := 39) hex hb h7 d_O_referenceIn_27 rfl (fun hc => ?_) (fun hc => ?_)
    · have T := T1 hc
      refine lv_null hex hb d_O_referenceIn_39 ?_
      exact r_aret (o := none) hex hb hr hlk hK hA hP hS ⟨_, rfl, rfl, T⟩ (Nat.zero_le _) (Nat.zero_le _) d_O_referenceIn_40
    · have T := T2 hc
      refine lv_aload_n hex hb d_O_referenceIn_30 rfl (lv_at hl 1 rfl) ?_
      refine r_getR (ci := 2) (C := R_T) (T := F_T) (N := 7) hex hb hts (fun w h => List.mem_cons_of_mem _ (in_T w h)) hown hK hP hT5 rfl 1 (by decide) (hts _ (List.mem_cons_of_mem _ bg_233)) (fun _ h9 => h9) rfl d_O_referenceIn_31 ?_
      refine lv_iload_n hex hb d_O_referenceIn_34 rfl (lv_at hl 0 rfl) ?_
      obtain ⟨h8, T⟩ := T
      obtain ⟨h9, T⟩ := T
      refine r_aald hex hb hK hP hF5 (by decide) (by omega) h8 h9 d_O_referenceIn_35 ?_
      refine lv_goto (tgt := 40) hex hb d_O_referenceIn_36 rfl ?_
      exact r_aret (o := σa6.2.2 103 (faL Λ t3) ((a1 - (σ.1 203 t3)) - 1).toNat) hex hb hr hlk hK hA hP hS ⟨_, rfl, rfl, T⟩ (Nat.zero_le _) (Nat.zero_le _) d_O_referenceIn_40
set_option maxRecDepth 100000 in
theorem w_O_referenceIn {l : Launch} {D : va_G} {Λ : Lam} {σ : Mem} {c : Nat → Nat} {a1 : Int} {P : Option Nat → Mem → Prop} (hL : LayC Λ c) (T : 0 ≤ a1 ∧ a1 < (64 : Int) ∧ ((σ.2.2 102 (c 5) a1.toNat = none → P none σ) ∧ (∀ t3, σ.2.2 102 (c 5) a1.toNat = some t3 → isT Λ t3 ∧ K_T_hasField l D Λ σ t3 ((a1 - (σ.1 203 t3)) - 1) (fun z6 σa6 => rng z6 ∧ ((z6 = 0 → P none σa6) ∧ (¬ z6 = 0 → 0 ≤ ((a1 - (σ.1 203 t3)) - 1) ∧ ((a1 - (σ.1 203 t3)) - 1) < ((nfL Λ t3 : Nat) : Int) ∧ P (σa6.2.2 103 (faL Λ t3) ((a1 - (σ.1 203 t3)) - 1).toNat) σa6)))))) : K_O_referenceIn l D Λ σ c a1 P := e_O_referenceIn (fun x hl hD hx => by subst hl; subst hD; exact u_O_referenceIn_0 hx hL T)
-- DirtyCardHeap$OldPart.cardsReferringToYoung()I
def rm_O_cardsReferringToYoung : Room := { frames := 2, cells := 0, slots := 0, locals := 44 }
abbrev X_O_cardsReferringToYoung (x : Cx) : Prop := CxOk x b_O_cardsReferringToYoung 4 wl_O_cardsReferringToYoung R_O (some .int) rm_O_cardsReferringToYoung "cardsReferringToYoung"
abbrev K_O_cardsReferringToYoung (l : Launch) (D : va_G) (Λ : Lam) (σ : Mem) (c : Nat → Nat) (P : Int → Mem → Prop) : Prop := Ct l D y_O_cardsReferringToYoung wl_O_cardsReferringToYoung rm_O_cardsReferringToYoung [.ref (c 4)] Λ σ (pI Λ P)
abbrev N_O_cardsReferringToYoung_0 (x : Cx) (P : Int → Mem → Prop) (Λ : Lam) (σ : Mem) (c : Nat → Nat) : Prop := AtG x (pI Λ P) 4 0 0 0 Λ σ [(0, .ref (c 4))] []
abbrev N_O_cardsReferringToYoung_4 (x : Cx) (P : Int → Mem → Prop) (Λ : Lam) (σ : Mem) (c : Nat → Nat) (i1 : Int) (i2 : Int) : Prop := AtG x (pI Λ P) 4 4 0 0 Λ σ [(0, .ref (c 4)), (1, .int (iI i1)), (2, .int (iI i2))] []
theorem e_O_cardsReferringToYoung {l : Launch} {D : va_G} {Λ : Lam} {σ : Mem} {c : Nat → Nat} {P : Int → Mem → Prop} (h : ∀ x : Cx, xl x = l → xD x = D → X_O_cardsReferringToYoung x → N_O_cardsReferringToYoung_0 x P Λ σ c) : K_O_cardsReferringToYoung l D Λ σ c P := Ct.of (by decide) rfl (Nat.le_of_ble_eq_true rfl) h
set_option maxHeartbeats 4000000 in
set_option maxRecDepth 100000 in
theorem u_O_cardsReferringToYoung_0 {x : Cx} (hx : X_O_cardsReferringToYoung x) {P : Int → Mem → Prop} {Λ : Lam} {σ : Mem} {c : Nat → Nat} (hL : LayC Λ c) (T : N_O_cardsReferringToYoung_4 x P Λ σ c 0 0) : N_O_cardsReferringToYoung_0 x P Λ σ c := by
  obtain ⟨hex, hb, hml, hown, hts, hr, hlk, hR, hnm, hAs, hNW⟩ := hx
  obtain ⟨hLH, ⟨cA1, hLA1⟩, ⟨hLR2, cA3, hLA3⟩, hLO, ⟨cA5, hLA5⟩, ⟨hLR6, cA7, hLA7⟩⟩ := hL
  refine ⟨(), fun hK hA ls H locs hl hP hS => ?_⟩
  refine lv_iconst (v := iI 0) hex hb d_O_cardsReferringToYoung_0 rfl ?_
  refine lv_istore_n (lv' := [(1, .int (iI 0)), (0, .ref (c 4))]) hex hb d_O_cardsReferringToYoung_1 rfl hl (Nat.le_of_ble_eq_true rfl) rfl (fun ls hl => ?_)
  refine lv_iconst (v := iI 0) hex hb d_O_cardsReferringToYoung_2 rfl ?_
  refine lv_istore_n (lv' := [(2, .int (iI 0)), (1, .int (iI 0)), (0, .ref (c 4))]) hex hb d_O_cardsReferringToYoung_3 rfl hl (Nat.le_of_ble_eq_true rfl) rfl (fun ls hl => ?_)
  exact AtG.use T hK hA _ _ _ (lv_sub hl [2, 1, 0] rfl) hP hS
set_option maxHeartbeats 4000000 in
set_option maxRecDepth 100000 in
theorem u_O_cardsReferringToYoung_4 {x : Cx} (hx : X_O_cardsReferringToYoung x) {P : Int → Mem → Prop} {Λ : Lam} {σ : Mem} {c : Nat → Nat} {i1 : Int} {i2 : Int} (hL : LayC Λ c) (T : rng i2 ∧ ((64 ≤ i2 → P i1 σ) ∧ (¬ 64 ≤ i2 → K_O_referenceIn (xl x) (xD x) Λ σ c i2 (fun o2r σa2 => ((o2r = none → N_O_cardsReferringToYoung_4 x P Λ σa2 c i1 (i2 + 1)) ∧ (∀ t3, o2r = some t3 → isT Λ t3 ∧ K_T_isYoung (xl x) (xD x) Λ σa2 t3 (fun z6 σa6 => rng z6 ∧ ((z6 = 0 → N_O_cardsReferringToYoung_4 x P Λ σa6 c i1 (i2 + 1)) ∧ (¬ z6 = 0 → K_H_cardOf (xl x) (xD x) Λ σa6 i2 (fun z8 σa8 => N_O_cardsReferringToYoung_4 x P Λ σa8 c (iOr i1 z8) (i2 + 1))))))))))) : N_O_cardsReferringToYoung_4 x P Λ σ c i1 i2 := by
  obtain ⟨hex, hb, hml, hown, hts, hr, hlk, hR, hnm, hAs, hNW⟩ := hx
  obtain ⟨hLH, ⟨cA1, hLA1⟩, ⟨hLR2, cA3, hLA3⟩, hLO, ⟨cA5, hLA5⟩, ⟨hLR6, cA7, hLA7⟩⟩ := hL
  refine ⟨(), fun hK hA ls H locs hl hP hS => ?_⟩
  refine lv_iload_n hex hb d_O_cardsReferringToYoung_4 rfl (lv_at hl 2 rfl) ?_
  refine lv_bipush (v := iI 64) hex hb d_O_cardsReferringToYoung_5 rfl ?_
  obtain ⟨h1, T⟩ := T
  obtain ⟨T1, T2⟩ := T
  refine r_icmp_ge (a := i2) (b := 64) (tgt := 40) hex hb h1 ⟨by omega, by omega⟩ d_O_cardsReferringToYoung_7 rfl (fun hc => ?_) (fun hc => ?_)
  · have T := T1 hc
    refine lv_iload_n hex hb d_O_cardsReferringToYoung_40 rfl (lv_at hl 1 rfl) ?_
    exact r_iret hex hb hr hlk hK hA hP hS ⟨_, rfl, rfl, T⟩ (Nat.zero_le _) (Nat.zero_le _) d_O_cardsReferringToYoung_41
  · have T := T2 hc
    refine lv_aload_n hex hb d_O_cardsReferringToYoung_10 rfl (lv_at hl 0 rfl) ?_
    refine lv_iload_n hex hb d_O_cardsReferringToYoung_11 rfl (lv_at hl 2 rfl) ?_
    refine r_call (va_runV (As := [.int (iI i2)]) (rest := []) ⟨hex, hb, hml, hown, hts⟩ (Ct.use T H.size) (cwV 1 hts (gdV bg_186 bg_146 bg_147 bg_3 bc_O_referenceIn) rfl rfl rfl hdV_O_referenceIn ⟨by rw [hR]; exact Nat.le_of_ble_eq_true rfl, by rw [hR]; exact Nat.le_of_ble_eq_true rfl⟩) (px_preV (ci := 0) hNW hK hP hLO rfl) rfl rfl hl.1 rfl (lv_room (Nat.le_of_ble_eq_true rfl)) d_O_cardsReferringToYoung_12 ⟨by rw [hR]; exact Nat.le_of_ble_eq_true rfl, by rw [hR]; exact Nat.le_of_ble_eq_true rfl⟩) hS hA hAs (fun v Λ1 σ1 H locs hp hP hK hA hS => ?_)
    obtain ⟨o2r, rfl, rfl, T⟩ := hp
    generalize σ1 = σa2 at hP T
    refine W.eq (g2 := F0 (xm x) 15 ls [va_rf o2r]) rfl ?_
    refine r_astore_n (o := o2r) (lv' := [(3, va_rf o2r), (0, .ref (c 4)), (1, .int (iI i1)), (2, .int (iI i2))]) hex hb d_O_cardsReferringToYoung_15 rfl hl (Nat.le_of_ble_eq_true rfl) rfl (fun ls hl => ?_)
    refine r_aload_n (o := o2r) hex hb d_O_cardsReferringToYoung_16 rfl (lv_at hl 0 rfl) ?_
    obtain ⟨Tn, Ts⟩ := T
    refine r_ifnull (o := o2r) (tgt := 34) hex hb d_O_cardsReferringToYoung_17 rfl (fun hn => ?_) (fun t3 ht4 => ?_)
    · have T := Tn hn
      have hl : lv_has ls 4 [(3, va_rf none), (0, .ref (c 4)), (1, .int (iI i1)), (2, .int (iI i2))] := by have h9 := hl; rw [hn] at h9; exact h9
      refine lv_iinc (v := iI (i2 + 1)) (lv' := [(2, .int (iI (i2 + 1))), (3, va_rf none), (0, .ref (c 4)), (1, .int (iI i1))]) hex hb d_O_cardsReferringToYoung_34 hl (k := 3) rfl (iI_add _ _) (Nat.le_of_ble_eq_true rfl) rfl (fun ls hl => ?_)
      refine lv_goto (tgt := 4) hex hb d_O_cardsReferringToYoung_37 rfl ?_
      exact AtG.use T hK hA _ _ _ (lv_sub hl [2, 3, 0] rfl) hP hS
    · have T := Ts t3 ht4
      have hl : lv_has ls 4 [(3, .ref t3), (0, .ref (c 4)), (1, .int (iI i1)), (2, .int (iI i2))] := by have h9 := hl; rw [ht4] at h9; exact h9
      refine lv_aload_n hex hb d_O_cardsReferringToYoung_20 rfl (lv_at hl 0 rfl) ?_
      obtain ⟨⟨hT5, ⟨cT5, hF5⟩, hn5⟩, T⟩ := T
      refine r_call (va_runV (As := []) (rest := []) ⟨hex, hb, hml, hown, hts⟩ (Ct.use T H.size) (cwV 0 hts (gdV bg_187 bg_98 bg_99 bg_6 bc_T_isYoung) rfl rfl rfl hdV_T_isYoung ⟨by rw [hR]; exact Nat.le_of_ble_eq_true rfl, by rw [hR]; exact Nat.le_of_ble_eq_true rfl⟩) (px_preV (ci := 2) hNW hK hP hT5 rfl) rfl rfl hl.1 rfl (lv_room (Nat.le_of_ble_eq_true rfl)) d_O_cardsReferringToYoung_21 ⟨by rw [hR]; exact Nat.le_of_ble_eq_true rfl, by rw [hR]; exact Nat.le_of_ble_eq_true rfl⟩) hS hA hAs (fun v Λ1 σ1 H locs hp hP hK hA hS => ?_)
      obtain ⟨z6, rfl, rfl, T⟩ := hp
      generalize σ1 = σa6 at hP T
      refine W.eq (g2 := F0 (xm x) 24 ls [.int (iI z6)]) rfl ?_
      obtain ⟨h7, T⟩ := T
      obtain ⟨T1, T2⟩ := T
      refine r_if_eq (a := z6) (tgt := 34) hex hb h7 d_O_cardsReferringToYoung_24 rfl (fun hc => ?_) (fun hc => ?_)
      · have T := T1 hc
        refine lv_iinc (v := iI (i2 + 1)) (lv' := [(2, .int (iI (i2 + 1))), (3, .ref t3), (0, .ref (c 4)), (1, .int (iI i1))]) hex hb d_O_cardsReferringToYoung_34 hl (k := 3) rfl (iI_add _ _) (Nat.le_of_ble_eq_true rfl) rfl (fun ls hl => ?_)
        refine lv_goto (tgt := 4) hex hb d_O_cardsReferringToYoung_37 rfl ?_
        exact AtG.use T hK hA _ _ _ (lv_sub hl [2, 3, 0] rfl) hP hS
      · have T := T2 hc
        refine lv_iload_n hex hb d_O_cardsReferringToYoung_27 rfl (lv_at hl 2 rfl) ?_
        refine lv_iload_n hex hb d_O_cardsReferringToYoung_28 rfl (lv_at hl 3 rfl) ?_
        refine r_call (va_runSN (As := [.int (iI i2)]) (rest := [.int (iI i1)]) ⟨hex, hb, hml, hown, hts⟩ (Ct.use T H.size) ⟨va_cnB 1 hts (gdI bc_H_cardOf) rfl rfl rfl hNW.2.2.1 (hts _ (List.mem_cons_of_mem _ bg_1)) hdV_H_cardOf.2 ⟨by rw [hR]; exact Nat.le_of_ble_eq_true rfl, by rw [hR]; exact Nat.le_of_ble_eq_true rfl⟩, (hts _ (List.mem_cons_of_mem _ bg_138)), trivial⟩ (px_preS hNW hK hP) rfl rfl hl.1 rfl (lv_room (Nat.le_of_ble_eq_true rfl)) d_O_cardsReferringToYoung_29 ⟨by rw [hR]; exact Nat.le_of_ble_eq_true rfl, by rw [hR]; exact Nat.le_of_ble_eq_true rfl⟩) hS hA hAs (fun v Λ1 σ1 H locs hp hP hK hA hS => ?_)
        obtain ⟨z8, rfl, rfl, T⟩ := hp
        generalize σ1 = σa8 at hP T
        refine W.eq (g2 := F0 (xm x) 32 ls [.int (iI z8), .int (iI i1)]) rfl ?_
        refine r_ior hex hb d_O_cardsReferringToYoung_32 ?_
        refine lv_istore_n (lv' := [(1, .int (iI (iOr i1 z8))), (3, .ref t3), (0, .ref (c 4)), (2, .int (iI i2))]) hex hb d_O_cardsReferringToYoung_33 rfl hl (Nat.le_of_ble_eq_true rfl) rfl (fun ls hl => ?_)
        refine lv_iinc (v := iI (i2 + 1)) (lv' := [(2, .int (iI (i2 + 1))), (1, .int (iI (iOr i1 z8))), (3, .ref t3), (0, .ref (c 4))]) hex hb d_O_cardsReferringToYoung_34 hl (k := 3) rfl (iI_add _ _) (Nat.le_of_ble_eq_true rfl) rfl (fun ls hl => ?_)
        refine lv_goto (tgt := 4) hex hb d_O_cardsReferringToYoung_37 rfl ?_
        exact AtG.use T hK hA _ _ _ (lv_sub hl [3, 1, 0] rfl) hP hS
-- DirtyCardHeap$OldPart.greyMarkedOn(I)V
def rm_O_greyMarkedOn : Room := { frames := 1, cells := 0, slots := 0, locals := 20 }
abbrev X_O_greyMarkedOn (x : Cx) : Prop := CxOk x b_O_greyMarkedOn 4 wl_O_greyMarkedOn R_O none rm_O_greyMarkedOn "greyMarkedOn"
abbrev K_O_greyMarkedOn (l : Launch) (D : va_G) (Λ : Lam) (σ : Mem) (c : Nat → Nat) (a1 : Int) (P : Mem → Prop) : Prop := Ct l D y_O_greyMarkedOn wl_O_greyMarkedOn rm_O_greyMarkedOn [.ref (c 4), .int (iI a1)] Λ σ (pV Λ P)
abbrev N_O_greyMarkedOn_0 (x : Cx) (P : Mem → Prop) (Λ : Lam) (σ : Mem) (c : Nat → Nat) (a1 : Int) : Prop := AtG x (pV Λ P) 4 0 0 0 Λ σ [(0, .ref (c 4)), (1, .int (iI a1))] []
abbrev N_O_greyMarkedOn_2 (x : Cx) (P : Mem → Prop) (Λ : Lam) (σ : Mem) (c : Nat → Nat) (i1 : Int) (i2 : Int) : Prop := AtG x (pV Λ P) 4 2 0 0 Λ σ [(0, .ref (c 4)), (1, .int (iI i1)), (2, .int (iI i2))] []
theorem e_O_greyMarkedOn {l : Launch} {D : va_G} {Λ : Lam} {σ : Mem} {c : Nat → Nat} {a1 : Int} {P : Mem → Prop} (h : ∀ x : Cx, xl x = l → xD x = D → X_O_greyMarkedOn x → N_O_greyMarkedOn_0 x P Λ σ c a1) : K_O_greyMarkedOn l D Λ σ c a1 P := Ct.of (by decide) rfl (Nat.le_of_ble_eq_true rfl) h
set_option maxHeartbeats 4000000 in
set_option maxRecDepth 100000 in
theorem u_O_greyMarkedOn_0 {x : Cx} (hx : X_O_greyMarkedOn x) {P : Mem → Prop} {Λ : Lam} {σ : Mem} {c : Nat → Nat} {a1 : Int} (hL : LayC Λ c) (T : N_O_greyMarkedOn_2 x P Λ σ c a1 0) : N_O_greyMarkedOn_0 x P Λ σ c a1 := by
  obtain ⟨hex, hb, hml, hown, hts, hr, hlk, hR, hnm, hAs, hNW⟩ := hx
  obtain ⟨hLH, ⟨cA1, hLA1⟩, ⟨hLR2, cA3, hLA3⟩, hLO, ⟨cA5, hLA5⟩, ⟨hLR6, cA7, hLA7⟩⟩ := hL
  refine ⟨(), fun hK hA ls H locs hl hP hS => ?_⟩
  refine lv_iconst (v := iI 0) hex hb d_O_greyMarkedOn_0 rfl ?_
  refine lv_istore_n (lv' := [(2, .int (iI 0)), (0, .ref (c 4)), (1, .int (iI a1))]) hex hb d_O_greyMarkedOn_1 rfl hl (Nat.le_of_ble_eq_true rfl) rfl (fun ls hl => ?_)
  exact AtG.use T hK hA _ _ _ (lv_sub hl [1, 2, 0] rfl) hP hS
set_option maxHeartbeats 4000000 in
set_option maxRecDepth 100000 in
theorem u_O_greyMarkedOn_2 {x : Cx} (hx : X_O_greyMarkedOn x) {P : Mem → Prop} {Λ : Lam} {σ : Mem} {c : Nat → Nat} {i1 : Int} {i2 : Int} (hL : LayC Λ c) (T : rng i2 ∧ ((64 ≤ i2 → P σ) ∧ (¬ 64 ≤ i2 → 0 ≤ i2 ∧ i2 < (64 : Int) ∧ ((σ.2.2 102 (c 5) i2.toNat = none → N_O_greyMarkedOn_2 x P Λ σ c i1 (i2 + 1)) ∧ (∀ t4, σ.2.2 102 (c 5) i2.toNat = some t4 → isT Λ t4 ∧ rng (σ.1 204 t4) ∧ (((σ.1 204 t4) = 0 → N_O_greyMarkedOn_2 x P Λ σ c i1 (i2 + 1)) ∧ (¬ (σ.1 204 t4) = 0 → K_H_cardOf (xl x) (xD x) Λ σ i2 (fun z8 σa8 => (((iAnd i1 z8) = 0 → N_O_greyMarkedOn_2 x P Λ σa8 c i1 (i2 + 1)) ∧ (¬ (iAnd i1 z8) = 0 → N_O_greyMarkedOn_2 x P Λ (upI σa8 205 t4 1) c i1 (i2 + 1))))))))))) : N_O_greyMarkedOn_2 x P Λ σ c i1 i2 := by
  obtain ⟨hex, hb, hml, hown, hts, hr, hlk, hR, hnm, hAs, hNW⟩ := hx
  obtain ⟨hLH, ⟨cA1, hLA1⟩, ⟨hLR2, cA3, hLA3⟩, hLO, ⟨cA5, hLA5⟩, ⟨hLR6, cA7, hLA7⟩⟩ := hL
  refine ⟨(), fun hK hA ls H locs hl hP hS => ?_⟩
  refine lv_iload_n hex hb d_O_greyMarkedOn_2 rfl (lv_at hl 2 rfl) ?_
  refine lv_bipush (v := iI 64) hex hb d_O_greyMarkedOn_3 rfl ?_
  obtain ⟨h1, T⟩ := T
  obtain ⟨T1, T2⟩ := T
  refine r_icmp_ge (a := i2) (b := 64) (tgt := 46) hex hb h1 ⟨by omega, by omega⟩ d_O_greyMarkedOn_5 rfl (fun hc => ?_) (fun hc => ?_)
  · have T := T1 hc
    exact r_vret hex hb hr hlk hK hA hP hS ⟨rfl, rfl, T⟩ (Nat.zero_le _) (Nat.zero_le _) d_O_greyMarkedOn_46
  · have T := T2 hc
    refine lv_aload_n hex hb d_O_greyMarkedOn_8 rfl (lv_at hl 0 rfl) ?_
    refine r_getR (ci := 0) (C := R_O) (T := F_O) (N := 1) hex hb hts (fun w h => List.mem_cons_of_mem _ (in_O w h)) hown hK hP hLO rfl 0 (by decide) (hts _ (List.mem_cons_of_mem _ bg_40)) (fun _ h9 => h9) rfl d_O_greyMarkedOn_9 ?_
    refine lv_iload_n hex hb d_O_greyMarkedOn_12 rfl (lv_at hl 2 rfl) ?_
    obtain ⟨h2, T⟩ := T
    obtain ⟨h3, T⟩ := T
    refine r_aald hex hb hK hP hLA5 (by decide) (by decide) h2 h3 d_O_greyMarkedOn_13 ?_
    refine r_astore_n (o := σ.2.2 102 (c 5) i2.toNat) (lv' := [(3, va_rf (σ.2.2 102 (c 5) i2.toNat)), (0, .ref (c 4)), (1, .int (iI i1)), (2, .int (iI i2))]) hex hb d_O_greyMarkedOn_14 rfl hl (Nat.le_of_ble_eq_true rfl) rfl (fun ls hl => ?_)
    refine r_aload_n (o := σ.2.2 102 (c 5) i2.toNat) hex hb d_O_greyMarkedOn_15 rfl (lv_at hl 0 rfl) ?_
    obtain ⟨Tn, Ts⟩ := T
    refine r_ifnull (o := σ.2.2 102 (c 5) i2.toNat) (tgt := 40) hex hb d_O_greyMarkedOn_16 rfl (fun hn => ?_) (fun t4 ht5 => ?_)
    · have T := Tn hn
      have hl : lv_has ls 4 [(3, va_rf none), (0, .ref (c 4)), (1, .int (iI i1)), (2, .int (iI i2))] := by have h9 := hl; rw [hn] at h9; exact h9
      refine lv_iinc (v := iI (i2 + 1)) (lv' := [(2, .int (iI (i2 + 1))), (3, va_rf none), (0, .ref (c 4)), (1, .int (iI i1))]) hex hb d_O_greyMarkedOn_40 hl (k := 3) rfl (iI_add _ _) (Nat.le_of_ble_eq_true rfl) rfl (fun ls hl => ?_)
      refine lv_goto (tgt := 2) hex hb d_O_greyMarkedOn_43 rfl ?_
      exact AtG.use T hK hA _ _ _ (lv_sub hl [2, 3, 0] rfl) hP hS
    · have T := Ts t4 ht5
      have hl : lv_has ls 4 [(3, .ref t4), (0, .ref (c 4)), (1, .int (iI i1)), (2, .int (iI i2))] := by have h9 := hl; rw [ht5] at h9; exact h9
      refine lv_aload_n hex hb d_O_greyMarkedOn_19 rfl (lv_at hl 0 rfl) ?_
      obtain ⟨⟨hT6, ⟨cT6, hF6⟩, hn6⟩, T⟩ := T
      refine r_getI (ci := 2) (C := R_T) (T := F_T) (N := 7) hex hb hts (fun w h => List.mem_cons_of_mem _ (in_T w h)) hown hK hP hT6 rfl 4 (by decide) (hts _ (List.mem_cons_of_mem _ bg_239)) (fun _ h9 => h9) rfl d_O_greyMarkedOn_20 ?_
      obtain ⟨h7, T⟩ := T
      obtain ⟨T1, T2⟩ := T
      refine r_if_eq (a := σ.1 204 t4) (tgt := 40) hex hb h7 d_O_greyMarkedOn_23 rfl (fun hc => ?_) (fun hc => ?_)
      · have T := T1 hc
        refine lv_iinc (v := iI (i2 + 1)) (lv' := [(2, .int (iI (i2 + 1))), (3, .ref t4), (0, .ref (c 4)), (1, .int (iI i1))]) hex hb d_O_greyMarkedOn_40 hl (k := 3) rfl (iI_add _ _) (Nat.le_of_ble_eq_true rfl) rfl (fun ls hl => ?_)
        refine lv_goto (tgt := 2) hex hb d_O_greyMarkedOn_43 rfl ?_
        exact AtG.use T hK hA _ _ _ (lv_sub hl [2, 3, 0] rfl) hP hS
      · have T := T2 hc
        refine lv_iload_n hex hb d_O_greyMarkedOn_26 rfl (lv_at hl 2 rfl) ?_
        refine lv_iload_n hex hb d_O_greyMarkedOn_27 rfl (lv_at hl 3 rfl) ?_
        refine r_call (va_runSN (As := [.int (iI i2)]) (rest := [.int (iI i1)]) ⟨hex, hb, hml, hown, hts⟩ (Ct.use T H.size) ⟨va_cnB 1 hts (gdI bc_H_cardOf) rfl rfl rfl hNW.2.2.1 (hts _ (List.mem_cons_of_mem _ bg_1)) hdV_H_cardOf.2 ⟨by rw [hR]; exact Nat.le_of_ble_eq_true rfl, by rw [hR]; exact Nat.le_of_ble_eq_true rfl⟩, (hts _ (List.mem_cons_of_mem _ bg_138)), trivial⟩ (px_preS hNW hK hP) rfl rfl hl.1 rfl (lv_room (Nat.le_of_ble_eq_true rfl)) d_O_greyMarkedOn_28 ⟨by rw [hR]; exact Nat.le_of_ble_eq_true rfl, by rw [hR]; exact Nat.le_of_ble_eq_true rfl⟩) hS hA hAs (fun v Λ1 σ1 H locs hp hP hK hA hS => ?_)
        obtain ⟨z8, rfl, rfl, T⟩ := hp
        generalize σ1 = σa8 at hP T
        refine W.eq (g2 := F0 (xm x) 31 ls [.int (iI z8), .int (iI i1)]) rfl ?_
        refine r_iand hex hb d_O_greyMarkedOn_31 ?_
        obtain ⟨T1, T2⟩ := T
        refine r_if_eq (a := iAnd i1 z8) (tgt := 40) hex hb (rng_and _ _) d_O_greyMarkedOn_32 rfl (fun hc => ?_) (fun hc => ?_)
        · have T := T1 hc
          refine lv_iinc (v := iI (i2 + 1)) (lv' := [(2, .int (iI (i2 + 1))), (3, .ref t4), (0, .ref (c 4)), (1, .int (iI i1))]) hex hb d_O_greyMarkedOn_40 hl (k := 3) rfl (iI_add _ _) (Nat.le_of_ble_eq_true rfl) rfl (fun ls hl => ?_)
          refine lv_goto (tgt := 2) hex hb d_O_greyMarkedOn_43 rfl ?_
          exact AtG.use T hK hA _ _ _ (lv_sub hl [2, 3, 0] rfl) hP hS
        · have T := T2 hc
          refine lv_aload_n hex hb d_O_greyMarkedOn_35 rfl (lv_at hl 0 rfl) ?_
          refine lv_iconst (v := iI 1) hex hb d_O_greyMarkedOn_36 rfl ?_
          refine r_putI (ci := 2) (C := R_T) (T := F_T) (N := 7) (v := 1) (ty := .boolean) hex hb hts (fun w h => List.mem_cons_of_mem _ (in_T w h)) tq_T tq_T_ok n_T hown hK hP hA hS hT6 rfl 5 (by decide) (hts _ (List.mem_cons_of_mem _ bg_241)) (fun _ h9 => h9) rfl (by decide +kernel) rfl rfl rfl d_O_greyMarkedOn_37 (fun H locs hP hS => ?_)
          refine lv_iinc (v := iI (i2 + 1)) (lv' := [(2, .int (iI (i2 + 1))), (3, .ref t4), (0, .ref (c 4)), (1, .int (iI i1))]) hex hb d_O_greyMarkedOn_40 hl (k := 3) rfl (iI_add _ _) (Nat.le_of_ble_eq_true rfl) rfl (fun ls hl => ?_)
          refine lv_goto (tgt := 2) hex hb d_O_greyMarkedOn_43 rfl ?_
          exact AtG.use T hK hA _ _ _ (lv_sub hl [2, 3, 0] rfl) hP hS
-- DirtyCardHeap$OldPart.unmarkAll()V
def rm_O_unmarkAll : Room := { frames := 0, cells := 0, slots := 0, locals := 0 }
abbrev X_O_unmarkAll (x : Cx) : Prop := CxOk x b_O_unmarkAll 3 wl_O_unmarkAll R_O none rm_O_unmarkAll "unmarkAll"
abbrev K_O_unmarkAll (l : Launch) (D : va_G) (Λ : Lam) (σ : Mem) (c : Nat → Nat) (P : Mem → Prop) : Prop := Ct l D y_O_unmarkAll wl_O_unmarkAll rm_O_unmarkAll [.ref (c 4)] Λ σ (pV Λ P)
abbrev N_O_unmarkAll_0 (x : Cx) (P : Mem → Prop) (Λ : Lam) (σ : Mem) (c : Nat → Nat) : Prop := AtG x (pV Λ P) 3 0 0 0 Λ σ [(0, .ref (c 4))] []
abbrev N_O_unmarkAll_2 (x : Cx) (P : Mem → Prop) (Λ : Lam) (σ : Mem) (c : Nat → Nat) (i1 : Int) : Prop := AtG x (pV Λ P) 3 2 0 0 Λ σ [(0, .ref (c 4)), (1, .int (iI i1))] []
theorem e_O_unmarkAll {l : Launch} {D : va_G} {Λ : Lam} {σ : Mem} {c : Nat → Nat} {P : Mem → Prop} (h : ∀ x : Cx, xl x = l → xD x = D → X_O_unmarkAll x → N_O_unmarkAll_0 x P Λ σ c) : K_O_unmarkAll l D Λ σ c P := Ct.of (by decide) rfl (Nat.le_of_ble_eq_true rfl) h
set_option maxHeartbeats 4000000 in
set_option maxRecDepth 100000 in
theorem u_O_unmarkAll_0 {x : Cx} (hx : X_O_unmarkAll x) {P : Mem → Prop} {Λ : Lam} {σ : Mem} {c : Nat → Nat} (hL : LayC Λ c) (T : N_O_unmarkAll_2 x P Λ σ c 0) : N_O_unmarkAll_0 x P Λ σ c := by
  obtain ⟨hex, hb, hml, hown, hts, hr, hlk, hR, hnm, hAs, hNW⟩ := hx
  obtain ⟨hLH, ⟨cA1, hLA1⟩, ⟨hLR2, cA3, hLA3⟩, hLO, ⟨cA5, hLA5⟩, ⟨hLR6, cA7, hLA7⟩⟩ := hL
  refine ⟨(), fun hK hA ls H locs hl hP hS => ?_⟩
  refine lv_iconst (v := iI 0) hex hb d_O_unmarkAll_0 rfl ?_
  refine lv_istore_n (lv' := [(1, .int (iI 0)), (0, .ref (c 4))]) hex hb d_O_unmarkAll_1 rfl hl (Nat.le_of_ble_eq_true rfl) rfl (fun ls hl => ?_)
  exact AtG.use T hK hA _ _ _ (lv_sub hl [1, 0] rfl) hP hS
set_option maxHeartbeats 4000000 in
set_option maxRecDepth 100000 in
theorem u_O_unmarkAll_2 {x : Cx} (hx : X_O_unmarkAll x) {P : Mem → Prop} {Λ : Lam} {σ : Mem} {c : Nat → Nat} {i1 : Int} (hL : LayC Λ c) (T : rng i1 ∧ ((64 ≤ i1 → P σ) ∧ (¬ 64 ≤ i1 → 0 ≤ i1 ∧ i1 < (64 : Int) ∧ ((σ.2.2 102 (c 5) i1.toNat = none → N_O_unmarkAll_2 x P Λ σ c (i1 + 1)) ∧ (∀ t4, σ.2.2 102 (c 5) i1.toNat = some t4 → isT Λ t4 ∧ N_O_unmarkAll_2 x P Λ (upI (upI σ 204 t4 0) 205 t4 0) c (i1 + 1)))))) : N_O_unmarkAll_2 x P Λ σ c i1 := by
  obtain ⟨hex, hb, hml, hown, hts, hr, hlk, hR, hnm, hAs, hNW⟩ := hx
  obtain ⟨hLH, ⟨cA1, hLA1⟩, ⟨hLR2, cA3, hLA3⟩, hLO, ⟨cA5, hLA5⟩, ⟨hLR6, cA7, hLA7⟩⟩ := hL
  refine ⟨(), fun hK hA ls H locs hl hP hS => ?_⟩
  refine lv_iload_n hex hb d_O_unmarkAll_2 rfl (lv_at hl 1 rfl) ?_
  refine lv_bipush (v := iI 64) hex hb d_O_unmarkAll_3 rfl ?_
  obtain ⟨h1, T⟩ := T
  obtain ⟨T1, T2⟩ := T
  refine r_icmp_ge (a := i1) (b := 64) (tgt := 35) hex hb h1 ⟨by omega, by omega⟩ d_O_unmarkAll_5 rfl (fun hc => ?_) (fun hc => ?_)
  · have T := T1 hc
    exact r_vret hex hb hr hlk hK hA hP hS ⟨rfl, rfl, T⟩ (Nat.zero_le _) (Nat.zero_le _) d_O_unmarkAll_35
  · have T := T2 hc
    refine lv_aload_n hex hb d_O_unmarkAll_8 rfl (lv_at hl 0 rfl) ?_
    refine r_getR (ci := 0) (C := R_O) (T := F_O) (N := 1) hex hb hts (fun w h => List.mem_cons_of_mem _ (in_O w h)) hown hK hP hLO rfl 0 (by decide) (hts _ (List.mem_cons_of_mem _ bg_40)) (fun _ h9 => h9) rfl d_O_unmarkAll_9 ?_
    refine lv_iload_n hex hb d_O_unmarkAll_12 rfl (lv_at hl 1 rfl) ?_
    obtain ⟨h2, T⟩ := T
    obtain ⟨h3, T⟩ := T
    refine r_aald hex hb hK hP hLA5 (by decide) (by decide) h2 h3 d_O_unmarkAll_13 ?_
    refine r_astore_n (o := σ.2.2 102 (c 5) i1.toNat) (lv' := [(2, va_rf (σ.2.2 102 (c 5) i1.toNat)), (0, .ref (c 4)), (1, .int (iI i1))]) hex hb d_O_unmarkAll_14 rfl hl (Nat.le_of_ble_eq_true rfl) rfl (fun ls hl => ?_)
    refine r_aload_n (o := σ.2.2 102 (c 5) i1.toNat) hex hb d_O_unmarkAll_15 rfl (lv_at hl 0 rfl) ?_
    obtain ⟨Tn, Ts⟩ := T
    refine r_ifnull (o := σ.2.2 102 (c 5) i1.toNat) (tgt := 29) hex hb d_O_unmarkAll_16 rfl (fun hn => ?_) (fun t4 ht5 => ?_)
    · have T := Tn hn
      have hl : lv_has ls 3 [(2, va_rf none), (0, .ref (c 4)), (1, .int (iI i1))] := by have h9 := hl; rw [hn] at h9; exact h9
      refine lv_iinc (v := iI (i1 + 1)) (lv' := [(1, .int (iI (i1 + 1))), (2, va_rf none), (0, .ref (c 4))]) hex hb d_O_unmarkAll_29 hl (k := 2) rfl (iI_add _ _) (Nat.le_of_ble_eq_true rfl) rfl (fun ls hl => ?_)
      refine lv_goto (tgt := 2) hex hb d_O_unmarkAll_32 rfl ?_
      exact AtG.use T hK hA _ _ _ (lv_sub hl [2, 0] rfl) hP hS
    · have T := Ts t4 ht5
      have hl : lv_has ls 3 [(2, .ref t4), (0, .ref (c 4)), (1, .int (iI i1))] := by have h9 := hl; rw [ht5] at h9; exact h9
      refine lv_aload_n hex hb d_O_unmarkAll_19 rfl (lv_at hl 0 rfl) ?_
      refine lv_iconst (v := iI 0) hex hb d_O_unmarkAll_20 rfl ?_
      obtain ⟨⟨hT6, ⟨cT6, hF6⟩, hn6⟩, T⟩ := T
      refine r_putI (ci := 2) (C := R_T) (T := F_T) (N := 7) (v := 0) (ty := .boolean) hex hb hts (fun w h => List.mem_cons_of_mem _ (in_T w h)) tq_T tq_T_ok n_T hown hK hP hA hS hT6 rfl 4 (by decide) (hts _ (List.mem_cons_of_mem _ bg_239)) (fun _ h9 => h9) rfl (by decide +kernel) rfl rfl rfl d_O_unmarkAll_21 (fun H locs hP hS => ?_)
      refine lv_aload_n hex hb d_O_unmarkAll_24 rfl (lv_at hl 0 rfl) ?_
      refine lv_iconst (v := iI 0) hex hb d_O_unmarkAll_25 rfl ?_
      refine r_putI (ci := 2) (C := R_T) (T := F_T) (N := 7) (v := 0) (ty := .boolean) hex hb hts (fun w h => List.mem_cons_of_mem _ (in_T w h)) tq_T tq_T_ok n_T hown hK hP hA hS hT6 rfl 5 (by decide) (hts _ (List.mem_cons_of_mem _ bg_241)) (fun _ h9 => h9) rfl (by decide +kernel) rfl rfl rfl d_O_unmarkAll_26 (fun H locs hP hS => ?_)
      refine lv_iinc (v := iI (i1 + 1)) (lv' := [(1, .int (iI (i1 + 1))), (2, .ref t4), (0, .ref (c 4))]) hex hb d_O_unmarkAll_29 hl (k := 2) rfl (iI_add _ _) (Nat.le_of_ble_eq_true rfl) rfl (fun ls hl => ?_)
      refine lv_goto (tgt := 2) hex hb d_O_unmarkAll_32 rfl ?_
      exact AtG.use T hK hA _ _ _ (lv_sub hl [2, 0] rfl) hP hS
-- DirtyCardHeap$OldPart.slideReached()V
def rm_O_slideReached : Room := { frames := 3, cells := 0, slots := 0, locals := 67 }
abbrev X_O_slideReached (x : Cx) : Prop := CxOk x b_O_slideReached 4 wl_O_slideReached R_O none rm_O_slideReached "slideReached"
abbrev K_O_slideReached (l : Launch) (D : va_G) (Λ : Lam) (σ : Mem) (c : Nat → Nat) (P : Mem → Prop) : Prop := Ct l D y_O_slideReached wl_O_slideReached rm_O_slideReached [.ref (c 4)] Λ σ (pV Λ P)
abbrev N_O_slideReached_0 (x : Cx) (P : Mem → Prop) (Λ : Lam) (σ : Mem) (c : Nat → Nat) : Prop := AtG x (pV Λ P) 4 0 0 0 Λ σ [(0, .ref (c 4))] []
abbrev N_O_slideReached_4 (x : Cx) (P : Mem → Prop) (Λ : Lam) (σ : Mem) (c : Nat → Nat) (i1 : Int) (i2 : Int) : Prop := AtG x (pV Λ P) 4 4 0 0 Λ σ [(0, .ref (c 4)), (1, .int (iI i1)), (2, .int (iI i2))] []
theorem e_O_slideReached {l : Launch} {D : va_G} {Λ : Lam} {σ : Mem} {c : Nat → Nat} {P : Mem → Prop} (h : ∀ x : Cx, xl x = l → xD x = D → X_O_slideReached x → N_O_slideReached_0 x P Λ σ c) : K_O_slideReached l D Λ σ c P := Ct.of (by decide) rfl (Nat.le_of_ble_eq_true rfl) h
set_option maxHeartbeats 4000000 in
set_option maxRecDepth 100000 in
theorem u_O_slideReached_0 {x : Cx} (hx : X_O_slideReached x) {P : Mem → Prop} {Λ : Lam} {σ : Mem} {c : Nat → Nat} (hL : LayC Λ c) (T : N_O_slideReached_4 x P Λ σ c 0 0) : N_O_slideReached_0 x P Λ σ c := by
  obtain ⟨hex, hb, hml, hown, hts, hr, hlk, hR, hnm, hAs, hNW⟩ := hx
  obtain ⟨hLH, ⟨cA1, hLA1⟩, ⟨hLR2, cA3, hLA3⟩, hLO, ⟨cA5, hLA5⟩, ⟨hLR6, cA7, hLA7⟩⟩ := hL
  refine ⟨(), fun hK hA ls H locs hl hP hS => ?_⟩
  refine lv_iconst (v := iI 0) hex hb d_O_slideReached_0 rfl ?_
  refine lv_istore_n (lv' := [(1, .int (iI 0)), (0, .ref (c 4))]) hex hb d_O_slideReached_1 rfl hl (Nat.le_of_ble_eq_true rfl) rfl (fun ls hl => ?_)
  refine lv_iconst (v := iI 0) hex hb d_O_slideReached_2 rfl ?_
  refine lv_istore_n (lv' := [(2, .int (iI 0)), (1, .int (iI 0)), (0, .ref (c 4))]) hex hb d_O_slideReached_3 rfl hl (Nat.le_of_ble_eq_true rfl) rfl (fun ls hl => ?_)
  exact AtG.use T hK hA _ _ _ (lv_sub hl [2, 1, 0] rfl) hP hS
set_option maxHeartbeats 4000000 in
set_option maxRecDepth 100000 in
theorem u_O_slideReached_4 {x : Cx} (hx : X_O_slideReached x) {P : Mem → Prop} {Λ : Lam} {σ : Mem} {c : Nat → Nat} {i1 : Int} {i2 : Int} (hL : LayC Λ c) (T : rng i2 ∧ ((64 ≤ i2 → P σ) ∧ (¬ 64 ≤ i2 → K_O_thingAt (xl x) (xD x) Λ σ c i2 (fun o2r σa2 => ((o2r = none → N_O_slideReached_4 x P Λ σa2 c i1 (i2 + 1)) ∧ (∀ t3, o2r = some t3 → K_O_takeOut (xl x) (xD x) Λ σa2 c (some t3) (fun σa5 => isT Λ t3 ∧ rng (σa5.1 206 t3) ∧ (((σa5.1 206 t3) = 0 → K_T_becomeGone (xl x) (xD x) Λ σa5 t3 (fun σa8 => N_O_slideReached_4 x P Λ σa8 c i1 (i2 + 1))) ∧ (¬ (σa5.1 206 t3) = 0 → K_O_putAt (xl x) (xD x) Λ σa5 c (some t3) i1 (fun σa9 => K_T_size (xl x) (xD x) Λ σa9 t3 (fun z10 σa10 => N_O_slideReached_4 x P Λ σa10 c (i1 + z10) (i2 + 1)))))))))))) : N_O_slideReached_4 x P Λ σ c i1 i2 := by
  obtain ⟨hex, hb, hml, hown, hts, hr, hlk, hR, hnm, hAs, hNW⟩ := hx
  obtain ⟨hLH, ⟨cA1, hLA1⟩, ⟨hLR2, cA3, hLA3⟩, hLO, ⟨cA5, hLA5⟩, ⟨hLR6, cA7, hLA7⟩⟩ := hL
  refine ⟨(), fun hK hA ls H locs hl hP hS => ?_⟩
  refine lv_iload_n hex hb d_O_slideReached_4 rfl (lv_at hl 2 rfl) ?_
  refine lv_bipush (v := iI 64) hex hb d_O_slideReached_5 rfl ?_
  obtain ⟨h1, T⟩ := T
  obtain ⟨T1, T2⟩ := T
  refine r_icmp_ge (a := i2) (b := 64) (tgt := 61) hex hb h1 ⟨by omega, by omega⟩ d_O_slideReached_7 rfl (fun hc => ?_) (fun hc => ?_)
  · have T := T1 hc
    exact r_vret hex hb hr hlk hK hA hP hS ⟨rfl, rfl, T⟩ (Nat.zero_le _) (Nat.zero_le _) d_O_slideReached_61
  · have T := T2 hc
    refine lv_aload_n hex hb d_O_slideReached_10 rfl (lv_at hl 0 rfl) ?_
    refine lv_iload_n hex hb d_O_slideReached_11 rfl (lv_at hl 2 rfl) ?_
    refine r_call (va_runV (As := [.int (iI i2)]) (rest := []) ⟨hex, hb, hml, hown, hts⟩ (Ct.use T H.size) (cwV 1 hts (gdV bg_201 bg_202 bg_203 bg_3 bc_O_thingAt) rfl rfl rfl hdV_O_thingAt ⟨by rw [hR]; exact Nat.le_of_ble_eq_true rfl, by rw [hR]; exact Nat.le_of_ble_eq_true rfl⟩) (px_preV (ci := 0) hNW hK hP hLO rfl) rfl rfl hl.1 rfl (lv_room (Nat.le_of_ble_eq_true rfl)) d_O_slideReached_12 ⟨by rw [hR]; exact Nat.le_of_ble_eq_true rfl, by rw [hR]; exact Nat.le_of_ble_eq_true rfl⟩) hS hA hAs (fun v Λ1 σ1 H locs hp hP hK hA hS => ?_)
    obtain ⟨o2r, rfl, rfl, T⟩ := hp
    generalize σ1 = σa2 at hP T
    refine W.eq (g2 := F0 (xm x) 15 ls [va_rf o2r]) rfl ?_
    refine r_astore_n (o := o2r) (lv' := [(3, va_rf o2r), (0, .ref (c 4)), (1, .int (iI i1)), (2, .int (iI i2))]) hex hb d_O_slideReached_15 rfl hl (Nat.le_of_ble_eq_true rfl) rfl (fun ls hl => ?_)
    refine r_aload_n (o := o2r) hex hb d_O_slideReached_16 rfl (lv_at hl 0 rfl) ?_
    obtain ⟨Tn, Ts⟩ := T
    refine r_ifnonnull (o := o2r) (tgt := 23) hex hb d_O_slideReached_17 rfl (fun hn => ?_) (fun t3 ht4 => ?_)
    · have T := Tn hn
      have hl : lv_has ls 4 [(3, va_rf none), (0, .ref (c 4)), (1, .int (iI i1)), (2, .int (iI i2))] := by have h9 := hl; rw [hn] at h9; exact h9
      refine lv_goto (tgt := 55) hex hb d_O_slideReached_20 rfl ?_
      refine lv_iinc (v := iI (i2 + 1)) (lv' := [(2, .int (iI (i2 + 1))), (3, va_rf none), (0, .ref (c 4)), (1, .int (iI i1))]) hex hb d_O_slideReached_55 hl (k := 3) rfl (iI_add _ _) (Nat.le_of_ble_eq_true rfl) rfl (fun ls hl => ?_)
      refine lv_goto (tgt := 4) hex hb d_O_slideReached_58 rfl ?_
      exact AtG.use T hK hA _ _ _ (lv_sub hl [2, 3, 0] rfl) hP hS
    · have T := Ts t3 ht4
      have hl : lv_has ls 4 [(3, .ref t3), (0, .ref (c 4)), (1, .int (iI i1)), (2, .int (iI i2))] := by have h9 := hl; rw [ht4] at h9; exact h9
      refine lv_aload_n hex hb d_O_slideReached_23 rfl (lv_at hl 1 rfl) ?_
      refine lv_aload_n hex hb d_O_slideReached_24 rfl (lv_at hl 0 rfl) ?_
      refine r_call (va_runV (As := [.ref t3]) (rest := []) ⟨hex, hb, hml, hown, hts⟩ (Ct.use T H.size) (cwV 1 hts (gdV bg_205 bg_206 bg_207 bg_3 bc_O_takeOut) rfl rfl rfl hdV_O_takeOut ⟨by rw [hR]; exact Nat.le_of_ble_eq_true rfl, by rw [hR]; exact Nat.le_of_ble_eq_true rfl⟩) (px_preV (ci := 0) hNW hK hP hLO rfl) rfl rfl hl.1 rfl (lv_room (Nat.le_of_ble_eq_true rfl)) d_O_slideReached_25 ⟨by rw [hR]; exact Nat.le_of_ble_eq_true rfl, by rw [hR]; exact Nat.le_of_ble_eq_true rfl⟩) hS hA hAs (fun v Λ1 σ1 H locs hp hP hK hA hS => ?_)
      obtain ⟨rfl, rfl, T⟩ := hp
      generalize σ1 = σa5 at hP T
      refine W.eq (g2 := F0 (xm x) 28 ls []) rfl ?_
      refine lv_aload_n hex hb d_O_slideReached_28 rfl (lv_at hl 0 rfl) ?_
      obtain ⟨⟨hT6, ⟨cT6, hF6⟩, hn6⟩, T⟩ := T
      refine r_getI (ci := 2) (C := R_T) (T := F_T) (N := 7) hex hb hts (fun w h => List.mem_cons_of_mem _ (in_T w h)) hown hK hP hT6 rfl 6 (by decide) (hts _ (List.mem_cons_of_mem _ bg_244)) (fun _ h9 => h9) rfl d_O_slideReached_29 ?_
      obtain ⟨h7, T⟩ := T
      obtain ⟨T1, T2⟩ := T
      refine r_if_eq (a := σa5.1 206 t3) (tgt := 51) hex hb h7 d_O_slideReached_32 rfl (fun hc => ?_) (fun hc => ?_)
      · have T := T1 hc
        refine lv_aload_n hex hb d_O_slideReached_51 rfl (lv_at hl 0 rfl) ?_
        refine r_call (va_runV (As := []) (rest := []) ⟨hex, hb, hml, hown, hts⟩ (Ct.use T H.size) (cwV 0 hts (gdV bg_210 bg_162 bg_163 bg_6 bc_T_becomeGone) rfl rfl rfl hdV_T_becomeGone ⟨by rw [hR]; exact Nat.le_of_ble_eq_true rfl, by rw [hR]; exact Nat.le_of_ble_eq_true rfl⟩) (px_preV (ci := 2) hNW hK hP hT6 rfl) rfl rfl hl.1 rfl (lv_room (Nat.le_of_ble_eq_true rfl)) d_O_slideReached_52 ⟨by rw [hR]; exact Nat.le_of_ble_eq_true rfl, by rw [hR]; exact Nat.le_of_ble_eq_true rfl⟩) hS hA hAs (fun v Λ1 σ1 H locs hp hP hK hA hS => ?_)
        obtain ⟨rfl, rfl, T⟩ := hp
        generalize σ1 = σa8 at hP T
        refine W.eq (g2 := F0 (xm x) 55 ls []) rfl ?_
        refine lv_iinc (v := iI (i2 + 1)) (lv' := [(2, .int (iI (i2 + 1))), (3, .ref t3), (0, .ref (c 4)), (1, .int (iI i1))]) hex hb d_O_slideReached_55 hl (k := 3) rfl (iI_add _ _) (Nat.le_of_ble_eq_true rfl) rfl (fun ls hl => ?_)
        refine lv_goto (tgt := 4) hex hb d_O_slideReached_58 rfl ?_
        exact AtG.use T hK hA _ _ _ (lv_sub hl [2, 3, 0] rfl) hP hS
      · have T := T2 hc
        refine lv_aload_n hex hb d_O_slideReached_35 rfl (lv_at hl 1 rfl) ?_
        refine lv_aload_n hex hb d_O_slideReached_36 rfl (lv_at hl 0 rfl) ?_
        refine lv_iload_n hex hb d_O_slideReached_37 rfl (lv_at hl 2 rfl) ?_
        refine r_call (va_runV (As := [.ref t3, .int (iI i1)]) (rest := []) ⟨hex, hb, hml, hown, hts⟩ (Ct.use T H.size) (cwV 2 hts (gdV bg_209 bg_122 bg_123 bg_3 bc_O_putAt) rfl rfl rfl hdV_O_putAt ⟨by rw [hR]; exact Nat.le_of_ble_eq_true rfl, by rw [hR]; exact Nat.le_of_ble_eq_true rfl⟩) (px_preV (ci := 0) hNW hK hP hLO rfl) rfl rfl hl.1 rfl (lv_room (Nat.le_of_ble_eq_true rfl)) d_O_slideReached_38 ⟨by rw [hR]; exact Nat.le_of_ble_eq_true rfl, by rw [hR]; exact Nat.le_of_ble_eq_true rfl⟩) hS hA hAs (fun v Λ1 σ1 H locs hp hP hK hA hS => ?_)
        obtain ⟨rfl, rfl, T⟩ := hp
        generalize σ1 = σa9 at hP T
        refine W.eq (g2 := F0 (xm x) 41 ls []) rfl ?_
        refine lv_iload_n hex hb d_O_slideReached_41 rfl (lv_at hl 2 rfl) ?_
        refine lv_aload_n hex hb d_O_slideReached_42 rfl (lv_at hl 0 rfl) ?_
        refine r_call (va_runV (As := []) (rest := [.int (iI i1)]) ⟨hex, hb, hml, hown, hts⟩ (Ct.use T H.size) (cwV 0 hts (gdV bg_125 bg_86 bg_87 bg_6 bc_T_size) rfl rfl rfl hdV_T_size ⟨by rw [hR]; exact Nat.le_of_ble_eq_true rfl, by rw [hR]; exact Nat.le_of_ble_eq_true rfl⟩) (px_preV (ci := 2) hNW hK hP hT6 rfl) rfl rfl hl.1 rfl (lv_room (Nat.le_of_ble_eq_true rfl)) d_O_slideReached_43 ⟨by rw [hR]; exact Nat.le_of_ble_eq_true rfl, by rw [hR]; exact Nat.le_of_ble_eq_true rfl⟩) hS hA hAs (fun v Λ1 σ1 H locs hp hP hK hA hS => ?_)
        obtain ⟨z10, rfl, rfl, T⟩ := hp
        generalize σ1 = σa10 at hP T
        refine W.eq (g2 := F0 (xm x) 46 ls [.int (iI z10), .int (iI i1)]) rfl ?_
        refine r_iadd hex hb d_O_slideReached_46 ?_
        refine lv_istore_n (lv' := [(1, .int (iI (i1 + z10))), (3, .ref t3), (0, .ref (c 4)), (2, .int (iI i2))]) hex hb d_O_slideReached_47 rfl hl (Nat.le_of_ble_eq_true rfl) rfl (fun ls hl => ?_)
        refine lv_goto (tgt := 55) hex hb d_O_slideReached_48 rfl ?_
        refine lv_iinc (v := iI (i2 + 1)) (lv' := [(2, .int (iI (i2 + 1))), (1, .int (iI (i1 + z10))), (3, .ref t3), (0, .ref (c 4))]) hex hb d_O_slideReached_55 hl (k := 3) rfl (iI_add _ _) (Nat.le_of_ble_eq_true rfl) rfl (fun ls hl => ?_)
        refine lv_goto (tgt := 4) hex hb d_O_slideReached_58 rfl ?_
        exact AtG.use T hK hA _ _ _ (lv_sub hl [3, 1, 0] rfl) hP hS
-- DirtyCardHeap$OldPart.cellsTaken()I
def rm_O_cellsTaken : Room := { frames := 0, cells := 0, slots := 0, locals := 0 }
abbrev X_O_cellsTaken (x : Cx) : Prop := CxOk x b_O_cellsTaken 3 wl_O_cellsTaken R_O (some .int) rm_O_cellsTaken "cellsTaken"
abbrev K_O_cellsTaken (l : Launch) (D : va_G) (Λ : Lam) (σ : Mem) (c : Nat → Nat) (P : Int → Mem → Prop) : Prop := Ct l D y_O_cellsTaken wl_O_cellsTaken rm_O_cellsTaken [.ref (c 4)] Λ σ (pI Λ P)
abbrev N_O_cellsTaken_0 (x : Cx) (P : Int → Mem → Prop) (Λ : Lam) (σ : Mem) (c : Nat → Nat) : Prop := AtG x (pI Λ P) 3 0 0 0 Λ σ [(0, .ref (c 4))] []
abbrev N_O_cellsTaken_4 (x : Cx) (P : Int → Mem → Prop) (Λ : Lam) (σ : Mem) (c : Nat → Nat) (i1 : Int) (i2 : Int) : Prop := AtG x (pI Λ P) 3 4 0 0 Λ σ [(0, .ref (c 4)), (1, .int (iI i1)), (2, .int (iI i2))] []
theorem e_O_cellsTaken {l : Launch} {D : va_G} {Λ : Lam} {σ : Mem} {c : Nat → Nat} {P : Int → Mem → Prop} (h : ∀ x : Cx, xl x = l → xD x = D → X_O_cellsTaken x → N_O_cellsTaken_0 x P Λ σ c) : K_O_cellsTaken l D Λ σ c P := Ct.of (by decide) rfl (Nat.le_of_ble_eq_true rfl) h
set_option maxHeartbeats 4000000 in
set_option maxRecDepth 100000 in
theorem u_O_cellsTaken_0 {x : Cx} (hx : X_O_cellsTaken x) {P : Int → Mem → Prop} {Λ : Lam} {σ : Mem} {c : Nat → Nat} (hL : LayC Λ c) (T : N_O_cellsTaken_4 x P Λ σ c 0 0) : N_O_cellsTaken_0 x P Λ σ c := by
  obtain ⟨hex, hb, hml, hown, hts, hr, hlk, hR, hnm, hAs, hNW⟩ := hx
  obtain ⟨hLH, ⟨cA1, hLA1⟩, ⟨hLR2, cA3, hLA3⟩, hLO, ⟨cA5, hLA5⟩, ⟨hLR6, cA7, hLA7⟩⟩ := hL
  refine ⟨(), fun hK hA ls H locs hl hP hS => ?_⟩
  refine lv_iconst (v := iI 0) hex hb d_O_cellsTaken_0 rfl ?_
  refine lv_istore_n (lv' := [(1, .int (iI 0)), (0, .ref (c 4))]) hex hb d_O_cellsTaken_1 rfl hl (Nat.le_of_ble_eq_true rfl) rfl (fun ls hl => ?_)
  refine lv_iconst (v := iI 0) hex hb d_O_cellsTaken_2 rfl ?_
  refine lv_istore_n (lv' := [(2, .int (iI 0)), (1, .int (iI 0)), (0, .ref (c 4))]) hex hb d_O_cellsTaken_3 rfl hl (Nat.le_of_ble_eq_true rfl) rfl (fun ls hl => ?_)
  exact AtG.use T hK hA _ _ _ (lv_sub hl [2, 1, 0] rfl) hP hS
set_option maxHeartbeats 4000000 in
set_option maxRecDepth 100000 in
theorem u_O_cellsTaken_4 {x : Cx} (hx : X_O_cellsTaken x) {P : Int → Mem → Prop} {Λ : Lam} {σ : Mem} {c : Nat → Nat} {i1 : Int} {i2 : Int} (hL : LayC Λ c) (T : rng i2 ∧ ((64 ≤ i2 → P i1 σ) ∧ (¬ 64 ≤ i2 → 0 ≤ i2 ∧ i2 < (64 : Int) ∧ ((σ.2.2 102 (c 5) i2.toNat = none → N_O_cellsTaken_4 x P Λ σ c i1 (i2 + 1)) ∧ (∀ t4, σ.2.2 102 (c 5) i2.toNat = some t4 → N_O_cellsTaken_4 x P Λ σ c (i1 + 1) (i2 + 1)))))) : N_O_cellsTaken_4 x P Λ σ c i1 i2 := by
  obtain ⟨hex, hb, hml, hown, hts, hr, hlk, hR, hnm, hAs, hNW⟩ := hx
  obtain ⟨hLH, ⟨cA1, hLA1⟩, ⟨hLR2, cA3, hLA3⟩, hLO, ⟨cA5, hLA5⟩, ⟨hLR6, cA7, hLA7⟩⟩ := hL
  refine ⟨(), fun hK hA ls H locs hl hP hS => ?_⟩
  refine lv_iload_n hex hb d_O_cellsTaken_4 rfl (lv_at hl 2 rfl) ?_
  refine lv_bipush (v := iI 64) hex hb d_O_cellsTaken_5 rfl ?_
  obtain ⟨h1, T⟩ := T
  obtain ⟨T1, T2⟩ := T
  refine r_icmp_ge (a := i2) (b := 64) (tgt := 28) hex hb h1 ⟨by omega, by omega⟩ d_O_cellsTaken_7 rfl (fun hc => ?_) (fun hc => ?_)
  · have T := T1 hc
    refine lv_iload_n hex hb d_O_cellsTaken_28 rfl (lv_at hl 1 rfl) ?_
    exact r_iret hex hb hr hlk hK hA hP hS ⟨_, rfl, rfl, T⟩ (Nat.zero_le _) (Nat.zero_le _) d_O_cellsTaken_29
  · have T := T2 hc
    refine lv_aload_n hex hb d_O_cellsTaken_10 rfl (lv_at hl 0 rfl) ?_
    refine r_getR (ci := 0) (C := R_O) (T := F_O) (N := 1) hex hb hts (fun w h => List.mem_cons_of_mem _ (in_O w h)) hown hK hP hLO rfl 0 (by decide) (hts _ (List.mem_cons_of_mem _ bg_40)) (fun _ h9 => h9) rfl d_O_cellsTaken_11 ?_
    refine lv_iload_n hex hb d_O_cellsTaken_14 rfl (lv_at hl 2 rfl) ?_
    obtain ⟨h2, T⟩ := T
    obtain ⟨h3, T⟩ := T
    refine r_aald hex hb hK hP hLA5 (by decide) (by decide) h2 h3 d_O_cellsTaken_15 ?_
    obtain ⟨Tn, Ts⟩ := T
    refine r_ifnull (o := σ.2.2 102 (c 5) i2.toNat) (tgt := 22) hex hb d_O_cellsTaken_16 rfl (fun hn => ?_) (fun t4 ht5 => ?_)
    · have T := Tn hn
      refine lv_iinc (v := iI (i2 + 1)) (lv' := [(2, .int (iI (i2 + 1))), (0, .ref (c 4)), (1, .int (iI i1))]) hex hb d_O_cellsTaken_22 hl (k := 2) rfl (iI_add _ _) (Nat.le_of_ble_eq_true rfl) rfl (fun ls hl => ?_)
      refine lv_goto (tgt := 4) hex hb d_O_cellsTaken_25 rfl ?_
      exact AtG.use T hK hA _ _ _ (lv_sub hl [1, 2, 0] rfl) hP hS
    · have T := Ts t4 ht5
      refine lv_iinc (v := iI (i1 + 1)) (lv' := [(1, .int (iI (i1 + 1))), (0, .ref (c 4)), (2, .int (iI i2))]) hex hb d_O_cellsTaken_19 hl (k := 1) rfl (iI_add _ _) (Nat.le_of_ble_eq_true rfl) rfl (fun ls hl => ?_)
      refine lv_iinc (v := iI (i2 + 1)) (lv' := [(2, .int (iI (i2 + 1))), (1, .int (iI (i1 + 1))), (0, .ref (c 4))]) hex hb d_O_cellsTaken_22 hl (k := 2) rfl (iI_add _ _) (Nat.le_of_ble_eq_true rfl) rfl (fun ls hl => ?_)
      refine lv_goto (tgt := 4) hex hb d_O_cellsTaken_25 rfl ?_
      exact AtG.use T hK hA _ _ _ (lv_sub hl [2, 1, 0] rfl) hP hS
