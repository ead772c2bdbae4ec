-- DirtyCardHeap.findReachable()V
def rm_H_findReachable : Room := { frames := 2, cells := 0, slots := 0, locals := 42 }
abbrev X_H_findReachable (x : Cx) : Prop := CxOk x b_H_findReachable 4 wl_H_findReachable R_H none rm_H_findReachable "findReachable"
abbrev K_H_findReachable (l : Launch) (D : va_G) (Λ : Lam) (σ : Mem) (c : Nat → Nat) (P : Mem → Prop) : Prop := Ct l D y_H_findReachable wl_H_findReachable rm_H_findReachable [.ref (c 0)] Λ σ (pV Λ P)
abbrev N_H_findReachable_0 (x : Cx) (P : Mem → Prop) (Λ : Lam) (σ : Mem) (c : Nat → Nat) : Prop := AtG x (pV Λ P) 4 0 0 0 Λ σ [(0, .ref (c 0))] []
abbrev N_H_findReachable_2 (x : Cx) (P : Mem → Prop) (Λ : Lam) (σ : Mem) (c : Nat → Nat) (i1 : Int) : Prop := AtG x (pV Λ P) 4 2 0 0 Λ σ [(0, .ref (c 0)), (1, .int (iI i1))] []
abbrev N_H_findReachable_30 (x : Cx) (P : Mem → Prop) (Λ : Lam) (σ : Mem) (c : Nat → Nat) (i1 : Int) : Prop := AtG x (pV Λ P) 4 30 0 0 Λ σ [(0, .ref (c 0)), (1, .int (iI i1))] []
abbrev N_H_findReachable_59 (x : Cx) (P : Mem → Prop) (Λ : Lam) (σ : Mem) (c : Nat → Nat) (i1 : Int) (o2 : Option Nat) (i3 : Int) : Prop := AtG x (pV Λ P) 4 59 0 0 Λ σ [(0, .ref (c 0)), (1, .int (iI i1)), (2, va_rf o2), (3, .int (iI i3))] []
theorem e_H_findReachable {l : Launch} {D : va_G} {Λ : Lam} {σ : Mem} {c : Nat → Nat} {P : Mem → Prop} (h : ∀ x : Cx, xl x = l → xD x = D → X_H_findReachable x → N_H_findReachable_0 x P Λ σ c) : K_H_findReachable l D Λ σ c P := Ct.of (by decide) rfl (Nat.le_of_ble_eq_true rfl) h
set_option maxHeartbeats 4000000 in
set_option maxRecDepth 100000 in
theorem u_H_findReachable_0 {x : Cx} (hx : X_H_findReachable x) {P : Mem → Prop} {Λ : Lam} {σ : Mem} {c : Nat → Nat} (hL : LayC Λ c) (T : N_H_findReachable_2 x P Λ σ c 0) : N_H_findReachable_0 x P Λ σ c := by
  obtain ⟨hex, hb, hml, hown, hts, hr, hlk, hR, hnm, hAs, hNW⟩ := hx
  obtain ⟨hLH, ⟨cA1, hLA1⟩, ⟨hLR2, cA3, hLA3⟩, hLO, ⟨cA5, hLA5⟩, ⟨hLR6, cA7, hLA7⟩⟩ := hL
  refine ⟨(), fun hK hA ls H locs hl hP hS => ?_⟩
  refine lv_iconst (v := iI 0) hex hb d_H_findReachable_0 rfl ?_
  refine lv_istore_n (lv' := [(1, .int (iI 0)), (0, .ref (c 0))]) hex hb d_H_findReachable_1 rfl hl (Nat.le_of_ble_eq_true rfl) rfl (fun ls hl => ?_)
  exact AtG.use T hK hA _ _ _ (lv_sub hl [1, 0] rfl) hP hS
set_option maxHeartbeats 4000000 in
set_option maxRecDepth 100000 in
theorem u_H_findReachable_2 {x : Cx} (hx : X_H_findReachable x) {P : Mem → Prop} {Λ : Lam} {σ : Mem} {c : Nat → Nat} {i1 : Int} (hL : LayC Λ c) (T : rng i1 ∧ ((6 ≤ i1 → N_H_findReachable_30 x P Λ σ c 0) ∧ (¬ 6 ≤ i1 → 0 ≤ i1 ∧ i1 < (6 : Int) ∧ K_R_reach (xl x) (xD x) Λ σ (c 6) (σ.2.2 100 (c 1) i1.toNat) (fun z4 σa4 => N_H_findReachable_2 x P Λ σa4 c (i1 + 1))))) : N_H_findReachable_2 x P Λ σ c i1 := by
  obtain ⟨hex, hb, hml, hown, hts, hr, hlk, hR, hnm, hAs, hNW⟩ := hx
  obtain ⟨hLH, ⟨cA1, hLA1⟩, ⟨hLR2, cA3, hLA3⟩, hLO, ⟨cA5, hLA5⟩, ⟨hLR6, cA7, hLA7⟩⟩ := hL
  refine ⟨(), fun hK hA ls H locs hl hP hS => ?_⟩
  refine lv_iload_n hex hb d_H_findReachable_2 rfl (lv_at hl 1 rfl) ?_
  refine lv_bipush (v := iI 6) hex hb d_H_findReachable_3 rfl ?_
  obtain ⟨h1, T⟩ := T
  obtain ⟨T1, T2⟩ := T
  refine r_icmp_ge (a := i1) (b := 6) (tgt := 28) hex hb h1 ⟨by omega, by omega⟩ d_H_findReachable_5 rfl (fun hc => ?_) (fun hc => ?_)
  · have T := T1 hc
    refine lv_iconst (v := iI 0) hex hb d_H_findReachable_28 rfl ?_
    refine lv_istore_n (lv' := [(1, .int (iI 0)), (0, .ref (c 0))]) hex hb d_H_findReachable_29 rfl hl (Nat.le_of_ble_eq_true rfl) rfl (fun ls hl => ?_)
    exact AtG.use T hK hA _ _ _ (lv_sub hl [1, 0] rfl) hP hS
  · have T := T2 hc
    refine lv_aload_n hex hb d_H_findReachable_8 rfl (lv_at hl 0 rfl) ?_
    refine r_getR (ci := 3) (C := R_H) (T := F_H) (N := 8) hex hb hts (fun w h => List.mem_cons_of_mem _ (in_H w h)) hown hK hP hLH rfl 3 (by decide) (hts _ (List.mem_cons_of_mem _ bg_48)) (fun _ h9 => h9) rfl d_H_findReachable_9 ?_
    refine lv_aload_n hex hb d_H_findReachable_12 rfl (lv_at hl 0 rfl) ?_
    refine r_getR (ci := 3) (C := R_H) (T := F_H) (N := 8) hex hb hts (fun w h => List.mem_cons_of_mem _ (in_H w h)) hown hK hP hLH rfl 0 (by decide) (hts _ (List.mem_cons_of_mem _ bg_45)) (fun _ h9 => h9) rfl d_H_findReachable_13 ?_
    refine lv_iload_n hex hb d_H_findReachable_16 rfl (lv_at hl 1 rfl) ?_
    obtain ⟨h2, T⟩ := T
    obtain ⟨h3, T⟩ := T
    refine r_aald hex hb hK hP hLA1 (by decide) (by decide) h2 h3 d_H_findReachable_17 ?_
    refine r_call (va_runV (As := [va_rf (σ.2.2 100 (c 1) i1.toNat)]) (rest := []) ⟨hex, hb, hml, hown, hts⟩ (Ct.use T H.size) (cwV 1 hts (gdV bg_101 bg_102 bg_103 bg_2 bc_R_reach) rfl rfl rfl hdV_R_reach ⟨by rw [hR]; exact Nat.le_of_ble_eq_true rfl, by rw [hR]; exact Nat.le_of_ble_eq_true rfl⟩) (px_preV (ci := 1) hNW hK hP hLR6 rfl) rfl rfl hl.1 rfl (lv_room (Nat.le_of_ble_eq_true rfl)) d_H_findReachable_18 ⟨by rw [hR]; exact Nat.le_of_ble_eq_true rfl, by rw [hR]; exact Nat.le_of_ble_eq_true rfl⟩) hS hA hAs (fun v Λ1 σ1 H locs hp hP hK hA hS => ?_)
    obtain ⟨z4, rfl, rfl, T⟩ := hp
    generalize σ1 = σa4 at hP T
    refine W.eq (g2 := F0 (xm x) 21 ls [.int (iI z4)]) rfl ?_
    refine lv_pop hex hb d_H_findReachable_21 rfl ?_
    refine lv_iinc (v := iI (i1 + 1)) (lv' := [(1, .int (iI (i1 + 1))), (0, .ref (c 0))]) hex hb d_H_findReachable_22 hl (k := 1) rfl (iI_add _ _) (Nat.le_of_ble_eq_true rfl) rfl (fun ls hl => ?_)
    refine lv_goto (tgt := 2) hex hb d_H_findReachable_25 rfl ?_
    exact AtG.use T hK hA _ _ _ (lv_sub hl [1, 0] rfl) hP hS
set_option maxHeartbeats 4000000 in
set_option maxRecDepth 100000 in
theorem u_H_findReachable_30 {x : Cx} (hx : X_H_findReachable x) {P : Mem → Prop} {Λ : Lam} {σ : Mem} {c : Nat → Nat} {i1 : Int} (hL : LayC Λ c) (T : rng i1 ∧ ((84 ≤ i1 → P σ) ∧ (¬ 84 ≤ i1 → rng (σ.1 101 (c 6)) ∧ (((σ.1 101 (c 6)) ≤ i1 → P σ) ∧ (¬ (σ.1 101 (c 6)) ≤ i1 → 0 ≤ i1 ∧ i1 < (84 : Int) ∧ N_H_findReachable_59 x P Λ σ c i1 (σ.2.2 101 (c 7) i1.toNat) 0))))) : N_H_findReachable_30 x P Λ σ c i1 := by
  obtain ⟨hex, hb, hml, hown, hts, hr, hlk, hR, hnm, hAs, hNW⟩ := hx
  obtain ⟨hLH, ⟨cA1, hLA1⟩, ⟨hLR2, cA3, hLA3⟩, hLO, ⟨cA5, hLA5⟩, ⟨hLR6, cA7, hLA7⟩⟩ := hL
  refine ⟨(), fun hK hA ls H locs hl hP hS => ?_⟩
  refine lv_iload_n hex hb d_H_findReachable_30 rfl (lv_at hl 1 rfl) ?_
  refine lv_bipush (v := iI 84) hex hb d_H_findReachable_31 rfl ?_
  obtain ⟨h1, T⟩ := T
  obtain ⟨T1, T2⟩ := T
  refine r_icmp_ge (a := i1) (b := 84) (tgt := 94) hex hb h1 ⟨by omega, by omega⟩ d_H_findReachable_33 rfl (fun hc => ?_) (fun hc => ?_)
  · have T := T1 hc
    exact r_vret hex hb hr hlk hK hA hP hS ⟨rfl, rfl, T⟩ (Nat.zero_le _) (Nat.zero_le _) d_H_findReachable_94
  · have T := T2 hc
    refine lv_iload_n hex hb d_H_findReachable_36 rfl (lv_at hl 1 rfl) ?_
    refine lv_aload_n hex hb d_H_findReachable_37 rfl (lv_at hl 0 rfl) ?_
    refine r_getR (ci := 3) (C := R_H) (T := F_H) (N := 8) hex hb hts (fun w h => List.mem_cons_of_mem _ (in_H w h)) hown hK hP hLH rfl 3 (by decide) (hts _ (List.mem_cons_of_mem _ bg_48)) (fun _ h9 => h9) rfl d_H_findReachable_38 ?_
    refine r_getI (ci := 1) (C := R_R) (T := F_R) (N := 2) hex hb hts (fun w h => List.mem_cons_of_mem _ (in_R w h)) hown hK hP hLR6 rfl 1 (by decide) (hts _ (List.mem_cons_of_mem _ bg_27)) (fun _ h9 => h9) rfl d_H_findReachable_41 ?_
    obtain ⟨h2, T⟩ := T
    obtain ⟨T1, T2⟩ := T
    refine r_icmp_ge (a := i1) (b := σ.1 101 (c 6)) (tgt := 94) hex hb h1 h2 d_H_findReachable_44 rfl (fun hc => ?_) (fun hc => ?_)
    · have T := T1 hc
      exact r_vret hex hb hr hlk hK hA hP hS ⟨rfl, rfl, T⟩ (Nat.zero_le _) (Nat.zero_le _) d_H_findReachable_94
    · have T := T2 hc
      refine lv_aload_n hex hb d_H_findReachable_47 rfl (lv_at hl 0 rfl) ?_
      refine r_getR (ci := 3) (C := R_H) (T := F_H) (N := 8) hex hb hts (fun w h => List.mem_cons_of_mem _ (in_H w h)) hown hK hP hLH rfl 3 (by decide) (hts _ (List.mem_cons_of_mem _ bg_48)) (fun _ h9 => h9) rfl d_H_findReachable_48 ?_
      refine r_getR (ci := 1) (C := R_R) (T := F_R) (N := 2) hex hb hts (fun w h => List.mem_cons_of_mem _ (in_R w h)) hown hK hP hLR6 rfl 0 (by decide) (hts _ (List.mem_cons_of_mem _ bg_25)) (fun _ h9 => h9) rfl d_H_findReachable_51 ?_
      refine lv_iload_n hex hb d_H_findReachable_54 rfl (lv_at hl 1 rfl) ?_
      obtain ⟨h3, T⟩ := T
      obtain ⟨h4, T⟩ := T
      refine r_aald hex hb hK hP hLA7 (by decide) (by decide) h3 h4 d_H_findReachable_55 ?_
      refine r_astore_n (o := σ.2.2 101 (c 7) i1.toNat) (lv' := [(2, va_rf (σ.2.2 101 (c 7) i1.toNat)), (0, .ref (c 0)), (1, .int (iI i1))]) hex hb d_H_findReachable_56 rfl hl (Nat.le_of_ble_eq_true rfl) rfl (fun ls hl => ?_)
      refine lv_iconst (v := iI 0) hex hb d_H_findReachable_57 rfl ?_
      refine lv_istore_n (lv' := [(3, .int (iI 0)), (2, va_rf (σ.2.2 101 (c 7) i1.toNat)), (0, .ref (c 0)), (1, .int (iI i1))]) hex hb d_H_findReachable_58 rfl hl (Nat.le_of_ble_eq_true rfl) (by generalize σ.2.2 101 (c 7) i1.toNat = zz; cases zz <;> rfl) (fun ls hl => ?_)
      exact AtG.use T hK hA _ _ _ (lv_sub hl [2, 3, 1, 0] rfl) hP hS
set_option maxHeartbeats 4000000 in
set_option maxRecDepth 100000 in
theorem u_H_findReachable_59 {x : Cx} (hx : X_H_findReachable x) {P : Mem → Prop} {Λ : Lam} {σ : Mem} {c : Nat → Nat} {i1 : Int} {o2 : Option Nat} {i3 : Int} (hL : LayC Λ c) (T : (∃ t1, o2 = some t1 ∧ isT Λ t1 ∧ rng i3 ∧ rng ((nfL Λ t1 : Nat) : Int) ∧ ((((nfL Λ t1 : Nat) : Int) ≤ i3 → N_H_findReachable_30 x P Λ σ c (i1 + 1)) ∧ (¬ ((nfL Λ t1 : Nat) : Int) ≤ i3 → 0 ≤ i3 ∧ i3 < ((nfL Λ t1 : Nat) : Int) ∧ K_R_reach (xl x) (xD x) Λ σ (c 6) (σ.2.2 103 (faL Λ t1) i3.toNat) (fun z8 σa8 => N_H_findReachable_59 x P Λ σa8 c i1 (some t1) (i3 + 1)))))) : N_H_findReachable_59 x P Λ σ c i1 o2 i3 := by
  obtain ⟨hex, hb, hml, hown, hts, hr, hlk, hR, hnm, hAs, hNW⟩ := hx
  obtain ⟨hLH, ⟨cA1, hLA1⟩, ⟨hLR2, cA3, hLA3⟩, hLO, ⟨cA5, hLA5⟩, ⟨hLR6, cA7, hLA7⟩⟩ := hL
  refine ⟨(), fun hK hA ls H locs hl hP hS => ?_⟩
  refine lv_iload_n hex hb d_H_findReachable_59 rfl (lv_at hl 3 rfl) ?_
  refine r_aload_n (o := o2) hex hb d_H_findReachable_60 rfl (lv_at hl 2 rfl) ?_
  obtain ⟨t1, ht2, T⟩ := T
  have hl : lv_has ls 4 [(0, .ref (c 0)), (1, .int (iI i1)), (2, .ref t1), (3, .int (iI i3))] := by have h9 := hl; rw [ht2] at h9; exact h9
  rw [ht2]
  obtain ⟨⟨hT3, ⟨cT3, hF3⟩, hn3⟩, T⟩ := T
  refine r_getR (ci := 2) (C := R_T) (T := F_T) (N := 7) hex hb hts (fun w h => List.mem_cons_of_mem _ (in_T w h)) hown hK hP hT3 rfl 1 (by decide) (hts _ (List.mem_cons_of_mem _ bg_232)) (fun _ h9 => h9) rfl d_H_findReachable_61 ?_
  refine r_alen hex hb hK hP hF3 d_H_findReachable_64 ?_
  obtain ⟨h4, T⟩ := T
  obtain ⟨h5, T⟩ := T
  obtain ⟨T1, T2⟩ := T
  refine r_icmp_ge (a := i3) (b := ((nfL Λ t1 : Nat) : Int)) (tgt := 88) hex hb h4 h5 d_H_findReachable_65 rfl (fun hc => ?_) (fun hc => ?_)
  · have T := T1 hc
    refine lv_iinc (v := iI (i1 + 1)) (lv' := [(1, .int (iI (i1 + 1))), (0, .ref (c 0)), (2, .ref t1), (3, .int (iI i3))]) hex hb d_H_findReachable_88 hl (k := 1) rfl (iI_add _ _) (Nat.le_of_ble_eq_true rfl) rfl (fun ls hl => ?_)
    refine lv_goto (tgt := 30) hex hb d_H_findReachable_91 rfl ?_
    exact AtG.use T hK hA _ _ _ (lv_sub hl [1, 0] rfl) hP hS
  · have T := T2 hc
    refine lv_aload_n hex hb d_H_findReachable_68 rfl (lv_at hl 0 rfl) ?_
    refine r_getR (ci := 3) (C := R_H) (T := F_H) (N := 8) hex hb hts (fun w h => List.mem_cons_of_mem _ (in_H w h)) hown hK hP hLH rfl 3 (by decide) (hts _ (List.mem_cons_of_mem _ bg_48)) (fun _ h9 => h9) rfl d_H_findReachable_69 ?_
    refine lv_aload_n hex hb d_H_findReachable_72 rfl (lv_at hl 2 rfl) ?_
    refine r_getR (ci := 2) (C := R_T) (T := F_T) (N := 7) hex hb hts (fun w h => List.mem_cons_of_mem _ (in_T w h)) hown hK hP hT3 rfl 1 (by decide) (hts _ (List.mem_cons_of_mem _ bg_232)) (fun _ h9 => h9) rfl d_H_findReachable_73 ?_
    refine lv_iload_n hex hb d_H_findReachable_76 rfl (lv_at hl 3 rfl) ?_
    obtain ⟨h6, T⟩ := T
    obtain ⟨h7, T⟩ := T
    refine r_aald hex hb hK hP hF3 (by decide) (by omega) h6 h7 d_H_findReachable_77 ?_
    refine r_call (va_runV (As := [va_rf (σ.2.2 103 (faL Λ t1) i3.toNat)]) (rest := []) ⟨hex, hb, hml, hown, hts⟩ (Ct.use T H.size) (cwV 1 hts (gdV bg_101 bg_102 bg_103 bg_2 bc_R_reach) rfl rfl rfl hdV_R_reach ⟨by rw [hR]; exact Nat.le_of_ble_eq_true rfl, by rw [hR]; exact Nat.le_of_ble_eq_true rfl⟩) (px_preV (ci := 1) hNW hK hP hLR6 rfl) rfl rfl hl.1 rfl (lv_room (Nat.le_of_ble_eq_true rfl)) d_H_findReachable_78 ⟨by rw [hR]; exact Nat.le_of_ble_eq_true rfl, by rw [hR]; exact Nat.le_of_ble_eq_true rfl⟩) hS hA hAs (fun v Λ1 σ1 H locs hp hP hK hA hS => ?_)
    obtain ⟨z8, rfl, rfl, T⟩ := hp
    generalize σ1 = σa8 at hP T
    refine W.eq (g2 := F0 (xm x) 81 ls [.int (iI z8)]) rfl ?_
    refine lv_pop hex hb d_H_findReachable_81 rfl ?_
    refine lv_iinc (v := iI (i3 + 1)) (lv' := [(3, .int (iI (i3 + 1))), (0, .ref (c 0)), (1, .int (iI i1)), (2, .ref t1)]) hex hb d_H_findReachable_82 hl (k := 3) rfl (iI_add _ _) (Nat.le_of_ble_eq_true rfl) rfl (fun ls hl => ?_)
    refine lv_goto (tgt := 59) hex hb d_H_findReachable_85 rfl ?_
    exact AtG.use T hK hA _ _ _ (lv_sub hl [1, 2, 3, 0] rfl) hP hS
-- DirtyCardHeap.keepReachedYoung()V
def rm_H_keepReachedYoung : Room := { frames := 2, cells := 0, slots := 0, locals := 41 }
abbrev X_H_keepReachedYoung (x : Cx) : Prop := CxOk x b_H_keepReachedYoung 3 wl_H_keepReachedYoung R_H none rm_H_keepReachedYoung "keepReachedYoung"
abbrev K_H_keepReachedYoung (l : Launch) (D : va_G) (Λ : Lam) (σ : Mem) (c : Nat → Nat) (P : Mem → Prop) : Prop := Ct l D y_H_keepReachedYoung wl_H_keepReachedYoung rm_H_keepReachedYoung [.ref (c 0)] Λ σ (pV Λ P)
abbrev N_H_keepReachedYoung_0 (x : Cx) (P : Mem → Prop) (Λ : Lam) (σ : Mem) (c : Nat → Nat) : Prop := AtG x (pV Λ P) 3 0 0 0 Λ σ [(0, .ref (c 0))] []
abbrev N_H_keepReachedYoung_21 (x : Cx) (P : Mem → Prop) (Λ : Lam) (σ : Mem) (c : Nat → Nat) (i1 : Int) (i2 : Int) : Prop := AtG x (pV Λ P) 3 21 0 0 Λ σ [(0, .ref (c 0)), (1, .int (iI i1)), (2, .int (iI i2))] []
theorem e_H_keepReachedYoung {l : Launch} {D : va_G} {Λ : Lam} {σ : Mem} {c : Nat → Nat} {P : Mem → Prop} (h : ∀ x : Cx, xl x = l → xD x = D → X_H_keepReachedYoung x → N_H_keepReachedYoung_0 x P Λ σ c) : K_H_keepReachedYoung l D Λ σ c P := Ct.of (by decide) rfl (Nat.le_of_ble_eq_true rfl) h
set_option maxHeartbeats 4000000 in
set_option maxRecDepth 100000 in
theorem u_H_keepReachedYoung_0 {x : Cx} (hx : X_H_keepReachedYoung x) {P : Mem → Prop} {Λ : Lam} {σ : Mem} {c : Nat → Nat} (hL : LayC Λ c) (T : K_H_dropUnreachedYoung (xl x) (xD x) Λ σ c (fun σa1 => K_R_empty (xl x) (xD x) Λ σa1 (c 2) (fun σa2 => N_H_keepReachedYoung_21 x P Λ σa2 c (σa1.1 101 (c 2)) 0))) : N_H_keepReachedYoung_0 x P Λ σ c := by
  obtain ⟨hex, hb, hml, hown, hts, hr, hlk, hR, hnm, hAs, hNW⟩ := hx
  obtain ⟨hLH, ⟨cA1, hLA1⟩, ⟨hLR2, cA3, hLA3⟩, hLO, ⟨cA5, hLA5⟩, ⟨hLR6, cA7, hLA7⟩⟩ := hL
  refine ⟨(), fun hK hA ls H locs hl hP hS => ?_⟩
  refine lv_aload_n hex hb d_H_keepReachedYoung_0 rfl (lv_at hl 0 rfl) ?_
  refine r_call (va_runV (As := []) (rest := []) ⟨hex, hb, hml, hown, hts⟩ (Ct.use T H.size) (cwV 0 hts (gdV bg_157 bg_159 bp_7 bg_1 bc_H_dropUnreachedYoung) rfl rfl rfl hdV_H_dropUnreachedYoung ⟨by rw [hR]; exact Nat.le_of_ble_eq_true rfl, by rw [hR]; exact Nat.le_of_ble_eq_true rfl⟩) (px_preV (ci := 3) hNW hK hP hLH rfl) rfl rfl hl.1 rfl (lv_room (Nat.le_of_ble_eq_true rfl)) d_H_keepReachedYoung_1 ⟨by rw [hR]; exact Nat.le_of_ble_eq_true rfl, by rw [hR]; exact Nat.le_of_ble_eq_true rfl⟩) hS hA hAs (fun v Λ1 σ1 H locs hp hP hK hA hS => ?_)
  obtain ⟨rfl, rfl, T⟩ := hp
  generalize σ1 = σa1 at hP T
  refine W.eq (g2 := F0 (xm x) 4 ls []) rfl ?_
  refine lv_aload_n hex hb d_H_keepReachedYoung_4 rfl (lv_at hl 0 rfl) ?_
  refine r_getR (ci := 3) (C := R_H) (T := F_H) (N := 8) hex hb hts (fun w h => List.mem_cons_of_mem _ (in_H w h)) hown hK hP hLH rfl 1 (by decide) (hts _ (List.mem_cons_of_mem _ bg_46)) (fun _ h9 => h9) rfl d_H_keepReachedYoung_5 ?_
  refine r_getI (ci := 1) (C := R_R) (T := F_R) (N := 2) hex hb hts (fun w h => List.mem_cons_of_mem _ (in_R w h)) hown hK hP hLR2 rfl 1 (by decide) (hts _ (List.mem_cons_of_mem _ bg_27)) (fun _ h9 => h9) rfl d_H_keepReachedYoung_8 ?_
  refine lv_istore_n (lv' := [(1, .int (iI (σa1.1 101 (c 2)))), (0, .ref (c 0))]) hex hb d_H_keepReachedYoung_11 rfl hl (Nat.le_of_ble_eq_true rfl) rfl (fun ls hl => ?_)
  refine lv_aload_n hex hb d_H_keepReachedYoung_12 rfl (lv_at hl 1 rfl) ?_
  refine r_getR (ci := 3) (C := R_H) (T := F_H) (N := 8) hex hb hts (fun w h => List.mem_cons_of_mem _ (in_H w h)) hown hK hP hLH rfl 1 (by decide) (hts _ (List.mem_cons_of_mem _ bg_46)) (fun _ h9 => h9) rfl d_H_keepReachedYoung_13 ?_
  refine r_call (va_runV (As := []) (rest := []) ⟨hex, hb, hml, hown, hts⟩ (Ct.use T H.size) (cwV 0 hts (gdV bg_169 bg_170 bg_171 bg_2 bc_R_empty) rfl rfl rfl hdV_R_empty ⟨by rw [hR]; exact Nat.le_of_ble_eq_true rfl, by rw [hR]; exact Nat.le_of_ble_eq_true rfl⟩) (px_preV (ci := 1) hNW hK hP hLR2 rfl) rfl rfl hl.1 rfl (lv_room (Nat.le_of_ble_eq_true rfl)) d_H_keepReachedYoung_16 ⟨by rw [hR]; exact Nat.le_of_ble_eq_true rfl, by rw [hR]; exact Nat.le_of_ble_eq_true rfl⟩) hS hA hAs (fun v Λ1 σ1 H locs hp hP hK hA hS => ?_)
  obtain ⟨rfl, rfl, T⟩ := hp
  generalize σ1 = σa2 at hP T
  refine W.eq (g2 := F0 (xm x) 19 ls []) rfl ?_
  refine lv_iconst (v := iI 0) hex hb d_H_keepReachedYoung_19 rfl ?_
  refine lv_istore_n (lv' := [(2, .int (iI 0)), (1, .int (iI (σa1.1 101 (c 2)))), (0, .ref (c 0))]) hex hb d_H_keepReachedYoung_20 rfl hl (Nat.le_of_ble_eq_true rfl) rfl (fun ls hl => ?_)
  exact AtG.use T hK hA _ _ _ (lv_sub hl [2, 1, 0] rfl) hP hS
set_option maxHeartbeats 4000000 in
set_option maxRecDepth 100000 in
theorem u_H_keepReachedYoung_21 {x : Cx} (hx : X_H_keepReachedYoung x) {P : Mem → Prop} {Λ : Lam} {σ : Mem} {c : Nat → Nat} {i1 : Int} {i2 : Int} (hL : LayC Λ c) (T : rng i2 ∧ rng i1 ∧ ((i1 ≤ i2 → P σ) ∧ (¬ i1 ≤ i2 → 0 ≤ i2 ∧ i2 < (20 : Int) ∧ (∃ t5, σ.2.2 101 (c 3) i2.toNat = some t5 ∧ isT Λ t5 ∧ rng (σ.1 206 t5) ∧ (((σ.1 206 t5) = 0 → N_H_keepReachedYoung_21 x P Λ σ c i1 (i2 + 1)) ∧ (¬ (σ.1 206 t5) = 0 → 0 ≤ i2 ∧ i2 < (20 : Int) ∧ K_R_add (xl x) (xD x) Λ σ (c 2) (σ.2.2 101 (c 3) i2.toNat) (fun z11 σa11 => N_H_keepReachedYoung_21 x P Λ σa11 c i1 (i2 + 1)))))))) : N_H_keepReachedYoung_21 x P Λ σ c i1 i2 := by
  obtain ⟨hex, hb, hml, hown, hts, hr, hlk, hR, hnm, hAs, hNW⟩ := hx
  obtain ⟨hLH, ⟨cA1, hLA1⟩, ⟨hLR2, cA3, hLA3⟩, hLO, ⟨cA5, hLA5⟩, ⟨hLR6, cA7, hLA7⟩⟩ := hL
  refine ⟨(), fun hK hA ls H locs hl hP hS => ?_⟩
  refine lv_iload_n hex hb d_H_keepReachedYoung_21 rfl (lv_at hl 2 rfl) ?_
  refine lv_iload_n hex hb d_H_keepReachedYoung_22 rfl (lv_at hl 1 rfl) ?_
  obtain ⟨h1, T⟩ := T
  obtain ⟨h2, T⟩ := T
  obtain ⟨T1, T2⟩ := T
  refine r_icmp_ge (a := i2) (b := i1) (tgt := 64) hex hb h1 h2 d_H_keepReachedYoung_23 rfl (fun hc => ?_) (fun hc => ?_)
  · have T := T1 hc
    exact r_vret hex hb hr hlk hK hA hP hS ⟨rfl, rfl, T⟩ (Nat.zero_le _) (Nat.zero_le _) d_H_keepReachedYoung_64
  · have T := T2 hc
    refine lv_aload_n hex hb d_H_keepReachedYoung_26 rfl (lv_at hl 0 rfl) ?_
    refine r_getR (ci := 3) (C := R_H) (T := F_H) (N := 8) hex hb hts (fun w h => List.mem_cons_of_mem _ (in_H w h)) hown hK hP hLH rfl 1 (by decide) (hts _ (List.mem_cons_of_mem _ bg_46)) (fun _ h9 => h9) rfl d_H_keepReachedYoung_27 ?_
    refine r_getR (ci := 1) (C := R_R) (T := F_R) (N := 2) hex hb hts (fun w h => List.mem_cons_of_mem _ (in_R w h)) hown hK hP hLR2 rfl 0 (by decide) (hts _ (List.mem_cons_of_mem _ bg_25)) (fun _ h9 => h9) rfl d_H_keepReachedYoung_30 ?_
    refine lv_iload_n hex hb d_H_keepReachedYoung_33 rfl (lv_at hl 2 rfl) ?_
    obtain ⟨h3, T⟩ := T
    obtain ⟨h4, T⟩ := T
    refine r_aald hex hb hK hP hLA3 (by decide) (by decide) h3 h4 d_H_keepReachedYoung_34 ?_
    obtain ⟨t5, ht6, T⟩ := T
    rw [ht6]
    obtain ⟨⟨hT7, ⟨cT7, hF7⟩, hn7⟩, T⟩ := T
    refine r_getI (ci := 2) (C := R_T) (T := F_T) (N := 7) hex hb hts (fun w h => List.mem_cons_of_mem _ (in_T w h)) hown hK hP hT7 rfl 6 (by decide) (hts _ (List.mem_cons_of_mem _ bg_245)) (fun _ h9 => h9) rfl d_H_keepReachedYoung_35 ?_
    obtain ⟨h8, T⟩ := T
    obtain ⟨T1, T2⟩ := T
    refine r_if_eq (a := σ.1 206 t5) (tgt := 58) hex hb h8 d_H_keepReachedYoung_38 rfl (fun hc => ?_) (fun hc => ?_)
    · have T := T1 hc
      refine lv_iinc (v := iI (i2 + 1)) (lv' := [(2, .int (iI (i2 + 1))), (0, .ref (c 0)), (1, .int (iI i1))]) hex hb d_H_keepReachedYoung_58 hl (k := 2) rfl (iI_add _ _) (Nat.le_of_ble_eq_true rfl) rfl (fun ls hl => ?_)
      refine lv_goto (tgt := 21) hex hb d_H_keepReachedYoung_61 rfl ?_
      exact AtG.use T hK hA _ _ _ (lv_sub hl [1, 2, 0] rfl) hP hS
    · have T := T2 hc
      refine lv_aload_n hex hb d_H_keepReachedYoung_41 rfl (lv_at hl 0 rfl) ?_
      refine r_getR (ci := 3) (C := R_H) (T := F_H) (N := 8) hex hb hts (fun w h => List.mem_cons_of_mem _ (in_H w h)) hown hK hP hLH rfl 1 (by decide) (hts _ (List.mem_cons_of_mem _ bg_46)) (fun _ h9 => h9) rfl d_H_keepReachedYoung_42 ?_
      refine lv_aload_n hex hb d_H_keepReachedYoung_45 rfl (lv_at hl 0 rfl) ?_
      refine r_getR (ci := 3) (C := R_H) (T := F_H) (N := 8) hex hb hts (fun w h => List.mem_cons_of_mem _ (in_H w h)) hown hK hP hLH rfl 1 (by decide) (hts _ (List.mem_cons_of_mem _ bg_46)) (fun _ h9 => h9) rfl d_H_keepReachedYoung_46 ?_
      refine r_getR (ci := 1) (C := R_R) (T := F_R) (N := 2) hex hb hts (fun w h => List.mem_cons_of_mem _ (in_R w h)) hown hK hP hLR2 rfl 0 (by decide) (hts _ (List.mem_cons_of_mem _ bg_25)) (fun _ h9 => h9) rfl d_H_keepReachedYoung_49 ?_
      refine lv_iload_n hex hb d_H_keepReachedYoung_52 rfl (lv_at hl 2 rfl) ?_
      obtain ⟨h9, T⟩ := T
      obtain ⟨h10, T⟩ := T
      refine r_aald hex hb hK hP hLA3 (by decide) (by decide) h9 h10 d_H_keepReachedYoung_53 ?_
      refine r_call (va_runV (As := [va_rf (σ.2.2 101 (c 3) i2.toNat)]) (rest := []) ⟨hex, hb, hml, hown, hts⟩ (Ct.use T H.size) (cwV 1 hts (gdV bg_173 bg_106 bg_107 bg_2 bc_R_add) rfl rfl rfl hdV_R_add ⟨by rw [hR]; exact Nat.le_of_ble_eq_true rfl, by rw [hR]; exact Nat.le_of_ble_eq_true rfl⟩) (px_preV (ci := 1) hNW hK hP hLR2 rfl) rfl rfl hl.1 rfl (lv_room (Nat.le_of_ble_eq_true rfl)) d_H_keepReachedYoung_54 ⟨by rw [hR]; exact Nat.le_of_ble_eq_true rfl, by rw [hR]; exact Nat.le_of_ble_eq_true rfl⟩) hS hA hAs (fun v Λ1 σ1 H locs hp hP hK hA hS => ?_)
      obtain ⟨z11, rfl, rfl, T⟩ := hp
      generalize σ1 = σa11 at hP T
      refine W.eq (g2 := F0 (xm x) 57 ls [.int (iI z11)]) rfl ?_
      refine lv_pop hex hb d_H_keepReachedYoung_57 rfl ?_
      refine lv_iinc (v := iI (i2 + 1)) (lv' := [(2, .int (iI (i2 + 1))), (0, .ref (c 0)), (1, .int (iI i1))]) hex hb d_H_keepReachedYoung_58 hl (k := 2) rfl (iI_add _ _) (Nat.le_of_ble_eq_true rfl) rfl (fun ls hl => ?_)
      refine lv_goto (tgt := 21) hex hb d_H_keepReachedYoung_61 rfl ?_
      exact AtG.use T hK hA _ _ _ (lv_sub hl [1, 2, 0] rfl) hP hS
-- DirtyCardHeap.placeYoungInOrder()I
def rm_H_placeYoungInOrder : Room := { frames := 4, cells := 0, slots := 0, locals := 89 }
abbrev X_H_placeYoungInOrder (x : Cx) : Prop := CxOk x b_H_placeYoungInOrder 4 wl_H_placeYoungInOrder R_H (some .int) rm_H_placeYoungInOrder "placeYoungInOrder"
abbrev K_H_placeYoungInOrder (l : Launch) (D : va_G) (Λ : Lam) (σ : Mem) (c : Nat → Nat) (P : Int → Mem → Prop) : Prop := Ct l D y_H_placeYoungInOrder wl_H_placeYoungInOrder rm_H_placeYoungInOrder [.ref (c 0)] Λ σ (pI Λ P)
abbrev N_H_placeYoungInOrder_0 (x : Cx) (P : Int → Mem → Prop) (Λ : Lam) (σ : Mem) (c : Nat → Nat) : Prop := AtG x (pI Λ P) 4 0 0 0 Λ σ [(0, .ref (c 0))] []
abbrev N_H_placeYoungInOrder_10 (x : Cx) (P : Int → Mem → Prop) (Λ : Lam) (σ : Mem) (c : Nat → Nat) (i1 : Int) (i2 : Int) : Prop := AtG x (pI Λ P) 4 10 0 0 Λ σ [(0, .ref (c 0)), (1, .int (iI i1)), (2, .int (iI i2))] []
abbrev N_H_placeYoungInOrder_37 (x : Cx) (P : Int → Mem → Prop) (Λ : Lam) (σ : Mem) (c : Nat → Nat) (i1 : Int) (i2 : Int) : Prop := AtG x (pI Λ P) 4 37 0 0 Λ σ [(0, .ref (c 0)), (1, .int (iI i1)), (2, .int (iI i2))] []
abbrev N_H_placeYoungInOrder_46 (x : Cx) (P : Int → Mem → Prop) (Λ : Lam) (σ : Mem) (c : Nat → Nat) (i1 : Int) (i2 : Int) (i3 : Int) : Prop := AtG x (pI Λ P) 4 46 0 0 Λ σ [(0, .ref (c 0)), (1, .int (iI i1)), (2, .int (iI i2)), (3, .int (iI i3))] []
theorem e_H_placeYoungInOrder {l : Launch} {D : va_G} {Λ : Lam} {σ : Mem} {c : Nat → Nat} {P : Int → Mem → Prop} (h : ∀ x : Cx, xl x = l → xD x = D → X_H_placeYoungInOrder x → N_H_placeYoungInOrder_0 x P Λ σ c) : K_H_placeYoungInOrder l D Λ σ c P := Ct.of (by decide) rfl (Nat.le_of_ble_eq_true rfl) h
set_option maxHeartbeats 4000000 in
set_option maxRecDepth 100000 in
theorem u_H_placeYoungInOrder_0 {x : Cx} (hx : X_H_placeYoungInOrder x) {P : Int → Mem → Prop} {Λ : Lam} {σ : Mem} {c : Nat → Nat} (hL : LayC Λ c) (T : N_H_placeYoungInOrder_10 x P Λ σ c (σ.1 101 (c 2)) 0) : N_H_placeYoungInOrder_0 x P Λ σ c := by
  obtain ⟨hex, hb, hml, hown, hts, hr, hlk, hR, hnm, hAs, hNW⟩ := hx
  obtain ⟨hLH, ⟨cA1, hLA1⟩, ⟨hLR2, cA3, hLA3⟩, hLO, ⟨cA5, hLA5⟩, ⟨hLR6, cA7, hLA7⟩⟩ := hL
  refine ⟨(), fun hK hA ls H locs hl hP hS => ?_⟩
  refine lv_aload_n hex hb d_H_placeYoungInOrder_0 rfl (lv_at hl 0 rfl) ?_
  refine r_getR (ci := 3) (C := R_H) (T := F_H) (N := 8) hex hb hts (fun w h => List.mem_cons_of_mem _ (in_H w h)) hown hK hP hLH rfl 1 (by decide) (hts _ (List.mem_cons_of_mem _ bg_46)) (fun _ h9 => h9) rfl d_H_placeYoungInOrder_1 ?_
  refine r_getI (ci := 1) (C := R_R) (T := F_R) (N := 2) hex hb hts (fun w h => List.mem_cons_of_mem _ (in_R w h)) hown hK hP hLR2 rfl 1 (by decide) (hts _ (List.mem_cons_of_mem _ bg_27)) (fun _ h9 => h9) rfl d_H_placeYoungInOrder_4 ?_
  refine lv_istore_n (lv' := [(1, .int (iI (σ.1 101 (c 2)))), (0, .ref (c 0))]) hex hb d_H_placeYoungInOrder_7 rfl hl (Nat.le_of_ble_eq_true rfl) rfl (fun ls hl => ?_)
  refine lv_iconst (v := iI 0) hex hb d_H_placeYoungInOrder_8 rfl ?_
  refine lv_istore_n (lv' := [(2, .int (iI 0)), (1, .int (iI (σ.1 101 (c 2)))), (0, .ref (c 0))]) hex hb d_H_placeYoungInOrder_9 rfl hl (Nat.le_of_ble_eq_true rfl) rfl (fun ls hl => ?_)
  exact AtG.use T hK hA _ _ _ (lv_sub hl [2, 1, 0] rfl) hP hS
set_option maxHeartbeats 4000000 in
set_option maxRecDepth 100000 in
theorem u_H_placeYoungInOrder_10 {x : Cx} (hx : X_H_placeYoungInOrder x) {P : Int → Mem → Prop} {Λ : Lam} {σ : Mem} {c : Nat → Nat} {i1 : Int} {i2 : Int} (hL : LayC Λ c) (T : rng i2 ∧ rng i1 ∧ ((i1 ≤ i2 → N_H_placeYoungInOrder_37 x P Λ σ c i1 i2) ∧ (¬ i1 ≤ i2 → 0 ≤ i2 ∧ i2 < (20 : Int) ∧ K_H_placeAsOld (xl x) (xD x) Λ σ c (σ.2.2 101 (c 3) i2.toNat) (fun z5 σa5 => rng z5 ∧ ((z5 = 0 → N_H_placeYoungInOrder_37 x P Λ σa5 c i1 i2) ∧ (¬ z5 = 0 → N_H_placeYoungInOrder_10 x P Λ σa5 c i1 (i2 + 1))))))) : N_H_placeYoungInOrder_10 x P Λ σ c i1 i2 := by
  obtain ⟨hex, hb, hml, hown, hts, hr, hlk, hR, hnm, hAs, hNW⟩ := hx
  obtain ⟨hLH, ⟨cA1, hLA1⟩, ⟨hLR2, cA3, hLA3⟩, hLO, ⟨cA5, hLA5⟩, ⟨hLR6, cA7, hLA7⟩⟩ := hL
  refine ⟨(), fun hK hA ls H locs hl hP hS => ?_⟩
  refine lv_iload_n hex hb d_H_placeYoungInOrder_10 rfl (lv_at hl 2 rfl) ?_
  refine lv_iload_n hex hb d_H_placeYoungInOrder_11 rfl (lv_at hl 1 rfl) ?_
  obtain ⟨h1, T⟩ := T
  obtain ⟨h2, T⟩ := T
  obtain ⟨T1, T2⟩ := T
  refine r_icmp_ge (a := i2) (b := i1) (tgt := 37) hex hb h1 h2 d_H_placeYoungInOrder_12 rfl (fun hc => ?_) (fun hc => ?_)
  · have T := T1 hc
    exact AtG.use T hK hA _ _ _ (lv_sub hl [0, 1, 2] rfl) hP hS
  · have T := T2 hc
    refine lv_aload_n hex hb d_H_placeYoungInOrder_15 rfl (lv_at hl 0 rfl) ?_
    refine lv_aload_n hex hb d_H_placeYoungInOrder_16 rfl (lv_at hl 0 rfl) ?_
    refine r_getR (ci := 3) (C := R_H) (T := F_H) (N := 8) hex hb hts (fun w h => List.mem_cons_of_mem _ (in_H w h)) hown hK hP hLH rfl 1 (by decide) (hts _ (List.mem_cons_of_mem _ bg_46)) (fun _ h9 => h9) rfl d_H_placeYoungInOrder_17 ?_
    refine r_getR (ci := 1) (C := R_R) (T := F_R) (N := 2) hex hb hts (fun w h => List.mem_cons_of_mem _ (in_R w h)) hown hK hP hLR2 rfl 0 (by decide) (hts _ (List.mem_cons_of_mem _ bg_25)) (fun _ h9 => h9) rfl d_H_placeYoungInOrder_20 ?_
    refine lv_iload_n hex hb d_H_placeYoungInOrder_23 rfl (lv_at hl 2 rfl) ?_
    obtain ⟨h3, T⟩ := T
    obtain ⟨h4, T⟩ := T
    refine r_aald hex hb hK hP hLA3 (by decide) (by decide) h3 h4 d_H_placeYoungInOrder_24 ?_
    refine r_call (va_runV (As := [va_rf (σ.2.2 101 (c 3) i2.toNat)]) (rest := []) ⟨hex, hb, hml, hown, hts⟩ (Ct.use T H.size) (cwV 1 hts (gdV bg_112 bg_114 bp_3 bg_1 bc_H_placeAsOld) rfl rfl rfl hdV_H_placeAsOld ⟨by rw [hR]; exact Nat.le_of_ble_eq_true rfl, by rw [hR]; exact Nat.le_of_ble_eq_true rfl⟩) (px_preV (ci := 3) hNW hK hP hLH rfl) rfl rfl hl.1 rfl (lv_room (Nat.le_of_ble_eq_true rfl)) d_H_placeYoungInOrder_25 ⟨by rw [hR]; exact Nat.le_of_ble_eq_true rfl, by rw [hR]; exact Nat.le_of_ble_eq_true rfl⟩) hS hA hAs (fun v Λ1 σ1 H locs hp hP hK hA hS => ?_)
    obtain ⟨z5, rfl, rfl, T⟩ := hp
    generalize σ1 = σa5 at hP T
    refine W.eq (g2 := F0 (xm x) 28 ls [.int (iI z5)]) rfl ?_
    obtain ⟨h6, T⟩ := T
    obtain ⟨T1, T2⟩ := T
    refine r_if_eq (a := z5) (tgt := 37) hex hb h6 d_H_placeYoungInOrder_28 rfl (fun hc => ?_) (fun hc => ?_)
    · have T := T1 hc
      exact AtG.use T hK hA _ _ _ (lv_sub hl [0, 1, 2] rfl) hP hS
    · have T := T2 hc
      refine lv_iinc (v := iI (i2 + 1)) (lv' := [(2, .int (iI (i2 + 1))), (0, .ref (c 0)), (1, .int (iI i1))]) hex hb d_H_placeYoungInOrder_31 hl (k := 2) rfl (iI_add _ _) (Nat.le_of_ble_eq_true rfl) rfl (fun ls hl => ?_)
      refine lv_goto (tgt := 10) hex hb d_H_placeYoungInOrder_34 rfl ?_
      exact AtG.use T hK hA _ _ _ (lv_sub hl [1, 2, 0] rfl) hP hS
set_option maxHeartbeats 4000000 in
set_option maxRecDepth 100000 in
theorem u_H_placeYoungInOrder_37 {x : Cx} (hx : X_H_placeYoungInOrder x) {P : Int → Mem → Prop} {Λ : Lam} {σ : Mem} {c : Nat → Nat} {i1 : Int} {i2 : Int} (hL : LayC Λ c) (T : K_R_empty (xl x) (xD x) Λ σ (c 2) (fun σa1 => N_H_placeYoungInOrder_46 x P Λ σa1 c i1 i2 i2)) : N_H_placeYoungInOrder_37 x P Λ σ c i1 i2 := by
  obtain ⟨hex, hb, hml, hown, hts, hr, hlk, hR, hnm, hAs, hNW⟩ := hx
  obtain ⟨hLH, ⟨cA1, hLA1⟩, ⟨hLR2, cA3, hLA3⟩, hLO, ⟨cA5, hLA5⟩, ⟨hLR6, cA7, hLA7⟩⟩ := hL
  refine ⟨(), fun hK hA ls H locs hl hP hS => ?_⟩
  refine lv_aload_n hex hb d_H_placeYoungInOrder_37 rfl (lv_at hl 0 rfl) ?_
  refine r_getR (ci := 3) (C := R_H) (T := F_H) (N := 8) hex hb hts (fun w h => List.mem_cons_of_mem _ (in_H w h)) hown hK hP hLH rfl 1 (by decide) (hts _ (List.mem_cons_of_mem _ bg_46)) (fun _ h9 => h9) rfl d_H_placeYoungInOrder_38 ?_
  refine r_call (va_runV (As := []) (rest := []) ⟨hex, hb, hml, hown, hts⟩ (Ct.use T H.size) (cwV 0 hts (gdV bg_169 bg_170 bg_171 bg_2 bc_R_empty) rfl rfl rfl hdV_R_empty ⟨by rw [hR]; exact Nat.le_of_ble_eq_true rfl, by rw [hR]; exact Nat.le_of_ble_eq_true rfl⟩) (px_preV (ci := 1) hNW hK hP hLR2 rfl) rfl rfl hl.1 rfl (lv_room (Nat.le_of_ble_eq_true rfl)) d_H_placeYoungInOrder_41 ⟨by rw [hR]; exact Nat.le_of_ble_eq_true rfl, by rw [hR]; exact Nat.le_of_ble_eq_true rfl⟩) hS hA hAs (fun v Λ1 σ1 H locs hp hP hK hA hS => ?_)
  obtain ⟨rfl, rfl, T⟩ := hp
  generalize σ1 = σa1 at hP T
  refine W.eq (g2 := F0 (xm x) 44 ls []) rfl ?_
  refine lv_iload_n hex hb d_H_placeYoungInOrder_44 rfl (lv_at hl 2 rfl) ?_
  refine lv_istore_n (lv' := [(3, .int (iI i2)), (0, .ref (c 0)), (1, .int (iI i1)), (2, .int (iI i2))]) hex hb d_H_placeYoungInOrder_45 rfl hl (Nat.le_of_ble_eq_true rfl) rfl (fun ls hl => ?_)
  exact AtG.use T hK hA _ _ _ (lv_sub hl [1, 2, 3, 0] rfl) hP hS
set_option maxHeartbeats 4000000 in
set_option maxRecDepth 100000 in
theorem u_H_placeYoungInOrder_46 {x : Cx} (hx : X_H_placeYoungInOrder x) {P : Int → Mem → Prop} {Λ : Lam} {σ : Mem} {c : Nat → Nat} {i1 : Int} {i2 : Int} {i3 : Int} (hL : LayC Λ c) (T : rng i3 ∧ rng i1 ∧ ((i1 ≤ i3 → P i2 σ) ∧ (¬ i1 ≤ i3 → 0 ≤ i3 ∧ i3 < (20 : Int) ∧ K_R_add (xl x) (xD x) Λ σ (c 2) (σ.2.2 101 (c 3) i3.toNat) (fun z5 σa5 => N_H_placeYoungInOrder_46 x P Λ σa5 c i1 i2 (i3 + 1))))) : N_H_placeYoungInOrder_46 x P Λ σ c i1 i2 i3 := by
  obtain ⟨hex, hb, hml, hown, hts, hr, hlk, hR, hnm, hAs, hNW⟩ := hx
  obtain ⟨hLH, ⟨cA1, hLA1⟩, ⟨hLR2, cA3, hLA3⟩, hLO, ⟨cA5, hLA5⟩, ⟨hLR6, cA7, hLA7⟩⟩ := hL
  refine ⟨(), fun hK hA ls H locs hl hP hS => ?_⟩
  refine lv_iload_n hex hb d_H_placeYoungInOrder_46 rfl (lv_at hl 3 rfl) ?_
  refine lv_iload_n hex hb d_H_placeYoungInOrder_47 rfl (lv_at hl 1 rfl) ?_
  obtain ⟨h1, T⟩ := T
  obtain ⟨h2, T⟩ := T
  obtain ⟨T1, T2⟩ := T
  refine r_icmp_ge (a := i3) (b := i1) (tgt := 74) hex hb h1 h2 d_H_placeYoungInOrder_48 rfl (fun hc => ?_) (fun hc => ?_)
  · have T := T1 hc
    refine lv_iload_n hex hb d_H_placeYoungInOrder_74 rfl (lv_at hl 2 rfl) ?_
    exact r_iret hex hb hr hlk hK hA hP hS ⟨_, rfl, rfl, T⟩ (Nat.zero_le _) (Nat.zero_le _) d_H_placeYoungInOrder_75
  · have T := T2 hc
    refine lv_aload_n hex hb d_H_placeYoungInOrder_51 rfl (lv_at hl 0 rfl) ?_
    refine r_getR (ci := 3) (C := R_H) (T := F_H) (N := 8) hex hb hts (fun w h => List.mem_cons_of_mem _ (in_H w h)) hown hK hP hLH rfl 1 (by decide) (hts _ (List.mem_cons_of_mem _ bg_46)) (fun _ h9 => h9) rfl d_H_placeYoungInOrder_52 ?_
    refine lv_aload_n hex hb d_H_placeYoungInOrder_55 rfl (lv_at hl 0 rfl) ?_
    refine r_getR (ci := 3) (C := R_H) (T := F_H) (N := 8) hex hb hts (fun w h => List.mem_cons_of_mem _ (in_H w h)) hown hK hP hLH rfl 1 (by decide) (hts _ (List.mem_cons_of_mem _ bg_46)) (fun _ h9 => h9) rfl d_H_placeYoungInOrder_56 ?_
    refine r_getR (ci := 1) (C := R_R) (T := F_R) (N := 2) hex hb hts (fun w h => List.mem_cons_of_mem _ (in_R w h)) hown hK hP hLR2 rfl 0 (by decide) (hts _ (List.mem_cons_of_mem _ bg_25)) (fun _ h9 => h9) rfl d_H_placeYoungInOrder_59 ?_
    refine lv_iload_n hex hb d_H_placeYoungInOrder_62 rfl (lv_at hl 3 rfl) ?_
    obtain ⟨h3, T⟩ := T
    obtain ⟨h4, T⟩ := T
    refine r_aald hex hb hK hP hLA3 (by decide) (by decide) h3 h4 d_H_placeYoungInOrder_63 ?_
    refine r_call (va_runV (As := [va_rf (σ.2.2 101 (c 3) i3.toNat)]) (rest := []) ⟨hex, hb, hml, hown, hts⟩ (Ct.use T H.size) (cwV 1 hts (gdV bg_173 bg_106 bg_107 bg_2 bc_R_add) rfl rfl rfl hdV_R_add ⟨by rw [hR]; exact Nat.le_of_ble_eq_true rfl, by rw [hR]; exact Nat.le_of_ble_eq_true rfl⟩) (px_preV (ci := 1) hNW hK hP hLR2 rfl) rfl rfl hl.1 rfl (lv_room (Nat.le_of_ble_eq_true rfl)) d_H_placeYoungInOrder_64 ⟨by rw [hR]; exact Nat.le_of_ble_eq_true rfl, by rw [hR]; exact Nat.le_of_ble_eq_true rfl⟩) hS hA hAs (fun v Λ1 σ1 H locs hp hP hK hA hS => ?_)
    obtain ⟨z5, rfl, rfl, T⟩ := hp
    generalize σ1 = σa5 at hP T
    refine W.eq (g2 := F0 (xm x) 67 ls [.int (iI z5)]) rfl ?_
    refine lv_pop hex hb d_H_placeYoungInOrder_67 rfl ?_
    refine lv_iinc (v := iI (i3 + 1)) (lv' := [(3, .int (iI (i3 + 1))), (0, .ref (c 0)), (1, .int (iI i1)), (2, .int (iI i2))]) hex hb d_H_placeYoungInOrder_68 hl (k := 3) rfl (iI_add _ _) (Nat.le_of_ble_eq_true rfl) rfl (fun ls hl => ?_)
    refine lv_goto (tgt := 46) hex hb d_H_placeYoungInOrder_71 rfl ?_
    exact AtG.use T hK hA _ _ _ (lv_sub hl [1, 2, 3, 0] rfl) hP hS
-- DirtyCardHeap.collectAll()I
def rm_H_collectAll : Room := { frames := 5, cells := 0, slots := 0, locals := 112 }
abbrev X_H_collectAll (x : Cx) : Prop := CxOk x b_H_collectAll 2 wl_H_collectAll R_H (some .int) rm_H_collectAll "collectAll"
abbrev K_H_collectAll (l : Launch) (D : va_G) (Λ : Lam) (σ : Mem) (c : Nat → Nat) (P : Int → Mem → Prop) : Prop := Ct l D y_H_collectAll wl_H_collectAll rm_H_collectAll [.ref (c 0)] Λ σ (pI Λ P)
abbrev N_H_collectAll_0 (x : Cx) (P : Int → Mem → Prop) (Λ : Lam) (σ : Mem) (c : Nat → Nat) : Prop := AtG x (pI Λ P) 2 0 0 0 Λ σ [(0, .ref (c 0))] []
theorem e_H_collectAll {l : Launch} {D : va_G} {Λ : Lam} {σ : Mem} {c : Nat → Nat} {P : Int → Mem → Prop} (h : ∀ x : Cx, xl x = l → xD x = D → X_H_collectAll x → N_H_collectAll_0 x P Λ σ c) : K_H_collectAll l D Λ σ c P := Ct.of (by decide) rfl (Nat.le_of_ble_eq_true rfl) h
set_option maxHeartbeats 4000000 in
set_option maxRecDepth 100000 in
theorem u_H_collectAll_0 {x : Cx} (hx : X_H_collectAll x) {P : Int → Mem → Prop} {Λ : Lam} {σ : Mem} {c : Nat → Nat} (hL : LayC Λ c) (T : K_H_findReachable (xl x) (xD x) Λ σ c (fun σa1 => K_O_slideReached (xl x) (xD x) Λ σa1 c (fun σa2 => K_O_unmarkAll (xl x) (xD x) Λ σa2 c (fun σa3 => K_H_keepReachedYoung (xl x) (xD x) Λ (upI σa3 306 (c 0) 0) c (fun σa4 => K_R_letGo (xl x) (xD x) Λ σa4 (c 6) (fun σa5 => K_H_placeYoungInOrder (xl x) (xD x) Λ σa5 c (fun z6 σa6 => K_O_cardsReferringToYoung (xl x) (xD x) Λ (upI σa6 305 (c 0) 0) c (fun z7 σa7 => P z6 (upI σa7 304 (c 0) z7))))))))) : N_H_collectAll_0 x P Λ σ c := by
  obtain ⟨hex, hb, hml, hown, hts, hr, hlk, hR, hnm, hAs, hNW⟩ := hx
  obtain ⟨hLH, ⟨cA1, hLA1⟩, ⟨hLR2, cA3, hLA3⟩, hLO, ⟨cA5, hLA5⟩, ⟨hLR6, cA7, hLA7⟩⟩ := hL
  refine ⟨(), fun hK hA ls H locs hl hP hS => ?_⟩
  refine lv_aload_n hex hb d_H_collectAll_0 rfl (lv_at hl 0 rfl) ?_
  refine r_call (va_runV (As := []) (rest := []) ⟨hex, hb, hml, hown, hts⟩ (Ct.use T H.size) (cwV 0 hts (gdV bg_193 bg_195 bp_11 bg_1 bc_H_findReachable) rfl rfl rfl hdV_H_findReachable ⟨by rw [hR]; exact Nat.le_of_ble_eq_true rfl, by rw [hR]; exact Nat.le_of_ble_eq_true rfl⟩) (px_preV (ci := 3) hNW hK hP hLH rfl) rfl rfl hl.1 rfl (lv_room (Nat.le_of_ble_eq_true rfl)) d_H_collectAll_1 ⟨by rw [hR]; exact Nat.le_of_ble_eq_true rfl, by rw [hR]; exact Nat.le_of_ble_eq_true rfl⟩) hS hA hAs (fun v Λ1 σ1 H locs hp hP hK hA hS => ?_)
  obtain ⟨rfl, rfl, T⟩ := hp
  generalize σ1 = σa1 at hP T
  refine W.eq (g2 := F0 (xm x) 4 ls []) rfl ?_
  refine lv_aload_n hex hb d_H_collectAll_4 rfl (lv_at hl 0 rfl) ?_
  refine r_getR (ci := 3) (C := R_H) (T := F_H) (N := 8) hex hb hts (fun w h => List.mem_cons_of_mem _ (in_H w h)) hown hK hP hLH rfl 2 (by decide) (hts _ (List.mem_cons_of_mem _ bg_47)) (fun _ h9 => h9) rfl d_H_collectAll_5 ?_
  refine r_call (va_runV (As := []) (rest := []) ⟨hex, hb, hml, hown, hts⟩ (Ct.use T H.size) (cwV 0 hts (gdV bg_197 bg_198 bg_199 bg_3 bc_O_slideReached) rfl rfl rfl hdV_O_slideReached ⟨by rw [hR]; exact Nat.le_of_ble_eq_true rfl, by rw [hR]; exact Nat.le_of_ble_eq_true rfl⟩) (px_preV (ci := 0) hNW hK hP hLO rfl) rfl rfl hl.1 rfl (lv_room (Nat.le_of_ble_eq_true rfl)) d_H_collectAll_8 ⟨by rw [hR]; exact Nat.le_of_ble_eq_true rfl, by rw [hR]; exact Nat.le_of_ble_eq_true rfl⟩) hS hA hAs (fun v Λ1 σ1 H locs hp hP hK hA hS => ?_)
  obtain ⟨rfl, rfl, T⟩ := hp
  generalize σ1 = σa2 at hP T
  refine W.eq (g2 := F0 (xm x) 11 ls []) rfl ?_
  refine lv_aload_n hex hb d_H_collectAll_11 rfl (lv_at hl 0 rfl) ?_
  refine r_getR (ci := 3) (C := R_H) (T := F_H) (N := 8) hex hb hts (fun w h => List.mem_cons_of_mem _ (in_H w h)) hown hK hP hLH rfl 2 (by decide) (hts _ (List.mem_cons_of_mem _ bg_47)) (fun _ h9 => h9) rfl d_H_collectAll_12 ?_
  refine r_call (va_runV (As := []) (rest := []) ⟨hex, hb, hml, hown, hts⟩ (Ct.use T H.size) (cwV 0 hts (gdV bg_211 bg_212 bg_213 bg_3 bc_O_unmarkAll) rfl rfl rfl hdV_O_unmarkAll ⟨by rw [hR]; exact Nat.le_of_ble_eq_true rfl, by rw [hR]; exact Nat.le_of_ble_eq_true rfl⟩) (px_preV (ci := 0) hNW hK hP hLO rfl) rfl rfl hl.1 rfl (lv_room (Nat.le_of_ble_eq_true rfl)) d_H_collectAll_15 ⟨by rw [hR]; exact Nat.le_of_ble_eq_true rfl, by rw [hR]; exact Nat.le_of_ble_eq_true rfl⟩) hS hA hAs (fun v Λ1 σ1 H locs hp hP hK hA hS => ?_)
  obtain ⟨rfl, rfl, T⟩ := hp
  generalize σ1 = σa3 at hP T
  refine W.eq (g2 := F0 (xm x) 18 ls []) rfl ?_
  refine lv_aload_n hex hb d_H_collectAll_18 rfl (lv_at hl 0 rfl) ?_
  refine lv_iconst (v := iI 0) hex hb d_H_collectAll_19 rfl ?_
  refine r_putI (ci := 3) (C := R_H) (T := F_H) (N := 8) (v := 0) (ty := .int) hex hb hts (fun w h => List.mem_cons_of_mem _ (in_H w h)) tq_H tq_H_ok n_H hown hK hP hA hS hLH rfl 6 (by decide) (hts _ (List.mem_cons_of_mem _ bg_51)) (fun _ h9 => h9) rfl (by decide +kernel) rfl rfl rfl d_H_collectAll_20 (fun H locs hP hS => ?_)
  refine lv_aload_n hex hb d_H_collectAll_23 rfl (lv_at hl 0 rfl) ?_
  refine r_call (va_runV (As := []) (rest := []) ⟨hex, hb, hml, hown, hts⟩ (Ct.use T H.size) (cwV 0 hts (gdV bg_215 bg_217 bp_12 bg_1 bc_H_keepReachedYoung) rfl rfl rfl hdV_H_keepReachedYoung ⟨by rw [hR]; exact Nat.le_of_ble_eq_true rfl, by rw [hR]; exact Nat.le_of_ble_eq_true rfl⟩) (px_preV (ci := 3) hNW hK hP hLH rfl) rfl rfl hl.1 rfl (lv_room (Nat.le_of_ble_eq_true rfl)) d_H_collectAll_24 ⟨by rw [hR]; exact Nat.le_of_ble_eq_true rfl, by rw [hR]; exact Nat.le_of_ble_eq_true rfl⟩) hS hA hAs (fun v Λ1 σ1 H locs hp hP hK hA hS => ?_)
  obtain ⟨rfl, rfl, T⟩ := hp
  generalize σ1 = σa4 at hP T
  refine W.eq (g2 := F0 (xm x) 27 ls []) rfl ?_
  refine lv_aload_n hex hb d_H_collectAll_27 rfl (lv_at hl 0 rfl) ?_
  refine r_getR (ci := 3) (C := R_H) (T := F_H) (N := 8) hex hb hts (fun w h => List.mem_cons_of_mem _ (in_H w h)) hown hK hP hLH rfl 3 (by decide) (hts _ (List.mem_cons_of_mem _ bg_48)) (fun _ h9 => h9) rfl d_H_collectAll_28 ?_
  refine r_call (va_runV (As := []) (rest := []) ⟨hex, hb, hml, hown, hts⟩ (Ct.use T H.size) (cwV 0 hts (gdV bg_174 bg_175 bg_176 bg_2 bc_R_letGo) rfl rfl rfl hdV_R_letGo ⟨by rw [hR]; exact Nat.le_of_ble_eq_true rfl, by rw [hR]; exact Nat.le_of_ble_eq_true rfl⟩) (px_preV (ci := 1) hNW hK hP hLR6 rfl) rfl rfl hl.1 rfl (lv_room (Nat.le_of_ble_eq_true rfl)) d_H_collectAll_31 ⟨by rw [hR]; exact Nat.le_of_ble_eq_true rfl, by rw [hR]; exact Nat.le_of_ble_eq_true rfl⟩) hS hA hAs (fun v Λ1 σ1 H locs hp hP hK hA hS => ?_)
  obtain ⟨rfl, rfl, T⟩ := hp
  generalize σ1 = σa5 at hP T
  refine W.eq (g2 := F0 (xm x) 34 ls []) rfl ?_
  refine lv_aload_n hex hb d_H_collectAll_34 rfl (lv_at hl 0 rfl) ?_
  refine r_call (va_runV (As := []) (rest := []) ⟨hex, hb, hml, hown, hts⟩ (Ct.use T H.size) (cwV 0 hts (gdV bg_219 bg_221 bp_13 bg_1 bc_H_placeYoungInOrder) rfl rfl rfl hdV_H_placeYoungInOrder ⟨by rw [hR]; exact Nat.le_of_ble_eq_true rfl, by rw [hR]; exact Nat.le_of_ble_eq_true rfl⟩) (px_preV (ci := 3) hNW hK hP hLH rfl) rfl rfl hl.1 rfl (lv_room (Nat.le_of_ble_eq_true rfl)) d_H_collectAll_35 ⟨by rw [hR]; exact Nat.le_of_ble_eq_true rfl, by rw [hR]; exact Nat.le_of_ble_eq_true rfl⟩) hS hA hAs (fun v Λ1 σ1 H locs hp hP hK hA hS => ?_)
  obtain ⟨z6, rfl, rfl, T⟩ := hp
  generalize σ1 = σa6 at hP T
  refine W.eq (g2 := F0 (xm x) 38 ls [.int (iI z6)]) rfl ?_
  refine lv_istore_n (lv' := [(1, .int (iI z6)), (0, .ref (c 0))]) hex hb d_H_collectAll_38 rfl hl (Nat.le_of_ble_eq_true rfl) rfl (fun ls hl => ?_)
  refine lv_aload_n hex hb d_H_collectAll_39 rfl (lv_at hl 1 rfl) ?_
  refine lv_iconst (v := iI 0) hex hb d_H_collectAll_40 rfl ?_
  refine r_putI (ci := 3) (C := R_H) (T := F_H) (N := 8) (v := 0) (ty := .int) hex hb hts (fun w h => List.mem_cons_of_mem _ (in_H w h)) tq_H tq_H_ok n_H hown hK hP hA hS hLH rfl 5 (by decide) (hts _ (List.mem_cons_of_mem _ bg_50)) (fun _ h9 => h9) rfl (by decide +kernel) rfl rfl rfl d_H_collectAll_41 (fun H locs hP hS => ?_)
  refine lv_aload_n hex hb d_H_collectAll_44 rfl (lv_at hl 1 rfl) ?_
  refine lv_aload_n hex hb d_H_collectAll_45 rfl (lv_at hl 1 rfl) ?_
  refine r_getR (ci := 3) (C := R_H) (T := F_H) (N := 8) hex hb hts (fun w h => List.mem_cons_of_mem _ (in_H w h)) hown hK hP hLH rfl 2 (by decide) (hts _ (List.mem_cons_of_mem _ bg_47)) (fun _ h9 => h9) rfl d_H_collectAll_46 ?_
  refine r_call (va_runV (As := []) (rest := [.ref (c 0)]) ⟨hex, hb, hml, hown, hts⟩ (Ct.use T H.size) (cwV 0 hts (gdV bg_182 bg_183 bg_184 bg_3 bc_O_cardsReferringToYoung) rfl rfl rfl hdV_O_cardsReferringToYoung ⟨by rw [hR]; exact Nat.le_of_ble_eq_true rfl, by rw [hR]; exact Nat.le_of_ble_eq_true rfl⟩) (px_preV (ci := 0) hNW hK hP hLO rfl) rfl rfl hl.1 rfl (lv_room (Nat.le_of_ble_eq_true rfl)) d_H_collectAll_49 ⟨by rw [hR]; exact Nat.le_of_ble_eq_true rfl, by rw [hR]; exact Nat.le_of_ble_eq_true rfl⟩) hS hA hAs (fun v Λ1 σ1 H locs hp hP hK hA hS => ?_)
  obtain ⟨z7, rfl, rfl, T⟩ := hp
  generalize σ1 = σa7 at hP T
  refine W.eq (g2 := F0 (xm x) 52 ls [.int (iI z7), .ref (c 0)]) rfl ?_
  refine r_putI (ci := 3) (C := R_H) (T := F_H) (N := 8) (v := z7) (ty := .int) hex hb hts (fun w h => List.mem_cons_of_mem _ (in_H w h)) tq_H tq_H_ok n_H hown hK hP hA hS hLH rfl 4 (by decide) (hts _ (List.mem_cons_of_mem _ bg_49)) (fun _ h9 => h9) rfl (by decide +kernel) rfl rfl rfl d_H_collectAll_52 (fun H locs hP hS => ?_)
  refine lv_iload_n hex hb d_H_collectAll_55 rfl (lv_at hl 0 rfl) ?_
  exact r_iret hex hb hr hlk hK hA hP hS ⟨_, rfl, rfl, T⟩ (Nat.zero_le _) (Nat.zero_le _) d_H_collectAll_56
set_option maxRecDepth 100000 in
theorem w_H_collectAll {l : Launch} {D : va_G} {Λ : Lam} {σ : Mem} {c : Nat → Nat} {P : Int → Mem → Prop} (hL : LayC Λ c) (T : K_H_findReachable l D Λ σ c (fun σa1 => K_O_slideReached l D Λ σa1 c (fun σa2 => K_O_unmarkAll l D Λ σa2 c (fun σa3 => K_H_keepReachedYoung l D Λ (upI σa3 306 (c 0) 0) c (fun σa4 => K_R_letGo l D Λ σa4 (c 6) (fun σa5 => K_H_placeYoungInOrder l D Λ σa5 c (fun z6 σa6 => K_O_cardsReferringToYoung l D Λ (upI σa6 305 (c 0) 0) c (fun z7 σa7 => P z6 (upI σa7 304 (c 0) z7))))))))) : K_H_collectAll l D Λ σ c P := e_H_collectAll (fun x hl hD hx => by subst hl; subst hD; exact u_H_collectAll_0 hx hL T)
-- DirtyCardHeap.shade(LDirtyCardHeap$Thing;)I
def rm_H_shade : Room := { frames := 1, cells := 0, slots := 0, locals := 20 }
abbrev X_H_shade (x : Cx) : Prop := CxOk x b_H_shade 1 wl_H_shade R_H (some .int) rm_H_shade "shade"
abbrev K_H_shade (l : Launch) (D : va_G) (Λ : Lam) (σ : Mem) (a1 : Option Nat) (P : Int → Mem → Prop) : Prop := Ct l D y_H_shade wl_H_shade rm_H_shade [va_rf a1] Λ σ (pI Λ P)
abbrev N_H_shade_0 (x : Cx) (P : Int → Mem → Prop) (Λ : Lam) (σ : Mem) (a1 : Option Nat) : Prop := AtG x (pI Λ P) 1 0 0 0 Λ σ [(0, va_rf a1)] []
theorem e_H_shade {l : Launch} {D : va_G} {Λ : Lam} {σ : Mem} {a1 : Option Nat} {P : Int → Mem → Prop} (h : ∀ x : Cx, xl x = l → xD x = D → X_H_shade x → N_H_shade_0 x P Λ σ a1) : K_H_shade l D Λ σ a1 P := by cases a1 <;> exact Ct.of (by decide) rfl (Nat.le_of_ble_eq_true rfl) h
set_option maxHeartbeats 4000000 in
set_option maxRecDepth 100000 in
theorem u_H_shade_0 {x : Cx} (hx : X_H_shade x) {P : Int → Mem → Prop} {Λ : Lam} {σ : Mem} {a1 : Option Nat} (T : ((a1 = none → P 0 σ) ∧ (∀ t1, a1 = some t1 → isT Λ t1 ∧ K_T_isOld (xl x) (xD x) Λ σ t1 (fun z4 σa4 => rng z4 ∧ ((z4 = 0 → P 0 σa4) ∧ (¬ z4 = 0 → rng (σa4.1 204 t1) ∧ (((σa4.1 204 t1) = 0 → P 1 (upI (upI σa4 204 t1 1) 205 t1 1)) ∧ (¬ (σa4.1 204 t1) = 0 → P 0 σa4)))))))) : N_H_shade_0 x P Λ σ a1 := by
  obtain ⟨hex, hb, hml, hown, hts, hr, hlk, hR, hnm, hAs, hNW⟩ := hx
  refine ⟨(), fun hK hA ls H locs hl hP hS => ?_⟩
  refine r_aload_n (o := a1) hex hb d_H_shade_0 rfl (lv_at hl 0 rfl) ?_
  obtain ⟨Tn, Ts⟩ := T
  refine r_ifnull (o := a1) (tgt := 18) hex hb d_H_shade_1 rfl (fun hn => ?_) (fun t1 ht2 => ?_)
  · have T := Tn hn
    have hl : lv_has ls 1 [(0, va_rf none)] := by have h9 := hl; rw [hn] at h9; exact h9
    refine lv_iconst (v := iI 0) hex hb d_H_shade_18 rfl ?_
    exact r_iret hex hb hr hlk hK hA hP hS ⟨_, rfl, rfl, T⟩ (Nat.zero_le _) (Nat.zero_le _) d_H_shade_19
  · have T := Ts t1 ht2
    have hl : lv_has ls 1 [(0, .ref t1)] := by have h9 := hl; rw [ht2] at h9; exact h9
    refine lv_aload_n hex hb d_H_shade_4 rfl (lv_at hl 0 rfl) ?_
    obtain ⟨⟨hT3, ⟨cT3, hF3⟩, hn3⟩, T⟩ := T
    refine r_call (va_runV (As := []) (rest := []) ⟨hex, hb, hml, hown, hts⟩ (Ct.use T H.size) (cwV 0 hts (gdV bg_278 bg_279 bg_280 bg_6 bc_T_isOld) rfl rfl rfl hdV_T_isOld ⟨by rw [hR]; exact Nat.le_of_ble_eq_true rfl, by rw [hR]; exact Nat.le_of_ble_eq_true rfl⟩) (px_preV (ci := 2) hNW hK hP hT3 rfl) rfl rfl hl.1 rfl (lv_room (Nat.le_of_ble_eq_true rfl)) d_H_shade_5 ⟨by rw [hR]; exact Nat.le_of_ble_eq_true rfl, by rw [hR]; exact Nat.le_of_ble_eq_true rfl⟩) hS hA hAs (fun v Λ1 σ1 H locs hp hP hK hA hS => ?_)
    obtain ⟨z4, rfl, rfl, T⟩ := hp
    generalize σ1 = σa4 at hP T
    refine W.eq (g2 := F0 (xm x) 8 ls [.int (iI z4)]) rfl ?_
    obtain ⟨h5, T⟩ := T
    obtain ⟨T1, T2⟩ := T
    refine r_if_eq (a := z4) (tgt := 18) hex hb h5 d_H_shade_8 rfl (fun hc => ?_) (fun hc => ?_)
    · have T := T1 hc
      refine lv_iconst (v := iI 0) hex hb d_H_shade_18 rfl ?_
      exact r_iret hex hb hr hlk hK hA hP hS ⟨_, rfl, rfl, T⟩ (Nat.zero_le _) (Nat.zero_le _) d_H_shade_19
    · have T := T2 hc
      refine lv_aload_n hex hb d_H_shade_11 rfl (lv_at hl 0 rfl) ?_
      refine r_getI (ci := 2) (C := R_T) (T := F_T) (N := 7) hex hb hts (fun w h => List.mem_cons_of_mem _ (in_T w h)) hown hK hP hT3 rfl 4 (by decide) (hts _ (List.mem_cons_of_mem _ bg_240)) (fun _ h9 => h9) rfl d_H_shade_12 ?_
      obtain ⟨h6, T⟩ := T
      obtain ⟨T1, T2⟩ := T
      refine r_if_eq (a := σa4.1 204 t1) (tgt := 20) hex hb h6 d_H_shade_15 rfl (fun hc => ?_) (fun hc => ?_)
      · have T := T1 hc
        refine lv_aload_n hex hb d_H_shade_20 rfl (lv_at hl 0 rfl) ?_
        refine lv_iconst (v := iI 1) hex hb d_H_shade_21 rfl ?_
        refine r_putI (ci := 2) (C := R_T) (T := F_T) (N := 7) (v := 1) (ty := .boolean) hex hb hts (fun w h => List.mem_cons_of_mem _ (in_T w h)) tq_T tq_T_ok n_T hown hK hP hA hS hT3 rfl 4 (by decide) (hts _ (List.mem_cons_of_mem _ bg_240)) (fun _ h9 => h9) rfl (by decide +kernel) rfl rfl rfl d_H_shade_22 (fun H locs hP hS => ?_)
        refine lv_aload_n hex hb d_H_shade_25 rfl (lv_at hl 0 rfl) ?_
        refine lv_iconst (v := iI 1) hex hb d_H_shade_26 rfl ?_
        refine r_putI (ci := 2) (C := R_T) (T := F_T) (N := 7) (v := 1) (ty := .boolean) hex hb hts (fun w h => List.mem_cons_of_mem _ (in_T w h)) tq_T tq_T_ok n_T hown hK hP hA hS hT3 rfl 5 (by decide) (hts _ (List.mem_cons_of_mem _ bg_242)) (fun _ h9 => h9) rfl (by decide +kernel) rfl rfl rfl d_H_shade_27 (fun H locs hP hS => ?_)
        refine lv_iconst (v := iI 1) hex hb d_H_shade_30 rfl ?_
        exact r_iret hex hb hr hlk hK hA hP hS ⟨_, rfl, rfl, T⟩ (Nat.zero_le _) (Nat.zero_le _) d_H_shade_31
      · have T := T2 hc
        refine lv_iconst (v := iI 0) hex hb d_H_shade_18 rfl ?_
        exact r_iret hex hb hr hlk hK hA hP hS ⟨_, rfl, rfl, T⟩ (Nat.zero_le _) (Nat.zero_le _) d_H_shade_19
set_option maxRecDepth 100000 in
theorem w_H_shade {l : Launch} {D : va_G} {Λ : Lam} {σ : Mem} {a1 : Option Nat} {P : Int → Mem → Prop} (T : ((a1 = none → P 0 σ) ∧ (∀ t1, a1 = some t1 → isT Λ t1 ∧ K_T_isOld l D Λ σ t1 (fun z4 σa4 => rng z4 ∧ ((z4 = 0 → P 0 σa4) ∧ (¬ z4 = 0 → rng (σa4.1 204 t1) ∧ (((σa4.1 204 t1) = 0 → P 1 (upI (upI σa4 204 t1 1) 205 t1 1)) ∧ (¬ (σa4.1 204 t1) = 0 → P 0 σa4)))))))) : K_H_shade l D Λ σ a1 P := e_H_shade (fun x hl hD hx => by subst hl; subst hD; exact u_H_shade_0 hx  T)
-- DirtyCardHeap.shadeFields(LDirtyCardHeap$Thing;)I
def rm_H_shadeFields : Room := { frames := 2, cells := 0, slots := 0, locals := 40 }
abbrev X_H_shadeFields (x : Cx) : Prop := CxOk x b_H_shadeFields 3 wl_H_shadeFields R_H (some .int) rm_H_shadeFields "shadeFields"
abbrev K_H_shadeFields (l : Launch) (D : va_G) (Λ : Lam) (σ : Mem) (a1 : Option Nat) (P : Int → Mem → Prop) : Prop := Ct l D y_H_shadeFields wl_H_shadeFields rm_H_shadeFields [va_rf a1] Λ σ (pI Λ P)
abbrev N_H_shadeFields_0 (x : Cx) (P : Int → Mem → Prop) (Λ : Lam) (σ : Mem) (a1 : Option Nat) : Prop := AtG x (pI Λ P) 3 0 0 0 Λ σ [(0, va_rf a1)] []
abbrev N_H_shadeFields_4 (x : Cx) (P : Int → Mem → Prop) (Λ : Lam) (σ : Mem) (o0 : Option Nat) (i1 : Int) (i2 : Int) : Prop := AtG x (pI Λ P) 3 4 0 0 Λ σ [(0, va_rf o0), (1, .int (iI i1)), (2, .int (iI i2))] []
theorem e_H_shadeFields {l : Launch} {D : va_G} {Λ : Lam} {σ : Mem} {a1 : Option Nat} {P : Int → Mem → Prop} (h : ∀ x : Cx, xl x = l → xD x = D → X_H_shadeFields x → N_H_shadeFields_0 x P Λ σ a1) : K_H_shadeFields l D Λ σ a1 P := by cases a1 <;> exact Ct.of (by decide) rfl (Nat.le_of_ble_eq_true rfl) h
set_option maxHeartbeats 4000000 in
set_option maxRecDepth 100000 in
theorem u_H_shadeFields_0 {x : Cx} (hx : X_H_shadeFields x) {P : Int → Mem → Prop} {Λ : Lam} {σ : Mem} {a1 : Option Nat} (T : N_H_shadeFields_4 x P Λ σ a1 0 0) : N_H_shadeFields_0 x P Λ σ a1 := by
  obtain ⟨hex, hb, hml, hown, hts, hr, hlk, hR, hnm, hAs, hNW⟩ := hx
  refine ⟨(), fun hK hA ls H locs hl hP hS => ?_⟩
  refine lv_iconst (v := iI 0) hex hb d_H_shadeFields_0 rfl ?_
  refine lv_istore_n (lv' := [(1, .int (iI 0)), (0, va_rf a1)]) hex hb d_H_shadeFields_1 rfl hl (Nat.le_of_ble_eq_true rfl) (by generalize a1 = zz; cases zz <;> rfl) (fun ls hl => ?_)
  refine lv_iconst (v := iI 0) hex hb d_H_shadeFields_2 rfl ?_
  refine lv_istore_n (lv' := [(2, .int (iI 0)), (1, .int (iI 0)), (0, va_rf a1)]) hex hb d_H_shadeFields_3 rfl hl (Nat.le_of_ble_eq_true rfl) rfl (fun ls hl => ?_)
  exact AtG.use T hK hA _ _ _ (lv_sub hl [2, 1, 0] rfl) hP hS
set_option maxHeartbeats 4000000 in
set_option maxRecDepth 100000 in
theorem u_H_shadeFields_4 {x : Cx} (hx : X_H_shadeFields x) {P : Int → Mem → Prop} {Λ : Lam} {σ : Mem} {o0 : Option Nat} {i1 : Int} {i2 : Int} (T : (∃ t1, o0 = some t1 ∧ isT Λ t1 ∧ rng i2 ∧ rng ((nfL Λ t1 : Nat) : Int) ∧ ((((nfL Λ t1 : Nat) : Int) ≤ i2 → P i1 σ) ∧ (¬ ((nfL Λ t1 : Nat) : Int) ≤ i2 → 0 ≤ i2 ∧ i2 < ((nfL Λ t1 : Nat) : Int) ∧ K_H_shade (xl x) (xD x) Λ σ (σ.2.2 103 (faL Λ t1) i2.toNat) (fun z8 σa8 => N_H_shadeFields_4 x P Λ σa8 (some t1) (i1 + z8) (i2 + 1)))))) : N_H_shadeFields_4 x P Λ σ o0 i1 i2 := by
  obtain ⟨hex, hb, hml, hown, hts, hr, hlk, hR, hnm, hAs, hNW⟩ := hx
  refine ⟨(), fun hK hA ls H locs hl hP hS => ?_⟩
  refine lv_iload_n hex hb d_H_shadeFields_4 rfl (lv_at hl 2 rfl) ?_
  refine r_aload_n (o := o0) hex hb d_H_shadeFields_5 rfl (lv_at hl 0 rfl) ?_
  obtain ⟨t1, ht2, T⟩ := T
  have hl : lv_has ls 3 [(0, .ref t1), (1, .int (iI i1)), (2, .int (iI i2))] := by have h9 := hl; rw [ht2] at h9; exact h9
  rw [ht2]
  obtain ⟨⟨hT3, ⟨cT3, hF3⟩, hn3⟩, T⟩ := T
  refine r_getR (ci := 2) (C := R_T) (T := F_T) (N := 7) hex hb hts (fun w h => List.mem_cons_of_mem _ (in_T w h)) hown hK hP hT3 rfl 1 (by decide) (hts _ (List.mem_cons_of_mem _ bg_232)) (fun _ h9 => h9) rfl d_H_shadeFields_6 ?_
  refine r_alen hex hb hK hP hF3 d_H_shadeFields_9 ?_
  obtain ⟨h4, T⟩ := T
  obtain ⟨h5, T⟩ := T
  obtain ⟨T1, T2⟩ := T
  refine r_icmp_ge (a := i2) (b := ((nfL Λ t1 : Nat) : Int)) (tgt := 31) hex hb h4 h5 d_H_shadeFields_10 rfl (fun hc => ?_) (fun hc => ?_)
  · have T := T1 hc
    refine lv_iload_n hex hb d_H_shadeFields_31 rfl (lv_at hl 1 rfl) ?_
    exact r_iret hex hb hr hlk hK hA hP hS ⟨_, rfl, rfl, T⟩ (Nat.zero_le _) (Nat.zero_le _) d_H_shadeFields_32
  · have T := T2 hc
    refine lv_iload_n hex hb d_H_shadeFields_13 rfl (lv_at hl 1 rfl) ?_
    refine lv_aload_n hex hb d_H_shadeFields_14 rfl (lv_at hl 0 rfl) ?_
    refine r_getR (ci := 2) (C := R_T) (T := F_T) (N := 7) hex hb hts (fun w h => List.mem_cons_of_mem _ (in_T w h)) hown hK hP hT3 rfl 1 (by decide) (hts _ (List.mem_cons_of_mem _ bg_232)) (fun _ h9 => h9) rfl d_H_shadeFields_15 ?_
    refine lv_iload_n hex hb d_H_shadeFields_18 rfl (lv_at hl 2 rfl) ?_
    obtain ⟨h6, T⟩ := T
    obtain ⟨h7, T⟩ := T
    refine r_aald hex hb hK hP hF3 (by decide) (by omega) h6 h7 d_H_shadeFields_19 ?_
    refine r_call (va_runS (As := [va_rf (σ.2.2 103 (faL Λ t1) i2.toNat)]) (rest := [.int (iI i1)]) ⟨hex, hb, hml, hown, hts⟩ (Ct.use T H.size) (cwS 1 hts (gdS bg_314 bg_315 bg_1 bc_H_shade) rfl rfl rfl hdV_H_shade ⟨by rw [hR]; exact Nat.le_of_ble_eq_true rfl, by rw [hR]; exact Nat.le_of_ble_eq_true rfl⟩) (px_preS hNW hK hP) rfl rfl hl.1 rfl (lv_room (Nat.le_of_ble_eq_true rfl)) d_H_shadeFields_20 ⟨by rw [hR]; exact Nat.le_of_ble_eq_true rfl, by rw [hR]; exact Nat.le_of_ble_eq_true rfl⟩) hS hA hAs (fun v Λ1 σ1 H locs hp hP hK hA hS => ?_)
    obtain ⟨z8, rfl, rfl, T⟩ := hp
    generalize σ1 = σa8 at hP T
    refine W.eq (g2 := F0 (xm x) 23 ls [.int (iI z8), .int (iI i1)]) rfl ?_
    refine r_iadd hex hb d_H_shadeFields_23 ?_
    refine lv_istore_n (lv' := [(1, .int (iI (i1 + z8))), (0, .ref t1), (2, .int (iI i2))]) hex hb d_H_shadeFields_24 rfl hl (Nat.le_of_ble_eq_true rfl) rfl (fun ls hl => ?_)
    refine lv_iinc (v := iI (i2 + 1)) (lv' := [(2, .int (iI (i2 + 1))), (1, .int (iI (i1 + z8))), (0, .ref t1)]) hex hb d_H_shadeFields_25 hl (k := 2) rfl (iI_add _ _) (Nat.le_of_ble_eq_true rfl) rfl (fun ls hl => ?_)
    refine lv_goto (tgt := 4) hex hb d_H_shadeFields_28 rfl ?_
    exact AtG.use T hK hA _ _ _ (lv_sub hl [2, 1, 0] rfl) hP hS
-- DirtyCardHeap.shadeFromRoots()I
def rm_H_shadeFromRoots : Room := { frames := 2, cells := 0, slots := 0, locals := 40 }
abbrev X_H_shadeFromRoots (x : Cx) : Prop := CxOk x b_H_shadeFromRoots 3 wl_H_shadeFromRoots R_H (some .int) rm_H_shadeFromRoots "shadeFromRoots"
abbrev K_H_shadeFromRoots (l : Launch) (D : va_G) (Λ : Lam) (σ : Mem) (c : Nat → Nat) (P : Int → Mem → Prop) : Prop := Ct l D y_H_shadeFromRoots wl_H_shadeFromRoots rm_H_shadeFromRoots [.ref (c 0)] Λ σ (pI Λ P)
abbrev N_H_shadeFromRoots_0 (x : Cx) (P : Int → Mem → Prop) (Λ : Lam) (σ : Mem) (c : Nat → Nat) : Prop := AtG x (pI Λ P) 3 0 0 0 Λ σ [(0, .ref (c 0))] []
abbrev N_H_shadeFromRoots_4 (x : Cx) (P : Int → Mem → Prop) (Λ : Lam) (σ : Mem) (c : Nat → Nat) (i1 : Int) (i2 : Int) : Prop := AtG x (pI Λ P) 3 4 0 0 Λ σ [(0, .ref (c 0)), (1, .int (iI i1)), (2, .int (iI i2))] []
theorem e_H_shadeFromRoots {l : Launch} {D : va_G} {Λ : Lam} {σ : Mem} {c : Nat → Nat} {P : Int → Mem → Prop} (h : ∀ x : Cx, xl x = l → xD x = D → X_H_shadeFromRoots x → N_H_shadeFromRoots_0 x P Λ σ c) : K_H_shadeFromRoots l D Λ σ c P := Ct.of (by decide) rfl (Nat.le_of_ble_eq_true rfl) h
set_option maxHeartbeats 4000000 in
set_option maxRecDepth 100000 in
theorem u_H_shadeFromRoots_0 {x : Cx} (hx : X_H_shadeFromRoots x) {P : Int → Mem → Prop} {Λ : Lam} {σ : Mem} {c : Nat → Nat} (hL : LayC Λ c) (T : N_H_shadeFromRoots_4 x P Λ σ c 0 0) : N_H_shadeFromRoots_0 x P Λ σ c := by
  obtain ⟨hex, hb, hml, hown, hts, hr, hlk, hR, hnm, hAs, hNW⟩ := hx
  obtain ⟨hLH, ⟨cA1, hLA1⟩, ⟨hLR2, cA3, hLA3⟩, hLO, ⟨cA5, hLA5⟩, ⟨hLR6, cA7, hLA7⟩⟩ := hL
  refine ⟨(), fun hK hA ls H locs hl hP hS => ?_⟩
  refine lv_iconst (v := iI 0) hex hb d_H_shadeFromRoots_0 rfl ?_
  refine lv_istore_n (lv' := [(1, .int (iI 0)), (0, .ref (c 0))]) hex hb d_H_shadeFromRoots_1 rfl hl (Nat.le_of_ble_eq_true rfl) rfl (fun ls hl => ?_)
  refine lv_iconst (v := iI 0) hex hb d_H_shadeFromRoots_2 rfl ?_
  refine lv_istore_n (lv' := [(2, .int (iI 0)), (1, .int (iI 0)), (0, .ref (c 0))]) hex hb d_H_shadeFromRoots_3 rfl hl (Nat.le_of_ble_eq_true rfl) rfl (fun ls hl => ?_)
  exact AtG.use T hK hA _ _ _ (lv_sub hl [2, 1, 0] rfl) hP hS
set_option maxHeartbeats 4000000 in
set_option maxRecDepth 100000 in
theorem u_H_shadeFromRoots_4 {x : Cx} (hx : X_H_shadeFromRoots x) {P : Int → Mem → Prop} {Λ : Lam} {σ : Mem} {c : Nat → Nat} {i1 : Int} {i2 : Int} (hL : LayC Λ c) (T : rng i2 ∧ ((6 ≤ i2 → P i1 σ) ∧ (¬ 6 ≤ i2 → 0 ≤ i2 ∧ i2 < (6 : Int) ∧ K_H_shade (xl x) (xD x) Λ σ (σ.2.2 100 (c 1) i2.toNat) (fun z4 σa4 => N_H_shadeFromRoots_4 x P Λ σa4 c (i1 + z4) (i2 + 1))))) : N_H_shadeFromRoots_4 x P Λ σ c i1 i2 := by
  obtain ⟨hex, hb, hml, hown, hts, hr, hlk, hR, hnm, hAs, hNW⟩ := hx
  obtain ⟨hLH, ⟨cA1, hLA1⟩, ⟨hLR2, cA3, hLA3⟩, hLO, ⟨cA5, hLA5⟩, ⟨hLR6, cA7, hLA7⟩⟩ := hL
  refine ⟨(), fun hK hA ls H locs hl hP hS => ?_⟩
  refine lv_iload_n hex hb d_H_shadeFromRoots_4 rfl (lv_at hl 2 rfl) ?_
  refine lv_bipush (v := iI 6) hex hb d_H_shadeFromRoots_5 rfl ?_
  obtain ⟨h1, T⟩ := T
  obtain ⟨T1, T2⟩ := T
  refine r_icmp_ge (a := i2) (b := 6) (tgt := 28) hex hb h1 ⟨by omega, by omega⟩ d_H_shadeFromRoots_7 rfl (fun hc => ?_) (fun hc => ?_)
  · have T := T1 hc
    refine lv_iload_n hex hb d_H_shadeFromRoots_28 rfl (lv_at hl 1 rfl) ?_
    exact r_iret hex hb hr hlk hK hA hP hS ⟨_, rfl, rfl, T⟩ (Nat.zero_le _) (Nat.zero_le _) d_H_shadeFromRoots_29
  · have T := T2 hc
    refine lv_iload_n hex hb d_H_shadeFromRoots_10 rfl (lv_at hl 1 rfl) ?_
    refine lv_aload_n hex hb d_H_shadeFromRoots_11 rfl (lv_at hl 0 rfl) ?_
    refine r_getR (ci := 3) (C := R_H) (T := F_H) (N := 8) hex hb hts (fun w h => List.mem_cons_of_mem _ (in_H w h)) hown hK hP hLH rfl 0 (by decide) (hts _ (List.mem_cons_of_mem _ bg_45)) (fun _ h9 => h9) rfl d_H_shadeFromRoots_12 ?_
    refine lv_iload_n hex hb d_H_shadeFromRoots_15 rfl (lv_at hl 2 rfl) ?_
    obtain ⟨h2, T⟩ := T
    obtain ⟨h3, T⟩ := T
    refine r_aald hex hb hK hP hLA1 (by decide) (by decide) h2 h3 d_H_shadeFromRoots_16 ?_
    refine r_call (va_runS (As := [va_rf (σ.2.2 100 (c 1) i2.toNat)]) (rest := [.int (iI i1)]) ⟨hex, hb, hml, hown, hts⟩ (Ct.use T H.size) (cwS 1 hts (gdS bg_314 bg_315 bg_1 bc_H_shade) rfl rfl rfl hdV_H_shade ⟨by rw [hR]; exact Nat.le_of_ble_eq_true rfl, by rw [hR]; exact Nat.le_of_ble_eq_true rfl⟩) (px_preS hNW hK hP) rfl rfl hl.1 rfl (lv_room (Nat.le_of_ble_eq_true rfl)) d_H_shadeFromRoots_17 ⟨by rw [hR]; exact Nat.le_of_ble_eq_true rfl, by rw [hR]; exact Nat.le_of_ble_eq_true rfl⟩) hS hA hAs (fun v Λ1 σ1 H locs hp hP hK hA hS => ?_)
    obtain ⟨z4, rfl, rfl, T⟩ := hp
    generalize σ1 = σa4 at hP T
    refine W.eq (g2 := F0 (xm x) 20 ls [.int (iI z4), .int (iI i1)]) rfl ?_
    refine r_iadd hex hb d_H_shadeFromRoots_20 ?_
    refine lv_istore_n (lv' := [(1, .int (iI (i1 + z4))), (0, .ref (c 0)), (2, .int (iI i2))]) hex hb d_H_shadeFromRoots_21 rfl hl (Nat.le_of_ble_eq_true rfl) rfl (fun ls hl => ?_)
    refine lv_iinc (v := iI (i2 + 1)) (lv' := [(2, .int (iI (i2 + 1))), (1, .int (iI (i1 + z4))), (0, .ref (c 0))]) hex hb d_H_shadeFromRoots_22 hl (k := 2) rfl (iI_add _ _) (Nat.le_of_ble_eq_true rfl) rfl (fun ls hl => ?_)
    refine lv_goto (tgt := 4) hex hb d_H_shadeFromRoots_25 rfl ?_
    exact AtG.use T hK hA _ _ _ (lv_sub hl [2, 1, 0] rfl) hP hS
-- DirtyCardHeap.shadeFromYoung()I
def rm_H_shadeFromYoung : Room := { frames := 3, cells := 0, slots := 0, locals := 62 }
abbrev X_H_shadeFromYoung (x : Cx) : Prop := CxOk x b_H_shadeFromYoung 3 wl_H_shadeFromYoung R_H (some .int) rm_H_shadeFromYoung "shadeFromYoung"
abbrev K_H_shadeFromYoung (l : Launch) (D : va_G) (Λ : Lam) (σ : Mem) (c : Nat → Nat) (P : Int → Mem → Prop) : Prop := Ct l D y_H_shadeFromYoung wl_H_shadeFromYoung rm_H_shadeFromYoung [.ref (c 0)] Λ σ (pI Λ P)
abbrev N_H_shadeFromYoung_0 (x : Cx) (P : Int → Mem → Prop) (Λ : Lam) (σ : Mem) (c : Nat → Nat) : Prop := AtG x (pI Λ P) 3 0 0 0 Λ σ [(0, .ref (c 0))] []
abbrev N_H_shadeFromYoung_4 (x : Cx) (P : Int → Mem → Prop) (Λ : Lam) (σ : Mem) (c : Nat → Nat) (i1 : Int) (i2 : Int) : Prop := AtG x (pI Λ P) 3 4 0 0 Λ σ [(0, .ref (c 0)), (1, .int (iI i1)), (2, .int (iI i2))] []
theorem e_H_shadeFromYoung {l : Launch} {D : va_G} {Λ : Lam} {σ : Mem} {c : Nat → Nat} {P : Int → Mem → Prop} (h : ∀ x : Cx, xl x = l → xD x = D → X_H_shadeFromYoung x → N_H_shadeFromYoung_0 x P Λ σ c) : K_H_shadeFromYoung l D Λ σ c P := Ct.of (by decide) rfl (Nat.le_of_ble_eq_true rfl) h
set_option maxHeartbeats 4000000 in
set_option maxRecDepth 100000 in
theorem u_H_shadeFromYoung_0 {x : Cx} (hx : X_H_shadeFromYoung x) {P : Int → Mem → Prop} {Λ : Lam} {σ : Mem} {c : Nat → Nat} (hL : LayC Λ c) (T : N_H_shadeFromYoung_4 x P Λ σ c 0 0) : N_H_shadeFromYoung_0 x P Λ σ c := by
  obtain ⟨hex, hb, hml, hown, hts, hr, hlk, hR, hnm, hAs, hNW⟩ := hx
  obtain ⟨hLH, ⟨cA1, hLA1⟩, ⟨hLR2, cA3, hLA3⟩, hLO, ⟨cA5, hLA5⟩, ⟨hLR6, cA7, hLA7⟩⟩ := hL
  refine ⟨(), fun hK hA ls H locs hl hP hS => ?_⟩
  refine lv_iconst (v := iI 0) hex hb d_H_shadeFromYoung_0 rfl ?_
  refine lv_istore_n (lv' := [(1, .int (iI 0)), (0, .ref (c 0))]) hex hb d_H_shadeFromYoung_1 rfl hl (Nat.le_of_ble_eq_true rfl) rfl (fun ls hl => ?_)
  refine lv_iconst (v := iI 0) hex hb d_H_shadeFromYoung_2 rfl ?_
  refine lv_istore_n (lv' := [(2, .int (iI 0)), (1, .int (iI 0)), (0, .ref (c 0))]) hex hb d_H_shadeFromYoung_3 rfl hl (Nat.le_of_ble_eq_true rfl) rfl (fun ls hl => ?_)
  exact AtG.use T hK hA _ _ _ (lv_sub hl [2, 1, 0] rfl) hP hS
set_option maxHeartbeats 4000000 in
set_option maxRecDepth 100000 in
theorem u_H_shadeFromYoung_4 {x : Cx} (hx : X_H_shadeFromYoung x) {P : Int → Mem → Prop} {Λ : Lam} {σ : Mem} {c : Nat → Nat} {i1 : Int} {i2 : Int} (hL : LayC Λ c) (T : rng i2 ∧ rng (σ.1 101 (c 2)) ∧ (((σ.1 101 (c 2)) ≤ i2 → P i1 σ) ∧ (¬ (σ.1 101 (c 2)) ≤ i2 → 0 ≤ i2 ∧ i2 < (20 : Int) ∧ K_H_shadeFields (xl x) (xD x) Λ σ (σ.2.2 101 (c 3) i2.toNat) (fun z5 σa5 => N_H_shadeFromYoung_4 x P Λ σa5 c (i1 + z5) (i2 + 1))))) : N_H_shadeFromYoung_4 x P Λ σ c i1 i2 := by
  obtain ⟨hex, hb, hml, hown, hts, hr, hlk, hR, hnm, hAs, hNW⟩ := hx
  obtain ⟨hLH, ⟨cA1, hLA1⟩, ⟨hLR2, cA3, hLA3⟩, hLO, ⟨cA5, hLA5⟩, ⟨hLR6, cA7, hLA7⟩⟩ := hL
  refine ⟨(), fun hK hA ls H locs hl hP hS => ?_⟩
  refine lv_iload_n hex hb d_H_shadeFromYoung_4 rfl (lv_at hl 2 rfl) ?_
  refine lv_aload_n hex hb d_H_shadeFromYoung_5 rfl (lv_at hl 0 rfl) ?_
  refine r_getR (ci := 3) (C := R_H) (T := F_H) (N := 8) hex hb hts (fun w h => List.mem_cons_of_mem _ (in_H w h)) hown hK hP hLH rfl 1 (by decide) (hts _ (List.mem_cons_of_mem _ bg_46)) (fun _ h9 => h9) rfl d_H_shadeFromYoung_6 ?_
  refine r_getI (ci := 1) (C := R_R) (T := F_R) (N := 2) hex hb hts (fun w h => List.mem_cons_of_mem _ (in_R w h)) hown hK hP hLR2 rfl 1 (by decide) (hts _ (List.mem_cons_of_mem _ bg_27)) (fun _ h9 => h9) rfl d_H_shadeFromYoung_9 ?_
  obtain ⟨h1, T⟩ := T
  obtain ⟨h2, T⟩ := T
  obtain ⟨T1, T2⟩ := T
  refine r_icmp_ge (a := i2) (b := σ.1 101 (c 2)) (tgt := 36) hex hb h1 h2 d_H_shadeFromYoung_12 rfl (fun hc => ?_) (fun hc => ?_)
  · have T := T1 hc
    refine lv_iload_n hex hb d_H_shadeFromYoung_36 rfl (lv_at hl 1 rfl) ?_
    exact r_iret hex hb hr hlk hK hA hP hS ⟨_, rfl, rfl, T⟩ (Nat.zero_le _) (Nat.zero_le _) d_H_shadeFromYoung_37
  · have T := T2 hc
    refine lv_iload_n hex hb d_H_shadeFromYoung_15 rfl (lv_at hl 1 rfl) ?_
    refine lv_aload_n hex hb d_H_shadeFromYoung_16 rfl (lv_at hl 0 rfl) ?_
    refine r_getR (ci := 3) (C := R_H) (T := F_H) (N := 8) hex hb hts (fun w h => List.mem_cons_of_mem _ (in_H w h)) hown hK hP hLH rfl 1 (by decide) (hts _ (List.mem_cons_of_mem _ bg_46)) (fun _ h9 => h9) rfl d_H_shadeFromYoung_17 ?_
    refine r_getR (ci := 1) (C := R_R) (T := F_R) (N := 2) hex hb hts (fun w h => List.mem_cons_of_mem _ (in_R w h)) hown hK hP hLR2 rfl 0 (by decide) (hts _ (List.mem_cons_of_mem _ bg_25)) (fun _ h9 => h9) rfl d_H_shadeFromYoung_20 ?_
    refine lv_iload_n hex hb d_H_shadeFromYoung_23 rfl (lv_at hl 2 rfl) ?_
    obtain ⟨h3, T⟩ := T
    obtain ⟨h4, T⟩ := T
    refine r_aald hex hb hK hP hLA3 (by decide) (by decide) h3 h4 d_H_shadeFromYoung_24 ?_
    refine r_call (va_runS (As := [va_rf (σ.2.2 101 (c 3) i2.toNat)]) (rest := [.int (iI i1)]) ⟨hex, hb, hml, hown, hts⟩ (Ct.use T H.size) (cwS 1 hts (gdS bg_328 bg_329 bg_1 bc_H_shadeFields) rfl rfl rfl hdV_H_shadeFields ⟨by rw [hR]; exact Nat.le_of_ble_eq_true rfl, by rw [hR]; exact Nat.le_of_ble_eq_true rfl⟩) (px_preS hNW hK hP) rfl rfl hl.1 rfl (lv_room (Nat.le_of_ble_eq_true rfl)) d_H_shadeFromYoung_25 ⟨by rw [hR]; exact Nat.le_of_ble_eq_true rfl, by rw [hR]; exact Nat.le_of_ble_eq_true rfl⟩) hS hA hAs (fun v Λ1 σ1 H locs hp hP hK hA hS => ?_)
    obtain ⟨z5, rfl, rfl, T⟩ := hp
    generalize σ1 = σa5 at hP T
    refine W.eq (g2 := F0 (xm x) 28 ls [.int (iI z5), .int (iI i1)]) rfl ?_
    refine r_iadd hex hb d_H_shadeFromYoung_28 ?_
    refine lv_istore_n (lv' := [(1, .int (iI (i1 + z5))), (0, .ref (c 0)), (2, .int (iI i2))]) hex hb d_H_shadeFromYoung_29 rfl hl (Nat.le_of_ble_eq_true rfl) rfl (fun ls hl => ?_)
    refine lv_iinc (v := iI (i2 + 1)) (lv' := [(2, .int (iI (i2 + 1))), (1, .int (iI (i1 + z5))), (0, .ref (c 0))]) hex hb d_H_shadeFromYoung_30 hl (k := 2) rfl (iI_add _ _) (Nat.le_of_ble_eq_true rfl) rfl (fun ls hl => ?_)
    refine lv_goto (tgt := 4) hex hb d_H_shadeFromYoung_33 rfl ?_
    exact AtG.use T hK hA _ _ _ (lv_sub hl [2, 1, 0] rfl) hP hS
-- DirtyCardHeap.scan(LDirtyCardHeap$Thing;)I
def rm_H_scan : Room := { frames := 3, cells := 0, slots := 0, locals := 62 }
abbrev X_H_scan (x : Cx) : Prop := CxOk x b_H_scan 1 wl_H_scan R_H (some .int) rm_H_scan "scan"
abbrev K_H_scan (l : Launch) (D : va_G) (Λ : Lam) (σ : Mem) (a1 : Option Nat) (P : Int → Mem → Prop) : Prop := Ct l D y_H_scan wl_H_scan rm_H_scan [va_rf a1] Λ σ (pI Λ P)
abbrev N_H_scan_0 (x : Cx) (P : Int → Mem → Prop) (Λ : Lam) (σ : Mem) (a1 : Option Nat) : Prop := AtG x (pI Λ P) 1 0 0 0 Λ σ [(0, va_rf a1)] []
theorem e_H_scan {l : Launch} {D : va_G} {Λ : Lam} {σ : Mem} {a1 : Option Nat} {P : Int → Mem → Prop} (h : ∀ x : Cx, xl x = l → xD x = D → X_H_scan x → N_H_scan_0 x P Λ σ a1) : K_H_scan l D Λ σ a1 P := by cases a1 <;> exact Ct.of (by decide) rfl (Nat.le_of_ble_eq_true rfl) h
set_option maxHeartbeats 4000000 in
set_option maxRecDepth 100000 in
theorem u_H_scan_0 {x : Cx} (hx : X_H_scan x) {P : Int → Mem → Prop} {Λ : Lam} {σ : Mem} {a1 : Option Nat} (T : (∃ t1, a1 = some t1 ∧ isT Λ t1 ∧ K_H_shadeFields (xl x) (xD x) Λ (upI σ 205 t1 0) (some t1) (fun z4 σa4 => P z4 σa4))) : N_H_scan_0 x P Λ σ a1 := by
  obtain ⟨hex, hb, hml, hown, hts, hr, hlk, hR, hnm, hAs, hNW⟩ := hx
  refine ⟨(), fun hK hA ls H locs hl hP hS => ?_⟩
  refine r_aload_n (o := a1) hex hb d_H_scan_0 rfl (lv_at hl 0 rfl) ?_
  refine lv_iconst (v := iI 0) hex hb d_H_scan_1 rfl ?_
  obtain ⟨t1, ht2, T⟩ := T
  have hl : lv_has ls 1 [(0, .ref t1)] := by have h9 := hl; rw [ht2] at h9; exact h9
  rw [ht2]
  obtain ⟨⟨hT3, ⟨cT3, hF3⟩, hn3⟩, T⟩ := T
  refine r_putI (ci := 2) (C := R_T) (T := F_T) (N := 7) (v := 0) (ty := .boolean) hex hb hts (fun w h => List.mem_cons_of_mem _ (in_T w h)) tq_T tq_T_ok n_T hown hK hP hA hS hT3 rfl 5 (by decide) (hts _ (List.mem_cons_of_mem _ bg_242)) (fun _ h9 => h9) rfl (by decide +kernel) rfl rfl rfl d_H_scan_2 (fun H locs hP hS => ?_)
  refine lv_aload_n hex hb d_H_scan_5 rfl (lv_at hl 0 rfl) ?_
  refine r_call (va_runS (As := [.ref t1]) (rest := []) ⟨hex, hb, hml, hown, hts⟩ (Ct.use T H.size) (cwS 1 hts (gdS bg_328 bg_329 bg_1 bc_H_shadeFields) rfl rfl rfl hdV_H_shadeFields ⟨by rw [hR]; exact Nat.le_of_ble_eq_true rfl, by rw [hR]; exact Nat.le_of_ble_eq_true rfl⟩) (px_preS hNW hK hP) rfl rfl hl.1 rfl (lv_room (Nat.le_of_ble_eq_true rfl)) d_H_scan_6 ⟨by rw [hR]; exact Nat.le_of_ble_eq_true rfl, by rw [hR]; exact Nat.le_of_ble_eq_true rfl⟩) hS hA hAs (fun v Λ1 σ1 H locs hp hP hK hA hS => ?_)
  obtain ⟨z4, rfl, rfl, T⟩ := hp
  generalize σ1 = σa4 at hP T
  refine W.eq (g2 := F0 (xm x) 9 ls [.int (iI z4)]) rfl ?_
  exact r_iret hex hb hr hlk hK hA hP hS ⟨_, rfl, rfl, T⟩ (Nat.zero_le _) (Nat.zero_le _) d_H_scan_9
set_option maxRecDepth 100000 in
theorem w_H_scan {l : Launch} {D : va_G} {Λ : Lam} {σ : Mem} {a1 : Option Nat} {P : Int → Mem → Prop} (T : (∃ t1, a1 = some t1 ∧ isT Λ t1 ∧ K_H_shadeFields l D Λ (upI σ 205 t1 0) (some t1) (fun z4 σa4 => P z4 σa4))) : K_H_scan l D Λ σ a1 P := e_H_scan (fun x hl hD hx => by subst hl; subst hD; exact u_H_scan_0 hx  T)
-- DirtyCardHeap.scanAllGrey()I
def rm_H_scanAllGrey : Room := { frames := 4, cells := 0, slots := 0, locals := 82 }
abbrev X_H_scanAllGrey (x : Cx) : Prop := CxOk x b_H_scanAllGrey 4 wl_H_scanAllGrey R_H (some .int) rm_H_scanAllGrey "scanAllGrey"
abbrev K_H_scanAllGrey (l : Launch) (D : va_G) (Λ : Lam) (σ : Mem) (c : Nat → Nat) (P : Int → Mem → Prop) : Prop := Ct l D y_H_scanAllGrey wl_H_scanAllGrey rm_H_scanAllGrey [.ref (c 0)] Λ σ (pI Λ P)
abbrev N_H_scanAllGrey_0 (x : Cx) (P : Int → Mem → Prop) (Λ : Lam) (σ : Mem) (c : Nat → Nat) : Prop := AtG x (pI Λ P) 4 0 0 0 Λ σ [(0, .ref (c 0))] []
abbrev N_H_scanAllGrey_4 (x : Cx) (P : Int → Mem → Prop) (Λ : Lam) (σ : Mem) (c : Nat → Nat) (i1 : Int) (i2 : Int) : Prop := AtG x (pI Λ P) 4 4 0 0 Λ σ [(0, .ref (c 0)), (1, .int (iI i1)), (2, .int (iI i2))] []
theorem e_H_scanAllGrey {l : Launch} {D : va_G} {Λ : Lam} {σ : Mem} {c : Nat → Nat} {P : Int → Mem → Prop} (h : ∀ x : Cx, xl x = l → xD x = D → X_H_scanAllGrey x → N_H_scanAllGrey_0 x P Λ σ c) : K_H_scanAllGrey l D Λ σ c P := Ct.of (by decide) rfl (Nat.le_of_ble_eq_true rfl) h
set_option maxHeartbeats 4000000 in
set_option maxRecDepth 100000 in
theorem u_H_scanAllGrey_0 {x : Cx} (hx : X_H_scanAllGrey x) {P : Int → Mem → Prop} {Λ : Lam} {σ : Mem} {c : Nat → Nat} (hL : LayC Λ c) (T : N_H_scanAllGrey_4 x P Λ σ c 0 0) : N_H_scanAllGrey_0 x P Λ σ c := by
  obtain ⟨hex, hb, hml, hown, hts, hr, hlk, hR, hnm, hAs, hNW⟩ := hx
  obtain ⟨hLH, ⟨cA1, hLA1⟩, ⟨hLR2, cA3, hLA3⟩, hLO, ⟨cA5, hLA5⟩, ⟨hLR6, cA7, hLA7⟩⟩ := hL
  refine ⟨(), fun hK hA ls H locs hl hP hS => ?_⟩
  refine lv_iconst (v := iI 0) hex hb d_H_scanAllGrey_0 rfl ?_
  refine lv_istore_n (lv' := [(1, .int (iI 0)), (0, .ref (c 0))]) hex hb d_H_scanAllGrey_1 rfl hl (Nat.le_of_ble_eq_true rfl) rfl (fun ls hl => ?_)
  refine lv_iconst (v := iI 0) hex hb d_H_scanAllGrey_2 rfl ?_
  refine lv_istore_n (lv' := [(2, .int (iI 0)), (1, .int (iI 0)), (0, .ref (c 0))]) hex hb d_H_scanAllGrey_3 rfl hl (Nat.le_of_ble_eq_true rfl) rfl (fun ls hl => ?_)
  exact AtG.use T hK hA _ _ _ (lv_sub hl [2, 1, 0] rfl) hP hS
set_option maxHeartbeats 4000000 in
set_option maxRecDepth 100000 in
theorem u_H_scanAllGrey_4 {x : Cx} (hx : X_H_scanAllGrey x) {P : Int → Mem → Prop} {Λ : Lam} {σ : Mem} {c : Nat → Nat} {i1 : Int} {i2 : Int} (hL : LayC Λ c) (T : rng i2 ∧ ((64 ≤ i2 → P i1 σ) ∧ (¬ 64 ≤ i2 → K_O_firstGrey (xl x) (xD x) Λ σ c (fun o2r σa2 => ((o2r = none → P i1 σa2) ∧ (∀ t3, o2r = some t3 → K_H_scan (xl x) (xD x) Λ σa2 (some t3) (fun z5 σa5 => N_H_scanAllGrey_4 x P Λ σa5 c (i1 + z5) (i2 + 1)))))))) : N_H_scanAllGrey_4 x P Λ σ c i1 i2 := by
  obtain ⟨hex, hb, hml, hown, hts, hr, hlk, hR, hnm, hAs, hNW⟩ := hx
  obtain ⟨hLH, ⟨cA1, hLA1⟩, ⟨hLR2, cA3, hLA3⟩, hLO, ⟨cA5, hLA5⟩, ⟨hLR6, cA7, hLA7⟩⟩ := hL
  refine ⟨(), fun hK hA ls H locs hl hP hS => ?_⟩
  refine lv_iload_n hex hb d_H_scanAllGrey_4 rfl (lv_at hl 2 rfl) ?_
  refine lv_bipush (v := iI 64) hex hb d_H_scanAllGrey_5 rfl ?_
  obtain ⟨h1, T⟩ := T
  obtain ⟨T1, T2⟩ := T
  refine r_icmp_ge (a := i2) (b := 64) (tgt := 38) hex hb h1 ⟨by omega, by omega⟩ d_H_scanAllGrey_7 rfl (fun hc => ?_) (fun hc => ?_)
  · have T := T1 hc
    refine lv_iload_n hex hb d_H_scanAllGrey_38 rfl (lv_at hl 1 rfl) ?_
    exact r_iret hex hb hr hlk hK hA hP hS ⟨_, rfl, rfl, T⟩ (Nat.zero_le _) (Nat.zero_le _) d_H_scanAllGrey_39
  · have T := T2 hc
    refine lv_aload_n hex hb d_H_scanAllGrey_10 rfl (lv_at hl 0 rfl) ?_
    refine r_getR (ci := 3) (C := R_H) (T := F_H) (N := 8) hex hb hts (fun w h => List.mem_cons_of_mem _ (in_H w h)) hown hK hP hLH rfl 2 (by decide) (hts _ (List.mem_cons_of_mem _ bg_47)) (fun _ h9 => h9) rfl d_H_scanAllGrey_11 ?_
    refine r_call (va_runV (As := []) (rest := []) ⟨hex, hb, hml, hown, hts⟩ (Ct.use T H.size) (cwV 0 hts (gdV bg_321 bg_322 bg_323 bg_3 bc_O_firstGrey) rfl rfl rfl hdV_O_firstGrey ⟨by rw [hR]; exact Nat.le_of_ble_eq_true rfl, by rw [hR]; exact Nat.le_of_ble_eq_true rfl⟩) (px_preV (ci := 0) hNW hK hP hLO rfl) rfl rfl hl.1 rfl (lv_room (Nat.le_of_ble_eq_true rfl)) d_H_scanAllGrey_14 ⟨by rw [hR]; exact Nat.le_of_ble_eq_true rfl, by rw [hR]; exact Nat.le_of_ble_eq_true rfl⟩) hS hA hAs (fun v Λ1 σ1 H locs hp hP hK hA hS => ?_)
    obtain ⟨o2r, rfl, rfl, T⟩ := hp
    generalize σ1 = σa2 at hP T
    refine W.eq (g2 := F0 (xm x) 17 ls [va_rf o2r]) rfl ?_
    refine r_astore_n (o := o2r) (lv' := [(3, va_rf o2r), (0, .ref (c 0)), (1, .int (iI i1)), (2, .int (iI i2))]) hex hb d_H_scanAllGrey_17 rfl hl (Nat.le_of_ble_eq_true rfl) rfl (fun ls hl => ?_)
    refine r_aload_n (o := o2r) hex hb d_H_scanAllGrey_18 rfl (lv_at hl 0 rfl) ?_
    obtain ⟨Tn, Ts⟩ := T
    refine r_ifnonnull (o := o2r) (tgt := 25) hex hb d_H_scanAllGrey_19 rfl (fun hn => ?_) (fun t3 ht4 => ?_)
    · have T := Tn hn
      have hl : lv_has ls 4 [(3, va_rf none), (0, .ref (c 0)), (1, .int (iI i1)), (2, .int (iI i2))] := by have h9 := hl; rw [hn] at h9; exact h9
      refine lv_goto (tgt := 38) hex hb d_H_scanAllGrey_22 rfl ?_
      refine lv_iload_n hex hb d_H_scanAllGrey_38 rfl (lv_at hl 2 rfl) ?_
      exact r_iret hex hb hr hlk hK hA hP hS ⟨_, rfl, rfl, T⟩ (Nat.zero_le _) (Nat.zero_le _) d_H_scanAllGrey_39
    · have T := Ts t3 ht4
      have hl : lv_has ls 4 [(3, .ref t3), (0, .ref (c 0)), (1, .int (iI i1)), (2, .int (iI i2))] := by have h9 := hl; rw [ht4] at h9; exact h9
      refine lv_iload_n hex hb d_H_scanAllGrey_25 rfl (lv_at hl 2 rfl) ?_
      refine lv_aload_n hex hb d_H_scanAllGrey_26 rfl (lv_at hl 0 rfl) ?_
      refine r_call (va_runS (As := [.ref t3]) (rest := [.int (iI i1)]) ⟨hex, hb, hml, hown, hts⟩ (Ct.use T H.size) (cwS 1 hts (gdS bg_325 bg_326 bg_1 bc_H_scan) rfl rfl rfl hdV_H_scan ⟨by rw [hR]; exact Nat.le_of_ble_eq_true rfl, by rw [hR]; exact Nat.le_of_ble_eq_true rfl⟩) (px_preS hNW hK hP) rfl rfl hl.1 rfl (lv_room (Nat.le_of_ble_eq_true rfl)) d_H_scanAllGrey_27 ⟨by rw [hR]; exact Nat.le_of_ble_eq_true rfl, by rw [hR]; exact Nat.le_of_ble_eq_true rfl⟩) hS hA hAs (fun v Λ1 σ1 H locs hp hP hK hA hS => ?_)
      obtain ⟨z5, rfl, rfl, T⟩ := hp
      generalize σ1 = σa5 at hP T
      refine W.eq (g2 := F0 (xm x) 30 ls [.int (iI z5), .int (iI i1)]) rfl ?_
      refine r_iadd hex hb d_H_scanAllGrey_30 ?_
      refine lv_istore_n (lv' := [(1, .int (iI (i1 + z5))), (3, .ref t3), (0, .ref (c 0)), (2, .int (iI i2))]) hex hb d_H_scanAllGrey_31 rfl hl (Nat.le_of_ble_eq_true rfl) rfl (fun ls hl => ?_)
      refine lv_iinc (v := iI (i2 + 1)) (lv' := [(2, .int (iI (i2 + 1))), (1, .int (iI (i1 + z5))), (3, .ref t3), (0, .ref (c 0))]) hex hb d_H_scanAllGrey_32 hl (k := 3) rfl (iI_add _ _) (Nat.le_of_ble_eq_true rfl) rfl (fun ls hl => ?_)
      refine lv_goto (tgt := 4) hex hb d_H_scanAllGrey_35 rfl ?_
      exact AtG.use T hK hA _ _ _ (lv_sub hl [3, 1, 0] rfl) hP hS
