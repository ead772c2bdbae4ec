-- DirtyCardHeap$Thing.size()I
def rm_T_size : Room := { frames := 0, cells := 0, slots := 0, locals := 0 }
abbrev X_T_size (x : Cx) : Prop := CxOk x b_T_size 1 wl_T_size R_T (some .int) rm_T_size "size"
abbrev K_T_size (l : Launch) (D : va_G) (Λ : Lam) (σ : Mem) (t : Nat) (P : Int → Mem → Prop) : Prop := Ct l D y_T_size wl_T_size rm_T_size [.ref t] Λ σ (pI Λ P)
abbrev N_T_size_0 (x : Cx) (P : Int → Mem → Prop) (Λ : Lam) (σ : Mem) (t : Nat) : Prop := AtG x (pI Λ P) 1 0 0 0 Λ σ [(0, .ref t)] []
theorem e_T_size {l : Launch} {D : va_G} {Λ : Lam} {σ : Mem} {t : Nat} {P : Int → Mem → Prop} (h : ∀ x : Cx, xl x = l → xD x = D → X_T_size x → N_T_size_0 x P Λ σ t) : K_T_size l D Λ σ t P := Ct.of (by decide) rfl (Nat.le_of_ble_eq_true rfl) h
set_option maxHeartbeats 4000000 in
set_option maxRecDepth 100000 in
theorem u_T_size_0 {x : Cx} (hx : X_T_size x) {P : Int → Mem → Prop} {Λ : Lam} {σ : Mem} {t : Nat} (hL : isT Λ t) (T : P (1 + ((nfL Λ t : Nat) : Int)) σ) : N_T_size_0 x P Λ σ t := by
  obtain ⟨hex, hb, hml, hown, hts, hr, hlk, hR, hnm, hAs, hNW⟩ := hx
  obtain ⟨hT, ⟨cT, hF⟩, hn⟩ := hL
  refine ⟨(), fun hK hA ls H locs hl hP hS => ?_⟩
  refine lv_iconst (v := iI 1) hex hb d_T_size_0 rfl ?_
  refine lv_aload_n hex hb d_T_size_1 rfl (lv_at hl 0 rfl) ?_
  refine r_getR (ci := 2) (C := R_T) (T := F_T) (N := 7) hex hb hts (fun w h => List.mem_cons_of_mem _ (in_T w h)) hown hK hP hT rfl 1 (by decide) (hts _ (List.mem_cons_of_mem _ bg_231)) (fun _ h9 => h9) rfl d_T_size_2 ?_
  refine r_alen hex hb hK hP hF d_T_size_5 ?_
  refine r_iadd hex hb d_T_size_6 ?_
  exact r_iret hex hb hr hlk hK hA hP hS ⟨_, rfl, rfl, T⟩ (Nat.zero_le _) (Nat.zero_le _) d_T_size_7
set_option maxRecDepth 100000 in
theorem w_T_size {l : Launch} {D : va_G} {Λ : Lam} {σ : Mem} {t : Nat} {P : Int → Mem → Prop} (hL : isT Λ t) (T : P (1 + ((nfL Λ t : Nat) : Int)) σ) : K_T_size l D Λ σ t P := e_T_size (fun x hl hD hx => by subst hl; subst hD; exact u_T_size_0 hx hL T)
-- DirtyCardHeap$Thing.isYoung()Z
def rm_T_isYoung : Room := { frames := 0, cells := 0, slots := 0, locals := 0 }
abbrev X_T_isYoung (x : Cx) : Prop := CxOk x b_T_isYoung 1 wl_T_isYoung R_T (some .boolean) rm_T_isYoung "isYoung"
abbrev K_T_isYoung (l : Launch) (D : va_G) (Λ : Lam) (σ : Mem) (t : Nat) (P : Int → Mem → Prop) : Prop := Ct l D y_T_isYoung wl_T_isYoung rm_T_isYoung [.ref t] Λ σ (pI Λ P)
abbrev N_T_isYoung_0 (x : Cx) (P : Int → Mem → Prop) (Λ : Lam) (σ : Mem) (t : Nat) : Prop := AtG x (pI Λ P) 1 0 0 0 Λ σ [(0, .ref t)] []
theorem e_T_isYoung {l : Launch} {D : va_G} {Λ : Lam} {σ : Mem} {t : Nat} {P : Int → Mem → Prop} (h : ∀ x : Cx, xl x = l → xD x = D → X_T_isYoung x → N_T_isYoung_0 x P Λ σ t) : K_T_isYoung l D Λ σ t P := Ct.of (by decide) rfl (Nat.le_of_ble_eq_true rfl) h
set_option maxHeartbeats 4000000 in
set_option maxRecDepth 100000 in
theorem u_T_isYoung_0 {x : Cx} (hx : X_T_isYoung x) {P : Int → Mem → Prop} {Λ : Lam} {σ : Mem} {t : Nat} (hL : isT Λ t) (T : rng (σ.1 203 t) ∧ ((¬ (σ.1 203 t) = (-1) → P 0 σ) ∧ ((σ.1 203 t) = (-1) → P 1 σ))) : N_T_isYoung_0 x P Λ σ t := by
  obtain ⟨hex, hb, hml, hown, hts, hr, hlk, hR, hnm, hAs, hNW⟩ := hx
  obtain ⟨hT, ⟨cT, hF⟩, hn⟩ := hL
  refine ⟨(), fun hK hA ls H locs hl hP hS => ?_⟩
  refine lv_aload_n hex hb d_T_isYoung_0 rfl (lv_at hl 0 rfl) ?_
  refine r_getI (ci := 2) (C := R_T) (T := F_T) (N := 7) hex hb hts (fun w h => List.mem_cons_of_mem _ (in_T w h)) hown hK hP hT rfl 3 (by decide) (hts _ (List.mem_cons_of_mem _ bg_236)) (fun _ h9 => h9) rfl d_T_isYoung_1 ?_
  refine lv_iconst (v := iI (-1)) hex hb d_T_isYoung_4 rfl ?_
  obtain ⟨h1, T⟩ := T
  obtain ⟨T1, T2⟩ := T
  refine r_icmp_ne (a := σ.1 203 t) (b := (-1)) (tgt := 12) hex hb h1 ⟨by omega, by omega⟩ d_T_isYoung_5 rfl (fun hc => ?_) (fun hc => ?_)
  · have T := T1 hc
    refine lv_iconst (v := iI 0) hex hb d_T_isYoung_12 rfl ?_
    exact r_zret hex hb hr hlk hK hA hP hS (by decide) ⟨_, rfl, rfl, T⟩ (Nat.zero_le _) (Nat.zero_le _) d_T_isYoung_13
  · have T := T2 hc
    refine lv_iconst (v := iI 1) hex hb d_T_isYoung_8 rfl ?_
    refine lv_goto (tgt := 13) hex hb d_T_isYoung_9 rfl ?_
    exact r_zret hex hb hr hlk hK hA hP hS (by decide) ⟨_, rfl, rfl, T⟩ (Nat.zero_le _) (Nat.zero_le _) d_T_isYoung_13
set_option maxRecDepth 100000 in
theorem w_T_isYoung {l : Launch} {D : va_G} {Λ : Lam} {σ : Mem} {t : Nat} {P : Int → Mem → Prop} (hL : isT Λ t) (T : rng (σ.1 203 t) ∧ ((¬ (σ.1 203 t) = (-1) → P 0 σ) ∧ ((σ.1 203 t) = (-1) → P 1 σ))) : K_T_isYoung l D Λ σ t P := e_T_isYoung (fun x hl hD hx => by subst hl; subst hD; exact u_T_isYoung_0 hx hL T)
-- DirtyCardHeap$Thing.isOld()Z
def rm_T_isOld : Room := { frames := 0, cells := 0, slots := 0, locals := 0 }
abbrev X_T_isOld (x : Cx) : Prop := CxOk x b_T_isOld 1 wl_T_isOld R_T (some .boolean) rm_T_isOld "isOld"
abbrev K_T_isOld (l : Launch) (D : va_G) (Λ : Lam) (σ : Mem) (t : Nat) (P : Int → Mem → Prop) : Prop := Ct l D y_T_isOld wl_T_isOld rm_T_isOld [.ref t] Λ σ (pI Λ P)
abbrev N_T_isOld_0 (x : Cx) (P : Int → Mem → Prop) (Λ : Lam) (σ : Mem) (t : Nat) : Prop := AtG x (pI Λ P) 1 0 0 0 Λ σ [(0, .ref t)] []
theorem e_T_isOld {l : Launch} {D : va_G} {Λ : Lam} {σ : Mem} {t : Nat} {P : Int → Mem → Prop} (h : ∀ x : Cx, xl x = l → xD x = D → X_T_isOld x → N_T_isOld_0 x P Λ σ t) : K_T_isOld l D Λ σ t P := Ct.of (by decide) rfl (Nat.le_of_ble_eq_true rfl) h
set_option maxHeartbeats 4000000 in
set_option maxRecDepth 100000 in
theorem u_T_isOld_0 {x : Cx} (hx : X_T_isOld x) {P : Int → Mem → Prop} {Λ : Lam} {σ : Mem} {t : Nat} (hL : isT Λ t) (T : rng (σ.1 203 t) ∧ (((σ.1 203 t) < 0 → P 0 σ) ∧ (¬ (σ.1 203 t) < 0 → P 1 σ))) : N_T_isOld_0 x P Λ σ t := by
  obtain ⟨hex, hb, hml, hown, hts, hr, hlk, hR, hnm, hAs, hNW⟩ := hx
  obtain ⟨hT, ⟨cT, hF⟩, hn⟩ := hL
  refine ⟨(), fun hK hA ls H locs hl hP hS => ?_⟩
  refine lv_aload_n hex hb d_T_isOld_0 rfl (lv_at hl 0 rfl) ?_
  refine r_getI (ci := 2) (C := R_T) (T := F_T) (N := 7) hex hb hts (fun w h => List.mem_cons_of_mem _ (in_T w h)) hown hK hP hT rfl 3 (by decide) (hts _ (List.mem_cons_of_mem _ bg_236)) (fun _ h9 => h9) rfl d_T_isOld_1 ?_
  obtain ⟨h1, T⟩ := T
  obtain ⟨T1, T2⟩ := T
  refine r_if_lt (a := σ.1 203 t) (tgt := 11) hex hb h1 d_T_isOld_4 rfl (fun hc => ?_) (fun hc => ?_)
  · have T := T1 hc
    refine lv_iconst (v := iI 0) hex hb d_T_isOld_11 rfl ?_
    exact r_zret hex hb hr hlk hK hA hP hS (by decide) ⟨_, rfl, rfl, T⟩ (Nat.zero_le _) (Nat.zero_le _) d_T_isOld_12
  · have T := T2 hc
    refine lv_iconst (v := iI 1) hex hb d_T_isOld_7 rfl ?_
    refine lv_goto (tgt := 12) hex hb d_T_isOld_8 rfl ?_
    exact r_zret hex hb hr hlk hK hA hP hS (by decide) ⟨_, rfl, rfl, T⟩ (Nat.zero_le _) (Nat.zero_le _) d_T_isOld_12
set_option maxRecDepth 100000 in
theorem w_T_isOld {l : Launch} {D : va_G} {Λ : Lam} {σ : Mem} {t : Nat} {P : Int → Mem → Prop} (hL : isT Λ t) (T : rng (σ.1 203 t) ∧ (((σ.1 203 t) < 0 → P 0 σ) ∧ (¬ (σ.1 203 t) < 0 → P 1 σ))) : K_T_isOld l D Λ σ t P := e_T_isOld (fun x hl hD hx => by subst hl; subst hD; exact u_T_isOld_0 hx hL T)
-- DirtyCardHeap$Thing.becomeGone()V
def rm_T_becomeGone : Room := { frames := 0, cells := 0, slots := 0, locals := 0 }
abbrev X_T_becomeGone (x : Cx) : Prop := CxOk x b_T_becomeGone 1 wl_T_becomeGone R_T none rm_T_becomeGone "becomeGone"
abbrev K_T_becomeGone (l : Launch) (D : va_G) (Λ : Lam) (σ : Mem) (t : Nat) (P : Mem → Prop) : Prop := Ct l D y_T_becomeGone wl_T_becomeGone rm_T_becomeGone [.ref t] Λ σ (pV Λ P)
abbrev N_T_becomeGone_0 (x : Cx) (P : Mem → Prop) (Λ : Lam) (σ : Mem) (t : Nat) : Prop := AtG x (pV Λ P) 1 0 0 0 Λ σ [(0, .ref t)] []
theorem e_T_becomeGone {l : Launch} {D : va_G} {Λ : Lam} {σ : Mem} {t : Nat} {P : Mem → Prop} (h : ∀ x : Cx, xl x = l → xD x = D → X_T_becomeGone x → N_T_becomeGone_0 x P Λ σ t) : K_T_becomeGone l D Λ σ t P := Ct.of (by decide) rfl (Nat.le_of_ble_eq_true rfl) h
set_option maxHeartbeats 4000000 in
set_option maxRecDepth 100000 in
theorem u_T_becomeGone_0 {x : Cx} (hx : X_T_becomeGone x) {P : Mem → Prop} {Λ : Lam} {σ : Mem} {t : Nat} (hL : isT Λ t) (T : P (upI σ 203 t (-2))) : N_T_becomeGone_0 x P Λ σ t := by
  obtain ⟨hex, hb, hml, hown, hts, hr, hlk, hR, hnm, hAs, hNW⟩ := hx
  obtain ⟨hT, ⟨cT, hF⟩, hn⟩ := hL
  refine ⟨(), fun hK hA ls H locs hl hP hS => ?_⟩
  refine lv_aload_n hex hb d_T_becomeGone_0 rfl (lv_at hl 0 rfl) ?_
  refine lv_bipush (v := iI (-2)) hex hb d_T_becomeGone_1 rfl ?_
  refine r_putI (ci := 2) (C := R_T) (T := F_T) (N := 7) (v := (-2)) (ty := .int) hex hb hts (fun w h => List.mem_cons_of_mem _ (in_T w h)) tq_T tq_T_ok n_T hown hK hP hA hS hT rfl 3 (by decide) (hts _ (List.mem_cons_of_mem _ bg_236)) (fun _ h9 => h9) rfl (by decide +kernel) rfl rfl rfl d_T_becomeGone_3 (fun H locs hP hS => ?_)
  exact r_vret hex hb hr hlk hK hA hP hS ⟨rfl, rfl, T⟩ (Nat.zero_le _) (Nat.zero_le _) d_T_becomeGone_6
set_option maxRecDepth 100000 in
theorem w_T_becomeGone {l : Launch} {D : va_G} {Λ : Lam} {σ : Mem} {t : Nat} {P : Mem → Prop} (hL : isT Λ t) (T : P (upI σ 203 t (-2))) : K_T_becomeGone l D Λ σ t P := e_T_becomeGone (fun x hl hD hx => by subst hl; subst hD; exact u_T_becomeGone_0 hx hL T)
-- DirtyCardHeap$Thing.hasField(I)Z
def rm_T_hasField : Room := { frames := 0, cells := 0, slots := 0, locals := 0 }
abbrev X_T_hasField (x : Cx) : Prop := CxOk x b_T_hasField 2 wl_T_hasField R_T (some .boolean) rm_T_hasField "hasField"
abbrev K_T_hasField (l : Launch) (D : va_G) (Λ : Lam) (σ : Mem) (t : Nat) (a1 : Int) (P : Int → Mem → Prop) : Prop := Ct l D y_T_hasField wl_T_hasField rm_T_hasField [.ref t, .int (iI a1)] Λ σ (pI Λ P)
abbrev N_T_hasField_0 (x : Cx) (P : Int → Mem → Prop) (Λ : Lam) (σ : Mem) (t : Nat) (a1 : Int) : Prop := AtG x (pI Λ P) 2 0 0 0 Λ σ [(0, .ref t), (1, .int (iI a1))] []
theorem e_T_hasField {l : Launch} {D : va_G} {Λ : Lam} {σ : Mem} {t : Nat} {a1 : Int} {P : Int → Mem → Prop} (h : ∀ x : Cx, xl x = l → xD x = D → X_T_hasField x → N_T_hasField_0 x P Λ σ t a1) : K_T_hasField l D Λ σ t a1 P := Ct.of (by decide) rfl (Nat.le_of_ble_eq_true rfl) h
set_option maxHeartbeats 4000000 in
set_option maxRecDepth 100000 in
theorem u_T_hasField_0 {x : Cx} (hx : X_T_hasField x) {P : Int → Mem → Prop} {Λ : Lam} {σ : Mem} {t : Nat} {a1 : Int} (hL : isT Λ t) (T : rng a1 ∧ ((a1 < 0 → P 0 σ) ∧ (¬ a1 < 0 → rng ((nfL Λ t : Nat) : Int) ∧ ((((nfL Λ t : Nat) : Int) ≤ a1 → P 0 σ) ∧ (¬ ((nfL Λ t : Nat) : Int) ≤ a1 → P 1 σ))))) : N_T_hasField_0 x P Λ σ t a1 := by
  obtain ⟨hex, hb, hml, hown, hts, hr, hlk, hR, hnm, hAs, hNW⟩ := hx
  obtain ⟨hT, ⟨cT, hF⟩, hn⟩ := hL
  refine ⟨(), fun hK hA ls H locs hl hP hS => ?_⟩
  refine lv_iload_n hex hb d_T_hasField_0 rfl (lv_at hl 1 rfl) ?_
  obtain ⟨h1, T⟩ := T
  obtain ⟨T1, T2⟩ := T
  refine r_if_lt (a := a1) (tgt := 17) hex hb h1 d_T_hasField_1 rfl (fun hc => ?_) (fun hc => ?_)
  · have T := T1 hc
    refine lv_iconst (v := iI 0) hex hb d_T_hasField_17 rfl ?_
    exact r_zret hex hb hr hlk hK hA hP hS (by decide) ⟨_, rfl, rfl, T⟩ (Nat.zero_le _) (Nat.zero_le _) d_T_hasField_18
  · have T := T2 hc
    refine lv_iload_n hex hb d_T_hasField_4 rfl (lv_at hl 1 rfl) ?_
    refine lv_aload_n hex hb d_T_hasField_5 rfl (lv_at hl 0 rfl) ?_
    refine r_getR (ci := 2) (C := R_T) (T := F_T) (N := 7) hex hb hts (fun w h => List.mem_cons_of_mem _ (in_T w h)) hown hK hP hT rfl 1 (by decide) (hts _ (List.mem_cons_of_mem _ bg_231)) (fun _ h9 => h9) rfl d_T_hasField_6 ?_
    refine r_alen hex hb hK hP hF d_T_hasField_9 ?_
    obtain ⟨h2, T⟩ := T
    obtain ⟨T1, T2⟩ := T
    refine r_icmp_ge (a := a1) (b := ((nfL Λ t : Nat) : Int)) (tgt := 17) hex hb h1 h2 d_T_hasField_10 rfl (fun hc => ?_) (fun hc => ?_)
    · have T := T1 hc
      refine lv_iconst (v := iI 0) hex hb d_T_hasField_17 rfl ?_
      exact r_zret hex hb hr hlk hK hA hP hS (by decide) ⟨_, rfl, rfl, T⟩ (Nat.zero_le _) (Nat.zero_le _) d_T_hasField_18
    · have T := T2 hc
      refine lv_iconst (v := iI 1) hex hb d_T_hasField_13 rfl ?_
      refine lv_goto (tgt := 18) hex hb d_T_hasField_14 rfl ?_
      exact r_zret hex hb hr hlk hK hA hP hS (by decide) ⟨_, rfl, rfl, T⟩ (Nat.zero_le _) (Nat.zero_le _) d_T_hasField_18
set_option maxRecDepth 100000 in
theorem w_T_hasField {l : Launch} {D : va_G} {Λ : Lam} {σ : Mem} {t : Nat} {a1 : Int} {P : Int → Mem → Prop} (hL : isT Λ t) (T : rng a1 ∧ ((a1 < 0 → P 0 σ) ∧ (¬ a1 < 0 → rng ((nfL Λ t : Nat) : Int) ∧ ((((nfL Λ t : Nat) : Int) ≤ a1 → P 0 σ) ∧ (¬ ((nfL Λ t : Nat) : Int) ≤ a1 → P 1 σ))))) : K_T_hasField l D Λ σ t a1 P := e_T_hasField (fun x hl hD hx => by subst hl; subst hD; exact u_T_hasField_0 hx hL T)
-- DirtyCardHeap.isRoot(I)Z
def rm_H_isRoot : Room := { frames := 0, cells := 0, slots := 0, locals := 0 }
abbrev X_H_isRoot (x : Cx) : Prop := CxOk x b_H_isRoot 1 wl_H_isRoot R_H (some .boolean) rm_H_isRoot "isRoot"
abbrev K_H_isRoot (l : Launch) (D : va_G) (Λ : Lam) (σ : Mem) (a1 : Int) (P : Int → Mem → Prop) : Prop := Ct l D y_H_isRoot wl_H_isRoot rm_H_isRoot [.int (iI a1)] Λ σ (pI Λ P)
abbrev N_H_isRoot_0 (x : Cx) (P : Int → Mem → Prop) (Λ : Lam) (σ : Mem) (a1 : Int) : Prop := AtG x (pI Λ P) 1 0 0 0 Λ σ [(0, .int (iI a1))] []
theorem e_H_isRoot {l : Launch} {D : va_G} {Λ : Lam} {σ : Mem} {a1 : Int} {P : Int → Mem → Prop} (h : ∀ x : Cx, xl x = l → xD x = D → X_H_isRoot x → N_H_isRoot_0 x P Λ σ a1) : K_H_isRoot l D Λ σ a1 P := Ct.of (by decide) rfl (Nat.le_of_ble_eq_true rfl) h
set_option maxHeartbeats 4000000 in
set_option maxRecDepth 100000 in
theorem u_H_isRoot_0 {x : Cx} (hx : X_H_isRoot x) {P : Int → Mem → Prop} {Λ : Lam} {σ : Mem} {a1 : Int} (T : rng a1 ∧ ((a1 < 0 → P 0 σ) ∧ (¬ a1 < 0 → ((6 ≤ a1 → P 0 σ) ∧ (¬ 6 ≤ a1 → P 1 σ))))) : N_H_isRoot_0 x P Λ σ a1 := by
  obtain ⟨hex, hb, hml, hown, hts, hr, hlk, hR, hnm, hAs, hNW⟩ := hx
  refine ⟨(), fun hK hA ls H locs hl hP hS => ?_⟩
  refine lv_iload_n hex hb d_H_isRoot_0 rfl (lv_at hl 0 rfl) ?_
  obtain ⟨h1, T⟩ := T
  obtain ⟨T1, T2⟩ := T
  refine r_if_lt (a := a1) (tgt := 14) hex hb h1 d_H_isRoot_1 rfl (fun hc => ?_) (fun hc => ?_)
  · have T := T1 hc
    refine lv_iconst (v := iI 0) hex hb d_H_isRoot_14 rfl ?_
    exact r_zret hex hb hr hlk hK hA hP hS (by decide) ⟨_, rfl, rfl, T⟩ (Nat.zero_le _) (Nat.zero_le _) d_H_isRoot_15
  · have T := T2 hc
    refine lv_iload_n hex hb d_H_isRoot_4 rfl (lv_at hl 0 rfl) ?_
    refine lv_bipush (v := iI 6) hex hb d_H_isRoot_5 rfl ?_
    obtain ⟨T1, T2⟩ := T
    refine r_icmp_ge (a := a1) (b := 6) (tgt := 14) hex hb h1 ⟨by omega, by omega⟩ d_H_isRoot_7 rfl (fun hc => ?_) (fun hc => ?_)
    · have T := T1 hc
      refine lv_iconst (v := iI 0) hex hb d_H_isRoot_14 rfl ?_
      exact r_zret hex hb hr hlk hK hA hP hS (by decide) ⟨_, rfl, rfl, T⟩ (Nat.zero_le _) (Nat.zero_le _) d_H_isRoot_15
    · have T := T2 hc
      refine lv_iconst (v := iI 1) hex hb d_H_isRoot_10 rfl ?_
      refine lv_goto (tgt := 15) hex hb d_H_isRoot_11 rfl ?_
      exact r_zret hex hb hr hlk hK hA hP hS (by decide) ⟨_, rfl, rfl, T⟩ (Nat.zero_le _) (Nat.zero_le _) d_H_isRoot_15
set_option maxRecDepth 100000 in
theorem w_H_isRoot {l : Launch} {D : va_G} {Λ : Lam} {σ : Mem} {a1 : Int} {P : Int → Mem → Prop} (T : rng a1 ∧ ((a1 < 0 → P 0 σ) ∧ (¬ a1 < 0 → ((6 ≤ a1 → P 0 σ) ∧ (¬ 6 ≤ a1 → P 1 σ))))) : K_H_isRoot l D Λ σ a1 P := e_H_isRoot (fun x hl hD hx => by subst hl; subst hD; exact u_H_isRoot_0 hx  T)
-- DirtyCardHeap.cardOf(I)I
def rm_H_cardOf : Room := { frames := 0, cells := 0, slots := 0, locals := 0 }
abbrev X_H_cardOf (x : Cx) : Prop := CxOk x b_H_cardOf 1 wl_H_cardOf R_H (some .int) rm_H_cardOf "cardOf"
abbrev K_H_cardOf (l : Launch) (D : va_G) (Λ : Lam) (σ : Mem) (a1 : Int) (P : Int → Mem → Prop) : Prop := Ct l D y_H_cardOf wl_H_cardOf rm_H_cardOf [.int (iI a1)] Λ σ (pI Λ P)
abbrev N_H_cardOf_0 (x : Cx) (P : Int → Mem → Prop) (Λ : Lam) (σ : Mem) (a1 : Int) : Prop := AtG x (pI Λ P) 1 0 0 0 Λ σ [(0, .int (iI a1))] []
theorem e_H_cardOf {l : Launch} {D : va_G} {Λ : Lam} {σ : Mem} {a1 : Int} {P : Int → Mem → Prop} (h : ∀ x : Cx, xl x = l → xD x = D → X_H_cardOf x → N_H_cardOf_0 x P Λ σ a1) : K_H_cardOf l D Λ σ a1 P := Ct.of (by decide) rfl (Nat.le_of_ble_eq_true rfl) h
set_option maxHeartbeats 4000000 in
set_option maxRecDepth 100000 in
theorem u_H_cardOf_0 {x : Cx} (hx : X_H_cardOf x) {P : Int → Mem → Prop} {Λ : Lam} {σ : Mem} {a1 : Int} (T : P (iShl 1 (iDiv a1 8)) σ) : N_H_cardOf_0 x P Λ σ a1 := by
  obtain ⟨hex, hb, hml, hown, hts, hr, hlk, hR, hnm, hAs, hNW⟩ := hx
  refine ⟨(), fun hK hA ls H locs hl hP hS => ?_⟩
  refine lv_iconst (v := iI 1) hex hb d_H_cardOf_0 rfl ?_
  refine lv_iload_n hex hb d_H_cardOf_1 rfl (lv_at hl 0 rfl) ?_
  refine lv_bipush (v := iI 8) hex hb d_H_cardOf_2 rfl ?_
  refine r_idiv hex hb ⟨by omega, by omega⟩ (by omega) d_H_cardOf_4 ?_
  refine r_ishl hex hb d_H_cardOf_5 ?_
  exact r_iret hex hb hr hlk hK hA hP hS ⟨_, rfl, rfl, T⟩ (Nat.zero_le _) (Nat.zero_le _) d_H_cardOf_6
set_option maxRecDepth 100000 in
theorem w_H_cardOf {l : Launch} {D : va_G} {Λ : Lam} {σ : Mem} {a1 : Int} {P : Int → Mem → Prop} (T : P (iShl 1 (iDiv a1 8)) σ) : K_H_cardOf l D Λ σ a1 P := e_H_cardOf (fun x hl hD hx => by subst hl; subst hD; exact u_H_cardOf_0 hx  T)
-- DirtyCardHeap$Thing.cardsUnder()I
def rm_T_cardsUnder : Room := { frames := 1, cells := 0, slots := 0, locals := 20 }
abbrev X_T_cardsUnder (x : Cx) : Prop := CxOk x b_T_cardsUnder 3 wl_T_cardsUnder R_T (some .int) rm_T_cardsUnder "cardsUnder"
abbrev K_T_cardsUnder (l : Launch) (D : va_G) (Λ : Lam) (σ : Mem) (t : Nat) (P : Int → Mem → Prop) : Prop := Ct l D y_T_cardsUnder wl_T_cardsUnder rm_T_cardsUnder [.ref t] Λ σ (pI Λ P)
abbrev N_T_cardsUnder_0 (x : Cx) (P : Int → Mem → Prop) (Λ : Lam) (σ : Mem) (t : Nat) : Prop := AtG x (pI Λ P) 3 0 0 0 Λ σ [(0, .ref t)] []
abbrev N_T_cardsUnder_4 (x : Cx) (P : Int → Mem → Prop) (Λ : Lam) (σ : Mem) (t : Nat) (i1 : Int) (i2 : Int) : Prop := AtG x (pI Λ P) 3 4 0 0 Λ σ [(0, .ref t), (1, .int (iI i1)), (2, .int (iI i2))] []
theorem e_T_cardsUnder {l : Launch} {D : va_G} {Λ : Lam} {σ : Mem} {t : Nat} {P : Int → Mem → Prop} (h : ∀ x : Cx, xl x = l → xD x = D → X_T_cardsUnder x → N_T_cardsUnder_0 x P Λ σ t) : K_T_cardsUnder l D Λ σ t P := Ct.of (by decide) rfl (Nat.le_of_ble_eq_true rfl) h
set_option maxHeartbeats 4000000 in
set_option maxRecDepth 100000 in
theorem u_T_cardsUnder_0 {x : Cx} (hx : X_T_cardsUnder x) {P : Int → Mem → Prop} {Λ : Lam} {σ : Mem} {t : Nat} (hL : isT Λ t) (T : N_T_cardsUnder_4 x P Λ σ t 0 0) : N_T_cardsUnder_0 x P Λ σ t := by
  obtain ⟨hex, hb, hml, hown, hts, hr, hlk, hR, hnm, hAs, hNW⟩ := hx
  obtain ⟨hT, ⟨cT, hF⟩, hn⟩ := hL
  refine ⟨(), fun hK hA ls H locs hl hP hS => ?_⟩
  refine lv_iconst (v := iI 0) hex hb d_T_cardsUnder_0 rfl ?_
  refine lv_istore_n (lv' := [(1, .int (iI 0)), (0, .ref t)]) hex hb d_T_cardsUnder_1 rfl hl (Nat.le_of_ble_eq_true rfl) rfl (fun ls hl => ?_)
  refine lv_iconst (v := iI 0) hex hb d_T_cardsUnder_2 rfl ?_
  refine lv_istore_n (lv' := [(2, .int (iI 0)), (1, .int (iI 0)), (0, .ref t)]) hex hb d_T_cardsUnder_3 rfl hl (Nat.le_of_ble_eq_true rfl) rfl (fun ls hl => ?_)
  exact AtG.use T hK hA _ _ _ (lv_sub hl [2, 1, 0] rfl) hP hS
set_option maxHeartbeats 4000000 in
set_option maxRecDepth 100000 in
theorem u_T_cardsUnder_4 {x : Cx} (hx : X_T_cardsUnder x) {P : Int → Mem → Prop} {Λ : Lam} {σ : Mem} {t : Nat} {i1 : Int} {i2 : Int} (hL : isT Λ t) (T : rng i2 ∧ rng ((nfL Λ t : Nat) : Int) ∧ ((((nfL Λ t : Nat) : Int) < i2 → P i1 σ) ∧ (¬ ((nfL Λ t : Nat) : Int) < i2 → K_H_cardOf (xl x) (xD x) Λ σ ((σ.1 203 t) + i2) (fun z3 σa3 => N_T_cardsUnder_4 x P Λ σa3 t (iOr i1 z3) (i2 + 1))))) : N_T_cardsUnder_4 x P Λ σ t i1 i2 := by
  obtain ⟨hex, hb, hml, hown, hts, hr, hlk, hR, hnm, hAs, hNW⟩ := hx
  obtain ⟨hT, ⟨cT, hF⟩, hn⟩ := hL
  refine ⟨(), fun hK hA ls H locs hl hP hS => ?_⟩
  refine lv_iload_n hex hb d_T_cardsUnder_4 rfl (lv_at hl 2 rfl) ?_
  refine lv_aload_n hex hb d_T_cardsUnder_5 rfl (lv_at hl 0 rfl) ?_
  refine r_getR (ci := 2) (C := R_T) (T := F_T) (N := 7) hex hb hts (fun w h => List.mem_cons_of_mem _ (in_T w h)) hown hK hP hT rfl 1 (by decide) (hts _ (List.mem_cons_of_mem _ bg_231)) (fun _ h9 => h9) rfl d_T_cardsUnder_6 ?_
  refine r_alen hex hb hK hP hF d_T_cardsUnder_9 ?_
  obtain ⟨h1, T⟩ := T
  obtain ⟨h2, T⟩ := T
  obtain ⟨T1, T2⟩ := T
  refine r_icmp_gt (a := i2) (b := ((nfL Λ t : Nat) : Int)) (tgt := 31) hex hb h1 h2 d_T_cardsUnder_10 rfl (fun hc => ?_) (fun hc => ?_)
  · have T := T1 hc
    refine lv_iload_n hex hb d_T_cardsUnder_31 rfl (lv_at hl 1 rfl) ?_
    exact r_iret hex hb hr hlk hK hA hP hS ⟨_, rfl, rfl, T⟩ (Nat.zero_le _) (Nat.zero_le _) d_T_cardsUnder_32
  · have T := T2 hc
    refine lv_iload_n hex hb d_T_cardsUnder_13 rfl (lv_at hl 1 rfl) ?_
    refine lv_aload_n hex hb d_T_cardsUnder_14 rfl (lv_at hl 0 rfl) ?_
    refine r_getI (ci := 2) (C := R_T) (T := F_T) (N := 7) hex hb hts (fun w h => List.mem_cons_of_mem _ (in_T w h)) hown hK hP hT rfl 3 (by decide) (hts _ (List.mem_cons_of_mem _ bg_236)) (fun _ h9 => h9) rfl d_T_cardsUnder_15 ?_
    refine lv_iload_n hex hb d_T_cardsUnder_18 rfl (lv_at hl 2 rfl) ?_
    refine r_iadd hex hb d_T_cardsUnder_19 ?_
    refine r_call (va_runSN (As := [.int (iI ((σ.1 203 t) + i2))]) (rest := [.int (iI i1)]) ⟨hex, hb, hml, hown, hts⟩ (Ct.use T H.size) ⟨va_cnB 1 hts (gdI bc_H_cardOf) rfl rfl rfl hNW.2.1 (hts _ (List.mem_cons_of_mem _ bg_1)) hdV_H_cardOf.2 ⟨by rw [hR]; exact Nat.le_of_ble_eq_true rfl, by rw [hR]; exact Nat.le_of_ble_eq_true rfl⟩, (hts _ (List.mem_cons_of_mem _ bg_138)), trivial⟩ (px_preS hNW hK hP) rfl rfl hl.1 rfl (lv_room (Nat.le_of_ble_eq_true rfl)) d_T_cardsUnder_20 ⟨by rw [hR]; exact Nat.le_of_ble_eq_true rfl, by rw [hR]; exact Nat.le_of_ble_eq_true rfl⟩) hS hA hAs (fun v Λ1 σ1 H locs hp hP hK hA hS => ?_)
    obtain ⟨z3, rfl, rfl, T⟩ := hp
    generalize σ1 = σa3 at hP T
    refine W.eq (g2 := F0 (xm x) 23 ls [.int (iI z3), .int (iI i1)]) rfl ?_
    refine r_ior hex hb d_T_cardsUnder_23 ?_
    refine lv_istore_n (lv' := [(1, .int (iI (iOr i1 z3))), (0, .ref t), (2, .int (iI i2))]) hex hb d_T_cardsUnder_24 rfl hl (Nat.le_of_ble_eq_true rfl) rfl (fun ls hl => ?_)
    refine lv_iinc (v := iI (i2 + 1)) (lv' := [(2, .int (iI (i2 + 1))), (1, .int (iI (iOr i1 z3))), (0, .ref t)]) hex hb d_T_cardsUnder_25 hl (k := 2) rfl (iI_add _ _) (Nat.le_of_ble_eq_true rfl) rfl (fun ls hl => ?_)
    refine lv_goto (tgt := 4) hex hb d_T_cardsUnder_28 rfl ?_
    exact AtG.use T hK hA _ _ _ (lv_sub hl [2, 1, 0] rfl) hP hS
