-- DirtyCardHeap$Row.add(LDirtyCardHeap$Thing;)Z
def rm_R_add : Room := { frames := 0, cells := 0, slots := 0, locals := 0 }
abbrev X_R_add (x : Cx) : Prop := CxOk x b_R_add 2 wl_R_add R_R (some .boolean) rm_R_add "add"
abbrev K_R_add (l : Launch) (D : va_G) (Λ : Lam) (σ : Mem) (b : Nat) (a1 : Option Nat) (P : Int → Mem → Prop) : Prop := Ct l D y_R_add wl_R_add rm_R_add [.ref b, va_rf a1] Λ σ (pI Λ P)
abbrev N_R_add_0 (x : Cx) (P : Int → Mem → Prop) (Λ : Lam) (σ : Mem) (b : Nat) (a1 : Option Nat) : Prop := AtG x (pI Λ P) 2 0 0 0 Λ σ [(0, .ref b), (1, va_rf a1)] []
theorem e_R_add {l : Launch} {D : va_G} {Λ : Lam} {σ : Mem} {b : Nat} {a1 : Option Nat} {P : Int → Mem → Prop} (h : ∀ x : Cx, xl x = l → xD x = D → X_R_add x → N_R_add_0 x P Λ σ b a1) : K_R_add l D Λ σ b a1 P := by cases a1 <;> exact Ct.of (by decide) rfl (Nat.le_of_ble_eq_true rfl) h
set_option maxHeartbeats 4000000 in
set_option maxRecDepth 100000 in
theorem u_R_add_0 {x : Cx} (hx : X_R_add x) {P : Int → Mem → Prop} {Λ : Lam} {σ : Mem} {b : Nat} {a1 : Option Nat} {q n : Nat} (hL : isRow Λ b q n) (hnn : n < 2147483648) (T : rng (σ.1 101 b) ∧ rng ((n : Nat) : Int) ∧ (((σ.1 101 b) < ((n : Nat) : Int) → 0 ≤ (σ.1 101 b) ∧ (σ.1 101 b) < ((n : Nat) : Int) ∧ (∀ t, a1 = some t → isT Λ t) ∧ P 1 (upI (upX σ 101 q (σ.1 101 b).toNat a1) 101 b (((upX σ 101 q (σ.1 101 b).toNat a1).1 101 b) + 1))) ∧ (¬ (σ.1 101 b) < ((n : Nat) : Int) → P 0 σ))) : N_R_add_0 x P Λ σ b a1 := by
  obtain ⟨hex, hb, hml, hown, hts, hr, hlk, hR, hnm, hAs, hNW⟩ := hx
  obtain ⟨hLb, cAq, hLq⟩ := hL
  refine ⟨(), fun hK hA ls H locs hl hP hS => ?_⟩
  refine lv_aload_n hex hb d_R_add_0 rfl (lv_at hl 0 rfl) ?_
  refine r_getI (ci := 1) (C := R_R) (T := F_R) (N := 2) hex hb hts (fun w h => List.mem_cons_of_mem _ (in_R w h)) hown hK hP hLb rfl 1 (by decide) (hts _ (List.mem_cons_of_mem _ bg_26)) (fun _ h9 => h9) rfl d_R_add_1 ?_
  refine lv_aload_n hex hb d_R_add_4 rfl (lv_at hl 0 rfl) ?_
  refine r_getR (ci := 1) (C := R_R) (T := F_R) (N := 2) hex hb hts (fun w h => List.mem_cons_of_mem _ (in_R w h)) hown hK hP hLb rfl 0 (by decide) (hts _ (List.mem_cons_of_mem _ bg_24)) (fun _ h9 => h9) rfl d_R_add_5 ?_
  refine r_alen hex hb hK hP hLq d_R_add_8 ?_
  obtain ⟨h1, T⟩ := T
  obtain ⟨h2, T⟩ := T
  obtain ⟨T1, T2⟩ := T
  refine r_icmp_lt (a := σ.1 101 b) (b := ((n : Nat) : Int)) (tgt := 14) hex hb h1 h2 d_R_add_9 rfl (fun hc => ?_) (fun hc => ?_)
  · have T := T1 hc
    refine lv_aload_n hex hb d_R_add_14 rfl (lv_at hl 0 rfl) ?_
    refine r_getR (ci := 1) (C := R_R) (T := F_R) (N := 2) hex hb hts (fun w h => List.mem_cons_of_mem _ (in_R w h)) hown hK hP hLb rfl 0 (by decide) (hts _ (List.mem_cons_of_mem _ bg_24)) (fun _ h9 => h9) rfl d_R_add_15 ?_
    refine lv_aload_n hex hb d_R_add_18 rfl (lv_at hl 0 rfl) ?_
    refine r_getI (ci := 1) (C := R_R) (T := F_R) (N := 2) hex hb hts (fun w h => List.mem_cons_of_mem _ (in_R w h)) hown hK hP hLb rfl 1 (by decide) (hts _ (List.mem_cons_of_mem _ bg_26)) (fun _ h9 => h9) rfl d_R_add_19 ?_
    refine r_aload_n (o := a1) hex hb d_R_add_22 rfl (lv_at hl 1 rfl) ?_
    obtain ⟨h3, T⟩ := T
    obtain ⟨h4, T⟩ := T
    obtain ⟨h5, T⟩ := T
    refine r_aast (o := a1) (ci := 2) hex hb hK hP hA hS hLq (by decide) hnn rfl rfl (fun t ht => ⟨_, (h5 t ht).1⟩) h3 h4 d_R_add_23 (fun H locs hP hS => ?_)
    refine lv_aload_n hex hb d_R_add_24 rfl (lv_at hl 0 rfl) ?_
    refine lv_dup hex hb d_R_add_25 rfl ?_
    refine r_getI (ci := 1) (C := R_R) (T := F_R) (N := 2) hex hb hts (fun w h => List.mem_cons_of_mem _ (in_R w h)) hown hK hP hLb rfl 1 (by decide) (hts _ (List.mem_cons_of_mem _ bg_26)) (fun _ h9 => h9) rfl d_R_add_26 ?_
    refine lv_iconst (v := iI 1) hex hb d_R_add_29 rfl ?_
    refine r_iadd hex hb d_R_add_30 ?_
    refine r_putI (ci := 1) (C := R_R) (T := F_R) (N := 2) (v := ((upX σ 101 q (σ.1 101 b).toNat a1).1 101 b) + 1) (ty := .int) hex hb hts (fun w h => List.mem_cons_of_mem _ (in_R w h)) tq_R tq_R_ok n_R hown hK hP hA hS hLb rfl 1 (by decide) (hts _ (List.mem_cons_of_mem _ bg_26)) (fun _ h9 => h9) rfl (by decide +kernel) rfl rfl rfl d_R_add_31 (fun H locs hP hS => ?_)
    refine lv_iconst (v := iI 1) hex hb d_R_add_34 rfl ?_
    exact r_zret hex hb hr hlk hK hA hP hS (by decide) ⟨_, rfl, rfl, T⟩ (Nat.zero_le _) (Nat.zero_le _) d_R_add_35
  · have T := T2 hc
    refine lv_iconst (v := iI 0) hex hb d_R_add_12 rfl ?_
    exact r_zret hex hb hr hlk hK hA hP hS (by decide) ⟨_, rfl, rfl, T⟩ (Nat.zero_le _) (Nat.zero_le _) d_R_add_13
set_option maxRecDepth 100000 in
theorem w_R_add {l : Launch} {D : va_G} {Λ : Lam} {σ : Mem} {b : Nat} {a1 : Option Nat} {P : Int → Mem → Prop} {q n : Nat} (hL : isRow Λ b q n) (hnn : n < 2147483648) (T : rng (σ.1 101 b) ∧ rng ((n : Nat) : Int) ∧ (((σ.1 101 b) < ((n : Nat) : Int) → 0 ≤ (σ.1 101 b) ∧ (σ.1 101 b) < ((n : Nat) : Int) ∧ (∀ t, a1 = some t → isT Λ t) ∧ P 1 (upI (upX σ 101 q (σ.1 101 b).toNat a1) 101 b (((upX σ 101 q (σ.1 101 b).toNat a1).1 101 b) + 1))) ∧ (¬ (σ.1 101 b) < ((n : Nat) : Int) → P 0 σ))) : K_R_add l D Λ σ b a1 P := e_R_add (fun x hl hD hx => by subst hl; subst hD; exact u_R_add_0 hx hL hnn T)
-- DirtyCardHeap$Row.reach(LDirtyCardHeap$Thing;)Z
def rm_R_reach : Room := { frames := 1, cells := 0, slots := 0, locals := 21 }
abbrev X_R_reach (x : Cx) : Prop := CxOk x b_R_reach 2 wl_R_reach R_R (some .boolean) rm_R_reach "reach"
abbrev K_R_reach (l : Launch) (D : va_G) (Λ : Lam) (σ : Mem) (b : Nat) (a1 : Option Nat) (P : Int → Mem → Prop) : Prop := Ct l D y_R_reach wl_R_reach rm_R_reach [.ref b, va_rf a1] Λ σ (pI Λ P)
abbrev N_R_reach_0 (x : Cx) (P : Int → Mem → Prop) (Λ : Lam) (σ : Mem) (b : Nat) (a1 : Option Nat) : Prop := AtG x (pI Λ P) 2 0 0 0 Λ σ [(0, .ref b), (1, va_rf a1)] []
theorem e_R_reach {l : Launch} {D : va_G} {Λ : Lam} {σ : Mem} {b : Nat} {a1 : Option Nat} {P : Int → Mem → Prop} (h : ∀ x : Cx, xl x = l → xD x = D → X_R_reach x → N_R_reach_0 x P Λ σ b a1) : K_R_reach l D Λ σ b a1 P := by cases a1 <;> exact Ct.of (by decide) rfl (Nat.le_of_ble_eq_true rfl) h
set_option maxHeartbeats 4000000 in
set_option maxRecDepth 100000 in
theorem u_R_reach_0 {x : Cx} (hx : X_R_reach x) {P : Int → Mem → Prop} {Λ : Lam} {σ : Mem} {b : Nat} {a1 : Option Nat} {q n : Nat} (hL : isRow Λ b q n) (hnn : n < 2147483648) (T : ((a1 = none → P 0 σ) ∧ (∀ t1, a1 = some t1 → isT Λ t1 ∧ rng (σ.1 206 t1) ∧ ((¬ (σ.1 206 t1) = 0 → P 0 σ) ∧ ((σ.1 206 t1) = 0 → K_R_add (xl x) (xD x) Λ σ b (some t1) (fun z5 σa5 => rng z5 ∧ ((¬ z5 = 0 → P 1 (upI σa5 206 t1 1)) ∧ (z5 = 0 → P 0 σa5)))))))) : N_R_reach_0 x P Λ σ b a1 := by
  obtain ⟨hex, hb, hml, hown, hts, hr, hlk, hR, hnm, hAs, hNW⟩ := hx
  obtain ⟨hLb, cAq, hLq⟩ := hL
  refine ⟨(), fun hK hA ls H locs hl hP hS => ?_⟩
  refine r_aload_n (o := a1) hex hb d_R_reach_0 rfl (lv_at hl 1 rfl) ?_
  obtain ⟨Tn, Ts⟩ := T
  refine r_ifnull (o := a1) (tgt := 19) hex hb d_R_reach_1 rfl (fun hn => ?_) (fun t1 ht2 => ?_)
  · have T := Tn hn
    have hl : lv_has ls 2 [(0, .ref b), (1, va_rf none)] := by have h9 := hl; rw [hn] at h9; exact h9
    refine lv_iconst (v := iI 0) hex hb d_R_reach_19 rfl ?_
    exact r_zret hex hb hr hlk hK hA hP hS (by decide) ⟨_, rfl, rfl, T⟩ (Nat.zero_le _) (Nat.zero_le _) d_R_reach_20
  · have T := Ts t1 ht2
    have hl : lv_has ls 2 [(0, .ref b), (1, .ref t1)] := by have h9 := hl; rw [ht2] at h9; exact h9
    refine lv_aload_n hex hb d_R_reach_4 rfl (lv_at hl 1 rfl) ?_
    obtain ⟨⟨hT3, ⟨cT3, hF3⟩, hn3⟩, T⟩ := T
    refine r_getI (ci := 2) (C := R_T) (T := F_T) (N := 7) hex hb hts (fun w h => List.mem_cons_of_mem _ (in_T w h)) hown hK hP hT3 rfl 6 (by decide) (hts _ (List.mem_cons_of_mem _ bg_243)) (fun _ h9 => h9) rfl d_R_reach_5 ?_
    obtain ⟨h4, T⟩ := T
    obtain ⟨T1, T2⟩ := T
    refine r_if_ne (a := σ.1 206 t1) (tgt := 19) hex hb h4 d_R_reach_8 rfl (fun hc => ?_) (fun hc => ?_)
    · have T := T1 hc
      refine lv_iconst (v := iI 0) hex hb d_R_reach_19 rfl ?_
      exact r_zret hex hb hr hlk hK hA hP hS (by decide) ⟨_, rfl, rfl, T⟩ (Nat.zero_le _) (Nat.zero_le _) d_R_reach_20
    · have T := T2 hc
      refine lv_aload_n hex hb d_R_reach_11 rfl (lv_at hl 0 rfl) ?_
      refine lv_aload_n hex hb d_R_reach_12 rfl (lv_at hl 1 rfl) ?_
      refine r_call (va_runV (As := [.ref t1]) (rest := []) ⟨hex, hb, hml, hown, hts⟩ (Ct.use T H.size) (cwV 1 hts (gdV bg_105 bg_106 bg_107 bg_2 bc_R_add) rfl rfl rfl hdV_R_add ⟨by rw [hR]; exact Nat.le_of_ble_eq_true rfl, by rw [hR]; exact Nat.le_of_ble_eq_true rfl⟩) (px_preV (ci := 1) hNW hK hP hLb rfl) rfl rfl hl.1 rfl (lv_room (Nat.le_of_ble_eq_true rfl)) d_R_reach_13 ⟨by rw [hR]; exact Nat.le_of_ble_eq_true rfl, by rw [hR]; exact Nat.le_of_ble_eq_true rfl⟩) hS hA hAs (fun v Λ1 σ1 H locs hp hP hK hA hS => ?_)
      obtain ⟨z5, rfl, rfl, T⟩ := hp
      generalize σ1 = σa5 at hP T
      refine W.eq (g2 := F0 (xm x) 16 ls [.int (iI z5)]) rfl ?_
      obtain ⟨h6, T⟩ := T
      obtain ⟨T1, T2⟩ := T
      refine r_if_ne (a := z5) (tgt := 21) hex hb h6 d_R_reach_16 rfl (fun hc => ?_) (fun hc => ?_)
      · have T := T1 hc
        refine lv_aload_n hex hb d_R_reach_21 rfl (lv_at hl 1 rfl) ?_
        refine lv_iconst (v := iI 1) hex hb d_R_reach_22 rfl ?_
        refine r_putI (ci := 2) (C := R_T) (T := F_T) (N := 7) (v := 1) (ty := .boolean) hex hb hts (fun w h => List.mem_cons_of_mem _ (in_T w h)) tq_T tq_T_ok n_T hown hK hP hA hS hT3 rfl 6 (by decide) (hts _ (List.mem_cons_of_mem _ bg_243)) (fun _ h9 => h9) rfl (by decide +kernel) rfl rfl rfl d_R_reach_23 (fun H locs hP hS => ?_)
        refine lv_iconst (v := iI 1) hex hb d_R_reach_26 rfl ?_
        exact r_zret hex hb hr hlk hK hA hP hS (by decide) ⟨_, rfl, rfl, T⟩ (Nat.zero_le _) (Nat.zero_le _) d_R_reach_27
      · have T := T2 hc
        refine lv_iconst (v := iI 0) hex hb d_R_reach_19 rfl ?_
        exact r_zret hex hb hr hlk hK hA hP hS (by decide) ⟨_, rfl, rfl, T⟩ (Nat.zero_le _) (Nat.zero_le _) d_R_reach_20
set_option maxRecDepth 100000 in
theorem w_R_reach {l : Launch} {D : va_G} {Λ : Lam} {σ : Mem} {b : Nat} {a1 : Option Nat} {P : Int → Mem → Prop} {q n : Nat} (hL : isRow Λ b q n) (hnn : n < 2147483648) (T : ((a1 = none → P 0 σ) ∧ (∀ t1, a1 = some t1 → isT Λ t1 ∧ rng (σ.1 206 t1) ∧ ((¬ (σ.1 206 t1) = 0 → P 0 σ) ∧ ((σ.1 206 t1) = 0 → K_R_add l D Λ σ b (some t1) (fun z5 σa5 => rng z5 ∧ ((¬ z5 = 0 → P 1 (upI σa5 206 t1 1)) ∧ (z5 = 0 → P 0 σa5)))))))) : K_R_reach l D Λ σ b a1 P := e_R_reach (fun x hl hD hx => by subst hl; subst hD; exact u_R_reach_0 hx hL hnn T)
-- DirtyCardHeap$Row.letGo()V
def rm_R_letGo : Room := { frames := 0, cells := 0, slots := 0, locals := 0 }
abbrev X_R_letGo (x : Cx) : Prop := CxOk x b_R_letGo 2 wl_R_letGo R_R none rm_R_letGo "letGo"
abbrev K_R_letGo (l : Launch) (D : va_G) (Λ : Lam) (σ : Mem) (b : Nat) (P : Mem → Prop) : Prop := Ct l D y_R_letGo wl_R_letGo rm_R_letGo [.ref b] Λ σ (pV Λ P)
abbrev N_R_letGo_0 (x : Cx) (P : Mem → Prop) (Λ : Lam) (σ : Mem) (b : Nat) : Prop := AtG x (pV Λ P) 2 0 0 0 Λ σ [(0, .ref b)] []
abbrev N_R_letGo_2 (x : Cx) (P : Mem → Prop) (Λ : Lam) (σ : Mem) (b : Nat) (i1 : Int) : Prop := AtG x (pV Λ P) 2 2 0 0 Λ σ [(0, .ref b), (1, .int (iI i1))] []
theorem e_R_letGo {l : Launch} {D : va_G} {Λ : Lam} {σ : Mem} {b : Nat} {P : Mem → Prop} (h : ∀ x : Cx, xl x = l → xD x = D → X_R_letGo x → N_R_letGo_0 x P Λ σ b) : K_R_letGo l D Λ σ b P := Ct.of (by decide) rfl (Nat.le_of_ble_eq_true rfl) h
set_option maxHeartbeats 4000000 in
set_option maxRecDepth 100000 in
theorem u_R_letGo_0 {x : Cx} (hx : X_R_letGo x) {P : Mem → Prop} {Λ : Lam} {σ : Mem} {b : Nat} {q n : Nat} (hL : isRow Λ b q n) (hnn : n < 2147483648) (T : N_R_letGo_2 x P Λ σ b 0) : N_R_letGo_0 x P Λ σ b := by
  obtain ⟨hex, hb, hml, hown, hts, hr, hlk, hR, hnm, hAs, hNW⟩ := hx
  obtain ⟨hLb, cAq, hLq⟩ := hL
  refine ⟨(), fun hK hA ls H locs hl hP hS => ?_⟩
  refine lv_iconst (v := iI 0) hex hb d_R_letGo_0 rfl ?_
  refine lv_istore_n (lv' := [(1, .int (iI 0)), (0, .ref b)]) hex hb d_R_letGo_1 rfl hl (Nat.le_of_ble_eq_true rfl) rfl (fun ls hl => ?_)
  exact AtG.use T hK hA _ _ _ (lv_sub hl [1, 0] rfl) hP hS
set_option maxHeartbeats 4000000 in
set_option maxRecDepth 100000 in
theorem u_R_letGo_2 {x : Cx} (hx : X_R_letGo x) {P : Mem → Prop} {Λ : Lam} {σ : Mem} {b : Nat} {i1 : Int} {q n : Nat} (hL : isRow Λ b q n) (hnn : n < 2147483648) (T : rng i1 ∧ rng (σ.1 101 b) ∧ (((σ.1 101 b) ≤ i1 → P (upI σ 101 b 0)) ∧ (¬ (σ.1 101 b) ≤ i1 → 0 ≤ i1 ∧ i1 < ((n : Nat) : Int) ∧ (∃ t5, σ.2.2 101 q i1.toNat = some t5 ∧ isT Λ t5 ∧ N_R_letGo_2 x P Λ (upI σ 206 t5 0) b (i1 + 1))))) : N_R_letGo_2 x P Λ σ b i1 := by
  obtain ⟨hex, hb, hml, hown, hts, hr, hlk, hR, hnm, hAs, hNW⟩ := hx
  obtain ⟨hLb, cAq, hLq⟩ := hL
  refine ⟨(), fun hK hA ls H locs hl hP hS => ?_⟩
  refine lv_iload_n hex hb d_R_letGo_2 rfl (lv_at hl 1 rfl) ?_
  refine lv_aload_n hex hb d_R_letGo_3 rfl (lv_at hl 0 rfl) ?_
  refine r_getI (ci := 1) (C := R_R) (T := F_R) (N := 2) hex hb hts (fun w h => List.mem_cons_of_mem _ (in_R w h)) hown hK hP hLb rfl 1 (by decide) (hts _ (List.mem_cons_of_mem _ bg_26)) (fun _ h9 => h9) rfl d_R_letGo_4 ?_
  obtain ⟨h1, T⟩ := T
  obtain ⟨h2, T⟩ := T
  obtain ⟨T1, T2⟩ := T
  refine r_icmp_ge (a := i1) (b := σ.1 101 b) (tgt := 26) hex hb h1 h2 d_R_letGo_7 rfl (fun hc => ?_) (fun hc => ?_)
  · have T := T1 hc
    refine lv_aload_n hex hb d_R_letGo_26 rfl (lv_at hl 0 rfl) ?_
    refine lv_iconst (v := iI 0) hex hb d_R_letGo_27 rfl ?_
    refine r_putI (ci := 1) (C := R_R) (T := F_R) (N := 2) (v := 0) (ty := .int) hex hb hts (fun w h => List.mem_cons_of_mem _ (in_R w h)) tq_R tq_R_ok n_R hown hK hP hA hS hLb rfl 1 (by decide) (hts _ (List.mem_cons_of_mem _ bg_26)) (fun _ h9 => h9) rfl (by decide +kernel) rfl rfl rfl d_R_letGo_28 (fun H locs hP hS => ?_)
    exact r_vret hex hb hr hlk hK hA hP hS ⟨rfl, rfl, T⟩ (Nat.zero_le _) (Nat.zero_le _) d_R_letGo_31
  · have T := T2 hc
    refine lv_aload_n hex hb d_R_letGo_10 rfl (lv_at hl 0 rfl) ?_
    refine r_getR (ci := 1) (C := R_R) (T := F_R) (N := 2) hex hb hts (fun w h => List.mem_cons_of_mem _ (in_R w h)) hown hK hP hLb rfl 0 (by decide) (hts _ (List.mem_cons_of_mem _ bg_24)) (fun _ h9 => h9) rfl d_R_letGo_11 ?_
    refine lv_iload_n hex hb d_R_letGo_14 rfl (lv_at hl 1 rfl) ?_
    obtain ⟨h3, T⟩ := T
    obtain ⟨h4, T⟩ := T
    refine r_aald hex hb hK hP hLq (by decide) hnn h3 h4 d_R_letGo_15 ?_
    refine lv_iconst (v := iI 0) hex hb d_R_letGo_16 rfl ?_
    obtain ⟨t5, ht6, T⟩ := T
    rw [ht6]
    obtain ⟨⟨hT7, ⟨cT7, hF7⟩, hn7⟩, T⟩ := T
    refine r_putI (ci := 2) (C := R_T) (T := F_T) (N := 7) (v := 0) (ty := .boolean) hex hb hts (fun w h => List.mem_cons_of_mem _ (in_T w h)) tq_T tq_T_ok n_T hown hK hP hA hS hT7 rfl 6 (by decide) (hts _ (List.mem_cons_of_mem _ bg_243)) (fun _ h9 => h9) rfl (by decide +kernel) rfl rfl rfl d_R_letGo_17 (fun H locs hP hS => ?_)
    refine lv_iinc (v := iI (i1 + 1)) (lv' := [(1, .int (iI (i1 + 1))), (0, .ref b)]) hex hb d_R_letGo_20 hl (k := 1) rfl (iI_add _ _) (Nat.le_of_ble_eq_true rfl) rfl (fun ls hl => ?_)
    refine lv_goto (tgt := 2) hex hb d_R_letGo_23 rfl ?_
    exact AtG.use T hK hA _ _ _ (lv_sub hl [1, 0] rfl) hP hS
-- DirtyCardHeap$Row.empty()V
def rm_R_empty : Room := { frames := 0, cells := 0, slots := 0, locals := 0 }
abbrev X_R_empty (x : Cx) : Prop := CxOk x b_R_empty 1 wl_R_empty R_R none rm_R_empty "empty"
abbrev K_R_empty (l : Launch) (D : va_G) (Λ : Lam) (σ : Mem) (b : Nat) (P : Mem → Prop) : Prop := Ct l D y_R_empty wl_R_empty rm_R_empty [.ref b] Λ σ (pV Λ P)
abbrev N_R_empty_0 (x : Cx) (P : Mem → Prop) (Λ : Lam) (σ : Mem) (b : Nat) : Prop := AtG x (pV Λ P) 1 0 0 0 Λ σ [(0, .ref b)] []
theorem e_R_empty {l : Launch} {D : va_G} {Λ : Lam} {σ : Mem} {b : Nat} {P : Mem → Prop} (h : ∀ x : Cx, xl x = l → xD x = D → X_R_empty x → N_R_empty_0 x P Λ σ b) : K_R_empty l D Λ σ b P := Ct.of (by decide) rfl (Nat.le_of_ble_eq_true rfl) h
set_option maxHeartbeats 4000000 in
set_option maxRecDepth 100000 in
theorem u_R_empty_0 {x : Cx} (hx : X_R_empty x) {P : Mem → Prop} {Λ : Lam} {σ : Mem} {b : Nat} {q n : Nat} (hL : isRow Λ b q n) (hnn : n < 2147483648) (T : P (upI σ 101 b 0)) : N_R_empty_0 x P Λ σ b := by
  obtain ⟨hex, hb, hml, hown, hts, hr, hlk, hR, hnm, hAs, hNW⟩ := hx
  obtain ⟨hLb, cAq, hLq⟩ := hL
  refine ⟨(), fun hK hA ls H locs hl hP hS => ?_⟩
  refine lv_aload_n hex hb d_R_empty_0 rfl (lv_at hl 0 rfl) ?_
  refine lv_iconst (v := iI 0) hex hb d_R_empty_1 rfl ?_
  refine r_putI (ci := 1) (C := R_R) (T := F_R) (N := 2) (v := 0) (ty := .int) hex hb hts (fun w h => List.mem_cons_of_mem _ (in_R w h)) tq_R tq_R_ok n_R hown hK hP hA hS hLb rfl 1 (by decide) (hts _ (List.mem_cons_of_mem _ bg_26)) (fun _ h9 => h9) rfl (by decide +kernel) rfl rfl rfl d_R_empty_2 (fun H locs hP hS => ?_)
  exact r_vret hex hb hr hlk hK hA hP hS ⟨rfl, rfl, T⟩ (Nat.zero_le _) (Nat.zero_le _) d_R_empty_5
set_option maxRecDepth 100000 in
theorem w_R_empty {l : Launch} {D : va_G} {Λ : Lam} {σ : Mem} {b : Nat} {P : Mem → Prop} {q n : Nat} (hL : isRow Λ b q n) (hnn : n < 2147483648) (T : P (upI σ 101 b 0)) : K_R_empty l D Λ σ b P := e_R_empty (fun x hl hD hx => by subst hl; subst hD; exact u_R_empty_0 hx hL hnn T)
-- DirtyCardHeap$Row.cellsTaken()I
def rm_R_cellsTaken : Room := { frames := 1, cells := 0, slots := 0, locals := 20 }
abbrev X_R_cellsTaken (x : Cx) : Prop := CxOk x b_R_cellsTaken 3 wl_R_cellsTaken R_R (some .int) rm_R_cellsTaken "cellsTaken"
abbrev K_R_cellsTaken (l : Launch) (D : va_G) (Λ : Lam) (σ : Mem) (b : Nat) (P : Int → Mem → Prop) : Prop := Ct l D y_R_cellsTaken wl_R_cellsTaken rm_R_cellsTaken [.ref b] Λ σ (pI Λ P)
abbrev N_R_cellsTaken_0 (x : Cx) (P : Int → Mem → Prop) (Λ : Lam) (σ : Mem) (b : Nat) : Prop := AtG x (pI Λ P) 3 0 0 0 Λ σ [(0, .ref b)] []
abbrev N_R_cellsTaken_4 (x : Cx) (P : Int → Mem → Prop) (Λ : Lam) (σ : Mem) (b : Nat) (i1 : Int) (i2 : Int) : Prop := AtG x (pI Λ P) 3 4 0 0 Λ σ [(0, .ref b), (1, .int (iI i1)), (2, .int (iI i2))] []
theorem e_R_cellsTaken {l : Launch} {D : va_G} {Λ : Lam} {σ : Mem} {b : Nat} {P : Int → Mem → Prop} (h : ∀ x : Cx, xl x = l → xD x = D → X_R_cellsTaken x → N_R_cellsTaken_0 x P Λ σ b) : K_R_cellsTaken l D Λ σ b P := Ct.of (by decide) rfl (Nat.le_of_ble_eq_true rfl) h
set_option maxHeartbeats 4000000 in
set_option maxRecDepth 100000 in
theorem u_R_cellsTaken_0 {x : Cx} (hx : X_R_cellsTaken x) {P : Int → Mem → Prop} {Λ : Lam} {σ : Mem} {b : Nat} {q n : Nat} (hL : isRow Λ b q n) (hnn : n < 2147483648) (T : N_R_cellsTaken_4 x P Λ σ b 0 0) : N_R_cellsTaken_0 x P Λ σ b := by
  obtain ⟨hex, hb, hml, hown, hts, hr, hlk, hR, hnm, hAs, hNW⟩ := hx
  obtain ⟨hLb, cAq, hLq⟩ := hL
  refine ⟨(), fun hK hA ls H locs hl hP hS => ?_⟩
  refine lv_iconst (v := iI 0) hex hb d_R_cellsTaken_0 rfl ?_
  refine lv_istore_n (lv' := [(1, .int (iI 0)), (0, .ref b)]) hex hb d_R_cellsTaken_1 rfl hl (Nat.le_of_ble_eq_true rfl) rfl (fun ls hl => ?_)
  refine lv_iconst (v := iI 0) hex hb d_R_cellsTaken_2 rfl ?_
  refine lv_istore_n (lv' := [(2, .int (iI 0)), (1, .int (iI 0)), (0, .ref b)]) hex hb d_R_cellsTaken_3 rfl hl (Nat.le_of_ble_eq_true rfl) rfl (fun ls hl => ?_)
  exact AtG.use T hK hA _ _ _ (lv_sub hl [2, 1, 0] rfl) hP hS
set_option maxHeartbeats 4000000 in
set_option maxRecDepth 100000 in
theorem u_R_cellsTaken_4 {x : Cx} (hx : X_R_cellsTaken x) {P : Int → Mem → Prop} {Λ : Lam} {σ : Mem} {b : Nat} {i1 : Int} {i2 : Int} {q n : Nat} (hL : isRow Λ b q n) (hnn : n < 2147483648) (T : rng i2 ∧ rng (σ.1 101 b) ∧ (((σ.1 101 b) ≤ i2 → P i1 σ) ∧ (¬ (σ.1 101 b) ≤ i2 → 0 ≤ i2 ∧ i2 < ((n : Nat) : Int) ∧ (∃ t5, σ.2.2 101 q i2.toNat = some t5 ∧ isT Λ t5 ∧ K_T_size (xl x) (xD x) Λ σ t5 (fun z8 σa8 => N_R_cellsTaken_4 x P Λ σa8 b (i1 + z8) (i2 + 1)))))) : N_R_cellsTaken_4 x P Λ σ b i1 i2 := by
  obtain ⟨hex, hb, hml, hown, hts, hr, hlk, hR, hnm, hAs, hNW⟩ := hx
  obtain ⟨hLb, cAq, hLq⟩ := hL
  refine ⟨(), fun hK hA ls H locs hl hP hS => ?_⟩
  refine lv_iload_n hex hb d_R_cellsTaken_4 rfl (lv_at hl 2 rfl) ?_
  refine lv_aload_n hex hb d_R_cellsTaken_5 rfl (lv_at hl 0 rfl) ?_
  refine r_getI (ci := 1) (C := R_R) (T := F_R) (N := 2) hex hb hts (fun w h => List.mem_cons_of_mem _ (in_R w h)) hown hK hP hLb rfl 1 (by decide) (hts _ (List.mem_cons_of_mem _ bg_26)) (fun _ h9 => h9) rfl d_R_cellsTaken_6 ?_
  obtain ⟨h1, T⟩ := T
  obtain ⟨h2, T⟩ := T
  obtain ⟨T1, T2⟩ := T
  refine r_icmp_ge (a := i2) (b := σ.1 101 b) (tgt := 30) hex hb h1 h2 d_R_cellsTaken_9 rfl (fun hc => ?_) (fun hc => ?_)
  · have T := T1 hc
    refine lv_iload_n hex hb d_R_cellsTaken_30 rfl (lv_at hl 1 rfl) ?_
    exact r_iret hex hb hr hlk hK hA hP hS ⟨_, rfl, rfl, T⟩ (Nat.zero_le _) (Nat.zero_le _) d_R_cellsTaken_31
  · have T := T2 hc
    refine lv_iload_n hex hb d_R_cellsTaken_12 rfl (lv_at hl 1 rfl) ?_
    refine lv_aload_n hex hb d_R_cellsTaken_13 rfl (lv_at hl 0 rfl) ?_
    refine r_getR (ci := 1) (C := R_R) (T := F_R) (N := 2) hex hb hts (fun w h => List.mem_cons_of_mem _ (in_R w h)) hown hK hP hLb rfl 0 (by decide) (hts _ (List.mem_cons_of_mem _ bg_24)) (fun _ h9 => h9) rfl d_R_cellsTaken_14 ?_
    refine lv_iload_n hex hb d_R_cellsTaken_17 rfl (lv_at hl 2 rfl) ?_
    obtain ⟨h3, T⟩ := T
    obtain ⟨h4, T⟩ := T
    refine r_aald hex hb hK hP hLq (by decide) hnn h3 h4 d_R_cellsTaken_18 ?_
    obtain ⟨t5, ht6, T⟩ := T
    rw [ht6]
    obtain ⟨⟨hT7, ⟨cT7, hF7⟩, hn7⟩, T⟩ := T
    refine r_call (va_runV (As := []) (rest := [.int (iI i1)]) ⟨hex, hb, hml, hown, hts⟩ (Ct.use T H.size) (cwV 0 hts (gdV bg_85 bg_86 bg_87 bg_6 bc_T_size) rfl rfl rfl hdV_T_size ⟨by rw [hR]; exact Nat.le_of_ble_eq_true rfl, by rw [hR]; exact Nat.le_of_ble_eq_true rfl⟩) (px_preV (ci := 2) hNW hK hP hT7 rfl) rfl rfl hl.1 rfl (lv_room (Nat.le_of_ble_eq_true rfl)) d_R_cellsTaken_19 ⟨by rw [hR]; exact Nat.le_of_ble_eq_true rfl, by rw [hR]; exact Nat.le_of_ble_eq_true rfl⟩) hS hA hAs (fun v Λ1 σ1 H locs hp hP hK hA hS => ?_)
    obtain ⟨z8, rfl, rfl, T⟩ := hp
    generalize σ1 = σa8 at hP T
    refine W.eq (g2 := F0 (xm x) 22 ls [.int (iI z8), .int (iI i1)]) rfl ?_
    refine r_iadd hex hb d_R_cellsTaken_22 ?_
    refine lv_istore_n (lv' := [(1, .int (iI (i1 + z8))), (0, .ref b), (2, .int (iI i2))]) hex hb d_R_cellsTaken_23 rfl hl (Nat.le_of_ble_eq_true rfl) rfl (fun ls hl => ?_)
    refine lv_iinc (v := iI (i2 + 1)) (lv' := [(2, .int (iI (i2 + 1))), (1, .int (iI (i1 + z8))), (0, .ref b)]) hex hb d_R_cellsTaken_24 hl (k := 2) rfl (iI_add _ _) (Nat.le_of_ble_eq_true rfl) rfl (fun ls hl => ?_)
    refine lv_goto (tgt := 4) hex hb d_R_cellsTaken_27 rfl ?_
    exact AtG.use T hK hA _ _ _ (lv_sub hl [2, 1, 0] rfl) hP hS
