-- DirtyCardHeap$Thing.<init>(II)V
def rm_T_init : Room := { frames := 1, cells := 1, slots := 3, locals := 20 }
abbrev X_T_init (x : Cx) : Prop := CxOk x b_T_init 3 wl_T_init R_T none rm_T_init "<init>"
abbrev K_T_init (l : Launch) (D : va_G) (Λ : Lam) (σ : Mem) (h : Nat) (a1 : Int) (a2 : Int) (P : PostT) : Prop := Ct l D y_T_init wl_T_init rm_T_init [.ref h, .int (iI a1), .int (iI a2)] Λ σ P
set_option maxHeartbeats 4000000 in
set_option maxRecDepth 100000 in
theorem w_T_init {l : Launch} {D : va_G} {Λ : Lam} {σ : Mem} {h : Nat} {a1 : Int} {a2 : Int} {P : PostT} (hThis : Λ h = some (.inr (2, [none, some none, none, none, none, none, none]))) (T : (0 ≤ a2 ∧ a2 ≤ 3) ∧ (∀ q1 cA1, Λ q1 = none → P none (upL (upL Λ q1 (.inl (cA1, a2.toNat, 103))) h (.inr (2, [none, some (some q1), none, none, none, none, none]))) (upI (upI (zap (upI σ 200 h a1) q1) 202 h 0) 203 h (-1)))) : K_T_init l D Λ σ h a1 a2 P := by
  refine Ct.of (by decide) rfl (Nat.le_of_ble_eq_true rfl) (fun x hl hD hx => ?_)
  subst hl; subst hD
  obtain ⟨hex, hb, hml, hown, hts, hr, hlk, hR, hnm, hAs, hNW⟩ := hx
  refine ⟨(), fun hK hA ls H locs hl hP hS => ?_⟩
  have hl : lv_has ls 3 [(0, .ref h), (1, .int (iI a1)), (2, .int (iI a2))] := hl
  refine lv_aload_n hex hb d_T_init_0 rfl (lv_at hl 0 rfl) ?_
  refine W.objInit hex hb hown (hts _ (List.mem_cons_of_mem _ bg_227)) (hts _ (List.mem_cons_of_mem _ bg_13)) (hts _ (List.mem_cons_of_mem _ bg_14)) rfl (by rw [hml]; exact hl.1) rfl d_T_init_1 (by rw [hR]; exact Nat.le_of_ble_eq_true rfl) (by rw [hR]; exact Nat.le_of_ble_eq_true rfl) ?_
  refine W.eq (g2 := F0 (xm x) 4 ls []) rfl ?_
  refine lv_aload_n hex hb d_T_init_4 rfl (lv_at hl 0 rfl) ?_
  refine lv_iload_n hex hb d_T_init_5 rfl (lv_at hl 1 rfl) ?_
  refine r_putIF (ci := 2) (C := R_T) (T := F_T) (N := 7) (v := a1) (ty := .int) hex hb hts (fun w h => List.mem_cons_of_mem _ (in_T w h)) tq_T tq_T_ok n_T hown hK hP hA hS hThis rfl 0 (by decide) (hts _ (List.mem_cons_of_mem _ bg_229)) (fun _ h9 => h9) rfl hnm rfl (by decide +kernel) rfl rfl rfl d_T_init_6 (fun H locs hP hS => ?_)
  refine lv_aload_n hex hb d_T_init_9 rfl (lv_at hl 0 rfl) ?_
  refine lv_iload_n hex hb d_T_init_10 rfl (lv_at hl 2 rfl) ?_
  obtain ⟨hn0, T⟩ := T
  refine r_anew hex hb hown (hts _ (List.mem_cons_of_mem _ bg_228)) (va_AO.use hNW.2.2.2) 103 (by decide) hK hP hA hS hAs (N := a2.toNat) (by omega) (by omega) (by rw [hR]; exact Nat.le_of_ble_eq_true rfl) (by rw [hR]; show 0 + a2.toNat ≤ 3; omega) d_T_init_11 (fun q1 cA1 H hq1 hP hK hA hS => ?_)
  refine W.widen (k := 1) (n := 3) (by omega) (by omega) ?_
  have T := T q1 cA1 hq1
  have hThis := upL_ne (y' := (.inl (cA1, a2.toNat, 103))) hThis hq1
  have hAq1 : (upL Λ q1 (.inl (cA1, a2.toNat, 103))) q1 = some (.inl (cA1, a2.toNat, 103)) := upL_at
  refine r_putRF (ci := 2) (C := R_T) (T := F_T) (N := 7) (b := q1) hex hb hts (fun w h => List.mem_cons_of_mem _ (in_T w h)) tq_T tq_T_ok n_T hown hK hP hA hS hThis rfl 1 (by decide) (hts _ (List.mem_cons_of_mem _ bg_231)) (fun _ h9 => h9) rfl hnm rfl (tq_T_ok 1 (by decide)) rfl rfl (Nat.le_of_ble_eq_true rfl) d_T_init_14 (fun H locs hP hK hA hS => ?_)
  have hP : Hd (xD x) CL (upL (upL Λ q1 (.inl (cA1, a2.toNat, 103))) h (.inr (2, [none, some (some q1), none, none, none, none, none]))) (zap (upI σ 200 h a1) q1) H := hP
  have hK : KL (xD x) CL (upL (upL Λ q1 (.inl (cA1, a2.toNat, 103))) h (.inr (2, [none, some (some q1), none, none, none, none, none]))) (xs x) := hK
  have hA : ∀ q y, (upL (upL Λ q1 (.inl (cA1, a2.toNat, 103))) h (.inr (2, [none, some (some q1), none, none, none, none, none]))) q = some y → xA x q := hA
  have hThis : (upL (upL Λ q1 (.inl (cA1, a2.toNat, 103))) h (.inr (2, [none, some (some q1), none, none, none, none, none]))) h = some (.inr (2, [none, some (some q1), none, none, none, none, none])) := upL_at
  refine lv_aload_n hex hb d_T_init_17 rfl (lv_at hl 0 rfl) ?_
  refine lv_iconst (v := iI 0) hex hb d_T_init_18 rfl ?_
  refine r_putI (ci := 2) (C := R_T) (T := F_T) (N := 7) (v := 0) (ty := .int) hex hb hts (fun w h => List.mem_cons_of_mem _ (in_T w h)) tq_T tq_T_ok n_T hown hK hP hA hS hThis rfl 2 (by decide) (hts _ (List.mem_cons_of_mem _ bg_234)) (fun _ h9 => h9) rfl (by decide +kernel) rfl rfl rfl d_T_init_19 (fun H locs hP hS => ?_)
  refine lv_aload_n hex hb d_T_init_22 rfl (lv_at hl 0 rfl) ?_
  refine lv_iconst (v := iI (-1)) hex hb d_T_init_23 rfl ?_
  refine r_putI (ci := 2) (C := R_T) (T := F_T) (N := 7) (v := (-1)) (ty := .int) hex hb hts (fun w h => List.mem_cons_of_mem _ (in_T w h)) tq_T tq_T_ok n_T hown hK hP hA hS hThis rfl 3 (by decide) (hts _ (List.mem_cons_of_mem _ bg_236)) (fun _ h9 => h9) rfl (by decide +kernel) rfl rfl rfl d_T_init_24 (fun H locs hP hS => ?_)
  exact r_vret hex hb hr hlk hK hA hP hS T (by rw [hR]; exact Nat.le_of_ble_eq_true rfl) (by rw [hR]; exact Nat.le_of_ble_eq_true rfl) d_T_init_27
-- DirtyCardHeap$Row.<init>(I)V
def rm_R_init : Room := { frames := 1, cells := 1, slots := 84, locals := 20 }
abbrev X_R_init (x : Cx) : Prop := CxOk x b_R_init 2 wl_R_init R_R none rm_R_init "<init>"
abbrev K_R_init (l : Launch) (D : va_G) (Λ : Lam) (σ : Mem) (h : Nat) (a1 : Int) (P : PostT) : Prop := Ct l D y_R_init wl_R_init rm_R_init [.ref h, .int (iI a1)] Λ σ P
set_option maxHeartbeats 4000000 in
set_option maxRecDepth 100000 in
theorem w_R_init {l : Launch} {D : va_G} {Λ : Lam} {σ : Mem} {h : Nat} {a1 : Int} {P : PostT} (hThis : Λ h = some (.inr (1, [some none, none]))) (T : (0 ≤ a1 ∧ a1 ≤ 84) ∧ (∀ q1 cA1, Λ q1 = none → P none (upL (upL Λ q1 (.inl (cA1, a1.toNat, 101))) h (.inr (1, [some (some q1), none]))) (upI (zap σ q1) 101 h 0))) : K_R_init l D Λ σ h a1 P := by
  refine Ct.of (by decide) rfl (Nat.le_of_ble_eq_true rfl) (fun x hl hD hx => ?_)
  subst hl; subst hD
  obtain ⟨hex, hb, hml, hown, hts, hr, hlk, hR, hnm, hAs, hNW⟩ := hx
  refine ⟨(), fun hK hA ls H locs hl hP hS => ?_⟩
  have hl : lv_has ls 2 [(0, .ref h), (1, .int (iI a1))] := hl
  refine lv_aload_n hex hb d_R_init_0 rfl (lv_at hl 0 rfl) ?_
  refine W.objInit hex hb hown (hts _ (List.mem_cons_of_mem _ bg_22)) (hts _ (List.mem_cons_of_mem _ bg_13)) (hts _ (List.mem_cons_of_mem _ bg_14)) rfl (by rw [hml]; exact hl.1) rfl d_R_init_1 (by rw [hR]; exact Nat.le_of_ble_eq_true rfl) (by rw [hR]; exact Nat.le_of_ble_eq_true rfl) ?_
  refine W.eq (g2 := F0 (xm x) 4 ls []) rfl ?_
  refine lv_aload_n hex hb d_R_init_4 rfl (lv_at hl 0 rfl) ?_
  refine lv_iload_n hex hb d_R_init_5 rfl (lv_at hl 1 rfl) ?_
  obtain ⟨hn0, T⟩ := T
  refine r_anew hex hb hown (hts _ (List.mem_cons_of_mem _ bg_23)) (va_AO.use hNW.2.2.2) 101 (by decide) hK hP hA hS hAs (N := a1.toNat) (by omega) (by omega) (by rw [hR]; exact Nat.le_of_ble_eq_true rfl) (by rw [hR]; show 0 + a1.toNat ≤ 84; omega) d_R_init_6 (fun q1 cA1 H hq1 hP hK hA hS => ?_)
  refine W.widen (k := 1) (n := 84) (by omega) (by omega) ?_
  have T := T q1 cA1 hq1
  have hThis := upL_ne (y' := (.inl (cA1, a1.toNat, 101))) hThis hq1
  have hAq1 : (upL Λ q1 (.inl (cA1, a1.toNat, 101))) q1 = some (.inl (cA1, a1.toNat, 101)) := upL_at
  refine r_putRF (ci := 1) (C := R_R) (T := F_R) (N := 2) (b := q1) hex hb hts (fun w h => List.mem_cons_of_mem _ (in_R w h)) tq_R tq_R_ok n_R hown hK hP hA hS hThis rfl 0 (by decide) (hts _ (List.mem_cons_of_mem _ bg_24)) (fun _ h9 => h9) rfl hnm rfl (tq_R_ok 0 (by decide)) rfl rfl (Nat.le_of_ble_eq_true rfl) d_R_init_9 (fun H locs hP hK hA hS => ?_)
  have hP : Hd (xD x) CL (upL (upL Λ q1 (.inl (cA1, a1.toNat, 101))) h (.inr (1, [some (some q1), none]))) (zap σ q1) H := hP
  have hK : KL (xD x) CL (upL (upL Λ q1 (.inl (cA1, a1.toNat, 101))) h (.inr (1, [some (some q1), none]))) (xs x) := hK
  have hA : ∀ q y, (upL (upL Λ q1 (.inl (cA1, a1.toNat, 101))) h (.inr (1, [some (some q1), none]))) q = some y → xA x q := hA
  have hThis : (upL (upL Λ q1 (.inl (cA1, a1.toNat, 101))) h (.inr (1, [some (some q1), none]))) h = some (.inr (1, [some (some q1), none])) := upL_at
  refine lv_aload_n hex hb d_R_init_12 rfl (lv_at hl 0 rfl) ?_
  refine lv_iconst (v := iI 0) hex hb d_R_init_13 rfl ?_
  refine r_putI (ci := 1) (C := R_R) (T := F_R) (N := 2) (v := 0) (ty := .int) hex hb hts (fun w h => List.mem_cons_of_mem _ (in_R w h)) tq_R tq_R_ok n_R hown hK hP hA hS hThis rfl 1 (by decide) (hts _ (List.mem_cons_of_mem _ bg_26)) (fun _ h9 => h9) rfl (by decide +kernel) rfl rfl rfl d_R_init_14 (fun H locs hP hS => ?_)
  exact r_vret hex hb hr hlk hK hA hP hS T (by rw [hR]; exact Nat.le_of_ble_eq_true rfl) (by rw [hR]; exact Nat.le_of_ble_eq_true rfl) d_R_init_17
-- DirtyCardHeap$OldPart.<init>()V
def rm_O_init : Room := { frames := 1, cells := 1, slots := 64, locals := 20 }
abbrev X_O_init (x : Cx) : Prop := CxOk x b_O_init 1 wl_O_init R_O none rm_O_init "<init>"
abbrev K_O_init (l : Launch) (D : va_G) (Λ : Lam) (σ : Mem) (h : Nat) (P : PostT) : Prop := Ct l D y_O_init wl_O_init rm_O_init [.ref h] Λ σ P
set_option maxHeartbeats 4000000 in
set_option maxRecDepth 100000 in
theorem w_O_init {l : Launch} {D : va_G} {Λ : Lam} {σ : Mem} {h : Nat} {P : PostT} (hThis : Λ h = some (.inr (0, [some none]))) (T : (∀ q1 cA1, Λ q1 = none → P none (upL (upL Λ q1 (.inl (cA1, 64, 102))) h (.inr (0, [some (some q1)]))) (zap σ q1))) : K_O_init l D Λ σ h P := by
  refine Ct.of (by decide) rfl (Nat.le_of_ble_eq_true rfl) (fun x hl hD hx => ?_)
  subst hl; subst hD
  obtain ⟨hex, hb, hml, hown, hts, hr, hlk, hR, hnm, hAs, hNW⟩ := hx
  refine ⟨(), fun hK hA ls H locs hl hP hS => ?_⟩
  have hl : lv_has ls 1 [(0, .ref h)] := hl
  refine lv_aload_n hex hb d_O_init_0 rfl (lv_at hl 0 rfl) ?_
  refine W.objInit hex hb hown (hts _ (List.mem_cons_of_mem _ bg_38)) (hts _ (List.mem_cons_of_mem _ bg_13)) (hts _ (List.mem_cons_of_mem _ bg_14)) rfl (by rw [hml]; exact hl.1) rfl d_O_init_1 (by rw [hR]; exact Nat.le_of_ble_eq_true rfl) (by rw [hR]; exact Nat.le_of_ble_eq_true rfl) ?_
  refine W.eq (g2 := F0 (xm x) 4 ls []) rfl ?_
  refine lv_aload_n hex hb d_O_init_4 rfl (lv_at hl 0 rfl) ?_
  refine lv_bipush (v := iI 64) hex hb d_O_init_5 rfl ?_
  refine r_anew hex hb hown (hts _ (List.mem_cons_of_mem _ bg_39)) (va_AO.use hNW.2.2.2) 102 (by decide) hK hP hA hS hAs (N := 64) rfl (by decide) (by rw [hR]; exact Nat.le_of_ble_eq_true rfl) (by rw [hR]; exact Nat.le_of_ble_eq_true rfl) d_O_init_7 (fun q1 cA1 H hq1 hP hK hA hS => ?_)
  refine W.widen (k := 1) (n := 64) (by omega) (by omega) ?_
  have T := T q1 cA1 hq1
  have hThis := upL_ne (y' := (.inl (cA1, 64, 102))) hThis hq1
  have hAq1 : (upL Λ q1 (.inl (cA1, 64, 102))) q1 = some (.inl (cA1, 64, 102)) := upL_at
  refine r_putRF (ci := 0) (C := R_O) (T := F_O) (N := 1) (b := q1) hex hb hts (fun w h => List.mem_cons_of_mem _ (in_O w h)) tq_O tq_O_ok n_O hown hK hP hA hS hThis rfl 0 (by decide) (hts _ (List.mem_cons_of_mem _ bg_40)) (fun _ h9 => h9) rfl hnm rfl (tq_O_ok 0 (by decide)) rfl rfl (Nat.le_of_ble_eq_true rfl) d_O_init_10 (fun H locs hP hK hA hS => ?_)
  have hP : Hd (xD x) CL (upL (upL Λ q1 (.inl (cA1, 64, 102))) h (.inr (0, [some (some q1)]))) (zap σ q1) H := hP
  have hK : KL (xD x) CL (upL (upL Λ q1 (.inl (cA1, 64, 102))) h (.inr (0, [some (some q1)]))) (xs x) := hK
  have hA : ∀ q y, (upL (upL Λ q1 (.inl (cA1, 64, 102))) h (.inr (0, [some (some q1)]))) q = some y → xA x q := hA
  have hThis : (upL (upL Λ q1 (.inl (cA1, 64, 102))) h (.inr (0, [some (some q1)]))) h = some (.inr (0, [some (some q1)])) := upL_at
  exact r_vret hex hb hr hlk hK hA hP hS T (by rw [hR]; exact Nat.le_of_ble_eq_true rfl) (by rw [hR]; exact Nat.le_of_ble_eq_true rfl) d_O_init_13
-- DirtyCardHeap.<init>()V
def rm_H_init : Room := { frames := 2, cells := 7, slots := 243, locals := 41 }
abbrev X_H_init (x : Cx) : Prop := CxOk x b_H_init 1 wl_H_init R_H none rm_H_init "<init>"
abbrev K_H_init (l : Launch) (D : va_G) (Λ : Lam) (σ : Mem) (h : Nat) (P : PostT) : Prop := Ct l D y_H_init wl_H_init rm_H_init [.ref h] Λ σ P
set_option maxHeartbeats 4000000 in
set_option maxRecDepth 100000 in
theorem w_H_init {l : Launch} {D : va_G} {Λ : Lam} {σ : Mem} {h : Nat} {P : PostT} (hThis : Λ h = some (.inr (3, [some none, some none, some none, some none, none, none, none, none]))) (T : (∀ q1 cA1, Λ q1 = none → (∀ q2, (upL (upL Λ q1 (.inl (cA1, 6, 100))) h (.inr (3, [some (some q1), some none, some none, some none, none, none, none, none]))) q2 = none → K_R_init l D (upL (upL (upL Λ q1 (.inl (cA1, 6, 100))) h (.inr (3, [some (some q1), some none, some none, some none, none, none, none, none]))) q2 (.inr (1, [some none, none]))) (zap (zap σ q1) q2) q2 20 (fun v Λa3 σa3 => v = none ∧ Λa3 h = some (.inr (3, [some (some q1), some none, some none, some none, none, none, none, none])) ∧ (∀ q4, (upL Λa3 h (.inr (3, [some (some q1), some (some q2), some none, some none, none, none, none, none]))) q4 = none → K_O_init l D (upL (upL Λa3 h (.inr (3, [some (some q1), some (some q2), some none, some none, none, none, none, none]))) q4 (.inr (0, [some none]))) (zap σa3 q4) q4 (fun v Λa5 σa5 => v = none ∧ Λa5 h = some (.inr (3, [some (some q1), some (some q2), some none, some none, none, none, none, none])) ∧ (∀ q6, (upL Λa5 h (.inr (3, [some (some q1), some (some q2), some (some q4), some none, none, none, none, none]))) q6 = none → K_R_init l D (upL (upL Λa5 h (.inr (3, [some (some q1), some (some q2), some (some q4), some none, none, none, none, none]))) q6 (.inr (1, [some none, none]))) (zap σa5 q6) q6 84 (fun v Λa7 σa7 => v = none ∧ Λa7 h = some (.inr (3, [some (some q1), some (some q2), some (some q4), some none, none, none, none, none])) ∧ P none (upL Λa7 h (.inr (3, [some (some q1), some (some q2), some (some q4), some (some q6), none, none, none, none]))) (upI (upI (upI (upI σa7 304 h 0) 305 h 0) 306 h 0) 307 h 0))))))))) : K_H_init l D Λ σ h P := by
  refine Ct.of (by decide) rfl (Nat.le_of_ble_eq_true rfl) (fun x hl hD hx => ?_)
  subst hl; subst hD
  obtain ⟨hex, hb, hml, hown, hts, hr, hlk, hR, hnm, hAs, hNW⟩ := hx
  refine ⟨(), fun hK hA ls H locs hl hP hS => ?_⟩
  have hl : lv_has ls 1 [(0, .ref h)] := hl
  refine lv_aload_n hex hb d_H_init_0 rfl (lv_at hl 0 rfl) ?_
  refine W.objInit hex hb hown (hts _ (List.mem_cons_of_mem _ bg_12)) (hts _ (List.mem_cons_of_mem _ bg_13)) (hts _ (List.mem_cons_of_mem _ bg_14)) rfl (by rw [hml]; exact hl.1) rfl d_H_init_1 (by rw [hR]; exact Nat.le_of_ble_eq_true rfl) (by rw [hR]; exact Nat.le_of_ble_eq_true rfl) ?_
  refine W.eq (g2 := F0 (xm x) 4 ls []) rfl ?_
  refine lv_aload_n hex hb d_H_init_4 rfl (lv_at hl 0 rfl) ?_
  refine lv_bipush (v := iI 6) hex hb d_H_init_5 rfl ?_
  refine r_anew hex hb hown (hts _ (List.mem_cons_of_mem _ bg_15)) (va_AO.use hNW.2.2.2) 100 (by decide) hK hP hA hS hAs (N := 6) rfl (by decide) (by rw [hR]; exact Nat.le_of_ble_eq_true rfl) (by rw [hR]; exact Nat.le_of_ble_eq_true rfl) d_H_init_7 (fun q1 cA1 H hq1 hP hK hA hS => ?_)
  refine W.widen (k := 1) (n := 6) (by omega) (by omega) ?_
  have T := T q1 cA1 hq1
  have hThis := upL_ne (y' := (.inl (cA1, 6, 100))) hThis hq1
  have hAq1 : (upL Λ q1 (.inl (cA1, 6, 100))) q1 = some (.inl (cA1, 6, 100)) := upL_at
  refine r_putRF (ci := 3) (C := R_H) (T := F_H) (N := 8) (b := q1) hex hb hts (fun w h => List.mem_cons_of_mem _ (in_H w h)) tq_H tq_H_ok n_H hown hK hP hA hS hThis rfl 0 (by decide) (hts _ (List.mem_cons_of_mem _ bg_45)) (fun _ h9 => h9) rfl hnm rfl (tq_H_ok 0 (by decide)) rfl rfl (Nat.le_of_ble_eq_true rfl) d_H_init_10 (fun H locs hP hK hA hS => ?_)
  have hP : Hd (xD x) CL (upL (upL Λ q1 (.inl (cA1, 6, 100))) h (.inr (3, [some (some q1), some none, some none, some none, none, none, none, none]))) (zap σ q1) H := hP
  have hK : KL (xD x) CL (upL (upL Λ q1 (.inl (cA1, 6, 100))) h (.inr (3, [some (some q1), some none, some none, some none, none, none, none, none]))) (xs x) := hK
  have hA : ∀ q y, (upL (upL Λ q1 (.inl (cA1, 6, 100))) h (.inr (3, [some (some q1), some none, some none, some none, none, none, none, none]))) q = some y → xA x q := hA
  have hThis : (upL (upL Λ q1 (.inl (cA1, 6, 100))) h (.inr (3, [some (some q1), some none, some none, some none, none, none, none, none]))) h = some (.inr (3, [some (some q1), some none, some none, some none, none, none, none, none])) := upL_at
  refine lv_aload_n hex hb d_H_init_13 rfl (lv_at hl 0 rfl) ?_
  refine r_new (ci := 1) (C := R_R) (T := F_R) (N := 2) (tm := [some none, none]) hex hb hts (fun w h => List.mem_cons_of_mem _ (in_R w h)) tq_R tq_R_ok hown (hts _ (List.mem_cons_of_mem _ bg_17)) (hts _ (List.mem_cons_of_mem _ bg_18)) (hts _ (List.mem_cons_of_mem _ bg_2)) hK hP hA hS hAs rfl (r_born (fun j hj => by have : j < 2 := hj; rcases (show j = 0 ∨ j = 1 by omega) with rfl | rfl <;> first | exact Or.inl ⟨rfl, rfl⟩ | exact Or.inr ⟨rfl, rfl⟩)) (by rw [hR]; exact Nat.le_of_ble_eq_true rfl) (by rw [hR]; exact Nat.le_of_ble_eq_true rfl) d_H_init_14 (fun q2 H hq2 hP hK hA hS => ?_)
  refine W.widen (k := 2) (n := 8) (by omega) (by omega) ?_
  have T := T q2 hq2
  have hThis := upL_ne (y' := (.inr (1, [some none, none]))) hThis hq2
  refine lv_dup hex hb d_H_init_17 rfl ?_
  refine lv_bipush (v := iI 20) hex hb d_H_init_18 rfl ?_
  refine r_call (va_runI (As := [.int (iI 20)]) (rest := [.ref q2, .ref h]) ⟨hex, hb, hml, hown, hts⟩ (Ct.use T H.size) (cwI 1 hts (gdI bc_R_init) rfl rfl rfl (hts _ (List.mem_cons_of_mem _ bg_2)) (hts _ (List.mem_cons_of_mem _ bg_19)) (hts _ (List.mem_cons_of_mem _ bg_20)) rfl hdV_R_init.2 ⟨by rw [hR]; exact Nat.le_of_ble_eq_true rfl, by rw [hR]; exact Nat.le_of_ble_eq_true rfl⟩) (px_preS hNW hK hP) rfl rfl hl.1 rfl (lv_room (Nat.le_of_ble_eq_true rfl)) d_H_init_20 ⟨by rw [hR]; exact Nat.le_of_ble_eq_true rfl, by rw [hR]; exact Nat.le_of_ble_eq_true rfl⟩) hS hA hAs (fun v Λ1 σ1 H locs hp hP hK hA hS => ?_)
  obtain ⟨rfl, T⟩ := hp
  generalize Λ1 = Λa3 at hP hK hA T
  generalize σ1 = σa3 at hP T
  refine W.widen (k := 3) (n := 92) (by exact Nat.le_of_ble_eq_true rfl) (by exact Nat.le_of_ble_eq_true rfl) ?_
  refine W.eq (g2 := F0 (xm x) 23 ls [.ref q2, .ref h]) rfl ?_
  obtain ⟨hThis, T⟩ := T
  refine r_putRF (ci := 3) (C := R_H) (T := F_H) (N := 8) (b := q2) hex hb hts (fun w h => List.mem_cons_of_mem _ (in_H w h)) tq_H tq_H_ok n_H hown hK hP hA hS hThis rfl 1 (by decide) (hts _ (List.mem_cons_of_mem _ bg_46)) (fun _ h9 => h9) rfl hnm rfl (tq_H_ok 1 (by decide)) rfl rfl (Nat.le_of_ble_eq_true rfl) d_H_init_23 (fun H locs hP hK hA hS => ?_)
  have hP : Hd (xD x) CL (upL Λa3 h (.inr (3, [some (some q1), some (some q2), some none, some none, none, none, none, none]))) σa3 H := hP
  have hK : KL (xD x) CL (upL Λa3 h (.inr (3, [some (some q1), some (some q2), some none, some none, none, none, none, none]))) (xs x) := hK
  have hA : ∀ q y, (upL Λa3 h (.inr (3, [some (some q1), some (some q2), some none, some none, none, none, none, none]))) q = some y → xA x q := hA
  have hThis : (upL Λa3 h (.inr (3, [some (some q1), some (some q2), some none, some none, none, none, none, none]))) h = some (.inr (3, [some (some q1), some (some q2), some none, some none, none, none, none, none])) := upL_at
  refine lv_aload_n hex hb d_H_init_26 rfl (lv_at hl 0 rfl) ?_
  refine r_new (ci := 0) (C := R_O) (T := F_O) (N := 1) (tm := [some none]) hex hb hts (fun w h => List.mem_cons_of_mem _ (in_O w h)) tq_O tq_O_ok hown (hts _ (List.mem_cons_of_mem _ bg_33)) (hts _ (List.mem_cons_of_mem _ bg_34)) (hts _ (List.mem_cons_of_mem _ bg_3)) hK hP hA hS hAs rfl (r_born (fun j hj => by have : j < 1 := hj; rcases (show j = 0 by omega) with rfl <;> first | exact Or.inl ⟨rfl, rfl⟩ | exact Or.inr ⟨rfl, rfl⟩)) (by rw [hR]; exact Nat.le_of_ble_eq_true rfl) (by rw [hR]; exact Nat.le_of_ble_eq_true rfl) d_H_init_27 (fun q4 H hq4 hP hK hA hS => ?_)
  refine W.widen (k := 4) (n := 93) (by omega) (by omega) ?_
  have T := T q4 hq4
  have hThis := upL_ne (y' := (.inr (0, [some none]))) hThis hq4
  refine lv_dup hex hb d_H_init_30 rfl ?_
  refine r_call (va_runIN (As := []) (rest := [.ref q4, .ref h]) ⟨hex, hb, hml, hown, hts⟩ (Ct.use T H.size) ⟨va_cnB 0 hts (gdI bc_O_init) rfl rfl rfl hNW.1 (hts _ (List.mem_cons_of_mem _ bg_3)) hdV_O_init.2 ⟨by rw [hR]; exact Nat.le_of_ble_eq_true rfl, by rw [hR]; exact Nat.le_of_ble_eq_true rfl⟩, rfl, (hts _ (List.mem_cons_of_mem _ bg_36))⟩ (px_preS hNW hK hP) rfl rfl hl.1 rfl (lv_room (Nat.le_of_ble_eq_true rfl)) d_H_init_31 ⟨by rw [hR]; exact Nat.le_of_ble_eq_true rfl, by rw [hR]; exact Nat.le_of_ble_eq_true rfl⟩) hS hA hAs (fun v Λ1 σ1 H locs hp hP hK hA hS => ?_)
  obtain ⟨rfl, T⟩ := hp
  generalize Λ1 = Λa5 at hP hK hA T
  generalize σ1 = σa5 at hP T
  refine W.widen (k := 5) (n := 157) (by exact Nat.le_of_ble_eq_true rfl) (by exact Nat.le_of_ble_eq_true rfl) ?_
  refine W.eq (g2 := F0 (xm x) 34 ls [.ref q4, .ref h]) rfl ?_
  obtain ⟨hThis, T⟩ := T
  refine r_putRF (ci := 3) (C := R_H) (T := F_H) (N := 8) (b := q4) hex hb hts (fun w h => List.mem_cons_of_mem _ (in_H w h)) tq_H tq_H_ok n_H hown hK hP hA hS hThis rfl 2 (by decide) (hts _ (List.mem_cons_of_mem _ bg_47)) (fun _ h9 => h9) rfl hnm rfl (tq_H_ok 2 (by decide)) rfl rfl (Nat.le_of_ble_eq_true rfl) d_H_init_34 (fun H locs hP hK hA hS => ?_)
  have hP : Hd (xD x) CL (upL Λa5 h (.inr (3, [some (some q1), some (some q2), some (some q4), some none, none, none, none, none]))) σa5 H := hP
  have hK : KL (xD x) CL (upL Λa5 h (.inr (3, [some (some q1), some (some q2), some (some q4), some none, none, none, none, none]))) (xs x) := hK
  have hA : ∀ q y, (upL Λa5 h (.inr (3, [some (some q1), some (some q2), some (some q4), some none, none, none, none, none]))) q = some y → xA x q := hA
  have hThis : (upL Λa5 h (.inr (3, [some (some q1), some (some q2), some (some q4), some none, none, none, none, none]))) h = some (.inr (3, [some (some q1), some (some q2), some (some q4), some none, none, none, none, none])) := upL_at
  refine lv_aload_n hex hb d_H_init_37 rfl (lv_at hl 0 rfl) ?_
  refine r_new (ci := 1) (C := R_R) (T := F_R) (N := 2) (tm := [some none, none]) hex hb hts (fun w h => List.mem_cons_of_mem _ (in_R w h)) tq_R tq_R_ok hown (hts _ (List.mem_cons_of_mem _ bg_17)) (hts _ (List.mem_cons_of_mem _ bg_18)) (hts _ (List.mem_cons_of_mem _ bg_2)) hK hP hA hS hAs rfl (r_born (fun j hj => by have : j < 2 := hj; rcases (show j = 0 ∨ j = 1 by omega) with rfl | rfl <;> first | exact Or.inl ⟨rfl, rfl⟩ | exact Or.inr ⟨rfl, rfl⟩)) (by rw [hR]; exact Nat.le_of_ble_eq_true rfl) (by rw [hR]; exact Nat.le_of_ble_eq_true rfl) d_H_init_38 (fun q6 H hq6 hP hK hA hS => ?_)
  refine W.widen (k := 6) (n := 159) (by omega) (by omega) ?_
  have T := T q6 hq6
  have hThis := upL_ne (y' := (.inr (1, [some none, none]))) hThis hq6
  refine lv_dup hex hb d_H_init_41 rfl ?_
  refine lv_bipush (v := iI 84) hex hb d_H_init_42 rfl ?_
  refine r_call (va_runI (As := [.int (iI 84)]) (rest := [.ref q6, .ref h]) ⟨hex, hb, hml, hown, hts⟩ (Ct.use T H.size) (cwI 1 hts (gdI bc_R_init) rfl rfl rfl (hts _ (List.mem_cons_of_mem _ bg_2)) (hts _ (List.mem_cons_of_mem _ bg_19)) (hts _ (List.mem_cons_of_mem _ bg_20)) rfl hdV_R_init.2 ⟨by rw [hR]; exact Nat.le_of_ble_eq_true rfl, by rw [hR]; exact Nat.le_of_ble_eq_true rfl⟩) (px_preS hNW hK hP) rfl rfl hl.1 rfl (lv_room (Nat.le_of_ble_eq_true rfl)) d_H_init_44 ⟨by rw [hR]; exact Nat.le_of_ble_eq_true rfl, by rw [hR]; exact Nat.le_of_ble_eq_true rfl⟩) hS hA hAs (fun v Λ1 σ1 H locs hp hP hK hA hS => ?_)
  obtain ⟨rfl, T⟩ := hp
  generalize Λ1 = Λa7 at hP hK hA T
  generalize σ1 = σa7 at hP T
  refine W.widen (k := 7) (n := 243) (by exact Nat.le_of_ble_eq_true rfl) (by exact Nat.le_of_ble_eq_true rfl) ?_
  refine W.eq (g2 := F0 (xm x) 47 ls [.ref q6, .ref h]) rfl ?_
  obtain ⟨hThis, T⟩ := T
  refine r_putRF (ci := 3) (C := R_H) (T := F_H) (N := 8) (b := q6) hex hb hts (fun w h => List.mem_cons_of_mem _ (in_H w h)) tq_H tq_H_ok n_H hown hK hP hA hS hThis rfl 3 (by decide) (hts _ (List.mem_cons_of_mem _ bg_48)) (fun _ h9 => h9) rfl hnm rfl (tq_H_ok 3 (by decide)) rfl rfl (Nat.le_of_ble_eq_true rfl) d_H_init_47 (fun H locs hP hK hA hS => ?_)
  have hP : Hd (xD x) CL (upL Λa7 h (.inr (3, [some (some q1), some (some q2), some (some q4), some (some q6), none, none, none, none]))) σa7 H := hP
  have hK : KL (xD x) CL (upL Λa7 h (.inr (3, [some (some q1), some (some q2), some (some q4), some (some q6), none, none, none, none]))) (xs x) := hK
  have hA : ∀ q y, (upL Λa7 h (.inr (3, [some (some q1), some (some q2), some (some q4), some (some q6), none, none, none, none]))) q = some y → xA x q := hA
  have hThis : (upL Λa7 h (.inr (3, [some (some q1), some (some q2), some (some q4), some (some q6), none, none, none, none]))) h = some (.inr (3, [some (some q1), some (some q2), some (some q4), some (some q6), none, none, none, none])) := upL_at
  refine lv_aload_n hex hb d_H_init_50 rfl (lv_at hl 0 rfl) ?_
  refine lv_iconst (v := iI 0) hex hb d_H_init_51 rfl ?_
  refine r_putI (ci := 3) (C := R_H) (T := F_H) (N := 8) (v := 0) (ty := .int) hex hb hts (fun w h => List.mem_cons_of_mem _ (in_H w h)) tq_H tq_H_ok n_H hown hK hP hA hS hThis rfl 4 (by decide) (hts _ (List.mem_cons_of_mem _ bg_49)) (fun _ h9 => h9) rfl (by decide +kernel) rfl rfl rfl d_H_init_52 (fun H locs hP hS => ?_)
  refine lv_aload_n hex hb d_H_init_55 rfl (lv_at hl 0 rfl) ?_
  refine lv_iconst (v := iI 0) hex hb d_H_init_56 rfl ?_
  refine r_putI (ci := 3) (C := R_H) (T := F_H) (N := 8) (v := 0) (ty := .int) hex hb hts (fun w h => List.mem_cons_of_mem _ (in_H w h)) tq_H tq_H_ok n_H hown hK hP hA hS hThis rfl 5 (by decide) (hts _ (List.mem_cons_of_mem _ bg_50)) (fun _ h9 => h9) rfl (by decide +kernel) rfl rfl rfl d_H_init_57 (fun H locs hP hS => ?_)
  refine lv_aload_n hex hb d_H_init_60 rfl (lv_at hl 0 rfl) ?_
  refine lv_iconst (v := iI 0) hex hb d_H_init_61 rfl ?_
  refine r_putI (ci := 3) (C := R_H) (T := F_H) (N := 8) (v := 0) (ty := .int) hex hb hts (fun w h => List.mem_cons_of_mem _ (in_H w h)) tq_H tq_H_ok n_H hown hK hP hA hS hThis rfl 6 (by decide) (hts _ (List.mem_cons_of_mem _ bg_51)) (fun _ h9 => h9) rfl (by decide +kernel) rfl rfl rfl d_H_init_62 (fun H locs hP hS => ?_)
  refine lv_aload_n hex hb d_H_init_65 rfl (lv_at hl 0 rfl) ?_
  refine lv_iconst (v := iI 0) hex hb d_H_init_66 rfl ?_
  refine r_putI (ci := 3) (C := R_H) (T := F_H) (N := 8) (v := 0) (ty := .int) hex hb hts (fun w h => List.mem_cons_of_mem _ (in_H w h)) tq_H tq_H_ok n_H hown hK hP hA hS hThis rfl 7 (by decide) (hts _ (List.mem_cons_of_mem _ bg_52)) (fun _ h9 => h9) rfl (by decide +kernel) rfl rfl rfl d_H_init_67 (fun H locs hP hS => ?_)
  exact r_vret hex hb hr hlk hK hA hP hS T (by rw [hR]; exact Nat.le_of_ble_eq_true rfl) (by rw [hR]; exact Nat.le_of_ble_eq_true rfl) d_H_init_70
