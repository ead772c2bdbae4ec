/-! The law's loop, and its start. -/
theorem law_head {p : Program} {l : Launch} {e : Env} {s : State} {m : MethodId} {below : List Frame} {meth : Method} {c0 : Code} {b L : Nat} {xs : Nat → Int32} {D : va_G} {c r : Nat → Nat} (hF : LF p s m c0 b L xs) (hr : meth.sig.returnType = ret) (hlk : meth.locks = false) : ∀ n k : Nat, k + n = 513 → ∀ (ΛC : Lam) (σ : Mem) (ΛR : Lam) (ρ : Mem) (H : Heap) (locs : List Loc) (ls : Array Slot), WD D s ΛC σ ΛR ρ H locs → JV ΛC c σ ΛR r ρ → lv_has ls 4 [(3, .int (iI (4 * k : Nat))), (2, .ref (r 0)), (1, .ref (c 0)), (0, .ref b)] → W p l e room_1 s m #[Value.ref b] below meth c0 H locs (100 + 2 * k) (2000 + 10 * k) (lw_Z below #[Value.ref b] s) (F0 m 18 ls []) := by
  have hF0 := hF
  obtain ⟨hex, hb, hml, hown, hts, hX, hbl, hNW, hLL⟩ := hF
  have hbA : ¬ s.heap.size ≤ b := Nat.not_le.mpr hbl
  intro n
  induction n with
  | zero =>
    intro k hk ΛC σ ΛR ρ H locs ls w jv hl
    have hS := w.2.2.2.2.2.2.1
    refine lv_iload_n hex hb d_L_18 rfl (lv_at hl 0 rfl) ?_
    refine lv_aload_n hex hb d_L_19 rfl (lv_at hl 3 rfl) ?_
    refine va_slen hex hb hX hbl hbA hS d_L_20 ?_
    rw [iI_nat]
    refine lv_iconst (v := iI 4) hex hb d_L_21 rfl ?_
    refine r_isub hex hb d_L_22 ?_
    refine r_icmp_gt (tgt := 590) hex hb ⟨by omega, by omega⟩ ⟨by omega, by omega⟩ d_L_23 rfl (fun _ => ?_) (fun h => absurd (by omega) h)
    refine lv_iconst (v := 1) hex hb d_L_590 rfl ?_
    refine va_forget (fun q hq => hS.2.2 q hq) ?_
    refine W.widen (k := 600000) (n := 7302250) (by omega) (by omega) ?_
    exact lw_ret hex hb hr hlk d_L_591
  | succ n ih =>
    intro k hk ΛC σ ΛR ρ H locs ls w jv hl
    have hS := w.2.2.2.2.2.2.1
    refine lv_iload_n hex hb d_L_18 rfl (lv_at hl 0 rfl) ?_
    refine lv_aload_n hex hb d_L_19 rfl (lv_at hl 3 rfl) ?_
    refine va_slen hex hb hX hbl hbA hS d_L_20 ?_
    rw [iI_nat]
    refine lv_iconst (v := iI 4) hex hb d_L_21 rfl ?_
    refine r_isub hex hb d_L_22 ?_
    refine r_icmp_gt (tgt := 590) hex hb ⟨by omega, by omega⟩ ⟨by omega, by omega⟩ d_L_23 rfl (fun _ => ?_) (fun h => ?_)
    · refine lv_iconst (v := 1) hex hb d_L_590 rfl ?_
      refine va_forget (fun q hq => hS.2.2 q hq) ?_
      refine W.widen (k := 600000) (n := 7302250) (by omega) (by omega) ?_
      exact lw_ret hex hb hr hlk d_L_591
    · have hi : 4 * k + 4 ≤ L := by omega
      have go : ∀ (ΛC : Lam) (σ : Mem) (ΛR : Lam) (ρ : Mem) (H : Heap) (locs : List Loc), WD D s ΛC σ ΛR ρ H locs → JV ΛC c σ ΛR r ρ → W p l e room_1 s m #[Value.ref b] below meth c0 H locs (100 + 2 * k + 2) (2000 + 10 * k + 10) (lw_Z below #[Value.ref b] s) (F0 m 584 ls []) := by
        intro ΛC σ ΛR ρ H locs w jv
        refine lv_iinc (k := 0) (lv' := [(3, .int (iI (4 * (k + 1) : Nat))), (2, .ref (r 0)), (1, .ref (c 0)), (0, .ref b)]) (v := iI (4 * (k + 1) : Nat)) hex hb d_L_584 hl rfl ?_ (by decide) rfl (fun ls2 hl2 => ?_)
        · show iI (4 * k : Nat) + iI 4 = _
          rw [iI_add]
          exact congrArg iI (by omega)
        · refine lv_goto (tgt := 18) hex hb d_L_587 rfl ?_
          exact ih (k + 1) (by omega) ΛC σ ΛR ρ H locs ls2 w jv hl2
      refine law_l0 hF0 hS hl d_L_26 d_L_27 d_L_28 (by omega) ?_
      refine lv_bipush (v := iI 31) hex hb d_L_29 rfl ?_
      refine r_iand hex hb d_L_31 ?_
      generalize hv : iAnd (xs (4 * k)).toInt 31 = v
      have ev : (iI v).toInt = v := iI_toInt (by rw [← hv]; exact rng_and _ _)
      by_cases hin : v < 0 ∨ 19 < v
      · refine lv_tableOut (tgt := 584) hex hb d_L_32 (by rw [ev]; exact hin) rfl ?_
        exact W.widen (by omega) (by omega) (go _ _ _ _ _ _ w jv)
      · rcases (show v = 0 ∨ v = 1 ∨ v = 2 ∨ v = 3 ∨ v = 4 ∨ v = 5 ∨ v = 6 ∨ v = 7 ∨ v = 8 ∨ v = 9 ∨ v = 10 ∨ v = 11 ∨ v = 12 ∨ v = 13 ∨ v = 14 ∨ v = 15 ∨ v = 16 ∨ v = 17 ∨ v = 18 ∨ v = 19 by omega) with hw | hw | hw | hw | hw | hw | hw | hw | hw | hw | hw | hw | hw | hw | hw | hw | hw | hw | hw | hw
        · refine lv_tableIn (off := 96) (tgt := 128) hex hb d_L_32 (by rw [ev]; omega) (by rw [ev]; omega) (by rw [ev, hw]; rfl) rfl ?_
          exact law_create hF0 w jv hl hi (by omega) (by omega) go
        · refine lv_tableIn (off := 139) (tgt := 171) hex hb d_L_32 (by rw [ev]; omega) (by rw [ev]; omega) (by rw [ev, hw]; rfl) rfl ?_
          exact law_clear hF0 w jv hl hi (by omega) (by omega) go
        · refine lv_tableIn (off := 162) (tgt := 194) hex hb d_L_32 (by rw [ev]; omega) (by rw [ev]; omega) (by rw [ev, hw]; rfl) rfl ?_
          exact law_copy hF0 w jv hl hi (by omega) (by omega) go
        · refine lv_tableIn (off := 195) (tgt := 227) hex hb d_L_32 (by rw [ev]; omega) (by rw [ev]; omega) (by rw [ev, hw]; rfl) rfl ?_
          exact law_load hF0 w jv hl hi (by omega) (by omega) go
        · refine lv_tableIn (off := 238) (tgt := 270) hex hb d_L_32 (by rw [ev]; omega) (by rw [ev]; omega) (by rw [ev, hw]; rfl) rfl ?_
          exact law_store hF0 w jv hl hi (by omega) (by omega) go
        · refine lv_tableIn (off := 281) (tgt := 313) hex hb d_L_32 (by rw [ev]; omega) (by rw [ev]; omega) (by rw [ev, hw]; rfl) rfl ?_
          exact law_payload hF0 w jv hl hi (by omega) (by omega) go
        · refine lv_tableIn (off := 304) (tgt := 336) hex hb d_L_32 (by rw [ev]; omega) (by rw [ev]; omega) (by rw [ev, hw]; rfl) rfl ?_
          exact law_same hF0 w jv hl hi (by omega) (by omega) go
        · refine lv_tableIn (off := 337) (tgt := 369) hex hb d_L_32 (by rw [ev]; omega) (by rw [ev]; omega) (by rw [ev, hw]; rfl) rfl ?_
          exact law_address hF0 w jv hl hi (by omega) (by omega) go
        · refine lv_tableIn (off := 360) (tgt := 392) hex hb d_L_32 (by rw [ev]; omega) (by rw [ev]; omega) (by rw [ev, hw]; rfl) rfl ?_
          exact law_age hF0 w jv hl hi (by omega) (by omega) go
        · refine lv_tableIn (off := 383) (tgt := 415) hex hb d_L_32 (by rw [ev]; omega) (by rw [ev]; omega) (by rw [ev, hw]; rfl) rfl ?_
          exact law_collect hF0 w jv hl hi (by omega) (by omega) go
        · refine lv_tableIn (off := 422) (tgt := 454) hex hb d_L_32 (by rw [ev]; omega) (by rw [ev]; omega) (by rw [ev, hw]; rfl) rfl ?_
          exact law_begin hF0 w jv hl hi (by omega) (by omega) go
        · refine lv_tableIn (off := 435) (tgt := 467) hex hb d_L_32 (by rw [ev]; omega) (by rw [ev]; omega) (by rw [ev, hw]; rfl) rfl ?_
          exact law_mark hF0 w jv hl hi (by omega) (by omega) go
        · refine lv_tableIn (off := 448) (tgt := 480) hex hb d_L_32 (by rw [ev]; omega) (by rw [ev]; omega) (by rw [ev, hw]; rfl) rfl ?_
          exact law_preclean hF0 w jv hl hi (by omega) (by omega) go
        · refine lv_tableIn (off := 461) (tgt := 493) hex hb d_L_32 (by rw [ev]; omega) (by rw [ev]; omega) (by rw [ev, hw]; rfl) rfl ?_
          exact law_remark hF0 w jv hl hi (by omega) (by omega) go
        · refine lv_tableIn (off := 474) (tgt := 506) hex hb d_L_32 (by rw [ev]; omega) (by rw [ev]; omega) (by rw [ev, hw]; rfl) rfl ?_
          exact law_sweep hF0 w jv hl hi (by omega) (by omega) go
        · refine lv_tableIn (off := 487) (tgt := 519) hex hb d_L_32 (by rw [ev]; omega) (by rw [ev]; omega) (by rw [ev, hw]; rfl) rfl ?_
          exact law_phase hF0 w jv hl hi (by omega) (by omega) go
        · refine lv_tableIn (off := 500) (tgt := 532) hex hb d_L_32 (by rw [ev]; omega) (by rw [ev]; omega) (by rw [ev, hw]; rfl) rfl ?_
          exact law_oldCells hF0 w jv hl hi (by omega) (by omega) go
        · refine lv_tableIn (off := 513) (tgt := 545) hex hb d_L_32 (by rw [ev]; omega) (by rw [ev]; omega) (by rw [ev, hw]; rfl) rfl ?_
          exact law_youngCells hF0 w jv hl hi (by omega) (by omega) go
        · refine lv_tableIn (off := 526) (tgt := 558) hex hb d_L_32 (by rw [ev]; omega) (by rw [ev]; omega) (by rw [ev, hw]; rfl) rfl ?_
          exact law_cards hF0 w jv hl hi (by omega) (by omega) go
        · refine lv_tableIn (off := 539) (tgt := 571) hex hb d_L_32 (by rw [ev]; omega) (by rw [ev]; omega) (by rw [ev, hw]; rfl) rfl ?_
          exact law_marked hF0 w jv hl hi (by omega) (by omega) go
def ZM : Mem := (fun _ _ => 0, fun _ _ _ => 0, fun _ _ _ => none)
theorem ZM_ZA : ZA ZM := ⟨fun _ _ => rfl, fun _ _ _ => rfl⟩
theorem ZM_Z0 : Z0 ZM := ⟨fun _ _ => rfl, fun _ _ _ => rfl⟩
theorem bg_tbl {w : Cond} (h : w ∈ BG) : w ∈ lw_tbl := (List.mem_filter.mp h).1
theorem tb_tbl {w : Cond} (h : w ∈ tables_1) : w ∈ lw_tbl := List.mem_append_right _ h
theorem NW.start {s : State} {b : Nat} (hts : ∀ w ∈ lw_tbl, w.before #[Value.ref b] s = true) : NW s := ⟨va_Nw.of rfl (hts _ (tb_tbl (List.mem_of_getElem? (i := 35) (by decide +kernel)))), va_Nw.of rfl (hts _ (tb_tbl (List.mem_of_getElem? (i := 137) (by decide +kernel)))), va_Nw.of rfl (hts _ (tb_tbl (List.mem_of_getElem? (i := 188) (by decide +kernel)))), va_AO.of (hts _ (tb_tbl (List.mem_of_getElem? (i := 16) (by decide +kernel))))⟩
theorem KL.start {s : State} {b : Nat} (hts : ∀ w ∈ lw_tbl, w.before #[Value.ref b] s = true) : ∃ D : va_G, KL D CL (fun _ => none) s := by
  obtain ⟨c0, i0, k0⟩ := u_known (C := R_O) (T := F_O) (N := 1) hts (fun w h => bg_tbl (in_O w h)) (hts _ (bg_tbl bg_34))
  obtain ⟨c1, i1, k1⟩ := u_known (C := R_R) (T := F_R) (N := 2) hts (fun w h => bg_tbl (in_R w h)) (hts _ (bg_tbl bg_18))
  obtain ⟨c2, i2, k2⟩ := u_known (C := R_T) (T := F_T) (N := 7) hts (fun w h => bg_tbl (in_T w h)) (hts _ (bg_tbl bg_223))
  obtain ⟨c3, i3, k3⟩ := u_known (C := R_H) (T := F_H) (N := 8) hts (fun w h => bg_tbl (in_H w h)) (hts _ (bg_tbl bg_8))
  obtain ⟨c4, i4, k4⟩ := u_known (C := R_M) (T := F_M) (N := 22) hts (fun w h => bg_tbl (in_M w h)) (hts _ (bg_tbl bg_386))
  refine ⟨(fun k => match k with
    | 0 => c0
    | 1 => c1
    | 2 => c2
    | 3 => c3
    | _ => c4, fun k => match k with
    | 0 => i0
    | 1 => i1
    | 2 => i2
    | 3 => i3
    | _ => i4), ⟨fun k q hq => ?_, fun k q hq => (by cases hq)⟩, fun q cA n kd h => (by cases h)⟩
  have hz : k < 5 := (List.getElem?_eq_some_iff.mp hq).1
  rcases (show k = 0 ∨ k = 1 ∨ k = 2 ∨ k = 3 ∨ k = 4 by omega) with rfl | rfl | rfl | rfl | rfl
  · obtain rfl := Option.some.inj (show some ((R_O, F_O, 1) : vw_C) = some q from hq)
    exact k0
  · obtain rfl := Option.some.inj (show some ((R_R, F_R, 2) : vw_C) = some q from hq)
    exact k1
  · obtain rfl := Option.some.inj (show some ((R_T, F_T, 7) : vw_C) = some q from hq)
    exact k2
  · obtain rfl := Option.some.inj (show some ((R_H, F_H, 8) : vw_C) = some q from hq)
    exact k3
  · obtain rfl := Option.some.inj (show some ((R_M, F_M, 22) : vw_C) = some q from hq)
    exact k4
theorem whole_start {p : Program} {e : Env} {s : State} {m : MethodId} {below : List Frame} {meth : Method} {c : Code} (l : Launch) {b L : Nat} {xs : Nat → Int32} (hL : L ≤ 2048) (C0 : lw_At p s m meth c b L xs) : W p l e room_1 s m #[Value.ref b] below meth c s.heap [] 0 0 (lw_Z below #[Value.ref b] s) (entryFrame m ([Value.ref b] : List Value).toArray 4) := by
  obtain ⟨hex, hb, hr, hml, hown, htl, hX, hbl, hlk, -⟩ := C0
  have hNW := NW.start htl
  obtain ⟨D, hK⟩ := KL.start htl
  have hts : ∀ w ∈ wl_H_create, w.before #[Value.ref b] s = true := by
    intro w hw
    rcases List.mem_cons.mp hw with h | h
    · rw [h]; exact htl _ (bg_tbl bc_H_create)
    · exact htl _ (bg_tbl h)
  have hF : LF p s m c b L xs := ⟨hex, hb, hml, hown, hts, hX, hbl, hNW, hL⟩
  have hl := lv_entry [Value.ref b] (n := 4) (Nat.le_of_ble_eq_true rfl)
  rw [lg_entry_eq]
  generalize (lg_sl [Value.ref b] ++ List.replicate (4 - (lg_sl [Value.ref b]).length) Slot.unset).toArray = ls at hl ⊢
  have hl : lv_has ls 4 [(0, .ref b)] := hl
  have hS : va_S (fun q => s.heap.size ≤ q) s.heap s.heap [] := va_S.rf
  have hP : Hd D CL (fun _ => none) ZM s.heap := fun q y h => (by cases h)
  have hA : ∀ (q : Nat) (y : Lay), (fun _ => none : Lam) q = some y → s.heap.size ≤ q := fun q y h => (by cases h)
  have hAs : ∀ q : Nat, s.heap.size ≤ q → s.heap.size ≤ q := fun _ h => h
  refine r_new (ci := 3) (C := R_H) (T := F_H) (N := 8) (tm := [some none, some none, some none, some none, none, none, none, none]) hex hb hts (fun w h => List.mem_cons_of_mem _ (in_H w h)) tq_H tq_H_ok hown (hts _ (List.mem_cons_of_mem _ bg_7)) (hts _ (List.mem_cons_of_mem _ bg_8)) (hts _ (List.mem_cons_of_mem _ bg_1)) hK hP hA hS hAs rfl (r_born (fun j hj => by have : j < 8 := hj; rcases (show j = 0 ∨ j = 1 ∨ j = 2 ∨ j = 3 ∨ j = 4 ∨ j = 5 ∨ j = 6 ∨ j = 7 by omega) with rfl | rfl | rfl | rfl | rfl | rfl | rfl | rfl <;> first | exact Or.inl ⟨rfl, rfl⟩ | exact Or.inr ⟨rfl, rfl⟩)) (Nat.le_of_ble_eq_true rfl) (Nat.le_of_ble_eq_true rfl) d_L_0 (fun q H hq hP hK hA hS => ?_)
  refine W.widen (k := 1) (n := 8) (by omega) (by omega) ?_
  refine lv_dup hex hb d_L_3 rfl ?_
  have nt : NT (upL (fun _ => none) q (.inr (3, [some none, some none, some none, some none, none, none, none, none]))) := NT.up (fun t tm h => (by cases h)) (fun tm h => by cases h)
  have T := c_H_init (l := l) (D := D) (P := fun v Λ1 s1 => v = none ∧ ∃ c, c 0 = q ∧ GD Λ1 c s1 ∧ FI Λ1 ∧ FJ Λ1 ∧ NT Λ1 ∧ Z0 s1) (upL_at (Λ := fun _ => none) (q := q) (y := .inr (3, [some none, some none, some none, some none, none, none, none, none]))) nt (ZM_Z0.zap q) (fun c Λ1 s1 e1 e2 e3 e4 e5 e6 => ⟨rfl, c, e1, e2, e3, e4, e5, e6⟩)
  refine r_call (va_runI (As := []) (rest := [.ref q]) ⟨hex, hb, hml, hown, hts⟩ (Ct.use T H.size) (cwI 0 hts (gdI bc_H_init) rfl rfl rfl (hts _ (List.mem_cons_of_mem _ bg_1)) (hts _ (List.mem_cons_of_mem _ bg_9)) (hts _ (List.mem_cons_of_mem _ bg_10)) rfl hdV_H_init.2 ⟨Nat.le_of_ble_eq_true rfl, Nat.le_of_ble_eq_true rfl⟩) (px_preS hNW hK hP) rfl rfl hl.1 rfl (lv_room (Nat.le_of_ble_eq_true rfl)) d_L_4 ⟨Nat.le_of_ble_eq_true rfl, Nat.le_of_ble_eq_true rfl⟩) hS hA hAs (fun v ΛC σ H locs hp hP hK hA hS => ?_)
  obtain ⟨rfl, ca, hc0, g, fi, fj, nt, z0⟩ := hp
  refine W.widen (k := 20) (n := 300) (Nat.le_of_ble_eq_true rfl) (Nat.le_of_ble_eq_true rfl) ?_
  refine W.eq (g2 := F0 m 7 ls [.ref q]) rfl ?_
  refine lv_astore_n (lv' := [(1, .ref q), (0, .ref b)]) hex hb d_L_7 rfl hl (by decide) rfl (fun ls hl => ?_)
  refine r_new (ci := 4) (C := R_M) (T := F_M) (N := 22) (tm := [some none, some none, some none, some none, some none, some none, some none, some none, some none, some none, some none, none, none, none, some none, none, some none, some none, some none, some none, some none, none]) hex hb hts (fun w h => List.mem_cons_of_mem _ (in_M w h)) tq_M tq_M_ok hown (hts _ (List.mem_cons_of_mem _ bg_385)) (hts _ (List.mem_cons_of_mem _ bg_386)) (hts _ (List.mem_cons_of_mem _ bg_4)) hK hP hA hS hAs rfl (r_born (fun j hj => by have : j < 22 := hj; rcases (show j = 0 ∨ j = 1 ∨ j = 2 ∨ j = 3 ∨ j = 4 ∨ j = 5 ∨ j = 6 ∨ j = 7 ∨ j = 8 ∨ j = 9 ∨ j = 10 ∨ j = 11 ∨ j = 12 ∨ j = 13 ∨ j = 14 ∨ j = 15 ∨ j = 16 ∨ j = 17 ∨ j = 18 ∨ j = 19 ∨ j = 20 ∨ j = 21 by omega) with rfl | rfl | rfl | rfl | rfl | rfl | rfl | rfl | rfl | rfl | rfl | rfl | rfl | rfl | rfl | rfl | rfl | rfl | rfl | rfl | rfl | rfl <;> first | exact Or.inl ⟨rfl, rfl⟩ | exact Or.inr ⟨rfl, rfl⟩)) (Nat.le_of_ble_eq_true rfl) (Nat.le_of_ble_eq_true rfl) d_L_8 (fun h H hq2 hP2 hK2 hA2 hS => ?_)
  refine W.widen (k := 30) (n := 330) (by omega) (by omega) ?_
  refine lv_dup hex hb d_L_11 rfl ?_
  obtain ⟨hP, hPR⟩ := hP2.split hq2
  have w : WD D s ΛC σ (upL (fun _ => none) h (.inr (4, [some none, some none, some none, some none, some none, some none, some none, some none, some none, some none, some none, none, none, none, some none, none, some none, some none, some none, some none, some none, none]))) ZM H locs := by
    refine ⟨hP, hPR, hK, ⟨hK.1, fun q2 cA n kd hh => ?_⟩, hA, fun q2 y hh => ?_, hS, fun q2 y hh => ?_⟩
    · by_cases e1 : q2 = h
      · rw [e1, upL_at] at hh; cases hh
      · rw [upL_nn e1] at hh; cases hh
    · by_cases e1 : q2 = h
      · rw [e1]; exact hA2 h _ upL_at
      · rw [upL_nn e1] at hh; cases hh
    · by_cases e1 : q2 = h
      · rw [e1, hq2] at hh; cases hh
      · exact upL_nn e1
  have T := c_M_init (l := l) (D := D) (P := fun v Λ1 s1 => v = none ∧ ∃ r, r 0 = h ∧ RW Λ1 r s1 ∧ ZI s1 (r 7)) (upL_at (Λ := fun _ => none) (q := h) (y := .inr (4, [some none, some none, some none, some none, some none, some none, some none, some none, some none, some none, some none, none, none, none, some none, none, some none, some none, some none, some none, some none, none]))) ZM_ZA (fun r Λ1 s1 e1 e2 e3 => ⟨rfl, r, e1, e2, e3⟩)
  refine callR w (va_runI (As := []) (rest := [.ref h]) ⟨hex, hb, hml, hown, hts⟩ (Ct.use T H.size) (cwI 0 hts (gdI bc_M_init) rfl rfl rfl (hts _ (List.mem_cons_of_mem _ bg_4)) (hts _ (List.mem_cons_of_mem _ bg_387)) (hts _ (List.mem_cons_of_mem _ bg_388)) rfl hdV_M_init.2 ⟨Nat.le_of_ble_eq_true rfl, Nat.le_of_ble_eq_true rfl⟩) (px_preS hNW w.2.2.2.1 w.2.1) rfl rfl hl.1 rfl (lv_room (Nat.le_of_ble_eq_true rfl)) d_L_12 ⟨Nat.le_of_ble_eq_true rfl, Nat.le_of_ble_eq_true rfl⟩) (fun v ΛR ρ H locs hp w => ?_)
  obtain ⟨rfl, ra, hr0, rw2, zi⟩ := hp
  refine W.widen (k := 100) (n := 2000) (Nat.le_of_ble_eq_true rfl) (Nat.le_of_ble_eq_true rfl) ?_
  refine W.eq (g2 := F0 m 15 ls [.ref h]) rfl ?_
  refine lv_astore_n (lv' := [(2, .ref h), (1, .ref q), (0, .ref b)]) hex hb d_L_15 rfl hl (by decide) rfl (fun ls hl => ?_)
  refine lv_iconst (v := iI 0) hex hb d_L_16 rfl ?_
  refine lv_istore_n (lv' := [(3, .int (iI 0)), (2, .ref h), (1, .ref q), (0, .ref b)]) hex hb d_L_17 rfl hl (by decide) rfl (fun ls hl => ?_)
  refine law_head (c := ca) (r := ra) hF hr hlk 513 0 rfl ΛC σ ΛR ρ H locs ls w ⟨g, fi, fj, rw2, fun _ => none, RB.zero nt z0 zi⟩ ?_
  rw [hr0, hc0]
  exact hl
