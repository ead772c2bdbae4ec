/-! The young collection's end, and that what holds between calls holds behind it. -/
section YC
variable {Λ : Lam} {c : Nat → Nat} {σ0 σ : Mem}
theorem drop_is (c : Nat → Nat) (s : Mem) : (∀ t, (∃ j : Nat, (j : Int) < (s.1 101 (c 2)) ∧ s.2.2 101 (c 3) j = some t) → (s.1 206 t) = 0 → ((gDrop c s).1 203 t) = -2) ∧ (∀ t, ¬ ((∃ j : Nat, (j : Int) < (s.1 101 (c 2)) ∧ s.2.2 101 (c 3) j = some t) ∧ (s.1 206 t) = 0) → ((gDrop c s).1 203 t) = (s.1 203 t)) := by
  have key : ∀ n : Nat, (∀ t, (∃ j : Nat, j < n ∧ s.2.2 101 (c 3) j = some t) → (s.1 206 t) = 0 → ((nfold (gDrop1 c) s n).1 203 t) = -2) ∧ (∀ t, ¬ ((∃ j : Nat, j < n ∧ s.2.2 101 (c 3) j = some t) ∧ (s.1 206 t) = 0) → ((nfold (gDrop1 c) s n).1 203 t) = (s.1 203 t)) := by
    intro n
    induction n with
    | zero => exact ⟨fun t ⟨j, hj, _⟩ => by omega, fun _ _ => rfl⟩
    | succ n ih =>
      have kp := drop_keep c s n
      have e1 : (nfold (gDrop1 c) s n).2.2 101 (c 3) n = s.2.2 101 (c 3) n := by rw [kp.1]
      have e2 : ∀ t, (nfold (gDrop1 c) s n).1 206 t = (s.1 206 t) := fun t => kp.2 _ _ (by decide)
      rw [nfold_s]
      generalize nfold (gDrop1 c) s n = u at ih e1 e2
      have go : gDrop1 c n u = (match s.2.2 101 (c 3) n with
        | none => u
        | some t => if (s.1 206 t) = 0 then upI u 203 t (-2) else u) := by
        unfold gDrop1
        rw [e1]
        cases s.2.2 101 (c 3) n with
        | none => rfl
        | some t => simp only [e2]
      rw [go]
      cases hx : s.2.2 101 (c 3) n with
      | none =>
        refine ⟨fun t ⟨j, hj, ej⟩ hr => ih.1 t ⟨j, ?_, ej⟩ hr, fun t hn => ih.2 t (fun z => hn ⟨?_, z.2⟩)⟩
        · by_cases e : j = n
          · rw [e, hx] at ej; cases ej
          · omega
        · obtain ⟨j, hj, ej⟩ := z.1; exact ⟨j, by omega, ej⟩
      | some w =>
        simp only
        by_cases hw : (s.1 206 w) = 0
        · rw [if_pos hw]
          refine ⟨fun t ⟨j, hj, ej⟩ hr => ?_, fun t hn => ?_⟩
          · rw [upI_1]
            by_cases e : t = w
            · rw [if_pos ⟨rfl, e⟩]
            · rw [if_neg (fun z => e z.2)]
              refine ih.1 t ⟨j, ?_, ej⟩ hr
              by_cases e2 : j = n
              · rw [e2, hx] at ej; cases ej; exact absurd rfl e
              · omega
          · have e : t ≠ w := fun e => hn ⟨⟨n, by omega, by rw [hx, e]⟩, by rw [e]; exact hw⟩
            rw [upI_nq e]
            exact ih.2 t (fun z => hn ⟨by obtain ⟨j, hj, ej⟩ := z.1; exact ⟨j, by omega, ej⟩, z.2⟩)
        · rw [if_neg hw]
          refine ⟨fun t ⟨j, hj, ej⟩ hr => ?_, fun t hn => ih.2 t (fun z => hn ⟨by obtain ⟨j, hj, ej⟩ := z.1; exact ⟨j, by omega, ej⟩, z.2⟩)⟩
          refine ih.1 t ⟨j, ?_, ej⟩ hr
          by_cases e2 : j = n
          · rw [e2, hx] at ej; cases ej; exact absurd hr hw
          · omega
  have k := key ((s.1 101 (c 2))).toNat
  refine ⟨fun t ⟨j, hj, ej⟩ hr => k.1 t ⟨j, by omega, ej⟩ hr, fun t hn => k.2 t (fun z => hn ⟨by obtain ⟨j, hj, ej⟩ := z.1; exact ⟨j, by omega, ej⟩, z.2⟩)⟩
theorem drop_keep' (c : Nat → Nat) (s : Mem) : (gDrop c s).2 = s.2 ∧ ∀ f o, f ≠ 203 → (gDrop c s).1 f o = s.1 f o := drop_keep c s _
-- the renewed order
theorem renew_is {s : Mem} (hw : WF Λ c s) (hq : (s.1 101 (c 6)) ≤ 20) (hd : ∀ i j : Nat, (i : Int) < (s.1 101 (c 6)) → (j : Int) < (s.1 101 (c 6)) → s.2.2 101 (c 7) i = s.2.2 101 (c 7) j → i = j) :
    (∀ f q, ¬ (f = 101 ∧ q = c 2) → (fRenew c s).2.1 f q = s.1 f q) ∧
    (∀ kd q k, ¬ (kd = 101 ∧ q = c 3) → (fRenew c s).2.2.2 kd q k = s.2.2 kd q k) ∧
    (∀ t, (∃ i : Nat, (i : Int) < ((fRenew c s).2.1 101 (c 2)) ∧ (fRenew c s).2.2.2 101 (c 3) i = some t) ↔ ((∃ j : Nat, (j : Int) < (s.1 101 (c 6)) ∧ s.2.2 101 (c 7) j = some t) ∧ (s.1 203 t) = -1)) ∧
    (∀ i j : Nat, (i : Int) < ((fRenew c s).2.1 101 (c 2)) → (j : Int) < ((fRenew c s).2.1 101 (c 2)) → (fRenew c s).2.2.2 101 (c 3) i = (fRenew c s).2.2.2 101 (c 3) j → i = j) := by
  have q0 := hw.q0
  have n37 := hw.ly.ne37
  have n26 := hw.ly.ne26
  have key : ∀ n : Nat, (n : Int) ≤ (s.1 101 (c 6)) → (∀ f q, ¬ (f = 101 ∧ q = c 2) → (nfold (gRenew1 c) (0, upI s 101 (c 2) 0) n).2.1 f q = s.1 f q) ∧
      (∀ kd q k, ¬ (kd = 101 ∧ q = c 3) → (nfold (gRenew1 c) (0, upI s 101 (c 2) 0) n).2.2.2 kd q k = s.2.2 kd q k) ∧
      (0 ≤ ((nfold (gRenew1 c) (0, upI s 101 (c 2) 0) n).2.1 101 (c 2)) ∧ ((nfold (gRenew1 c) (0, upI s 101 (c 2) 0) n).2.1 101 (c 2)) ≤ n) ∧
      (∀ t, (∃ i : Nat, (i : Int) < ((nfold (gRenew1 c) (0, upI s 101 (c 2) 0) n).2.1 101 (c 2)) ∧ (nfold (gRenew1 c) (0, upI s 101 (c 2) 0) n).2.2.2 101 (c 3) i = some t) ↔ ((∃ j : Nat, j < n ∧ s.2.2 101 (c 7) j = some t) ∧ (s.1 203 t) = -1)) ∧
      (∀ i j : Nat, (i : Int) < ((nfold (gRenew1 c) (0, upI s 101 (c 2) 0) n).2.1 101 (c 2)) → (j : Int) < ((nfold (gRenew1 c) (0, upI s 101 (c 2) 0) n).2.1 101 (c 2)) → (nfold (gRenew1 c) (0, upI s 101 (c 2) 0) n).2.2.2 101 (c 3) i = (nfold (gRenew1 c) (0, upI s 101 (c 2) 0) n).2.2.2 101 (c 3) j → i = j) ∧
      (∀ i : Nat, (i : Int) < ((nfold (gRenew1 c) (0, upI s 101 (c 2) 0) n).2.1 101 (c 2)) → ∃ t, (nfold (gRenew1 c) (0, upI s 101 (c 2) 0) n).2.2.2 101 (c 3) i = some t) := by
    intro n
    induction n with
    | zero =>
      intro _
      have e0 : ((nfold (gRenew1 c) (0, upI s 101 (c 2) 0) 0).2.1 101 (c 2)) = 0 := upI_at
      refine ⟨fun f q h => ?_, fun _ _ _ _ => rfl, by omega, fun t => ?_, fun i j hi => by omega, fun i hi => by omega⟩
      · show (upI s 101 (c 2) 0).1 f q = _
        rw [upI_1, if_neg h]
      · constructor
        · rintro ⟨i, hi, _⟩; omega
        · rintro ⟨⟨j, hj, _⟩, _⟩; omega
    | succ n ih =>
      intro hn
      obtain ⟨a1, a2, a3, a4, a5, a6⟩ := ih (by omega)
      rw [nfold_s]
      obtain ⟨w, hw7⟩ := hw.ql n (by omega)
      have e7 : (nfold (gRenew1 c) (0, upI s 101 (c 2) 0) n).2.2.2 101 (c 7) n = some w := (a2 _ _ _ (fun z => n37 z.2.symm)).trans hw7
      have eA : (nfold (gRenew1 c) (0, upI s 101 (c 2) 0) n).2.1 203 w = (s.1 203 w) := a1 _ _ (by omega)
      generalize nfold (gRenew1 c) (0, upI s 101 (c 2) 0) n = u at a1 a2 a3 a4 a5 a6 e7 eA
      by_cases hy : (s.1 203 w) = -1
      · have e : gRenew1 c n u = (u.1, gAdd (c 2) (c 3) (some w) u.2) := by
          unfold gRenew1
          rw [e7]
          simp only
          rw [if_pos (eA.trans hy)]
          unfold fAdd
          rw [if_neg (by omega)]
        rw [e]
        have eC : (gAdd (c 2) (c 3) (some w) u.2).1 101 (c 2) = (u.2.1 101 (c 2)) + 1 := by unfold gAdd; rw [upI_at]
        have eX : ∀ kd q k, (gAdd (c 2) (c 3) (some w) u.2).2.2 kd q k = if kd = 101 ∧ q = c 3 ∧ k = ((u.2.1 101 (c 2))).toNat then some w else u.2.2.2 kd q k := fun kd q k => rfl
        have nw : ∀ i : Nat, (i : Int) < (u.2.1 101 (c 2)) → u.2.2.2 101 (c 3) i ≠ some w := by
          intro i hi hx
          obtain ⟨⟨j, hj, ej⟩, _⟩ := (a4 w).mp ⟨i, hi, hx⟩
          have := hd j n (by omega) (by omega) (ej.trans hw7.symm)
          omega
        refine ⟨fun f q h => ?_, fun kd q k h => ?_, ?_, fun t => ?_, fun i j hi hj => ?_, fun i hi => ?_⟩
        · unfold gAdd
          rw [upI_1, if_neg h]
          exact a1 f q h
        · simp only
          rw [eX, if_neg (fun z => h ⟨z.1, z.2.1⟩)]
          exact a2 kd q k h
        · simp only
          rw [eC]; omega
        · simp only
          rw [eC]
          constructor
          · rintro ⟨i, hi, hx⟩
            rw [eX] at hx
            split at hx
            · cases hx
              exact ⟨⟨n, by omega, hw7⟩, hy⟩
            · rename_i hne
              have : i ≠ ((u.2.1 101 (c 2))).toNat := fun z => hne ⟨rfl, rfl, z⟩
              obtain ⟨⟨j, hj, ej⟩, hy2⟩ := (a4 t).mp ⟨i, by omega, hx⟩
              exact ⟨⟨j, by omega, ej⟩, hy2⟩
          · rintro ⟨⟨j, hj, ej⟩, hy2⟩
            by_cases ejn : j = n
            · rw [ejn, hw7] at ej
              cases ej
              exact ⟨((u.2.1 101 (c 2))).toNat, by omega, by rw [eX, if_pos ⟨rfl, rfl, rfl⟩]⟩
            · obtain ⟨i, hi, hx⟩ := (a4 t).mpr ⟨⟨j, by omega, ej⟩, hy2⟩
              exact ⟨i, by omega, by rw [eX, if_neg (by omega)]; exact hx⟩
        · simp only at hi hj ⊢
          rw [eC] at hi hj
          rw [eX, eX]
          by_cases ei : i = ((u.2.1 101 (c 2))).toNat
          · by_cases ej : j = ((u.2.1 101 (c 2))).toNat
            · intro _; omega
            · rw [if_pos ⟨rfl, rfl, ei⟩, if_neg (fun z => ej z.2.2)]
              intro z
              exact absurd z.symm (nw j (by omega))
          · by_cases ej : j = ((u.2.1 101 (c 2))).toNat
            · rw [if_neg (fun z => ei z.2.2), if_pos ⟨rfl, rfl, ej⟩]
              intro z
              exact absurd z (nw i (by omega))
            · rw [if_neg (fun z => ei z.2.2), if_neg (fun z => ej z.2.2)]
              exact a5 i j (by omega) (by omega)
        · simp only at hi ⊢
          rw [eC] at hi
          rw [eX]
          by_cases ei : i = ((u.2.1 101 (c 2))).toNat
          · rw [if_pos ⟨rfl, rfl, ei⟩]; exact ⟨w, rfl⟩
          · rw [if_neg (fun z => ei z.2.2)]; exact a6 i (by omega)
      · have e : gRenew1 c n u = (u.1 + 1, u.2) := by
          unfold gRenew1
          rw [e7]
          simp only
          rw [if_neg (fun z => hy (eA.symm.trans z))]
        rw [e]
        refine ⟨a1, a2, by simp only; omega, fun t => ?_, a5, a6⟩
        simp only
        rw [a4 t]
        constructor
        · rintro ⟨⟨j, hj, ej⟩, hy2⟩; exact ⟨⟨j, by omega, ej⟩, hy2⟩
        · rintro ⟨⟨j, hj, ej⟩, hy2⟩
          refine ⟨⟨j, ?_, ej⟩, hy2⟩
          by_cases ejn : j = n
          · rw [ejn, hw7] at ej; cases ej; exact absurd hy2 hy
          · omega
  obtain ⟨a1, a2, a3, a4, a5, a6⟩ := key ((s.1 101 (c 6))).toNat (by omega)
  unfold fRenew
  refine ⟨a1, a2, fun t => ?_, a5⟩
  rw [a4 t]
  constructor
  · rintro ⟨⟨j, hj, ej⟩, hy2⟩; exact ⟨⟨j, by omega, ej⟩, hy2⟩
  · rintro ⟨⟨j, hj, ej⟩, hy2⟩; exact ⟨⟨j, by omega, ej⟩, hy2⟩
theorem let_is (b q : Nat) (s : Mem) : (∀ t, (∃ j : Nat, (j : Int) < (s.1 101 b) ∧ s.2.2 101 q j = some t) → ((gLetGo b q s).1 206 t) = 0) ∧ (∀ t, ¬ (∃ j : Nat, (j : Int) < (s.1 101 b) ∧ s.2.2 101 q j = some t) → ((gLetGo b q s).1 206 t) = (s.1 206 t)) ∧ (gLetGo b q s).2 = s.2 ∧ (∀ f o, f ≠ 206 → ¬ (f = 101 ∧ o = b) → (gLetGo b q s).1 f o = s.1 f o) ∧ ((gLetGo b q s).1 101 b) = 0 := by
  have key : ∀ n : Nat, (∀ t, (∃ j : Nat, j < n ∧ s.2.2 101 q j = some t) → ((nfold (gLet1 q) s n).1 206 t) = 0) ∧ (∀ t, ¬ (∃ j : Nat, j < n ∧ s.2.2 101 q j = some t) → ((nfold (gLet1 q) s n).1 206 t) = (s.1 206 t)) := by
    intro n
    induction n with
    | zero => exact ⟨fun t ⟨j, hj, _⟩ => by omega, fun _ _ => rfl⟩
    | succ n ih =>
      have kp := let_keep q s n
      have e1 : (nfold (gLet1 q) s n).2.2 101 q n = s.2.2 101 q n := by rw [kp.1]
      rw [nfold_s]
      generalize nfold (gLet1 q) s n = u at ih e1
      have go : gLet1 q n u = (match s.2.2 101 q n with
        | none => u
        | some t => upI u 206 t 0) := by
        unfold gLet1
        rw [e1]
        cases s.2.2 101 q n <;> rfl
      rw [go]
      cases hx : s.2.2 101 q n with
      | none =>
        refine ⟨fun t ⟨j, hj, ej⟩ => ih.1 t ⟨j, ?_, ej⟩, fun t hn => ih.2 t (fun ⟨j, hj, ej⟩ => hn ⟨j, by omega, ej⟩)⟩
        by_cases e : j = n
        · rw [e, hx] at ej; cases ej
        · omega
      | some w =>
        simp only
        refine ⟨fun t ⟨j, hj, ej⟩ => ?_, fun t hn => ?_⟩
        · rw [upI_1]
          by_cases e : t = w
          · rw [if_pos ⟨rfl, e⟩]
          · rw [if_neg (fun z => e z.2)]
            refine ih.1 t ⟨j, ?_, ej⟩
            by_cases e2 : j = n
            · rw [e2, hx] at ej; cases ej; exact absurd rfl e
            · omega
        · have e : t ≠ w := fun e => hn ⟨n, by omega, by rw [hx, e]⟩
          rw [upI_nq e]
          exact ih.2 t (fun ⟨j, hj, ej⟩ => hn ⟨j, by omega, ej⟩)
  have k := key ((s.1 101 b)).toNat
  have kp := let_keep q s ((s.1 101 b)).toNat
  unfold gLetGo
  refine ⟨fun t ⟨j, hj, ej⟩ => ?_, fun t hn => ?_, kp.1, fun f o h1 h2 => ?_, upI_at⟩
  · rw [upI_ne (by decide)]; exact k.1 t ⟨j, by omega, ej⟩
  · rw [upI_ne (by decide)]; exact k.2 t (fun ⟨j, hj, ej⟩ => hn ⟨j, by omega, ej⟩)
  · rw [upI_1, if_neg h2]; exact kp.2 f o h1
theorem show_cb (s : Mem) (i : Nat) : cb (fShow Λ c s) i = true ↔ ∃ a : Nat, a < 64 ∧ a / 8 = i ∧ isYng s (fRef Λ c s a) = true := by
  have key : ∀ n, n ≤ 64 → (cb (nfold (fun a u => if isYng s (fRef Λ c s a) = true then iOr u (fCard (a : Nat)) else u) 0 n) i = true ↔ ∃ a : Nat, a < n ∧ a / 8 = i ∧ isYng s (fRef Λ c s a) = true) := by
    intro n
    induction n with
    | zero =>
      intro _
      rw [nfold_0, cb_0]
      constructor
      · intro h; cases h
      · rintro ⟨a, ha, _⟩; omega
    | succ n ih =>
      intro hn
      have ih := ih (by omega)
      rw [nfold_s]
      by_cases hy : isYng s (fRef Λ c s n) = true
      · rw [if_pos hy, cb_or, Bool.or_eq_true, ih, cb_card' (by omega), decide_eq_true_eq]
        constructor
        · rintro (⟨a, h1, h2, h3⟩ | h)
          · exact ⟨a, by omega, h2, h3⟩
          · exact ⟨n, by omega, h.symm, hy⟩
        · rintro ⟨a, h1, h2, h3⟩
          by_cases e : a = n
          · right; rw [← h2, e]
          · left; exact ⟨a, by omega, h2, h3⟩
      · rw [if_neg hy, ih]
        constructor
        · rintro ⟨a, h1, h2, h3⟩; exact ⟨a, by omega, h2, h3⟩
        · rintro ⟨a, h1, h2, h3⟩
          refine ⟨a, ?_, h2, h3⟩
          by_cases e : a = n
          · rw [e] at h3; exact absurd h3 hy
          · omega
  exact key 64 (Nat.le_refl _)
theorem show_lo8 (s : Mem) : lo8 (fShow Λ c s) := by
  refine ⟨show_rng s, fun i hi => ?_⟩
  cases h : cb (fShow Λ c s) i with
  | false => rfl
  | true =>
    obtain ⟨a, h1, h2, _⟩ := (show_cb s i).mp h
    omega
theorem clean_is (s : Mem) : (gClean Λ c s).2 = s.2 ∧ (∀ f q, ¬ (f = 304 ∧ q = c 0) → ¬ (f = 305 ∧ q = c 0) → (gClean Λ c s).1 f q = s.1 f q) ∧ (∀ i, i < 32 → cb (((gClean Λ c s).1 304 (c 0))) i = (cb ((s.1 304 (c 0))) i && cb (fShow Λ c s) i)) ∧ (∀ i, i < 32 → cb (((gClean Λ c s).1 305 (c 0))) i = (cb ((s.1 305 (c 0))) i || (decide ((s.1 306 (c 0)) = 1) && cb ((s.1 304 (c 0))) i && !cb (fShow Λ c s) i))) := by
  have e0 : ∀ v, (upI s 304 (c 0) v).1 306 (c 0) = (s.1 306 (c 0)) := fun v => upI_ne (by decide)
  have eN : ∀ v, (upI s 304 (c 0) v).1 305 (c 0) = (s.1 305 (c 0)) := fun v => upI_ne (by decide)
  unfold gClean
  simp only
  rw [e0, eN]
  by_cases h : (s.1 306 (c 0)) = 1
  · rw [if_pos h]
    refine ⟨rfl, fun f q h1 h2 => ?_, fun i hi => ?_, fun i hi => ?_⟩
    · rw [upI_1, if_neg h2, upI_1, if_neg h1]
    · rw [upI_ne (by decide), upI_at, cb_and, cb_not _ hi, cb_and, cb_not _ hi]
      cases cb ((s.1 304 (c 0))) i <;> cases cb (fShow Λ c s) i <;> rfl
    · rw [upI_at, cb_or, cb_and, cb_not _ hi, decide_eq_true h]
      cases cb ((s.1 304 (c 0))) i <;> cases cb (fShow Λ c s) i <;> rfl
  · rw [if_neg h]
    refine ⟨rfl, fun f q h1 h2 => ?_, fun i hi => ?_, fun i hi => ?_⟩
    · rw [upI_1, if_neg h1]
    · rw [upI_at, cb_and, cb_not _ hi, cb_and, cb_not _ hi]
      cases cb ((s.1 304 (c 0))) i <;> cases cb (fShow Λ c s) i <;> rfl
    · rw [eN, decide_eq_false h]
      simp
end YC
