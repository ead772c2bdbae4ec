/-! A new thing: the layout grows, and the invariants hold on. -/
def TM (q2 : Nat) : List (Option (Option Nat)) := [none, some (some q2), none, none, none, none, none]
def grow (Λ : Lam) (q1 q2 n : Nat) (cA : ClassId) : Lam := upL (upL (upL Λ q1 (.inr (2, [none, some none, none, none, none, none, none]))) q2 (.inl (cA, n, 103))) q1 (.inr (2, [none, some (some q2), none, none, none, none, none]))
def FJ (Λ : Lam) : Prop := ∀ t f, Λ t = some (.inr (2, [none, some (some f), none, none, none, none, none])) → isT Λ t
def gBirth (q1 q2 : Nat) (p : Int) (σ : Mem) : Mem := upI (upI (zap (upI (zap σ q1) 200 q1 p) q2) 202 q1 0) 203 q1 (-1)
def gNew (c : Nat → Nat) (r : Nat) (q1 q2 : Nat) (p : Int) (σ : Mem) : Mem := upX (fAdd (c 2) (c 3) 20 (some q1) (gBirth q1 q2 p σ)).2 100 (c 1) r (some q1)
section BRN
variable {Λ : Lam} {c : Nat → Nat} {σ : Mem} {q1 q2 n : Nat} {cA : ClassId}
theorem grow_1 : grow Λ q1 q2 n cA q1 = some (.inr (2, [none, some (some q2), none, none, none, none, none])) := upL_at
theorem grow_2 (hq : q2 ≠ q1) : grow Λ q1 q2 n cA q2 = some (.inl (cA, n, 103)) := by
  unfold grow
  rw [upL_nn hq, upL_at]
theorem grow_n {a : Nat} (h1 : a ≠ q1) (h2 : a ≠ q2) : grow Λ q1 q2 n cA a = Λ a := by
  unfold grow
  rw [upL_nn h1, upL_nn h2, upL_nn h1]
theorem grow_o {a : Nat} {y : Lay} (n1 : Λ q1 = none) (n2 : Λ q2 = none) (h : Λ a = some y) : grow Λ q1 q2 n cA a = some y := by
  rw [grow_n (fun e => by rw [e, n1] at h; cases h) (fun e => by rw [e, n2] at h; cases h)]
  exact h
theorem fa_eq {Λ Λ' : Lam} {t : Nat} (h : Λ' t = Λ t) : faL Λ' t = faL Λ t := by unfold faL; rw [h]
theorem nf_eq {Λ Λ' : Lam} {t : Nat} (h : faL Λ' t = faL Λ t) (h2 : Λ' (faL Λ t) = Λ (faL Λ t)) : nfL Λ' t = nfL Λ t := by unfold nfL; rw [h, h2]
theorem grow_T {t : Nat} (n1 : Λ q1 = none) (n2 : Λ q2 = none) (ht : isT Λ t) : isT (grow Λ q1 q2 n cA) t ∧ faL (grow Λ q1 q2 n cA) t = faL Λ t ∧ nfL (grow Λ q1 q2 n cA) t = nfL Λ t := by
  obtain ⟨a1, ⟨kA, a2⟩, a3⟩ := ht
  have e1 := grow_o (n := n) (cA := cA) n1 n2 a1
  have e2 := grow_o (n := n) (cA := cA) n1 n2 a2
  have f1 : faL (grow Λ q1 q2 n cA) t = faL Λ t := fa_eq (by rw [e1, a1])
  have f2 : nfL (grow Λ q1 q2 n cA) t = nfL Λ t := nf_eq f1 (by rw [e2, a2])
  refine ⟨⟨by rw [f1]; exact e1, by rw [f1, f2]; exact ⟨kA, e2⟩, by rw [f2]; exact a3⟩, f1, f2⟩
theorem T_ne {t : Nat} (n1 : Λ q1 = none) (ht : isT Λ t) : t ≠ q1 ∧ faL Λ t ≠ q1 := by
  obtain ⟨a1, ⟨kA, a2⟩, a3⟩ := ht
  exact ⟨fun e => (by rw [e, n1] at a1; cases a1), fun e => (by rw [e, n1] at a2; cases a2)⟩
theorem grow_new (hq : q2 ≠ q1) (hn : n ≤ 3) : isT (grow Λ q1 q2 n cA) q1 ∧ faL (grow Λ q1 q2 n cA) q1 = q2 ∧ nfL (grow Λ q1 q2 n cA) q1 = n := by
  have f1 : faL (grow Λ q1 q2 n cA) q1 = q2 := by unfold faL; rw [grow_1]; rfl
  have f2 : nfL (grow Λ q1 q2 n cA) q1 = n := by unfold nfL; rw [f1, grow_2 hq]
  exact ⟨⟨by rw [f1]; exact grow_1, by rw [f1, f2]; exact ⟨cA, grow_2 hq⟩, by rw [f2]; exact hn⟩, f1, f2⟩
theorem grow_inv {t : Nat} (fj : FJ Λ) (n1 : Λ q1 = none) (hq : q2 ≠ q1) (ht : isT (grow Λ q1 q2 n cA) t) : t = q1 ∨ isT Λ t := by
  by_cases e : t = q1
  · exact Or.inl e
  · right
    have a1 := ht.1
    by_cases e2 : t = q2
    · rw [e2, grow_2 hq] at a1; cases a1
    · rw [grow_n e e2] at a1
      exact fj t _ a1
theorem grow_FJ (fj : FJ Λ) (n1 : Λ q1 = none) (n2 : Λ q2 = none) (hq : q2 ≠ q1) (hn : n ≤ 3) : FJ (grow Λ q1 q2 n cA) := by
  intro t f e
  by_cases e1 : t = q1
  · rw [e1]; exact (grow_new hq hn).1
  · by_cases e2 : t = q2
    · rw [e2, grow_2 hq] at e; cases e
    · rw [grow_n e1 e2] at e
      exact (grow_T n1 n2 (fj t f e)).1
theorem grow_FI (fi : FI Λ) (fj : FJ Λ) (n1 : Λ q1 = none) (n2 : Λ q2 = none) (hq : q2 ≠ q1) (hn : n ≤ 3) : FI (grow Λ q1 q2 n cA) := by
  intro t u ht hu e
  obtain ⟨-, b2, -⟩ := grow_new (Λ := Λ) (cA := cA) hq hn
  rcases grow_inv fj n1 hq ht with h1 | h1
  · rcases grow_inv fj n1 hq hu with h2 | h2
    · rw [h1, h2]
    · exfalso
      rw [h1, b2, (grow_T n1 n2 h2).2.1] at e
      exact (T_ne n2 h2).2 e.symm
  · rcases grow_inv fj n1 hq hu with h2 | h2
    · exfalso
      rw [h2, b2, (grow_T n1 n2 h1).2.1] at e
      exact (T_ne n2 h1).2 e
    · rw [(grow_T n1 n2 h1).2.1, (grow_T n1 n2 h2).2.1] at e
      exact fi t u h1 h2 e
theorem grow_Lay (n1 : Λ q1 = none) (n2 : Λ q2 = none) (h : LayC Λ c) : LayC (grow Λ q1 q2 n cA) c := by
  obtain ⟨h0, ⟨k1, h1⟩, ⟨h2, k3, h3⟩, h4, ⟨k5, h5⟩, ⟨h6, k7, h7⟩⟩ := h
  exact ⟨grow_o n1 n2 h0, ⟨k1, grow_o n1 n2 h1⟩, ⟨grow_o n1 n2 h2, k3, grow_o n1 n2 h3⟩, grow_o n1 n2 h4, ⟨k5, grow_o n1 n2 h5⟩, ⟨grow_o n1 n2 h6, k7, grow_o n1 n2 h7⟩⟩
theorem Lay_ne (n1 : Λ q1 = none) (h : LayC Λ c) : c 0 ≠ q1 ∧ c 1 ≠ q1 ∧ c 2 ≠ q1 ∧ c 3 ≠ q1 ∧ c 5 ≠ q1 ∧ c 6 ≠ q1 ∧ c 7 ≠ q1 := by
  obtain ⟨h0, ⟨k1, h1⟩, ⟨h2, k3, h3⟩, h4, ⟨k5, h5⟩, ⟨h6, k7, h7⟩⟩ := h
  refine ⟨?_, ?_, ?_, ?_, ?_, ?_, ?_⟩ <;> intro e
  · rw [e, n1] at h0; cases h0
  · rw [e, n1] at h1; cases h1
  · rw [e, n1] at h2; cases h2
  · rw [e, n1] at h3; cases h3
  · rw [e, n1] at h5; cases h5
  · rw [e, n1] at h6; cases h6
  · rw [e, n1] at h7; cases h7
theorem birth_I {p : Int} {f q : Nat} (h1 : q ≠ q1) (h2 : q ≠ q2) : (gBirth q1 q2 p σ).1 f q = σ.1 f q := by
  unfold gBirth
  rw [upI_nq h1, upI_nq h1]
  show (if q = q2 then 0 else (upI (zap σ q1) 200 q1 p).1 f q) = _
  rw [if_neg h2, upI_nq h1]
  show (if q = q1 then 0 else σ.1 f q) = _
  rw [if_neg h1]
theorem birth_1 {p : Int} {f : Nat} (hq : q2 ≠ q1) : (gBirth q1 q2 p σ).1 f q1 = if f = 203 then -1 else if f = 200 then p else 0 := by
  unfold gBirth
  rw [upI_1]
  by_cases e1 : f = 203
  · rw [if_pos ⟨e1, rfl⟩, if_pos e1]
  · rw [if_neg (fun z => e1 z.1), if_neg e1, upI_1]
    by_cases e2 : f = 202
    · rw [if_pos ⟨e2, rfl⟩, e2]; rfl
    · rw [if_neg (fun z => e2 z.1)]
      show (if q1 = q2 then 0 else (upI (zap σ q1) 200 q1 p).1 f q1) = _
      rw [if_neg hq.symm, upI_1]
      by_cases e3 : f = 200
      · rw [if_pos ⟨e3, rfl⟩, if_pos e3]
      · rw [if_neg (fun z => e3 z.1), if_neg e3]
        show (if q1 = q1 then 0 else σ.1 f q1) = _
        rw [if_pos rfl]
theorem birth_2 {p : Int} {f : Nat} (hq : q2 ≠ q1) : (gBirth q1 q2 p σ).1 f q2 = 0 := by
  unfold gBirth
  rw [upI_nq hq, upI_nq hq]
  show (if q2 = q2 then 0 else (upI (zap σ q1) 200 q1 p).1 f q2) = _
  rw [if_pos rfl]
theorem birth_X {p : Int} {kd q k : Nat} : (gBirth q1 q2 p σ).2.2 kd q k = if q = q1 ∨ q = q2 then none else σ.2.2 kd q k := by
  show (if q = q2 then none else if q = q1 then none else σ.2.2 kd q k) = _
  by_cases e1 : q = q2
  · rw [if_pos e1, if_pos (Or.inr e1)]
  · by_cases e2 : q = q1
    · rw [if_neg e1, if_pos e2, if_pos (Or.inl e2)]
    · rw [if_neg e1, if_neg e2, if_neg (by omega)]
theorem birth_wf {p : Int} (w : WF Λ c σ) (fj : FJ Λ) (n1 : Λ q1 = none) (n2 : Λ q2 = none) (hq : q2 ≠ q1) (hp : rng p) : WF (grow Λ q1 q2 n cA) c (gBirth q1 q2 p σ) := by
  obtain ⟨a0, a1, a2, a3, a5, a6, a7⟩ := Lay_ne n1 w.ly
  obtain ⟨b0, b1, b2, b3, b5, b6, b7⟩ := Lay_ne n2 w.ly
  have one : ∀ t, isT (grow Λ q1 q2 n cA) t → t = q1 ∨ (isT Λ t ∧ ∀ f, (gBirth q1 q2 p σ).1 f t = σ.1 f t) := by
    intro t ht
    rcases grow_inv fj n1 hq ht with e | e
    · exact Or.inl e
    · exact Or.inr ⟨e, fun f => birth_I (T_ne n1 e).1 (T_ne n2 e).1⟩
  refine ⟨grow_Lay n1 n2 w.ly, fun kd q k t e => ?_, fun f q => ?_, fun t ht => ?_, fun t ht => ?_, ?_, ?_, ?_, ?_, fun i hi => ?_, fun i hi => ?_⟩
  · rw [birth_X] at e
    by_cases x : q = q1 ∨ q = q2
    · rw [if_pos x] at e; cases e
    · rw [if_neg x] at e; exact (grow_T n1 n2 (w.ty _ _ _ _ e)).1
  · by_cases e1 : q = q1
    · rw [e1, birth_1 hq]
      by_cases x : f = 203
      · rw [if_pos x]; exact ⟨by omega, by omega⟩
      · rw [if_neg x]
        by_cases y : f = 200
        · rw [if_pos y]; exact hp
        · rw [if_neg y]; exact rng_0
    · by_cases e2 : q = q2
      · rw [e2, birth_2 hq]; exact rng_0
      · rw [birth_I e1 e2]; exact w.rg f q
  · rcases one t ht with e | ⟨e, h⟩
    · rw [e, birth_1 hq, if_pos rfl]; omega
    · rw [h]; exact w.ab t e
  · rcases one t ht with e | ⟨e, h⟩
    · rw [e, birth_1 hq, if_neg (by decide), if_neg (by decide)]; omega
    · rw [h]; exact w.ag t e
  · rw [birth_I a2 b2]; exact w.y0
  · rw [birth_I a2 b2]; exact w.y1
  · rw [birth_I a6 b6]; exact w.q0
  · rw [birth_I a6 b6]; exact w.q1
  · rw [birth_I a2 b2] at hi
    rw [birth_X, if_neg (by omega)]
    exact w.yl i hi
  · rw [birth_I a6 b6] at hi
    rw [birth_X, if_neg (by omega)]
    exact w.ql i hi
theorem WF.root (w : WF Λ c σ) {r : Nat} {o : Option Nat} (ho : ∀ t, o = some t → isT Λ t) : WF Λ c (upX σ 100 (c 1) r o) := by
  have eX : ∀ kd q k, kd ≠ 100 → (upX σ 100 (c 1) r o).2.2 kd q k = σ.2.2 kd q k := fun kd q k hk => by rw [upX_22, if_neg (fun z => hk z.1)]
  have ty : ∀ kd q k t, (upX σ 100 (c 1) r o).2.2 kd q k = some t → isT Λ t := by
    intro kd q k t e
    rw [upX_22] at e
    by_cases x : kd = 100 ∧ q = c 1 ∧ k = r
    · rw [if_pos x] at e; exact ho t e
    · rw [if_neg x] at e; exact w.ty _ _ _ _ e
  refine ⟨w.ly, ty, w.rg, w.ab, w.ag, w.y0, w.y1, w.q0, w.q1, fun i hi => ?_, fun i hi => ?_⟩
  · rw [eX _ _ _ (by decide)]; exact w.yl i hi
  · rw [eX _ _ _ (by decide)]; exact w.ql i hi
theorem cnt_le_taken (w : WF Λ c σ) : (σ.1 101 (c 2)) ≤ fTaken Λ (c 2) (c 3) σ := by
  unfold fTaken
  have h0 := w.y0
  have h : sumN (fun _ => 1) ((σ.1 101 (c 2))).toNat ≤ sumN (fSzAt Λ (c 3) σ) ((σ.1 101 (c 2))).toNat := by
    refine sumN_le (fun i hi => ?_)
    obtain ⟨t, e⟩ := w.yl i (by omega)
    unfold fSzAt
    rw [e]
    exact (szI_le (w.ty _ _ _ _ e)).1
  rw [sumN_const] at h
  omega
theorem GD.born {r : Nat} {p : Int} (h : GD Λ c σ) (fj : FJ Λ) (n1 : Λ q1 = none) (n2 : Λ q2 = none) (hq : q2 ≠ q1) (hn : n ≤ 3) (hp : rng p) (hr : fTaken Λ (c 2) (c 3) σ + (1 + (n : Int)) ≤ 20) : GD (grow Λ q1 q2 n cA) c (gNew c r q1 q2 p σ) := by
  have w := h.gb.wf
  obtain ⟨a0, a1, a2, a3, a5, a6, a7⟩ := Lay_ne n1 w.ly
  obtain ⟨b0, b1, b2, b3, b5, b6, b7⟩ := Lay_ne n2 w.ly
  have n26 := w.ly.ne26
  have n37 := w.ly.ne37
  have hy0 := w.y0
  have hct := cnt_le_taken w
  obtain ⟨m1, m2, m3⟩ := grow_new (Λ := Λ) (cA := cA) hq hn
  have wb := birth_wf (n := n) (cA := cA) w fj n1 n2 hq hp
  have cb0 : (gBirth q1 q2 p σ).1 101 (c 2) = (σ.1 101 (c 2)) := birth_I a2 b2
  have eS : gNew c r q1 q2 p σ = upX (gAdd (c 2) (c 3) (some q1) (gBirth q1 q2 p σ)) 100 (c 1) r (some q1) := by
    unfold gNew fAdd
    rw [if_neg (by rw [cb0]; omega)]
  have wa : WF (grow Λ q1 q2 n cA) c (gNew c r q1 q2 p σ) := by
    rw [eS]
    exact (wb.addY m1 (by rw [cb0]; omega)).root (fun t e => by cases e; exact m1)
  have iB : ∀ f q, f ≠ 101 → (gNew c r q1 q2 p σ).1 f q = (gBirth q1 q2 p σ).1 f q := by
    intro f q hf
    rw [eS, upX_1]
    unfold gAdd
    rw [upI_ne hf]
    rfl
  have iC2 : ((gNew c r q1 q2 p σ).1 101 (c 2)) = (σ.1 101 (c 2)) + 1 := by
    rw [eS, upX_1]
    unfold gAdd
    rw [upI_at, cb0]
  have iC6 : ((gNew c r q1 q2 p σ).1 101 (c 6)) = (σ.1 101 (c 6)) := by
    rw [eS, upX_1]
    unfold gAdd
    rw [upI_nq n26.symm, upX_1]
    exact birth_I a6 b6
  have xB : ∀ kd q k, kd ≠ 100 → kd ≠ 101 → (gNew c r q1 q2 p σ).2.2 kd q k = if q = q1 ∨ q = q2 then none else σ.2.2 kd q k := by
    intro kd q k k1 k2
    rw [eS, upX_22, if_neg (fun z => k1 z.1)]
    unfold gAdd
    show (upX (gBirth q1 q2 p σ) 101 (c 3) _ _).2.2 kd q k = _
    rw [upX_22, if_neg (fun z => k2 z.1), birth_X]
  have xY : ∀ k, (gNew c r q1 q2 p σ).2.2 101 (c 3) k = if k = ((σ.1 101 (c 2))).toNat then some q1 else σ.2.2 101 (c 3) k := by
    intro k
    rw [eS, upX_22, if_neg (fun z => by have := z.1; omega)]
    unfold gAdd
    show (upX (gBirth q1 q2 p σ) 101 (c 3) _ _).2.2 101 (c 3) k = _
    rw [upX_22, cb0]
    by_cases e : k = ((σ.1 101 (c 2))).toNat
    · rw [if_pos ⟨rfl, rfl, e⟩, if_pos e]
    · rw [if_neg (fun z => e z.2.2), if_neg e, birth_X, if_neg (by omega)]
  have xR : ∀ k, ((gNew c r q1 q2 p σ).2.2 100 (c 1) k) = if k = r then some q1 else (σ.2.2 100 (c 1) k) := by
    intro k
    rw [eS, upX_22]
    by_cases e : k = r
    · rw [if_pos ⟨rfl, rfl, e⟩, if_pos e]
    · rw [if_neg (fun z => e z.2.2), if_neg e]
      unfold gAdd
      show (upX (gBirth q1 q2 p σ) 101 (c 3) _ _).2.2 100 (c 1) k = _
      rw [upX_22, if_neg (fun z => by have := z.1; omega), birth_X, if_neg (by omega)]
  generalize gNew c r q1 q2 p σ = s at *
  have iT : ∀ t f, isT Λ t → f ≠ 101 → s.1 f t = σ.1 f t := fun t f ht hf => by rw [iB f t hf, birth_I (T_ne n1 ht).1 (T_ne n2 ht).1]
  have i1 : ∀ f, f ≠ 101 → s.1 f q1 = if f = 203 then -1 else if f = 200 then p else 0 := fun f hf => by rw [iB f q1 hf, birth_1 hq]
  have iH : ∀ f, f ≠ 101 → s.1 f (c 0) = σ.1 f (c 0) := fun f hf => by rw [iB f _ hf, birth_I a0 b0]
  have adr1 : (s.1 203 q1) = -1 := by rw [i1 _ (by decide), if_pos rfl]
  have zf : ∀ f, f ≠ 101 → f ≠ 203 → f ≠ 200 → s.1 f q1 = 0 := fun f f1 f2 f3 => by rw [i1 f f1, if_neg f2, if_neg f3]
  have xC : ∀ a, (s.2.2 102 (c 5) a) = (σ.2.2 102 (c 5) a) := fun a => by rw [xB _ _ _ (by decide) (by decide), if_neg (by omega)]
  have xF : ∀ t k, isT Λ t → (s.2.2 103 (faL (grow Λ q1 q2 n cA) t) k) = (σ.2.2 103 (faL Λ t) k) := by
    intro t k ht
    rw [(grow_T n1 n2 ht).2.1, xB _ _ _ (by decide) (by decide), if_neg (fun z => z.elim (T_ne n1 ht).2 (T_ne n2 ht).2)]
  have xF1 : ∀ k, (s.2.2 103 (faL (grow Λ q1 q2 n cA) q1) k) = none := by
    intro k
    rw [m2, xB _ _ _ (by decide) (by decide), if_pos (Or.inr rfl)]
  have sz : ∀ t, isT Λ t → szI (grow Λ q1 q2 n cA) t = szI Λ t := fun t ht => by unfold szI; rw [(grow_T n1 n2 ht).2.2]
  have nT1 : ¬ isT Λ q1 := fun ht => (T_ne n1 ht).1 rfl
  have cases1 : ∀ t, isT (grow Λ q1 q2 n cA) t → t = q1 ∨ isT Λ t := fun t ht => grow_inv fj n1 hq ht
  have eR : ∀ t, Reach (grow Λ q1 q2 n cA) c s t → t = q1 ∨ Reach Λ c σ t := by
    intro t hr
    refine hr (fun t => t = q1 ∨ Reach Λ c σ t) (fun j u hj e => ?_) (fun u k v hu hk e => ?_)
    · rw [xR] at e
      by_cases x : j = r
      · rw [if_pos x] at e; cases e; exact Or.inl rfl
      · rw [if_neg x] at e; exact Or.inr (Reach.root hj e)
    · rcases hu with hu | hu
      · rw [hu, xF1] at e; cases e
      · have hT := hu.thing w.ty
        rw [xF u k hT] at e
        rw [(grow_T n1 n2 hT).2.2] at hk
        exact Or.inr (hu.fld hk e)
  have gb : GB (grow Λ q1 q2 n cA) c s := by
    refine ⟨wa, fun t ht => ?_, fun a t ha => ?_, fun t ht => ?_, fun t ht hy => ?_, fun t ht hnt hg => ?_, ?_, ?_, ?_, ?_⟩
    · rcases cases1 t ht with e | e
      · rw [e]; exact Or.inr (Or.inl adr1)
      · rw [iT t _ e (by decide), sz t e]; exact h.gb.ad t e
    · rw [xC]
      constructor
      · intro e
        have hT := w.ty _ _ _ _ e
        obtain ⟨y1, y2, y3, y4⟩ := (h.gb.ce a t ha).mp e
        rw [iT t _ hT (by decide), sz t hT]
        exact ⟨(grow_T n1 n2 hT).1, y2, y3, y4⟩
      · rintro ⟨y1, y2, y3, y4⟩
        rcases cases1 t y1 with e | e
        · rw [e, adr1] at y2; omega
        · rw [iT t _ e (by decide)] at y2 y3 y4
          rw [sz t e] at y4
          exact (h.gb.ce a t ha).mpr ⟨e, y2, y3, y4⟩
    · rcases cases1 t ht with e | e
      · rw [e, zf _ (by decide) (by decide) (by decide), zf _ (by decide) (by decide) (by decide), zf _ (by decide) (by decide) (by decide)]
        exact ⟨Or.inl rfl, Or.inl rfl, Or.inl rfl⟩
      · rw [iT t _ e (by decide), iT t _ e (by decide), iT t _ e (by decide)]; exact h.gb.fl t e
    · rcases cases1 t ht with e | e
      · rw [e, zf _ (by decide) (by decide) (by decide), zf _ (by decide) (by decide) (by decide)]
        exact ⟨rfl, rfl⟩
      · rw [iT t _ e (by decide)] at hy
        rw [iT t _ e (by decide), iT t _ e (by decide)]
        exact h.gb.ym t e hy
    · rcases cases1 t ht with e | e
      · rw [e, zf _ (by decide) (by decide) (by decide)] at hg; omega
      · rw [iT t _ e (by decide)] at hnt hg ⊢
        exact h.gb.gm t e hnt hg
    · rw [iH _ (by decide)]; exact h.gb.d8
    · rw [iH _ (by decide)]; exact h.gb.n8
    · rw [iH _ (by decide)]; exact h.gb.ph
    · rw [iH _ (by decide)]; exact h.gb.sw
  refine ⟨gb, ?_, fun t ht => ?_, ⟨fun t ht => ?_, fun i j hi hj e => ?_⟩, ?_, fun t k u ht ha hk hf hy => ?_, fun hph t ht hnt => ?_, fun hph t k u ht ha hm hg hk hf hu hmu => ?_, fun hph => ⟨fun t ht hnt => ?_, fun t hr ha hs => ?_⟩, fun t hr => ?_⟩
  · rw [iC6]; exact h.q0
  · rcases cases1 t ht with e | e
    · rw [e]; exact zf _ (by decide) (by decide) (by decide)
    · rw [iT t _ e (by decide)]; exact h.r0 t e
  · rw [iC2]
    rcases cases1 t ht with e | e
    · rw [e]
      refine ⟨fun _ => ⟨((σ.1 101 (c 2))).toNat, by omega, by rw [xY, if_pos rfl]⟩, fun _ => adr1⟩
    · rw [iT t _ e (by decide), h.yl.1 t e]
      constructor
      · rintro ⟨i, hi, hx⟩
        exact ⟨i, by omega, by rw [xY, if_neg (by omega)]; exact hx⟩
      · rintro ⟨i, hi, hx⟩
        rw [xY] at hx
        by_cases z : i = ((σ.1 101 (c 2))).toNat
        · rw [if_pos z] at hx
          cases hx
          exact absurd e nT1
        · rw [if_neg z] at hx
          exact ⟨i, by omega, hx⟩
  · rw [iC2] at hi hj
    rw [xY, xY] at e
    by_cases z1 : i = ((σ.1 101 (c 2))).toNat
    · by_cases z2 : j = ((σ.1 101 (c 2))).toNat
      · omega
      · rw [if_pos z1, if_neg z2] at e
        exact absurd (w.ty _ _ _ _ e.symm) nT1
    · by_cases z2 : j = ((σ.1 101 (c 2))).toNat
      · rw [if_neg z1, if_pos z2] at e
        exact absurd (w.ty _ _ _ _ e) nT1
      · rw [if_neg z1, if_neg z2] at e
        exact h.yl.2 i j (by omega) (by omega) e
  · unfold fTaken at hr ⊢
    rw [iC2, show ((σ.1 101 (c 2)) + 1).toNat = ((σ.1 101 (c 2))).toNat + 1 by omega]
    show sumN (fSzAt (grow Λ q1 q2 n cA) (c 3) s) ((σ.1 101 (c 2))).toNat + fSzAt (grow Λ q1 q2 n cA) (c 3) s ((σ.1 101 (c 2))).toNat ≤ 20
    have e1 : sumN (fSzAt (grow Λ q1 q2 n cA) (c 3) s) ((σ.1 101 (c 2))).toNat = sumN (fSzAt Λ (c 3) σ) ((σ.1 101 (c 2))).toNat := by
      refine sumN_congr (fun i hi => ?_)
      unfold fSzAt
      rw [xY, if_neg (by omega)]
      cases hx : σ.2.2 101 (c 3) i with
      | none => rfl
      | some t => exact sz t (w.ty _ _ _ _ hx)
    have e2 : fSzAt (grow Λ q1 q2 n cA) (c 3) s ((σ.1 101 (c 2))).toNat = 1 + (n : Int) := by
      unfold fSzAt
      rw [xY, if_pos rfl]
      show szI _ q1 = _
      unfold szI
      rw [m3]
    rw [e1, e2]
    exact hr
  · rcases cases1 t ht with e | e
    · rw [e, adr1] at ha; omega
    · rw [xF t k e] at hf
      have hU := w.ty _ _ _ _ hf
      rw [iT u _ hU (by decide)] at hy
      rw [iT t _ e (by decide)] at ha ⊢
      rw [(grow_T n1 n2 e).2.2] at hk
      rw [iH _ (by decide)]
      exact h.s1 t k u e ha hk hf hy
  · rw [iH _ (by decide)] at hph
    rcases cases1 t ht with e | e
    · rw [e]; exact zf _ (by decide) (by decide) (by decide)
    · rw [iT t _ e (by decide)] at hnt ⊢
      exact h.s2 hph t e hnt
  · rw [iH _ (by decide)] at hph
    rcases cases1 t ht with e | e
    · rw [e, adr1] at ha; omega
    · rw [xF t k e] at hf
      have hU := w.ty _ _ _ _ hf
      rw [iT u _ hU (by decide)] at hu hmu
      rw [iT t _ e (by decide)] at ha hm hg ⊢
      rw [(grow_T n1 n2 e).2.2] at hk
      rw [iH _ (by decide), iH _ (by decide)]
      exact h.s3 hph t k u e ha hm hg hk hf hu hmu
  · rw [iH _ (by decide)] at hph
    rcases cases1 t ht with e | e
    · rw [e]; exact zf _ (by decide) (by decide) (by decide)
    · rw [iT t _ e (by decide)] at hnt ⊢
      exact (h.s4 hph).1 t e hnt
  · rw [iH _ (by decide)] at hph hs
    rcases eR t hr with e | e
    · rw [e, adr1] at ha; omega
    · have hT := e.thing w.ty
      rw [iT t _ hT (by decide)] at ha hs ⊢
      exact (h.s4 hph).2 t e ha hs
  · rcases eR t hr with e | e
    · rw [e, adr1]; omega
    · rw [iT t _ (e.thing w.ty) (by decide)]
      exact h.s5 t e
end BRN
