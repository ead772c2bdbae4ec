/-! Creating on both sides. -/
def thB (th : Nat → Option Nat) (x q1 : Nat) : Nat → Option Nat := fun i => if i = x then some q1 else th i
-- what the making of a thing changes in the reference
def MC (r : Nat → Nat) (a : Nat) (x : Nat) (nf p : Int) (ρ ρ' : Mem) : Prop :=
  (∀ f q, f ≠ 413 → ρ'.1 f q = ρ.1 f q) ∧
  ((ρ'.1 413 (r 0)) = (ρ.1 413 (r 0)) + 1) ∧
  (∀ kd q k, kd ≠ 1 → kd ≠ 2 → kd ≠ 3 → kd ≠ 4 → kd ≠ 5 → kd ≠ 7 → kd ≠ 8 → ρ'.2.1 kd q k = ρ.2.1 kd q k) ∧
  (∀ i, (ρ'.2.1 1 (r 1) i) = if i = x then 1 else (ρ.2.1 1 (r 1) i)) ∧
  (∀ i, (ρ'.2.1 2 (r 2) i) = if i = x then p else (ρ.2.1 2 (r 2) i)) ∧
  (∀ i, (ρ'.2.1 3 (r 3) i) = if i = x then nf else (ρ.2.1 3 (r 3) i)) ∧
  (∀ i, (ρ'.2.1 5 (r 5) i) = if i = x then 0 else (ρ.2.1 5 (r 5) i)) ∧
  (∀ i, (ρ'.2.1 4 (r 4) i) = if 3 * x ≤ i ∧ i < 3 * x + 3 then -1 else (ρ.2.1 4 (r 4) i)) ∧
  (∀ i, (ρ'.2.1 7 (r 7) i) = if i = a then (x : Int) else (ρ.2.1 7 (r 7) i)) ∧
  (∀ i, (ρ'.2.1 8 (r 8) i) = if i = ((ρ.1 413 (r 0))).toNat then (x : Int) else (ρ.2.1 8 (r 8) i)) ∧
  (∀ kd q k, rng (ρ'.2.1 kd q k)) ∧
  (∀ f q, rng (ρ'.1 f q))
theorem MC.f1 {r : Nat → Nat} {a : Nat} {x : Nat} {nf p : Int} {ρ ρ' : Mem} (h : MC r a x nf p ρ ρ') : ∀ f q, f ≠ 413 → ρ'.1 f q = ρ.1 f q := h.1
theorem MC.f2 {r : Nat → Nat} {a : Nat} {x : Nat} {nf p : Int} {ρ ρ' : Mem} (h : MC r a x nf p ρ ρ') : (ρ'.1 413 (r 0)) = (ρ.1 413 (r 0)) + 1 := h.2.1
theorem MC.ys {r : Nat → Nat} {a : Nat} {x : Nat} {nf p : Int} {ρ ρ' : Mem} (h : MC r a x nf p ρ ρ') : ∀ kd q k, kd ≠ 1 → kd ≠ 2 → kd ≠ 3 → kd ≠ 4 → kd ≠ 5 → kd ≠ 7 → kd ≠ 8 → ρ'.2.1 kd q k = ρ.2.1 kd q k := h.2.2.1
theorem MC.y1 {r : Nat → Nat} {a : Nat} {x : Nat} {nf p : Int} {ρ ρ' : Mem} (h : MC r a x nf p ρ ρ') : ∀ i, (ρ'.2.1 1 (r 1) i) = if i = x then 1 else (ρ.2.1 1 (r 1) i) := h.2.2.2.1
theorem MC.y2 {r : Nat → Nat} {a : Nat} {x : Nat} {nf p : Int} {ρ ρ' : Mem} (h : MC r a x nf p ρ ρ') : ∀ i, (ρ'.2.1 2 (r 2) i) = if i = x then p else (ρ.2.1 2 (r 2) i) := h.2.2.2.2.1
theorem MC.y3 {r : Nat → Nat} {a : Nat} {x : Nat} {nf p : Int} {ρ ρ' : Mem} (h : MC r a x nf p ρ ρ') : ∀ i, (ρ'.2.1 3 (r 3) i) = if i = x then nf else (ρ.2.1 3 (r 3) i) := h.2.2.2.2.2.1
theorem MC.y5 {r : Nat → Nat} {a : Nat} {x : Nat} {nf p : Int} {ρ ρ' : Mem} (h : MC r a x nf p ρ ρ') : ∀ i, (ρ'.2.1 5 (r 5) i) = if i = x then 0 else (ρ.2.1 5 (r 5) i) := h.2.2.2.2.2.2.1
theorem MC.y4 {r : Nat → Nat} {a : Nat} {x : Nat} {nf p : Int} {ρ ρ' : Mem} (h : MC r a x nf p ρ ρ') : ∀ i, (ρ'.2.1 4 (r 4) i) = if 3 * x ≤ i ∧ i < 3 * x + 3 then -1 else (ρ.2.1 4 (r 4) i) := h.2.2.2.2.2.2.2.1
theorem MC.y7 {r : Nat → Nat} {a : Nat} {x : Nat} {nf p : Int} {ρ ρ' : Mem} (h : MC r a x nf p ρ ρ') : ∀ i, (ρ'.2.1 7 (r 7) i) = if i = a then (x : Int) else (ρ.2.1 7 (r 7) i) := h.2.2.2.2.2.2.2.2.1
theorem MC.y8 {r : Nat → Nat} {a : Nat} {x : Nat} {nf p : Int} {ρ ρ' : Mem} (h : MC r a x nf p ρ ρ') : ∀ i, (ρ'.2.1 8 (r 8) i) = if i = ((ρ.1 413 (r 0))).toNat then (x : Int) else (ρ.2.1 8 (r 8) i) := h.2.2.2.2.2.2.2.2.2.1
theorem MC.hr {r : Nat → Nat} {a : Nat} {x : Nat} {nf p : Int} {ρ ρ' : Mem} (h : MC r a x nf p ρ ρ') : ∀ kd q k, rng (ρ'.2.1 kd q k) := h.2.2.2.2.2.2.2.2.2.2.1
theorem MC.hi {r : Nat → Nat} {a : Nat} {x : Nat} {nf p : Int} {ρ ρ' : Mem} (h : MC r a x nf p ρ ρ') : ∀ f q, rng (ρ'.1 f q) := h.2.2.2.2.2.2.2.2.2.2.2
section RCR
variable {l : Launch} {D : va_G} {Λ ΛR : Lam} {c r : Nat → Nat} {th : Nat → Option Nat} {σ ρ : Mem} {q1 q2 n : Nat} {cA : ClassId}
theorem thB_at {x : Nat} : thB th x q1 x = some q1 := if_pos rfl
theorem thB_ne {x i : Nat} (h : i ≠ x) : thB th x q1 i = th i := if_neg h
theorem RW.mc {ρ' : Mem} {a x : Nat} {nf p : Int} (w : RW ΛR r ρ) (m : MC r a x nf p ρ ρ') (hx : x < 90) (hn : 0 ≤ nf ∧ nf ≤ 3) (hy : (ρ.1 413 (r 0)) < 20) : RW ΛR r ρ' := by
  have ek : ∀ kd q k, kd ≠ 1 ∧ kd ≠ 2 ∧ kd ≠ 3 ∧ kd ≠ 4 ∧ kd ≠ 5 ∧ kd ≠ 7 ∧ kd ≠ 8 → ρ'.2.1 kd q k = ρ.2.1 kd q k := fun kd q k b => m.ys kd q k b.1 b.2.1 b.2.2.1 b.2.2.2.1 b.2.2.2.2.1 b.2.2.2.2.2.1 b.2.2.2.2.2.2
  have yo := w.yo
  refine ⟨w.ly, m.hi, m.hr, fun i hi => ?_, fun i hi => ?_, fun i hi => ?_, fun i hi => ?_, fun i hi => ?_, fun i hi => ?_, fun i hi => ?_, fun i hi => ?_, by rw [m.f2]; omega, fun i hi => ?_⟩
  · rw [m.y1]
    split
    · exact Or.inr (Or.inl rfl)
    · exact w.kn i hi
  · rw [m.y3]
    split
    · exact hn
    · exact w.fd i hi
  · rw [ek 6 _ _ (by decide)]; exact w.pa i hi
  · rw [m.y4]
    split
    · omega
    · exact w.rf i hi
  · rw [m.y7]
    split
    · omega
    · exact w.rt i hi
  · rw [m.y5]
    split
    · omega
    · exact w.ag i hi
  · rw [ek 51 _ _ (by decide), ek 52 _ _ (by decide)]; exact w.bm i hi
  · rw [ek 53 _ _ (by decide), ek 54 _ _ (by decide)]; exact w.bd i hi
  · rw [m.f2] at hi
    rw [m.y8]
    split
    · omega
    · exact w.od i (by omega)
theorem new_X {p : Int} {a : Nat} (hc : (σ.1 101 (c 2)) < 20) (g2 : c 2 ≠ q1 ∧ c 2 ≠ q2) {kd q k : Nat} (hq1 : q ≠ q1) (hq2 : q ≠ q2) : (gNew c a q1 q2 p σ).2.2 kd q k = if kd = 100 ∧ q = c 1 ∧ k = a then some q1 else if kd = 101 ∧ q = c 3 ∧ k = ((σ.1 101 (c 2))).toNat then some q1 else σ.2.2 kd q k := by
  have e2 : ((gBirth q1 q2 p σ).1 101 (c 2)) = (σ.1 101 (c 2)) := birth_I g2.1 g2.2
  have ef : fAdd (c 2) (c 3) 20 (some q1) (gBirth q1 q2 p σ) = (1, gAdd (c 2) (c 3) (some q1) (gBirth q1 q2 p σ)) := by
    unfold fAdd
    rw [if_neg (by rw [e2]; omega)]
  unfold gNew
  rw [upX_22, ef]
  show (if kd = 100 ∧ q = c 1 ∧ k = a then some q1 else if kd = 101 ∧ q = c 3 ∧ k = (((gBirth q1 q2 p σ).1 101 (c 2))).toNat then some q1 else (gBirth q1 q2 p σ).2.2 kd q k) = _
  rw [e2, birth_X, if_neg (show ¬ (q = q1 ∨ q = q2) from fun y => y.elim hq1 hq2)]
theorem new_I {p : Int} {a : Nat} (hc : (σ.1 101 (c 2)) < 20) (g2 : c 2 ≠ q1 ∧ c 2 ≠ q2) {f q : Nat} (h : ¬ (f = 101 ∧ q = c 2)) : (gNew c a q1 q2 p σ).1 f q = (gBirth q1 q2 p σ).1 f q := by
  have e2 : ((gBirth q1 q2 p σ).1 101 (c 2)) = (σ.1 101 (c 2)) := birth_I g2.1 g2.2
  unfold gNew
  rw [upX_1]
  unfold fAdd
  rw [e2, if_neg (by omega)]
  show (gAdd (c 2) (c 3) (some q1) (gBirth q1 q2 p σ)).1 f q = _
  unfold gAdd
  rw [upI_1, if_neg h]
  rfl
theorem new_C {p : Int} {a : Nat} (hc : (σ.1 101 (c 2)) < 20) (g2 : c 2 ≠ q1 ∧ c 2 ≠ q2) : ((gNew c a q1 q2 p σ).1 101 (c 2)) = (σ.1 101 (c 2)) + 1 := by
  have e2 : ((gBirth q1 q2 p σ).1 101 (c 2)) = (σ.1 101 (c 2)) := birth_I g2.1 g2.2
  unfold gNew
  rw [upX_1]
  unfold fAdd
  rw [e2, if_neg (by omega)]
  show (gAdd (c 2) (c 3) (some q1) (gBirth q1 q2 p σ)).1 101 (c 2) = _
  unfold gAdd
  rw [upI_at, e2]
theorem RB.born {ρ' : Mem} {a x : Nat} {p : Int} (h : RB Λ c r th σ ρ) (g : GD Λ c σ) (fj : FJ Λ) (n1 : Λ q1 = none) (n2 : Λ q2 = none) (hq : q2 ≠ q1) (hn : n ≤ 3) (hc : (σ.1 101 (c 2)) < 20) (ha : a < 6) (hx : x < 90) (hfree : th x = none) (m : MC r a x n p ρ ρ') : RB (grow Λ q1 q2 n cA) c r (thB th x q1) (gNew c a q1 q2 p σ) ρ' := by
  have ek : ∀ kd q k, kd ≠ 1 ∧ kd ≠ 2 ∧ kd ≠ 3 ∧ kd ≠ 4 ∧ kd ≠ 5 ∧ kd ≠ 7 ∧ kd ≠ 8 → ρ'.2.1 kd q k = ρ.2.1 kd q k := fun kd q k b => m.ys kd q k b.1 b.2.1 b.2.2.1 b.2.2.2.1 b.2.2.2.2.1 b.2.2.2.2.2.1 b.2.2.2.2.2.2
  have ly1 := Lay_ne n1 g.gb.wf.ly
  have ly2 := Lay_ne n2 g.gb.wf.ly
  have g2 : c 2 ≠ q1 ∧ c 2 ≠ q2 := ⟨ly1.2.2.1, ly2.2.2.1⟩
  obtain ⟨N1, N2, N3⟩ := grow_new (Λ := Λ) (cA := cA) hq hn
  have old : ∀ t, isT Λ t → isT (grow Λ q1 q2 n cA) t ∧ faL (grow Λ q1 q2 n cA) t = faL Λ t ∧ nfL (grow Λ q1 q2 n cA) t = nfL Λ t ∧ t ≠ q1 ∧ t ≠ q2 ∧ faL Λ t ≠ q1 ∧ faL Λ t ≠ q2 := by
    intro t ht
    obtain ⟨a1, a2, a3⟩ := grow_T (cA := cA) (n := n) n1 n2 ht
    obtain ⟨b1, b2⟩ := T_ne n1 ht
    obtain ⟨d1, d2⟩ := T_ne n2 ht
    exact ⟨a1, a2, a3, b1, d1, b2, d2⟩
  have oI : ∀ f t, isT Λ t → f ≠ 101 → (gNew c a q1 q2 p σ).1 f t = σ.1 f t := by
    intro f t ht hf
    obtain ⟨_, _, _, b1, d1, _⟩ := old t ht
    rw [new_I hc g2 (fun z => hf z.1)]
    exact birth_I b1 d1
  have nI : ∀ f, f ≠ 101 → (gNew c a q1 q2 p σ).1 f q1 = if f = 203 then -1 else if f = 200 then p else 0 := by
    intro f hf
    rw [new_I hc g2 (fun z => hf z.1)]
    exact birth_1 hq
  have cI : ∀ f, f ≠ 101 → (gNew c a q1 q2 p σ).1 f (c 0) = σ.1 f (c 0) := by
    intro f hf
    rw [new_I hc g2 (fun z => hf z.1)]
    exact birth_I ly1.1 ly2.1
  have thn : ∀ i, i < 90 → ∀ t, th i = some t → i ≠ x := fun i _ t e z => by rw [z, hfree] at e; cases e
  have rr : ∀ (z : Int) (o : Option Nat), RR th z o → RR (thB th x q1) z o := by
    intro z o hz
    rcases hz with ⟨e1, e2⟩ | ⟨j, u, hj, e1, e2, e3⟩
    · exact Or.inl ⟨e1, e2⟩
    · exact Or.inr ⟨j, u, hj, e1, by rw [thB_ne (thn j hj u e2)]; exact e2, e3⟩
  have T : ∀ i u, thB th x q1 i = some u → (i = x ∧ u = q1) ∨ (i ≠ x ∧ th i = some u) := by
    intro i u e
    by_cases y : i = x
    · rw [y, thB_at] at e
      exact Or.inl ⟨y, (Option.some.inj e).symm⟩
    · rw [thB_ne y] at e
      exact Or.inr ⟨y, e⟩
  have nq1 : ∀ i, i < 90 → th i ≠ some q1 := by
    intro i hi e
    have hT := (h.k1 i q1 hi e).1
    exact (old q1 hT).2.2.2.1 rfl
  refine ⟨fun i hi => ?_, fun i u hi e => ?_, fun i j u hi hj ei ej => ?_, fun u hu hn2 => ?_, fun i u hi e => ?_, fun i hi e => ?_, fun i u k hi e hk => ?_, fun i hi => ?_, fun i hi => ?_, ⟨?_, ?_, ?_⟩, fun i hi => ?_⟩
  · rw [m.y1]
    by_cases y : i = x
    · rw [if_pos y, y, thB_at]
      exact ⟨fun z => absurd z (by decide), fun z => (by cases z)⟩
    · rw [if_neg y, thB_ne y]; exact h.k0 i hi
  · rw [m.y1, ek 6 _ _ (by decide)]
    rcases T i u e with ⟨y, e2⟩ | ⟨y, e2⟩
    · rw [if_pos y, e2, nI 203 (by decide), if_pos rfl]
      exact ⟨N1, by decide, ⟨fun _ => rfl, fun _ => rfl⟩, fun z => absurd z (by decide)⟩
    · obtain ⟨b1, b2, b3, b4⟩ := h.k1 i u hi e2
      rw [if_neg y, oI 203 u b1 (by decide)]
      exact ⟨(old u b1).1, b2, b3, b4⟩
  · rcases T i u ei with ⟨y, e2⟩ | ⟨y, e2⟩
    · rcases T j u ej with ⟨y', e2'⟩ | ⟨y', e2'⟩
      · omega
      · rw [e2] at e2'; exact absurd e2' (nq1 j hj)
    · rcases T j u ej with ⟨y', e2'⟩ | ⟨y', e2'⟩
      · rw [e2'] at e2; exact absurd e2 (nq1 i hi)
      · exact h.k2 i j u hi hj e2 e2'
  · rcases grow_inv fj n1 hq hu with y | y
    · exact ⟨x, hx, by rw [y]; exact thB_at⟩
    · rw [oI 203 u y (by decide)] at hn2
      obtain ⟨i, hi, e⟩ := h.k3 u y hn2
      exact ⟨i, hi, by rw [thB_ne (thn i hi u e)]; exact e⟩
  · rw [m.y1, m.y2, m.y3, m.y5, ek 51 _ _ (by decide), ek 52 _ _ (by decide)]
    rcases T i u e with ⟨y, e2⟩ | ⟨y, e2⟩
    · have k5 := h.k5 i hi (by rw [y]; exact hfree)
      rw [if_pos y, if_pos y, if_pos y, if_pos y, e2, N3, nI 200 (by decide), nI 204 (by decide), nI 205 (by decide), nI 202 (by decide), k5.1, k5.2]
      exact ⟨rfl, rfl, rfl, rfl, fun _ => rfl⟩
    · obtain ⟨b1, _⟩ := h.k1 i u hi e2
      rw [if_neg y, if_neg y, if_neg y, if_neg y, (old u b1).2.2.1, oI 200 u b1 (by decide), oI 204 u b1 (by decide), oI 205 u b1 (by decide), oI 202 u b1 (by decide)]
      exact h.k4 i u hi e2
  · have y : i ≠ x := fun z => by rw [z, thB_at] at e; cases e
    rw [thB_ne y] at e
    rw [ek 51 _ _ (by decide), ek 52 _ _ (by decide)]
    exact h.k5 i hi e
  · rw [m.y4]
    rcases T i u e with ⟨y, e2⟩ | ⟨y, e2⟩
    · rw [e2] at hk ⊢
      rw [N3] at hk
      rw [if_pos ⟨by omega, by omega⟩, N2]
      left; left
      refine ⟨rfl, ?_⟩
      unfold gNew
      rw [upX_22, if_neg (fun z => by have := z.1; omega)]
      rw [add_keepK (by decide), birth_X, if_pos (Or.inr rfl)]
    · obtain ⟨b1, _⟩ := h.k1 i u hi e2
      obtain ⟨o1, o2, o3, o4, o5, o6, o7⟩ := old u b1
      rw [o3] at hk
      have n3 : nfL Λ u ≤ 3 := b1.2.2
      rw [if_neg (by omega), o2, new_X hc g2 o6 o7, if_neg (by omega), if_neg (by omega)]
      rcases h.k6 i u k hi e2 hk with z | ⟨z, v, zv, za⟩
      · exact Or.inl (rr _ _ z)
      · exact Or.inr ⟨z, v, zv, by rw [oI 203 v (g.gb.wf.ty _ _ _ _ zv) (by decide)]; exact za⟩
  · rw [m.y7, new_X hc g2 ly1.2.1 ly2.2.1]
    by_cases y : i = a
    · rw [if_pos y, if_pos ⟨rfl, rfl, y⟩]
      exact Or.inr ⟨x, q1, hx, rfl, thB_at, rfl⟩
    · rw [if_neg y, if_neg (fun z => y z.2.2), if_neg (by omega)]
      exact rr _ _ (h.k7 i hi)
  · rw [ek 53 _ _ (by decide), ek 54 _ _ (by decide), cI 304 (by decide), cI 305 (by decide)]
    exact h.k8 i hi
  · rw [m.f1 _ _ (by decide), cI 306 (by decide)]; exact h.k9.1
  · rw [m.f1 _ _ (by decide), cI 307 (by decide)]; exact h.k9.2.1
  · rw [m.f2, new_C hc g2, h.k9.2.2]
  · rw [m.f2] at hi
    have e9 := h.k9.2.2
    have eX : (gNew c a q1 q2 p σ).2.2 101 (c 3) i = if i = ((σ.1 101 (c 2))).toNat then some q1 else σ.2.2 101 (c 3) i := by
      rw [new_X hc g2 ly1.2.2.2.1 ly2.2.2.2.1, if_neg (by omega)]
      by_cases y : i = ((σ.1 101 (c 2))).toNat
      · rw [if_pos ⟨rfl, rfl, y⟩, if_pos y]
      · rw [if_neg (fun z => y z.2.2), if_neg y]
    rw [m.y8, eX]
    by_cases y : i = ((ρ.1 413 (r 0))).toNat
    · rw [if_pos y, if_pos (by rw [← e9]; exact y)]
      exact ⟨x, q1, hx, rfl, thB_at, rfl⟩
    · rw [if_neg y, if_neg (fun z => y (by rw [e9]; exact z))]
      obtain ⟨j, t, hj, a1, a2, a3⟩ := h.ka i (by have := g.gb.wf.y0; omega)
      exact ⟨j, t, hj, a1, by rw [thB_ne (thn j hj t a2)]; exact a2, a3⟩
theorem RB.free (g : GD Λ c σ) (h : RB Λ c r th σ ρ) : ∃ x : Nat, x < 90 ∧ th x = none := by
  by_cases ex : ∃ x : Nat, x < 90 ∧ th x = none
  · exact ex
  · exfalso
    have all : ∀ i, i < 90 → ∃ t, th i = some t := by
      intro i hi
      cases e : th i with
      | none => exact absurd ⟨i, hi, e⟩ ex
      | some t => exact ⟨t, rfl⟩
    have hp := g.room (fun i => (th i).getD 0) 90 (fun i hi => ?_) (fun i j hi hj e => ?_)
    · omega
    · obtain ⟨t, e⟩ := all i hi
      rw [e]
      exact ⟨(h.k1 i t hi e).1, (h.k1 i t hi e).2.1⟩
    · obtain ⟨t, e1⟩ := all i hi
      obtain ⟨u, e2⟩ := all j hj
      rw [e1, e2] at e
      have e : t = u := e
      exact h.k2 i j t hi hj e1 (by rw [e2, e])
-- the making itself
theorem mk_new {x : Cx} {P : Int → Mem → Prop} {a1 a2 a3 : Int} (hx : X_M_create x) (w : RW ΛR r ρ) (g : GD Λ c σ) (h : RB Λ c r th σ ρ) (r1 : 0 ≤ a1 ∧ a1 < 6) (r2 : 0 ≤ a2 ∧ a2 ≤ 3) (r3 : rng a3) (hc : (σ.1 101 (c 2)) < 20) (go : ∀ (xs : Nat) (ρ' : Mem), xs < 90 → th xs = none → MC r a1.toNat xs a2 a3 ρ ρ' → P 0 ρ') : N_M_create_75 x P ΛR ρ r a1 a2 a3 0 := by
  have hL := w.ly
  have e9 := h.k9.2.2
  have yo := w.yo
  obtain ⟨x0, hx0, e0⟩ := h.free g
  have take : ∀ i : Nat, i < 90 → (ρ.2.1 1 (r 1) i) = 0 → N_M_create_126 x P ΛR (upY (upY (upY (upY ρ 1 (r 1) i 1) 2 (r 2) i a3) 3 (r 3) i a2) 5 (r 5) i 0) r a1 i 0 := by
    intro i hi hk
    have hti := (h.k0 i hi).mp hk
    generalize hq : upY (upY (upY (upY ρ 1 (r 1) i 1) 2 (r 2) i a3) 3 (r 3) i a2) 5 (r 5) i 0 = q0
    have q1 : q0.1 = ρ.1 := by rw [← hq]; rfl
    have qk : ∀ kd a k, kd ≠ 1 → kd ≠ 2 → kd ≠ 3 → kd ≠ 5 → q0.2.1 kd a k = ρ.2.1 kd a k := by
      intro kd a k k1 k2 k3 k5
      rw [← hq, upY_nk k5, upY_nk k3, upY_nk k2, upY_nk k1]
    have qa : ∀ k, q0.2.1 1 (r 1) k = if k = i then 1 else (ρ.2.1 1 (r 1) k) := by
      intro k
      rw [← hq, upY_nk (by decide), upY_nk (by decide), upY_nk (by decide)]
      by_cases y : k = i
      · rw [if_pos y, y, upY_at]
      · rw [if_neg y, upY_ni y]
    have qb : ∀ k, q0.2.1 2 (r 2) k = if k = i then a3 else (ρ.2.1 2 (r 2) k) := by
      intro k
      rw [← hq, upY_nk (by decide), upY_nk (by decide)]
      by_cases y : k = i
      · rw [if_pos y, y, upY_at]
      · rw [if_neg y, upY_ni y, upY_nk (by decide)]
    have qc : ∀ k, q0.2.1 3 (r 3) k = if k = i then a2 else (ρ.2.1 3 (r 3) k) := by
      intro k
      rw [← hq, upY_nk (by decide)]
      by_cases y : k = i
      · rw [if_pos y, y, upY_at]
      · rw [if_neg y, upY_ni y, upY_nk (by decide), upY_nk (by decide)]
    have qd : ∀ k, q0.2.1 5 (r 5) k = if k = i then 0 else (ρ.2.1 5 (r 5) k) := by
      intro k
      rw [← hq]
      by_cases y : k = i
      · rw [if_pos y, y, upY_at]
      · rw [if_neg y, upY_ni y, upY_nk (by decide), upY_nk (by decide), upY_nk (by decide)]
    have qr : ∀ kd a k, rng (q0.2.1 kd a k) := by
      rw [← hq]
      exact rng_upY (rng_upY (rng_upY (rng_upY w.ry ⟨by omega, by omega⟩) r3) ⟨by omega, by omega⟩) rng_0
    clear hq
    have loop : ∀ m k : Nat, k + m = 3 → ∀ q : Mem, q.1 = ρ.1 → (∀ kd a j, kd ≠ 4 → q.2.1 kd a j = q0.2.1 kd a j) → (∀ j, (q.2.1 4 (r 4) j) = if 3 * i ≤ j ∧ j < 3 * i + k then -1 else (ρ.2.1 4 (r 4) j)) → (∀ kd a k, rng (q.2.1 kd a k)) → N_M_create_126 x P ΛR q r a1 i k := by
      intro m
      induction m with
      | zero =>
        intro k hk2 q b1 b2 b3 b4
        have k3 : k = 3 := by omega
        subst k3
        have ey : (q.1 413 (r 0)) = (ρ.1 413 (r 0)) := by rw [b1]
        refine u_M_create_126 hx hL ⟨⟨by omega, by omega⟩, fun _ => ⟨?_, ?_, r1.1, r1.2, ?_⟩, fun z => absurd (by omega) z⟩
        · show 0 ≤ (q.1 413 (r 0)); omega
        · show (q.1 413 (r 0)) < 20; omega
        · show P 0 (upY (upI (upY q 8 (r 8) ((q.1 413 (r 0))).toNat i) 413 (r 0) ((q.1 413 (r 0)) + 1)) 7 (r 7) a1.toNat i)
          refine go i _ hi hti ?_
          have yk : ∀ kd a j, kd ≠ 7 → kd ≠ 8 → (upY (upI (upY q 8 (r 8) ((q.1 413 (r 0))).toNat i) 413 (r 0) ((q.1 413 (r 0)) + 1)) 7 (r 7) a1.toNat i).2.1 kd a j = q.2.1 kd a j := by
            intro kd a j k7 k8
            rw [upY_nk k7]
            show (upY q 8 (r 8) ((q.1 413 (r 0))).toNat i).2.1 kd a j = _
            rw [upY_nk k8]
          refine ⟨fun f a hf => ?_, ?_, fun kd a j k1 k2 k3 k4 k5 k7 k8 => ?_, fun j => ?_, fun j => ?_, fun j => ?_, fun j => ?_, fun j => ?_, fun j => ?_, fun j => ?_, ?_, ?_⟩
          · show (upI (upY q 8 (r 8) ((q.1 413 (r 0))).toNat i) 413 (r 0) ((q.1 413 (r 0)) + 1)).1 f a = _
            rw [upI_ne hf]
            show q.1 f a = _
            rw [b1]
          · show (upI (upY q 8 (r 8) ((q.1 413 (r 0))).toNat i) 413 (r 0) ((q.1 413 (r 0)) + 1)).1 413 (r 0) = _
            rw [upI_at, ey]
          · rw [yk kd a j k7 k8, b2 kd a j k4]; exact qk kd a j k1 k2 k3 k5
          · rw [yk _ _ _ (by decide) (by decide), b2 _ _ _ (by decide)]; exact qa j
          · rw [yk _ _ _ (by decide) (by decide), b2 _ _ _ (by decide)]; exact qb j
          · rw [yk _ _ _ (by decide) (by decide), b2 _ _ _ (by decide)]; exact qc j
          · rw [yk _ _ _ (by decide) (by decide), b2 _ _ _ (by decide)]; exact qd j
          · rw [yk _ _ _ (by decide) (by decide)]; exact b3 j
          · by_cases y : j = a1.toNat
            · rw [y, upY_at, if_pos rfl]
            · rw [upY_ni y, if_neg y]
              show (upY q 8 (r 8) ((q.1 413 (r 0))).toNat i).2.1 7 (r 7) j = _
              rw [upY_nk (by decide), b2 _ _ _ (by decide)]
              exact qk _ _ _ (by decide) (by decide) (by decide) (by decide)
          · rw [upY_nk (by decide)]
            show (upY q 8 (r 8) ((q.1 413 (r 0))).toNat i).2.1 8 (r 8) j = _
            rw [ey]
            by_cases y : j = ((ρ.1 413 (r 0))).toNat
            · rw [y, upY_at, if_pos rfl]
            · rw [upY_ni y, if_neg y, b2 _ _ _ (by decide)]
              exact qk _ _ _ (by decide) (by decide) (by decide) (by decide)
          · exact rng_upY (ρ := upI (upY q 8 (r 8) ((q.1 413 (r 0))).toNat i) 413 (r 0) ((q.1 413 (r 0)) + 1)) (rng_upY b4 ⟨by omega, by omega⟩) ⟨by omega, by omega⟩
          · refine rng_upI (ρ := upY q 8 (r 8) ((q.1 413 (r 0))).toNat i) ?_ ⟨by omega, by omega⟩
            show ∀ f a, rng (q.1 f a)
            rw [b1]; exact w.ri
      | succ m ih =>
        intro k hk2 q b1 b2 b3 b4
        have ei : (3 * (i : Int) + (k : Int)).toNat = 3 * i + k := by omega
        refine u_M_create_126 hx hL ⟨⟨by omega, by omega⟩, fun z => absurd z (by omega), fun _ => ⟨by omega, by omega, ?_⟩⟩
        rw [ei]
        refine ih (k + 1) (by omega) _ b1 (fun kd a j hj => by rw [upY_nk hj]; exact b2 kd a j hj) (fun j => ?_) (rng_upY b4 ⟨by omega, by omega⟩)
        by_cases y : j = 3 * i + k
        · rw [y, upY_at, if_pos ⟨by omega, by omega⟩]
        · rw [upY_ni y, b3 j]
          by_cases y2 : 3 * i ≤ j ∧ j < 3 * i + k
          · rw [if_pos y2, if_pos ⟨by omega, by omega⟩]
          · rw [if_neg y2, if_neg (by omega)]
    refine loop 3 0 rfl q0 q1 (fun _ _ _ _ => rfl) (fun j => ?_) qr
    rw [if_neg (by omega)]
    exact qk _ _ _ (by decide) (by decide) (by decide) (by decide)
  have seek : ∀ m i : Nat, i + m = x0 → N_M_create_75 x P ΛR ρ r a1 a2 a3 i := by
    intro m
    induction m with
    | zero =>
      intro i hi
      have hk : (ρ.2.1 1 (r 1) i) = 0 := (h.k0 i (by omega)).mpr (by rw [show i = x0 by omega]; exact e0)
      exact u_M_create_75 hx hL ⟨by omega, by omega, w.ry _ _ _, fun z => ⟨by omega, by omega, by omega, by omega, by omega, by omega, by omega, by omega, take i (by omega) z⟩, fun z => absurd hk z⟩
    | succ m ih =>
      intro i hi
      exact u_M_create_75 hx hL ⟨by omega, by omega, w.ry _ _ _, fun z => ⟨by omega, by omega, by omega, by omega, by omega, by omega, by omega, by omega, take i (by omega) z⟩, fun z => ih (i + 1) (by omega)⟩
  exact seek x0 0 (by omega)
theorem s_create {a1 a2 a3 : Int} {P : Int → Mem → Prop} (w : RW ΛR r ρ) (g : GD Λ c σ) (fj : FJ Λ) (h : RB Λ c r th σ ρ) (h1 : rng a1) (h2 : rng a2) (h3 : rng a3)
    (p1 : ¬ (0 ≤ a1 ∧ a1 < 6) → P (-2) ρ)
    (p2 : 0 ≤ a1 ∧ a1 < 6 → ¬ (0 ≤ a2 ∧ a2 ≤ 3) → P (-4) ρ)
    (p3 : 0 ≤ a1 ∧ a1 < 6 → 0 ≤ a2 ∧ a2 ≤ 3 → ¬ fTaken Λ (c 2) (c 3) (crt2 Λ c (1 + a2) σ) + (1 + a2) ≤ 20 → ∀ th' ρ', RW ΛR r ρ' → RB Λ c r th' (crt2 Λ c (1 + a2) σ) ρ' → P (-5) ρ')
    (p4 : 0 ≤ a1 ∧ a1 < 6 → 0 ≤ a2 ∧ a2 ≤ 3 → fTaken Λ (c 2) (c 3) (crt2 Λ c (1 + a2) σ) + (1 + a2) ≤ 20 → ∀ ρ', RW ΛR r ρ' → (∀ q1 q2 cA, Λ q1 = none → Λ q2 = none → q2 ≠ q1 → ∃ th', RB (grow Λ q1 q2 a2.toNat cA) c r th' (gNew c a1.toNat q1 q2 a3 (crt2 Λ c (1 + a2) σ)) ρ') → P 0 ρ') : K_M_create l D ΛR ρ r a1 a2 a3 P := by
  refine e_M_create (fun x hl hD hx => ?_)
  subst hl; subst hD
  have hL := w.ly
  refine u_M_create_0 hx hL (isR_c h1 (fun n => ⟨rng_0, fun z => absurd rfl z, fun _ => p1 n⟩) (fun y => ⟨rng_1, fun _ => ⟨h2, fun z => p2 y (by omega), fun z => ⟨fun z2 => ?_, fun z2 => p2 y (by omega)⟩⟩, fun z => absurd z (by decide)⟩))
  have hn : 0 ≤ a2 ∧ a2 ≤ 3 := ⟨by omega, z2⟩
  have P3 := p3 y hn
  have P4 := p4 y hn
  have gA := g.crtA (z := 1 + a2)
  have gB := g.crtB (z := 1 + a2)
  have tk : ∀ s, GD Λ c s → 0 ≤ fTaken Λ (c 2) (c 3) s ∧ fTaken Λ (c 2) (c 3) s ≤ 20 := fun s gs => ⟨Int.le_trans gs.gb.wf.y0 (cnt_le_taken gs.gb.wf), gs.y20⟩
  -- behind the collections
  have at56 : ∀ th' q, RW ΛR r q → RB Λ c r th' (crt2 Λ c (1 + a2) σ) q → N_M_create_56 x P ΛR q r a1 a2 a3 := by
    intro th' q wq hq
    have t2 := tk _ gB
    refine u_M_create_56 hx hL (s_youngCells wq gB hq ⟨⟨by omega, by omega⟩, fun u => ?_, fun u => P3 (by omega) th' q wq hq⟩)
    have hc : ((crt2 Λ c (1 + a2) σ).1 101 (c 2)) < 20 := by
      have := cnt_le_taken gB.gb.wf
      omega
    refine mk_new hx wq gB hq y hn h3 hc (fun xs ρ' hxs hfree m => P4 (by omega) ρ' (wq.mc m hxs hn ?_) (fun q1 q2 cA n1 n2 hq2 => ⟨thB th' xs q1, ?_⟩))
    · have e9 := hq.k9.2.2; omega
    · refine hq.born gB fj n1 n2 hq2 (by omega) hc (by omega) hxs hfree ?_
      rw [show ((a2.toNat : Nat) : Int) = a2 by omega]
      exact m
  have at39 : ∀ th' q, RW ΛR r q → RB Λ c r th' (crt1 Λ c (1 + a2) σ) q → N_M_create_39 x P ΛR q r a1 a2 a3 := by
    intro th' q wq hq
    have t1 := tk _ gA
    refine u_M_create_39 hx hL (s_youngCells wq gA hq ⟨⟨by omega, by omega⟩, fun u => at56 th' q wq ?_, fun u => s_collectFull wq gA hq (fun th2 q2 w2 h2 _ => at56 th2 q2 w2 ?_)⟩)
    · unfold crt2
      rw [if_pos (by omega)]; exact hq
    · unfold crt2
      rw [if_neg (by omega)]; exact h2
  have t0 := tk _ g
  refine s_youngCells w g h ⟨⟨by omega, by omega⟩, fun u => at39 th ρ w ?_, fun u => s_collectYoung w g h (fun th2 q2 w2 h2 _ => at39 th2 q2 w2 ?_)⟩
  · unfold crt1
    rw [if_pos (by omega)]; exact h
  · unfold crt1
    rw [if_neg (by omega)]; exact h2
end RCR
