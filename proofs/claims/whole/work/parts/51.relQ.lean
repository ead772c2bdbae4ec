/-! Removing a slot; the next thing from an address on, on both sides. -/
section RLQ
variable {l : Launch} {D : va_G} {Λ ΛR : Lam} {c r : Nat → Nat} {th : Nat → Option Nat} {σ ρ : Mem}
theorem c_M_remove {j : Nat} {P : Mem → Prop} (w : RW ΛR r ρ) (hj : j < 90) (hp : ∀ ρ' : Mem, ρ'.1 = ρ.1 → (∀ kd q k, kd ≠ 4 → ρ'.2.1 kd q k = (upY (upY (upY ρ 1 (r 1) j 0) 51 (r 51) j 0) 52 (r 52) j 0).2.1 kd q k) → (∀ m : Nat, m < 270 → (ρ'.2.1 4 (r 4) m) = if (ρ.2.1 4 (r 4) m) = j then -1 else (ρ.2.1 4 (r 4) m)) → (∀ kd q k, rng (ρ'.2.1 kd q k)) → P ρ') : K_M_remove l D ΛR ρ r j P := by
  refine e_M_remove (fun x hl hD hx => ?_)
  subst hl; subst hD
  have hL := w.ly
  refine u_M_remove_0 hx hL ⟨by omega, by omega, by omega, by omega, by omega, by omega, ?_⟩
  have r0 : ∀ kd q k, rng ((upY (upY (upY ρ 1 (r 1) j 0) 51 (r 51) j 0) 52 (r 52) j 0).2.1 kd q k) := by
    intro kd q k
    rw [upY_21]
    split
    · exact rng_0
    · rw [upY_21]
      split
      · exact rng_0
      · rw [upY_21]
        split
        · exact rng_0
        · exact w.ry kd q k
  have loop : ∀ n i : Nat, i + n = 270 → ∀ q3 : Mem, q3.1 = ρ.1 → (∀ kd q k, kd ≠ 4 → q3.2.1 kd q k = (upY (upY (upY ρ 1 (r 1) j 0) 51 (r 51) j 0) 52 (r 52) j 0).2.1 kd q k) → (∀ kd q k, rng (q3.2.1 kd q k)) → (∀ m : Nat, m < i → (q3.2.1 4 (r 4) m) = if (ρ.2.1 4 (r 4) m) = j then -1 else (ρ.2.1 4 (r 4) m)) → (∀ m : Nat, i ≤ m → (q3.2.1 4 (r 4) m) = (ρ.2.1 4 (r 4) m)) → N_M_remove_23 x P ΛR q3 r j i := by
    intro n
    induction n with
    | zero =>
      intro i hi q3 a1 a2 a3 a4 a5
      exact u_M_remove_23 hx hL ⟨⟨by omega, by omega⟩, fun _ => hp q3 a1 a2 (fun m hm => a4 m (by omega)) a3, fun z => absurd z (by omega)⟩
    | succ n ih =>
      intro i hi q3 a1 a2 a3 a4 a5
      have go : ∀ v : Int, rng v → v = (if (ρ.2.1 4 (r 4) i) = j then -1 else (ρ.2.1 4 (r 4) i)) → N_M_remove_23 x P ΛR (upY q3 4 (r 4) i v) r j (i + 1 : Nat) := by
        intro v hv e
        refine ih (i + 1) (by omega) _ a1 (fun kd q k hk => ?_) (fun kd q k => ?_) (fun m hm => ?_) (fun m hm => ?_)
        · rw [upY_nk hk]; exact a2 kd q k hk
        · rw [upY_21]
          split
          · exact hv
          · exact a3 kd q k
        · by_cases y : m = i
          · rw [y, upY_at]; exact e
          · rw [upY_ni y]; exact a4 m (by omega)
        · rw [upY_ni (by omega)]; exact a5 m (by omega)
      have e5 := a5 i (Nat.le_refl _)
      refine u_M_remove_23 hx hL ⟨⟨by omega, by omega⟩, fun z => absurd z (by omega), fun _ => ⟨by omega, by omega, a3 _ _ _, ⟨by omega, by omega⟩, fun z => ⟨by omega, by omega, by omega, by omega, go _ (a3 _ _ _) ?_⟩, fun z => ⟨by omega, by omega, go _ ⟨by omega, by omega⟩ ?_⟩⟩⟩
      · have z : ¬ (q3.2.1 4 (r 4) i) = j := z
        rw [if_neg (by rw [← e5]; exact z)]
        exact e5
      · have z : (q3.2.1 4 (r 4) i) = j := z
        rw [if_pos (by rw [← e5]; exact z)]
  refine loop 270 0 rfl _ rfl (fun _ _ _ _ => rfl) r0 (fun m hm => by omega) (fun m _ => ?_)
  rw [upY_nk (by decide), upY_nk (by decide), upY_nk (by decide)]
theorem RW.remove {ρ' : Mem} {j : Nat} (w : RW ΛR r ρ) (e1 : ρ'.1 = ρ.1) (eY : ∀ kd q k, kd ≠ 4 → ρ'.2.1 kd q k = (upY (upY (upY ρ 1 (r 1) j 0) 51 (r 51) j 0) 52 (r 52) j 0).2.1 kd q k) (e4 : ∀ m : Nat, m < 270 → (ρ'.2.1 4 (r 4) m) = if (ρ.2.1 4 (r 4) m) = j then -1 else (ρ.2.1 4 (r 4) m)) (hr : ∀ kd q k, rng (ρ'.2.1 kd q k)) : RW ΛR r ρ' := by
  have eo : ∀ kd q k, kd ≠ 4 → kd ≠ 1 → kd ≠ 51 → kd ≠ 52 → ρ'.2.1 kd q k = ρ.2.1 kd q k := fun kd q k h4 h1 h5 h6 => by rw [eY kd q k h4, upY_nk h6, upY_nk h5, upY_nk h1]
  refine ⟨w.ly, by rw [e1]; exact w.ri, hr, fun i hi => ?_, fun i hi => ?_, fun i hi => ?_, fun i hi => ?_, fun i hi => ?_, fun i hi => ?_, fun i hi => ⟨?_, ?_⟩, fun i hi => ?_, by rw [e1]; exact w.yo, fun i hi => ?_⟩
  · rw [eY _ _ _ (by decide), upY_nk (by decide), upY_nk (by decide), upY_21]
    split
    · exact Or.inl rfl
    · exact w.kn i hi
  · rw [eo _ _ _ (by decide) (by decide) (by decide) (by decide)]; exact w.fd i hi
  · rw [eo _ _ _ (by decide) (by decide) (by decide) (by decide)]; exact w.pa i hi
  · rw [e4 i hi]
    have := w.rf i hi
    split
    · omega
    · exact this
  · rw [eo _ _ _ (by decide) (by decide) (by decide) (by decide)]; exact w.rt i hi
  · rw [eo _ _ _ (by decide) (by decide) (by decide) (by decide)]; exact w.ag i hi
  · rw [eY _ _ _ (by decide), upY_nk (by decide), upY_21]
    split
    · exact Or.inl rfl
    · rw [upY_nk (by decide)]; exact (w.bm i hi).1
  · rw [eY _ _ _ (by decide), upY_21]
    split
    · exact Or.inl rfl
    · rw [upY_nk (by decide), upY_nk (by decide)]; exact (w.bm i hi).2
  · rw [eo _ _ _ (by decide) (by decide) (by decide) (by decide), eo _ _ _ (by decide) (by decide) (by decide) (by decide)]; exact w.bd i hi
  · rw [e1] at hi; rw [eo _ _ _ (by decide) (by decide) (by decide) (by decide)]; exact w.od i hi
theorem next_from (h : RB Λ c r th σ ρ) (w : RW ΛR r ρ) (g : GB Λ c σ) {z b : Int} (hb : 0 ≤ b) (hz : NX r ρ b 0 90 z) : (z = -1 ∧ fFrom c σ b = none) ∨ ∃ j t : Nat, j < 90 ∧ z = j ∧ th j = some t ∧ fFrom c σ b = some t := by
  have q1 : ∀ i, i < 90 → mQ r ρ b 0 i → ∃ t, th i = some t ∧ isT Λ t ∧ 0 ≤ (σ.1 203 t) ∧ (ρ.2.1 6 (r 6) i) = (σ.1 203 t) ∧ b ≤ (σ.1 203 t) := by
    intro i hi hq
    cases e : th i with
    | none => have := (h.k0 i hi).mpr e; have := hq.1; omega
    | some t =>
      obtain ⟨x1, x2, x3, x4⟩ := h.k1 i t hi e
      have hA := (h.old w g hi e).mp hq.1
      have := hq.2.1
      exact ⟨t, rfl, x1, hA, x4 hq.1, by rw [x4 hq.1] at this; exact this⟩
  have hit : ∀ t, isT Λ t → 0 ≤ (σ.1 203 t) → b ≤ (σ.1 203 t) → (decide (b ≤ ((((σ.1 203 t)).toNat : Nat) : Int)) && (fAt c σ ((σ.1 203 t)).toNat).isSome) = true := by
    intro t ht h0 hb2
    rw [(g.at_old ht h0).2, decide_eq_true (by omega)]
    rfl
  unfold fFrom
  rcases fnd_is (p := fun a : Nat => decide (b ≤ (a : Int)) && (fAt c σ a).isSome) 64 with ⟨e, hn⟩ | ⟨a, e, ha, hp, hmin⟩
  · rw [e]
    rcases hz with ⟨e1, _⟩ | ⟨j, hj, e1, hq, _⟩
    · exact Or.inl ⟨e1, rfl⟩
    · obtain ⟨t, _, x1, hA, _, hg⟩ := q1 j hj hq
      have y1 := hit t x1 hA hg
      have y2 := hn _ (g.at_old x1 hA).1
      rw [y1] at y2
      cases y2
  · rw [e]
    simp only
    have hp2 := Bool.and_eq_true_iff.mp hp
    have hba : b ≤ (a : Int) := of_decide_eq_true hp2.1
    cases hf : fAt c σ a with
    | none => have := hp2.2; rw [hf] at this; cases this
    | some t =>
      right
      obtain ⟨hc, hA⟩ := at_some hf
      obtain ⟨i, hi, ht⟩ := cell_slot h g ha hc
      obtain ⟨x1, x2, x3, x4⟩ := h.k1 i t hi ht
      have hk2 := (h.old w g hi ht).mpr (by omega)
      have hq : mQ r ρ b 0 i := ⟨hk2, by rw [x4 hk2]; omega, Or.inr rfl⟩
      rcases hz with ⟨_, h0⟩ | ⟨j, hj, e1, hqj, h0⟩
      · exact absurd hq (h0 i hi)
      · obtain ⟨t', y1, y2, y3, y4, y5⟩ := q1 j hj hqj
        have hle := h0 i hi hq
        rw [y4, x4 hk2, hA] at hle
        have heq : ((σ.1 203 t')).toNat = a := by
          by_cases x : ((σ.1 203 t')).toNat < a
          · have z1 := hmin _ x
            have z2 := hit t' y2 y3 y5
            rw [z2] at z1
            cases z1
          · omega
        have f2 := (g.at_old y2 y3).2
        rw [heq, hf] at f2
        cases f2
        exact ⟨j, t, hj, e1, y1, rfl⟩
end RLQ
section RLQ2
variable {l : Launch} {D : va_G} {Λ ΛR : Lam} {c r : Nat → Nat} {th : Nat → Option Nat} {σ ρ : Mem}
def thD (th : Nat → Option Nat) (j : Nat) : Nat → Option Nat := fun i => if i = j then none else th i
theorem thD_at {j : Nat} : thD th j j = none := if_pos rfl
theorem thD_ne {i j : Nat} (h : i ≠ j) : thD th j i = th i := if_neg h
theorem RB.remove {σ' ρ' : Mem} {j t : Nat} (h : RB Λ c r th σ ρ) (hj : j < 90) (ht : th j = some t) (eA : ∀ u, (σ'.1 203 u) = if u = t then -2 else (σ.1 203 u)) (eI : ∀ f q, f ≠ 203 → σ'.1 f q = σ.1 f q) (eX : ∀ kd q k, kd ≠ 102 → σ'.2.2 kd q k = σ.2.2 kd q k)
    (hroot : ∀ i : Nat, i < 6 → (σ.2.2 100 (c 1) i) ≠ some t) (hrow : ∀ i : Nat, (i : Int) < (ρ.1 413 (r 0)) → σ.2.2 101 (c 3) i ≠ some t)
    (e1 : ρ'.1 = ρ.1) (eY : ∀ kd q k, kd ≠ 4 → ρ'.2.1 kd q k = (upY (upY (upY ρ 1 (r 1) j 0) 51 (r 51) j 0) 52 (r 52) j 0).2.1 kd q k) (e4 : ∀ m : Nat, m < 270 → (ρ'.2.1 4 (r 4) m) = if (ρ.2.1 4 (r 4) m) = j then -1 else (ρ.2.1 4 (r 4) m)) : RB Λ c r (thD th j) σ' ρ' := by
  have eo : ∀ kd q k, kd ≠ 4 → kd ≠ 1 → kd ≠ 51 → kd ≠ 52 → ρ'.2.1 kd q k = ρ.2.1 kd q k := fun kd q k h4 h1 h5 h6 => by rw [eY kd q k h4, upY_nk h6, upY_nk h5, upY_nk h1]
  have en : ∀ kd q k, kd ≠ 4 → k ≠ j → ρ'.2.1 kd q k = ρ.2.1 kd q k := fun kd q k h4 hk => by
    rw [eY kd q k h4, upY_21, if_neg (fun z => hk z.2.2), upY_21, if_neg (fun z => hk z.2.2), upY_21, if_neg (fun z => hk z.2.2)]
  have k1j : (ρ'.2.1 1 (r 1) j) = 0 := by rw [eY _ _ _ (by decide), upY_nk (by decide), upY_nk (by decide), upY_at]
  have mj : (ρ'.2.1 51 (r 51) j) = 0 := by rw [eY _ _ _ (by decide), upY_nk (by decide), upY_at]
  have gj : (ρ'.2.1 52 (r 52) j) = 0 := by rw [eY _ _ _ (by decide), upY_at]
  have T : ∀ i u, thD th j i = some u → i ≠ j ∧ th i = some u := by
    intro i u e
    by_cases x : i = j
    · rw [x, thD_at] at e; cases e
    · rw [thD_ne x] at e; exact ⟨x, e⟩
  have nt : ∀ i u, i < 90 → i ≠ j → th i = some u → u ≠ t := fun i u hi x e z => x (h.k2 i j t hi hj (by rw [e, z]) ht)
  have rr : ∀ (z : Int) (o : Option Nat), RR th z o → o ≠ some t → RR (thD th j) z o := by
    intro z o hz ho
    rcases hz with ⟨a, b⟩ | ⟨i, u, hi, a, b, d⟩
    · exact Or.inl ⟨a, b⟩
    · have x : i ≠ j := fun x => ho (by rw [d]; rw [x, ht] at b; exact b.symm)
      exact Or.inr ⟨i, u, hi, a, by rw [thD_ne x]; exact b, d⟩
  refine ⟨fun i hi => ?_, fun i u hi e => ?_, fun i i' u hi hi' e e' => ?_, fun u hu hn => ?_, fun i u hi e => ?_, fun i hi e => ?_, fun i u k hi e hk => ?_, fun i hi => ?_, fun i hi => ?_, ?_, fun i hi => ?_⟩
  · by_cases x : i = j
    · rw [x, thD_at]; exact ⟨fun _ => rfl, fun _ => k1j⟩
    · rw [thD_ne x, en _ _ _ (by decide) x]; exact h.k0 i hi
  · obtain ⟨x, e⟩ := T i u e
    have hne := nt i u hi x e
    rw [en _ _ _ (by decide) x, en _ _ _ (by decide) x, eA, if_neg hne]
    exact h.k1 i u hi e
  · exact h.k2 i i' u hi hi' (T i u e).2 (T i' u e').2
  · rw [eA] at hn
    by_cases x : u = t
    · rw [if_pos x] at hn; exact absurd rfl hn
    · rw [if_neg x] at hn
      obtain ⟨i, hi, e⟩ := h.k3 u hu hn
      exact ⟨i, hi, by rw [thD_ne (fun z => x (by rw [z, ht] at e; exact (Option.some.inj e).symm))]; exact e⟩
  · obtain ⟨x, e⟩ := T i u e
    rw [en _ _ _ (by decide) x, en _ _ _ (by decide) x, en _ _ _ (by decide) x, en _ _ _ (by decide) x, en _ _ _ (by decide) x, en _ _ _ (by decide) x, eI _ _ (by decide), eI _ _ (by decide), eI _ _ (by decide), eI _ _ (by decide)]
    exact h.k4 i u hi e
  · by_cases x : i = j
    · rw [x]; exact ⟨mj, gj⟩
    · rw [thD_ne x] at e
      rw [en _ _ _ (by decide) x, en _ _ _ (by decide) x]
      exact h.k5 i hi e
  · obtain ⟨x, e⟩ := T i u e
    have n3 : nfL Λ u ≤ 3 := (h.k1 i u hi e).1.2.2
    rw [e4 _ (by omega), eX _ _ _ (by decide)]
    rcases h.k6 i u k hi e hk with hR | ⟨a, v, b, d⟩
    · by_cases y : (σ.2.2 103 (faL Λ u) k) = some t
      · rcases hR with ⟨_, b⟩ | ⟨i', v, hi', a, b, d⟩
        · rw [b] at y; cases y
        · rw [d] at y
          cases y
          rw [if_pos (by rw [a, h.k2 i' j t hi' hj b ht]), d]
          exact Or.inr ⟨rfl, t, rfl, by rw [eA, if_pos rfl]⟩
      · have hR2 := rr _ _ hR y
        have hne : (ρ.2.1 4 (r 4) (3 * i + k)) ≠ j := by
          intro z
          rcases hR with ⟨a, _⟩ | ⟨i', v, hi', a, b, d⟩
          · omega
          · have : i' = j := by omega
            rw [this, ht] at b
            exact y (d.trans b.symm)
        rw [if_neg hne]
        exact Or.inl hR2
    · rw [if_neg (by omega), a, b]
      refine Or.inr ⟨rfl, v, rfl, ?_⟩
      rw [eA]
      by_cases y : v = t
      · rw [if_pos y]
      · rw [if_neg y]; exact d
  · rw [eo _ _ _ (by decide) (by decide) (by decide) (by decide), eX _ _ _ (by decide)]
    exact rr _ _ (h.k7 i hi) (hroot i hi)
  · rw [eo _ _ _ (by decide) (by decide) (by decide) (by decide), eo _ _ _ (by decide) (by decide) (by decide) (by decide), eI _ _ (by decide), eI _ _ (by decide)]
    exact h.k8 i hi
  · rw [e1, eI _ _ (by decide), eI _ _ (by decide), eI _ _ (by decide)]; exact h.k9
  · rw [e1] at hi
    obtain ⟨i', u, hi', a, b, d⟩ := h.ka i hi
    refine ⟨i', u, hi', by rw [eo _ _ _ (by decide) (by decide) (by decide) (by decide)]; exact a, ?_, by rw [eX _ _ _ (by decide)]; exact d⟩
    have x : i' ≠ j := fun x => hrow i hi (by rw [d]; rw [x, ht] at b; exact b.symm)
    rw [thD_ne x]
    exact b
end RLQ2
