/-! Collections on both sides: changes of many parts at once; preparing. -/
section RY1
variable {l : Launch} {D : va_G} {Λ ΛR : Lam} {c r : Nat → Nat} {th : Nat → Option Nat} {σ ρ : Mem}
theorem RB.chg {σ' ρ' : Mem} (h : RB Λ c r th σ ρ) (ty : ∀ kd q k t, σ.2.2 kd q k = some t → isT Λ t) (x1 : ∀ q k, σ'.2.2 103 q k = σ.2.2 103 q k) (x2 : ∀ q k, σ'.2.2 100 q k = σ.2.2 100 q k) (hp : ∀ t, (σ'.1 200 t) = (σ.1 200 t))
    (y2 : ∀ k, (ρ'.2.1 2 (r 2) k) = (ρ.2.1 2 (r 2) k)) (y3 : ∀ k, (ρ'.2.1 3 (r 3) k) = (ρ.2.1 3 (r 3) k)) (y4 : ∀ k, (ρ'.2.1 4 (r 4) k) = (ρ.2.1 4 (r 4) k)) (y7 : ∀ k, (ρ'.2.1 7 (r 7) k) = (ρ.2.1 7 (r 7) k))
    (hs : ∀ i t : Nat, i < 90 → th i = some t → (ρ'.2.1 1 (r 1) i) ≠ 0 ∧ (σ'.1 203 t) ≠ -2 ∧ ((ρ'.2.1 1 (r 1) i) = 1 ↔ (σ'.1 203 t) = -1) ∧ ((ρ'.2.1 1 (r 1) i) = 2 → (ρ'.2.1 6 (r 6) i) = (σ'.1 203 t)) ∧ (ρ'.2.1 51 (r 51) i) = (σ'.1 204 t) ∧ (ρ'.2.1 52 (r 52) i) = (σ'.1 205 t) ∧ ((ρ'.2.1 1 (r 1) i) = 1 → (ρ'.2.1 5 (r 5) i) = (σ'.1 202 t)))
    (h0 : ∀ i : Nat, i < 90 → th i = none → (ρ'.2.1 1 (r 1) i) = 0 ∧ (ρ'.2.1 51 (r 51) i) = 0 ∧ (ρ'.2.1 52 (r 52) i) = 0)
    (hg : ∀ t, isT Λ t → (σ.1 203 t) = -2 → (σ'.1 203 t) = -2)
    (h8 : ∀ i : Nat, i < 8 → (((ρ'.2.1 53 (r 53) i) = 0 ↔ cb ((σ'.1 304 (c 0))) i = false) ∧ ((ρ'.2.1 54 (r 54) i) = 0 ↔ cb ((σ'.1 305 (c 0))) i = false)))
    (h9 : (ρ'.1 411 (r 0)) = (σ'.1 306 (c 0)) ∧ (ρ'.1 412 (r 0)) = (σ'.1 307 (c 0)) ∧ (ρ'.1 413 (r 0)) = (σ'.1 101 (c 2)))
    (ha : ∀ i : Nat, (i : Int) < (ρ'.1 413 (r 0)) → ∃ j t : Nat, j < 90 ∧ (ρ'.2.1 8 (r 8) i) = j ∧ th j = some t ∧ σ'.2.2 101 (c 3) i = some t) : RB Λ c r th σ' ρ' := by
  refine ⟨fun i hi => ?_, fun i t hi e => ?_, h.k2, fun t ht hn => ?_, fun i t hi e => ?_, fun i hi e => (h0 i hi e).2, fun i t k hi e hk => ?_, fun i hi => ?_, h8, h9, ha⟩
  · cases e : th i with
    | none => exact ⟨fun _ => rfl, fun _ => (h0 i hi e).1⟩
    | some t => exact ⟨fun z => absurd z (hs i t hi e).1, fun z => (by cases z)⟩
  · obtain ⟨a1, a2, a3, a4, _⟩ := hs i t hi e
    exact ⟨(h.k1 i t hi e).1, a2, a3, a4⟩
  · exact h.k3 t ht (fun z => hn (hg t ht z))
  · obtain ⟨a1, a2, a3, a4, a5, a6, a7⟩ := hs i t hi e
    obtain ⟨b1, b2, _⟩ := h.k4 i t hi e
    exact ⟨by rw [y2, hp]; exact b1, by rw [y3]; exact b2, a5, a6, a7⟩
  · rw [y4, x1]
    rcases h.k6 i t k hi e hk with x | ⟨x, u, xu, xa⟩
    · exact Or.inl x
    · exact Or.inr ⟨x, u, xu, hg u (ty _ _ _ _ xu) xa⟩
  · rw [y7, x2]; exact h.k7 i hi
theorem RB.aux {ρ' : Mem} (h : RB Λ c r th σ ρ) (ys : ∀ kd q k, kd ≠ 9 → kd ≠ 10 → kd ≠ 55 → kd ≠ 56 → kd ≠ 57 → ρ'.2.1 kd q k = ρ.2.1 kd q k) (fs : ∀ f q, f ≠ 415 → f ≠ 421 → ρ'.1 f q = ρ.1 f q) : RB Λ c r th σ ρ' := by
  have y : ∀ kd q k, kd ≠ 9 ∧ kd ≠ 10 ∧ kd ≠ 55 ∧ kd ≠ 56 ∧ kd ≠ 57 → ρ'.2.1 kd q k = ρ.2.1 kd q k := fun kd q k a => ys kd q k a.1 a.2.1 a.2.2.1 a.2.2.2.1 a.2.2.2.2
  have f1 := fs 411 (r 0) (by decide) (by decide)
  have f2 := fs 412 (r 0) (by decide) (by decide)
  have f3 := fs 413 (r 0) (by decide) (by decide)
  refine ⟨fun i hi => ?_, fun i t hi e => ?_, h.k2, h.k3, fun i t hi e => ?_, fun i hi e => ?_, fun i t k hi e hk => ?_, fun i hi => ?_, fun i hi => ?_, ?_, fun i hi => ?_⟩
  · rw [y 1 _ _ (by decide)]; exact h.k0 i hi
  · rw [y 1 _ _ (by decide), y 6 _ _ (by decide)]; exact h.k1 i t hi e
  · rw [y 2 _ _ (by decide), y 3 _ _ (by decide), y 51 _ _ (by decide), y 52 _ _ (by decide), y 1 _ _ (by decide), y 5 _ _ (by decide)]; exact h.k4 i t hi e
  · rw [y 51 _ _ (by decide), y 52 _ _ (by decide)]; exact h.k5 i hi e
  · rw [y 4 _ _ (by decide)]; exact h.k6 i t k hi e hk
  · rw [y 7 _ _ (by decide)]; exact h.k7 i hi
  · rw [y 53 _ _ (by decide), y 54 _ _ (by decide)]; exact h.k8 i hi
  · rw [f1, f2, f3]; exact h.k9
  · rw [f3] at hi
    rw [y 8 _ _ (by decide)]; exact h.ka i hi
theorem RW.aux {ρ' : Mem} (w : RW ΛR r ρ) (ys : ∀ kd q k, kd ≠ 9 → kd ≠ 10 → kd ≠ 55 → kd ≠ 56 → kd ≠ 57 → ρ'.2.1 kd q k = ρ.2.1 kd q k) (fs : ∀ f q, f ≠ 415 → f ≠ 421 → ρ'.1 f q = ρ.1 f q) (hr : ∀ kd q k, rng (ρ'.2.1 kd q k)) (hi : ∀ f q, rng (ρ'.1 f q)) : RW ΛR r ρ' := by
  have y : ∀ kd q k, kd ≠ 9 ∧ kd ≠ 10 ∧ kd ≠ 55 ∧ kd ≠ 56 ∧ kd ≠ 57 → ρ'.2.1 kd q k = ρ.2.1 kd q k := fun kd q k a => ys kd q k a.1 a.2.1 a.2.2.1 a.2.2.2.1 a.2.2.2.2
  have f3 := fs 413 (r 0) (by decide) (by decide)
  refine ⟨w.ly, hi, hr, fun i hi => ?_, fun i hi => ?_, fun i hi => ?_, fun i hi => ?_, fun i hi => ?_, fun i hi => ?_, fun i hi => ?_, fun i hi => ?_, by rw [f3]; exact w.yo, fun i hi => ?_⟩
  · rw [y 1 _ _ (by decide)]; exact w.kn i hi
  · rw [y 3 _ _ (by decide)]; exact w.fd i hi
  · rw [y 6 _ _ (by decide)]; exact w.pa i hi
  · rw [y 4 _ _ (by decide)]; exact w.rf i hi
  · rw [y 7 _ _ (by decide)]; exact w.rt i hi
  · rw [y 5 _ _ (by decide)]; exact w.ag i hi
  · rw [y 51 _ _ (by decide), y 52 _ _ (by decide)]; exact w.bm i hi
  · rw [y 53 _ _ (by decide), y 54 _ _ (by decide)]; exact w.bd i hi
  · rw [f3] at hi
    rw [y 8 _ _ (by decide)]; exact w.od i hi
theorem rng_upY (h : ∀ kd q k, rng (ρ.2.1 kd q k)) {kd q k : Nat} {v : Int} (hv : rng v) : ∀ kd' q' k', rng ((upY ρ kd q k v).2.1 kd' q' k') := by
  intro kd' q' k'
  rw [upY_21]
  split
  · exact hv
  · exact h _ _ _
theorem rng_upI (h : ∀ f q, rng (ρ.1 f q)) {f q : Nat} {v : Int} (hv : rng v) : ∀ f' q', rng ((upI ρ f q v).1 f' q') := by
  intro f' q'
  rw [upI_1]
  split
  · exact hv
  · exact h _ _
-- what preparing leaves
def PR (r : Nat → Nat) (ρ ρ' : Mem) : Prop :=
  (∀ kd q k, kd ≠ 9 → kd ≠ 10 → kd ≠ 55 → kd ≠ 56 → kd ≠ 57 → ρ'.2.1 kd q k = ρ.2.1 kd q k) ∧
  (∀ f q, f ≠ 415 → f ≠ 421 → ρ'.1 f q = ρ.1 f q) ∧
  ((ρ'.1 421 (r 0)) = 0) ∧
  ((ρ'.1 415 (r 0)) = 0) ∧
  (∀ i : Nat, i < 90 → (ρ'.2.1 55 (r 55) i) = 0) ∧
  (∀ i : Nat, i < 90 → ((ρ'.2.1 56 (r 56) i) = 0 ↔ ¬ (ρ.2.1 1 (r 1) i) = 2)) ∧
  (∀ i : Nat, i < 90 → (ρ'.2.1 10 (r 10) i) = (ρ.2.1 6 (r 6) i)) ∧
  (∀ i : Nat, i < 8 → (ρ'.2.1 57 (r 57) i) = (ρ.2.1 53 (r 53) i)) ∧
  (∀ kd q k, rng (ρ'.2.1 kd q k)) ∧
  (∀ f q, rng (ρ'.1 f q))
theorem PR.ys {r : Nat → Nat} {ρ ρ' : Mem} (h : PR r ρ ρ') : ∀ kd q k, kd ≠ 9 → kd ≠ 10 → kd ≠ 55 → kd ≠ 56 → kd ≠ 57 → ρ'.2.1 kd q k = ρ.2.1 kd q k := h.1
theorem PR.fs {r : Nat → Nat} {ρ ρ' : Mem} (h : PR r ρ ρ') : ∀ f q, f ≠ 415 → f ≠ 421 → ρ'.1 f q = ρ.1 f q := h.2.1
theorem PR.gr {r : Nat → Nat} {ρ ρ' : Mem} (h : PR r ρ ρ') : (ρ'.1 421 (r 0)) = 0 := h.2.2.1
theorem PR.rc {r : Nat → Nat} {ρ ρ' : Mem} (h : PR r ρ ρ') : (ρ'.1 415 (r 0)) = 0 := h.2.2.2.1
theorem PR.me {r : Nat → Nat} {ρ ρ' : Mem} (h : PR r ρ ρ') : ∀ i : Nat, i < 90 → (ρ'.2.1 55 (r 55) i) = 0 := h.2.2.2.2.1
theorem PR.wo {r : Nat → Nat} {ρ ρ' : Mem} (h : PR r ρ ρ') : ∀ i : Nat, i < 90 → ((ρ'.2.1 56 (r 56) i) = 0 ↔ ¬ (ρ.2.1 1 (r 1) i) = 2) := h.2.2.2.2.2.1
theorem PR.wa {r : Nat → Nat} {ρ ρ' : Mem} (h : PR r ρ ρ') : ∀ i : Nat, i < 90 → (ρ'.2.1 10 (r 10) i) = (ρ.2.1 6 (r 6) i) := h.2.2.2.2.2.2.1
theorem PR.wd {r : Nat → Nat} {ρ ρ' : Mem} (h : PR r ρ ρ') : ∀ i : Nat, i < 8 → (ρ'.2.1 57 (r 57) i) = (ρ.2.1 53 (r 53) i) := h.2.2.2.2.2.2.2.1
theorem PR.hr {r : Nat → Nat} {ρ ρ' : Mem} (h : PR r ρ ρ') : ∀ kd q k, rng (ρ'.2.1 kd q k) := h.2.2.2.2.2.2.2.2.1
theorem PR.hi {r : Nat → Nat} {ρ ρ' : Mem} (h : PR r ρ ρ') : ∀ f q, rng (ρ'.1 f q) := h.2.2.2.2.2.2.2.2.2
theorem c_M_prepare {P : Mem → Prop} (w : RW ΛR r ρ) (hp : ∀ ρ', PR r ρ ρ' → P ρ') : K_M_prepare l D ΛR ρ r P := by
  refine e_M_prepare (fun x hl hD hx => ?_)
  subst hl; subst hD
  have hL := w.ly
  refine u_M_prepare_0 hx hL ?_
  have fin : ∀ n i : Nat, i + n = 8 → ∀ q : Mem, (∀ kd q' k, kd ≠ 9 → kd ≠ 10 → kd ≠ 55 → kd ≠ 56 → kd ≠ 57 → q.2.1 kd q' k = ρ.2.1 kd q' k) → (∀ f q', f ≠ 415 → f ≠ 421 → q.1 f q' = ρ.1 f q') → (q.1 421 (r 0)) = 0 → (q.1 415 (r 0)) = 0 → (∀ k : Nat, k < 90 → (q.2.1 55 (r 55) k) = 0) → (∀ k : Nat, k < 90 → ((q.2.1 56 (r 56) k) = 0 ↔ ¬ (ρ.2.1 1 (r 1) k) = 2)) → (∀ k : Nat, k < 90 → (q.2.1 10 (r 10) k) = (ρ.2.1 6 (r 6) k)) → (∀ k : Nat, k < i → (q.2.1 57 (r 57) k) = (ρ.2.1 53 (r 53) k)) → (∀ kd q' k, rng (q.2.1 kd q' k)) → (∀ f q', rng (q.1 f q')) → N_M_prepare_66 x P ΛR q r i := by
    intro n
    induction n with
    | zero =>
      intro i hi q a1 a2 a3 a4 a5 a6 a7 a8 a9 a10
      exact u_M_prepare_66 hx hL ⟨⟨by omega, by omega⟩, fun _ => hp q ⟨a1, a2, a3, a4, a5, a6, a7, fun k hk => a8 k (by omega), a9, a10⟩, fun z => absurd (by omega) z⟩
    | succ n ih =>
      intro i hi q a1 a2 a3 a4 a5 a6 a7 a8 a9 a10
      have e53 : (q.2.1 53 (r 53) i) = (ρ.2.1 53 (r 53) i) := a1 _ _ _ (by decide) (by decide) (by decide) (by decide) (by decide)
      refine u_M_prepare_66 hx hL ⟨⟨by omega, by omega⟩, fun z => absurd z (by omega), fun _ => ⟨by omega, by omega, by omega, by omega, ?_, ih (i + 1) (by omega) _ (fun kd q' k k1 k2 k3 k4 k5 => ?_) a2 a3 a4 (fun k hk => ?_) (fun k hk => ?_) (fun k hk => ?_) (fun k hk => ?_) (rng_upY a9 (a9 _ _ _)) a10⟩⟩
      · have := (w.bd i (by omega)).1
        rw [← e53] at this
        exact this
      · rw [upY_nk k5]; exact a1 kd q' k k1 k2 k3 k4 k5
      · rw [upY_nk (by decide)]; exact a5 k hk
      · rw [upY_nk (by decide)]; exact a6 k hk
      · rw [upY_nk (by decide)]; exact a7 k hk
      · by_cases y : k = i
        · rw [y]
          show (upY q 57 (r 57) i ((q.2.1 53 (r 53) i))).2.1 57 (r 57) i = _
          rw [upY_at]; exact e53
        · show (upY q 57 (r 57) i ((q.2.1 53 (r 53) i))).2.1 57 (r 57) k = _
          rw [upY_ni y]; exact a8 k (by omega)
  have loop : ∀ n i : Nat, i + n = 90 → ∀ q : Mem, (∀ kd q' k, kd ≠ 9 → kd ≠ 10 → kd ≠ 55 → kd ≠ 56 → kd ≠ 57 → q.2.1 kd q' k = ρ.2.1 kd q' k) → (∀ f q', f ≠ 415 → f ≠ 421 → q.1 f q' = ρ.1 f q') → (q.1 421 (r 0)) = 0 → (q.1 415 (r 0)) = 0 → (∀ k : Nat, k < i → (q.2.1 55 (r 55) k) = 0) → (∀ k : Nat, k < i → ((q.2.1 56 (r 56) k) = 0 ↔ ¬ (ρ.2.1 1 (r 1) k) = 2)) → (∀ k : Nat, k < i → (q.2.1 10 (r 10) k) = (ρ.2.1 6 (r 6) k)) → (∀ kd q' k, rng (q.2.1 kd q' k)) → (∀ f q', rng (q.1 f q')) → N_M_prepare_12 x P ΛR q r i := by
    intro n
    induction n with
    | zero =>
      intro i hi q a1 a2 a3 a4 a5 a6 a7 a9 a10
      refine u_M_prepare_12 hx hL ⟨⟨by omega, by omega⟩, fun _ => ?_, fun z => absurd (by omega) z⟩
      exact fin 8 0 rfl q a1 a2 a3 a4 (fun k hk => a5 k (by omega)) (fun k hk => a6 k (by omega)) (fun k hk => a7 k (by omega)) (fun k hk => by omega) a9 a10
    | succ n ih =>
      intro i hi q a1 a2 a3 a4 a5 a6 a7 a9 a10
      have e1 : (upY q 55 (r 55) i 0).2.1 1 (r 1) i = (ρ.2.1 1 (r 1) i) := by rw [upY_nk (by decide)]; exact a1 _ _ _ (by decide) (by decide) (by decide) (by decide) (by decide)
      have go : ∀ s2 : Int, (s2 = 0 ∨ s2 = 1) → (s2 = 0 ↔ ¬ (ρ.2.1 1 (r 1) i) = 2) → N_M_prepare_45 x P ΛR (upY q 55 (r 55) i 0) r i i s2 := by
        intro s2 h2 h3
        refine u_M_prepare_45 hx hL ⟨by omega, by omega, h2, by omega, by omega, by omega, by omega, ?_⟩
        show N_M_prepare_12 x P ΛR (upY (upY (upY q 55 (r 55) i 0) 56 (r 56) i s2) 10 (r 10) i ((upY (upY q 55 (r 55) i 0) 56 (r 56) i s2).2.1 6 (r 6) i)) r (i + 1 : Nat)
        have e6 : (upY (upY q 55 (r 55) i 0) 56 (r 56) i s2).2.1 6 (r 6) i = (ρ.2.1 6 (r 6) i) := by rw [upY_nk (by decide), upY_nk (by decide)]; exact a1 _ _ _ (by decide) (by decide) (by decide) (by decide) (by decide)
        rw [e6]
        refine ih (i + 1) (by omega) _ (fun kd q' k k1 k2 k3 k4 k5 => ?_) a2 a3 a4 (fun k hk => ?_) (fun k hk => ?_) (fun k hk => ?_) (rng_upY (rng_upY (rng_upY a9 rng_0) (by rcases h2 with e | e <;> rw [e] <;> exact ⟨by omega, by omega⟩)) (w.ry _ _ _)) a10
        · rw [upY_nk k2, upY_nk k4, upY_nk k3]; exact a1 kd q' k k1 k2 k3 k4 k5
        · rw [upY_nk (by decide), upY_nk (by decide)]
          by_cases y : k = i
          · rw [y, upY_at]
          · rw [upY_ni y]; exact a5 k (by omega)
        · rw [upY_nk (by decide)]
          by_cases y : k = i
          · rw [y, upY_at]; exact h3
          · rw [upY_ni y, upY_nk (by decide)]; exact a6 k (by omega)
        · by_cases y : k = i
          · rw [y, upY_at]
          · rw [upY_ni y, upY_nk (by decide), upY_nk (by decide)]; exact a7 k (by omega)
      refine u_M_prepare_12 hx hL ⟨⟨by omega, by omega⟩, fun z => absurd z (by omega), fun _ => ⟨by omega, by omega, by omega, by omega, ?_, fun z => go 0 (Or.inl rfl) ?_, fun z => go 1 (Or.inr rfl) ?_⟩⟩
      · show rng ((upY q 55 (r 55) i 0).2.1 1 (r 1) i)
        exact rng_upY a9 rng_0 _ _ _
      · have z : ¬ (upY q 55 (r 55) i 0).2.1 1 (r 1) i = 2 := z
        rw [e1] at z
        exact ⟨fun _ => z, fun _ => rfl⟩
      · have z : (upY q 55 (r 55) i 0).2.1 1 (r 1) i = 2 := z
        rw [e1] at z
        exact ⟨fun y => by omega, fun y => absurd z y⟩
  refine loop 90 0 rfl _ (fun _ _ _ _ _ _ _ _ => rfl) (fun f q' f1 f2 => ?_) ?_ ?_ (fun k hk => by omega) (fun k hk => by omega) (fun k hk => by omega) w.ry (rng_upI (rng_upI w.ri rng_0) rng_0)
  · rw [upI_ne f1, upI_ne f2]
  · rw [upI_ne (by decide), upI_at]
  · rw [upI_at]
end RY1
