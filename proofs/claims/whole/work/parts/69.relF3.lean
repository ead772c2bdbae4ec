/-! The full collection: taking out what was not met, and moving the young over, on both sides. -/
def zc (c : Nat → Nat) (s : Mem) : Mem := upI (upI (upI s 101 (c 2) 0) 304 (c 0) 0) 305 (c 0) 0
def zr (r : Nat → Nat) (q : Mem) : Mem := (fun f a => if (f = 411 ∨ f = 413) ∧ a = r 0 then 0 else q.1 f a, fun kd a k => if kd = 51 ∨ kd = 52 ∨ kd = 53 ∨ kd = 54 then 0 else q.2.1 kd a k, q.2.2)
section RF3
variable {l : Launch} {D : va_G} {Λ ΛR : Lam} {c r : Nat → Nat} {th : Nat → Option Nat} {σ0 σ ρ s1 : Mem}
theorem ff_drop {x : Cx} {P : Mem → Prop} {R : Nat → Bool} (hx : X_M_collectFull x) (w : RW ΛR r ρ) (h : RB Λ c r th σ ρ) (hme : ∀ i t : Nat, i < 90 → th i = some t → ((ρ.2.1 55 (r 55) i) = 0 ↔ R t = true)) (hroot : ∀ k t : Nat, k < 6 → (σ.2.2 100 (c 1) k) = some t → R t = false) (go : ∀ q : Mem, RW ΛR r q → RB Λ c r (thR th R 90) (nfold (gR1 th R) (upI σ 101 (c 2) 0) 90) (upI q 413 (r 0) 0) → q.1 = ρ.1 → (∀ kd q' k, kd ≠ 1 → kd ≠ 4 → kd ≠ 51 → kd ≠ 52 → q.2.1 kd q' k = ρ.2.1 kd q' k) → K_M_slide (xl x) (xD x) ΛR q r (fun σa2 => N_M_collectFull_55 x P ΛR σa2 r 0 1 0)) : N_M_collectFull_10 x P ΛR ρ r 0 := by
  have hL := w.ly
  have loop : ∀ n i : Nat, i + n = 90 → ∀ q : Mem, RW ΛR r q → RB Λ c r (thR th R i) (nfold (gR1 th R) (upI σ 101 (c 2) 0) i) (upI q 413 (r 0) 0) → q.1 = ρ.1 → (∀ kd q' k, kd ≠ 1 → kd ≠ 4 → kd ≠ 51 → kd ≠ 52 → q.2.1 kd q' k = ρ.2.1 kd q' k) → N_M_collectFull_10 x P ΛR q r i := by
    intro n
    induction n with
    | zero =>
      intro i hi q wq hq a1 a2
      rw [show i = 90 by omega] at hq ⊢
      exact u_M_collectFull_10 hx hL ⟨⟨by omega, by omega⟩, fun _ => go q wq hq a1 a2, fun z => absurd (by decide) z⟩
    | succ n ih =>
      intro i hi q wq hq a1 a2
      have hi9 : i < 90 := by omega
      have go1 : (∀ t, th i = some t → R t = false) → N_M_collectFull_10 x P ΛR q r (i + 1 : Nat) := by
        intro hn
        refine ih (i + 1) (by omega) q wq ?_ a1 a2
        rw [thR_no hn, nfold_s]
        have eg : gR1 th R i (nfold (gR1 th R) (upI σ 101 (c 2) 0) i) = nfold (gR1 th R) (upI σ 101 (c 2) 0) i := by
          generalize nfold (gR1 th R) (upI σ 101 (c 2) 0) i = u
          unfold gR1
          cases e : th i with
          | none => rfl
          | some t => simp only; rw [hn t e]; rfl
        rw [eg]
        exact hq
      cases e : th i with
      | none =>
        have k0 := (hq.k0 i hi9).mpr (by rw [thR_ge (Nat.le_refl _)]; exact e)
        have k0 : (q.2.1 1 (r 1) i) = 0 := k0
        exact u_M_collectFull_10 hx hL ⟨⟨by omega, by omega⟩, fun z => absurd z (by omega), fun _ => ⟨by omega, by omega, wq.ry _ _ _, fun _ => go1 (fun t et => by rw [e] at et; cases et), fun z => absurd k0 z⟩⟩
      | some t =>
        have em : (q.2.1 55 (r 55) i) = (ρ.2.1 55 (r 55) i) := a2 _ _ _ (by decide) (by decide) (by decide) (by decide)
        have me := hme i t hi9 e
        refine u_M_collectFull_10 hx hL ⟨⟨by omega, by omega⟩, fun z => absurd z (by omega), fun _ => ⟨by omega, by omega, wq.ry _ _ _, fun z => ?_, fun z => ⟨by omega, by omega, wq.ry _ _ _, fun z2 => go1 (fun u eu => ?_), fun z2 => ?_⟩⟩⟩
        · have k0 := (hq.k0 i hi9).mp z
          rw [thR_ge (Nat.le_refl _), e] at k0
          cases k0
        · rw [e] at eu
          cases eu
          have z2 : ¬ (q.2.1 55 (r 55) i) = 0 := z2
          rw [em] at z2
          cases hc : R t with
          | false => rfl
          | true => exact absurd (me.mpr hc) z2
        · have z2 : (q.2.1 55 (r 55) i) = 0 := z2
          rw [em] at z2
          refine c_M_remove wq hi9 (fun q' d1 d2 d3 d4 => ?_)
          refine ih (i + 1) (by omega) q' (wq.remove d1 d2 d3 d4) (RB.rm1 h.k2 hq hi9 e (me.mp z2) (fun k hk er => ?_) d1 d2 d3) (d1.trans a1) (fun kd q2 k k1 k2 k3 k4 => ?_)
          · have := hroot k t hk er
            rw [me.mp z2] at this
            cases this
          · rw [d2 kd q2 k k2, upY_nk k4, upY_nk k3, upY_nk k1]; exact a2 kd q2 k k1 k2 k3 k4
  exact loop 90 0 rfl ρ w (by rw [thR_0]; exact h.cnt0) rfl (fun _ _ _ _ _ _ _ => rfl)
theorem zc_1 {s : Mem} {f q : Nat} (h : f ≠ 101 ∧ f ≠ 304 ∧ f ≠ 305) : (zc c s).1 f q = s.1 f q := by
  unfold zc
  rw [upI_ne h.2.2, upI_ne h.2.1, upI_ne h.1]
theorem zc_c {s : Mem} : ((zc c s).1 101 (c 2)) = 0 := by
  unfold zc
  rw [upI_ne (by decide), upI_ne (by decide), upI_at]
theorem zc_d {s : Mem} : ((zc c s).1 304 (c 0)) = 0 ∧ ((zc c s).1 305 (c 0)) = 0 := by
  unfold zc
  rw [upI_at, upI_ne (by decide), upI_at]
  exact ⟨rfl, rfl⟩
theorem zr_k {q : Mem} {kd a k : Nat} (h : kd ≠ 51 ∧ kd ≠ 52 ∧ kd ≠ 53 ∧ kd ≠ 54) : (zr r q).2.1 kd a k = q.2.1 kd a k := by
  show (if kd = 51 ∨ kd = 52 ∨ kd = 53 ∨ kd = 54 then 0 else q.2.1 kd a k) = _
  exact if_neg (by omega)
theorem zr_0 {q : Mem} {kd a k : Nat} (h : kd = 51 ∨ kd = 52 ∨ kd = 53 ∨ kd = 54) : (zr r q).2.1 kd a k = 0 := if_pos h
theorem zr_f {q : Mem} {f a : Nat} (h : f ≠ 411 ∧ f ≠ 413) : (zr r q).1 f a = q.1 f a := if_neg (by omega)
theorem zr_p {q : Mem} : ((zr r q).1 411 (r 0)) = 0 ∧ ((zr r q).1 413 (r 0)) = 0 := ⟨if_pos ⟨Or.inl rfl, rfl⟩, if_pos ⟨Or.inr rfl, rfl⟩⟩
theorem RW.nor {q : Mem} (w : RW ΛR r q) : RW ΛR r (zr r q) := by
  refine ⟨w.ly, fun f a => ?_, fun kd a k => ?_, fun i hi => ?_, fun i hi => ?_, fun i hi => ?_, fun i hi => ?_, fun i hi => ?_, fun i hi => ?_, fun i hi => ⟨Or.inl (zr_0 (by decide)), Or.inl (zr_0 (by decide))⟩, fun i hi => ⟨Or.inl (zr_0 (by decide)), Or.inl (zr_0 (by decide))⟩, ?_, fun i hi => ?_⟩
  · show rng (if (f = 411 ∨ f = 413) ∧ a = r 0 then 0 else q.1 f a)
    split
    · exact rng_0
    · exact w.ri f a
  · show rng (if kd = 51 ∨ kd = 52 ∨ kd = 53 ∨ kd = 54 then 0 else q.2.1 kd a k)
    split
    · exact rng_0
    · exact w.ry kd a k
  · rw [zr_k (by decide)]; exact w.kn i hi
  · rw [zr_k (by decide)]; exact w.fd i hi
  · rw [zr_k (by decide)]; exact w.pa i hi
  · rw [zr_k (by decide)]; exact w.rf i hi
  · rw [zr_k (by decide)]; exact w.rt i hi
  · rw [zr_k (by decide)]; exact w.ag i hi
  · rw [zr_p.2]; omega
  · rw [zr_p.2] at hi; omega
theorem GB.nor {s : Mem} (g : GB Λ c s) : GB Λ c (zc c s) := by
  have wf : WF Λ c (zc c s) := (((g.wf.emptyY).upT (f := 304) (q := c 0) (v := 0) (by decide) (by decide) (by decide) rng_0).upT (f := 305) (q := c 0) (v := 0) (by decide) (by decide) (by decide) rng_0)
  refine ⟨wf, fun t ht => ?_, fun a t ha => ?_, fun t ht => ?_, fun t ht => ?_, fun t ht => ?_, ?_, ?_, ?_, ?_⟩
  · rw [zc_1 (by decide)]; exact g.ad t ht
  · rw [zc_1 (by decide)]; exact g.ce a t ha
  · rw [zc_1 (f := 204) (by decide), zc_1 (f := 205) (by decide), zc_1 (f := 206) (by decide)]; exact g.fl t ht
  · rw [zc_1 (f := 203) (by decide), zc_1 (f := 204) (by decide), zc_1 (f := 205) (by decide)]; exact g.ym t ht
  · rw [zc_1 (f := 203) (by decide), zc_1 (f := 204) (by decide), zc_1 (f := 205) (by decide)]; exact g.gm t ht
  · rw [zc_d.1]; exact lo8_0
  · rw [zc_d.2]; exact lo8_0
  · rw [zc_1 (by decide)]; exact g.ph
  · rw [zc_1 (by decide)]; exact g.sw
-- the order does not matter while the rows are taken as empty
theorem RB.ord8 {s q q' : Mem} (h : RB Λ c r th s (zr r q)) (e1 : q'.1 = q.1) (eY : ∀ kd a k, kd ≠ 8 → q'.2.1 kd a k = q.2.1 kd a k) : RB Λ c r th s (zr r q') := by
  have f1 : (zr r q').1 = (zr r q).1 := by
    show (fun f a => if (f = 411 ∨ f = 413) ∧ a = r 0 then 0 else q'.1 f a) = (fun f a => if (f = 411 ∨ f = 413) ∧ a = r 0 then 0 else q.1 f a)
    rw [e1]
  have ek : ∀ kd a k, kd ≠ 8 → (zr r q').2.1 kd a k = (zr r q).2.1 kd a k := by
    intro kd a k hk
    show (if kd = 51 ∨ kd = 52 ∨ kd = 53 ∨ kd = 54 then 0 else q'.2.1 kd a k) = (if kd = 51 ∨ kd = 52 ∨ kd = 53 ∨ kd = 54 then 0 else q.2.1 kd a k)
    rw [eY kd a k hk]
  refine ⟨fun i hi => ?_, fun i t hi e => ?_, h.k2, h.k3, fun i t hi e => ?_, fun i hi e => ?_, fun i t k hi e hk => ?_, fun i hi => ?_, fun i hi => ?_, ?_, fun i hi => ?_⟩
  · rw [ek 1 _ _ (by decide)]; exact h.k0 i hi
  · rw [ek 1 _ _ (by decide), ek 6 _ _ (by decide)]; exact h.k1 i t hi e
  · rw [ek 2 _ _ (by decide), ek 3 _ _ (by decide), ek 51 _ _ (by decide), ek 52 _ _ (by decide), ek 1 _ _ (by decide), ek 5 _ _ (by decide)]; exact h.k4 i t hi e
  · rw [ek 51 _ _ (by decide), ek 52 _ _ (by decide)]; exact h.k5 i hi e
  · rw [ek 4 _ _ (by decide)]; exact h.k6 i t k hi e hk
  · rw [ek 7 _ _ (by decide)]; exact h.k7 i hi
  · rw [ek 53 _ _ (by decide), ek 54 _ _ (by decide)]; exact h.k8 i hi
  · rw [f1]; exact h.k9
  · rw [zr_p.2] at hi; omega
theorem RW.ord8 {q : Mem} {k : Nat} {v : Int} (w : RW ΛR r q) (hv : 0 ≤ v ∧ v < 90) : RW ΛR r (upY q 8 (r 8) k v) := by
  refine ⟨w.ly, w.ri, rng_upY w.ry ⟨by omega, by omega⟩, fun i hi => ?_, fun i hi => ?_, fun i hi => ?_, fun i hi => ?_, fun i hi => ?_, fun i hi => ?_, fun i hi => ?_, fun i hi => ?_, w.yo, fun i hi => ?_⟩
  · rw [upY_nk (by decide)]; exact w.kn i hi
  · rw [upY_nk (by decide)]; exact w.fd i hi
  · rw [upY_nk (by decide)]; exact w.pa i hi
  · rw [upY_nk (by decide)]; exact w.rf i hi
  · rw [upY_nk (by decide)]; exact w.rt i hi
  · rw [upY_nk (by decide)]; exact w.ag i hi
  · rw [upY_nk (by decide), upY_nk (by decide)]; exact w.bm i hi
  · rw [upY_nk (by decide), upY_nk (by decide)]; exact w.bd i hi
  · rw [upY_21]
    split
    · exact hv
    · exact w.od i hi
-- what becoming old does, in the reference
def bOld (r : Nat → Nat) (j : Nat) (p : Int) (q : Mem) : Mem := upI (upY (upY (upY (upY q 1 (r 1) j 2) 6 (r 6) j p) 51 (r 51) j 0) 52 (r 52) j 0) 421 (r 0) ((q.1 421 (r 0)) + 1)
theorem bOld_k {q : Mem} {j : Nat} {p : Int} {kd a k : Nat} (h : kd ≠ 1 ∧ kd ≠ 6 ∧ kd ≠ 51 ∧ kd ≠ 52) : (bOld r j p q).2.1 kd a k = q.2.1 kd a k := by
  show (upY (upY (upY (upY q 1 (r 1) j 2) 6 (r 6) j p) 51 (r 51) j 0) 52 (r 52) j 0).2.1 kd a k = _
  rw [upY_nk h.2.2.2, upY_nk h.2.2.1, upY_nk h.2.1, upY_nk h.1]
theorem bOld_1 {q : Mem} {j i : Nat} {p : Int} : (bOld r j p q).2.1 1 (r 1) i = if i = j then 2 else (q.2.1 1 (r 1) i) := by
  show (upY (upY (upY (upY q 1 (r 1) j 2) 6 (r 6) j p) 51 (r 51) j 0) 52 (r 52) j 0).2.1 1 (r 1) i = _
  rw [upY_nk (by decide), upY_nk (by decide), upY_nk (by decide)]
  by_cases y : i = j
  · rw [if_pos y, y, upY_at]
  · rw [if_neg y, upY_ni y]
theorem bOld_6 {q : Mem} {j i : Nat} {p : Int} : (bOld r j p q).2.1 6 (r 6) i = if i = j then p else (q.2.1 6 (r 6) i) := by
  show (upY (upY (upY (upY q 1 (r 1) j 2) 6 (r 6) j p) 51 (r 51) j 0) 52 (r 52) j 0).2.1 6 (r 6) i = _
  rw [upY_nk (by decide), upY_nk (by decide)]
  by_cases y : i = j
  · rw [if_pos y, y, upY_at]
  · rw [if_neg y, upY_ni y, upY_nk (by decide)]
theorem bOld_51 {q : Mem} {j i : Nat} {p : Int} : (bOld r j p q).2.1 51 (r 51) i = if i = j then 0 else (q.2.1 51 (r 51) i) := by
  show (upY (upY (upY (upY q 1 (r 1) j 2) 6 (r 6) j p) 51 (r 51) j 0) 52 (r 52) j 0).2.1 51 (r 51) i = _
  rw [upY_nk (by decide)]
  by_cases y : i = j
  · rw [if_pos y, y, upY_at]
  · rw [if_neg y, upY_ni y, upY_nk (by decide), upY_nk (by decide)]
theorem bOld_52 {q : Mem} {j i : Nat} {p : Int} : (bOld r j p q).2.1 52 (r 52) i = if i = j then 0 else (q.2.1 52 (r 52) i) := by
  show (upY (upY (upY (upY q 1 (r 1) j 2) 6 (r 6) j p) 51 (r 51) j 0) 52 (r 52) j 0).2.1 52 (r 52) i = _
  by_cases y : i = j
  · rw [if_pos y, y, upY_at]
  · rw [if_neg y, upY_ni y, upY_nk (by decide), upY_nk (by decide), upY_nk (by decide)]
theorem bOld_f {q : Mem} {j : Nat} {p : Int} {f a : Nat} (h : f ≠ 421) : (bOld r j p q).1 f a = q.1 f a := by
  show (upI (upY (upY (upY (upY q 1 (r 1) j 2) 6 (r 6) j p) 51 (r 51) j 0) 52 (r 52) j 0) 421 (r 0) ((q.1 421 (r 0)) + 1)).1 f a = _
  rw [upI_ne h]; rfl
theorem bOld_g {q : Mem} {j : Nat} {p : Int} : ((bOld r j p q).1 421 (r 0)) = (q.1 421 (r 0)) + 1 := upI_at
theorem bOld_PL {q : Mem} {j : Nat} {p : Int} (w : RW ΛR r q) (hp : 0 ≤ p ∧ p ≤ 64) (hg : 0 ≤ (q.1 421 (r 0)) ∧ (q.1 421 (r 0)) ≤ 1000) : PL r j p 0 q (bOld r j p q) := by
  refine ⟨fun f a hf => bOld_f hf, bOld_g, fun kd a k k1 k2 k3 k4 k5 => bOld_k ⟨k1, k2, k3, k4⟩, fun i => bOld_1, fun i => bOld_6, fun i => bOld_51, fun i => bOld_52, ?_, ?_⟩
  · exact rng_upY (rng_upY (rng_upY (rng_upY w.ry ⟨by omega, by omega⟩) ⟨by omega, by omega⟩) rng_0) rng_0
  · exact rng_upI (ρ := upY (upY (upY (upY q 1 (r 1) j 2) 6 (r 6) j p) 51 (r 51) j 0) 52 (r 52) j 0) w.ri ⟨by omega, by omega⟩
theorem bOld_zr {q : Mem} {j : Nat} {p : Int} (w : RW ΛR r q) (w2 : RW ΛR r (bOld r j p q)) : PL r j p 0 (zr r q) (zr r (bOld r j p q)) := by
  have wz := w2.nor
  refine ⟨fun f a hf => ?_, ?_, fun kd a k k1 k2 k3 k4 k5 => ?_, fun i => ?_, fun i => ?_, fun i => ?_, fun i => ?_, wz.ry, wz.ri⟩
  · show (if (f = 411 ∨ f = 413) ∧ a = r 0 then 0 else (bOld r j p q).1 f a) = (if (f = 411 ∨ f = 413) ∧ a = r 0 then 0 else q.1 f a)
    rw [bOld_f hf]
  · rw [zr_f (by decide), zr_f (by decide)]; exact bOld_g
  · show (if kd = 51 ∨ kd = 52 ∨ kd = 53 ∨ kd = 54 then 0 else (bOld r j p q).2.1 kd a k) = (if kd = 51 ∨ kd = 52 ∨ kd = 53 ∨ kd = 54 then 0 else q.2.1 kd a k)
    rw [bOld_k ⟨k1, k2, k3, k4⟩]
  · rw [zr_k (by decide), zr_k (by decide)]; exact bOld_1
  · rw [zr_k (by decide), zr_k (by decide)]; exact bOld_6
  · rw [zr_0 (by decide), zr_0 (by decide)]; split <;> rfl
  · rw [zr_0 (by decide), zr_0 (by decide)]; split <;> rfl
theorem ff_move {x : Cx} {P : Mem → Prop} {s5 : Mem} {mk : Nat → Nat} (hx : X_M_collectFull x) (w : RW ΛR r ρ) (g5 : GB Λ c s5) (ph : (s5.1 306 (c 0)) = 0) (h : RB Λ c r th (zc c s5) (zr r ρ))
    (ya : ∀ k t : Nat, (k : Int) < (s5.1 101 (c 2)) → s5.2.2 101 (c 3) k = some t → (s5.1 203 t) = -1) (yd : ∀ i j : Nat, (i : Int) < (s5.1 101 (c 2)) → (j : Int) < (s5.1 101 (c 2)) → s5.2.2 101 (c 3) i = s5.2.2 101 (c 3) j → i = j)
    (mk0 : mk 0 = 0) (mke : mk ((ρ.1 413 (r 0))).toNat = ((s5.1 101 (c 2))).toNat) (mle : ∀ i : Nat, (i : Int) ≤ (ρ.1 413 (r 0)) → mk i ≤ i ∧ (mk i : Int) ≤ (s5.1 101 (c 2)))
    (ord : ∀ i : Nat, (i : Int) < (ρ.1 413 (r 0)) → ∃ j : Nat, j < 90 ∧ (ρ.2.1 8 (r 8) i) = j ∧ ((th j = none ∧ mk (i + 1) = mk i) ∨ ∃ t, th j = some t ∧ mk (i + 1) = mk i + 1 ∧ s5.2.2 101 (c 3) (mk i) = some t)) (gr : (ρ.1 421 (r 0)) = 0)
    (go : ∀ q, RW ΛR r q → RB Λ c r th (zc c (fMov1 Λ c s5).2) (zr r q) → GB Λ c (fMov1 Λ c s5).2 → (∀ f a, f ≠ 421 → q.1 f a = ρ.1 f a) → (q.1 421 (r 0)) = (fMov1 Λ c s5).1 → 0 ≤ (fMov1 Λ c s5).1 → (∀ k : Nat, (k : Int) < (s5.1 101 (c 2)) - (fMov1 Λ c s5).1 → ∃ j t : Nat, j < 90 ∧ (q.2.1 8 (r 8) k) = j ∧ th j = some t ∧ s5.2.2 101 (c 3) (k + (fMov1 Λ c s5).1.toNat) = some t) → N_M_collectFull_160 x P ΛR (upI (upI q 413 (r 0) ((s5.1 101 (c 2)) - (fMov1 Λ c s5).1)) 411 (r 0) 0) r 0) : N_M_collectFull_55 x P ΛR ρ r 0 1 0 := by
  have hL := w.ly
  have yo := w.yo
  have y0 := g5.wf.y0
  unfold fMov1 at go
  rw [← mke] at go
  have mvk := mov_keep (Λ := Λ) (c := c) s5
  have loop : ∀ n i : Nat, i + n = ((ρ.1 413 (r 0))).toNat → ∀ q : Mem, RW ΛR r q → RB Λ c r th (zc c (nfold (gMove1 Λ c) (0, s5) (mk i)).2) (zr r q) → GB Λ c (nfold (gMove1 Λ c) (0, s5) (mk i)).2 → (0 ≤ (nfold (gMove1 Λ c) (0, s5) (mk i)).1 ∧ (nfold (gMove1 Λ c) (0, s5) (mk i)).1 ≤ mk i) → (∀ k t : Nat, mk i ≤ k → (k : Int) < (s5.1 101 (c 2)) → s5.2.2 101 (c 3) k = some t → ((nfold (gMove1 Λ c) (0, s5) (mk i)).2.1 203 t) = -1) → (∀ k : Nat, (k : Int) < mk i - (nfold (gMove1 Λ c) (0, s5) (mk i)).1 → ∃ j t : Nat, j < 90 ∧ (q.2.1 8 (r 8) k) = j ∧ th j = some t ∧ s5.2.2 101 (c 3) (k + (nfold (gMove1 Λ c) (0, s5) (mk i)).1.toNat) = some t) → (∀ k : Nat, i ≤ k → (q.2.1 8 (r 8) k) = (ρ.2.1 8 (r 8) k)) → (∀ f a, f ≠ 421 → q.1 f a = ρ.1 f a) → (q.1 421 (r 0)) = (nfold (gMove1 Λ c) (0, s5) (mk i)).1 → ∀ z1 z2 : Int, z1 = mk i - (nfold (gMove1 Λ c) (0, s5) (mk i)).1 → z2 = (if (nfold (gMove1 Λ c) (0, s5) (mk i)).1 = mk i then 1 else 0) → N_M_collectFull_55 x P ΛR q r z1 z2 i := by
    intro n
    induction n with
    | zero =>
      intro i hi q wq hq gq b1 b2 b3 b4 b5 b6 z1 z2 hz1 hz2
      have e413 : (q.1 413 (r 0)) = (ρ.1 413 (r 0)) := b5 _ _ (by decide)
      rw [show ((ρ.1 413 (r 0))).toNat = i by omega] at go mke
      refine u_M_collectFull_55 hx hL ⟨⟨by omega, by omega⟩, wq.ri _ _, fun _ => ?_, fun z => absurd ?_ z⟩
      · have := go q wq hq gq b5 b6 b1.1 (fun k hk => b3 k (by omega))
        rw [hz1, show (mk i : Int) = (s5.1 101 (c 2)) by omega]
        exact this
      · show (q.1 413 (r 0)) ≤ i
        omega
    | succ n ih =>
      intro i hi q wq hq gq b1 b2 b3 b4 b5 b6 z1 z2 hz1 hz2
      have e413 : (q.1 413 (r 0)) = (ρ.1 413 (r 0)) := b5 _ _ (by decide)
      have ml := mle i (by omega)
      obtain ⟨j, hj, f1, f2⟩ := ord i (by omega)
      have e8 : (q.2.1 8 (r 8) i) = j := by rw [b4 i (Nat.le_refl _)]; exact f1
      have e8t : (q.2.1 8 (r 8) ((i : Nat) : Int).toNat) = j := e8
      have ih2 := ih (i + 1) (by omega)
      have mv := mvk (mk i)
      refine u_M_collectFull_55 hx hL ⟨⟨by omega, by omega⟩, wq.ri _ _, fun z => ?_, fun _ => ?_⟩
      · have z : (q.1 413 (r 0)) ≤ i := z
        omega
      rw [e8t]
      refine ⟨by omega, by omega, by omega, by omega, wq.ry _ _ _, ?_⟩
      rw [Int.toNat_natCast]
      rcases f2 with ⟨tn, em⟩ | ⟨t, tt, em, row⟩
      · have k0 := (hq.k0 j hj).mpr tn
        rw [zr_k (by decide)] at k0
        refine ⟨fun _ => ?_, fun z => by omega⟩
        rw [em] at ih2
        exact ih2 q wq hq gq b1 b2 b3 (fun k hk => b4 k (by omega)) b5 b6 z1 z2 hz1 hz2
      · have ml2 := mle (i + 1) (by omega)
        rw [em] at ml2
        have hy : ((nfold (gMove1 Λ c) (0, s5) (mk i)).2.1 203 t) = -1 := b2 (mk i) t (Nat.le_refl _) (by omega) row
        have hT := (hq.k1 j t hj tt).1
        have k1 : (q.2.1 1 (r 1) j) = 1 := by
          have := (hq.k1 j t hj tt).2.2.1.mpr (by rw [zc_1 (by decide)]; exact hy)
          rw [zr_k (by decide)] at this
          exact this
        have e7 : (nfold (gMove1 Λ c) (0, s5) (mk i)).2.2.2 101 (c 3) (mk i) = some t := (mv.1 _ _ _ (by decide)).trans row
        have phu : ((nfold (gMove1 Λ c) (0, s5) (mk i)).2.1 306 (c 0)) = 0 := (mv.2 _ _ (by decide) (by decide) (by decide)).trans ph
        rw [em, nfold_s] at ih2
        generalize nfold (gMove1 Λ c) (0, s5) (mk i) = u at *
        -- it stays young
        have stay : gMove1 Λ c (mk i) u = u → N_M_collectFull_103 x P ΛR q r z1 i j (-1) := by
          intro eG
          rw [eG] at ih2
          refine u_M_collectFull_103 hx hL ⟨⟨by omega, by omega⟩, fun _ => ?_, fun z => absurd (by decide) z⟩
          refine u_M_collectFull_115 hx hL ⟨rng_0, fun _ => ⟨by omega, by omega, ?_⟩, fun z => absurd rfl z⟩
          have ez : (z1.toNat : Int) = z1 := by omega
          refine ih2 (upY q 8 (r 8) z1.toNat j) (wq.ord8 ⟨by omega, by omega⟩) (hq.ord8 rfl (fun kd a k hk => upY_nk hk)) gq ⟨b1.1, by omega⟩ (fun k t' hk => b2 k t' (by omega)) (fun k hk => ?_) (fun k hk => ?_) b5 b6 (z1 + 1) 0 (by omega) ?_
          · by_cases y : k = z1.toNat
            · rw [y, upY_at]
              refine ⟨j, t, hj, rfl, tt, ?_⟩
              rw [show z1.toNat + u.1.toNat = mk i by omega]
              exact row
            · rw [upY_ni y]
              exact b3 k (by omega)
          · rw [upY_ni (by omega)]; exact b4 k (by omega)
          · rw [if_neg (by omega)]
        refine ⟨fun z => absurd k1 z, fun _ => ⟨?_, fun z => ?_, fun z => ⟨by omega, by omega, ?_⟩⟩⟩
        · rw [hz2]; split <;> exact ⟨by omega, by omega⟩
        · have nu : ¬ u.1 = mk i := by
            intro y
            rw [if_pos y] at hz2
            omega
          exact stay (gMove1_stop nu)
        · have yu : u.1 = mk i := by
            by_cases y : u.1 = mk i
            · exact y
            · rw [if_neg y] at hz2
              exact absurd hz2 z
          have hz := szI_le hT
          have ef := (hq.k4 j t hj tt).2.1
          rw [zr_k (by decide)] at ef
          have es : 1 + (q.2.1 3 (r 3) j) = szI Λ t := by rw [ef]; rfl
          show K_M_place (xl x) (xD x) ΛR q r (1 + (q.2.1 3 (r 3) j)) _
          rw [es]
          refine c_M_place wq ⟨by omega, by omega⟩ ?_
          have mfz : plc (mFree r q) (szI Λ t) = plc (mFree r (zr r q)) (szI Λ t) := by
            refine plc_congr (fun a ha => ?_)
            unfold mFree
            have on : mOn r (zr r q) ((a : Nat) : Int) = mOn r q ((a : Nat) : Int) := by
              funext i'
              unfold mOn
              rw [zr_k (by decide), zr_k (by decide), zr_k (by decide)]
            rw [on]
          rw [mfz, place_eq hq wq.nor gq.nor]
          have fp : fPlace c (zc c u.2) (szI Λ t) = fPlace c u.2 (szI Λ t) := rfl
          rw [fp]
          have ple := place_le (c := c) u.2 hz.1
          by_cases pn : fPlace c u.2 (szI Λ t) = -1
          · rw [pn]
            refine stay ?_
            unfold gMove1
            rw [if_pos yu, e7]
            simp only
            rw [placeOld_no pn]
            simp
          · obtain ⟨p0, p1, pf⟩ := place_ok u.2 hz.1 pn
            obtain ⟨o1, eA, eM, eD, eO, eC2, eX⟩ := placeOld_is pn
            have gq2 := gq.placeOld hT hy
            have eG : gMove1 Λ c (mk i) u = (u.1 + 1, (fPlaceOld Λ c t u.2).2) := by
              unfold gMove1
              rw [if_pos yu, e7]
              simp only
              rw [if_neg (by rw [o1]; decide)]
            rw [eG] at ih2
            generalize fPlace c u.2 (szI Λ t) = p at *
            refine u_M_collectFull_103 hx hL ⟨⟨by omega, by omega⟩, fun z => absurd z (by omega), fun _ => ?_⟩
            refine u_M_collectFull_115 hx hL ⟨rng_1, fun z => absurd z (by decide), fun _ => ?_⟩
            refine w_M_becomeOld hL ⟨by omega, by omega, by omega, by omega, by omega, by omega, by omega, by omega, ?_⟩
            show N_M_collectFull_55 x P ΛR (bOld r j p q) r z1 1 (i + 1 : Nat)
            have pl := bOld_PL (j := j) (p := p) wq ⟨p0, by omega⟩ ⟨by omega, by omega⟩
            have w2 : RW ΛR r (bOld r j p q) := wq.pl pl ⟨p0, by omega⟩ (Or.inl rfl) (fun k hk => by rw [bOld_k (by decide)]; exact (wq.bd k hk).1)
            generalize (fPlaceOld Λ c t u.2).2 = s2 at *
            have hq2 : RB Λ c r th (zc c s2) (zr r (bOld r j p q)) := by
              refine hq.pl gq.nor hj tt (by rw [zc_1 (by decide)]; exact hy) (bOld_zr wq w2) p0 (fun v => ?_) (fun v => ?_) (fun f a n1 n2 n3 => ?_) (fun kd a k hk => ?_) (fun k hk => ?_)
              · rw [zc_1 (by decide), zc_1 (by decide)]; exact eA v
              · rw [zc_1 (by decide), zc_1 (by decide), eM v, phu]; rfl
              · show (upI (upI (upI s2 101 (c 2) 0) 304 (c 0) 0) 305 (c 0) 0).1 f a = (upI (upI (upI u.2 101 (c 2) 0) 304 (c 0) 0) 305 (c 0) 0).1 f a
                rw [upI_1, upI_1, upI_1, upI_1, upI_1, upI_1, eO f a n1 n2 n3]
              · exact eX kd a k hk
              · rw [zc_d.1, zr_0 (by decide)]
                exact ⟨fun _ => cb_0 k, fun _ => rfl⟩
            refine ih2 _ w2 hq2 gq2 ⟨by simp only; omega, by simp only; omega⟩ (fun k t' hk hk2 hrow => ?_) (fun k hk => ?_) (fun k hk => ?_) (fun f a hf => ?_) ?_ z1 1 (by simp only; omega) ?_
            · have ne : t' ≠ t := by
                intro y
                rw [y] at hrow
                have := yd k (mk i) hk2 (by omega) (hrow.trans row.symm)
                omega
              rw [eA, if_neg ne]
              exact b2 k t' (by omega) hk2 hrow
            · simp only at hk
              omega
            · rw [bOld_k (by decide)]; exact b4 k (by omega)
            · rw [bOld_f hf]; exact b5 f a hf
            · rw [bOld_g, b6]
            · rw [if_pos (by simp only; omega)]
  refine loop ((ρ.1 413 (r 0))).toNat 0 (by omega) ρ w ?_ ?_ ?_ (fun k t hk => ?_) (fun k hk => ?_) (fun _ _ => rfl) (fun _ _ _ => rfl) ?_ 0 1 ?_ ?_
  · rw [mk0]; exact h
  · rw [mk0]; exact g5
  · rw [mk0]; exact ⟨Int.le_refl _, Int.le_refl _⟩
  · rw [mk0]; exact ya k t
  · rw [mk0] at hk
    have hk : (k : Int) < 0 - 0 := hk
    omega
  · rw [mk0]; exact gr
  · rw [mk0]; rfl
  · rw [mk0]; rfl
end RF3
