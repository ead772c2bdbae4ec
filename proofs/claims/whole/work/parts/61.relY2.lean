/-! The reaching of the young collection on both sides. -/
-- how many of the reached are young no more
def gN1 (c : Nat → Nat) (σ : Mem) (i : Nat) : Int := match σ.2.2 101 (c 7) i with
  | none => 0
  | some t => if (σ.1 203 t) = -1 then 0 else 1
def gN (c : Nat → Nat) (σ : Mem) : Int := sumN (gN1 c σ) ((σ.1 101 (c 6))).toNat
def RX (Λ ΛR : Lam) (c r : Nat → Nat) (th : Nat → Option Nat) (σ0 σ ρ : Mem) : Prop :=
  (RW ΛR r ρ) ∧
  (RB Λ c r th σ ρ) ∧
  (YA Λ c σ0 σ) ∧
  (∀ i t : Nat, i < 90 → th i = some t → ((ρ.2.1 55 (r 55) i) = 0 ↔ (σ.1 206 t) = 0)) ∧
  ((ρ.1 415 (r 0)) = (σ.1 101 (c 6))) ∧
  (∀ i : Nat, (i : Int) < (σ.1 101 (c 6)) → ∃ j t : Nat, j < 90 ∧ (ρ.2.1 9 (r 9) i) = j ∧ th j = some t ∧ σ.2.2 101 (c 7) i = some t) ∧
  ((ρ.1 421 (r 0)) = gN c σ) ∧
  (∀ i t : Nat, i < 90 → th i = some t → ((ρ.2.1 56 (r 56) i) = 0 ↔ ¬ 0 ≤ (σ0.1 203 t))) ∧
  (∀ i : Nat, i < 90 → th i = none → (ρ.2.1 56 (r 56) i) = 0) ∧
  (∀ i : Nat, i < 8 → ((ρ.2.1 57 (r 57) i) = 0 ↔ cb ((σ0.1 304 (c 0))) i = false))
theorem RX.rw {Λ ΛR : Lam} {c r : Nat → Nat} {th : Nat → Option Nat} {σ0 σ ρ : Mem} (h : RX Λ ΛR c r th σ0 σ ρ) : RW ΛR r ρ := h.1
theorem RX.rb {Λ ΛR : Lam} {c r : Nat → Nat} {th : Nat → Option Nat} {σ0 σ ρ : Mem} (h : RX Λ ΛR c r th σ0 σ ρ) : RB Λ c r th σ ρ := h.2.1
theorem RX.ya {Λ ΛR : Lam} {c r : Nat → Nat} {th : Nat → Option Nat} {σ0 σ ρ : Mem} (h : RX Λ ΛR c r th σ0 σ ρ) : YA Λ c σ0 σ := h.2.2.1
theorem RX.me {Λ ΛR : Lam} {c r : Nat → Nat} {th : Nat → Option Nat} {σ0 σ ρ : Mem} (h : RX Λ ΛR c r th σ0 σ ρ) : ∀ i t : Nat, i < 90 → th i = some t → ((ρ.2.1 55 (r 55) i) = 0 ↔ (σ.1 206 t) = 0) := h.2.2.2.1
theorem RX.rc {Λ ΛR : Lam} {c r : Nat → Nat} {th : Nat → Option Nat} {σ0 σ ρ : Mem} (h : RX Λ ΛR c r th σ0 σ ρ) : (ρ.1 415 (r 0)) = (σ.1 101 (c 6)) := h.2.2.2.2.1
theorem RX.ro {Λ ΛR : Lam} {c r : Nat → Nat} {th : Nat → Option Nat} {σ0 σ ρ : Mem} (h : RX Λ ΛR c r th σ0 σ ρ) : ∀ i : Nat, (i : Int) < (σ.1 101 (c 6)) → ∃ j t : Nat, j < 90 ∧ (ρ.2.1 9 (r 9) i) = j ∧ th j = some t ∧ σ.2.2 101 (c 7) i = some t := h.2.2.2.2.2.1
theorem RX.gr {Λ ΛR : Lam} {c r : Nat → Nat} {th : Nat → Option Nat} {σ0 σ ρ : Mem} (h : RX Λ ΛR c r th σ0 σ ρ) : (ρ.1 421 (r 0)) = gN c σ := h.2.2.2.2.2.2.1
theorem RX.wo {Λ ΛR : Lam} {c r : Nat → Nat} {th : Nat → Option Nat} {σ0 σ ρ : Mem} (h : RX Λ ΛR c r th σ0 σ ρ) : ∀ i t : Nat, i < 90 → th i = some t → ((ρ.2.1 56 (r 56) i) = 0 ↔ ¬ 0 ≤ (σ0.1 203 t)) := h.2.2.2.2.2.2.2.1
theorem RX.wn {Λ ΛR : Lam} {c r : Nat → Nat} {th : Nat → Option Nat} {σ0 σ ρ : Mem} (h : RX Λ ΛR c r th σ0 σ ρ) : ∀ i : Nat, i < 90 → th i = none → (ρ.2.1 56 (r 56) i) = 0 := h.2.2.2.2.2.2.2.2.1
theorem RX.wd {Λ ΛR : Lam} {c r : Nat → Nat} {th : Nat → Option Nat} {σ0 σ ρ : Mem} (h : RX Λ ΛR c r th σ0 σ ρ) : ∀ i : Nat, i < 8 → ((ρ.2.1 57 (r 57) i) = 0 ↔ cb ((σ0.1 304 (c 0))) i = false) := h.2.2.2.2.2.2.2.2.2
section RY2
variable {l : Launch} {D : va_G} {Λ ΛR : Lam} {c r : Nat → Nat} {th : Nat → Option Nat} {σ0 σ ρ : Mem}
theorem RX.start {ρ' : Mem} (w : RW ΛR r ρ) (g : GD Λ c σ) (h : RB Λ c r th σ ρ) (p : PR r ρ ρ') : RX Λ ΛR c r th σ σ ρ' := by
  have q0 := g.q0
  refine ⟨w.aux p.ys p.fs p.hr p.hi, h.aux p.ys p.fs, g.start, fun i t hi e => ?_, ?_, fun i hi => ?_, ?_, fun i t hi e => ?_, fun i hi e => ?_, fun i hi => ?_⟩
  · exact ⟨fun _ => g.r0 t (h.k1 i t hi e).1, fun _ => p.me i hi⟩
  · rw [p.rc, q0]
  · omega
  · rw [p.gr]
    unfold gN
    rw [q0]
    rfl
  · rw [p.wo i hi, h.old w g.gb hi e]
  · have := (h.k0 i hi).mpr e
    exact (p.wo i hi).mpr (by omega)
  · rw [p.wd i hi]; exact (h.k8 i hi).1
-- a thing of the row grows old: one more
theorem gN_place {s : Mem} {t : Nat} (ya : YA Λ c σ0 σ) (ht : isT Λ t) (hr : (σ.1 206 t) = 1) (hy : (σ.1 203 t) = -1) (eA : ∀ u, (s.1 203 u) = if u = t then (s.1 203 t) else (σ.1 203 u)) (h0 : 0 ≤ (s.1 203 t)) (e7 : ∀ i, s.2.2 101 (c 7) i = σ.2.2 101 (c 7) i) (eC : (s.1 101 (c 6)) = (σ.1 101 (c 6))) : gN c s = gN c σ + 1 := by
  have q0 := ya.gb.wf.q0
  obtain ⟨i0, hi0, hx0⟩ := (ya.rl t ht).mp hr
  have e : ∀ i, i < ((σ.1 101 (c 6))).toNat → gN1 c s i = gN1 c σ i + (if i = i0 then 1 else 0) := by
    intro i hi
    unfold gN1
    rw [e7]
    by_cases x : i = i0
    · rw [x, hx0, if_pos rfl]
      simp only
      rw [if_pos hy, if_neg (by omega)]
      rfl
    · rw [if_neg x]
      cases hx : σ.2.2 101 (c 7) i with
      | none => rfl
      | some u =>
        simp only
        have : u ≠ t := fun z => x (ya.rd i i0 (by omega) hi0 (by rw [hx, hx0, z]))
        rw [eA u, if_neg this]
        omega
  unfold gN
  rw [eC, sumN_congr e, sumN_add, sumN_one (f := fun i => if i = i0 then (1 : Int) else 0) (i0 := i0) (by omega) (fun i _ hi => if_neg hi), if_pos rfl]
theorem RX.push {j t : Nat} {v : Int} (h : RX Λ ΛR c r th σ0 σ ρ) (hj : j < 90) (ht : th j = some t) (hy : (σ.1 203 t) = -1) (h0 : (σ.1 206 t) = 0) (hc : (σ.1 101 (c 6)) < 20) (hv : 0 ≤ v ∧ v ≤ 9) : RX Λ ΛR c r th σ0 (upI (upI (gAdd (c 6) (c 7) (some t) σ) 206 t 1) 202 t v) (upY (upI (upY (upY ρ 55 (r 55) j 1) 9 (r 9) ((ρ.1 415 (r 0))).toNat j) 415 (r 0) ((ρ.1 415 (r 0)) + 1)) 5 (r 5) j v) := by
  have hT := (h.rb.k1 j t hj ht).1
  have q0 := h.ya.gb.wf.q0
  have n26 := h.ya.gb.wf.ly.ne26
  have n37 := h.ya.gb.wf.ly.ne37
  have ya' := h.ya.push hT hy h0 (by omega) hv
  have rc := h.rc
  have e1 : ∀ f q, f ≠ 206 → f ≠ 101 → f ≠ 202 → (upI (upI (gAdd (c 6) (c 7) (some t) σ) 206 t 1) 202 t v).1 f q = σ.1 f q := by
    intro f q h1 h2 h3
    rw [upI_ne h3, rn_1, if_neg (fun z => h1 z.1), if_neg (fun z => h2 z.1)]
  have eC : (upI (upI (gAdd (c 6) (c 7) (some t) σ) 206 t 1) 202 t v).1 101 (c 6) = (σ.1 101 (c 6)) + 1 := by
    rw [upI_ne (by decide), rn_1, if_neg (by omega), if_pos ⟨rfl, rfl⟩]
  have eC2 : (upI (upI (gAdd (c 6) (c 7) (some t) σ) 206 t 1) 202 t v).1 101 (c 2) = (σ.1 101 (c 2)) := by
    rw [upI_ne (by decide), rn_1, if_neg (by omega), if_neg (fun z => n26 z.2)]
  have eR : ∀ u, (upI (upI (gAdd (c 6) (c 7) (some t) σ) 206 t 1) 202 t v).1 206 u = if u = t then 1 else (σ.1 206 u) := by
    intro u
    rw [upI_ne (by decide), rn_1]
    by_cases e : u = t
    · rw [if_pos ⟨rfl, e⟩, if_pos e]
    · rw [if_neg (fun z => e z.2), if_neg (by omega), if_neg e]
  have eG : ∀ u, (upI (upI (gAdd (c 6) (c 7) (some t) σ) 206 t 1) 202 t v).1 202 u = if u = t then v else (σ.1 202 u) := by
    intro u
    rw [upI_1]
    by_cases e : u = t
    · rw [if_pos ⟨rfl, e⟩, if_pos e]
    · rw [if_neg (fun z => e z.2), if_neg e, rn_1, if_neg (by omega), if_neg (by omega)]
  have eX : ∀ kd q k, (upI (upI (gAdd (c 6) (c 7) (some t) σ) 206 t 1) 202 t v).2.2 kd q k = if kd = 101 ∧ q = c 7 ∧ k = ((σ.1 101 (c 6))).toNat then some t else σ.2.2 kd q k := fun kd q k => rfl
  have yk : ∀ kd q k, kd ≠ 5 → kd ≠ 9 → kd ≠ 55 → (upY (upI (upY (upY ρ 55 (r 55) j 1) 9 (r 9) ((ρ.1 415 (r 0))).toNat j) 415 (r 0) ((ρ.1 415 (r 0)) + 1)) 5 (r 5) j v).2.1 kd q k = ρ.2.1 kd q k := by
    intro kd q k k1 k2 k3
    rw [upY_nk k1]
    show (upY (upY ρ 55 (r 55) j 1) 9 (r 9) ((ρ.1 415 (r 0))).toNat j).2.1 kd q k = _
    rw [upY_nk k2, upY_nk k3]
  have y55 : ∀ i, (upY (upI (upY (upY ρ 55 (r 55) j 1) 9 (r 9) ((ρ.1 415 (r 0))).toNat j) 415 (r 0) ((ρ.1 415 (r 0)) + 1)) 5 (r 5) j v).2.1 55 (r 55) i = if i = j then 1 else (ρ.2.1 55 (r 55) i) := by
    intro i
    rw [upY_nk (by decide)]
    show (upY (upY ρ 55 (r 55) j 1) 9 (r 9) ((ρ.1 415 (r 0))).toNat j).2.1 55 (r 55) i = _
    rw [upY_nk (by decide)]
    by_cases x : i = j
    · rw [if_pos x, x, upY_at]
    · rw [if_neg x, upY_ni x]
  have y9 : ∀ i, (upY (upI (upY (upY ρ 55 (r 55) j 1) 9 (r 9) ((ρ.1 415 (r 0))).toNat j) 415 (r 0) ((ρ.1 415 (r 0)) + 1)) 5 (r 5) j v).2.1 9 (r 9) i = if i = ((ρ.1 415 (r 0))).toNat then (j : Int) else (ρ.2.1 9 (r 9) i) := by
    intro i
    rw [upY_nk (by decide)]
    show (upY (upY ρ 55 (r 55) j 1) 9 (r 9) ((ρ.1 415 (r 0))).toNat j).2.1 9 (r 9) i = _
    by_cases x : i = ((ρ.1 415 (r 0))).toNat
    · rw [if_pos x, x, upY_at]
    · rw [if_neg x, upY_ni x, upY_nk (by decide)]
  have y5 : ∀ i, (upY (upI (upY (upY ρ 55 (r 55) j 1) 9 (r 9) ((ρ.1 415 (r 0))).toNat j) 415 (r 0) ((ρ.1 415 (r 0)) + 1)) 5 (r 5) j v).2.1 5 (r 5) i = if i = j then v else (ρ.2.1 5 (r 5) i) := by
    intro i
    by_cases x : i = j
    · rw [if_pos x, x, upY_at]
    · rw [if_neg x, upY_ni x]
      show (upY (upY ρ 55 (r 55) j 1) 9 (r 9) ((ρ.1 415 (r 0))).toNat j).2.1 5 (r 5) i = _
      rw [upY_nk (by decide), upY_nk (by decide)]
  have f1 : ∀ f q, f ≠ 415 → (upY (upI (upY (upY ρ 55 (r 55) j 1) 9 (r 9) ((ρ.1 415 (r 0))).toNat j) 415 (r 0) ((ρ.1 415 (r 0)) + 1)) 5 (r 5) j v).1 f q = ρ.1 f q := by
    intro f q hf
    show (upI (upY (upY ρ 55 (r 55) j 1) 9 (r 9) ((ρ.1 415 (r 0))).toNat j) 415 (r 0) ((ρ.1 415 (r 0)) + 1)).1 f q = _
    rw [upI_ne hf]
    rfl
  have f4 : (upY (upI (upY (upY ρ 55 (r 55) j 1) 9 (r 9) ((ρ.1 415 (r 0))).toNat j) 415 (r 0) ((ρ.1 415 (r 0)) + 1)) 5 (r 5) j v).1 415 (r 0) = (ρ.1 415 (r 0)) + 1 := upI_at
  have rr : (∀ kd q k, rng ((upY (upI (upY (upY ρ 55 (r 55) j 1) 9 (r 9) ((ρ.1 415 (r 0))).toNat j) 415 (r 0) ((ρ.1 415 (r 0)) + 1)) 5 (r 5) j v).2.1 kd q k)) := by
    have a1 := rng_upY (rng_upY h.rw.ry (kd := 55) (q := r 55) (k := j) (v := 1) rng_1) (kd := 9) (q := r 9) (k := ((ρ.1 415 (r 0))).toNat) (v := j) ⟨by omega, by omega⟩
    exact rng_upY (ρ := upI (upY (upY ρ 55 (r 55) j 1) 9 (r 9) ((ρ.1 415 (r 0))).toNat j) 415 (r 0) ((ρ.1 415 (r 0)) + 1)) a1 ⟨by omega, by omega⟩
  have ri : (∀ f q, rng ((upY (upI (upY (upY ρ 55 (r 55) j 1) 9 (r 9) ((ρ.1 415 (r 0))).toNat j) 415 (r 0) ((ρ.1 415 (r 0)) + 1)) 5 (r 5) j v).1 f q)) := rng_upI (ρ := upY (upY ρ 55 (r 55) j 1) 9 (r 9) ((ρ.1 415 (r 0))).toNat j) h.rw.ri ⟨by omega, by omega⟩
  generalize upY (upI (upY (upY ρ 55 (r 55) j 1) 9 (r 9) ((ρ.1 415 (r 0))).toNat j) 415 (r 0) ((ρ.1 415 (r 0)) + 1)) 5 (r 5) j v = ρ' at *
  generalize upI (upI (gAdd (c 6) (c 7) (some t) σ) 206 t 1) 202 t v = σ' at *
  have w := h.rw
  have ek : ∀ kd q k, kd ≠ 5 ∧ kd ≠ 9 ∧ kd ≠ 55 → ρ'.2.1 kd q k = ρ.2.1 kd q k := fun kd q k a => yk kd q k a.1 a.2.1 a.2.2
  have ez : ∀ f q, f ≠ 206 ∧ f ≠ 101 ∧ f ≠ 202 → σ'.1 f q = σ.1 f q := fun f q a => e1 f q a.1 a.2.1 a.2.2
  have ne : ∀ i u, i < 90 → th i = some u → (i = j ↔ u = t) := by
    intro i u hi e
    constructor
    · intro z; rw [z, ht] at e; exact (Option.some.inj e).symm
    · intro z; exact h.rb.k2 i j t hi hj (by rw [e, z]) ht
  refine ⟨?_, ?_, ya', fun i u hi e => ?_, by rw [f4, eC, rc], fun i hi => ?_, ?_, fun i u hi e => ?_, fun i hi e => ?_, fun i hi => ?_⟩
  · refine ⟨w.ly, ri, rr, fun i hi => ?_, fun i hi => ?_, fun i hi => ?_, fun i hi => ?_, fun i hi => ?_, fun i hi => ?_, fun i hi => ?_, fun i hi => ?_, ?_, fun i hi => ?_⟩
    · rw [ek 1 _ _ (by decide)]; exact w.kn i hi
    · rw [ek 3 _ _ (by decide)]; exact w.fd i hi
    · rw [ek 6 _ _ (by decide)]; exact w.pa i hi
    · rw [ek 4 _ _ (by decide)]; exact w.rf i hi
    · rw [ek 7 _ _ (by decide)]; exact w.rt i hi
    · rw [y5]
      split
      · exact hv
      · exact w.ag i hi
    · rw [ek 51 _ _ (by decide), ek 52 _ _ (by decide)]; exact w.bm i hi
    · rw [ek 53 _ _ (by decide), ek 54 _ _ (by decide)]; exact w.bd i hi
    · rw [f1 _ _ (by decide)]; exact w.yo
    · rw [f1 _ _ (by decide)] at hi
      rw [ek 8 _ _ (by decide)]; exact w.od i hi
  · refine h.rb.chg h.ya.gb.wf.ty (fun q k => ?_) (fun q k => ?_) (fun u => ez _ _ (by decide)) (fun k => ek _ _ _ (by decide)) (fun k => ek _ _ _ (by decide)) (fun k => ek _ _ _ (by decide)) (fun k => ek _ _ _ (by decide)) (fun i u hi e => ?_) (fun i hi e => ?_) (fun u _ hu => by rw [ez 203 u (by decide)]; exact hu) (fun i hi => ?_) ?_ (fun i hi => ?_)
    · rw [eX, if_neg (by omega)]
    · rw [eX, if_neg (by omega)]
    · obtain ⟨b1, b2, b3, b4⟩ := h.rb.k1 i u hi e
      obtain ⟨_, _, d3, d4, d5⟩ := h.rb.k4 i u hi e
      have k0 := h.rb.k0 i hi
      rw [e] at k0
      rw [ek 1 _ _ (by decide), ek 6 _ _ (by decide), ek 51 _ _ (by decide), ek 52 _ _ (by decide), ez 203 _ (by decide), ez 204 _ (by decide), ez 205 _ (by decide), y5, eG]
      refine ⟨fun z => (by cases (k0.mp z)), b2, b3, b4, d3, d4, fun z => ?_⟩
      by_cases x : i = j
      · rw [if_pos x, if_pos ((ne i u hi e).mp x)]
      · rw [if_neg x, if_neg (fun y => x ((ne i u hi e).mpr y))]; exact d5 z
    · rw [ek 1 _ _ (by decide), ek 51 _ _ (by decide), ek 52 _ _ (by decide)]
      exact ⟨(h.rb.k0 i hi).mpr e, h.rb.k5 i hi e⟩
    · rw [ek 53 _ _ (by decide), ek 54 _ _ (by decide), ez 304 _ (by decide), ez 305 _ (by decide)]; exact h.rb.k8 i hi
    · rw [f1 _ _ (by decide), f1 _ _ (by decide), f1 _ _ (by decide), ez 306 _ (by decide), ez 307 _ (by decide), eC2]; exact h.rb.k9
    · rw [f1 _ _ (by decide)] at hi
      rw [ek 8 _ _ (by decide), eX, if_neg (fun z => n37 z.2.1)]
      exact h.rb.ka i hi
  · rw [y55, eR]
    by_cases x : i = j
    · rw [if_pos x, if_pos ((ne i u hi e).mp x)]
    · rw [if_neg x, if_neg (fun y => x ((ne i u hi e).mpr y))]; exact h.me i u hi e
  · rw [eC] at hi
    rw [y9, eX]
    by_cases x : i = ((σ.1 101 (c 6))).toNat
    · rw [if_pos (by rw [rc]; exact x), if_pos ⟨rfl, rfl, x⟩]
      exact ⟨j, t, hj, rfl, ht, rfl⟩
    · rw [if_neg (by rw [rc]; exact x), if_neg (fun z => x z.2.2)]
      exact h.ro i (by omega)
  · rw [f1 _ _ (by decide), h.gr]
    unfold gN
    rw [eC, show ((σ.1 101 (c 6)) + 1).toNat = ((σ.1 101 (c 6))).toNat + 1 by omega]
    show _ = sumN (gN1 c σ') ((σ.1 101 (c 6))).toNat + gN1 c σ' ((σ.1 101 (c 6))).toNat
    have e2 : gN1 c σ' ((σ.1 101 (c 6))).toNat = 0 := by
      unfold gN1
      rw [eX, if_pos ⟨rfl, rfl, rfl⟩]
      simp only
      rw [ez 203 _ (by decide), if_pos hy]
    rw [e2, Int.add_zero]
    refine sumN_congr (fun i hi => ?_)
    unfold gN1
    rw [eX, if_neg (by omega)]
    cases σ.2.2 101 (c 7) i with
    | none => rfl
    | some u => simp only; rw [ez 203 _ (by decide)]
  · rw [ek 56 _ _ (by decide)]; exact h.wo i u hi e
  · rw [ek 56 _ _ (by decide)]; exact h.wn i hi e
  · rw [ek 57 _ _ (by decide)]; exact h.wd i hi
-- a young thing gets a place in the old part: on both sides
def PL (r : Nat → Nat) (j : Nat) (p m : Int) (ρ ρ' : Mem) : Prop :=
  (∀ f q, f ≠ 421 → ρ'.1 f q = ρ.1 f q) ∧
  ((ρ'.1 421 (r 0)) = (ρ.1 421 (r 0)) + 1) ∧
  (∀ kd q k, kd ≠ 1 → kd ≠ 6 → kd ≠ 51 → kd ≠ 52 → kd ≠ 53 → ρ'.2.1 kd q k = ρ.2.1 kd q k) ∧
  (∀ i, (ρ'.2.1 1 (r 1) i) = if i = j then 2 else (ρ.2.1 1 (r 1) i)) ∧
  (∀ i, (ρ'.2.1 6 (r 6) i) = if i = j then p else (ρ.2.1 6 (r 6) i)) ∧
  (∀ i, (ρ'.2.1 51 (r 51) i) = if i = j then m else (ρ.2.1 51 (r 51) i)) ∧
  (∀ i, (ρ'.2.1 52 (r 52) i) = if i = j then 0 else (ρ.2.1 52 (r 52) i)) ∧
  (∀ kd q k, rng (ρ'.2.1 kd q k)) ∧
  (∀ f q, rng (ρ'.1 f q))
theorem PL.f1 {r : Nat → Nat} {j : Nat} {p m : Int} {ρ ρ' : Mem} (h : PL r j p m ρ ρ') : ∀ f q, f ≠ 421 → ρ'.1 f q = ρ.1 f q := h.1
theorem PL.f2 {r : Nat → Nat} {j : Nat} {p m : Int} {ρ ρ' : Mem} (h : PL r j p m ρ ρ') : (ρ'.1 421 (r 0)) = (ρ.1 421 (r 0)) + 1 := h.2.1
theorem PL.ys {r : Nat → Nat} {j : Nat} {p m : Int} {ρ ρ' : Mem} (h : PL r j p m ρ ρ') : ∀ kd q k, kd ≠ 1 → kd ≠ 6 → kd ≠ 51 → kd ≠ 52 → kd ≠ 53 → ρ'.2.1 kd q k = ρ.2.1 kd q k := h.2.2.1
theorem PL.y1 {r : Nat → Nat} {j : Nat} {p m : Int} {ρ ρ' : Mem} (h : PL r j p m ρ ρ') : ∀ i, (ρ'.2.1 1 (r 1) i) = if i = j then 2 else (ρ.2.1 1 (r 1) i) := h.2.2.2.1
theorem PL.y6 {r : Nat → Nat} {j : Nat} {p m : Int} {ρ ρ' : Mem} (h : PL r j p m ρ ρ') : ∀ i, (ρ'.2.1 6 (r 6) i) = if i = j then p else (ρ.2.1 6 (r 6) i) := h.2.2.2.2.1
theorem PL.ym {r : Nat → Nat} {j : Nat} {p m : Int} {ρ ρ' : Mem} (h : PL r j p m ρ ρ') : ∀ i, (ρ'.2.1 51 (r 51) i) = if i = j then m else (ρ.2.1 51 (r 51) i) := h.2.2.2.2.2.1
theorem PL.yg {r : Nat → Nat} {j : Nat} {p m : Int} {ρ ρ' : Mem} (h : PL r j p m ρ ρ') : ∀ i, (ρ'.2.1 52 (r 52) i) = if i = j then 0 else (ρ.2.1 52 (r 52) i) := h.2.2.2.2.2.2.1
theorem PL.hr {r : Nat → Nat} {j : Nat} {p m : Int} {ρ ρ' : Mem} (h : PL r j p m ρ ρ') : ∀ kd q k, rng (ρ'.2.1 kd q k) := h.2.2.2.2.2.2.2.1
theorem PL.hi {r : Nat → Nat} {j : Nat} {p m : Int} {ρ ρ' : Mem} (h : PL r j p m ρ ρ') : ∀ f q, rng (ρ'.1 f q) := h.2.2.2.2.2.2.2.2
theorem RW.pl {j : Nat} {p m : Int} {ρ' : Mem} (w : RW ΛR r ρ) (a : PL r j p m ρ ρ') (hp : 0 ≤ p ∧ p ≤ 64) (hm : m = 0 ∨ m = 1) (hd : ∀ i : Nat, i < 8 → (ρ'.2.1 53 (r 53) i) = 0 ∨ (ρ'.2.1 53 (r 53) i) = 1) : RW ΛR r ρ' := by
  have ek : ∀ kd q k, kd ≠ 1 ∧ kd ≠ 6 ∧ kd ≠ 51 ∧ kd ≠ 52 ∧ kd ≠ 53 → ρ'.2.1 kd q k = ρ.2.1 kd q k := fun kd q k b => a.ys kd q k b.1 b.2.1 b.2.2.1 b.2.2.2.1 b.2.2.2.2
  refine ⟨w.ly, a.hi, a.hr, fun i hi => ?_, fun i hi => ?_, fun i hi => ?_, fun i hi => ?_, fun i hi => ?_, fun i hi => ?_, fun i hi => ⟨?_, ?_⟩, fun i hi => ⟨hd i hi, ?_⟩, ?_, fun i hi => ?_⟩
  · rw [a.y1]
    split
    · exact Or.inr (Or.inr rfl)
    · exact w.kn i hi
  · rw [ek 3 _ _ (by decide)]; exact w.fd i hi
  · rw [a.y6]
    split
    · exact hp
    · exact w.pa i hi
  · rw [ek 4 _ _ (by decide)]; exact w.rf i hi
  · rw [ek 7 _ _ (by decide)]; exact w.rt i hi
  · rw [ek 5 _ _ (by decide)]; exact w.ag i hi
  · rw [a.ym]
    split
    · exact hm
    · exact (w.bm i hi).1
  · rw [a.yg]
    split
    · exact Or.inl rfl
    · exact (w.bm i hi).2
  · rw [ek 54 _ _ (by decide)]; exact (w.bd i hi).2
  · rw [a.f1 _ _ (by decide)]; exact w.yo
  · rw [a.f1 _ _ (by decide)] at hi
    rw [ek 8 _ _ (by decide)]; exact w.od i hi
theorem RB.pl {j t : Nat} {p m : Int} {ρ' s : Mem} (h : RB Λ c r th σ ρ) (g : GB Λ c σ) (hj : j < 90) (ht : th j = some t) (hy : (σ.1 203 t) = -1) (a : PL r j p m ρ ρ') (hp : 0 ≤ p) (eA : ∀ u, (s.1 203 u) = if u = t then p else (σ.1 203 u)) (eM : ∀ u, (s.1 204 u) = if u = t then m else (σ.1 204 u)) (eO : ∀ f q, f ≠ 203 → f ≠ 204 → f ≠ 304 → s.1 f q = σ.1 f q) (eX : ∀ kd q k, kd ≠ 102 → s.2.2 kd q k = σ.2.2 kd q k) (hd : ∀ i : Nat, i < 8 → ((ρ'.2.1 53 (r 53) i) = 0 ↔ cb ((s.1 304 (c 0))) i = false)) : RB Λ c r th s ρ' := by
  have ek : ∀ kd q k, kd ≠ 1 ∧ kd ≠ 6 ∧ kd ≠ 51 ∧ kd ≠ 52 ∧ kd ≠ 53 → ρ'.2.1 kd q k = ρ.2.1 kd q k := fun kd q k b => a.ys kd q k b.1 b.2.1 b.2.2.1 b.2.2.2.1 b.2.2.2.2
  have ne : ∀ i u, i < 90 → th i = some u → (i = j ↔ u = t) := by
    intro i u hi e
    constructor
    · intro z; rw [z, ht] at e; exact (Option.some.inj e).symm
    · intro z; exact h.k2 i j t hi hj (by rw [e, z]) ht
  have hT := (h.k1 j t hj ht).1
  have gz := (g.ym t hT hy).2
  refine h.chg g.wf.ty (fun q k => eX _ _ _ (by decide)) (fun q k => eX _ _ _ (by decide)) (fun u => eO _ _ (by decide) (by decide) (by decide)) (fun k => ek _ _ _ (by decide)) (fun k => ek _ _ _ (by decide)) (fun k => ek _ _ _ (by decide)) (fun k => ek _ _ _ (by decide)) (fun i u hi e => ?_) (fun i hi e => ?_) (fun u _ hu => ?_) (fun i hi => ⟨hd i hi, ?_⟩) ?_ (fun i hi => ?_)
  · obtain ⟨b1, b2, b3, b4⟩ := h.k1 i u hi e
    obtain ⟨_, _, d3, d4, d5⟩ := h.k4 i u hi e
    have k0 := h.k0 i hi
    rw [e] at k0
    rw [a.y1, a.y6, a.ym, a.yg, eA, eM, eO 205 _ (by decide) (by decide) (by decide), eO 202 _ (by decide) (by decide) (by decide), ek 5 _ _ (by decide)]
    by_cases x : i = j
    · have xu := (ne i u hi e).mp x
      rw [if_pos x, if_pos x, if_pos x, if_pos x, if_pos xu, if_pos xu, xu]
      exact ⟨by decide, by omega, ⟨fun z => by omega, fun z => by omega⟩, fun _ => rfl, rfl, gz.symm, fun z => absurd z (by decide)⟩
    · have xu : u ≠ t := fun y => x ((ne i u hi e).mpr y)
      rw [if_neg x, if_neg x, if_neg x, if_neg x, if_neg xu, if_neg xu]
      exact ⟨fun z => (by cases (k0.mp z)), b2, b3, b4, d3, d4, d5⟩
  · have x : i ≠ j := fun z => by rw [z, ht] at e; cases e
    rw [a.y1, a.ym, a.yg, if_neg x, if_neg x, if_neg x]
    exact ⟨(h.k0 i hi).mpr e, h.k5 i hi e⟩
  · rw [eA, if_neg (fun z => by rw [z, hy] at hu; omega)]; exact hu
  · rw [ek 54 _ _ (by decide), eO 305 _ (by decide) (by decide) (by decide)]; exact (h.k8 i hi).2
  · rw [a.f1 _ _ (by decide), a.f1 _ _ (by decide), a.f1 _ _ (by decide), eO 306 _ (by decide) (by decide) (by decide), eO 307 _ (by decide) (by decide) (by decide), eO 101 _ (by decide) (by decide) (by decide)]; exact h.k9
  · rw [a.f1 _ _ (by decide)] at hi
    rw [ek 8 _ _ (by decide), eX _ _ _ (by decide)]; exact h.ka i hi
end RY2
