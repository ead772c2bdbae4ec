/-! Shading, scanning, beginning on both sides. -/
section RLN
variable {l : Launch} {D : va_G} {Λ ΛR : Lam} {c r : Nat → Nat} {th : Nat → Option Nat} {σ ρ : Mem}
theorem RB.mark1 (h : RB Λ c r th σ ρ) {j t : Nat} {v : Int} (hj : j < 90) (ht : th j = some t) : RB Λ c r th (upI σ 204 t v) (upY ρ 51 (r 51) j v) := by
  refine h.mg rfl (fun f q f1 _ => upI_ne f1) rfl (fun kd q k k1 _ => upY_nk k1) (fun i u hi e => ?_) (fun i hi e => ?_)
  · obtain ⟨_, _, m1, m2, _⟩ := h.k4 i u hi e
    rw [upY_nk (kd' := 52) (by decide), upI_ne (f' := 205) (by decide)]
    refine ⟨?_, m2⟩
    by_cases x : i = j
    · have hu : u = t := by rw [x, ht] at e; exact (Option.some.inj e).symm
      rw [x, hu, upY_at, upI_at]
    · have hu : u ≠ t := fun z => x (h.k2 i j t hi hj (by rw [e, z]) ht)
      rw [upY_ni x, upI_nq hu]; exact m1
  · have := h.k5 i hi e
    have x : i ≠ j := fun z => by rw [z, ht] at e; cases e
    rw [upY_nk (kd' := 52) (by decide), upY_ni x]
    exact this
theorem RB.grey1 (h : RB Λ c r th σ ρ) {j t : Nat} {v : Int} (hj : j < 90) (ht : th j = some t) : RB Λ c r th (upI σ 205 t v) (upY ρ 52 (r 52) j v) := by
  refine h.mg rfl (fun f q _ f1 => upI_ne f1) rfl (fun kd q k _ k1 => upY_nk k1) (fun i u hi e => ?_) (fun i hi e => ?_)
  · obtain ⟨_, _, m1, m2, _⟩ := h.k4 i u hi e
    rw [upY_nk (kd' := 51) (by decide), upI_ne (f' := 204) (by decide)]
    refine ⟨m1, ?_⟩
    by_cases x : i = j
    · have hu : u = t := by rw [x, ht] at e; exact (Option.some.inj e).symm
      rw [x, hu, upY_at, upI_at]
    · have hu : u ≠ t := fun z => x (h.k2 i j t hi hj (by rw [e, z]) ht)
      rw [upY_ni x, upI_nq hu]; exact m2
  · have := h.k5 i hi e
    have x : i ≠ j := fun z => by rw [z, ht] at e; cases e
    rw [upY_nk (kd' := 51) (by decide), upY_ni x]
    exact this
theorem RW.mark1 (w : RW ΛR r ρ) {j : Nat} {v : Int} (hv : v = 0 ∨ v = 1) : RW ΛR r (upY ρ 51 (r 51) j v) := by
  refine w.mg rfl (fun kd q k k1 _ => upY_nk k1) (fun kd q k => ?_) (fun i hi => ?_)
  · rw [upY_21]
    split
    · exact ⟨by omega, by omega⟩
    · exact w.ry kd q k
  · rw [upY_nk (kd' := 52) (by decide)]
    refine ⟨?_, (w.bm i hi).2⟩
    rw [upY_21]
    split
    · exact hv
    · exact (w.bm i hi).1
theorem RW.grey1 (w : RW ΛR r ρ) {j : Nat} {v : Int} (hv : v = 0 ∨ v = 1) : RW ΛR r (upY ρ 52 (r 52) j v) := by
  refine w.mg rfl (fun kd q k _ k1 => upY_nk k1) (fun kd q k => ?_) (fun i hi => ?_)
  · rw [upY_21]
    split
    · exact ⟨by omega, by omega⟩
    · exact w.ry kd q k
  · rw [upY_nk (kd' := 51) (by decide)]
    refine ⟨(w.bm i hi).1, ?_⟩
    rw [upY_21]
    split
    · exact hv
    · exact (w.bm i hi).2
theorem s_shade {z : Int} {o : Option Nat} {P : Int → Mem → Prop} (w : RW ΛR r ρ) (g : GB Λ c σ) (h : RB Λ c r th σ ρ) (hz : RF th σ z o) (hp : ∀ ρ', RW ΛR r ρ' → RB Λ c r th (fShade o σ).2 ρ' → P (fShade o σ).1 ρ') : K_M_shade l D ΛR ρ r z P := by
  rcases hz with (⟨e1, e2⟩ | ⟨j, u, hj, e1, e2, e3⟩) | ⟨e1, u, e2, e3⟩
  · rw [e1]
    rw [e2] at hp
    exact w_M_shade w.ly ⟨⟨by omega, by omega⟩, fun _ => hp ρ w h, fun n => absurd (by decide) n⟩
  · rw [e1]
    rw [e3] at hp
    unfold fShade at hp
    simp only at hp
    have ho := h.old w g hj e2
    obtain ⟨_, _, m1, m2, _⟩ := h.k4 j u hj e2
    refine w_M_shade w.ly ⟨⟨by omega, by omega⟩, fun n => absurd n (by omega), fun _ => ⟨by omega, by omega, w.ry _ _ _, fun n => ?_, fun n => ⟨by omega, by omega, w.ry _ _ _, fun n2 => ⟨by omega, by omega, by omega, by omega, ?_⟩, fun n2 => ?_⟩⟩⟩
    · have n : ¬ (ρ.2.1 1 (r 1) j) = 2 := n
      rw [if_neg (fun q => n (ho.mpr q.1))] at hp
      exact hp ρ w h
    · have n : (ρ.2.1 1 (r 1) j) = 2 := n
      have n2 : (ρ.2.1 51 (r 51) j) = 0 := n2
      rw [if_pos ⟨ho.mp n, by omega⟩] at hp
      exact hp _ ((w.mark1 (Or.inr rfl)).grey1 (Or.inr rfl)) ((h.mark1 hj e2).grey1 hj e2)
    · have n2 : ¬ (ρ.2.1 51 (r 51) j) = 0 := n2
      rw [if_neg (fun q => n2 (by omega))] at hp
      exact hp ρ w h
  · rw [e1]
    rw [e2] at hp
    unfold fShade at hp
    simp only at hp
    rw [if_neg (by omega)] at hp
    exact w_M_shade w.ly ⟨⟨by omega, by omega⟩, fun _ => hp ρ w h, fun n => absurd (by decide) n⟩
end RLN
