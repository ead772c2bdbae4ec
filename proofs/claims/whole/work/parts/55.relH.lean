/-! Greying again by a card, on both sides. -/
section RLH
variable {l : Launch} {D : va_G} {Λ ΛR : Lam} {c r : Nat → Nat} {th : Nat → Option Nat} {σ ρ : Mem}
theorem lies_iff (h : RB Λ c r th σ ρ) (w : RW ΛR r ρ) (g : GB Λ c σ) {i t cd : Nat} (hi : i < 90) (e : th i = some t) (hc : cd < 8) : mLies r ρ i cd ≠ 0 ↔ ∃ a : Nat, a < 64 ∧ (σ.2.2 102 (c 5) a) = some t ∧ a / 8 = cd := by
  obtain ⟨x1, x2, x3, x4⟩ := h.k1 i t hi e
  have hf := (h.k4 i t hi e).2.1
  have ho := h.old w g hi e
  unfold mLies
  constructor
  · intro z
    by_cases q : (ρ.2.1 1 (r 1) i) = 2 ∧ (ρ.2.1 6 (r 6) i) < 8 * (cd : Int) + 8 ∧ 8 * (cd : Int) ≤ (ρ.2.1 6 (r 6) i) + (ρ.2.1 3 (r 3) i)
    · obtain ⟨q1, q2, q3⟩ := q
      have hA := ho.mp q1
      have e4 := x4 q1
      have h64 : (σ.1 203 t) + szI Λ t ≤ 64 := by
        rcases g.ad t x1 with y | y | ⟨_, y⟩
        · omega
        · omega
        · exact y
      have hs : szI Λ t = 1 + (nfL Λ t : Int) := rfl
      by_cases y : (σ.1 203 t) ≤ 8 * (cd : Int)
      · exact ⟨8 * cd, by omega, (g.ce (8 * cd) t (by omega)).mpr ⟨x1, hA, by omega, by omega⟩, by omega⟩
      · exact ⟨((σ.1 203 t)).toNat, by omega, (g.ce _ t (by omega)).mpr ⟨x1, hA, by omega, by omega⟩, by omega⟩
    · rw [if_neg q] at z; exact absurd rfl z
  · rintro ⟨a, ha, hcel, hd⟩
    obtain ⟨y1, y2, y3, y4⟩ := (g.ce a t ha).mp hcel
    have q1 := ho.mpr y2
    have e4 := x4 q1
    have hs : szI Λ t = 1 + (nfL Λ t : Int) := rfl
    rw [if_pos ⟨q1, by omega, by omega⟩]
    decide
theorem RB.regrey {ρ' : Mem} {cd : Nat} {cards : Int} (h : RB Λ c r th σ ρ) (w : RW ΛR r ρ) (g : GB Λ c σ) (hc : cd < 8) (hcb : ∀ i, i < 8 → (cb cards i = true ↔ i = cd)) (e1 : ρ'.1 = ρ.1) (eY : ∀ kd q k, kd ≠ 52 → ρ'.2.1 kd q k = ρ.2.1 kd q k) (eg : ∀ m : Nat, m < 90 → (ρ'.2.1 52 (r 52) m) = if (ρ.2.1 52 (r 52) m) ≠ 0 ∨ ((ρ.2.1 51 (r 51) m) ≠ 0 ∧ mLies r ρ m cd ≠ 0) then 1 else 0) : RB Λ c r th (gGrey c cards σ) ρ' := by
  obtain ⟨h1, h2, h3, h4⟩ := grey_is c cards σ
  generalize gGrey c cards σ = s at *
  refine h.mg h1 (fun f q _ f1 => h2 f q f1) e1 (fun kd q k _ k1 => eY kd q k k1) (fun i t hi e => ?_) (fun i hi e => ?_)
  · obtain ⟨_, _, m1, m2, _⟩ := h.k4 i t hi e
    have li := lies_iff h w g hi e hc
    have fl := g.fl t (h.k1 i t hi e).1
    refine ⟨by rw [eY _ _ _ (by decide), h2 _ _ (by decide)]; exact m1, ?_⟩
    rw [eg i hi]
    by_cases z : ∃ a : Nat, a < 64 ∧ (σ.2.2 102 (c 5) a) = some t ∧ (σ.1 204 t) ≠ 0 ∧ iAnd cards (fCard a) ≠ 0
    · rw [h3 t z]
      obtain ⟨a, ha, b1, b2, b3⟩ := z
      rw [if_pos (Or.inr ⟨by rw [m1]; exact b2, li.mpr ⟨a, ha, b1, (hcb _ (by omega)).mp ((cb_hit cards ha).mp b3)⟩⟩)]
    · rw [h4 t z]
      by_cases y : (ρ.2.1 52 (r 52) i) ≠ 0
      · rw [if_pos (Or.inl y)]
        rcases fl.2.1 with q | q <;> omega
      · have nn : ¬ ((ρ.2.1 52 (r 52) i) ≠ 0 ∨ ((ρ.2.1 51 (r 51) i) ≠ 0 ∧ mLies r ρ i cd ≠ 0)) := by
          intro q
          rcases q with q | ⟨q1, q2⟩
          · exact y q
          · obtain ⟨a, ha, b1, b2⟩ := li.mp q2
            exact z ⟨a, ha, b1, by rw [← m1]; exact q1, (cb_hit cards ha).mpr ((hcb _ (by omega)).mpr b2)⟩
        rw [if_neg nn]
        omega
  · have := h.k5 i hi e
    refine ⟨by rw [eY _ _ _ (by decide)]; exact this.1, ?_⟩
    rw [eg i hi, if_neg (fun q => q.elim (fun q => q this.2) (fun q => q.1 this.1))]
end RLH
