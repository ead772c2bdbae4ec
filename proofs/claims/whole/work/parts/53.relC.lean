/-! The cards as one number, on both sides. -/
def Xb (b0 b1 b2 b3 b4 b5 b6 b7 : Bool) : Int := (if b0 then 1 else 0) + (if b1 then 2 else 0) + (if b2 then 4 else 0) + (if b3 then 8 else 0) + (if b4 then 16 else 0) + (if b5 then 32 else 0) + (if b6 then 64 else 0) + (if b7 then 128 else 0)
def Bb (b0 b1 b2 b3 b4 b5 b6 b7 : Bool) (i : Nat) : Bool := if i = 0 then b0 else if i = 1 then b1 else if i = 2 then b2 else if i = 3 then b3 else if i = 4 then b4 else if i = 5 then b5 else if i = 6 then b6 else if i = 7 then b7 else false
theorem cb_Xb : ∀ b0 b1 b2 b3 b4 b5 b6 b7 : Bool, ∀ i, i < 32 → cb (Xb b0 b1 b2 b3 b4 b5 b6 b7) i = Bb b0 b1 b2 b3 b4 b5 b6 b7 i := by decide +kernel
theorem shl_Xb : ∀ b0 b1 b2 b3 b4 b5 b6 b7 : Bool, iShl (Xb b0 b1 b2 b3 b4 b5 b6 b7) 8 = 256 * Xb b0 b1 b2 b3 b4 b5 b6 b7 := by decide +kernel
theorem cb_Xc : ∀ b0 b1 b2 b3 b4 b5 b6 b7 : Bool, ∀ i, i < 8 → cb (256 * Xb b0 b1 b2 b3 b4 b5 b6 b7) i = false := by decide +kernel
theorem Xb_le (b0 b1 b2 b3 b4 b5 b6 b7 : Bool) : 0 ≤ Xb b0 b1 b2 b3 b4 b5 b6 b7 ∧ Xb b0 b1 b2 b3 b4 b5 b6 b7 ≤ 255 := by
  unfold Xb
  cases b0 <;> cases b1 <;> cases b2 <;> cases b3 <;> cases b4 <;> cases b5 <;> cases b6 <;> cases b7 <;> decide
theorem lo8_Xb {z : Int} (h : lo8 z) : z = Xb (cb z 0) (cb z 1) (cb z 2) (cb z 3) (cb z 4) (cb z 5) (cb z 6) (cb z 7) := by
  have hx := Xb_le (cb z 0) (cb z 1) (cb z 2) (cb z 3) (cb z 4) (cb z 5) (cb z 6) (cb z 7)
  refine cb_ext h.1 ⟨by omega, by omega⟩ (fun i hi => ?_)
  rw [cb_Xb _ _ _ _ _ _ _ _ i hi]
  unfold Bb
  by_cases h8 : 8 ≤ i
  · rw [h.2 i h8, if_neg (by omega), if_neg (by omega), if_neg (by omega), if_neg (by omega), if_neg (by omega), if_neg (by omega), if_neg (by omega), if_neg (by omega)]
  · rcases (show i = 0 ∨ i = 1 ∨ i = 2 ∨ i = 3 ∨ i = 4 ∨ i = 5 ∨ i = 6 ∨ i = 7 by omega) with e | e | e | e | e | e | e | e <;> subst e <;> rfl
theorem or_add {a b : Int} (hr : rng (a + b)) (h : ∀ i, i < 32 → (cb a i && cb b i) = false) : iOr a b = a + b := by
  have e : (iI a).toBitVec &&& (iI b).toBitVec = 0#32 := by
    refine BitVec.eq_of_getLsbD_eq (fun i hi => ?_)
    rw [BitVec.getLsbD_and, BitVec.getLsbD_zero]
    exact h i hi
  have e2 := BitVec.add_eq_or_of_and_eq_zero _ _ e
  have e3 : iI (iOr a b) = iI (a + b) := by
    rw [← iI_or, ← iI_add]
    refine Int32.toBitVec_inj.mp ?_
    rw [Int32.toBitVec_or, Int32.toBitVec_add]
    exact e2.symm
  exact (iI_eq (rng_or _ _) hr).mp e3
theorem sum_Xb (d m : Nat → Bool) : sumN (fun i => (if d i = true then iShl 1 ((i : Nat) : Int) else 0) + (if m i = true then iShl 256 ((i : Nat) : Int) else 0)) 8 = Xb (d 0) (d 1) (d 2) (d 3) (d 4) (d 5) (d 6) (d 7) + 256 * Xb (m 0) (m 1) (m 2) (m 3) (m 4) (m 5) (m 6) (m 7) := by
  have p : ∀ (b : Bool) (y : Int), (if b = true then 256 * y else 0) = 256 * (if b = true then y else 0) := by
    intro b y
    cases b <;> simp
  have s0 : iShl 1 ((0 : Nat) : Int) = 1 := by decide +kernel
  have t0 : iShl 256 ((0 : Nat) : Int) = 256 * 1 := by decide +kernel
  have s1 : iShl 1 ((1 : Nat) : Int) = 2 := by decide +kernel
  have t1 : iShl 256 ((1 : Nat) : Int) = 256 * 2 := by decide +kernel
  have s2 : iShl 1 ((2 : Nat) : Int) = 4 := by decide +kernel
  have t2 : iShl 256 ((2 : Nat) : Int) = 256 * 4 := by decide +kernel
  have s3 : iShl 1 ((3 : Nat) : Int) = 8 := by decide +kernel
  have t3 : iShl 256 ((3 : Nat) : Int) = 256 * 8 := by decide +kernel
  have s4 : iShl 1 ((4 : Nat) : Int) = 16 := by decide +kernel
  have t4 : iShl 256 ((4 : Nat) : Int) = 256 * 16 := by decide +kernel
  have s5 : iShl 1 ((5 : Nat) : Int) = 32 := by decide +kernel
  have t5 : iShl 256 ((5 : Nat) : Int) = 256 * 32 := by decide +kernel
  have s6 : iShl 1 ((6 : Nat) : Int) = 64 := by decide +kernel
  have t6 : iShl 256 ((6 : Nat) : Int) = 256 * 64 := by decide +kernel
  have s7 : iShl 1 ((7 : Nat) : Int) = 128 := by decide +kernel
  have t7 : iShl 256 ((7 : Nat) : Int) = 256 * 128 := by decide +kernel
  show 0 + ((if d 0 = true then iShl 1 ((0 : Nat) : Int) else 0) + (if m 0 = true then iShl 256 ((0 : Nat) : Int) else 0)) + ((if d 1 = true then iShl 1 ((1 : Nat) : Int) else 0) + (if m 1 = true then iShl 256 ((1 : Nat) : Int) else 0)) + ((if d 2 = true then iShl 1 ((2 : Nat) : Int) else 0) + (if m 2 = true then iShl 256 ((2 : Nat) : Int) else 0)) + ((if d 3 = true then iShl 1 ((3 : Nat) : Int) else 0) + (if m 3 = true then iShl 256 ((3 : Nat) : Int) else 0)) + ((if d 4 = true then iShl 1 ((4 : Nat) : Int) else 0) + (if m 4 = true then iShl 256 ((4 : Nat) : Int) else 0)) + ((if d 5 = true then iShl 1 ((5 : Nat) : Int) else 0) + (if m 5 = true then iShl 256 ((5 : Nat) : Int) else 0)) + ((if d 6 = true then iShl 1 ((6 : Nat) : Int) else 0) + (if m 6 = true then iShl 256 ((6 : Nat) : Int) else 0)) + ((if d 7 = true then iShl 1 ((7 : Nat) : Int) else 0) + (if m 7 = true then iShl 256 ((7 : Nat) : Int) else 0)) = _
  rw [s0, t0, s1, t1, s2, t2, s3, t3, s4, t4, s5, t5, s6, t6, s7, t7]
  simp only [p]
  unfold Xb
  generalize (if d 0 = true then (1 : Int) else 0) = a0
  generalize (if m 0 = true then (1 : Int) else 0) = c0
  generalize (if d 1 = true then (2 : Int) else 0) = a1
  generalize (if m 1 = true then (2 : Int) else 0) = c1
  generalize (if d 2 = true then (4 : Int) else 0) = a2
  generalize (if m 2 = true then (4 : Int) else 0) = c2
  generalize (if d 3 = true then (8 : Int) else 0) = a3
  generalize (if m 3 = true then (8 : Int) else 0) = c3
  generalize (if d 4 = true then (16 : Int) else 0) = a4
  generalize (if m 4 = true then (16 : Int) else 0) = c4
  generalize (if d 5 = true then (32 : Int) else 0) = a5
  generalize (if m 5 = true then (32 : Int) else 0) = c5
  generalize (if d 6 = true then (64 : Int) else 0) = a6
  generalize (if m 6 = true then (64 : Int) else 0) = c6
  generalize (if d 7 = true then (128 : Int) else 0) = a7
  generalize (if m 7 = true then (128 : Int) else 0) = c7
  omega
section RLC
variable {l : Launch} {D : va_G} {Λ ΛR : Lam} {c r : Nat → Nat} {th : Nat → Option Nat} {σ ρ : Mem}
theorem cards_eq (g : GB Λ c σ) (h : RB Λ c r th σ ρ) : sumN (mCd r ρ) 8 = fCardsV c σ := by
  have ed := lo8_Xb g.d8
  have en := lo8_Xb g.n8
  have k : ∀ i, i < 8 → mCd r ρ i = (if cb ((σ.1 304 (c 0))) i = true then iShl 1 i else 0) + (if cb ((σ.1 305 (c 0))) i = true then iShl 256 i else 0) := by
    intro i hi
    obtain ⟨k1, k2⟩ := h.k8 i hi
    unfold mCd
    congr 1
    · cases hc : cb ((σ.1 304 (c 0))) i with
      | true => rw [if_neg (fun z => by rw [k1.mp z] at hc; cases hc), if_pos rfl]
      | false => rw [if_pos (k1.mpr hc), if_neg (by decide)]
    · cases hc : cb ((σ.1 305 (c 0))) i with
      | true => rw [if_neg (fun z => by rw [k2.mp z] at hc; cases hc), if_pos rfl]
      | false => rw [if_pos (k2.mpr hc), if_neg (by decide)]
  have hv : fCardsV c σ = (σ.1 304 (c 0)) + 256 * (σ.1 305 (c 0)) := by
    unfold fCardsV
    have e8 : iShl ((σ.1 305 (c 0))) 8 = 256 * (σ.1 305 (c 0)) := by
      rw [en]
      exact shl_Xb _ _ _ _ _ _ _ _
    have x1 := Xb_le (cb ((σ.1 304 (c 0))) 0) (cb ((σ.1 304 (c 0))) 1) (cb ((σ.1 304 (c 0))) 2) (cb ((σ.1 304 (c 0))) 3) (cb ((σ.1 304 (c 0))) 4) (cb ((σ.1 304 (c 0))) 5) (cb ((σ.1 304 (c 0))) 6) (cb ((σ.1 304 (c 0))) 7)
    have x2 := Xb_le (cb ((σ.1 305 (c 0))) 0) (cb ((σ.1 305 (c 0))) 1) (cb ((σ.1 305 (c 0))) 2) (cb ((σ.1 305 (c 0))) 3) (cb ((σ.1 305 (c 0))) 4) (cb ((σ.1 305 (c 0))) 5) (cb ((σ.1 305 (c 0))) 6) (cb ((σ.1 305 (c 0))) 7)
    rw [← ed] at x1
    rw [← en] at x2
    rw [e8]
    refine or_add ⟨by omega, by omega⟩ (fun i hi => ?_)
    by_cases h8 : i < 8
    · have := cb_Xc (cb ((σ.1 305 (c 0))) 0) (cb ((σ.1 305 (c 0))) 1) (cb ((σ.1 305 (c 0))) 2) (cb ((σ.1 305 (c 0))) 3) (cb ((σ.1 305 (c 0))) 4) (cb ((σ.1 305 (c 0))) 5) (cb ((σ.1 305 (c 0))) 6) (cb ((σ.1 305 (c 0))) 7) i h8
      rw [← en] at this
      rw [this, Bool.and_false]
    · rw [g.d8.2 i (by omega), Bool.false_and]
  rw [hv, sumN_congr k, sum_Xb (cb ((σ.1 304 (c 0)))) (cb ((σ.1 305 (c 0)))), ← ed, ← en]
theorem s_cards {P : Int → Mem → Prop} (w : RW ΛR r ρ) (g : GB Λ c σ) (h : RB Λ c r th σ ρ) (hp : P (fCardsV c σ) ρ) : K_M_cards l D ΛR ρ r P := c_M_cards w (by rw [cards_eq g h]; exact hp)
end RLC
