/-! Cards as bits of a number. -/
def cb (z : Int) (i : Nat) : Bool := (iI z).toBitVec.getLsbD i
theorem cb_or (a b : Int) (i : Nat) : cb (iOr a b) i = (cb a i || cb b i) := by unfold cb; rw [← iI_or, Int32.toBitVec_or, BitVec.getLsbD_or]
theorem cb_and (a b : Int) (i : Nat) : cb (iAnd a b) i = (cb a i && cb b i) := by unfold cb; rw [← iI_and, Int32.toBitVec_and, BitVec.getLsbD_and]
theorem cb_xor (a b : Int) (i : Nat) : cb (iXor a b) i = (cb a i ^^ cb b i) := by unfold cb; rw [← iI_xor, Int32.toBitVec_xor, BitVec.getLsbD_xor]
theorem cb_big (a : Int) {i : Nat} (h : 32 ≤ i) : cb a i = false := BitVec.getLsbD_of_ge _ _ h
theorem cb_m1 : ∀ i, i < 32 → cb (-1) i = true := by decide +kernel
theorem cb_not (a : Int) {i : Nat} (h : i < 32) : cb (iXor a (-1)) i = !(cb a i) := by rw [cb_xor, cb_m1 i h]; cases cb a i <;> rfl
theorem cb_0 (i : Nat) : cb 0 i = false := BitVec.getLsbD_zero
theorem cb_ext {a b : Int} (ha : rng a) (hb : rng b) (h : ∀ i, i < 32 → cb a i = cb b i) : a = b := by
  have : iI a = iI b := Int32.toBitVec_inj.mp (BitVec.eq_of_getLsbD_eq (fun i hi => h i hi))
  exact (iI_eq ha hb).mp this
theorem cb_card : ∀ a, a < 64 → ∀ i, i < 32 → cb (fCard (a : Nat)) i = decide (i = a / 8) := by decide +kernel
theorem cb_card' {a : Nat} (h : a < 64) (i : Nat) : cb (fCard a) i = decide (i = a / 8) := by
  by_cases hi : i < 32
  · exact cb_card a h i hi
  · rw [cb_big _ (by omega)]
    exact (decide_eq_false (by omega)).symm
theorem cb_hit (z : Int) {a : Nat} (h : a < 64) : iAnd z (fCard a) ≠ 0 ↔ cb z (a / 8) = true := by
  constructor
  · intro hne
    cases hz : cb z (a / 8) with
    | true => rfl
    | false =>
      exfalso
      apply hne
      refine cb_ext (rng_and _ _) rng_0 (fun i hi => ?_)
      rw [cb_and, cb_card a h i hi, cb_0]
      by_cases e : i = a / 8
      · rw [e, hz]; rfl
      · rw [decide_eq_false e]; simp
  · intro hz h0
    have h1 := cb_and z (fCard a) (a / 8)
    rw [h0, cb_0, hz, cb_card' h] at h1
    simp at h1
def lo8 (z : Int) : Prop := rng z ∧ ∀ i, 8 ≤ i → cb z i = false
theorem lo8_0 : lo8 0 := ⟨rng_0, fun i _ => cb_0 i⟩
theorem lo8_or {a b : Int} (ha : lo8 a) (hb : lo8 b) : lo8 (iOr a b) := ⟨rng_or _ _, fun i hi => by rw [cb_or, ha.2 i hi, hb.2 i hi]; rfl⟩
theorem lo8_and {a : Int} (b : Int) (ha : lo8 a) : lo8 (iAnd a b) := ⟨rng_and _ _, fun i hi => by rw [cb_and, ha.2 i hi]; rfl⟩
theorem lo8_card {a : Nat} (h : a < 64) : lo8 (fCard a) := ⟨rng_shl _ _, fun i hi => by rw [cb_card' h]; exact decide_eq_false (by omega)⟩
