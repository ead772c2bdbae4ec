/-! Pure rows: iterations, sums, first places, pigeons. -/
def nfold {α : Type} (f : Nat → α → α) (a : α) : Nat → α
  | 0 => a
  | n + 1 => f n (nfold f a n)
theorem nfold_0 {α : Type} (f : Nat → α → α) (a : α) : nfold f a 0 = a := rfl
theorem nfold_s {α : Type} (f : Nat → α → α) (a : α) (n : Nat) : nfold f a (n + 1) = f n (nfold f a n) := rfl
theorem nfold_inv {α : Type} {f : Nat → α → α} {a : α} (I : Nat → α → Prop) (h0 : I 0 a) : ∀ n, (∀ i b, i < n → I i b → I (i + 1) (f i b)) → I n (nfold f a n)
  | 0, _ => h0
  | n + 1, hs => hs n _ (Nat.lt_succ_self n) (nfold_inv I h0 n (fun i b hi hb => hs i b (Nat.lt_succ_of_lt hi) hb))
theorem nfold_stop {α : Type} {f : Nat → α → α} {a : α} {i : Nat} (h : ∀ j, i ≤ j → f j (nfold f a i) = nfold f a i) : ∀ n, i ≤ n → nfold f a n = nfold f a i := by
  intro n hn
  induction n with
  | zero => rw [show i = 0 by omega]
  | succ n ih =>
    by_cases e : i = n + 1
    · rw [e]
    · rw [nfold_s, ih (by omega)]
      exact h n (by omega)
def sumN (f : Nat → Int) : Nat → Int
  | 0 => 0
  | n + 1 => sumN f n + f n
theorem sumN_congr {f g : Nat → Int} : ∀ {n : Nat}, (∀ i, i < n → f i = g i) → sumN f n = sumN g n
  | 0, _ => rfl
  | n + 1, h => by
    show sumN f n + f n = sumN g n + g n
    rw [sumN_congr (n := n) (fun i hi => h i (by omega)), h n (by omega)]
theorem sumN_zero {f : Nat → Int} {n : Nat} (h : ∀ i, i < n → f i = 0) : sumN f n = 0 := by
  induction n with
  | zero => rfl
  | succ n ih =>
    show sumN f n + f n = 0
    rw [ih (fun i hi => h i (by omega)), h n (by omega)]
    rfl
theorem sumN_add (f g : Nat → Int) (n : Nat) : sumN (fun i => f i + g i) n = sumN f n + sumN g n := by
  induction n with
  | zero => rfl
  | succ n ih =>
    show sumN (fun i => f i + g i) n + (f n + g n) = (sumN f n + f n) + (sumN g n + g n)
    rw [ih]
    omega
theorem sumN_swap (f : Nat → Nat → Int) (n m : Nat) : sumN (fun i => sumN (fun j => f i j) m) n = sumN (fun j => sumN (fun i => f i j) n) m := by
  induction n with
  | zero => exact (sumN_zero (fun _ _ => rfl)).symm
  | succ n ih =>
    show sumN (fun i => sumN (fun j => f i j) m) n + sumN (fun j => f n j) m = sumN (fun j => sumN (fun i => f i j) n + f n j) m
    rw [ih, sumN_add]
theorem sumN_one {f : Nat → Int} {n i0 : Nat} (hi : i0 < n) (h : ∀ i, i < n → i ≠ i0 → f i = 0) : sumN f n = f i0 := by
  induction n with
  | zero => omega
  | succ n ih =>
    show sumN f n + f n = f i0
    by_cases e : i0 = n
    · rw [sumN_zero (fun i hi => h i (by omega) (by omega)), e]
      omega
    · rw [ih (by omega) (fun i hi2 hne => h i (by omega) hne), h n (by omega) (by omega)]
      omega
theorem sumN_le {f g : Nat → Int} : ∀ {n : Nat}, (∀ i, i < n → f i ≤ g i) → sumN f n ≤ sumN g n
  | 0, _ => Int.le_refl _
  | n + 1, h => by
    show sumN f n + f n ≤ sumN g n + g n
    have h1 := sumN_le (n := n) (fun i hi => h i (by omega))
    have h2 := h n (by omega)
    omega
theorem sumN_const (a : Int) (n : Nat) : sumN (fun _ => a) n = a * n := by
  induction n with
  | zero => simp [sumN]
  | succ n ih =>
    show sumN (fun _ => a) n + a = a * ((n + 1 : Nat) : Int)
    rw [ih, Int.natCast_add, Int.mul_add]
    simp
theorem sumN_atmost {n : Nat} {p : Nat → Prop} (d : ∀ i, Decidable (p i)) (h : ∀ i, i < n → ∀ j, j < n → p i → p j → i = j) : sumN (fun i => @ite _ (p i) (d i) 1 0) n ≤ 1 := by
  by_cases e : ∃ i, i < n ∧ p i
  · obtain ⟨i, hi, hp⟩ := e
    rw [sumN_one (i0 := i) hi (fun j hj hne => by
      have : ¬ p j := fun q => hne (h j hj i hi q hp)
      rw [if_neg this])]
    rw [if_pos hp]
    omega
  · rw [sumN_zero (fun i hi => by
      have : ¬ p i := fun q => e ⟨i, hi, q⟩
      rw [if_neg this])]
    omega
theorem sumN_bij {n m : Nat} {f g : Nat → Int} (φ : Nat → Nat → Prop) (h1 : ∀ i, i < n → f i ≠ 0 → ∃ j, j < m ∧ φ i j) (h1' : ∀ i, i < n → ∀ j, j < m → ∀ j', j' < m → φ i j → φ i j' → j = j') (h2 : ∀ j, j < m → g j ≠ 0 → ∃ i, i < n ∧ φ i j) (h2' : ∀ j, j < m → ∀ i, i < n → ∀ i', i' < n → φ i j → φ i' j → i = i') (h3 : ∀ i, i < n → ∀ j, j < m → φ i j → f i = g j) : sumN f n = sumN g m := by
  classical
  have e1 : sumN f n = sumN (fun i => sumN (fun j => if φ i j then f i else 0) m) n := by
    refine sumN_congr (fun i hi => ?_)
    by_cases h0 : f i = 0
    · rw [sumN_zero (fun j _ => by rw [h0]; split <;> rfl)]
      exact h0
    · obtain ⟨j, hj, hp⟩ := h1 i hi h0
      rw [sumN_one (i0 := j) hj (fun j' hj' hne => if_neg (fun q => hne (h1' i hi j' hj' j hj q hp)))]
      rw [if_pos hp]
  have e2 : sumN g m = sumN (fun j => sumN (fun i => if φ i j then g j else 0) n) m := by
    refine sumN_congr (fun j hj => ?_)
    by_cases h0 : g j = 0
    · rw [sumN_zero (fun i _ => by rw [h0]; split <;> rfl)]
      exact h0
    · obtain ⟨i, hi, hp⟩ := h2 j hj h0
      rw [sumN_one (i0 := i) hi (fun i' hi' hne => if_neg (fun q => hne (h2' j hj i' hi' i hi q hp)))]
      rw [if_pos hp]
  rw [e1, sumN_swap, e2]
  refine sumN_congr (fun j hj => sumN_congr (fun i hi => ?_))
  by_cases hp : φ i j
  · rw [if_pos hp, if_pos hp, h3 i hi j hj hp]
  · rw [if_neg hp, if_neg hp]
theorem pigeon {n m : Nat} (f : Nat → Nat) (h1 : ∀ i, i < n → f i < m) (h2 : ∀ i, i < n → ∀ j, j < n → f i = f j → i = j) : n ≤ m := by
  have e1 : sumN (fun _ => (1 : Int)) n = sumN (fun i => sumN (fun j => if f i = j then 1 else 0) m) n := by
    refine sumN_congr (fun i hi => ?_)
    rw [sumN_one (i0 := f i) (h1 i hi) (fun j hj hne => if_neg (fun q => hne q.symm))]
    rw [if_pos rfl]
  have e2 : sumN (fun j => sumN (fun i => if f i = j then (1 : Int) else 0) n) m ≤ sumN (fun _ => (1 : Int)) m :=
    sumN_le (fun j _ => sumN_atmost (fun i => inferInstance) (fun i hi i' hi' a b => h2 i hi i' hi' (a.trans b.symm)))
  rw [sumN_swap] at e1
  rw [sumN_const] at e1 e2
  omega
def fnd (p : Nat → Bool) : Nat → Option Nat
  | 0 => none
  | n + 1 => match fnd p n with
    | some i => some i
    | none => if p n = true then some n else none
theorem fnd_congr {p q : Nat → Bool} : ∀ {n : Nat}, (∀ i, i < n → p i = q i) → fnd p n = fnd q n
  | 0, _ => rfl
  | n + 1, h => by
    unfold fnd
    rw [fnd_congr (n := n) (fun i hi => h i (by omega)), h n (by omega)]
theorem fnd_none {p : Nat → Bool} : ∀ {n : Nat}, (∀ i, i < n → p i = false) → fnd p n = none
  | 0, _ => rfl
  | n + 1, h => by
    unfold fnd
    rw [fnd_none (n := n) (fun i hi => h i (by omega)), h n (by omega)]
    rfl
theorem fnd_some {p : Nat → Bool} {i : Nat} (hp : p i = true) (hb : ∀ j, j < i → p j = false) : ∀ {n : Nat}, i < n → fnd p n = some i
  | 0, h => by omega
  | n + 1, h => by
    unfold fnd
    by_cases e : i = n
    · subst e
      rw [fnd_none hb, hp]
      rfl
    · rw [fnd_some hp hb (n := n) (by omega)]
theorem fnd_is {p : Nat → Bool} : ∀ (n : Nat), (fnd p n = none ∧ ∀ i, i < n → p i = false) ∨ ∃ i, fnd p n = some i ∧ i < n ∧ p i = true ∧ ∀ j, j < i → p j = false
  | 0 => Or.inl ⟨rfl, fun i h => by omega⟩
  | n + 1 => by
    rcases fnd_is (p := p) n with ⟨h1, h2⟩ | ⟨i, h1, h2, h3, h4⟩
    · by_cases hp : p n = true
      · right
        refine ⟨n, ?_, by omega, hp, h2⟩
        unfold fnd
        rw [h1, hp]
        rfl
      · left
        have hp' : p n = false := by cases h : p n <;> simp_all
        refine ⟨?_, fun i hi => ?_⟩
        · unfold fnd
          rw [h1, hp']
          rfl
        · by_cases e : i = n
          · rw [e]; exact hp'
          · exact h2 i (by omega)
    · right
      refine ⟨i, ?_, by omega, h3, h4⟩
      unfold fnd
      rw [h1]
def runF (fr : Nat → Bool) : Nat → Int
  | 0 => 0
  | n + 1 => if fr n = true then runF fr n + 1 else 0
theorem runF_nn (fr : Nat → Bool) : ∀ n, 0 ≤ runF fr n ∧ runF fr n ≤ n
  | 0 => ⟨Int.le_refl _, Int.le_refl _⟩
  | n + 1 => by
    have h := runF_nn fr n
    unfold runF
    split
    · exact ⟨by omega, by omega⟩
    · exact ⟨by omega, by omega⟩
theorem runF_free {fr : Nat → Bool} : ∀ {n : Nat} (j : Nat), (n : Int) - runF fr n ≤ j → j < n → fr j = true
  | 0, j, _, h => by omega
  | n + 1, j, h1, h2 => by
    unfold runF at h1
    by_cases e : fr n = true
    · rw [if_pos e] at h1
      by_cases hj : j = n
      · rw [hj]; exact e
      · exact runF_free (n := n) j (by omega) (by omega)
    · rw [if_neg e] at h1
      omega
theorem runF_congr {f g : Nat → Bool} : ∀ {n : Nat}, (∀ i, i < n → f i = g i) → runF f n = runF g n
  | 0, _ => rfl
  | n + 1, h => by
    unfold runF
    rw [runF_congr (n := n) (fun i hi => h i (by omega)), h n (by omega)]
def plc (fr : Nat → Bool) (size : Int) : Int := match fnd (fun a => decide (runF fr (a + 1) = size)) 64 with
  | some a => a + 1 - size
  | none => -1
theorem plc_congr {f g : Nat → Bool} {size : Int} (h : ∀ i, i < 64 → f i = g i) : plc f size = plc g size := by
  unfold plc
  rw [fnd_congr (q := fun a => decide (runF g (a + 1) = size)) (fun i hi => by rw [runF_congr (fun j hj => h j (by omega))])]
theorem plc_is {fr : Nat → Bool} {size : Int} (hs : 1 ≤ size) : plc fr size = -1 ∨ (0 ≤ plc fr size ∧ plc fr size + size ≤ 64 ∧ ∀ j : Nat, plc fr size ≤ j → (j : Int) < plc fr size + size → fr j = true) := by
  unfold plc
  rcases fnd_is (p := fun a => decide (runF fr (a + 1) = size)) 64 with ⟨h1, _⟩ | ⟨a, h1, h2, h3, _⟩
  · left; rw [h1]
  · right
    rw [h1]
    have h4 : runF fr (a + 1) = size := of_decide_eq_true h3
    have h5 := runF_nn fr (a + 1)
    refine ⟨by simp only; omega, by simp only; omega, fun j hj1 hj2 => ?_⟩
    simp only at hj1 hj2
    exact runF_free (n := a + 1) j (by omega) (by omega)
