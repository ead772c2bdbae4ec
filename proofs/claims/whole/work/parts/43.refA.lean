/-! The reference: what its memory always keeps, and the methods that only look. -/
def RW (Λ : Lam) (r : Nat → Nat) (ρ : Mem) : Prop :=
  (LayM Λ r) ∧
  (∀ f q, rng (ρ.1 f q)) ∧
  (∀ kd q k, rng (ρ.2.1 kd q k)) ∧
  (∀ i : Nat, i < 90 → (ρ.2.1 1 (r 1) i) = 0 ∨ (ρ.2.1 1 (r 1) i) = 1 ∨ (ρ.2.1 1 (r 1) i) = 2) ∧
  (∀ i : Nat, i < 90 → 0 ≤ (ρ.2.1 3 (r 3) i) ∧ (ρ.2.1 3 (r 3) i) ≤ 3) ∧
  (∀ i : Nat, i < 90 → 0 ≤ (ρ.2.1 6 (r 6) i) ∧ (ρ.2.1 6 (r 6) i) ≤ 64) ∧
  (∀ j : Nat, j < 270 → -1 ≤ (ρ.2.1 4 (r 4) j) ∧ (ρ.2.1 4 (r 4) j) < 90) ∧
  (∀ j : Nat, j < 6 → -1 ≤ (ρ.2.1 7 (r 7) j) ∧ (ρ.2.1 7 (r 7) j) < 90) ∧
  (∀ i : Nat, i < 90 → 0 ≤ (ρ.2.1 5 (r 5) i) ∧ (ρ.2.1 5 (r 5) i) ≤ 9) ∧
  (∀ i : Nat, i < 90 → ((ρ.2.1 51 (r 51) i) = 0 ∨ (ρ.2.1 51 (r 51) i) = 1) ∧ ((ρ.2.1 52 (r 52) i) = 0 ∨ (ρ.2.1 52 (r 52) i) = 1)) ∧
  (∀ i : Nat, i < 8 → ((ρ.2.1 53 (r 53) i) = 0 ∨ (ρ.2.1 53 (r 53) i) = 1) ∧ ((ρ.2.1 54 (r 54) i) = 0 ∨ (ρ.2.1 54 (r 54) i) = 1)) ∧
  (0 ≤ (ρ.1 413 (r 0)) ∧ (ρ.1 413 (r 0)) ≤ 20) ∧
  (∀ i : Nat, (i : Int) < (ρ.1 413 (r 0)) → 0 ≤ (ρ.2.1 8 (r 8) i) ∧ (ρ.2.1 8 (r 8) i) < 90)
theorem RW.ly {Λ : Lam} {r : Nat → Nat} {ρ : Mem} (h : RW Λ r ρ) : LayM Λ r := h.1
theorem RW.ri {Λ : Lam} {r : Nat → Nat} {ρ : Mem} (h : RW Λ r ρ) : ∀ f q, rng (ρ.1 f q) := h.2.1
theorem RW.ry {Λ : Lam} {r : Nat → Nat} {ρ : Mem} (h : RW Λ r ρ) : ∀ kd q k, rng (ρ.2.1 kd q k) := h.2.2.1
theorem RW.kn {Λ : Lam} {r : Nat → Nat} {ρ : Mem} (h : RW Λ r ρ) : ∀ i : Nat, i < 90 → (ρ.2.1 1 (r 1) i) = 0 ∨ (ρ.2.1 1 (r 1) i) = 1 ∨ (ρ.2.1 1 (r 1) i) = 2 := h.2.2.2.1
theorem RW.fd {Λ : Lam} {r : Nat → Nat} {ρ : Mem} (h : RW Λ r ρ) : ∀ i : Nat, i < 90 → 0 ≤ (ρ.2.1 3 (r 3) i) ∧ (ρ.2.1 3 (r 3) i) ≤ 3 := h.2.2.2.2.1
theorem RW.pa {Λ : Lam} {r : Nat → Nat} {ρ : Mem} (h : RW Λ r ρ) : ∀ i : Nat, i < 90 → 0 ≤ (ρ.2.1 6 (r 6) i) ∧ (ρ.2.1 6 (r 6) i) ≤ 64 := h.2.2.2.2.2.1
theorem RW.rf {Λ : Lam} {r : Nat → Nat} {ρ : Mem} (h : RW Λ r ρ) : ∀ j : Nat, j < 270 → -1 ≤ (ρ.2.1 4 (r 4) j) ∧ (ρ.2.1 4 (r 4) j) < 90 := h.2.2.2.2.2.2.1
theorem RW.rt {Λ : Lam} {r : Nat → Nat} {ρ : Mem} (h : RW Λ r ρ) : ∀ j : Nat, j < 6 → -1 ≤ (ρ.2.1 7 (r 7) j) ∧ (ρ.2.1 7 (r 7) j) < 90 := h.2.2.2.2.2.2.2.1
theorem RW.ag {Λ : Lam} {r : Nat → Nat} {ρ : Mem} (h : RW Λ r ρ) : ∀ i : Nat, i < 90 → 0 ≤ (ρ.2.1 5 (r 5) i) ∧ (ρ.2.1 5 (r 5) i) ≤ 9 := h.2.2.2.2.2.2.2.2.1
theorem RW.bm {Λ : Lam} {r : Nat → Nat} {ρ : Mem} (h : RW Λ r ρ) : ∀ i : Nat, i < 90 → ((ρ.2.1 51 (r 51) i) = 0 ∨ (ρ.2.1 51 (r 51) i) = 1) ∧ ((ρ.2.1 52 (r 52) i) = 0 ∨ (ρ.2.1 52 (r 52) i) = 1) := h.2.2.2.2.2.2.2.2.2.1
theorem RW.bd {Λ : Lam} {r : Nat → Nat} {ρ : Mem} (h : RW Λ r ρ) : ∀ i : Nat, i < 8 → ((ρ.2.1 53 (r 53) i) = 0 ∨ (ρ.2.1 53 (r 53) i) = 1) ∧ ((ρ.2.1 54 (r 54) i) = 0 ∨ (ρ.2.1 54 (r 54) i) = 1) := h.2.2.2.2.2.2.2.2.2.2.1
theorem RW.yo {Λ : Lam} {r : Nat → Nat} {ρ : Mem} (h : RW Λ r ρ) : 0 ≤ (ρ.1 413 (r 0)) ∧ (ρ.1 413 (r 0)) ≤ 20 := h.2.2.2.2.2.2.2.2.2.2.2.1
theorem RW.od {Λ : Lam} {r : Nat → Nat} {ρ : Mem} (h : RW Λ r ρ) : ∀ i : Nat, (i : Int) < (ρ.1 413 (r 0)) → 0 ≤ (ρ.2.1 8 (r 8) i) ∧ (ρ.2.1 8 (r 8) i) < 90 := h.2.2.2.2.2.2.2.2.2.2.2.2
def mOn (r : Nat → Nat) (ρ : Mem) (a : Int) (i : Nat) : Bool := decide ((ρ.2.1 1 (r 1) i) = 2 ∧ (ρ.2.1 6 (r 6) i) ≤ a ∧ a ≤ (ρ.2.1 6 (r 6) i) + (ρ.2.1 3 (r 3) i))
def mFree (r : Nat → Nat) (ρ : Mem) (a : Nat) : Bool := (fnd (mOn r ρ a) 90).isNone
def mCel (r : Nat → Nat) (ρ : Mem) (w : Int) (i : Nat) : Int := if (ρ.2.1 1 (r 1) i) = w then 1 + (ρ.2.1 3 (r 3) i) else 0
def mMk (r : Nat → Nat) (ρ : Mem) (i : Nat) : Int := (if (ρ.2.1 51 (r 51) i) = 0 then 0 else 1) + (if (ρ.2.1 52 (r 52) i) = 0 then 0 else 1000)
def mCd (r : Nat → Nat) (ρ : Mem) (i : Nat) : Int := (if (ρ.2.1 53 (r 53) i) = 0 then 0 else iShl 1 i) + (if (ρ.2.1 54 (r 54) i) = 0 then 0 else iShl 256 i)
def mLies (r : Nat → Nat) (ρ : Mem) (i : Nat) (cd : Int) : Int := if (ρ.2.1 1 (r 1) i) = 2 ∧ (ρ.2.1 6 (r 6) i) < 8 * cd + 8 ∧ 8 * cd ≤ (ρ.2.1 6 (r 6) i) + (ρ.2.1 3 (r 3) i) then 1 else 0
section RFA
variable {l : Launch} {D : va_G} {Λ : Lam} {r : Nat → Nat} {ρ : Mem}
theorem c_M_isRoot {a1 : Int} {P : Int → Mem → Prop} (hr : rng a1) (hp : P (if 0 ≤ a1 ∧ a1 < 6 then 1 else 0) ρ) : K_M_isRoot l D Λ ρ a1 P := by
  refine w_M_isRoot ⟨hr, fun h => ?_, fun h => ⟨fun h2 => ?_, fun h2 => ?_⟩⟩
  · rw [if_neg (by omega)] at hp; exact hp
  · rw [if_neg (by omega)] at hp; exact hp
  · rw [if_pos (by omega)] at hp; exact hp
theorem c_M_isFree {a : Nat} {P : Int → Mem → Prop} (w : RW Λ r ρ) (ha : a < 64) (hp : P (if mFree r ρ a = true then 1 else 0) ρ) : K_M_isFree l D Λ ρ r a P := by
  refine e_M_isFree (fun x hl hD hx => ?_)
  subst hl; subst hD
  have hL := w.ly
  refine u_M_isFree_0 hx hL ?_
  have loop : ∀ n i : Nat, i + n = 90 → (∀ j, j < i → mOn r ρ a j = false) → N_M_isFree_2 x P Λ ρ r a i := by
    intro n
    induction n with
    | zero =>
      intro i hi hb
      refine u_M_isFree_2 hx hL ⟨⟨by omega, by omega⟩, fun _ => ?_, fun h => absurd h (by omega)⟩
      have e : mFree r ρ a = true := by unfold mFree; rw [fnd_none (fun j hj => hb j (by omega))]; rfl
      rw [if_pos e] at hp
      exact hp
    | succ n ih =>
      intro i hi hb
      have hi9 : i < 90 := by omega
      have hfd := w.fd i hi9
      have hpa := w.pa i hi9
      have next : mOn r ρ a i = false → N_M_isFree_2 x P Λ ρ r a (i + 1 : Nat) := fun hn => ih (i + 1) (by omega) (fun j hj => by
        by_cases e : j = i
        · rw [e]; exact hn
        · exact hb j (by omega))
      refine u_M_isFree_2 hx hL ⟨⟨by omega, by omega⟩, fun h => absurd h (by omega), fun _ => ⟨by omega, by omega, w.ry _ _ _, fun h => next ?_, fun h1 => ⟨by omega, by omega, ⟨by omega, by omega⟩, w.ry _ _ _, fun h => next ?_, fun h2 => ⟨by omega, by omega, by omega, by omega, ?_, fun h => next ?_, fun h3 => ?_⟩⟩⟩⟩
      · exact decide_eq_false (fun z => h z.1)
      · exact decide_eq_false (fun z => absurd z.2.1 (Int.not_le.mpr h))
      · show rng ((ρ.2.1 6 (r 6) i) + (ρ.2.1 3 (r 3) i))
        exact ⟨by omega, by omega⟩
      · exact decide_eq_false (fun z => absurd z.2.2 (Int.not_le.mpr h))
      · have hit : mOn r ρ a i = true := decide_eq_true ⟨h1, Int.not_lt.mp h2, Int.not_lt.mp h3⟩
        have e : ¬ mFree r ρ a = true := by unfold mFree; rw [fnd_some hit hb hi9]; simp
        rw [if_neg e] at hp
        exact hp
  exact loop 90 0 rfl (fun j hj => by omega)
theorem c_M_place {z : Int} {P : Int → Mem → Prop} (w : RW Λ r ρ) (hz : rng z) (hp : P (plc (mFree r ρ) z) ρ) : K_M_place l D Λ ρ r z P := by
  refine e_M_place (fun x hl hD hx => ?_)
  subst hl; subst hD
  have hL := w.ly
  refine u_M_place_0 hx hL ?_
  have loop : ∀ n i : Nat, i + n = 64 → (∀ j, j < i → runF (mFree r ρ) (j + 1) ≠ z) → N_M_place_4 x P Λ ρ r z (runF (mFree r ρ) i) i := by
    intro n
    induction n with
    | zero =>
      intro i hi hb
      refine u_M_place_4 hx hL ⟨⟨by omega, by omega⟩, fun _ => ?_, fun h => absurd h (by omega)⟩
      have e : plc (mFree r ρ) z = -1 := by
        unfold plc
        rw [fnd_none (fun j hj => decide_eq_false (hb j (by omega)))]
      rw [e] at hp
      exact hp
    | succ n ih =>
      intro i hi hb
      have hnn := runF_nn (mFree r ρ) (i + 1)
      have go : ∀ y : Int, y = runF (mFree r ρ) (i + 1) → N_M_place_25 x P Λ ρ r z i y := by
        intro y hy
        subst hy
        refine u_M_place_25 hx hL ⟨⟨by omega, by omega⟩, hz, fun h => ?_, fun h => ?_⟩
        · exact ih (i + 1) (by omega) (fun j hj => by
            by_cases e : j = i
            · rw [e]; exact h
            · exact hb j (by omega))
        · have e : plc (mFree r ρ) z = (i : Int) - z + 1 := by
            unfold plc
            rw [fnd_some (i := i) (decide_eq_true h) (fun j hj => decide_eq_false (hb j hj)) (by omega)]
            show (i : Int) + 1 - z = _
            omega
          rw [e] at hp
          exact hp
      refine u_M_place_4 hx hL ⟨⟨by omega, by omega⟩, fun h => absurd h (by omega), fun _ => c_M_isFree w (by omega) ⟨by split <;> exact ⟨by omega, by omega⟩, fun h => go _ ?_, fun h => go _ ?_⟩⟩
      · have hf : ¬ mFree r ρ i = true := fun y => by rw [if_pos y] at h; omega
        show _ = (if mFree r ρ i = true then _ else _)
        rw [if_neg hf]
      · have hf : mFree r ρ i = true := by
          by_cases y : mFree r ρ i = true
          · exact y
          · rw [if_neg y] at h; exact absurd rfl h
        show _ = (if mFree r ρ i = true then _ else _)
        rw [if_pos hf]
  exact loop 64 0 rfl (fun j hj => by omega)
theorem c_M_lies {i : Nat} {cd : Int} {P : Int → Mem → Prop} (w : RW Λ r ρ) (hi : i < 90) (hc : 0 ≤ cd ∧ cd ≤ 8) (hp : P (mLies r ρ i cd) ρ) : K_M_lies l D Λ ρ r i cd P := by
  have hfd := w.fd i hi
  have hpa := w.pa i hi
  unfold mLies at hp
  refine w_M_lies w.ly ⟨by omega, by omega, w.ry _ _ _, fun h => ?_, fun h => ⟨by omega, by omega, w.ry _ _ _, ⟨by omega, by omega⟩, fun h2 => ?_, fun h2 => ⟨by omega, by omega, by omega, by omega, ?_, ⟨by omega, by omega⟩, fun h3 => ?_, fun h3 => ?_⟩⟩⟩
  · rw [if_neg (fun z => h z.1)] at hp; exact hp
  · rw [if_neg (fun z => absurd z.2.1 (Int.not_lt.mpr h2))] at hp; exact hp
  · show rng ((ρ.2.1 6 (r 6) i) + (ρ.2.1 3 (r 3) i))
    exact ⟨by omega, by omega⟩
  · rw [if_neg (fun z => absurd z.2.2 (Int.not_le.mpr h3))] at hp; exact hp
  · rw [if_pos ⟨h, Int.not_le.mp h2, Int.not_lt.mp h3⟩] at hp; exact hp
theorem c_M_cells {a : Int} {P : Int → Mem → Prop} (w : RW Λ r ρ) (ha : rng a) (hp : P (sumN (mCel r ρ a) 90) ρ) : K_M_cells l D Λ ρ r a P := by
  refine e_M_cells (fun x hl hD hx => ?_)
  subst hl; subst hD
  have hL := w.ly
  refine u_M_cells_0 hx hL ?_
  have loop : ∀ n i : Nat, i + n = 90 → N_M_cells_4 x P Λ ρ r a (sumN (mCel r ρ a) i) i := by
    intro n
    induction n with
    | zero =>
      intro i hi
      refine u_M_cells_4 hx hL ⟨⟨by omega, by omega⟩, fun _ => ?_, fun h => absurd h (by omega)⟩
      rw [show i = 90 by omega]
      exact hp
    | succ n ih =>
      intro i hi
      have go : ∀ y : Int, y = sumN (mCel r ρ a) (i + 1) → N_M_cells_4 x P Λ ρ r a y (i + 1 : Nat) := fun y hy => by rw [hy]; exact ih (i + 1) (by omega)
      refine u_M_cells_4 hx hL ⟨⟨by omega, by omega⟩, fun h => absurd h (by omega), fun _ => ⟨by omega, by omega, w.ry _ _ _, ha, fun h => go _ ?_, fun h => ⟨by omega, by omega, go _ ?_⟩⟩⟩
      · show sumN (mCel r ρ a) i = sumN (mCel r ρ a) i + mCel r ρ a i
        have e : mCel r ρ a i = 0 := by unfold mCel; exact if_neg h
        rw [e]
        omega
      · show sumN (mCel r ρ a) i + 1 + (ρ.2.1 3 (r 3) i) = sumN (mCel r ρ a) i + mCel r ρ a i
        have e : mCel r ρ a i = 1 + (ρ.2.1 3 (r 3) i) := by unfold mCel; exact if_pos h
        rw [e]
        omega
  exact loop 90 0 rfl
theorem c_M_marked {P : Int → Mem → Prop} (w : RW Λ r ρ) (hp : P (sumN (mMk r ρ) 90) ρ) : K_M_marked l D Λ ρ r P := by
  refine e_M_marked (fun x hl hD hx => ?_)
  subst hl; subst hD
  have hL := w.ly
  refine u_M_marked_0 hx hL ?_
  have loop : ∀ n i : Nat, i + n = 90 → N_M_marked_4 x P Λ ρ r (sumN (mMk r ρ) i) i := by
    intro n
    induction n with
    | zero =>
      intro i hi
      refine u_M_marked_4 hx hL ⟨⟨by omega, by omega⟩, fun _ => ?_, fun h => absurd h (by omega)⟩
      rw [show i = 90 by omega]
      exact hp
    | succ n ih =>
      intro i hi
      have go : ∀ y : Int, y = sumN (mMk r ρ) (i + 1) → N_M_marked_4 x P Λ ρ r y (i + 1 : Nat) := fun y hy => by rw [hy]; exact ih (i + 1) (by omega)
      have mid : ∀ y : Int, y = (if (ρ.2.1 51 (r 51) i) = 0 then 0 else 1) → N_M_marked_25 x P Λ ρ r i (sumN (mMk r ρ) i) y := by
        intro y hy
        refine u_M_marked_25 hx hL ⟨by omega, by omega, w.ry _ _ _, fun h => go _ ?_, fun h => go _ ?_⟩
        · have h : (ρ.2.1 52 (r 52) i) = 0 := h
          show _ = sumN (mMk r ρ) i + mMk r ρ i
          unfold mMk
          rw [if_pos h, hy]
          omega
        · have h : ¬ (ρ.2.1 52 (r 52) i) = 0 := h
          show _ = sumN (mMk r ρ) i + mMk r ρ i
          unfold mMk
          rw [if_neg h, hy]
          omega
      refine u_M_marked_4 hx hL ⟨⟨by omega, by omega⟩, fun h => absurd h (by omega), fun _ => ⟨by omega, by omega, w.ry _ _ _, fun h => mid _ ?_, fun h => mid _ ?_⟩⟩
      · exact (if_pos h).symm
      · exact (if_neg h).symm
  exact loop 90 0 rfl
theorem c_M_cards {P : Int → Mem → Prop} (w : RW Λ r ρ) (hp : P (sumN (mCd r ρ) 8) ρ) : K_M_cards l D Λ ρ r P := by
  refine e_M_cards (fun x hl hD hx => ?_)
  subst hl; subst hD
  have hL := w.ly
  refine u_M_cards_0 hx hL ?_
  have loop : ∀ n i : Nat, i + n = 8 → N_M_cards_4 x P Λ ρ r (sumN (mCd r ρ) i) i := by
    intro n
    induction n with
    | zero =>
      intro i hi
      refine u_M_cards_4 hx hL ⟨⟨by omega, by omega⟩, fun _ => ?_, fun h => absurd h (by omega)⟩
      rw [show i = 8 by omega]
      exact hp
    | succ n ih =>
      intro i hi
      have go : ∀ y : Int, y = sumN (mCd r ρ) (i + 1) → N_M_cards_4 x P Λ ρ r y (i + 1 : Nat) := fun y hy => by rw [hy]; exact ih (i + 1) (by omega)
      have mid : ∀ y : Int, y = (if (ρ.2.1 53 (r 53) i) = 0 then 0 else iShl 1 i) → N_M_cards_27 x P Λ ρ r i (sumN (mCd r ρ) i) y := by
        intro y hy
        refine u_M_cards_27 hx hL ⟨by omega, by omega, w.ry _ _ _, fun h => go _ ?_, fun h => go _ ?_⟩
        · have h : (ρ.2.1 54 (r 54) i) = 0 := h
          show _ = sumN (mCd r ρ) i + mCd r ρ i
          unfold mCd
          rw [if_pos h, hy]
          omega
        · have h : ¬ (ρ.2.1 54 (r 54) i) = 0 := h
          show _ = sumN (mCd r ρ) i + mCd r ρ i
          unfold mCd
          rw [if_neg h, hy]
          omega
      refine u_M_cards_4 hx hL ⟨⟨by omega, by omega⟩, fun h => absurd h (by omega), fun _ => ⟨by omega, by omega, w.ry _ _ _, fun h => mid _ ?_, fun h => mid _ ?_⟩⟩
      · exact (if_pos h).symm
      · exact (if_neg h).symm
  exact loop 8 0 rfl
end RFA
