/-! Contracts of Thing, Row and OldPart: what each answers and leaves. -/
section CO
variable {l : Launch} {D : va_G} {Λ : Lam} {σ : Mem} {c : Nat → Nat}
theorem c_T_size {t : Nat} {P : Int → Mem → Prop} (hL : isT Λ t) (hp : P (szI Λ t) σ) : K_T_size l D Λ σ t P := w_T_size hL hp
theorem c_T_isYoung {t : Nat} {P : Int → Mem → Prop} (hL : isT Λ t) (hr : rng ((σ.1 203 t))) (hp : P (if (σ.1 203 t) = -1 then 1 else 0) σ) : K_T_isYoung l D Λ σ t P :=
  w_T_isYoung hL ⟨hr, fun h => by rw [if_neg h] at hp; exact hp, fun h => by rw [if_pos h] at hp; exact hp⟩
theorem c_T_isOld {t : Nat} {P : Int → Mem → Prop} (hL : isT Λ t) (hr : rng ((σ.1 203 t))) (hp : P (if 0 ≤ (σ.1 203 t) then 1 else 0) σ) : K_T_isOld l D Λ σ t P :=
  w_T_isOld hL ⟨hr, fun h => by rw [if_neg (show ¬ 0 ≤ (σ.1 203 t) by omega)] at hp; exact hp, fun h => by rw [if_pos (show 0 ≤ (σ.1 203 t) by omega)] at hp; exact hp⟩
theorem c_T_becomeGone {t : Nat} {P : Mem → Prop} (hL : isT Λ t) (hp : P (upI σ 203 t (-2))) : K_T_becomeGone l D Λ σ t P := w_T_becomeGone hL hp
theorem c_T_hasField {t : Nat} {a1 : Int} {P : Int → Mem → Prop} (hL : isT Λ t) (hr : rng a1) (hp : P (if 0 ≤ a1 ∧ a1 < (nfL Λ t : Int) then 1 else 0) σ) : K_T_hasField l D Λ σ t a1 P := by
  have hn := hL.2.2
  refine w_T_hasField hL ⟨hr, fun h => ?_, fun h => ⟨⟨by omega, by omega⟩, fun h2 => ?_, fun h2 => ?_⟩⟩
  · rw [if_neg (by omega)] at hp; exact hp
  · rw [if_neg (by omega)] at hp; exact hp
  · rw [if_pos (by omega)] at hp; exact hp
theorem c_H_isRoot {a1 : Int} {P : Int → Mem → Prop} (hr : rng a1) (hp : P (if 0 ≤ a1 ∧ a1 < 6 then 1 else 0) σ) : K_H_isRoot l D Λ σ a1 P := by
  refine w_H_isRoot ⟨hr, fun h => ?_, fun h => ⟨fun h2 => ?_, fun h2 => ?_⟩⟩
  · rw [if_neg (by omega)] at hp; exact hp
  · rw [if_neg (by omega)] at hp; exact hp
  · rw [if_pos (by omega)] at hp; exact hp
theorem c_H_cardOf {a1 : Int} {P : Int → Mem → Prop} (hp : P (fCard a1) σ) : K_H_cardOf l D Λ σ a1 P := w_H_cardOf hp
theorem c_T_cardsUnder {t : Nat} {P : Int → Mem → Prop} (hL : isT Λ t) (hp : P (fUnder Λ σ t) σ) : K_T_cardsUnder l D Λ σ t P := by
  refine e_T_cardsUnder (fun x hl hD hx => ?_)
  subst hl; subst hD
  have hn := hL.2.2
  refine u_T_cardsUnder_0 hx hL ?_
  have loop : ∀ n i : Nat, i + n = nfL Λ t + 1 → N_T_cardsUnder_4 x P Λ σ t (nfold (fun i u => iOr u (fCard ((σ.1 203 t) + (i : Nat)))) 0 i) i := by
    intro n
    induction n with
    | zero =>
      intro i hi
      refine u_T_cardsUnder_4 hx hL ⟨⟨by omega, by omega⟩, ⟨by omega, by omega⟩, fun _ => ?_, fun h => absurd h (by omega)⟩
      rw [show i = nfL Λ t + 1 by omega]
      exact hp
    | succ n ih =>
      intro i hi
      refine u_T_cardsUnder_4 hx hL ⟨⟨by omega, by omega⟩, ⟨by omega, by omega⟩, fun h => absurd h (by omega), fun _ => c_H_cardOf ?_⟩
      exact ih (i + 1) (by omega)
  exact loop (nfL Λ t + 1) 0 (by omega)
-- rows
theorem c_R_add {b q n : Nat} {a1 : Option Nat} {P : Int → Mem → Prop} (hL : isRow Λ b q n) (hnn : n < 1000) (rg : ∀ f q, rng (σ.1 f q)) (h0 : 0 ≤ (σ.1 101 b)) (ht : ∀ t, a1 = some t → isT Λ t) (hp : P (fAdd b q n a1 σ).1 (fAdd b q n a1 σ).2) : K_R_add l D Λ σ b a1 P := by
  refine w_R_add hL (by omega) ⟨rg _ _, ⟨by omega, by omega⟩, fun h => ⟨h0, h, ht, ?_⟩, fun h => ?_⟩
  · have e : fAdd b q n a1 σ = (1, gAdd b q a1 σ) := by unfold fAdd; rw [if_neg (by omega)]
    rw [e] at hp; exact hp
  · have e : fAdd b q n a1 σ = (0, σ) := by unfold fAdd; rw [if_pos (by omega)]
    rw [e] at hp; exact hp
theorem c_R_reach {b q n : Nat} {a1 : Option Nat} {P : Int → Mem → Prop} (hL : isRow Λ b q n) (hnn : n < 1000) (rg : ∀ f q, rng (σ.1 f q)) (h0 : 0 ≤ (σ.1 101 b)) (ht : ∀ t, a1 = some t → isT Λ t) (hp : P (fReach b q n a1 σ).1 (fReach b q n a1 σ).2) : K_R_reach l D Λ σ b a1 P := by
  refine w_R_reach hL (by omega) ⟨fun h => ?_, fun t h => ⟨ht t h, rg _ _, fun h2 => ?_, fun h2 => ?_⟩⟩
  · subst h; exact hp
  · subst h
    have e : fReach b q n (some t) σ = (0, σ) := by unfold fReach; exact if_neg h2
    rw [e] at hp; exact hp
  · subst h
    refine c_R_add hL hnn rg h0 (fun t' h' => by cases h'; exact ht t rfl) ?_
    by_cases hc : (n : Int) ≤ (σ.1 101 b)
    · have e : fAdd b q n (some t) σ = (0, σ) := by unfold fAdd; rw [if_pos hc]
      have e2 : fReach b q n (some t) σ = (0, σ) := by unfold fReach; simp only [if_pos h2, if_pos hc]
      rw [e]; rw [e2] at hp
      exact ⟨rng_0, fun h => absurd rfl h, fun _ => hp⟩
    · have e : fAdd b q n (some t) σ = (1, gAdd b q (some t) σ) := by unfold fAdd; rw [if_neg hc]
      have e2 : fReach b q n (some t) σ = (1, upI (gAdd b q (some t) σ) 206 t 1) := by unfold fReach; simp only [if_pos h2, if_neg hc]
      rw [e]; rw [e2] at hp
      exact ⟨⟨by omega, by omega⟩, fun _ => hp, fun h => absurd (show (1 : Int) = 0 from h) (by decide)⟩
theorem gLet1_s {q i t : Nat} (h : σ.2.2 101 q i = some t) : gLet1 q i σ = upI σ 206 t 0 := by unfold gLet1; rw [h]
theorem let_keep (q : Nat) (σ : Mem) : ∀ i, (nfold (gLet1 q) σ i).2 = σ.2 ∧ ∀ f o, f ≠ 206 → (nfold (gLet1 q) σ i).1 f o = σ.1 f o
  | 0 => ⟨rfl, fun _ _ _ => rfl⟩
  | i + 1 => by
    have ih := let_keep q σ i
    rw [nfold_s]
    unfold gLet1
    split
    · exact ih
    · refine ⟨ih.1, fun f o hf => ?_⟩
      show (if f = 206 ∧ _ then _ else _) = _
      rw [if_neg (fun z => hf z.1)]
      exact ih.2 f o hf
theorem c_R_letGo {b q n : Nat} {P : Mem → Prop} (hL : isRow Λ b q n) (hnn : n < 1000) (ty : ∀ kd q k t, σ.2.2 kd q k = some t → isT Λ t) (rg : ∀ f q, rng (σ.1 f q)) (h0 : 0 ≤ (σ.1 101 b)) (h1 : (σ.1 101 b) ≤ n) (hs : ∀ i : Nat, (i : Int) < (σ.1 101 b) → ∃ t, σ.2.2 101 q i = some t) (hp : P (gLetGo b q σ)) : K_R_letGo l D Λ σ b P := by
  refine e_R_letGo (fun x hl hD hx => ?_)
  subst hl; subst hD
  refine u_R_letGo_0 hx hL (by omega) ?_
  have loop : ∀ m i : Nat, i + m = ((σ.1 101 b)).toNat → N_R_letGo_2 x P Λ (nfold (gLet1 q) σ i) b i := by
    intro m
    induction m with
    | zero =>
      intro i hi
      have k := (let_keep q σ i).2 101 b (by decide)
      refine u_R_letGo_2 hx hL (by omega) ⟨⟨by omega, by omega⟩, by rw [k]; exact rg _ _, fun _ => ?_, fun h => absurd (show (nfold (gLet1 q) σ i).1 101 b ≤ (i : Int) by rw [k]; omega) h⟩
      rw [show i = ((σ.1 101 b)).toNat by omega]
      exact hp
    | succ m ih =>
      intro i hi
      have k := (let_keep q σ i).2 101 b (by decide)
      have k2 := (let_keep q σ i).1
      obtain ⟨t, ht⟩ := hs i (by omega)
      have ht2 : (nfold (gLet1 q) σ i).2.2 101 q i = some t := by rw [k2]; exact ht
      refine u_R_letGo_2 hx hL (by omega) ⟨⟨by omega, by omega⟩, by rw [k]; exact rg _ _, fun h => absurd h (by rw [k]; omega), fun _ => ⟨by omega, by omega, t, ht2, ty _ _ _ _ ht, ?_⟩⟩
      have h2 := ih (i + 1) (by omega)
      rw [nfold_s, gLet1_s ht2] at h2
      exact h2
  exact loop ((σ.1 101 b)).toNat 0 (by omega)
theorem c_R_empty {b q n : Nat} {P : Mem → Prop} (hL : isRow Λ b q n) (hnn : n < 1000) (hp : P (upI σ 101 b 0)) : K_R_empty l D Λ σ b P := w_R_empty hL (by omega) hp
theorem szI_le {t : Nat} (h : isT Λ t) : 1 ≤ szI Λ t ∧ szI Λ t ≤ 4 := by
  have := h.2.2
  unfold szI
  omega
theorem taken_le {q : Nat} (ty : ∀ kd q k t, σ.2.2 kd q k = some t → isT Λ t) : ∀ i : Nat, 0 ≤ sumN (fSzAt Λ q σ) i ∧ sumN (fSzAt Λ q σ) i ≤ 4 * i
  | 0 => ⟨Int.le_refl _, Int.le_refl _⟩
  | i + 1 => by
    have ih := taken_le (q := q) ty i
    have h1 : 0 ≤ fSzAt Λ q σ i ∧ fSzAt Λ q σ i ≤ 4 := by
      unfold fSzAt
      split
      · omega
      · rename_i t ht
        have := szI_le (ty _ _ _ _ ht)
        omega
    show 0 ≤ sumN (fSzAt Λ q σ) i + fSzAt Λ q σ i ∧ sumN (fSzAt Λ q σ) i + fSzAt Λ q σ i ≤ _
    omega
theorem c_R_cellsTaken {b q n : Nat} {P : Int → Mem → Prop} (hL : isRow Λ b q n) (hnn : n < 1000) (ty : ∀ kd q k t, σ.2.2 kd q k = some t → isT Λ t) (rg : ∀ f q, rng (σ.1 f q)) (h0 : 0 ≤ (σ.1 101 b)) (h1 : (σ.1 101 b) ≤ n) (hs : ∀ i : Nat, (i : Int) < (σ.1 101 b) → ∃ t, σ.2.2 101 q i = some t) (hp : P (fTaken Λ b q σ) σ) : K_R_cellsTaken l D Λ σ b P := by
  refine e_R_cellsTaken (fun x hl hD hx => ?_)
  subst hl; subst hD
  refine u_R_cellsTaken_0 hx hL (by omega) ?_
  have loop : ∀ m i : Nat, i + m = ((σ.1 101 b)).toNat → N_R_cellsTaken_4 x P Λ σ b (sumN (fSzAt Λ q σ) i) i := by
    intro m
    induction m with
    | zero =>
      intro i hi
      refine u_R_cellsTaken_4 hx hL (by omega) ⟨⟨by omega, by omega⟩, rg _ _, fun _ => ?_, fun h => absurd (show σ.1 101 b ≤ (i : Int) by omega) h⟩
      rw [show i = ((σ.1 101 b)).toNat by omega]
      exact hp
    | succ m ih =>
      intro i hi
      obtain ⟨t, ht⟩ := hs i (by omega)
      refine u_R_cellsTaken_4 hx hL (by omega) ⟨⟨by omega, by omega⟩, rg _ _, fun h => absurd h (by omega), fun _ => ⟨by omega, by omega, t, ht, ty _ _ _ _ ht, c_T_size (ty _ _ _ _ ht) ?_⟩⟩
      have h2 := ih (i + 1) (by omega)
      have e : fSzAt Λ q σ i = szI Λ t := by unfold fSzAt; rw [ht]
      unfold sumN at h2
      rw [e] at h2
      exact h2
  exact loop ((σ.1 101 b)).toNat 0 (by omega)
-- the old part
theorem c_O_findPlace {a1 : Int} {P : Int → Mem → Prop} (hL : LayC Λ c) (ha : rng a1) (hp : P (fPlace c σ a1) σ) : K_O_findPlace l D Λ σ c a1 P := by
  refine e_O_findPlace (fun x hl hD hx => ?_)
  subst hl; subst hD
  refine u_O_findPlace_0 hx hL ?_
  have loop : ∀ n i : Nat, i + n = 64 → (∀ j, j < i → runF (fFree c σ) (j + 1) ≠ a1) → N_O_findPlace_4 x P Λ σ c a1 (runF (fFree c σ) i) i := by
    intro n
    induction n with
    | zero =>
      intro i hi hb
      refine u_O_findPlace_4 hx hL ⟨⟨by omega, by omega⟩, fun _ => ?_, fun h => absurd h (by omega)⟩
      have e : fPlace c σ a1 = -1 := by
        unfold fPlace plc
        rw [fnd_none (fun j hj => decide_eq_false (hb j (by omega)))]
      rw [e] at hp
      exact hp
    | succ n ih =>
      intro i hi hb
      have hnn := runF_nn (fFree c σ) (i + 1)
      have go : ∀ z : Int, z = runF (fFree c σ) (i + 1) → N_O_findPlace_26 x P Λ σ c a1 i z := by
        intro z hz
        subst hz
        refine u_O_findPlace_26 hx hL ⟨⟨by omega, by omega⟩, ha, fun h => ?_, fun h => ?_⟩
        · exact ih (i + 1) (by omega) (fun j hj => by
            by_cases e : j = i
            · rw [e]; exact h
            · exact hb j (by omega))
        · have e : fPlace c σ a1 = (i : Int) + 1 - a1 := by
            unfold fPlace plc
            rw [fnd_some (i := i) (decide_eq_true h) (fun j hj => decide_eq_false (hb j hj)) (by omega)]
          rw [e] at hp
          exact hp
      refine u_O_findPlace_4 hx hL ⟨⟨by omega, by omega⟩, fun h => absurd h (by omega), fun _ => ⟨by omega, by omega, fun h => go _ ?_, fun t h => go _ ?_⟩⟩
      · have hf : fFree c σ i = true := by unfold fFree; rw [show (σ.2.2 102 (c 5) i) = none from h]; rfl
        show _ = (if fFree c σ i = true then _ else _)
        rw [if_pos hf]
      · have hf : ¬ fFree c σ i = true := by unfold fFree; rw [show (σ.2.2 102 (c 5) i) = some t from h]; simp
        show _ = (if fFree c σ i = true then _ else _)
        rw [if_neg hf]
  exact loop 64 0 rfl (fun j hj => by omega)
theorem gFill_0 (c : Nat → Nat) {lo hi : Int} (h : hi ≤ lo) (o : Option Nat) (σ : Mem) : gFill c lo hi o σ = σ := by
  unfold gFill
  have : (fun kd q k => if kd = 102 ∧ q = c 5 ∧ lo ≤ ((k : Nat) : Int) ∧ (k : Int) < hi then o else σ.2.2 kd q k) = σ.2.2 := by
    funext kd q k
    rw [if_neg (by omega)]
  rw [this]
theorem gFill_s (c : Nat → Nat) {lo : Int} {a : Nat} (h : lo ≤ a) (o : Option Nat) (σ : Mem) : upX (gFill c lo a o σ) 102 (c 5) a o = gFill c lo (a + 1) o σ := by
  unfold gFill upX
  simp only
  congr 2
  funext kd q k
  by_cases e : kd = 102 ∧ q = c 5 ∧ k = a
  · rw [if_pos e, if_pos ⟨e.1, e.2.1, by omega, by omega⟩]
  · rw [if_neg e]
    by_cases e2 : kd = 102 ∧ q = c 5 ∧ lo ≤ (k : Int) ∧ (k : Int) < a
    · rw [if_pos e2, if_pos ⟨e2.1, e2.2.1, e2.2.2.1, by omega⟩]
    · rw [if_neg e2, if_neg (fun z => e2 ⟨z.1, z.2.1, z.2.2.1, by
        have : k ≠ a := fun w => e ⟨z.1, z.2.1, w⟩
        omega⟩)]
theorem c_O_fill {a1 a2 : Int} {a3 : Option Nat} {P : Mem → Prop} (hL : LayC Λ c) (h1 : -1000 ≤ a1 ∧ a1 ≤ 1000) (h2 : 0 ≤ a2 ∧ a2 ≤ 1000) (ht : ∀ t, a3 = some t → isT Λ t) (hp : P (gFill c a1 (min (a1 + a2) 64) a3 σ)) : K_O_fill l D Λ σ c a1 a2 a3 P := by
  refine e_O_fill (fun x hl hD hx => ?_)
  subst hl; subst hD
  refine u_O_fill_0 hx hL ⟨⟨by omega, by omega⟩, ?_⟩
  have hpos : ∀ k : Nat, (max a1 0 ≤ (k : Int) ↔ a1 ≤ (k : Int)) := by intro k; omega
  have e0 : ∀ hi, gFill c a1 hi a3 σ = gFill c (max a1 0) hi a3 σ := by
    intro hi
    unfold gFill
    congr 2
    funext kd q k
    simp only [hpos]
  rw [e0] at hp
  have loop : ∀ n i : Nat, max a1 0 ≤ (i : Int) → (i : Int) + n = max (min (a1 + a2) 64) (max a1 0) → N_O_fill_7 x P Λ (gFill c (max a1 0) i a3 σ) c a1 a2 a3 i := by
    intro n
    induction n with
    | zero =>
      intro i h0 hi
      have hfin : P (gFill c (max a1 0) i a3 σ) := by
        by_cases e : min (a1 + a2) 64 ≤ max a1 0
        · rw [gFill_0 c e] at hp
          rw [gFill_0 c (by omega)]
          exact hp
        · rw [show (i : Int) = min (a1 + a2) 64 by omega]
          exact hp
      refine u_O_fill_7 hx hL ⟨⟨by omega, by omega⟩, ⟨by omega, by omega⟩, fun _ => hfin, fun h => ⟨fun _ => hfin, fun h2 => by omega⟩⟩
    | succ n ih =>
      intro i h0 hi
      refine u_O_fill_7 hx hL ⟨⟨by omega, by omega⟩, ⟨by omega, by omega⟩, fun h => by omega, fun _ => ⟨fun h => by omega, fun _ => ⟨by omega, by omega, ht, ?_⟩⟩⟩
      have h3 := ih (i + 1) (by omega) (by omega)
      rw [show ((i + 1 : Nat) : Int) = (i : Int) + 1 from rfl, ← gFill_s c (a := i) h0] at h3
      exact h3
  have e1 : (max a1 0) = (((max a1 0).toNat : Nat) : Int) := by omega
  have hfst := loop ((max (min (a1 + a2) 64) (max a1 0)) - max a1 0).toNat (max a1 0).toNat (by omega) (by omega)
  rw [← e1, gFill_0 c (Int.le_refl _)] at hfst
  exact hfst
theorem c_O_putAt {t : Nat} {a2 : Int} {P : Mem → Prop} (hL : LayC Λ c) (ht : isT Λ t) (h1 : -1000 ≤ a2 ∧ a2 ≤ 1000) (hp : P (gPut Λ c t a2 σ)) : K_O_putAt l D Λ σ c (some t) a2 P := by
  have hz := szI_le ht
  exact w_O_putAt hL ⟨t, rfl, ht, c_T_size ht (c_O_fill hL h1 ⟨by omega, by omega⟩ (fun t' h => by cases h; exact ht) hp)⟩
theorem c_O_takeOut {t : Nat} {P : Mem → Prop} (hL : LayC Λ c) (ht : isT Λ t) (h1 : -1000 ≤ (σ.1 203 t) ∧ (σ.1 203 t) ≤ 1000) (hp : P (gTake Λ c t σ)) : K_O_takeOut l D Λ σ c (some t) P := by
  have hz := szI_le ht
  exact w_O_takeOut hL ⟨t, rfl, ht, c_T_size ht (c_O_fill hL h1 ⟨by omega, by omega⟩ (fun t' h => by cases h) hp)⟩
theorem c_O_thingAt {a : Nat} {P : Option Nat → Mem → Prop} (hL : LayC Λ c) (ty : ∀ kd q k t, σ.2.2 kd q k = some t → isT Λ t) (rg : ∀ f q, rng (σ.1 f q)) (ha : a < 64) (hp : P (fAt c σ a) σ) : K_O_thingAt l D Λ σ c a P := by
  refine w_O_thingAt hL ⟨by omega, by omega, fun h => ?_, fun t h => ⟨ty _ _ _ _ h, rg _ _, ⟨by omega, by omega⟩, fun h2 => ?_, fun h2 => ?_⟩⟩
  · unfold fAt at hp; rw [show (σ.2.2 102 (c 5) a) = none from h] at hp; exact hp
  · unfold fAt at hp; rw [show (σ.2.2 102 (c 5) a) = some t from h] at hp; simp only [if_neg h2] at hp; exact hp
  · unfold fAt at hp; rw [show (σ.2.2 102 (c 5) a) = some t from h] at hp; simp only [if_pos h2] at hp; exact hp
theorem c_O_firstFrom {a1 : Int} {P : Option Nat → Mem → Prop} (hL : LayC Λ c) (ty : ∀ kd q k t, σ.2.2 kd q k = some t → isT Λ t) (rg : ∀ f q, rng (σ.1 f q)) (ha : 0 ≤ a1 ∧ a1 ≤ 64) (hp : P (fFrom c σ a1) σ) : K_O_firstFrom l D Λ σ c a1 P := by
  refine e_O_firstFrom (fun x hl hD hx => ?_)
  subst hl; subst hD
  refine u_O_firstFrom_0 hx hL ⟨⟨by omega, by omega⟩, ?_⟩
  have loop : ∀ n i : Nat, i + n = 64 → a1 ≤ (i : Int) → (∀ j : Nat, a1 ≤ (j : Int) → j < i → fAt c σ j = none) → N_O_firstFrom_6 x P Λ σ c i := by
    intro n
    induction n with
    | zero =>
      intro i hi h0 hb
      refine u_O_firstFrom_6 hx hL ⟨⟨by omega, by omega⟩, fun _ => ?_, fun h => absurd h (by omega)⟩
      have e : fFrom c σ a1 = none := by
        unfold fFrom
        rw [fnd_none (fun j hj => by
          by_cases hj2 : a1 ≤ (j : Int)
          · rw [hb j hj2 (by omega)]; simp
          · simp [hj2])]
      rw [e] at hp
      exact hp
    | succ n ih =>
      intro i hi h0 hb
      refine u_O_firstFrom_6 hx hL ⟨⟨by omega, by omega⟩, fun h => absurd h (by omega), fun _ => c_O_thingAt hL ty rg (by omega) ⟨fun h => ?_, fun t h => ?_⟩⟩
      · exact ih (i + 1) (by omega) (by omega) (fun j h1 h2 => by
          by_cases e : j = i
          · rw [e]; exact h
          · exact hb j h1 (by omega))
      · have e : fFrom c σ a1 = some t := by
          unfold fFrom
          rw [fnd_some (i := i) (by rw [h]; simp [h0]) (fun j hj => by
            by_cases hj2 : a1 ≤ (j : Int)
            · rw [hb j hj2 hj]; simp
            · simp [hj2]) (by omega)]
          exact h
        rw [e] at hp
        exact hp
  have h2 := loop (64 - a1.toNat) a1.toNat (by omega) (by omega) (fun j h1 h2 => by omega)
  rw [show ((a1.toNat : Nat) : Int) = max a1 0 by omega] at h2
  exact h2
theorem c_O_firstGrey {P : Option Nat → Mem → Prop} (hL : LayC Λ c) (ty : ∀ kd q k t, σ.2.2 kd q k = some t → isT Λ t) (rg : ∀ f q, rng (σ.1 f q)) (hp : P (fGrey c σ) σ) : K_O_firstGrey l D Λ σ c P := by
  refine e_O_firstGrey (fun x hl hD hx => ?_)
  subst hl; subst hD
  refine u_O_firstGrey_0 hx hL ?_
  have loop : ∀ n i : Nat, i + n = 64 → (∀ j : Nat, j < i → isGry c σ j = false) → N_O_firstGrey_2 x P Λ σ c i := by
    intro n
    induction n with
    | zero =>
      intro i hi hb
      refine u_O_firstGrey_2 hx hL ⟨⟨by omega, by omega⟩, fun _ => ?_, fun h => absurd h (by omega)⟩
      have e : fGrey c σ = none := by
        unfold fGrey
        rw [fnd_none (fun j hj => hb j (by omega))]
      rw [e] at hp
      exact hp
    | succ n ih =>
      intro i hi hb
      have go : isGry c σ i = false → N_O_firstGrey_2 x P Λ σ c ((i : Int) + 1) := fun hg => ih (i + 1) (by omega) (fun j hj => by
        by_cases e : j = i
        · rw [e]; exact hg
        · exact hb j (by omega))
      refine u_O_firstGrey_2 hx hL ⟨⟨by omega, by omega⟩, fun h => absurd h (by omega), fun _ => c_O_thingAt hL ty rg (by omega) ⟨fun h => go ?_, fun t h => ?_⟩⟩
      · unfold isGry; rw [h]
      · have htt : isT Λ t := by
          unfold fAt at h
          split at h
          · cases h
          · rename_i u hu
            split at h
            · cases h; exact ty _ _ _ _ hu
            · cases h
        refine ⟨htt, rg _ _, fun h2 => go ?_, fun h2 => ?_⟩
        · unfold isGry; rw [h]; exact decide_eq_false (fun z => z h2)
        · have e : fGrey c σ = some t := by
            unfold fGrey
            rw [fnd_some (i := i) (by unfold isGry; rw [h]; exact decide_eq_true h2) hb (by omega)]
            exact h
          rw [e] at hp
          exact hp
  exact loop 64 0 rfl (fun j hj => by omega)
theorem c_O_referenceIn {a : Nat} {P : Option Nat → Mem → Prop} (hL : LayC Λ c) (ty : ∀ kd q k t, σ.2.2 kd q k = some t → isT Λ t) (hr : ∀ t, (σ.2.2 102 (c 5) a) = some t → -1000 ≤ (σ.1 203 t) ∧ (σ.1 203 t) ≤ 1000) (ha : a < 64) (hp : P (fRef Λ c σ a) σ) : K_O_referenceIn l D Λ σ c a P := by
  refine w_O_referenceIn hL ⟨by omega, by omega, fun h => ?_, fun t h => ⟨ty _ _ _ _ h, c_T_hasField (ty _ _ _ _ h) ?_ ?_⟩⟩
  · unfold fRef at hp; rw [show (σ.2.2 102 (c 5) a) = none from h] at hp; exact hp
  · have := hr t h
    exact ⟨by omega, by omega⟩
  · unfold fRef at hp
    rw [show (σ.2.2 102 (c 5) a) = some t from h] at hp
    simp only at hp
    by_cases e : 0 ≤ (a : Int) - (σ.1 203 t) - 1 ∧ (a : Int) - (σ.1 203 t) - 1 < (nfL Λ t : Int)
    · rw [if_pos e] at hp ⊢
      exact ⟨⟨by omega, by omega⟩, fun h => absurd h (by decide), fun _ => ⟨e.1, e.2, hp⟩⟩
    · rw [if_neg e] at hp ⊢
      exact ⟨rng_0, fun _ => hp, fun h => absurd rfl h⟩
end CO
