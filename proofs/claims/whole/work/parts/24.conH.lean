/-! Contracts of OldPart's loops and of the heap's private methods. -/
section CH
variable {l : Launch} {D : va_G} {Λ : Lam} {σ : Mem} {c : Nat → Nat}
theorem c_O_cardsReferringToYoung {P : Int → Mem → Prop} (hw : WF Λ c σ) (hp : P (fShow Λ c σ) σ) : K_O_cardsReferringToYoung l D Λ σ c P := by
  refine e_O_cardsReferringToYoung (fun x hl hD hx => ?_)
  subst hl; subst hD
  have hL := hw.ly
  refine u_O_cardsReferringToYoung_0 hx hL ?_
  have loop : ∀ n i : Nat, i + n = 64 → N_O_cardsReferringToYoung_4 x P Λ σ c (nfold (fun a u => if isYng σ (fRef Λ c σ a) = true then iOr u (fCard (a : Nat)) else u) 0 i) i := by
    intro n
    induction n with
    | zero =>
      intro i hi
      refine u_O_cardsReferringToYoung_4 hx hL ⟨⟨by omega, by omega⟩, fun _ => ?_, fun h => absurd h (by omega)⟩
      rw [show i = 64 by omega]
      exact hp
    | succ n ih =>
      intro i hi
      have h2 := ih (i + 1) (by omega)
      rw [nfold_s] at h2
      refine u_O_cardsReferringToYoung_4 hx hL ⟨⟨by omega, by omega⟩, fun h => absurd h (by omega), fun _ => c_O_referenceIn hL hw.ty (fun t ht => hw.ab t (hw.ty _ _ _ _ ht)) (by omega) ⟨fun h => ?_, fun t h => ⟨hw.refT i t h, c_T_isYoung (hw.refT i t h) (hw.rg _ _) ⟨?_, fun h0 => ?_, fun h0 => c_H_cardOf ?_⟩⟩⟩⟩
      · rw [h] at h2; exact h2
      · split <;> exact ⟨by omega, by omega⟩
      · rw [h] at h2
        have e : isYng σ (some t) = false := by
          unfold isYng
          refine decide_eq_false (fun z => ?_)
          rw [if_pos z] at h0
          omega
        rw [e] at h2
        exact h2
      · rw [h] at h2
        have e : isYng σ (some t) = true := by
          unfold isYng
          refine decide_eq_true ?_
          by_cases z : (σ.1 203 t) = -1
          · exact z
          · rw [if_neg z] at h0; exact absurd rfl h0
        rw [e] at h2
        exact h2
  exact loop 64 0 rfl
theorem c_O_greyMarkedOn {a1 : Int} {P : Mem → Prop} (hw : WF Λ c σ) (hp : P (gGrey c a1 σ)) : K_O_greyMarkedOn l D Λ σ c a1 P := by
  refine e_O_greyMarkedOn (fun x hl hD hx => ?_)
  subst hl; subst hD
  have hL := hw.ly
  refine u_O_greyMarkedOn_0 hx hL ?_
  have hws : ∀ i, WF Λ c (nfold (gGrey1 c a1) σ i) := by
    intro i
    refine hw.fold _ (fun i s _ hs => ?_)
    unfold gGrey1
    split
    · exact hs
    · split
      · exact hs.upT (by decide) (by decide) (by decide) ⟨by omega, by omega⟩
      · exact hs
  have loop : ∀ n i : Nat, i + n = 64 → N_O_greyMarkedOn_2 x P Λ (nfold (gGrey1 c a1) σ i) c a1 i := by
    intro n
    induction n with
    | zero =>
      intro i hi
      refine u_O_greyMarkedOn_2 hx hL ⟨⟨by omega, by omega⟩, fun _ => ?_, fun h => absurd h (by omega)⟩
      rw [show i = 64 by omega]
      exact hp
    | succ n ih =>
      intro i hi
      have h2 := ih (i + 1) (by omega)
      rw [nfold_s] at h2
      have hs := hws i
      generalize nfold (gGrey1 c a1) σ i = s at h2 hs ⊢
      refine u_O_greyMarkedOn_2 hx hL ⟨⟨by omega, by omega⟩, fun h => absurd h (by omega), fun _ => ⟨by omega, by omega, fun h => ?_, fun t h => ⟨hs.ty _ _ _ _ h, hs.rg _ _, fun h0 => ?_, fun h0 => c_H_cardOf ⟨fun h1 => ?_, fun h1 => ?_⟩⟩⟩⟩
      · have e : gGrey1 c a1 i s = s := by unfold gGrey1; rw [show (s.2.2 102 (c 5) i) = none from h]
        rw [e] at h2; exact h2
      · have e : gGrey1 c a1 i s = s := by unfold gGrey1; rw [show (s.2.2 102 (c 5) i) = some t from h]; exact if_neg (fun z => z.1 h0)
        rw [e] at h2; exact h2
      · have e : gGrey1 c a1 i s = s := by unfold gGrey1; rw [show (s.2.2 102 (c 5) i) = some t from h]; exact if_neg (fun z => z.2 h1)
        rw [e] at h2; exact h2
      · have e : gGrey1 c a1 i s = upI s 205 t 1 := by unfold gGrey1; rw [show (s.2.2 102 (c 5) i) = some t from h]; exact if_pos ⟨h0, h1⟩
        rw [e] at h2; exact h2
  exact loop 64 0 rfl
theorem c_O_unmarkAll {P : Mem → Prop} (hw : WF Λ c σ) (hp : P (gUnm c σ)) : K_O_unmarkAll l D Λ σ c P := by
  refine e_O_unmarkAll (fun x hl hD hx => ?_)
  subst hl; subst hD
  have hL := hw.ly
  refine u_O_unmarkAll_0 hx hL ?_
  have hws : ∀ i, WF Λ c (nfold (gUnm1 c) σ i) := by
    intro i
    refine hw.fold _ (fun i s _ hs => ?_)
    unfold gUnm1
    split
    · exact hs
    · exact (hs.upT (by decide) (by decide) (by decide) rng_0).upT (by decide) (by decide) (by decide) rng_0
  have loop : ∀ n i : Nat, i + n = 64 → N_O_unmarkAll_2 x P Λ (nfold (gUnm1 c) σ i) c i := by
    intro n
    induction n with
    | zero =>
      intro i hi
      refine u_O_unmarkAll_2 hx hL ⟨⟨by omega, by omega⟩, fun _ => ?_, fun h => absurd h (by omega)⟩
      rw [show i = 64 by omega]
      exact hp
    | succ n ih =>
      intro i hi
      have h2 := ih (i + 1) (by omega)
      rw [nfold_s] at h2
      have hs := hws i
      generalize nfold (gUnm1 c) σ i = s at h2 hs ⊢
      refine u_O_unmarkAll_2 hx hL ⟨⟨by omega, by omega⟩, fun h => absurd h (by omega), fun _ => ⟨by omega, by omega, fun h => ?_, fun t h => ⟨hs.ty _ _ _ _ h, ?_⟩⟩⟩
      · have e : gUnm1 c i s = s := by unfold gUnm1; rw [show (s.2.2 102 (c 5) i) = none from h]
        rw [e] at h2; exact h2
      · have e : gUnm1 c i s = upI (upI s 204 t 0) 205 t 0 := by unfold gUnm1; rw [show (s.2.2 102 (c 5) i) = some t from h]
        rw [e] at h2; exact h2
  exact loop 64 0 rfl
theorem c_O_slideReached {P : Mem → Prop} (hw : WF Λ c σ) (hp : P (gSlide Λ c σ)) : K_O_slideReached l D Λ σ c P := by
  refine e_O_slideReached (fun x hl hD hx => ?_)
  subst hl; subst hD
  have hL := hw.ly
  refine u_O_slideReached_0 hx hL ?_
  have loop : ∀ n i : Nat, i + n = 64 → N_O_slideReached_4 x P Λ (nfold (gSlide1 Λ c) (0, σ) i).2 c (nfold (gSlide1 Λ c) (0, σ) i).1 i := by
    intro n
    induction n with
    | zero =>
      intro i hi
      refine u_O_slideReached_4 hx hL ⟨⟨by omega, by omega⟩, fun _ => ?_, fun h => absurd h (by omega)⟩
      rw [show i = 64 by omega]
      exact hp
    | succ n ih =>
      intro i hi
      have h2 := ih (i + 1) (by omega)
      rw [nfold_s] at h2
      obtain ⟨hs, hb0, hb1⟩ := hw.slide.2 i (by omega)
      generalize nfold (gSlide1 Λ c) (0, σ) i = u at h2 hs hb0 hb1 ⊢
      refine u_O_slideReached_4 hx hL ⟨⟨by omega, by omega⟩, fun h => absurd h (by omega), fun _ => c_O_thingAt hL hs.ty hs.rg (by omega) ⟨fun h => ?_, fun t h => ?_⟩⟩
      · have e : gSlide1 Λ c i u = u := by unfold gSlide1; rw [h]
        rw [e] at h2; exact h2
      · have hT := hs.atT i t h
        have hz := szI_le hT
        refine c_O_takeOut hL hT (hs.ab t hT) ⟨hT, hs.rg _ _, fun h0 => c_T_becomeGone hT ?_, fun h0 => c_O_putAt hL hT ⟨by omega, by omega⟩ (c_T_size hT ?_)⟩
        · have e : gSlide1 Λ c i u = (u.1, upI (gTake Λ c t u.2) 203 t (-2)) := by unfold gSlide1; rw [h]; exact if_neg (fun z => z h0)
          rw [e] at h2; exact h2
        · have e : gSlide1 Λ c i u = (u.1 + szI Λ t, gPut Λ c t u.1 (gTake Λ c t u.2)) := by unfold gSlide1; rw [h]; exact if_pos h0
          rw [e] at h2; exact h2
  exact loop 64 0 rfl
theorem c_O_cellsTaken {P : Int → Mem → Prop} (hL : LayC Λ c) (hp : P (fOldCells c σ) σ) : K_O_cellsTaken l D Λ σ c P := by
  refine e_O_cellsTaken (fun x hl hD hx => ?_)
  subst hl; subst hD
  refine u_O_cellsTaken_0 hx hL ?_
  have loop : ∀ n i : Nat, i + n = 64 → N_O_cellsTaken_4 x P Λ σ c (sumN (fun a => if ((σ.2.2 102 (c 5) a)).isSome then 1 else 0) i) i := by
    intro n
    induction n with
    | zero =>
      intro i hi
      refine u_O_cellsTaken_4 hx hL ⟨⟨by omega, by omega⟩, fun _ => ?_, fun h => absurd h (by omega)⟩
      rw [show i = 64 by omega]
      exact hp
    | succ n ih =>
      intro i hi
      have h2 := ih (i + 1) (by omega)
      unfold sumN at h2
      refine u_O_cellsTaken_4 hx hL ⟨⟨by omega, by omega⟩, fun h => absurd h (by omega), fun _ => ⟨by omega, by omega, fun h => ?_, fun t h => ?_⟩⟩
      · rw [show (σ.2.2 102 (c 5) i) = none from h] at h2
        simp only [Option.isSome_none, Bool.false_eq_true, if_false, Int.add_zero] at h2
        exact h2
      · rw [show (σ.2.2 102 (c 5) i) = some t from h] at h2
        simp only [Option.isSome_some, if_true] at h2
        exact h2
  exact loop 64 0 rfl
-- the heap's private methods
theorem c_H_thingOf {a1 : Int} {P : Option Nat → Mem → Prop} (hL : LayC Λ c) (ha : rng a1) (hp : P (if 0 ≤ a1 ∧ a1 < 6 then (σ.2.2 100 (c 1) a1.toNat) else none) σ) : K_H_thingOf l D Λ σ c a1 P := by
  refine w_H_thingOf hL (c_H_isRoot ha ?_)
  by_cases e : 0 ≤ a1 ∧ a1 < 6
  · rw [if_pos e] at hp ⊢
    exact ⟨⟨by omega, by omega⟩, fun h => absurd h (by decide), fun _ => ⟨e.1, e.2, hp⟩⟩
  · rw [if_neg e] at hp ⊢
    exact ⟨rng_0, fun _ => hp, fun h => absurd rfl h⟩
theorem c_H_hasRoom {a1 : Int} {P : Int → Mem → Prop} (hw : WF Λ c σ) (ha : 0 ≤ a1 ∧ a1 ≤ 1000) (hp : P (if fTaken Λ (c 2) (c 3) σ + a1 ≤ 20 then 1 else 0) σ) : K_H_hasRoom l D Λ σ c a1 P := by
  refine w_H_hasRoom hw.ly (c_R_cellsTaken hw.rowY (by omega) hw.ty hw.rg hw.y0 hw.y1 hw.yl ?_)
  have hb := taken_le (q := c 3) hw.ty ((σ.1 101 (c 2))).toNat
  have h1 := hw.y1
  have e : fTaken Λ (c 2) (c 3) σ ≤ 80 ∧ 0 ≤ fTaken Λ (c 2) (c 3) σ := by unfold fTaken; omega
  refine ⟨⟨by omega, by omega⟩, fun h => ?_, fun h => ?_⟩
  · rw [if_neg (by omega)] at hp; exact hp
  · rw [if_pos (by omega)] at hp; exact hp
theorem c_H_placeAsOld {t : Nat} {P : Int → Mem → Prop} (hw : WF Λ c σ) (ht : isT Λ t) (hp : P (fPlaceOld Λ c t σ).1 (fPlaceOld Λ c t σ).2) : K_H_placeAsOld l D Λ σ c (some t) P := by
  have hz := szI_le ht
  have hb := place_le (c := c) σ hz.1
  refine w_H_placeAsOld hw.ly ⟨t, rfl, ht, c_T_size ht (c_O_findPlace hw.ly ⟨by omega, by omega⟩ ⟨⟨by omega, by omega⟩, fun h => c_O_putAt hw.ly ht ⟨by omega, by omega⟩ (c_T_cardsUnder ht ?_), fun h => ?_⟩)⟩
  · have hw2 := hw.put ht (p := fPlace c σ (szI Λ t)) ⟨by omega, by omega⟩
    unfold fPlaceOld at hp
    rw [if_neg h] at hp
    simp only at hp
    refine ⟨?_, fun h0 => ?_, fun h0 => ?_⟩
    · exact (hw2.upT (f := 304) (q := c 0) (by decide) (by decide) (by decide) (rng_or _ _)).rg _ _
    · rw [if_pos h0] at hp; exact hp
    · rw [if_neg h0] at hp; exact hp
  · unfold fPlaceOld at hp
    rw [if_pos h] at hp
    exact hp
theorem c_H_reachYoung {o : Option Nat} {P : Mem → Prop} (hw : WF Λ c σ) (ho : ∀ t, o = some t → isT Λ t) (hp : P (gReachY Λ c o σ)) : K_H_reachYoung l D Λ σ c o P := by
  refine w_H_reachYoung hw.ly ⟨fun h => ?_, fun t h => ⟨ho t h, c_T_isYoung (ho t h) (hw.rg _ _) ?_⟩⟩
  · subst h; exact hp
  · subst h
    have ht := ho t rfl
    have hw1 := hw.reach (o := some t) (fun t' e => by cases e; exact ht)
    have ha := hw1.ag t ht
    unfold gReachY at hp
    simp only at hp
    by_cases hy : (σ.1 203 t) = -1
    · rw [if_pos hy] at hp ⊢
      refine ⟨⟨by omega, by omega⟩, fun h => absurd h (by decide), fun _ => c_R_reach hw.rowQ (by omega) hw.rg hw.q0 (fun t' e => by cases e; exact ht) ⟨?_, fun h0 => ?_, fun h0 => ?_⟩⟩
      · unfold fReach
        simp only
        split
        · split <;> exact ⟨by omega, by omega⟩
        · exact ⟨by omega, by omega⟩
      · rw [if_neg h0] at hp
        have hw2 : WF Λ c (upI (fReach (c 6) (c 7) 84 (some t) σ).2 202 t (min (((fReach (c 6) (c 7) 84 (some t) σ).2.1 202 t) + 1) 9)) := hw1.upAge ⟨by omega, by omega⟩
        refine ⟨⟨by omega, by omega⟩, hw2.rg _ _, fun h1 => ?_, fun h1 => c_H_placeAsOld hw2 ht ?_⟩
        · rw [if_neg (by omega)] at hp; exact hp
        · rw [if_pos (by omega)] at hp; exact hp
      · rw [if_pos h0] at hp; exact hp
    · rw [if_neg hy] at hp ⊢
      exact ⟨rng_0, fun _ => hp, fun h => absurd rfl h⟩
theorem c_H_reachFromCards {a1 : Int} {P : Mem → Prop} (hw : WF Λ c σ) (hp : P (nfold (gCards1 Λ c a1) σ 64)) : K_H_reachFromCards l D Λ σ c a1 P := by
  refine e_H_reachFromCards (fun x hl hD hx => ?_)
  subst hl; subst hD
  have hL := hw.ly
  refine u_H_reachFromCards_0 hx hL ?_
  have hws : ∀ i, WF Λ c (nfold (gCards1 Λ c a1) σ i) := fun i => hw.fold _ (fun i s _ hs => hs.cards1 i)
  have loop : ∀ n i : Nat, i + n = 64 → N_H_reachFromCards_2 x P Λ (nfold (gCards1 Λ c a1) σ i) c a1 i := by
    intro n
    induction n with
    | zero =>
      intro i hi
      refine u_H_reachFromCards_2 hx hL ⟨⟨by omega, by omega⟩, fun _ => ?_, fun h => absurd h (by omega)⟩
      rw [show i = 64 by omega]
      exact hp
    | succ n ih =>
      intro i hi
      have h2 := ih (i + 1) (by omega)
      rw [nfold_s] at h2
      have hs := hws i
      generalize nfold (gCards1 Λ c a1) σ i = s at h2 hs ⊢
      have z0 : gCards1 Λ c a1 i s = s → N_H_reachFromCards_34 x P Λ s c a1 i 0 := fun e => by
        rw [e] at h2
        exact u_H_reachFromCards_34 hx hL ⟨rng_0, fun _ => h2, fun h => absurd rfl h⟩
      refine u_H_reachFromCards_2 hx hL ⟨⟨by omega, by omega⟩, fun h => absurd h (by omega), fun _ => ⟨by omega, by omega, fun h => u_H_reachFromCards_33 hx hL (z0 ?_), fun t h => ⟨hs.ty _ _ _ _ h, hs.rg _ _, fun h0 => u_H_reachFromCards_33 hx hL (z0 ?_), fun h0 => ?_⟩⟩⟩
      · unfold gCards1; rw [show (s.2.2 102 (c 5) i) = none from h]
      · unfold gCards1; rw [show (s.2.2 102 (c 5) i) = some t from h]; exact if_neg (fun z => h0 z.1)
      · refine u_H_reachFromCards_34 hx hL ⟨⟨by omega, by omega⟩, fun h => absurd h (by decide), fun _ => c_H_cardOf ⟨fun h1 => ?_, fun h1 => c_O_referenceIn hL hs.ty (fun t ht => hs.ab t (hs.ty _ _ _ _ ht)) (by omega) (c_H_reachYoung hs (hs.refT i) ?_)⟩⟩
        · have e : gCards1 Λ c a1 i s = s := by unfold gCards1; rw [show (s.2.2 102 (c 5) i) = some t from h]; exact if_neg (fun z => z.2 h1)
          rw [e] at h2; exact h2
        · have e : gCards1 Λ c a1 i s = gReachY Λ c (fRef Λ c s i) s := by unfold gCards1; rw [show (s.2.2 102 (c 5) i) = some t from h]; exact if_pos ⟨h0, h1⟩
          rw [e] at h2; exact h2
  exact loop 64 0 rfl
theorem c_H_reachFields {t : Nat} {P : Mem → Prop} (hw : WF Λ c σ) (ht : isT Λ t) (hp : P (gFields Λ c t σ)) : K_H_reachFields l D Λ σ c (some t) P := by
  refine e_H_reachFields (fun x hl hD hx => ?_)
  subst hl; subst hD
  have hL := hw.ly
  have hn := ht.2.2
  refine u_H_reachFields_0 hx hL ?_
  have hws : ∀ i, WF Λ c (nfold (gField1 Λ c t) σ i) := fun i => hw.fold _ (fun i s _ hs => hs.reachY (fun t' e => hs.ty _ _ _ _ e))
  have loop : ∀ n i : Nat, i + n = nfL Λ t → N_H_reachFields_2 x P Λ (nfold (gField1 Λ c t) σ i) c (some t) i := by
    intro n
    induction n with
    | zero =>
      intro i hi
      refine u_H_reachFields_2 hx hL ⟨t, rfl, ht, ⟨by omega, by omega⟩, ⟨by omega, by omega⟩, fun _ => ?_, fun h => absurd (show ((nfL Λ t : Nat) : Int) ≤ i by omega) h⟩
      rw [show i = nfL Λ t by omega]
      exact hp
    | succ n ih =>
      intro i hi
      have h2 := ih (i + 1) (by omega)
      rw [nfold_s] at h2
      have hs := hws i
      refine u_H_reachFields_2 hx hL ⟨t, rfl, ht, ⟨by omega, by omega⟩, ⟨by omega, by omega⟩, fun h => absurd h (by omega), fun _ => ⟨by omega, by omega, c_H_reachYoung hs (fun t' e => hs.ty _ _ _ _ e) h2⟩⟩
  exact loop (nfL Λ t) 0 (by omega)
theorem drop_keep (c : Nat → Nat) (σ : Mem) : ∀ i, (nfold (gDrop1 c) σ i).2 = σ.2 ∧ ∀ f o, f ≠ 203 → (nfold (gDrop1 c) σ i).1 f o = σ.1 f o
  | 0 => ⟨rfl, fun _ _ _ => rfl⟩
  | i + 1 => by
    have ih := drop_keep c σ i
    rw [nfold_s]
    unfold gDrop1
    split
    · exact ih
    · split
      · refine ⟨ih.1, fun f o hf => ?_⟩
        rw [upI_ne hf]
        exact ih.2 f o hf
      · exact ih
theorem c_H_dropUnreachedYoung {P : Mem → Prop} (hw : WF Λ c σ) (hp : P (gDrop c σ)) : K_H_dropUnreachedYoung l D Λ σ c P := by
  refine e_H_dropUnreachedYoung (fun x hl hD hx => ?_)
  subst hl; subst hD
  have hL := hw.ly
  have y0 := hw.y0
  have y1 := hw.y1
  refine u_H_dropUnreachedYoung_0 hx hL ?_
  have hws : ∀ i, WF Λ c (nfold (gDrop1 c) σ i) := by
    intro i
    refine hw.fold _ (fun i s _ hs => ?_)
    unfold gDrop1
    split
    · exact hs
    · split
      · exact hs.upAdr ⟨by omega, by omega⟩
      · exact hs
  have loop : ∀ n i : Nat, i + n = ((σ.1 101 (c 2))).toNat → N_H_dropUnreachedYoung_2 x P Λ (nfold (gDrop1 c) σ i) c i := by
    intro n
    induction n with
    | zero =>
      intro i hi
      have k := (drop_keep c σ i).2 101 (c 2) (by decide)
      refine u_H_dropUnreachedYoung_2 hx hL ⟨⟨by omega, by omega⟩, (hws i).rg _ _, fun _ => ?_, fun h => absurd (show (nfold (gDrop1 c) σ i).1 101 (c 2) ≤ (i : Int) by rw [k]; omega) h⟩
      rw [show i = ((σ.1 101 (c 2))).toNat by omega]
      exact hp
    | succ n ih =>
      intro i hi
      have h2 := ih (i + 1) (by omega)
      rw [nfold_s] at h2
      have k := (drop_keep c σ i).2 101 (c 2) (by decide)
      have hs := hws i
      obtain ⟨t, ht⟩ := hs.yl i (by rw [k]; omega)
      generalize nfold (gDrop1 c) σ i = s at h2 hs ht k ⊢
      refine u_H_dropUnreachedYoung_2 hx hL ⟨⟨by omega, by omega⟩, hs.rg _ _, fun h => absurd h (by rw [k]; omega), fun _ => ⟨by omega, by omega, t, ht, hs.ty _ _ _ _ ht, hs.rg _ _, fun h0 => ?_, fun h0 => ⟨by omega, by omega, c_T_becomeGone (hs.ty _ _ _ _ ht) ?_⟩⟩⟩
      · have e : gDrop1 c i s = s := by unfold gDrop1; rw [ht]; exact if_neg h0
        rw [e] at h2; exact h2
      · have e : gDrop1 c i s = upI s 203 t (-2) := by unfold gDrop1; rw [ht]; exact if_pos h0
        rw [e] at h2; exact h2
  exact loop ((σ.1 101 (c 2))).toNat 0 (by omega)
end CH
