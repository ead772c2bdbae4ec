/-! Contracts of the full collection and of the public methods. -/
section CH3
variable {l : Launch} {D : va_G} {Λ : Lam} {σ : Mem} {c : Nat → Nat}
theorem put_keep (t : Nat) (p : Int) (s : Mem) : (∀ kd q k, kd ≠ 102 → (gPut Λ c t p s).2.2 kd q k = s.2.2 kd q k) ∧ ∀ f q, f ≠ 203 → (gPut Λ c t p s).1 f q = s.1 f q := by
  refine ⟨fun kd q k h => ?_, fun f q h => ?_⟩
  · unfold gPut gFill
    simp only
    rw [if_neg (fun z => h z.1)]
    rfl
  · unfold gPut gFill
    simp only
    exact upI_ne h
theorem placeOld_keep (t : Nat) (s : Mem) : (∀ kd q k, kd ≠ 102 → (fPlaceOld Λ c t s).2.2.2 kd q k = s.2.2 kd q k) ∧ ∀ f q, f ≠ 203 → f ≠ 304 → f ≠ 204 → (fPlaceOld Λ c t s).2.1 f q = s.1 f q := by
  unfold fPlaceOld
  split
  · exact ⟨fun _ _ _ _ => rfl, fun _ _ _ _ _ => rfl⟩
  · refine ⟨fun kd q k h => (put_keep t _ s).1 kd q k h, fun f q h1 h2 h3 => ?_⟩
    rw [upI_ne h3, upI_ne h2]
    exact (put_keep t _ s).2 f q h1
theorem mov_keep (s : Mem) : ∀ i, (∀ kd q k, kd ≠ 102 → (nfold (gMove1 Λ c) (0, s) i).2.2.2 kd q k = s.2.2 kd q k) ∧ ∀ f q, f ≠ 203 → f ≠ 304 → f ≠ 204 → (nfold (gMove1 Λ c) (0, s) i).2.1 f q = s.1 f q
  | 0 => ⟨fun _ _ _ _ => rfl, fun _ _ _ _ _ => rfl⟩
  | i + 1 => by
    have ih := mov_keep s i
    rw [nfold_s]
    generalize nfold (gMove1 Λ c) (0, s) i = u at ih
    unfold gMove1
    split
    · split
      · exact ih
      · rename_i t ht
        have k := placeOld_keep (Λ := Λ) (c := c) t u.2
        split
        · exact ⟨fun kd q k' h => (k.1 kd q k' h).trans (ih.1 kd q k' h), fun f q h1 h2 h3 => (k.2 f q h1 h2 h3).trans (ih.2 f q h1 h2 h3)⟩
        · exact ⟨fun kd q k' h => (k.1 kd q k' h).trans (ih.1 kd q k' h), fun f q h1 h2 h3 => (k.2 f q h1 h2 h3).trans (ih.2 f q h1 h2 h3)⟩
    · exact ih
theorem rest_some {n : Int} {s : Mem} {k : Nat} (h : ∃ t', s.2.2 101 (c 3) k = some t') : ∀ i, ∃ t', (nfold (gRest1 c n) s i).2.2 101 (c 3) k = some t'
  | 0 => h
  | i + 1 => by
    have ih := rest_some (n := n) (s := s) (k := k) h i
    rw [nfold_s]
    unfold gRest1
    split
    · split
      · exact ih
      · exact addX_some ih
    · exact ih
theorem rest_id {n : Int} {s : Mem} : ∀ i : Nat, (i : Int) ≤ n → nfold (gRest1 c n) s i = s
  | 0, _ => rfl
  | i + 1, h => by
    rw [nfold_s, rest_id i (by omega)]
    unfold gRest1
    rw [if_neg (by omega)]
theorem gMove1_stop {i : Nat} {u : Int × Mem} (h : ¬ u.1 = (i : Int)) : gMove1 Λ c i u = u := by unfold gMove1; rw [if_neg h]
theorem WF.move (h : WF Λ c σ) : WF Λ c (fMove Λ c σ).2 := by
  have h1 := h.mov1 ((σ.1 101 (c 2))).toNat
  unfold fMove fMov1
  dsimp only
  exact WF.fold h1.emptyY _ (fun i s _ hs => hs.restY _ i)
theorem c_H_placeYoungInOrder {P : Int → Mem → Prop} (hw : WF Λ c σ) (hp : P (fMove Λ c σ).1 (fMove Λ c σ).2) : K_H_placeYoungInOrder l D Λ σ c P := by
  refine e_H_placeYoungInOrder (fun x hl hD hx => ?_)
  subst hl; subst hD
  have hL := hw.ly
  have y0 := hw.y0
  have y1 := hw.y1
  refine u_H_placeYoungInOrder_0 hx hL ?_
  have hwm := hw.mov1 ((σ.1 101 (c 2))).toNat
  have hb : ∀ i, 0 ≤ (nfold (gMove1 Λ c) (0, σ) i).1 ∧ (nfold (gMove1 Λ c) (0, σ) i).1 ≤ i := by
    intro i
    induction i with
    | zero => exact ⟨by show (0 : Int) ≤ 0; omega, by show (0 : Int) ≤ 0; omega⟩
    | succ i ih =>
      rw [nfold_s]
      generalize nfold (gMove1 Λ c) (0, σ) i = u at ih
      unfold gMove1
      split
      · split
        · omega
        · split
          · simp only; omega
          · simp only; omega
      · omega
  have fin : N_H_placeYoungInOrder_37 x P Λ (fMov1 Λ c σ).2 c ((σ.1 101 (c 2))) (fMov1 Λ c σ).1 := by
    have hbn := hb ((σ.1 101 (c 2))).toNat
    have hk := (mov_keep (Λ := Λ) (c := c) σ ((σ.1 101 (c 2))).toNat).1
    unfold fMove at hp
    dsimp only at hp
    unfold fMov1 at hp ⊢
    generalize nfold (gMove1 Λ c) (0, σ) ((σ.1 101 (c 2))).toNat = u at hp hwm hbn hk ⊢
    refine u_H_placeYoungInOrder_37 hx hL (c_R_empty hwm.rowY (by omega) ?_)
    have hws : ∀ i, WF Λ c (nfold (gRest1 c u.1) (upI u.2 101 (c 2) 0) i) := fun i => WF.fold hwm.emptyY _ (fun i s _ hs => hs.restY _ i)
    have loop : ∀ n i : Nat, i + n = ((σ.1 101 (c 2))).toNat → u.1 ≤ i → N_H_placeYoungInOrder_46 x P Λ (nfold (gRest1 c u.1) (upI u.2 101 (c 2) 0) i) c ((σ.1 101 (c 2))) u.1 i := by
      intro n
      induction n with
      | zero =>
        intro i hi h0
        refine u_H_placeYoungInOrder_46 hx hL ⟨⟨by omega, by omega⟩, hw.rg _ _, fun _ => ?_, fun h => by omega⟩
        rw [show i = ((σ.1 101 (c 2))).toNat by omega]
        exact hp
      | succ n ih =>
        intro i hi h0
        have h2 := ih (i + 1) (by omega) (by omega)
        rw [nfold_s] at h2
        have hs := hws i
        have hsm : ∃ t', (upI u.2 101 (c 2) 0).2.2 101 (c 3) i = some t' := by
          obtain ⟨t', ht'⟩ := hw.yl i (by omega)
          exact ⟨t', (hk 101 (c 3) i (by decide)).trans ht'⟩
        obtain ⟨t, ht⟩ := rest_some (n := u.1) hsm i
        generalize nfold (gRest1 c u.1) (upI u.2 101 (c 2) 0) i = s at h2 hs ht ⊢
        refine u_H_placeYoungInOrder_46 hx hL ⟨⟨by omega, by omega⟩, hw.rg _ _, fun h => by omega, fun _ => ⟨by omega, by omega, ?_⟩⟩
        have e : gRest1 c u.1 i s = (fAdd (c 2) (c 3) 20 (some t) s).2 := by unfold gRest1; rw [if_pos h0, ht]
        rw [e] at h2
        have e3 : s.2.2 101 (c 3) ((i : Int)).toNat = some t := ht
        rw [e3]
        exact c_R_add hs.rowY (by omega) hs.rg hs.y0 (fun t' e => by cases e; exact hs.ty _ _ _ _ ht) h2
    have h0 := loop (((σ.1 101 (c 2))).toNat - u.1.toNat) u.1.toNat (by omega) (by omega)
    rw [rest_id u.1.toNat (by omega), show ((u.1.toNat : Nat) : Int) = u.1 by omega] at h0
    exact h0
  have loop : ∀ n i : Nat, i + n = ((σ.1 101 (c 2))).toNat → (nfold (gMove1 Λ c) (0, σ) i).1 = i → N_H_placeYoungInOrder_10 x P Λ (nfold (gMove1 Λ c) (0, σ) i).2 c ((σ.1 101 (c 2))) i := by
    intro n
    induction n with
    | zero =>
      intro i hi h1
      refine u_H_placeYoungInOrder_10 hx hL ⟨⟨by omega, by omega⟩, hw.rg _ _, fun _ => ?_, fun h => by omega⟩
      have f2 := fin
      unfold fMov1 at f2
      rw [show ((σ.1 101 (c 2))).toNat = i by omega, h1] at f2
      exact f2
    | succ n ih =>
      intro i hi h1
      have hs := hw.mov1 i
      have hT0 : ∃ t, (nfold (gMove1 Λ c) (0, σ) i).2.2.2 101 (c 3) i = some t := by
        obtain ⟨t', ht'⟩ := hw.yl i (by omega)
        exact ⟨t', ((mov_keep (Λ := Λ) (c := c) σ i).1 101 (c 3) i (by decide)).trans ht'⟩
      obtain ⟨t, ht⟩ := hT0
      have hT := hs.ty _ _ _ _ ht
      have e : gMove1 Λ c i (nfold (gMove1 Λ c) (0, σ) i) = if (fPlaceOld Λ c t (nfold (gMove1 Λ c) (0, σ) i).2).1 = 0 then ((nfold (gMove1 Λ c) (0, σ) i).1, (fPlaceOld Λ c t (nfold (gMove1 Λ c) (0, σ) i).2).2) else ((nfold (gMove1 Λ c) (0, σ) i).1 + 1, (fPlaceOld Λ c t (nfold (gMove1 Λ c) (0, σ) i).2).2) := by
        generalize nfold (gMove1 Λ c) (0, σ) i = u at h1 ht
        unfold gMove1
        rw [if_pos h1, ht]
      refine u_H_placeYoungInOrder_10 hx hL ⟨⟨by omega, by omega⟩, hw.rg _ _, fun h => by omega, fun _ => ⟨by omega, by omega, ?_⟩⟩
      have e3 : (nfold (gMove1 Λ c) (0, σ) i).2.2.2 101 (c 3) ((i : Int)).toNat = some t := ht
      rw [e3]
      refine c_H_placeAsOld hs hT ⟨?_, fun h0 => ?_, fun h0 => ?_⟩
      · unfold fPlaceOld
        split <;> exact ⟨by simp only; omega, by simp only; omega⟩
      · rw [if_pos h0] at e
        have f2 := fin
        have e4 : fMov1 Λ c σ = nfold (gMove1 Λ c) (0, σ) (i + 1) := by
          unfold fMov1
          refine nfold_stop (fun j hj => ?_) _ (by omega)
          refine gMove1_stop ?_
          rw [nfold_s, e]
          simp only
          omega
        rw [e4, nfold_s, e, h1] at f2
        exact f2
      · rw [if_neg h0] at e
        have h2 := ih (i + 1) (by omega) (by rw [nfold_s, e, h1]; rfl)
        rw [nfold_s, e] at h2
        exact h2
  exact loop ((σ.1 101 (c 2))).toNat 0 (by omega) rfl
theorem WF.gall1 (h : WF Λ c σ) : WF Λ c (gAll1 Λ c σ) := by
  unfold gAll1
  exact ((h.findAll.slide.1).unm).upT (by decide) (by decide) (by decide) rng_0
theorem WF.fall1 (h : WF Λ c σ) : WF Λ c (fAll1 Λ c σ).2 := by
  unfold fAll1
  exact WF.move (WF.letGo (WF.keep h.gall1))
theorem show_rng (s : Mem) : rng (fShow Λ c s) := by
  unfold fShow
  refine nfold_inv (fun _ (u : Int) => rng u) rng_0 64 (fun i u _ hu => ?_)
  split
  · exact rng_or _ _
  · exact hu
theorem WF.all (h : WF Λ c σ) : WF Λ c (fAll Λ c σ).2 := by
  have h2 : WF Λ c (gAll2 Λ c σ) := by unfold gAll2; exact h.fall1.upT (by decide) (by decide) (by decide) rng_0
  unfold fAll
  dsimp only
  exact h2.upT (by decide) (by decide) (by decide) (show_rng _)
theorem c_H_collectAll {P : Int → Mem → Prop} (hw : WF Λ c σ) (hp : P (fAll Λ c σ).1 (fAll Λ c σ).2) : K_H_collectAll l D Λ σ c P := by
  have h1 := hw.findAll
  have h2 := h1.slide.1
  have h3 := h2.unm
  have h4 : WF Λ c (gAll1 Λ c σ) := hw.gall1
  have h5 := h4.keep
  have h6 := h5.letGo
  have h7 := hw.fall1
  refine w_H_collectAll hw.ly (c_H_findReachable hw (c_O_slideReached h1 (c_O_unmarkAll h2 ?_)))
  unfold gAll1 at h4 h5 h6
  refine c_H_keepReachedYoung h4 (c_R_letGo h5.rowQ (by omega) h5.ty h5.rg h5.q0 h5.q1 h5.ql (c_H_placeYoungInOrder h6 ?_))
  unfold fAll gAll2 at hp
  dsimp only at hp
  unfold fAll1 gAll1 at hp h7
  generalize fMove Λ c (gLetGo (c 6) (c 7) (gKeep c (upI (gUnm c (gSlide Λ c (gFindAll Λ c σ))) 306 (c 0) 0))) = u at hp h7 ⊢
  exact c_O_cardsReferringToYoung (h7.upT (f := 305) (q := c 0) (v := 0) (by decide) (by decide) (by decide) rng_0) hp
-- the public methods
theorem ite01_rng {p : Prop} [Decidable p] : rng (if p then (1 : Int) else 0) := by
  split
  · exact ⟨by omega, by omega⟩
  · exact ⟨by omega, by omega⟩
theorem c_H_clear {a1 : Int} {P : Int → Mem → Prop} (hL : LayC Λ c) (ha : rng a1) (hp : P (fClear c a1 σ).1 (fClear c a1 σ).2) : K_H_clear l D Λ σ c a1 P := by
  refine w_H_clear hL (c_H_isRoot ha ?_)
  unfold fClear at hp
  by_cases e : 0 ≤ a1 ∧ a1 < 6
  · rw [if_pos e] at hp ⊢
    exact ⟨⟨by omega, by omega⟩, fun _ => ⟨e.1, e.2, hp⟩, fun h => absurd h (by decide)⟩
  · rw [if_neg e] at hp ⊢
    exact ⟨rng_0, fun h => absurd rfl h, fun _ => hp⟩
theorem c_H_copy {a1 a2 : Int} {P : Int → Mem → Prop} (hw : WF Λ c σ) (h1 : rng a1) (h2 : rng a2) (hp : P (fCopy c a1 a2 σ).1 (fCopy c a1 a2 σ).2) : K_H_copy l D Λ σ c a1 a2 P := by
  refine w_H_copy hw.ly (c_H_isRoot h1 ?_)
  unfold fCopy at hp
  by_cases e : 0 ≤ a1 ∧ a1 < 6
  · rw [if_pos e]
    refine ⟨⟨by omega, by omega⟩, fun h => absurd h (by decide), fun _ => c_H_isRoot h2 ?_⟩
    by_cases e2 : 0 ≤ a2 ∧ a2 < 6
    · rw [if_pos e2]
      rw [if_pos ⟨e, e2⟩] at hp
      exact ⟨⟨by omega, by omega⟩, fun _ => ⟨e2.1, e2.2, e.1, e.2, fun t ht => hw.ty _ _ _ _ ht, hp⟩, fun h => absurd h (by decide)⟩
    · rw [if_neg e2]
      rw [if_neg (fun z => e2 z.2)] at hp
      exact ⟨rng_0, fun h => absurd rfl h, fun _ => hp⟩
  · rw [if_neg e]
    rw [if_neg (fun z => e z.1)] at hp
    exact ⟨rng_0, fun _ => hp, fun h => absurd rfl h⟩
theorem c_H_load {a1 a2 a3 : Int} {P : Int → Mem → Prop} (hw : WF Λ c σ) (h1 : rng a1) (h2 : rng a2) (h3 : rng a3) (hp : P (fLoad Λ c a1 a2 a3 σ).1 (fLoad Λ c a1 a2 a3 σ).2) : K_H_load l D Λ σ c a1 a2 a3 P := by
  refine w_H_load hw.ly (c_H_isRoot h1 ?_)
  unfold fLoad at hp
  by_cases e : 0 ≤ a1 ∧ a1 < 6
  · rw [if_pos e]
    refine ⟨⟨by omega, by omega⟩, fun h => absurd h (by decide), fun _ => c_H_isRoot h2 ?_⟩
    by_cases e2 : 0 ≤ a2 ∧ a2 < 6
    · rw [if_pos e2]
      rw [if_pos ⟨e, e2⟩] at hp
      refine ⟨⟨by omega, by omega⟩, fun _ => ⟨e2.1, e2.2, fun h => ?_, fun t h => ⟨hw.ty _ _ _ _ h, c_T_hasField (hw.ty _ _ _ _ h) h3 ?_⟩⟩, fun h => absurd h (by decide)⟩
      · rw [h] at hp; exact hp
      · rw [h] at hp
        simp only at hp
        by_cases e3 : 0 ≤ a3 ∧ a3 < (nfL Λ t : Int)
        · rw [if_pos e3] at hp ⊢
          exact ⟨⟨by omega, by omega⟩, fun _ => ⟨e3.1, e3.2, e.1, e.2, fun t ht => hw.ty _ _ _ _ ht, hp⟩, fun h => absurd h (by decide)⟩
        · rw [if_neg e3] at hp ⊢
          exact ⟨rng_0, fun h => absurd rfl h, fun _ => hp⟩
    · rw [if_neg e2]
      rw [if_neg (fun z => e2 z.2)] at hp
      exact ⟨rng_0, fun h => absurd rfl h, fun _ => hp⟩
  · rw [if_neg e]
    rw [if_neg (fun z => e z.1)] at hp
    exact ⟨rng_0, fun _ => hp, fun h => absurd rfl h⟩
theorem c_H_store {a1 a2 a3 : Int} {P : Int → Mem → Prop} (hw : WF Λ c σ) (h1 : rng a1) (h2 : rng a2) (h3 : rng a3) (hp : P (fStore Λ c a1 a2 a3 σ).1 (fStore Λ c a1 a2 a3 σ).2) : K_H_store l D Λ σ c a1 a2 a3 P := by
  refine w_H_store hw.ly (c_H_isRoot h1 ?_)
  unfold fStore at hp
  by_cases e : 0 ≤ a1 ∧ a1 < 6
  · rw [if_pos e]
    refine ⟨⟨by omega, by omega⟩, fun h => absurd h (by decide), fun _ => c_H_isRoot h3 ?_⟩
    by_cases e2 : 0 ≤ a3 ∧ a3 < 6
    · rw [if_pos e2]
      rw [if_pos ⟨e, e2⟩] at hp
      refine ⟨⟨by omega, by omega⟩, fun _ => ⟨e.1, e.2, fun h => ?_, fun t h => ⟨hw.ty _ _ _ _ h, c_T_hasField (hw.ty _ _ _ _ h) h2 ?_⟩⟩, fun h => absurd h (by decide)⟩
      · rw [h] at hp; exact hp
      · rw [h] at hp
        simp only at hp
        by_cases e3 : 0 ≤ a2 ∧ a2 < (nfL Λ t : Int)
        · rw [if_pos e3] at hp ⊢
          have hT := hw.ty _ _ _ _ h
          refine ⟨⟨by omega, by omega⟩, fun _ => ⟨e2.1, e2.2, e3.1, e3.2, fun t ht => hw.ty _ _ _ _ ht, c_T_isOld hT (hw.rg _ _) ?_⟩, fun h => absurd h (by decide)⟩
          unfold gStore at hp
          by_cases e4 : 0 ≤ (σ.1 203 t)
          · rw [if_pos e4] at hp
            rw [if_pos (show 0 ≤ (upX σ 103 (faL Λ t) a2.toNat (σ.2.2 100 (c 1) a3.toNat)).1 203 t from e4)]
            refine ⟨⟨by omega, by omega⟩, fun h => absurd h (by decide), fun _ => c_H_cardOf ?_⟩
            rw [show ((a2.toNat : Nat) : Int) = a2 by omega] at hp
            exact hp
          · rw [if_neg e4] at hp
            rw [if_neg (show ¬ 0 ≤ (upX σ 103 (faL Λ t) a2.toNat (σ.2.2 100 (c 1) a3.toNat)).1 203 t from e4)]
            exact ⟨rng_0, fun _ => hp, fun h => absurd rfl h⟩
        · rw [if_neg e3] at hp ⊢
          exact ⟨rng_0, fun h => absurd rfl h, fun _ => hp⟩
    · rw [if_neg e2]
      rw [if_neg (fun z => e2 z.2)] at hp
      exact ⟨rng_0, fun h => absurd rfl h, fun _ => hp⟩
  · rw [if_neg e]
    rw [if_neg (fun z => e z.1)] at hp
    exact ⟨rng_0, fun _ => hp, fun h => absurd rfl h⟩
theorem c_H_payload {a1 : Int} {P : Int → Mem → Prop} (hw : WF Λ c σ) (h1 : rng a1) (hp : P (fPayload c a1 σ) σ) : K_H_payload l D Λ σ c a1 P := by
  refine w_H_payload hw.ly (c_H_thingOf hw.ly h1 ⟨fun h => ?_, fun t h => ⟨?_, ?_⟩⟩)
  · unfold fPayload at hp
    by_cases e : 0 ≤ a1 ∧ a1 < 6
    · rw [if_pos e] at hp h
      rw [h] at hp; exact hp
    · rw [if_neg e] at hp; exact hp
  · by_cases e : 0 ≤ a1 ∧ a1 < 6
    · rw [if_pos e] at h; exact hw.ty _ _ _ _ h
    · rw [if_neg e] at h; cases h
  · unfold fPayload at hp
    by_cases e : 0 ≤ a1 ∧ a1 < 6
    · rw [if_pos e] at hp h
      rw [h] at hp; exact hp
    · rw [if_neg e] at h; cases h
theorem c_H_same {a1 a2 : Int} {P : Int → Mem → Prop} (hL : LayC Λ c) (h1 : rng a1) (h2 : rng a2) (hp : P (fSame c a1 a2 σ) σ) : K_H_same l D Λ σ c a1 a2 P := by
  refine w_H_same hL (c_H_isRoot h1 ?_)
  unfold fSame at hp
  by_cases e : 0 ≤ a1 ∧ a1 < 6
  · rw [if_pos e]
    refine ⟨⟨by omega, by omega⟩, fun h => absurd h (by decide), fun _ => c_H_isRoot h2 ?_⟩
    by_cases e2 : 0 ≤ a2 ∧ a2 < 6
    · rw [if_pos e2]
      refine ⟨⟨by omega, by omega⟩, fun h => absurd h (by decide), fun _ => ⟨e.1, e.2, e2.1, e2.2, fun h => ?_, fun h => ?_⟩⟩
      · rw [if_neg (fun z => h z.2)] at hp; exact hp
      · rw [if_pos ⟨⟨e, e2⟩, h⟩] at hp; exact hp
    · rw [if_neg e2]
      rw [if_neg (fun z => e2 z.1.2)] at hp
      exact ⟨rng_0, fun _ => hp, fun h => absurd rfl h⟩
  · rw [if_neg e]
    rw [if_neg (fun z => e z.1.1)] at hp
    exact ⟨rng_0, fun _ => hp, fun h => absurd rfl h⟩
theorem c_H_address {a1 : Int} {P : Int → Mem → Prop} (hw : WF Λ c σ) (h1 : rng a1) (hp : P (fAddress c a1 σ) σ) : K_H_address l D Λ σ c a1 P := by
  refine w_H_address hw.ly (c_H_isRoot h1 ?_)
  unfold fAddress at hp
  by_cases e : 0 ≤ a1 ∧ a1 < 6
  · rw [if_pos e] at hp ⊢
    refine ⟨⟨by omega, by omega⟩, fun _ => ⟨e.1, e.2, fun h => ?_, fun t h => ⟨hw.ty _ _ _ _ h, c_T_isOld (hw.ty _ _ _ _ h) (hw.rg _ _) ?_⟩⟩, fun h => absurd h (by decide)⟩
    · rw [h] at hp; exact hp
    · rw [h] at hp
      simp only at hp
      by_cases e2 : 0 ≤ (σ.1 203 t)
      · rw [if_pos e2] at hp ⊢
        exact ⟨⟨by omega, by omega⟩, fun h => absurd h (by decide), fun _ => hp⟩
      · rw [if_neg e2] at hp ⊢
        exact ⟨rng_0, fun _ => hp, fun h => absurd rfl h⟩
  · rw [if_neg e] at hp ⊢
    exact ⟨rng_0, fun h => absurd rfl h, fun _ => hp⟩
theorem c_H_age {a1 : Int} {P : Int → Mem → Prop} (hw : WF Λ c σ) (h1 : rng a1) (hp : P (fAgeOf c a1 σ) σ) : K_H_age l D Λ σ c a1 P := by
  refine w_H_age hw.ly (c_H_isRoot h1 ?_)
  unfold fAgeOf at hp
  by_cases e : 0 ≤ a1 ∧ a1 < 6
  · rw [if_pos e] at hp ⊢
    refine ⟨⟨by omega, by omega⟩, fun _ => ⟨e.1, e.2, fun h => ?_, fun t h => ⟨hw.ty _ _ _ _ h, c_T_isYoung (hw.ty _ _ _ _ h) (hw.rg _ _) ?_⟩⟩, fun h => absurd h (by decide)⟩
    · rw [h] at hp; exact hp
    · rw [h] at hp
      simp only at hp
      by_cases e2 : (σ.1 203 t) = -1
      · rw [if_pos e2] at hp ⊢
        exact ⟨⟨by omega, by omega⟩, fun h => absurd h (by decide), fun _ => hp⟩
      · rw [if_neg e2] at hp ⊢
        exact ⟨rng_0, fun _ => hp, fun h => absurd rfl h⟩
  · rw [if_neg e] at hp ⊢
    exact ⟨rng_0, fun h => absurd rfl h, fun _ => hp⟩
theorem c_H_collect {a1 : Int} {P : Int → Mem → Prop} (hw : WF Λ c σ) (h1 : rng a1) (hp : P (if a1 = 0 then fYoung Λ c σ else fAll Λ c σ).1 (if a1 = 0 then fYoung Λ c σ else fAll Λ c σ).2) : K_H_collect l D Λ σ c a1 P := by
  refine w_H_collect hw.ly ⟨h1, fun h => c_H_collectYoung hw ?_, fun h => c_H_collectAll hw ?_⟩
  · rw [if_pos h] at hp; exact hp
  · rw [if_neg h] at hp; exact hp
theorem c_H_begin {P : Int → Mem → Prop} (hw : WF Λ c σ) (hp : P (fBegin c σ).1 (fBegin c σ).2) : K_H_begin l D Λ σ c P := by
  unfold fBegin at hp
  refine w_H_begin hw.ly ⟨hw.rg _ _, fun h => c_H_shadeFromRoots ((hw.upT (f := 306) (q := c 0) (v := 1) (by decide) (by decide) (by decide) ⟨by omega, by omega⟩).upT (f := 305) (q := c 0) (v := 0) (by decide) (by decide) (by decide) rng_0) ?_, fun h => ?_⟩
  · rw [if_pos h] at hp; exact hp
  · rw [if_neg h] at hp; exact hp
theorem c_H_mark {P : Int → Mem → Prop} (hw : WF Λ c σ) (hp : P (fMark Λ c σ).1 (fMark Λ c σ).2) : K_H_mark l D Λ σ c P := by
  unfold fMark at hp
  refine w_H_mark hw.ly ⟨hw.rg _ _, fun h => c_O_firstGrey hw.ly hw.ty hw.rg ⟨fun h2 => ?_, fun t h2 => c_H_scan hw (hw.greyT t h2) ⟨hw.greyT t h2, ?_⟩⟩, fun h => ?_⟩
  · rw [if_pos h, h2] at hp; exact hp
  · rw [if_pos h, h2] at hp; exact hp
  · rw [if_neg h] at hp; exact hp
theorem c_H_preclean {P : Int → Mem → Prop} (hw : WF Λ c σ) (hp : P (fPre c σ).1 (fPre c σ).2) : K_H_preclean l D Λ σ c P := by
  refine e_H_preclean (fun x hl hD hx => ?_)
  subst hl; subst hD
  have hL := hw.ly
  unfold fPre at hp
  refine u_H_preclean_0 hx hL ⟨hw.rg _ _, fun h => ?_, fun h => by rw [if_neg h] at hp; exact hp⟩
  rw [if_pos h] at hp
  have loop : ∀ n i : Nat, i + n = 8 → (∀ j : Nat, j < i → iAnd ((σ.1 305 (c 0))) (iShl 1 j) = 0) → N_H_preclean_13 x P Λ σ c i := by
    intro n
    induction n with
    | zero =>
      intro i hi hb
      refine u_H_preclean_13 hx hL ⟨⟨by omega, by omega⟩, fun _ => ?_, fun h => absurd h (by omega)⟩
      rw [fnd_none (p := fun i => decide (iAnd ((σ.1 305 (c 0))) (iShl 1 (i : Nat)) ≠ 0)) (fun j hj => decide_eq_false (fun z => z (hb j (by omega))))] at hp
      exact hp
    | succ n ih =>
      intro i hi hb
      refine u_H_preclean_13 hx hL ⟨⟨by omega, by omega⟩, fun h => absurd h (by omega), fun _ => ⟨fun h0 => ?_, fun h0 => c_O_greyMarkedOn (hw.upT (f := 305) (q := c 0) (by decide) (by decide) (by decide) (rng_and _ _)) ?_⟩⟩
      · exact ih (i + 1) (by omega) (fun j hj => by
          by_cases e : j = i
          · rw [e]; exact h0
          · exact hb j (by omega))
      · rw [fnd_some (p := fun i => decide (iAnd ((σ.1 305 (c 0))) (iShl 1 (i : Nat)) ≠ 0)) (i := i) (decide_eq_true h0) (fun j hj => decide_eq_false (fun z => z (hb j hj))) (by omega)] at hp
        dsimp only at hp
        exact hp
  exact loop 8 0 rfl (fun j hj => by omega)
theorem rmk1_wf (hw : WF Λ c σ) : WF Λ c (rmk1 c σ).2 := shadeR_wf (hw.greyOn _)
theorem rmk2_wf (hw : WF Λ c σ) : WF Λ c (rmk2 Λ c σ).2 := shadeY_wf (rmk1_wf hw)
theorem rmk3_wf (hw : WF Λ c σ) : WF Λ c (rmk3 Λ c σ).2 := scanAll_wf (rmk2_wf hw)
theorem c_H_remark {P : Int → Mem → Prop} (hw : WF Λ c σ) (hp : P (fRemark Λ c σ).1 (fRemark Λ c σ).2) : K_H_remark l D Λ σ c P := by
  unfold fRemark at hp
  refine w_H_remark hw.ly ⟨hw.rg _ _, fun h => c_O_greyMarkedOn hw (c_H_shadeFromRoots (hw.greyOn _) ?_), fun h => by rw [if_neg h] at hp; exact hp⟩
  rw [if_pos h] at hp
  have h1 := rmk1_wf hw
  have h2 := rmk2_wf hw
  unfold rmk3 rmk2 at hp
  unfold rmk2 at h2
  have e1 : fShadeR c (gGrey c (iOr ((σ.1 304 (c 0))) ((σ.1 305 (c 0)))) σ) = rmk1 c σ := rfl
  rw [e1]
  generalize rmk1 c σ = u1 at hp h1 h2 ⊢
  refine c_H_shadeFromYoung h1 ?_
  generalize fShadeY Λ c u1.2 = u2 at hp h2 ⊢
  exact c_H_scanAllGrey h2 hp
theorem c_H_sweep {P : Int → Mem → Prop} (hw : WF Λ c σ) (hs : 0 ≤ (σ.1 307 (c 0)) ∧ (σ.1 307 (c 0)) ≤ 64) (hp : P (fSweep Λ c σ).1 (fSweep Λ c σ).2) : K_H_sweep l D Λ σ c P := by
  unfold fSweep at hp
  refine w_H_sweep hw.ly ⟨hw.rg _ _, fun h => c_O_firstFrom hw.ly hw.ty hw.rg hs ⟨fun h2 => c_O_unmarkAll (hw.upT (f := 306) (q := c 0) (v := 0) (by decide) (by decide) (by decide) rng_0) ?_, fun t h2 => ?_⟩, fun h => by rw [if_neg h] at hp; exact hp⟩
  · rw [if_pos h, h2] at hp
    dsimp only at hp
    exact hp
  · rw [if_pos h, h2] at hp
    simp only at hp
    have hT : isT Λ t := by
      unfold fFrom at h2
      split at h2
      · cases h2
      · exact hw.atT _ t h2
    have hz := szI_le hT
    have hab := hw.ab t hT
    have hw1 : WF Λ c (upI σ 307 (c 0) ((σ.1 203 t) + szI Λ t)) := hw.upT (f := 307) (q := c 0) (by decide) (by decide) (by decide) ⟨by omega, by omega⟩
    refine ⟨hT, c_T_size hT ⟨hw1.rg _ _, fun h0 => c_O_takeOut hw.ly hT (hw1.ab t hT) (c_T_becomeGone hT ?_), fun h0 => ?_⟩⟩
    · rw [if_pos (show (σ.1 204 t) = 0 from h0)] at hp; exact hp
    · rw [if_neg (show ¬ (σ.1 204 t) = 0 from h0)] at hp; exact hp
theorem c_H_phase {P : Int → Mem → Prop} (hL : LayC Λ c) (hp : P ((σ.1 306 (c 0))) σ) : K_H_phase l D Λ σ c P := w_H_phase hL hp
theorem c_H_oldCells {P : Int → Mem → Prop} (hL : LayC Λ c) (hp : P (fOldCells c σ) σ) : K_H_oldCells l D Λ σ c P := w_H_oldCells hL (c_O_cellsTaken hL hp)
theorem c_H_youngCells {P : Int → Mem → Prop} (hw : WF Λ c σ) (hp : P (fTaken Λ (c 2) (c 3) σ) σ) : K_H_youngCells l D Λ σ c P := w_H_youngCells hw.ly (c_R_cellsTaken hw.rowY (by omega) hw.ty hw.rg hw.y0 hw.y1 hw.yl hp)
theorem c_H_cards {P : Int → Mem → Prop} (hL : LayC Λ c) (hp : P (fCardsV c σ) σ) : K_H_cards l D Λ σ c P := w_H_cards hL hp
theorem c_H_marked {P : Int → Mem → Prop} (hw : WF Λ c σ) (hp : P (fMarked c σ) σ) : K_H_marked l D Λ σ c P := by
  refine e_H_marked (fun x hl hD hx => ?_)
  subst hl; subst hD
  have hL := hw.ly
  refine u_H_marked_0 hx hL ?_
  have loop : ∀ n i : Nat, i + n = 64 → N_H_marked_4 x P Λ σ c (sumN (fMkAt c σ) i) i := by
    intro n
    induction n with
    | zero =>
      intro i hi
      refine u_H_marked_4 hx hL ⟨⟨by omega, by omega⟩, fun _ => ?_, fun h => absurd h (by omega)⟩
      rw [show i = 64 by omega]
      exact hp
    | succ n ih =>
      intro i hi
      have h2 := ih (i + 1) (by omega)
      unfold sumN at h2
      refine u_H_marked_4 hx hL ⟨⟨by omega, by omega⟩, fun h => absurd h (by omega), fun _ => c_O_thingAt hL hw.ty hw.rg (by omega) ⟨fun h => ?_, fun t h => ⟨hw.atT i t h, hw.rg _ _, fun h0 => ?_, fun h0 => ⟨hw.rg _ _, fun h1 => ?_, fun h1 => ?_⟩⟩⟩⟩
      · have e : fMkAt c σ i = 0 := by unfold fMkAt; rw [h]
        rw [e, Int.add_zero] at h2; exact h2
      · have e : fMkAt c σ i = 0 := by unfold fMkAt; rw [h]; exact if_pos h0
        rw [e, Int.add_zero] at h2; exact h2
      · have e : fMkAt c σ i = 1 := by unfold fMkAt; rw [h]; simp only [if_neg h0, if_pos h1]
        rw [e] at h2; exact h2
      · have e : fMkAt c σ i = 1001 := by unfold fMkAt; rw [h]; simp only [if_neg h0, if_neg h1]
        rw [e] at h2; exact h2
  exact loop 64 0 rfl
end CH3
