/-! The rest of the full collection. -/
section FU2
variable {Λ : Lam} {c : Nat → Nat} {s : Mem}
theorem unm_is (c : Nat → Nat) (s : Mem) : (gUnm c s).2 = s.2 ∧ (∀ f q, f ≠ 204 → f ≠ 205 → (gUnm c s).1 f q = s.1 f q) ∧ (∀ t, (∃ a : Nat, a < 64 ∧ (s.2.2 102 (c 5) a) = some t) → ((gUnm c s).1 204 t) = 0 ∧ ((gUnm c s).1 205 t) = 0) ∧ (∀ t, ¬ (∃ a : Nat, a < 64 ∧ (s.2.2 102 (c 5) a) = some t) → ((gUnm c s).1 204 t) = (s.1 204 t) ∧ ((gUnm c s).1 205 t) = (s.1 205 t)) := by
  unfold gUnm
  refine nfold_inv (fun n (s' : Mem) => s'.2 = s.2 ∧ (∀ f q, f ≠ 204 → f ≠ 205 → s'.1 f q = s.1 f q) ∧ (∀ t, (∃ a : Nat, a < n ∧ (s.2.2 102 (c 5) a) = some t) → (s'.1 204 t) = 0 ∧ (s'.1 205 t) = 0) ∧ (∀ t, ¬ (∃ a : Nat, a < n ∧ (s.2.2 102 (c 5) a) = some t) → (s'.1 204 t) = (s.1 204 t) ∧ (s'.1 205 t) = (s.1 205 t))) ⟨rfl, fun _ _ _ _ => rfl, fun t ⟨a, ha, _⟩ => by omega, fun _ _ => ⟨rfl, rfl⟩⟩ 64 (fun n s' hn hs => ?_)
  obtain ⟨h1, h2, h3, h4⟩ := hs
  have e1 : (s'.2.2 102 (c 5) n) = (s.2.2 102 (c 5) n) := by rw [h1]
  cases hx : (s.2.2 102 (c 5) n) with
  | none =>
    have e : gUnm1 c n s' = s' := by unfold gUnm1; rw [e1, hx]
    rw [e]
    refine ⟨h1, h2, fun t ⟨a, ha, ea⟩ => h3 t ⟨a, ?_, ea⟩, fun t hn => h4 t (fun ⟨a, ha, ea⟩ => hn ⟨a, by omega, ea⟩)⟩
    by_cases z : a = n
    · rw [z, hx] at ea; cases ea
    · omega
  | some w =>
    have e : gUnm1 c n s' = upI (upI s' 204 w 0) 205 w 0 := by unfold gUnm1; rw [e1, hx]
    rw [e]
    have eM : ∀ t, (upI (upI s' 204 w 0) 205 w 0).1 204 t = if t = w then 0 else (s'.1 204 t) := by
      intro t
      rw [upI_ne (by decide), upI_1]
      by_cases z : t = w
      · rw [if_pos ⟨rfl, z⟩, if_pos z]
      · rw [if_neg (fun y => z y.2), if_neg z]
    have eG : ∀ t, (upI (upI s' 204 w 0) 205 w 0).1 205 t = if t = w then 0 else (s'.1 205 t) := by
      intro t
      rw [upI_1]
      by_cases z : t = w
      · rw [if_pos ⟨rfl, z⟩, if_pos z]
      · rw [if_neg (fun y => z y.2), if_neg z, upI_ne (by decide)]
    refine ⟨h1, fun f q f1 f2 => by rw [upI_ne f2, upI_ne f1]; exact h2 f q f1 f2, fun t ⟨a, ha, ea⟩ => ?_, fun t hnn => ?_⟩
    · rw [eM, eG]
      by_cases z : t = w
      · rw [if_pos z, if_pos z]; exact ⟨rfl, rfl⟩
      · rw [if_neg z, if_neg z]
        refine h3 t ⟨a, ?_, ea⟩
        by_cases y : a = n
        · rw [y, hx] at ea; cases ea; exact absurd rfl z
        · omega
    · have z : t ≠ w := fun z => hnn ⟨n, by omega, by rw [hx, z]⟩
      rw [eM, eG, if_neg z, if_neg z]
      exact h4 t (fun ⟨a, ha, ea⟩ => hnn ⟨a, by omega, ea⟩)
theorem keep_is (hw : WF Λ c s) (hd : ∀ i j : Nat, (i : Int) < (s.1 101 (c 2)) → (j : Int) < (s.1 101 (c 2)) → s.2.2 101 (c 3) i = s.2.2 101 (c 3) j → i = j) :
    (∀ f q, f ≠ 203 → ¬ (f = 101 ∧ q = c 2) → (gKeep c s).1 f q = s.1 f q) ∧
    (∀ t, ((gKeep c s).1 203 t) = ((gDrop c s).1 203 t)) ∧
    (∀ kd q k, ¬ (kd = 101 ∧ q = c 3) → (gKeep c s).2.2 kd q k = s.2.2 kd q k) ∧
    (∀ t, (∃ i : Nat, (i : Int) < ((gKeep c s).1 101 (c 2)) ∧ (gKeep c s).2.2 101 (c 3) i = some t) ↔ ((∃ j : Nat, (j : Int) < (s.1 101 (c 2)) ∧ s.2.2 101 (c 3) j = some t) ∧ (s.1 206 t) ≠ 0)) ∧
    (∀ i j : Nat, (i : Int) < ((gKeep c s).1 101 (c 2)) → (j : Int) < ((gKeep c s).1 101 (c 2)) → (gKeep c s).2.2 101 (c 3) i = (gKeep c s).2.2 101 (c 3) j → i = j) := by
  have y0 := hw.y0
  have y1 := hw.y1
  obtain ⟨k1, k2⟩ := drop_keep' c s
  have hwd := hw.drop
  unfold gKeep
  have ec : ((gDrop c s).1 101 (c 2)) = (s.1 101 (c 2)) := k2 _ _ (by decide)
  rw [ec]
  generalize gDrop c s = s0 at *
  have key : ∀ n : Nat, (n : Int) ≤ (s.1 101 (c 2)) → (∀ f q, ¬ (f = 101 ∧ q = c 2) → (nfold (gKeep1 c) (upI s0 101 (c 2) 0) n).1 f q = s0.1 f q) ∧
      (∀ kd q k, ¬ (kd = 101 ∧ q = c 3) → (nfold (gKeep1 c) (upI s0 101 (c 2) 0) n).2.2 kd q k = s.2.2 kd q k) ∧
      (0 ≤ ((nfold (gKeep1 c) (upI s0 101 (c 2) 0) n).1 101 (c 2)) ∧ ((nfold (gKeep1 c) (upI s0 101 (c 2) 0) n).1 101 (c 2)) ≤ n) ∧
      (∀ k, n ≤ k → (nfold (gKeep1 c) (upI s0 101 (c 2) 0) n).2.2 101 (c 3) k = s.2.2 101 (c 3) k) ∧
      (∀ t, (∃ i : Nat, (i : Int) < ((nfold (gKeep1 c) (upI s0 101 (c 2) 0) n).1 101 (c 2)) ∧ (nfold (gKeep1 c) (upI s0 101 (c 2) 0) n).2.2 101 (c 3) i = some t) ↔ ((∃ j : Nat, j < n ∧ s.2.2 101 (c 3) j = some t) ∧ (s.1 206 t) ≠ 0)) ∧
      (∀ i j : Nat, (i : Int) < ((nfold (gKeep1 c) (upI s0 101 (c 2) 0) n).1 101 (c 2)) → (j : Int) < ((nfold (gKeep1 c) (upI s0 101 (c 2) 0) n).1 101 (c 2)) → (nfold (gKeep1 c) (upI s0 101 (c 2) 0) n).2.2 101 (c 3) i = (nfold (gKeep1 c) (upI s0 101 (c 2) 0) n).2.2 101 (c 3) j → i = j) ∧
      (∀ i : Nat, (i : Int) < ((nfold (gKeep1 c) (upI s0 101 (c 2) 0) n).1 101 (c 2)) → ∃ t, (nfold (gKeep1 c) (upI s0 101 (c 2) 0) n).2.2 101 (c 3) i = some t) := by
    intro n
    induction n with
    | zero =>
      intro _
      have e0 : ((nfold (gKeep1 c) (upI s0 101 (c 2) 0) 0).1 101 (c 2)) = 0 := upI_at
      refine ⟨fun f q h => ?_, fun kd q k _ => ?_, by omega, fun k _ => ?_, fun t => ?_, fun i j hi => by omega, fun i hi => by omega⟩
      · show (upI s0 101 (c 2) 0).1 f q = _
        rw [upI_1, if_neg h]
      · show s0.2.2 kd q k = _
        rw [k1]
      · show s0.2.2 101 (c 3) k = _
        rw [k1]
      · constructor
        · rintro ⟨i, hi, _⟩; omega
        · rintro ⟨⟨j, hj, _⟩, _⟩; omega
    | succ n ih =>
      intro hn
      obtain ⟨a1, a2, a3, a7, a4, a5, a6⟩ := ih (by omega)
      rw [nfold_s]
      obtain ⟨w, hw7⟩ := hw.yl n (by omega)
      have e7 : (nfold (gKeep1 c) (upI s0 101 (c 2) 0) n).2.2 101 (c 3) n = some w := (a7 n (Nat.le_refl _)).trans hw7
      have eR : (nfold (gKeep1 c) (upI s0 101 (c 2) 0) n).1 206 w = (s.1 206 w) := (a1 _ _ (by omega)).trans (k2 _ _ (by decide))
      generalize nfold (gKeep1 c) (upI s0 101 (c 2) 0) n = u at a1 a2 a3 a4 a5 a6 a7 e7 eR
      by_cases hy : (s.1 206 w) ≠ 0
      · have e : gKeep1 c n u = gAdd (c 2) (c 3) (some w) u := by
          unfold gKeep1
          rw [e7]
          simp only
          rw [if_pos (fun z => hy (eR.symm.trans z))]
          unfold fAdd
          rw [if_neg (by omega)]
        rw [e]
        have eC : (gAdd (c 2) (c 3) (some w) u).1 101 (c 2) = (u.1 101 (c 2)) + 1 := by unfold gAdd; rw [upI_at]
        have eX : ∀ kd q k, (gAdd (c 2) (c 3) (some w) u).2.2 kd q k = if kd = 101 ∧ q = c 3 ∧ k = ((u.1 101 (c 2))).toNat then some w else u.2.2 kd q k := fun kd q k => rfl
        have nw : ∀ i : Nat, (i : Int) < (u.1 101 (c 2)) → u.2.2 101 (c 3) i ≠ some w := by
          intro i hi hx
          obtain ⟨⟨j, hj, ej⟩, _⟩ := (a4 w).mp ⟨i, hi, hx⟩
          have := hd j n (by omega) (by omega) (ej.trans hw7.symm)
          omega
        refine ⟨fun f q h => ?_, fun kd q k h => ?_, ?_, fun k hk => ?_, fun t => ?_, fun i j hi hj => ?_, fun i hi => ?_⟩
        · unfold gAdd
          rw [upI_1, if_neg h]
          exact a1 f q h
        · rw [eX, if_neg (fun z => h ⟨z.1, z.2.1⟩)]
          exact a2 kd q k h
        · rw [eC]; omega
        · rw [eX, if_neg (by omega)]
          exact a7 k (by omega)
        · rw [eC]
          constructor
          · rintro ⟨i, hi, hx⟩
            rw [eX] at hx
            split at hx
            · cases hx
              exact ⟨⟨n, by omega, hw7⟩, hy⟩
            · rename_i hne
              have : i ≠ ((u.1 101 (c 2))).toNat := fun z => hne ⟨rfl, rfl, z⟩
              obtain ⟨⟨j, hj, ej⟩, hy2⟩ := (a4 t).mp ⟨i, by omega, hx⟩
              exact ⟨⟨j, by omega, ej⟩, hy2⟩
          · rintro ⟨⟨j, hj, ej⟩, hy2⟩
            by_cases ejn : j = n
            · rw [ejn, hw7] at ej
              cases ej
              exact ⟨((u.1 101 (c 2))).toNat, by omega, by rw [eX, if_pos ⟨rfl, rfl, rfl⟩]⟩
            · obtain ⟨i, hi, hx⟩ := (a4 t).mpr ⟨⟨j, by omega, ej⟩, hy2⟩
              exact ⟨i, by omega, by rw [eX, if_neg (by omega)]; exact hx⟩
        · rw [eC] at hi hj
          rw [eX, eX]
          by_cases ei : i = ((u.1 101 (c 2))).toNat
          · by_cases ej : j = ((u.1 101 (c 2))).toNat
            · intro _; omega
            · rw [if_pos ⟨rfl, rfl, ei⟩, if_neg (fun z => ej z.2.2)]
              intro z
              exact absurd z.symm (nw j (by omega))
          · by_cases ej : j = ((u.1 101 (c 2))).toNat
            · rw [if_neg (fun z => ei z.2.2), if_pos ⟨rfl, rfl, ej⟩]
              intro z
              exact absurd z (nw i (by omega))
            · rw [if_neg (fun z => ei z.2.2), if_neg (fun z => ej z.2.2)]
              exact a5 i j (by omega) (by omega)
        · rw [eC] at hi
          rw [eX]
          by_cases ei : i = ((u.1 101 (c 2))).toNat
          · rw [if_pos ⟨rfl, rfl, ei⟩]; exact ⟨w, rfl⟩
          · rw [if_neg (fun z => ei z.2.2)]; exact a6 i (by omega)
      · have hz : (s.1 206 w) = 0 := by
          by_cases x : (s.1 206 w) = 0
          · exact x
          · exact absurd x hy
        have e : gKeep1 c n u = u := by
          unfold gKeep1
          rw [e7]
          simp only
          rw [if_neg (fun z => z (eR.trans hz))]
        rw [e]
        refine ⟨a1, a2, by omega, fun k hk => a7 k (by omega), fun t => ?_, a5, a6⟩
        rw [a4 t]
        constructor
        · rintro ⟨⟨j, hj, ej⟩, hy2⟩; exact ⟨⟨j, by omega, ej⟩, hy2⟩
        · rintro ⟨⟨j, hj, ej⟩, hy2⟩
          refine ⟨⟨j, ?_, ej⟩, hy2⟩
          by_cases ejn : j = n
          · rw [ejn, hw7] at ej; cases ej; exact absurd hz hy2
          · omega
  obtain ⟨a1, a2, a3, a7, a4, a5, a6⟩ := key ((s.1 101 (c 2))).toNat (by omega)
  refine ⟨fun f q h1 h2 => (a1 f q h2).trans (k2 f q h1), fun t => a1 _ _ (by omega), a2, fun t => ?_, a5⟩
  rw [a4 t]
  constructor
  · rintro ⟨⟨j, hj, ej⟩, hy2⟩; exact ⟨⟨j, by omega, ej⟩, hy2⟩
  · rintro ⟨⟨j, hj, ej⟩, hy2⟩; exact ⟨⟨j, by omega, ej⟩, hy2⟩
-- moving the young over
theorem move_is (g : GB Λ c s) (hyl : YL Λ c s) (hp : (s.1 306 (c 0)) = 0) : GB Λ c (fMove Λ c s).2 ∧ 0 ≤ (fMove Λ c s).1 ∧ (fMove Λ c s).1 ≤ (s.1 101 (c 2)) ∧
    (∀ t, isT Λ t → (s.1 203 t) ≠ -1 → ((fMove Λ c s).2.1 203 t) = (s.1 203 t) ∧ ((fMove Λ c s).2.1 204 t) = (s.1 204 t)) ∧
    (∀ (j t : Nat), (j : Int) < (fMove Λ c s).1 → s.2.2 101 (c 3) j = some t → 0 ≤ ((fMove Λ c s).2.1 203 t) ∧ ((fMove Λ c s).2.1 204 t) = 0) ∧
    (∀ (j t : Nat), (fMove Λ c s).1 ≤ (j : Int) → (j : Int) < (s.1 101 (c 2)) → s.2.2 101 (c 3) j = some t → ((fMove Λ c s).2.1 203 t) = -1) ∧
    (∀ f q, f ≠ 203 → f ≠ 204 → f ≠ 304 → ¬ (f = 101 ∧ q = c 2) → (fMove Λ c s).2.1 f q = s.1 f q) ∧
    (∀ kd q k, kd ≠ 102 → ¬ (kd = 101 ∧ q = c 3) → (fMove Λ c s).2.2.2 kd q k = s.2.2 kd q k) ∧
    (((fMove Λ c s).2.1 101 (c 2)) = (s.1 101 (c 2)) - (fMove Λ c s).1) ∧
    (∀ i : Nat, (i : Int) < (s.1 101 (c 2)) - (fMove Λ c s).1 → (fMove Λ c s).2.2.2 101 (c 3) i = s.2.2 101 (c 3) (i + (fMove Λ c s).1.toNat)) := by
  have y0 := g.wf.y0
  have y1 := g.wf.y1
  have inlist : ∀ j : Nat, (j : Int) < (s.1 101 (c 2)) → ∃ t, s.2.2 101 (c 3) j = some t ∧ isT Λ t ∧ (s.1 203 t) = -1 := by
    intro j hj
    obtain ⟨t, ht⟩ := g.wf.yl j hj
    have hT := g.wf.ty _ _ _ _ ht
    exact ⟨t, ht, hT, (hyl.1 t hT).mpr ⟨j, hj, ht⟩⟩
  -- up to n: either all of the first n went, or it stopped
  have key : ∀ n : Nat, (n : Int) ≤ (s.1 101 (c 2)) → GB Λ c (nfold (gMove1 Λ c) (0, s) n).2 ∧ 0 ≤ (nfold (gMove1 Λ c) (0, s) n).1 ∧ (nfold (gMove1 Λ c) (0, s) n).1 ≤ n ∧
      (∀ t, isT Λ t → (s.1 203 t) ≠ -1 → ((nfold (gMove1 Λ c) (0, s) n).2.1 203 t) = (s.1 203 t) ∧ ((nfold (gMove1 Λ c) (0, s) n).2.1 204 t) = (s.1 204 t)) ∧
      (∀ (j t : Nat), (j : Int) < (nfold (gMove1 Λ c) (0, s) n).1 → s.2.2 101 (c 3) j = some t → 0 ≤ ((nfold (gMove1 Λ c) (0, s) n).2.1 203 t) ∧ ((nfold (gMove1 Λ c) (0, s) n).2.1 204 t) = 0) ∧
      (∀ (j t : Nat), (nfold (gMove1 Λ c) (0, s) n).1 ≤ (j : Int) → (j : Int) < (s.1 101 (c 2)) → s.2.2 101 (c 3) j = some t → ((nfold (gMove1 Λ c) (0, s) n).2.1 203 t) = -1) := by
    intro n
    induction n with
    | zero =>
      intro _
      refine ⟨g, by show (0 : Int) ≤ 0; omega, by show (0 : Int) ≤ 0; omega, fun _ _ _ => ⟨rfl, rfl⟩, fun j t hj => ?_, fun j t _ hj ht => ?_⟩
      · have : (j : Int) < 0 := hj
        omega
      · obtain ⟨t', ht', _, ha⟩ := inlist j hj
        rw [ht] at ht'
        cases ht'
        exact ha
    | succ n ih =>
      intro hn
      obtain ⟨b1, b2, b3, b4, b5, b6⟩ := ih (by omega)
      have mk1 := mov_keep (Λ := Λ) (c := c) s n
      rw [nfold_s]
      obtain ⟨w, hw, hT, hwa⟩ := inlist n (by omega)
      have e7 : (nfold (gMove1 Λ c) (0, s) n).2.2.2 101 (c 3) n = some w := (mk1.1 _ _ _ (by decide)).trans hw
      have eph : (nfold (gMove1 Λ c) (0, s) n).2.1 306 (c 0) = 0 := (mk1.2 _ _ (by decide) (by decide) (by decide)).trans hp
      generalize nfold (gMove1 Λ c) (0, s) n = u at *
      by_cases hgo : u.1 = (n : Int)
      · have haw : (u.2.1 203 w) = -1 := b6 n w (by omega) (by omega) hw
        by_cases hpl : fPlace c u.2 (szI Λ w) = -1
        · have e : gMove1 Λ c n u = (u.1, u.2) := by
            unfold gMove1
            rw [if_pos hgo, e7]
            simp only
            rw [placeOld_no hpl]
            simp
          rw [e]
          exact ⟨b1, b2, by simp only; omega, b4, b5, b6⟩
        · obtain ⟨o1, oA, oM, oD, oO, oC, oX⟩ := placeOld_is hpl
          have e : gMove1 Λ c n u = (u.1 + 1, (fPlaceOld Λ c w u.2).2) := by
            unfold gMove1
            rw [if_pos hgo, e7]
            simp only
            rw [if_neg (by rw [o1]; decide)]
          have hz := szI_le hT
          obtain ⟨p0, p1, pf⟩ := place_ok u.2 hz.1 hpl
          have gb2 := b1.placeOld hT haw
          rw [e]
          generalize (fPlaceOld Λ c w u.2).2 = s2 at *
          refine ⟨gb2, by simp only; omega, by simp only; omega, fun t ht hn2 => ?_, fun j t hj ht => ?_, fun j t hj hj2 ht => ?_⟩
          · have ne : t ≠ w := fun ew => hn2 (by rw [ew]; exact hwa)
            rw [oA, oM, if_neg ne, if_neg ne]
            exact b4 t ht hn2
          · simp only at hj ⊢
            rw [oA, oM]
            by_cases ew : t = w
            · rw [if_pos ew, if_pos ew, if_pos eph]; exact ⟨p0, rfl⟩
            · rw [if_neg ew, if_neg ew]
              refine b5 j t ?_ ht
              have : j ≠ n := fun z => by rw [z, hw] at ht; cases ht; exact ew rfl
              omega
          · simp only at hj ⊢
            have ew : t ≠ w := by
              intro ew
              rw [ew] at ht
              have := hyl.2 j n hj2 (by omega) (ht.trans hw.symm)
              omega
            rw [oA, if_neg ew]
            exact b6 j t (by omega) hj2 ht
      · rw [gMove1_stop hgo]
        exact ⟨b1, b2, by omega, b4, b5, b6⟩
  obtain ⟨b1, b2, b3, b4, b5, b6⟩ := key ((s.1 101 (c 2))).toNat (by omega)
  have mk1 := mov_keep (Λ := Λ) (c := c) s ((s.1 101 (c 2))).toNat
  unfold fMove fMov1
  dsimp only
  generalize nfold (gMove1 Λ c) (0, s) ((s.1 101 (c 2))).toNat = u at *
  have hw1 := b1.wf
  -- the rest is moved down
  have rest : ∀ n : Nat, (n : Int) ≤ (s.1 101 (c 2)) → u.1 ≤ n → WF Λ c (nfold (gRest1 c u.1) (upI u.2 101 (c 2) 0) n) ∧ (∀ f q, ¬ (f = 101 ∧ q = c 2) → (nfold (gRest1 c u.1) (upI u.2 101 (c 2) 0) n).1 f q = u.2.1 f q) ∧ ((nfold (gRest1 c u.1) (upI u.2 101 (c 2) 0) n).1 101 (c 2)) = n - u.1 ∧ (∀ kd q k, ¬ (kd = 101 ∧ q = c 3) → (nfold (gRest1 c u.1) (upI u.2 101 (c 2) 0) n).2.2 kd q k = u.2.2.2 kd q k) ∧ (∀ k : Nat, n ≤ k → (nfold (gRest1 c u.1) (upI u.2 101 (c 2) 0) n).2.2 101 (c 3) k = s.2.2 101 (c 3) k) ∧ (∀ i : Nat, (i : Int) < n - u.1 → (nfold (gRest1 c u.1) (upI u.2 101 (c 2) 0) n).2.2 101 (c 3) i = s.2.2 101 (c 3) (i + u.1.toNat)) := by
    intro n
    induction n with
    | zero =>
      intro _ h0
      refine ⟨hw1.emptyY, fun f q h => ?_, ?_, fun _ _ _ _ => rfl, fun k _ => ?_, fun i hi => by omega⟩
      · show (upI u.2 101 (c 2) 0).1 f q = _
        rw [upI_1, if_neg h]
      · show (upI u.2 101 (c 2) 0).1 101 (c 2) = _
        rw [upI_at]; omega
      · exact mk1.1 _ _ _ (by decide)
    | succ n ih =>
      intro hn h0
      by_cases hz : u.1 ≤ n
      · obtain ⟨r1, r2, r3, r4, r5, r6⟩ := ih (by omega) hz
        rw [nfold_s]
        obtain ⟨w, hw, hT, hwa⟩ := inlist n (by omega)
        have e7 : (nfold (gRest1 c u.1) (upI u.2 101 (c 2) 0) n).2.2 101 (c 3) n = some w := (r5 n (Nat.le_refl _)).trans hw
        generalize nfold (gRest1 c u.1) (upI u.2 101 (c 2) 0) n = v at *
        have e : gRest1 c u.1 n v = gAdd (c 2) (c 3) (some w) v := by
          unfold gRest1
          rw [if_pos hz, e7]
          simp only
          unfold fAdd
          rw [if_neg (by omega)]
        rw [e]
        have eC : (gAdd (c 2) (c 3) (some w) v).1 101 (c 2) = (v.1 101 (c 2)) + 1 := by unfold gAdd; rw [upI_at]
        have eX : ∀ kd q k, (gAdd (c 2) (c 3) (some w) v).2.2 kd q k = if kd = 101 ∧ q = c 3 ∧ k = ((v.1 101 (c 2))).toNat then some w else v.2.2 kd q k := fun kd q k => rfl
        refine ⟨r1.addY hT (by omega), fun f q h => ?_, by rw [eC]; omega, fun kd q k h => ?_, fun k hk => ?_, fun i hi => ?_⟩
        · unfold gAdd
          rw [upI_1, if_neg h]
          exact r2 f q h
        · rw [eX, if_neg (fun z => h ⟨z.1, z.2.1⟩)]; exact r4 kd q k h
        · rw [eX, if_neg (by omega)]; exact r5 k (by omega)
        · rw [eX]
          by_cases ei : i = ((v.1 101 (c 2))).toNat
          · rw [if_pos ⟨rfl, rfl, ei⟩, show i + u.1.toNat = n by omega, hw]
          · rw [if_neg (fun z => ei z.2.2)]
            exact r6 i (by omega)
      · -- nothing yet
        rw [rest_id (n + 1) (by omega)]
        refine ⟨hw1.emptyY, fun f q h => ?_, ?_, fun _ _ _ _ => rfl, fun k _ => ?_, fun i hi => by omega⟩
        · rw [upI_1, if_neg h]
        · rw [upI_at]; omega
        · exact mk1.1 _ _ _ (by decide)
  obtain ⟨r1, r2, r3, r4, r5, r6⟩ := rest ((s.1 101 (c 2))).toNat (by omega) b3
  generalize nfold (gRest1 c u.1) (upI u.2 101 (c 2) 0) ((s.1 101 (c 2))).toNat = v at *
  have eA : ∀ t, (v.1 203 t) = (u.2.1 203 t) := fun t => r2 _ _ (by omega)
  have eM : ∀ t, (v.1 204 t) = (u.2.1 204 t) := fun t => r2 _ _ (by omega)
  have gv : GB Λ c v := by
    refine ⟨r1, fun t ht => ?_, fun a t ha => ?_, fun t ht => ?_, fun t ht => ?_, fun t ht => ?_, ?_, ?_, ?_, ?_⟩
    · rw [eA]; exact b1.ad t ht
    · rw [eA, r4 _ _ _ (by omega)]; exact b1.ce a t ha
    · rw [eM, r2 _ _ (by omega), r2 _ _ (by omega)]; exact b1.fl t ht
    · rw [eA, eM, r2 _ _ (by omega)]; exact b1.ym t ht
    · rw [eA, eM, r2 _ _ (by omega)]; exact b1.gm t ht
    · rw [r2 _ _ (by omega)]; exact b1.d8
    · rw [r2 _ _ (by omega)]; exact b1.n8
    · rw [r2 _ _ (by omega)]; exact b1.ph
    · rw [r2 _ _ (by omega)]; exact b1.sw
  refine ⟨gv, b2, by omega, fun t ht hn => ?_, fun j t hj ht => ?_, fun j t hj hj2 ht => ?_, fun f q f1 f2 f3 f4 => ?_, fun kd q k k1 k2 => ?_, by omega, fun i hi => r6 i (by omega)⟩
  · rw [eA, eM]; exact b4 t ht hn
  · rw [eA, eM]; exact b5 j t hj ht
  · rw [eA]; exact b6 j t hj hj2 ht
  · rw [r2 f q f4]; exact mk1.2 f q f1 f3 f2
  · rw [r4 kd q k k2]; exact mk1.1 kd q k k1
end FU2
