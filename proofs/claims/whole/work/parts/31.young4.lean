/-! Behind a young collection all holds again that holds between calls. -/
theorem sumN_inj {n m : Nat} {f g : Nat → Int} (φ : Nat → Nat → Prop) (h1 : ∀ i, i < n → ∃ j, j < m ∧ φ i j) (h1' : ∀ i, i < n → ∀ j, j < m → ∀ j', j' < m → φ i j → φ i j' → j = j') (h2' : ∀ j, j < m → ∀ i, i < n → ∀ i', i' < n → φ i j → φ i' j → i = i') (h3 : ∀ i, i < n → ∀ j, j < m → φ i j → f i = g j) (hg : ∀ j, j < m → 0 ≤ g j) : sumN f n ≤ sumN g m := by
  classical
  have e1 : sumN f n = sumN (fun i => sumN (fun j => if φ i j then f i else 0) m) n := by
    refine sumN_congr (fun i hi => ?_)
    obtain ⟨j, hj, hp⟩ := h1 i hi
    rw [sumN_one (i0 := j) hj (fun j' hj' hne => if_neg (fun q => hne (h1' i hi j' hj' j hj q hp)))]
    rw [if_pos hp]
  rw [e1, sumN_swap]
  refine sumN_le (fun j hj => ?_)
  by_cases h : ∃ i, i < n ∧ φ i j
  · obtain ⟨i, hi, hp⟩ := h
    rw [sumN_one (i0 := i) hi (fun i' hi' hne => if_neg (fun q => hne (h2' j hj i' hi' i hi q hp))), if_pos hp, h3 i hi j hj hp]
    exact Int.le_refl _
  · rw [sumN_zero (fun i hi => if_neg (fun q => h ⟨i, hi, q⟩))]
    exact hg j hj


-- the state behind a young collection, thing by thing
def YZ (Λ : Lam) (c : Nat → Nat) (σ0 s1 s5 : Mem) : Prop :=
  (YA Λ c σ0 s1) ∧
  (WF Λ c s5) ∧
  (∀ t, isT Λ t → (σ0.1 203 t) = -1 → (s1.1 206 t) = 0 → (s5.1 203 t) = -2) ∧
  (∀ t, isT Λ t → ¬ ((σ0.1 203 t) = -1 ∧ (s1.1 206 t) = 0) → (s5.1 203 t) = (s1.1 203 t)) ∧
  (∀ f q, f ≠ 203 → f ≠ 206 → f ≠ 101 → f ≠ 304 → f ≠ 305 → s5.1 f q = s1.1 f q) ∧
  (∀ t, isT Λ t → (s5.1 206 t) = 0) ∧
  (∀ kd q k, ¬ (kd = 101 ∧ q = c 3) → s5.2.2 kd q k = s1.2.2 kd q k) ∧
  ((s5.1 101 (c 6)) = 0) ∧
  (∀ t, isT Λ t → ((∃ i : Nat, (i : Int) < (s5.1 101 (c 2)) ∧ s5.2.2 101 (c 3) i = some t) ↔ ((s1.1 206 t) = 1 ∧ (s5.1 203 t) = -1))) ∧
  (∀ i j : Nat, (i : Int) < (s5.1 101 (c 2)) → (j : Int) < (s5.1 101 (c 2)) → s5.2.2 101 (c 3) i = s5.2.2 101 (c 3) j → i = j) ∧
  (∀ i, i < 32 → cb ((s5.1 304 (c 0))) i = (cb ((s1.1 304 (c 0))) i && cb (fShow Λ c s5) i)) ∧
  (∀ i, i < 32 → cb ((s5.1 305 (c 0))) i = (cb ((s1.1 305 (c 0))) i || (decide ((s1.1 306 (c 0)) = 1) && cb ((s1.1 304 (c 0))) i && !(cb ((s5.1 304 (c 0))) i))))
theorem YZ.ya {Λ : Lam} {c : Nat → Nat} {σ0 s1 s5 : Mem} (h : YZ Λ c σ0 s1 s5) : YA Λ c σ0 s1 := h.1
theorem YZ.wf {Λ : Lam} {c : Nat → Nat} {σ0 s1 s5 : Mem} (h : YZ Λ c σ0 s1 s5) : WF Λ c s5 := h.2.1
theorem YZ.a1 {Λ : Lam} {c : Nat → Nat} {σ0 s1 s5 : Mem} (h : YZ Λ c σ0 s1 s5) : ∀ t, isT Λ t → (σ0.1 203 t) = -1 → (s1.1 206 t) = 0 → (s5.1 203 t) = -2 := h.2.2.1
theorem YZ.a2 {Λ : Lam} {c : Nat → Nat} {σ0 s1 s5 : Mem} (h : YZ Λ c σ0 s1 s5) : ∀ t, isT Λ t → ¬ ((σ0.1 203 t) = -1 ∧ (s1.1 206 t) = 0) → (s5.1 203 t) = (s1.1 203 t) := h.2.2.2.1
theorem YZ.ki {Λ : Lam} {c : Nat → Nat} {σ0 s1 s5 : Mem} (h : YZ Λ c σ0 s1 s5) : ∀ f q, f ≠ 203 → f ≠ 206 → f ≠ 101 → f ≠ 304 → f ≠ 305 → s5.1 f q = s1.1 f q := h.2.2.2.2.1
theorem YZ.rc {Λ : Lam} {c : Nat → Nat} {σ0 s1 s5 : Mem} (h : YZ Λ c σ0 s1 s5) : ∀ t, isT Λ t → (s5.1 206 t) = 0 := h.2.2.2.2.2.1
theorem YZ.kx {Λ : Lam} {c : Nat → Nat} {σ0 s1 s5 : Mem} (h : YZ Λ c σ0 s1 s5) : ∀ kd q k, ¬ (kd = 101 ∧ q = c 3) → s5.2.2 kd q k = s1.2.2 kd q k := h.2.2.2.2.2.2.1
theorem YZ.qc {Λ : Lam} {c : Nat → Nat} {σ0 s1 s5 : Mem} (h : YZ Λ c σ0 s1 s5) : (s5.1 101 (c 6)) = 0 := h.2.2.2.2.2.2.2.1
theorem YZ.yl {Λ : Lam} {c : Nat → Nat} {σ0 s1 s5 : Mem} (h : YZ Λ c σ0 s1 s5) : ∀ t, isT Λ t → ((∃ i : Nat, (i : Int) < (s5.1 101 (c 2)) ∧ s5.2.2 101 (c 3) i = some t) ↔ ((s1.1 206 t) = 1 ∧ (s5.1 203 t) = -1)) := h.2.2.2.2.2.2.2.2.1
theorem YZ.yd {Λ : Lam} {c : Nat → Nat} {σ0 s1 s5 : Mem} (h : YZ Λ c σ0 s1 s5) : ∀ i j : Nat, (i : Int) < (s5.1 101 (c 2)) → (j : Int) < (s5.1 101 (c 2)) → s5.2.2 101 (c 3) i = s5.2.2 101 (c 3) j → i = j := h.2.2.2.2.2.2.2.2.2.1
theorem YZ.dr {Λ : Lam} {c : Nat → Nat} {σ0 s1 s5 : Mem} (h : YZ Λ c σ0 s1 s5) : ∀ i, i < 32 → cb ((s5.1 304 (c 0))) i = (cb ((s1.1 304 (c 0))) i && cb (fShow Λ c s5) i) := h.2.2.2.2.2.2.2.2.2.2.1
theorem YZ.nt {Λ : Lam} {c : Nat → Nat} {σ0 s1 s5 : Mem} (h : YZ Λ c σ0 s1 s5) : ∀ i, i < 32 → cb ((s5.1 305 (c 0))) i = (cb ((s1.1 305 (c 0))) i || (decide ((s1.1 306 (c 0)) = 1) && cb ((s1.1 304 (c 0))) i && !(cb ((s5.1 304 (c 0))) i))) := h.2.2.2.2.2.2.2.2.2.2.2


section YE
variable {Λ : Lam} {c : Nat → Nat} {σ0 : Mem}
theorem show_congr {s s' : Mem} (h : ∀ a, isYng s (fRef Λ c s a) = isYng s' (fRef Λ c s' a)) : fShow Λ c s = fShow Λ c s' := by
  refine cb_ext (show_rng s) (show_rng s') (fun i hi => ?_)
  have h1 := show_cb (Λ := Λ) (c := c) s i
  have h2 := show_cb (Λ := Λ) (c := c) s' i
  simp only [h] at h1
  cases e1 : cb (fShow Λ c s) i <;> cases e2 : cb (fShow Λ c s') i
  · rfl
  · rw [e1] at h1; rw [e2] at h2; exact absurd (h1.mpr (h2.mp rfl)) (by simp)
  · rw [e1] at h1; rw [e2] at h2; exact absurd (h2.mpr (h1.mp rfl)) (by simp)
  · rfl
theorem ref_congr {s s' : Mem} (hc : ∀ a, (s.2.2 102 (c 5) a) = (s'.2.2 102 (c 5) a)) (ha : ∀ t, (s.1 203 t) = (s'.1 203 t)) (hf : ∀ t k, (s.2.2 103 (faL Λ t) k) = (s'.2.2 103 (faL Λ t) k)) (a : Nat) : fRef Λ c s a = fRef Λ c s' a ∧ ∀ o, isYng s o = isYng s' o := by
  constructor
  · unfold fRef
    rw [hc]
    cases (s'.2.2 102 (c 5) a) with
    | none => rfl
    | some t => simp only [ha, hf]
  · intro o
    unfold isYng
    cases o with
    | none => rfl
    | some t => simp only [ha]
theorem GD.yz (h : GD Λ c σ0) : YZ Λ c σ0 (gReachAllY Λ c σ0) (fYoung Λ c σ0).2 := by
  have ya := (y_all h).1
  have hwf := h.gb.wf.young
  have hwr := h.gb.wf.reachAllY
  have hfew := ya.few h.yl
  have ec2 : ((gReachAllY Λ c σ0).1 101 (c 2)) = (σ0.1 101 (c 2)) := ya.ki _ _ (by decide) (by decide) (by decide) (by decide) (by decide) (fun z => h.gb.wf.ly.ne26 z.2)
  have y1 := h.gb.wf.y1
  unfold fYoung fYng1 at hwf ⊢
  dsimp only at hwf ⊢
  generalize gReachAllY Λ c σ0 = s1 at *
  have ex3 : ∀ i, s1.2.2 101 (c 3) i = σ0.2.2 101 (c 3) i := fun i => ya.kx _ _ _ (by decide) (fun z => h.gb.wf.ly.ne37 z.2)
  have inl : ∀ t, isT Λ t → ((∃ j : Nat, (j : Int) < (s1.1 101 (c 2)) ∧ s1.2.2 101 (c 3) j = some t) ↔ (σ0.1 203 t) = -1) := by
    intro t ht
    simp only [ec2, ex3]
    exact (h.yl.1 t ht).symm
  obtain ⟨d1, d2⟩ := drop_is c s1
  obtain ⟨dk1, dk2⟩ := drop_keep' c s1
  have hw2 := hwr.drop
  generalize gDrop c s1 = s2 at *
  have e62 : (s2.1 101 (c 6)) = (s1.1 101 (c 6)) := dk2 _ _ (by decide)
  obtain ⟨n1, n2, n3, n4⟩ := renew_is hw2 (by omega) (fun i j hi hj e => by
    rw [e62] at hi hj
    rw [dk1] at e
    exact ya.rd i j hi hj e)
  have hw3 := hw2.renew
  generalize (fRenew c s2).2 = s3 at *
  obtain ⟨l1, l2, l3, l4, l5⟩ := let_is (c 6) (c 7) s3
  have hw4 := hw3.letGo
  generalize gLetGo (c 6) (c 7) s3 = s4 at *
  obtain ⟨c1, c2, c3, c4⟩ := clean_is (Λ := Λ) (c := c) s4
  generalize hs5 : gClean Λ c s4 = s5 at *
  have n26 := h.gb.wf.ly.ne26
  have n37 := h.gb.wf.ly.ne37
  -- an int field that no one touched
  have eI : ∀ f q, f ≠ 203 → f ≠ 206 → f ≠ 101 → f ≠ 304 → f ≠ 305 → s5.1 f q = s1.1 f q := by
    intro f q h1 h2 h3 h4 h5
    rw [c2 f q (fun z => h4 z.1) (fun z => h5 z.1), l4 f q h2 (fun z => h3 z.1), n1 f q (fun z => h3 z.1), dk2 f q h1]
  have eA : ∀ t, (s5.1 203 t) = (s2.1 203 t) := by
    intro t
    rw [c2 _ _ (by omega) (by omega), l4 _ _ (by decide) (by omega), n1 _ _ (by omega)]
  have eX : ∀ kd q k, ¬ (kd = 101 ∧ q = c 3) → s5.2.2 kd q k = s1.2.2 kd q k := by
    intro kd q k hk
    rw [c1, l3, n2 kd q k hk, dk1]
  have eD : (s4.1 304 (c 0)) = (s1.1 304 (c 0)) := by rw [l4 _ _ (by decide) (by omega), n1 _ _ (by omega), dk2 _ _ (by decide)]
  have eN : (s4.1 305 (c 0)) = (s1.1 305 (c 0)) := by rw [l4 _ _ (by decide) (by omega), n1 _ _ (by omega), dk2 _ _ (by decide)]
  have eP : (s4.1 306 (c 0)) = (s1.1 306 (c 0)) := by rw [l4 _ _ (by decide) (by omega), n1 _ _ (by omega), dk2 _ _ (by decide)]
  have esh : fShow Λ c s4 = fShow Λ c s5 := by
    refine show_congr (fun a => ?_)
    have rc := ref_congr (Λ := Λ) (c := c) (s := s4) (s' := s5) (fun a => by rw [c1]) (fun t => (c2 _ _ (by omega) (by omega)).symm) (fun t k => by rw [c1]) a
    rw [rc.1, rc.2]
  have e3c : (s3.1 101 (c 6)) = (s1.1 101 (c 6)) := by rw [n1 _ _ (fun z => n26 z.2.symm), e62]
  have e3q : ∀ j, s3.2.2 101 (c 7) j = s1.2.2 101 (c 7) j := fun j => by rw [n2 _ _ _ (fun z => n37 z.2.symm), dk1]
  have rin : ∀ t, isT Λ t → ((∃ j : Nat, (j : Int) < (s3.1 101 (c 6)) ∧ s3.2.2 101 (c 7) j = some t) ↔ (s1.1 206 t) = 1) := by
    intro t ht
    simp only [e3c, e3q]
    exact (ya.rl t ht).symm
  refine ⟨ya, hwf, fun t ht h1 h2 => ?_, fun t ht hn => ?_, eI, fun t ht => ?_, eX, ?_, fun t ht => ?_, fun i j hi hj e => ?_, fun i hi => ?_, fun i hi => ?_⟩
  · rw [eA]; exact d1 t ((inl t ht).mpr h1) h2
  · rw [eA]; exact d2 t (fun z => hn ⟨(inl t ht).mp z.1, z.2⟩)
  · rw [c2 _ _ (by omega) (by omega)]
    by_cases hr : ∃ j : Nat, (j : Int) < (s3.1 101 (c 6)) ∧ s3.2.2 101 (c 7) j = some t
    · exact l1 t hr
    · rw [l2 t hr, n1 _ _ (by omega), dk2 _ _ (by decide)]
      rcases (ya.gb.fl t ht).2.2 with e | e
      · exact e
      · exact absurd ((rin t ht).mpr e) hr
  · rw [c2 _ _ (by omega) (by omega)]; exact l5
  · have e5c : (s5.1 101 (c 2)) = (s3.1 101 (c 2)) := by rw [c2 _ _ (by omega) (by omega), l4 _ _ (by decide) (fun z => n26 z.2)]
    have e5x : ∀ i, s5.2.2 101 (c 3) i = s3.2.2 101 (c 3) i := fun i => by rw [c1, l3]
    simp only [e5c, e5x, eA]
    rw [n3 t, ← rin t ht]
    simp only [e62, e3c, e3q, dk1]
  · have e5c : (s5.1 101 (c 2)) = (s3.1 101 (c 2)) := by rw [c2 _ _ (by omega) (by omega), l4 _ _ (by decide) (fun z => n26 z.2)]
    rw [e5c] at hi hj
    rw [c1, l3] at e
    exact n4 i j hi hj e
  · rw [c3 i hi, eD, esh]
  · rw [c4 i hi, eD, eN, eP, c3 i hi, eD]
    cases cb ((s1.1 305 (c 0))) i <;> cases cb ((s1.1 304 (c 0))) i <;> cases cb (fShow Λ c s4) i <;> simp
end YE
