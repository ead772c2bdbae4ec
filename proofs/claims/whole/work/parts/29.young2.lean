/-! Reachability, what holds between calls, and that the young collection reaches every young thing that the program can reach. -/
def Reach (Λ : Lam) (c : Nat → Nat) (σ : Mem) (t : Nat) : Prop := ∀ S : Nat → Prop, (∀ r u, r < 6 → (σ.2.2 100 (c 1) r) = some u → S u) → (∀ u k v, S u → k < nfL Λ u → (σ.2.2 103 (faL Λ u) k) = some v → S v) → S t
def GD (Λ : Lam) (c : Nat → Nat) (σ : Mem) : Prop :=
  (GB Λ c σ) ∧
  ((σ.1 101 (c 6)) = 0) ∧
  (∀ t, isT Λ t → (σ.1 206 t) = 0) ∧
  (YL Λ c σ) ∧
  (fTaken Λ (c 2) (c 3) σ ≤ 20) ∧
  (∀ t k u : Nat, isT Λ t → 0 ≤ (σ.1 203 t) → k < nfL Λ t → (σ.2.2 103 (faL Λ t) k) = some u → (σ.1 203 u) = -1 → cb ((σ.1 304 (c 0))) (((σ.1 203 t) + 1 + k).toNat / 8) = true) ∧
  ((σ.1 306 (c 0)) = 0 → ∀ t, isT Λ t → (σ.1 203 t) ≠ -2 → (σ.1 204 t) = 0) ∧
  ((σ.1 306 (c 0)) = 1 → ∀ t k u : Nat, isT Λ t → 0 ≤ (σ.1 203 t) → (σ.1 204 t) = 1 → (σ.1 205 t) = 0 → k < nfL Λ t → (σ.2.2 103 (faL Λ t) k) = some u → 0 ≤ (σ.1 203 u) → (σ.1 204 u) = 0 → cb ((σ.1 304 (c 0))) (((σ.1 203 t) + 1 + k).toNat / 8) = true ∨ cb ((σ.1 305 (c 0))) (((σ.1 203 t) + 1 + k).toNat / 8) = true) ∧
  ((σ.1 306 (c 0)) = 2 → (∀ t, isT Λ t → (σ.1 203 t) ≠ -2 → (σ.1 205 t) = 0) ∧ ∀ t, Reach Λ c σ t → 0 ≤ (σ.1 203 t) → (σ.1 307 (c 0)) ≤ (σ.1 203 t) → (σ.1 204 t) = 1) ∧
  (∀ t, Reach Λ c σ t → (σ.1 203 t) ≠ -2)
theorem GD.gb {Λ : Lam} {c : Nat → Nat} {σ : Mem} (h : GD Λ c σ) : GB Λ c σ := h.1
theorem GD.q0 {Λ : Lam} {c : Nat → Nat} {σ : Mem} (h : GD Λ c σ) : (σ.1 101 (c 6)) = 0 := h.2.1
theorem GD.r0 {Λ : Lam} {c : Nat → Nat} {σ : Mem} (h : GD Λ c σ) : ∀ t, isT Λ t → (σ.1 206 t) = 0 := h.2.2.1
theorem GD.yl {Λ : Lam} {c : Nat → Nat} {σ : Mem} (h : GD Λ c σ) : YL Λ c σ := h.2.2.2.1
theorem GD.y20 {Λ : Lam} {c : Nat → Nat} {σ : Mem} (h : GD Λ c σ) : fTaken Λ (c 2) (c 3) σ ≤ 20 := h.2.2.2.2.1
theorem GD.s1 {Λ : Lam} {c : Nat → Nat} {σ : Mem} (h : GD Λ c σ) : ∀ t k u : Nat, isT Λ t → 0 ≤ (σ.1 203 t) → k < nfL Λ t → (σ.2.2 103 (faL Λ t) k) = some u → (σ.1 203 u) = -1 → cb ((σ.1 304 (c 0))) (((σ.1 203 t) + 1 + k).toNat / 8) = true := h.2.2.2.2.2.1
theorem GD.s2 {Λ : Lam} {c : Nat → Nat} {σ : Mem} (h : GD Λ c σ) : (σ.1 306 (c 0)) = 0 → ∀ t, isT Λ t → (σ.1 203 t) ≠ -2 → (σ.1 204 t) = 0 := h.2.2.2.2.2.2.1
theorem GD.s3 {Λ : Lam} {c : Nat → Nat} {σ : Mem} (h : GD Λ c σ) : (σ.1 306 (c 0)) = 1 → ∀ t k u : Nat, isT Λ t → 0 ≤ (σ.1 203 t) → (σ.1 204 t) = 1 → (σ.1 205 t) = 0 → k < nfL Λ t → (σ.2.2 103 (faL Λ t) k) = some u → 0 ≤ (σ.1 203 u) → (σ.1 204 u) = 0 → cb ((σ.1 304 (c 0))) (((σ.1 203 t) + 1 + k).toNat / 8) = true ∨ cb ((σ.1 305 (c 0))) (((σ.1 203 t) + 1 + k).toNat / 8) = true := h.2.2.2.2.2.2.2.1
theorem GD.s4 {Λ : Lam} {c : Nat → Nat} {σ : Mem} (h : GD Λ c σ) : (σ.1 306 (c 0)) = 2 → (∀ t, isT Λ t → (σ.1 203 t) ≠ -2 → (σ.1 205 t) = 0) ∧ ∀ t, Reach Λ c σ t → 0 ≤ (σ.1 203 t) → (σ.1 307 (c 0)) ≤ (σ.1 203 t) → (σ.1 204 t) = 1 := h.2.2.2.2.2.2.2.2.1
theorem GD.s5 {Λ : Lam} {c : Nat → Nat} {σ : Mem} (h : GD Λ c σ) : ∀ t, Reach Λ c σ t → (σ.1 203 t) ≠ -2 := h.2.2.2.2.2.2.2.2.2
section RCH
variable {Λ : Lam} {c : Nat → Nat} {σ σ' : Mem}
theorem Reach.root {r u : Nat} (hr : r < 6) (h : (σ.2.2 100 (c 1) r) = some u) : Reach Λ c σ u := fun _ h1 _ => h1 r u hr h
theorem Reach.fld {u k v : Nat} (hu : Reach Λ c σ u) (hk : k < nfL Λ u) (h : (σ.2.2 103 (faL Λ u) k) = some v) : Reach Λ c σ v := fun S h1 h2 => h2 u k v (hu S h1 h2) hk h
theorem Reach.mono (h1 : ∀ r u, r < 6 → (σ'.2.2 100 (c 1) r) = some u → Reach Λ c σ u) (h2 : ∀ u k v, Reach Λ c σ u → k < nfL Λ u → (σ'.2.2 103 (faL Λ u) k) = some v → Reach Λ c σ v) {t : Nat} (h : Reach Λ c σ' t) : Reach Λ c σ t := h (Reach Λ c σ) h1 h2
theorem Reach.same (h1 : ∀ r, (σ'.2.2 100 (c 1) r) = (σ.2.2 100 (c 1) r)) (h2 : ∀ u k, (σ'.2.2 103 (faL Λ u) k) = (σ.2.2 103 (faL Λ u) k)) {t : Nat} (h : Reach Λ c σ' t) : Reach Λ c σ t := h.mono (fun r u hr e => Reach.root hr (by rw [← h1]; exact e)) (fun u k v hu hk e => hu.fld hk (by rw [← h2]; exact e))
theorem Reach.thing (ty : ∀ kd q k t, σ.2.2 kd q k = some t → isT Λ t) {t : Nat} (h : Reach Λ c σ t) : isT Λ t := h (isT Λ) (fun _ _ _ e => ty _ _ _ _ e) (fun _ _ _ _ _ e => ty _ _ _ _ e)
end RCH
section YB
variable {Λ : Lam} {c : Nat → Nat} {σ0 σ : Mem}
theorem GD.start (h : GD Λ c σ0) : YA Λ c σ0 σ0 := by
  have q0 := h.q0
  refine ⟨h.gb, fun _ _ _ _ _ => rfl, fun _ _ _ _ _ _ _ _ => rfl, fun _ _ => Or.inl rfl, fun _ _ _ => rfl, fun t ht => ?_, fun t ht hr => ?_, fun i j hi => ?_, fun _ h => h, fun t ht hy ha => ?_, fun _ h => Or.inl h⟩
  · have := h.r0 t ht
    constructor
    · intro z; omega
    · rintro ⟨i, hi, _⟩; omega
  · have := h.r0 t ht; omega
  · omega
  · omega
theorem reachY_row {o : Option Nat} (h : YA Λ c σ0 σ) (hyl : YL Λ c σ0) (ho : ∀ t, o = some t → isT Λ t) : (σ.1 101 (c 6)) ≤ ((gReachY Λ c o σ).1 101 (c 6)) ∧ ∀ i : Nat, (i : Int) < (σ.1 101 (c 6)) → (gReachY Λ c o σ).2.2 101 (c 7) i = σ.2.2 101 (c 7) i := by
  have q0 := h.gb.wf.q0
  have hfew := h.few hyl
  have hy20 : (σ0.1 101 (c 2)) ≤ 20 := by
    have := h.gb.wf.y1
    rw [h.ki 101 (c 2) (by decide) (by decide) (by decide) (by decide) (by decide) (fun z => h.gb.wf.ly.ne26 z.2)] at this
    exact this
  cases o with
  | none => exact ⟨Int.le_refl _, fun _ _ => rfl⟩
  | some t =>
    unfold gReachY
    simp only
    by_cases hy : (σ.1 203 t) = -1
    · rw [if_pos hy]
      by_cases h0 : (σ.1 206 t) = 0
      · rw [reach_new h0 (by omega)]
        simp only
        rw [if_neg (by decide)]
        have key : ∀ v : Int, (σ.1 101 (c 6)) ≤ ((upI (upI (gAdd (c 6) (c 7) (some t) σ) 206 t 1) 202 t v).1 101 (c 6)) ∧ ∀ i : Nat, (i : Int) < (σ.1 101 (c 6)) → (upI (upI (gAdd (c 6) (c 7) (some t) σ) 206 t 1) 202 t v).2.2 101 (c 7) i = σ.2.2 101 (c 7) i := by
          intro v
          refine ⟨?_, fun i hi => ?_⟩
          · rw [upI_ne (by decide), rn_1, if_neg (by omega), if_pos ⟨rfl, rfl⟩]; omega
          · show (upI (gAdd (c 6) (c 7) (some t) σ) 206 t 1).2.2 101 (c 7) i = _
            rw [rn_2, if_neg (by omega)]
        split
        · have kp := placeOld_keep (Λ := Λ) (c := c) t (upI (upI (gAdd (c 6) (c 7) (some t) σ) 206 t 1) 202 t (min (((upI (gAdd (c 6) (c 7) (some t) σ) 206 t 1).1 202 t) + 1) 9))
          refine ⟨?_, fun i hi => ?_⟩
          · rw [kp.2 _ _ (by decide) (by decide) (by decide)]; exact (key _).1
          · rw [kp.1 _ _ _ (by decide)]; exact (key _).2 i hi
        · exact key _
      · rw [reach_old h0]
        simp only [if_true]
        exact ⟨Int.le_refl _, fun _ _ => by trivial⟩
    · rw [if_neg hy]
      exact ⟨Int.le_refl _, fun _ _ => rfl⟩
-- what the three loops leave behind
def YD1 (Λ : Lam) (c : Nat → Nat) (σ0 s : Mem) (n : Nat) : Prop := ∀ r t, r < n → (σ0.2.2 100 (c 1) r) = some t → (σ0.1 203 t) = -1 → (s.1 206 t) = 1
def YD2 (Λ : Lam) (c : Nat → Nat) (σ0 s : Mem) (n : Nat) : Prop := ∀ u k t : Nat, isT Λ u → 0 ≤ (σ0.1 203 u) → k < nfL Λ u → (σ0.1 203 u) + 1 + k < n → cb ((σ0.1 304 (c 0))) (((σ0.1 203 u) + 1 + k).toNat / 8) = true → (σ0.2.2 103 (faL Λ u) k) = some t → (σ0.1 203 t) = -1 → (s.1 206 t) = 1
def YD3 (Λ : Lam) (c : Nat → Nat) (σ0 s : Mem) (n : Nat) : Prop := ∀ j u k t : Nat, j < n → (j : Int) < (s.1 101 (c 6)) → s.2.2 101 (c 7) j = some u → k < nfL Λ u → (σ0.2.2 103 (faL Λ u) k) = some t → (σ0.1 203 t) = -1 → (s.1 206 t) = 1
theorem y_roots (h : GD Λ c σ0) : YA Λ c σ0 (nfold (gRoots1 Λ c) σ0 6) ∧ YD1 Λ c σ0 (nfold (gRoots1 Λ c) σ0 6) 6 := by
  refine nfold_inv (fun i s => YA Λ c σ0 s ∧ YD1 Λ c σ0 s i) ⟨h.start, fun r t hr => by omega⟩ 6 (fun i s hi hs => ?_)
  have ho : ∀ t, (s.2.2 100 (c 1) i) = some t → isT Λ t := fun t e => hs.1.gb.wf.ty _ _ _ _ e
  obtain ⟨a, b, d⟩ := hs.1.reachY h.yl ho
  refine ⟨a, fun r t hr e hy => ?_⟩
  have hT := h.gb.wf.ty _ _ _ _ e
  by_cases er : r = i
  · subst er
    have e2 : (s.2.2 100 (c 1) r) = (σ0.2.2 100 (c 1) r) := hs.1.kx _ _ _ (by decide) (fun z => by omega)
    exact b t (e2.trans e) hy
  · exact d t hT (hs.2 r t (by omega) e hy)
theorem y_cards (h : GD Λ c σ0) {s0 : Mem} (h0 : YA Λ c σ0 s0) (h1 : YD1 Λ c σ0 s0 6) : YA Λ c σ0 (nfold (gCards1 Λ c ((σ0.1 304 (c 0)))) s0 64) ∧ YD1 Λ c σ0 (nfold (gCards1 Λ c ((σ0.1 304 (c 0)))) s0 64) 6 ∧ YD2 Λ c σ0 (nfold (gCards1 Λ c ((σ0.1 304 (c 0)))) s0 64) 64 := by
  refine nfold_inv (fun i s => YA Λ c σ0 s ∧ YD1 Λ c σ0 s 6 ∧ YD2 Λ c σ0 s i) ⟨h0, h1, fun u k t _ ha _ hl => by omega⟩ 64 (fun i s hi hs => ?_)
  obtain ⟨ya, d1, d2⟩ := hs
  have step : ∀ o, (∀ t, o = some t → isT Λ t) → gCards1 Λ c ((σ0.1 304 (c 0))) i s = gReachY Λ c o s → (∀ u k t : Nat, isT Λ u → 0 ≤ (σ0.1 203 u) → k < nfL Λ u → (σ0.1 203 u) + 1 + k = i → cb ((σ0.1 304 (c 0))) (((σ0.1 203 u) + 1 + k).toNat / 8) = true → (σ0.2.2 103 (faL Λ u) k) = some t → o = some t) → YA Λ c σ0 (gCards1 Λ c ((σ0.1 304 (c 0))) i s) ∧ YD1 Λ c σ0 (gCards1 Λ c ((σ0.1 304 (c 0))) i s) 6 ∧ YD2 Λ c σ0 (gCards1 Λ c ((σ0.1 304 (c 0))) i s) (i + 1) := by
    intro o ho e hit
    obtain ⟨a, b, d⟩ := ya.reachY h.yl ho
    rw [e]
    refine ⟨a, fun r t hr er hy => d t (h.gb.wf.ty _ _ _ _ er) (d1 r t hr er hy), fun u k t hu ha hk hl hc hf hy => ?_⟩
    by_cases ei : (σ0.1 203 u) + 1 + k = i
    · exact b t (hit u k t hu ha hk ei hc hf) hy
    · exact d t (h.gb.wf.ty _ _ _ _ hf) (d2 u k t hu ha hk (by omega) hc hf hy)
  have none_ok : gReachY Λ c none s = s := rfl
  -- an old thing of σ0 stands where it stood
  have stay : ∀ u, isT Λ u → 0 ≤ (σ0.1 203 u) → (s.1 203 u) = (σ0.1 203 u) := by
    intro u hu ha
    rcases ya.aa u hu with e | ⟨e, _⟩
    · exact e
    · omega
  have atc : ∀ u k : Nat, isT Λ u → 0 ≤ (σ0.1 203 u) → k < nfL Λ u → (σ0.1 203 u) + 1 + k = i → (s.2.2 102 (c 5) i) = some u := by
    intro u k hu ha hk e
    have e2 := stay u hu ha
    refine (ya.gb.ce i u hi).mpr ⟨hu, by omega, by omega, ?_⟩
    unfold szI
    omega
  have rz : ∀ u, isT Λ u → 0 ≤ (σ0.1 203 u) → (s.1 206 u) = 0 := by
    intro u hu ha
    rcases (ya.gb.fl u hu).2.2 with e | e
    · exact e
    · have := ya.r0 u hu e; omega
  cases hc : (s.2.2 102 (c 5) i) with
  | none =>
    refine step none (fun t e => by cases e) ?_ (fun u k t hu ha hk e _ _ => ?_)
    · unfold gCards1; rw [hc]; rfl
    · have := atc u k hu ha hk e; rw [hc] at this; cases this
  | some w =>
    by_cases hcond : (s.1 206 w) = 0 ∧ iAnd ((σ0.1 304 (c 0))) (fCard i) ≠ 0
    · refine step (fRef Λ c s i) (ya.gb.wf.refT i) ?_ (fun u k t hu ha hk e hcb hf => ?_)
      · unfold gCards1; rw [hc]; exact if_pos hcond
      · have h2 := atc u k hu ha hk e
        have e2 := stay u hu ha
        unfold fRef
        rw [h2]
        simp only
        have e3 : (i : Int) - (s.1 203 u) - 1 = k := by omega
        rw [e3, if_pos ⟨by omega, by omega⟩]
        have e4 : ((k : Int)).toNat = k := rfl
        rw [e4, ya.kx 103 _ _ (by decide) (fun z => by omega)]
        exact hf
    · refine step none (fun t e => by cases e) ?_ (fun u k t hu ha hk e hcb _ => ?_)
      · unfold gCards1; rw [hc]; exact if_neg hcond
      · exfalso
        have h2 := atc u k hu ha hk e
        rw [hc] at h2
        cases h2
        apply hcond
        refine ⟨rz w hu ha, (cb_hit _ hi).mpr ?_⟩
        rw [e] at hcb
        exact hcb
theorem y_fields (h : GD Λ c σ0) {s : Mem} (ya : YA Λ c σ0 s) {w : Nat} (hw : isT Λ w) : YA Λ c σ0 (gFields Λ c w s) ∧ (∀ k t, k < nfL Λ w → (σ0.2.2 103 (faL Λ w) k) = some t → (σ0.1 203 t) = -1 → ((gFields Λ c w s).1 206 t) = 1) ∧ (∀ u, isT Λ u → (s.1 206 u) = 1 → ((gFields Λ c w s).1 206 u) = 1) ∧ (s.1 101 (c 6)) ≤ ((gFields Λ c w s).1 101 (c 6)) ∧ ∀ i : Nat, (i : Int) < (s.1 101 (c 6)) → (gFields Λ c w s).2.2 101 (c 7) i = s.2.2 101 (c 7) i := by
  refine nfold_inv (fun n s' => YA Λ c σ0 s' ∧ (∀ k t, k < n → (σ0.2.2 103 (faL Λ w) k) = some t → (σ0.1 203 t) = -1 → (s'.1 206 t) = 1) ∧ (∀ u, isT Λ u → (s.1 206 u) = 1 → (s'.1 206 u) = 1) ∧ (s.1 101 (c 6)) ≤ (s'.1 101 (c 6)) ∧ ∀ i : Nat, (i : Int) < (s.1 101 (c 6)) → s'.2.2 101 (c 7) i = s.2.2 101 (c 7) i) ⟨ya, fun k t hk => by omega, fun u _ hu => hu, Int.le_refl _, fun _ _ => rfl⟩ (nfL Λ w) (fun k s' hk hs => ?_)
  obtain ⟨a, b, d, e, f⟩ := hs
  have ho : ∀ t, (s'.2.2 103 (faL Λ w) k) = some t → isT Λ t := fun t e => a.gb.wf.ty _ _ _ _ e
  obtain ⟨a2, b2, d2⟩ := a.reachY h.yl ho
  obtain ⟨e2, f2⟩ := reachY_row a h.yl ho
  refine ⟨a2, fun k' t hk' ef hy => ?_, fun u hu hr => d2 u hu (d u hu hr), Int.le_trans e e2, fun i hi => ?_⟩
  · by_cases ek : k' = k
    · subst ek
      have e3 : (s'.2.2 103 (faL Λ w) k') = (σ0.2.2 103 (faL Λ w) k') := a.kx _ _ _ (by decide) (fun z => by omega)
      exact b2 t (e3.trans ef) hy
    · exact d2 t (h.gb.wf.ty _ _ _ _ ef) (b k' t (by omega) ef hy)
  · exact (f2 i (by omega)).trans (f i hi)
theorem y_close (h : GD Λ c σ0) {s0 : Mem} (h0 : YA Λ c σ0 s0) (h1 : YD1 Λ c σ0 s0 6) (h2 : YD2 Λ c σ0 s0 64) : YA Λ c σ0 (nfold (gClose1 Λ c) s0 84) ∧ YD1 Λ c σ0 (nfold (gClose1 Λ c) s0 84) 6 ∧ YD2 Λ c σ0 (nfold (gClose1 Λ c) s0 84) 64 ∧ YD3 Λ c σ0 (nfold (gClose1 Λ c) s0 84) 84 := by
  refine nfold_inv (fun i s => YA Λ c σ0 s ∧ YD1 Λ c σ0 s 6 ∧ YD2 Λ c σ0 s 64 ∧ YD3 Λ c σ0 s i) ⟨h0, h1, h2, fun j u k t hj => by omega⟩ 84 (fun i s hi hs => ?_)
  obtain ⟨ya, d1, d2, d3⟩ := hs
  by_cases hc : (i : Int) < (s.1 101 (c 6))
  · obtain ⟨w, hw⟩ := ya.gb.wf.ql i hc
    have hT := ya.gb.wf.ty _ _ _ _ hw
    have e : gClose1 Λ c i s = gFields Λ c w s := by unfold gClose1; rw [if_pos hc, hw]
    rw [e]
    obtain ⟨a, b, d, e2, f⟩ := y_fields h ya hT
    refine ⟨a, fun r t hr er hy => d t (h.gb.wf.ty _ _ _ _ er) (d1 r t hr er hy), fun u k t hu ha hk hl hcb hf hy => d t (h.gb.wf.ty _ _ _ _ hf) (d2 u k t hu ha hk hl hcb hf hy), fun j u k t hj hjc hju hk hf hy => ?_⟩
    by_cases ej : j = i
    · subst ej
      rw [f j hc, hw] at hju
      cases hju
      exact b k t hk hf hy
    · have hj2 : (j : Int) < (s.1 101 (c 6)) := by omega
      rw [f j hj2] at hju
      exact d t (h.gb.wf.ty _ _ _ _ hf) (d3 j u k t (by omega) hj2 hju hk hf hy)
  · rw [gClose1_stop hc]
    refine ⟨ya, d1, d2, fun j u k t hj hjc hju hk hf hy => d3 j u k t ?_ hjc hju hk hf hy⟩
    omega
theorem y_all (h : GD Λ c σ0) : YA Λ c σ0 (gReachAllY Λ c σ0) ∧ ∀ t, Reach Λ c σ0 t → (σ0.1 203 t) = -1 → ((gReachAllY Λ c σ0).1 206 t) = 1 := by
  obtain ⟨a1, b1⟩ := y_roots h
  obtain ⟨a2, b2, d2⟩ := y_cards h a1 b1
  obtain ⟨a3, b3, d3, e3⟩ := y_close h a2 b2 d2
  have ee : gReachAllY Λ c σ0 = nfold (gClose1 Λ c) (nfold (gCards1 Λ c ((σ0.1 304 (c 0)))) (nfold (gRoots1 Λ c) σ0 6) 64) 84 := by unfold gReachAllY; rfl
  rw [ee]
  refine ⟨a3, fun t ht => ?_⟩
  have key : Reach Λ c σ0 t ∧ ((σ0.1 203 t) = -1 → ((nfold (gClose1 Λ c) (nfold (gCards1 Λ c ((σ0.1 304 (c 0)))) (nfold (gRoots1 Λ c) σ0 6) 64) 84).1 206 t) = 1) := by
    refine ht (fun t => Reach Λ c σ0 t ∧ ((σ0.1 203 t) = -1 → ((nfold (gClose1 Λ c) (nfold (gCards1 Λ c ((σ0.1 304 (c 0)))) (nfold (gRoots1 Λ c) σ0 6) 64) 84).1 206 t) = 1)) (fun r u hr e => ⟨Reach.root hr e, fun hy => b3 r u hr e hy⟩) (fun u k v hu hk hf => ⟨hu.1.fld hk hf, fun hy => ?_⟩)
    have hT : isT Λ u := hu.1.thing h.gb.wf.ty
    rcases h.gb.ad u hT with e | e | ⟨e, e2⟩
    · exact absurd e (h.s5 u hu.1)
    · obtain ⟨j, hj, hx⟩ := (a3.rl u hT).mp (hu.2 e)
      have := a3.gb.wf.q1
      exact e3 j u k v (by omega) hj hx hk hf hy
    · have h1 := h.s1 u k v hT e hk hf hy
      unfold szI at e2
      exact d3 u k v hT e hk (by omega) h1 hf hy
  exact key.2
end YB
