/-! What no exception needs: kinds of references, ranges, rows; kept by every function of the class. -/
def WF (Λ : Lam) (c : Nat → Nat) (σ : Mem) : Prop :=
  (LayC Λ c) ∧
  (∀ kd q k t, σ.2.2 kd q k = some t → isT Λ t) ∧
  (∀ f q, rng (σ.1 f q)) ∧
  (∀ t, isT Λ t → -1000 ≤ (σ.1 203 t) ∧ (σ.1 203 t) ≤ 1000) ∧
  (∀ t, isT Λ t → 0 ≤ (σ.1 202 t) ∧ (σ.1 202 t) ≤ 9) ∧
  (0 ≤ (σ.1 101 (c 2))) ∧
  ((σ.1 101 (c 2)) ≤ 20) ∧
  (0 ≤ (σ.1 101 (c 6))) ∧
  ((σ.1 101 (c 6)) ≤ 84) ∧
  (∀ i : Nat, (i : Int) < (σ.1 101 (c 2)) → ∃ t, σ.2.2 101 (c 3) i = some t) ∧
  (∀ i : Nat, (i : Int) < (σ.1 101 (c 6)) → ∃ t, σ.2.2 101 (c 7) i = some t)
theorem WF.ly {Λ : Lam} {c : Nat → Nat} {σ : Mem} (h : WF Λ c σ) : LayC Λ c := h.1
theorem WF.ty {Λ : Lam} {c : Nat → Nat} {σ : Mem} (h : WF Λ c σ) : ∀ kd q k t, σ.2.2 kd q k = some t → isT Λ t := h.2.1
theorem WF.rg {Λ : Lam} {c : Nat → Nat} {σ : Mem} (h : WF Λ c σ) : ∀ f q, rng (σ.1 f q) := h.2.2.1
theorem WF.ab {Λ : Lam} {c : Nat → Nat} {σ : Mem} (h : WF Λ c σ) : ∀ t, isT Λ t → -1000 ≤ (σ.1 203 t) ∧ (σ.1 203 t) ≤ 1000 := h.2.2.2.1
theorem WF.ag {Λ : Lam} {c : Nat → Nat} {σ : Mem} (h : WF Λ c σ) : ∀ t, isT Λ t → 0 ≤ (σ.1 202 t) ∧ (σ.1 202 t) ≤ 9 := h.2.2.2.2.1
theorem WF.y0 {Λ : Lam} {c : Nat → Nat} {σ : Mem} (h : WF Λ c σ) : 0 ≤ (σ.1 101 (c 2)) := h.2.2.2.2.2.1
theorem WF.y1 {Λ : Lam} {c : Nat → Nat} {σ : Mem} (h : WF Λ c σ) : (σ.1 101 (c 2)) ≤ 20 := h.2.2.2.2.2.2.1
theorem WF.q0 {Λ : Lam} {c : Nat → Nat} {σ : Mem} (h : WF Λ c σ) : 0 ≤ (σ.1 101 (c 6)) := h.2.2.2.2.2.2.2.1
theorem WF.q1 {Λ : Lam} {c : Nat → Nat} {σ : Mem} (h : WF Λ c σ) : (σ.1 101 (c 6)) ≤ 84 := h.2.2.2.2.2.2.2.2.1
theorem WF.yl {Λ : Lam} {c : Nat → Nat} {σ : Mem} (h : WF Λ c σ) : ∀ i : Nat, (i : Int) < (σ.1 101 (c 2)) → ∃ t, σ.2.2 101 (c 3) i = some t := h.2.2.2.2.2.2.2.2.2.1
theorem WF.ql {Λ : Lam} {c : Nat → Nat} {σ : Mem} (h : WF Λ c σ) : ∀ i : Nat, (i : Int) < (σ.1 101 (c 6)) → ∃ t, σ.2.2 101 (c 7) i = some t := h.2.2.2.2.2.2.2.2.2.2
theorem upI_1 (σ : Mem) (f q : Nat) (v : Int) (f' q' : Nat) : (upI σ f q v).1 f' q' = if f' = f ∧ q' = q then v else σ.1 f' q' := rfl
theorem upI_2 (σ : Mem) (f q : Nat) (v : Int) : (upI σ f q v).2 = σ.2 := rfl
theorem upI_ne {σ : Mem} {f q : Nat} {v : Int} {f' q' : Nat} (h : f' ≠ f) : (upI σ f q v).1 f' q' = σ.1 f' q' := by rw [upI_1, if_neg (fun z => h z.1)]
theorem upI_nq {σ : Mem} {f q : Nat} {v : Int} {f' q' : Nat} (h : q' ≠ q) : (upI σ f q v).1 f' q' = σ.1 f' q' := by rw [upI_1, if_neg (fun z => h z.2)]
theorem upI_at {σ : Mem} {f q : Nat} {v : Int} : (upI σ f q v).1 f q = v := by rw [upI_1, if_pos ⟨rfl, rfl⟩]
theorem upX_1 (σ : Mem) (kd q k : Nat) (v : Option Nat) : (upX σ kd q k v).1 = σ.1 := rfl
theorem upX_22 (σ : Mem) (kd q k : Nat) (v : Option Nat) (kd' q' k' : Nat) : (upX σ kd q k v).2.2 kd' q' k' = if kd' = kd ∧ q' = q ∧ k' = k then v else σ.2.2 kd' q' k' := rfl
theorem LayC.ne37 {Λ : Lam} {c : Nat → Nat} (h : LayC Λ c) : c 3 ≠ c 7 := by
  obtain ⟨-, -, ⟨-, cA, h1⟩, -, -, ⟨-, cB, h2⟩⟩ := h
  intro e
  rw [e, h2] at h1
  cases h1
theorem LayC.ne26 {Λ : Lam} {c : Nat → Nat} (h : LayC Λ c) : c 2 ≠ c 6 := by
  have h37 := h.ne37
  obtain ⟨-, -, ⟨h1, -⟩, -, -, ⟨h2, -⟩⟩ := h
  intro e
  rw [e, h2] at h1
  simp at h1
  omega
section WFS
variable {Λ : Lam} {c : Nat → Nat} {σ : Mem}
theorem WF.rowY (h : WF Λ c σ) : isRow Λ (c 2) (c 3) 20 := h.ly.2.2.1
theorem WF.rowQ (h : WF Λ c σ) : isRow Λ (c 6) (c 7) 84 := h.ly.2.2.2.2.2
theorem WF.upT (h : WF Λ c σ) {f q : Nat} {v : Int} (hf : f ≠ 101) (hf2 : f ≠ 203) (hf3 : f ≠ 202) (hv : rng v) : WF Λ c (upI σ f q v) := by
  have e : ∀ f' b, f' ≠ f → (upI σ f q v).1 f' b = σ.1 f' b := fun f' b h => upI_ne h
  refine ⟨h.ly, h.ty, fun f' q' => ?_, fun t ht => ?_, fun t ht => ?_, ?_, ?_, ?_, ?_, fun i hi => ?_, fun i hi => ?_⟩
  · rw [upI_1]
    split
    · exact hv
    · exact h.rg f' q'
  · rw [e _ _ hf2.symm]; exact h.ab t ht
  · rw [e _ _ hf3.symm]; exact h.ag t ht
  · rw [e _ _ hf.symm]; exact h.y0
  · rw [e _ _ hf.symm]; exact h.y1
  · rw [e _ _ hf.symm]; exact h.q0
  · rw [e _ _ hf.symm]; exact h.q1
  · rw [e _ _ hf.symm] at hi; exact h.yl i hi
  · rw [e _ _ hf.symm] at hi; exact h.ql i hi
theorem WF.upAdr (h : WF Λ c σ) {q : Nat} {v : Int} (hv : -1000 ≤ v ∧ v ≤ 1000) : WF Λ c (upI σ 203 q v) := by
  refine ⟨h.ly, h.ty, fun f' q' => ?_, fun t ht => ?_, h.ag, h.y0, h.y1, h.q0, h.q1, h.yl, h.ql⟩
  · rw [upI_1]
    split
    · exact ⟨by omega, by omega⟩
    · exact h.rg f' q'
  · rw [upI_1]
    split
    · exact hv
    · exact h.ab t ht
theorem WF.upAge (h : WF Λ c σ) {q : Nat} {v : Int} (hv : 0 ≤ v ∧ v ≤ 9) : WF Λ c (upI σ 202 q v) := by
  refine ⟨h.ly, h.ty, fun f' q' => ?_, h.ab, fun t ht => ?_, h.y0, h.y1, h.q0, h.q1, h.yl, h.ql⟩
  · rw [upI_1]
    split
    · exact ⟨by omega, by omega⟩
    · exact h.rg f' q'
  · rw [upI_1]
    split
    · exact hv
    · exact h.ag t ht
theorem WF.fill (h : WF Λ c σ) {lo hi : Int} {o : Option Nat} (ho : ∀ t, o = some t → isT Λ t) : WF Λ c (gFill c lo hi o σ) := by
  refine ⟨h.ly, fun kd q k t ht => ?_, h.rg, h.ab, h.ag, h.y0, h.y1, h.q0, h.q1, h.yl, h.ql⟩
  unfold gFill at ht
  simp only at ht
  split at ht
  · exact ho t ht
  · exact h.ty kd q k t ht
theorem WF.put (h : WF Λ c σ) {t : Nat} {p : Int} (ht : isT Λ t) (hp : -1000 ≤ p ∧ p ≤ 1000) : WF Λ c (gPut Λ c t p σ) := (h.upAdr hp).fill (fun t' e => by cases e; exact ht)
theorem WF.take (h : WF Λ c σ) {t : Nat} : WF Λ c (gTake Λ c t σ) := h.fill (fun t' e => by cases e)
theorem WF.addX (h : WF Λ c σ) {q k : Nat} {o : Option Nat} (ho : ∀ t, o = some t → isT Λ t) : ∀ kd q' k' t, (upX σ 101 q k o).2.2 kd q' k' = some t → isT Λ t := by
  intro kd q' k' t ht
  rw [upX_22] at ht
  split at ht
  · exact ho t ht
  · exact h.ty kd q' k' t ht
theorem WF.addQ (h : WF Λ c σ) {t : Nat} (ht : isT Λ t) (hc : (σ.1 101 (c 6)) < 84) : WF Λ c (gAdd (c 6) (c 7) (some t) σ) := by
  have n26 := h.ly.ne26
  have n37 := h.ly.ne37
  have h0 := h.q0
  have e6 : (gAdd (c 6) (c 7) (some t) σ).1 101 (c 6) = (σ.1 101 (c 6)) + 1 := by unfold gAdd; rw [upI_at]
  have e2 : (gAdd (c 6) (c 7) (some t) σ).1 101 (c 2) = (σ.1 101 (c 2)) := by unfold gAdd; rw [upI_nq n26]; rfl
  have er : ∀ f q, (f ≠ 101) → (gAdd (c 6) (c 7) (some t) σ).1 f q = σ.1 f q := by intro f q hf; unfold gAdd; rw [upI_ne hf]; rfl
  refine ⟨h.ly, h.addX (fun t' e => by cases e; exact ht), fun f q => ?_, fun t' h' => ?_, fun t' h' => ?_, ?_, ?_, ?_, ?_, fun i hi => ?_, fun i hi => ?_⟩
  · unfold gAdd
    rw [upI_1]
    split
    · exact ⟨by omega, by omega⟩
    · exact h.rg f q
  · rw [er _ _ (by decide)]; exact h.ab t' h'
  · rw [er _ _ (by decide)]; exact h.ag t' h'
  · rw [e2]; exact h.y0
  · rw [e2]; exact h.y1
  · rw [e6]; omega
  · rw [e6]; omega
  · rw [e2] at hi
    obtain ⟨t', h'⟩ := h.yl i hi
    refine ⟨t', ?_⟩
    show (upX σ 101 (c 7) _ _).2.2 101 (c 3) i = _
    rw [upX_22, if_neg (fun z => n37 z.2.1)]
    exact h'
  · rw [e6] at hi
    show ∃ t', (upX σ 101 (c 7) _ _).2.2 101 (c 7) i = _
    rw [upX_22]
    by_cases e : i = ((σ.1 101 (c 6))).toNat
    · rw [if_pos ⟨rfl, rfl, e⟩]; exact ⟨t, rfl⟩
    · rw [if_neg (fun z => e z.2.2)]
      exact h.ql i (by omega)
theorem WF.addY (h : WF Λ c σ) {t : Nat} (ht : isT Λ t) (hc : (σ.1 101 (c 2)) < 20) : WF Λ c (gAdd (c 2) (c 3) (some t) σ) := by
  have n26 := h.ly.ne26
  have n37 := h.ly.ne37
  have h0 := h.y0
  have e6 : (gAdd (c 2) (c 3) (some t) σ).1 101 (c 2) = (σ.1 101 (c 2)) + 1 := by unfold gAdd; rw [upI_at]
  have e2 : (gAdd (c 2) (c 3) (some t) σ).1 101 (c 6) = (σ.1 101 (c 6)) := by unfold gAdd; rw [upI_nq n26.symm]; rfl
  have er : ∀ f q, (f ≠ 101) → (gAdd (c 2) (c 3) (some t) σ).1 f q = σ.1 f q := by intro f q hf; unfold gAdd; rw [upI_ne hf]; rfl
  refine ⟨h.ly, h.addX (fun t' e => by cases e; exact ht), fun f q => ?_, fun t' h' => ?_, fun t' h' => ?_, ?_, ?_, ?_, ?_, fun i hi => ?_, fun i hi => ?_⟩
  · unfold gAdd
    rw [upI_1]
    split
    · exact ⟨by omega, by omega⟩
    · exact h.rg f q
  · rw [er _ _ (by decide)]; exact h.ab t' h'
  · rw [er _ _ (by decide)]; exact h.ag t' h'
  · rw [e6]; omega
  · rw [e6]; omega
  · rw [e2]; exact h.q0
  · rw [e2]; exact h.q1
  · rw [e6] at hi
    show ∃ t', (upX σ 101 (c 3) _ _).2.2 101 (c 3) i = _
    rw [upX_22]
    by_cases e : i = ((σ.1 101 (c 2))).toNat
    · rw [if_pos ⟨rfl, rfl, e⟩]; exact ⟨t, rfl⟩
    · rw [if_neg (fun z => e z.2.2)]
      exact h.yl i (by omega)
  · rw [e2] at hi
    obtain ⟨t', h'⟩ := h.ql i hi
    refine ⟨t', ?_⟩
    show (upX σ 101 (c 3) _ _).2.2 101 (c 7) i = _
    rw [upX_22, if_neg (fun z => n37 z.2.1.symm)]
    exact h'
theorem WF.emptyY (h : WF Λ c σ) : WF Λ c (upI σ 101 (c 2) 0) := by
  have n26 := h.ly.ne26
  have e2 : (upI σ 101 (c 2) 0).1 101 (c 2) = 0 := upI_at
  have e6 : (upI σ 101 (c 2) 0).1 101 (c 6) = (σ.1 101 (c 6)) := upI_nq n26.symm
  refine ⟨h.ly, h.ty, fun f q => ?_, h.ab, h.ag, ?_, ?_, ?_, ?_, fun i hi => ?_, fun i hi => ?_⟩
  · rw [upI_1]; split
    · exact rng_0
    · exact h.rg f q
  · rw [e2]; omega
  · rw [e2]; omega
  · rw [e6]; exact h.q0
  · rw [e6]; exact h.q1
  · rw [e2] at hi; omega
  · rw [e6] at hi; exact h.ql i hi
theorem WF.emptyQ (h : WF Λ c σ) : WF Λ c (upI σ 101 (c 6) 0) := by
  have n26 := h.ly.ne26
  have e2 : (upI σ 101 (c 6) 0).1 101 (c 6) = 0 := upI_at
  have e6 : (upI σ 101 (c 6) 0).1 101 (c 2) = (σ.1 101 (c 2)) := upI_nq n26
  refine ⟨h.ly, h.ty, fun f q => ?_, h.ab, h.ag, ?_, ?_, ?_, ?_, fun i hi => ?_, fun i hi => ?_⟩
  · rw [upI_1]; split
    · exact rng_0
    · exact h.rg f q
  · rw [e6]; exact h.y0
  · rw [e6]; exact h.y1
  · rw [e2]; omega
  · rw [e2]; omega
  · rw [e6] at hi; exact h.yl i hi
  · rw [e2] at hi; omega
theorem WF.fold (h : WF Λ c σ) {f : Nat → Mem → Mem} (n : Nat) (hs : ∀ i s, i < n → WF Λ c s → WF Λ c (f i s)) : WF Λ c (nfold f σ n) := nfold_inv (fun _ s => WF Λ c s) h n (fun i b hi hb => hs i b hi hb)
theorem WF.fold2 {α : Type} {a : α × Mem} (h : WF Λ c a.2) {f : Nat → α × Mem → α × Mem} (n : Nat) (hs : ∀ i s, i < n → WF Λ c s.2 → WF Λ c (f i s).2) : WF Λ c (nfold f a n).2 := nfold_inv (fun _ s => WF Λ c s.2) h n (fun i b hi hb => hs i b hi hb)
theorem WF.letGo (h : WF Λ c σ) : WF Λ c (gLetGo (c 6) (c 7) σ) := by
  unfold gLetGo
  refine WF.emptyQ (h.fold _ (fun i s _ hs => ?_))
  unfold gLet1
  split
  · exact hs
  · exact hs.upT (by decide) (by decide) (by decide) rng_0
theorem WF.reach (h : WF Λ c σ) {o : Option Nat} (ho : ∀ t, o = some t → isT Λ t) : WF Λ c (fReach (c 6) (c 7) 84 o σ).2 := by
  unfold fReach
  split
  · exact h
  · rename_i t
    split
    · split
      · exact h
      · exact (h.addQ (ho t rfl) (by omega)).upT (by decide) (by decide) (by decide) ⟨by omega, by omega⟩
    · exact h
theorem place_le (s : Mem) {z : Int} (hz : 1 ≤ z) : -1 ≤ fPlace c s z ∧ fPlace c s z ≤ 64 := by
  rcases plc_is (fr := fFree c s) hz with h | h
  · unfold fPlace; omega
  · unfold fPlace; omega
theorem WF.placeOld (h : WF Λ c σ) {t : Nat} (ht : isT Λ t) : WF Λ c (fPlaceOld Λ c t σ).2 := by
  have hz := szI_le ht
  have hp := place_le (c := c) σ hz.1
  unfold fPlaceOld
  split
  · exact h
  · refine WF.upT (WF.upT (h.put ht ⟨by omega, by omega⟩) (by decide) (by decide) (by decide) (rng_or _ _)) (by decide) (by decide) (by decide) ?_
    split
    · exact rng_0
    · exact ⟨by omega, by omega⟩
theorem WF.reachY (h : WF Λ c σ) {o : Option Nat} (ho : ∀ t, o = some t → isT Λ t) : WF Λ c (gReachY Λ c o σ) := by
  unfold gReachY
  split
  · exact h
  · rename_i t
    have ht := ho t rfl
    have h1 := h.reach (o := some t) (fun t' e => by cases e; exact ht)
    split
    · split
      · exact h1
      · have ha := h1.ag t ht
        have h2 : WF Λ c (upI (fReach (c 6) (c 7) 84 (some t) σ).2 202 t (min (((fReach (c 6) (c 7) 84 (some t) σ).2.1 202 t) + 1) 9)) := h1.upAge ⟨by omega, by omega⟩
        simp only
        split
        · exact h2.placeOld ht
        · exact h2
    · exact h
theorem WF.refT (h : WF Λ c σ) (a : Nat) : ∀ t, fRef Λ c σ a = some t → isT Λ t := by
  intro t ht
  unfold fRef at ht
  split at ht
  · cases ht
  · split at ht
    · exact h.ty _ _ _ _ ht
    · cases ht
theorem WF.atT (h : WF Λ c σ) (a : Nat) : ∀ t, fAt c σ a = some t → isT Λ t := by
  intro t ht
  unfold fAt at ht
  split at ht
  · cases ht
  · rename_i u hu
    split at ht
    · cases ht; exact h.ty _ _ _ _ hu
    · cases ht
theorem WF.cards1 (h : WF Λ c σ) {db : Int} (a : Nat) : WF Λ c (gCards1 Λ c db a σ) := by
  unfold gCards1
  split
  · exact h
  · split
    · exact h.reachY (h.refT a)
    · exact h
theorem WF.fields (h : WF Λ c σ) (t : Nat) : WF Λ c (gFields Λ c t σ) := h.fold _ (fun k s _ hs => hs.reachY (fun t' e => hs.ty _ _ _ _ e))
theorem WF.close1 (h : WF Λ c σ) (i : Nat) : WF Λ c (gClose1 Λ c i σ) := by
  unfold gClose1
  split
  · split
    · exact h
    · exact h.fields _
  · exact h
theorem WF.reachAllY (h : WF Λ c σ) : WF Λ c (gReachAllY Λ c σ) := by
  unfold gReachAllY
  exact ((h.fold _ (fun r s _ hs => hs.reachY (fun t' e => hs.ty _ _ _ _ e))).fold _ (fun a s _ hs => hs.cards1 a)).fold _ (fun i s _ hs => hs.close1 i)
theorem WF.drop (h : WF Λ c σ) : WF Λ c (gDrop c σ) := by
  unfold gDrop
  refine h.fold _ (fun i s _ hs => ?_)
  unfold gDrop1
  split
  · exact hs
  · split
    · exact hs.upAdr ⟨by omega, by omega⟩
    · exact hs
theorem WF.fAddY (h : WF Λ c σ) {t : Nat} (ht : isT Λ t) : WF Λ c (fAdd (c 2) (c 3) 20 (some t) σ).2 := by
  unfold fAdd
  split
  · exact h
  · exact h.addY ht (by omega)
theorem WF.renew (h : WF Λ c σ) : WF Λ c (fRenew c σ).2 := by
  unfold fRenew
  refine WF.fold2 (a := ((0 : Int), upI σ 101 (c 2) 0)) h.emptyY _ (fun i s _ hs => ?_)
  unfold gRenew1
  split
  · exact hs
  · rename_i t ht
    split
    · exact hs.fAddY (hs.ty _ _ _ _ ht)
    · exact hs
theorem WF.clean (h : WF Λ c σ) : WF Λ c (gClean Λ c σ) := by
  unfold gClean
  simp only
  split
  · exact (h.upT (by decide) (by decide) (by decide) (rng_and _ _)).upT (by decide) (by decide) (by decide) (rng_or _ _)
  · exact h.upT (by decide) (by decide) (by decide) (rng_and _ _)
set_option maxRecDepth 100000 in
theorem WF.young (h : WF Λ c σ) : WF Λ c (fYoung Λ c σ).2 := by
  have h1 : WF Λ c (fYng1 Λ c σ).2 := by unfold fYng1; exact WF.renew (WF.drop h.reachAllY)
  have h2 := WF.clean (WF.letGo h1)
  unfold fYoung
  dsimp only
  exact h2
theorem WF.findAll (h : WF Λ c σ) : WF Λ c (gFindAll Λ c σ) := by
  unfold gFindAll
  refine WF.fold (h.fold _ (fun r s _ hs => hs.reach (fun t' e => hs.ty _ _ _ _ e))) _ (fun i s _ hs => ?_)
  unfold gFind1
  split
  · split
    · exact hs
    · exact hs.fold _ (fun k s2 _ hs2 => hs2.reach (fun t' e => hs2.ty _ _ _ _ e))
  · exact hs
theorem WF.unm (h : WF Λ c σ) : WF Λ c (gUnm c σ) := by
  unfold gUnm
  refine h.fold _ (fun i s _ hs => ?_)
  unfold gUnm1
  split
  · exact hs
  · exact (hs.upT (by decide) (by decide) (by decide) rng_0).upT (by decide) (by decide) (by decide) rng_0
theorem WF.greyOn (h : WF Λ c σ) (cards : Int) : WF Λ c (gGrey c cards σ) := by
  unfold gGrey
  refine h.fold _ (fun i s _ hs => ?_)
  unfold gGrey1
  split
  · exact hs
  · split
    · exact hs.upT (by decide) (by decide) (by decide) ⟨by omega, by omega⟩
    · exact hs
theorem WF.slide (h : WF Λ c σ) : WF Λ c (gSlide Λ c σ) ∧ ∀ i, i ≤ 64 → WF Λ c (nfold (gSlide1 Λ c) (0, σ) i).2 ∧ 0 ≤ (nfold (gSlide1 Λ c) (0, σ) i).1 ∧ (nfold (gSlide1 Λ c) (0, σ) i).1 ≤ 4 * i := by
  have key : ∀ i, i ≤ 64 → WF Λ c (nfold (gSlide1 Λ c) (0, σ) i).2 ∧ 0 ≤ (nfold (gSlide1 Λ c) (0, σ) i).1 ∧ (nfold (gSlide1 Λ c) (0, σ) i).1 ≤ 4 * i := by
    intro i
    induction i with
    | zero => intro _; exact ⟨h, by show (0 : Int) ≤ 0; omega, by show (0 : Int) ≤ 4 * 0; omega⟩
    | succ i ih =>
      intro hi
      obtain ⟨h1, h2, h3⟩ := ih (by omega)
      rw [nfold_s]
      generalize nfold (gSlide1 Λ c) (0, σ) i = u at h1 h2 h3
      unfold gSlide1
      split
      · exact ⟨h1, h2, by omega⟩
      · rename_i t ht
        have hT := h1.atT i t ht
        have hz := szI_le hT
        split
        · exact ⟨(h1.take).put hT ⟨by omega, by omega⟩, by simp only; omega, by simp only; omega⟩
        · exact ⟨(h1.take).upAdr ⟨by omega, by omega⟩, h2, by simp only; omega⟩
  exact ⟨(key 64 (by omega)).1, key⟩
theorem WF.keep (h : WF Λ c σ) : WF Λ c (gKeep c σ) := by
  unfold gKeep
  refine WF.fold (WF.emptyY h.drop) _ (fun i s _ hs => ?_)
  unfold gKeep1
  split
  · exact hs
  · rename_i t ht
    split
    · exact hs.fAddY (hs.ty _ _ _ _ ht)
    · exact hs
theorem shade_wf (h : WF Λ c σ) (o : Option Nat) : WF Λ c (fShade o σ).2 := by
  unfold fShade
  split
  · exact h
  · split
    · exact (h.upT (by decide) (by decide) (by decide) ⟨by omega, by omega⟩).upT (by decide) (by decide) (by decide) ⟨by omega, by omega⟩
    · exact h
theorem shadeF_wf (h : WF Λ c σ) (t : Nat) : WF Λ c (fShadeF Λ t σ).2 := by
  unfold fShadeF
  exact WF.fold2 (a := ((0 : Int), σ)) h _ (fun i s _ hs => shade_wf hs _)
theorem shadeR_wf (h : WF Λ c σ) : WF Λ c (fShadeR c σ).2 := by
  unfold fShadeR
  exact WF.fold2 (a := ((0 : Int), σ)) h _ (fun i s _ hs => shade_wf hs _)
theorem shadeY_wf (h : WF Λ c σ) : WF Λ c (fShadeY Λ c σ).2 := by
  unfold fShadeY
  refine WF.fold2 (a := ((0 : Int), σ)) h _ (fun i s _ hs => ?_)
  unfold gShY1
  split
  · exact hs
  · exact shadeF_wf hs _
theorem scan_wf (h : WF Λ c σ) (t : Nat) : WF Λ c (fScan Λ t σ).2 := shadeF_wf (h.upT (by decide) (by decide) (by decide) rng_0) t
theorem scanAll_wf (h : WF Λ c σ) : WF Λ c (fScanAll Λ c σ).2 := by
  unfold fScanAll
  refine WF.fold2 (a := ((0 : Int), σ)) h _ (fun i s _ hs => ?_)
  unfold gScan1
  split
  · exact hs
  · exact scan_wf hs _
theorem WF.restY (h : WF Λ c σ) (n : Int) (i : Nat) : WF Λ c (gRest1 c n i σ) := by
  unfold gRest1
  split
  · split
    · exact h
    · rename_i t ht
      exact h.fAddY (h.ty _ _ _ _ ht)
  · exact h
theorem WF.mov1 (h : WF Λ c σ) (n : Nat) : WF Λ c (nfold (gMove1 Λ c) (0, σ) n).2 := by
  refine WF.fold2 (a := ((0 : Int), σ)) h _ (fun i s _ hs => ?_)
  unfold gMove1
  split
  · split
    · exact hs
    · rename_i t ht
      have := hs.placeOld (hs.ty _ _ _ _ ht)
      split
      · exact this
      · exact this
  · exact hs
end WFS
