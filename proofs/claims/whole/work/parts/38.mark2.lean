/-! begin, mark, preclean, remark, sweep keep what holds between calls. -/
def MM (Λ : Lam) (σ0 σ : Mem) : Prop :=
  (σ.2 = σ0.2) ∧
  (∀ f q, f ≠ 204 → f ≠ 205 → σ.1 f q = σ0.1 f q) ∧
  (∀ t, isT Λ t → (σ0.1 204 t) = 1 → (σ.1 204 t) = 1)
theorem MM.kx {Λ : Lam} {σ0 σ : Mem} (h : MM Λ σ0 σ) : σ.2 = σ0.2 := h.1
theorem MM.ki {Λ : Lam} {σ0 σ : Mem} (h : MM Λ σ0 σ) : ∀ f q, f ≠ 204 → f ≠ 205 → σ.1 f q = σ0.1 f q := h.2.1
theorem MM.up {Λ : Lam} {σ0 σ : Mem} (h : MM Λ σ0 σ) : ∀ t, isT Λ t → (σ0.1 204 t) = 1 → (σ.1 204 t) = 1 := h.2.2
theorem sumN_lt {f g : Nat → Int} {n a0 : Nat} (h : ∀ i, i < n → f i ≤ g i) (ha : a0 < n) (h0 : f a0 + 1 ≤ g a0) : sumN f n + 1 ≤ sumN g n := by
  induction n with
  | zero => omega
  | succ n ih =>
    show sumN f n + f n + 1 ≤ sumN g n + g n
    by_cases e : a0 = n
    · have := sumN_le (n := n) (fun i hi => h i (by omega))
      rw [e] at h0
      omega
    · have := ih (fun i hi => h i (by omega)) (by omega)
      have := h n (by omega)
      omega
section MKT
variable {Λ : Lam} {c : Nat → Nat} {σ σ0 σ1 σ2 : Mem}
theorem MM.rf : MM Λ σ σ := ⟨rfl, fun _ _ _ _ => rfl, fun _ _ h => h⟩
theorem MM.tr (h1 : MM Λ σ0 σ1) (h2 : MM Λ σ1 σ2) : MM Λ σ0 σ2 := ⟨h2.kx.trans h1.kx, fun f q a b => (h2.ki f q a b).trans (h1.ki f q a b), fun t ht h => h2.up t ht (h1.up t ht h)⟩
theorem SH.mm (h : SH Λ σ0 σ) : MM Λ σ0 σ := ⟨h.kx, h.ki, fun _ ht hm => h.up ht hm⟩
theorem MM.grey0 (t : Nat) (v : Int) : MM Λ σ (upI σ 205 t v) := ⟨rfl, fun f q _ h => upI_ne h, fun u _ h => by rw [upI_ne (by decide)]; exact h⟩
theorem scan_mm (g : GB Λ c σ) (t : Nat) : MM Λ σ (fScan Λ t σ).2 ∧ GB Λ c (fScan Λ t σ).2 := by
  have s1 := (shadeF_sh (g.grey0 t) (t := t)).1
  exact ⟨(MM.grey0 t 0).tr s1.mm, s1.gb (g.grey0 t) (scan_wf g.wf t)⟩
def uM (c : Nat → Nat) (σ : Mem) (a : Nat) : Int := match fAt c σ a with
  | none => 0
  | some t => if (σ.1 204 t) = 0 ∨ (σ.1 205 t) ≠ 0 then 1 else 0
theorem fAt_congr {s s' : Mem} (hx : s'.2 = s.2) (ha : ∀ t, (s'.1 203 t) = (s.1 203 t)) (a : Nat) : fAt c s' a = fAt c s a := by
  unfold fAt
  rw [hx]
  cases (s.2.2 102 (c 5) a) with
  | none => rfl
  | some t => simp only [ha]
theorem scan_less (g : GB Λ c σ) {t : Nat} (ht : fGrey c σ = some t) : sumN (uM c (fScan Λ t σ).2) 64 + 1 ≤ sumN (uM c σ) 64 := by
  obtain ⟨hT, ha, hg⟩ := (grey_at g).1 t ht
  have zt := szI_le hT
  have h64 : (σ.1 203 t) + szI Λ t ≤ 64 := by
    rcases g.ad t hT with x | x | ⟨_, x⟩ <;> omega
  have hm : (σ.1 204 t) = 1 := by
    refine g.gm t hT (by omega) ?_
    rcases (g.fl t hT).2.1 with x | x
    · exact absurd x hg
    · exact x
  have s1 := (shadeF_sh (g.grey0 t) (t := t)).1
  have ew : fScan Λ t σ = fShadeF Λ t (upI σ 205 t 0) := rfl
  rw [ew]
  generalize (fShadeF Λ t (upI σ 205 t 0)).2 = s at *
  have eat : ∀ a, fAt c s a = fAt c σ a := fun a => fAt_congr (s1.kx.trans rfl) (fun u => (s1.adr u).trans (upI_ne (by decide))) a
  have hat : fAt c σ ((σ.1 203 t)).toNat = some t := by
    have hc := (g.ce ((σ.1 203 t)).toNat t (by omega)).mpr ⟨hT, ha, by omega, by omega⟩
    unfold fAt
    rw [hc]
    simp only
    rw [if_pos (by omega)]
  have hst : (s.1 204 t) = 1 ∧ (s.1 205 t) = 0 := by
    rcases s1.mg t hT with ⟨a1, a2⟩ | ⟨_, a2, _⟩
    · rw [upI_ne (by decide)] at a1
      rw [upI_at] at a2
      exact ⟨a1.trans hm, a2⟩
    · rw [upI_ne (by decide)] at a2; omega
  refine sumN_lt (fun a ha2 => ?_) (a0 := ((σ.1 203 t)).toNat) (by omega) ?_
  · unfold uM
    rw [eat]
    cases hx : fAt c σ a with
    | none => exact Int.le_refl _
    | some w =>
      simp only
      have hW := g.wf.atT a w hx
      by_cases e : w = t
      · rw [e, if_neg (by omega)]
        split <;> omega
      · rcases s1.mg w hW with ⟨a1, a2⟩ | ⟨_, a2, _⟩
        · rw [upI_ne (by decide)] at a1
          rw [upI_nq e] at a2
          rw [a1, a2]
          exact Int.le_refl _
        · rw [upI_ne (by decide)] at a2
          rw [if_pos (show (σ.1 204 w) = 0 ∨ (σ.1 205 w) ≠ 0 from Or.inl a2)]
          split <;> omega
  · unfold uM
    rw [eat, hat]
    simp only
    rw [if_neg (by omega), if_pos (Or.inr hg)]
    omega
theorem scanAll_is (g : GB Λ c σ) (tc : TC Λ σ) : GB Λ c (fScanAll Λ c σ).2 ∧ MM Λ σ (fScanAll Λ c σ).2 ∧ TC Λ (fScanAll Λ c σ).2 ∧ fGrey c (fScanAll Λ c σ).2 = none := by
  have nn : ∀ s : Mem, 0 ≤ sumN (uM c s) 64 ∧ sumN (uM c s) 64 ≤ 64 := by
    intro s
    have hb : ∀ a, 0 ≤ uM c s a ∧ uM c s a ≤ 1 := by
      intro a
      unfold uM
      split
      · omega
      · split <;> omega
    constructor
    · have := sumN_le (f := fun _ => 0) (g := uM c s) (n := 64) (fun i _ => (hb i).1)
      rw [sumN_const] at this
      omega
    · have := sumN_le (f := uM c s) (g := fun _ => 1) (n := 64) (fun i _ => (hb i).2)
      rw [sumN_const] at this
      omega
  have key : ∀ n : Nat, GB Λ c (nfold (gScan1 Λ c) (0, σ) n).2 ∧ MM Λ σ (nfold (gScan1 Λ c) (0, σ) n).2 ∧ TC Λ (nfold (gScan1 Λ c) (0, σ) n).2 ∧ (fGrey c (nfold (gScan1 Λ c) (0, σ) n).2 = none ∨ sumN (uM c (nfold (gScan1 Λ c) (0, σ) n).2) 64 + n ≤ 64) := by
    intro n
    induction n with
    | zero => exact ⟨g, MM.rf, tc, Or.inr (by have := (nn σ).2; show sumN (uM c σ) 64 + ((0 : Nat) : Int) ≤ 64; omega)⟩
    | succ n ih =>
      obtain ⟨a1, a2, a3, a4⟩ := ih
      rw [nfold_s]
      generalize nfold (gScan1 Λ c) (0, σ) n = u at *
      cases hg : fGrey c u.2 with
      | none =>
        rw [gScan1_stop hg]
        exact ⟨a1, a2, a3, Or.inl hg⟩
      | some t =>
        have e : gScan1 Λ c n u = (u.1 + (fScan Λ t u.2).1, (fScan Λ t u.2).2) := by unfold gScan1; rw [hg]
        rw [e]
        obtain ⟨m1, m2⟩ := scan_mm a1 t
        refine ⟨m2, a2.tr m1, a3.scan a1, Or.inr ?_⟩
        have := scan_less a1 hg
        rcases a4 with x | x
        · rw [hg] at x; cases x
        · simp only; omega
  obtain ⟨a1, a2, a3, a4⟩ := key 64
  unfold fScanAll
  refine ⟨a1, a2, a3, ?_⟩
  rcases a4 with x | x
  · exact x
  · cases hg : fGrey c (nfold (gScan1 Λ c) (0, σ) 64).2 with
    | none => rfl
    | some t =>
      have := scan_less a1 hg
      have := nn (fScan Λ t (nfold (gScan1 Λ c) (0, σ) 64).2).2
      omega
-- changes of the heap's own numbers
theorem GB.upH (g : GB Λ c σ) {f : Nat} {v : Int} (hf : f = 305 ∨ f = 306 ∨ f = 307) (hv : (f = 305 → lo8 v) ∧ (f = 306 → v = 0 ∨ v = 1 ∨ v = 2) ∧ (f = 307 → 0 ≤ v ∧ v ≤ 64)) : GB Λ c (upI σ f (c 0) v) := by
  have hr : rng v := by
    rcases hf with e | e | e
    · exact (hv.1 e).1
    · rcases hv.2.1 e with x | x | x <;> exact ⟨by omega, by omega⟩
    · have := hv.2.2 e; exact ⟨by omega, by omega⟩
  have ne : ∀ f' q, f' ≠ 305 → f' ≠ 306 → f' ≠ 307 → (upI σ f (c 0) v).1 f' q = σ.1 f' q := by
    intro f' q h1 h2 h3
    refine upI_ne (fun e => ?_)
    rcases hf with x | x | x <;> omega
  refine ⟨g.wf.upT (by omega) (by omega) (by omega) hr, fun t ht => ?_, fun a t ha => ?_, fun t ht => ?_, fun t ht => ?_, fun t ht => ?_, ?_, ?_, ?_, ?_⟩
  · rw [ne _ _ (by decide) (by decide) (by decide)]; exact g.ad t ht
  · rw [ne _ _ (by decide) (by decide) (by decide)]; exact g.ce a t ha
  · rw [ne 204 _ (by decide) (by decide) (by decide), ne 205 _ (by decide) (by decide) (by decide), ne 206 _ (by decide) (by decide) (by decide)]; exact g.fl t ht
  · rw [ne 203 _ (by decide) (by decide) (by decide), ne 204 _ (by decide) (by decide) (by decide), ne 205 _ (by decide) (by decide) (by decide)]; exact g.ym t ht
  · rw [ne 203 _ (by decide) (by decide) (by decide), ne 204 _ (by decide) (by decide) (by decide), ne 205 _ (by decide) (by decide) (by decide)]; exact g.gm t ht
  · rw [ne 304 _ (by decide) (by decide) (by decide)]; exact g.d8
  · rw [upI_1]
    split
    · rename_i h; exact hv.1 h.1.symm
    · exact g.n8
  · rw [upI_1]
    split
    · rename_i h; exact hv.2.1 h.1.symm
    · exact g.ph
  · rw [upI_1]
    split
    · rename_i h; exact hv.2.2 h.1.symm
    · exact g.sw
theorem taken_congr {s s' : Mem} (h1 : (s'.1 101 (c 2)) = (s.1 101 (c 2))) (h2 : ∀ i, s'.2.2 101 (c 3) i = s.2.2 101 (c 3) i) : fTaken Λ (c 2) (c 3) s' = fTaken Λ (c 2) (c 3) s := by
  unfold fTaken
  rw [h1]
  refine sumN_congr (fun i _ => ?_)
  unfold fSzAt
  rw [h2]
-- what stays of GD where only marks, noted cards, phase and sweep address change
theorem GD.keep (h : GD Λ c σ) {s : Mem} (g : GB Λ c s) (kx : s.2 = σ.2) (ki : ∀ f q, f ≠ 204 → f ≠ 205 → f ≠ 305 → f ≠ 306 → f ≠ 307 → s.1 f q = σ.1 f q)
    (s2 : (s.1 306 (c 0)) = 0 → ∀ t, isT Λ t → (σ.1 203 t) ≠ -2 → (s.1 204 t) = 0)
    (s3 : (s.1 306 (c 0)) = 1 → ∀ t k u : Nat, isT Λ t → 0 ≤ (σ.1 203 t) → (s.1 204 t) = 1 → (s.1 205 t) = 0 → k < nfL Λ t → (σ.2.2 103 (faL Λ t) k) = some u → 0 ≤ (σ.1 203 u) → (s.1 204 u) = 0 → cb ((σ.1 304 (c 0))) (((σ.1 203 t) + 1 + k).toNat / 8) = true ∨ cb ((s.1 305 (c 0))) (((σ.1 203 t) + 1 + k).toNat / 8) = true)
    (s4 : (s.1 306 (c 0)) = 2 → (∀ t, isT Λ t → (σ.1 203 t) ≠ -2 → (s.1 205 t) = 0) ∧ ∀ t, Reach Λ c σ t → 0 ≤ (σ.1 203 t) → (s.1 307 (c 0)) ≤ (σ.1 203 t) → (s.1 204 t) = 1) : GD Λ c s := by
  have eA : ∀ t, (s.1 203 t) = (σ.1 203 t) := fun t => ki _ _ (by decide) (by decide) (by decide) (by decide) (by decide)
  have eD : (s.1 304 (c 0)) = (σ.1 304 (c 0)) := ki _ _ (by decide) (by decide) (by decide) (by decide) (by decide)
  have eR : ∀ t, Reach Λ c s t → Reach Λ c σ t := fun t hr => hr.same (fun r => by rw [kx]) (fun u k => by rw [kx])
  refine ⟨g, ?_, fun t ht => ?_, ?_, ?_, fun t k u ht ha hk hf hy => ?_, fun hp t ht hn => ?_, fun hp t k u ht ha hm hg hk hf hu hmu => ?_, fun hp => ⟨fun t ht hn => ?_, fun t hr ha hs => ?_⟩, fun t hr => ?_⟩
  · rw [ki _ _ (by decide) (by decide) (by decide) (by decide) (by decide)]; exact h.q0
  · rw [ki _ _ (by decide) (by decide) (by decide) (by decide) (by decide)]; exact h.r0 t ht
  · have y := h.yl
    unfold YL at y ⊢
    simp only [eA, kx, ki 101 (c 2) (by decide) (by decide) (by decide) (by decide) (by decide)]
    exact y
  · rw [taken_congr (ki _ _ (by decide) (by decide) (by decide) (by decide) (by decide)) (fun i => by rw [kx])]; exact h.y20
  · rw [eA] at ha hy ⊢
    rw [eD]
    rw [kx] at hf
    exact h.s1 t k u ht ha hk hf hy
  · rw [eA] at hn; exact s2 hp t ht hn
  · rw [eA] at ha hu ⊢
    rw [eD]
    rw [kx] at hf
    exact s3 hp t k u ht ha hm hg hk hf hu hmu
  · rw [eA] at hn; exact (s4 hp).1 t ht hn
  · rw [eA] at ha hs; exact (s4 hp).2 t (eR t hr) ha hs
  · rw [eA]; exact h.s5 t (eR t hr)
theorem GD.begin (h : GD Λ c σ) : GD Λ c (fBegin c σ).2 := by
  unfold fBegin
  by_cases hp : (σ.1 306 (c 0)) = 0
  · rw [if_pos hp]
    have g1 : GB Λ c (upI (upI σ 306 (c 0) 1) 305 (c 0) 0) := (h.gb.upH (f := 306) (v := 1) (by omega) ⟨by omega, by omega, by omega⟩).upH (f := 305) (v := 0) (by omega) ⟨fun _ => lo8_0, by omega, by omega⟩
    have s1 := (shadeR_sh g1).1
    have g2 := s1.gb g1 (shadeR_wf g1.wf)
    generalize (fShadeR c (upI (upI σ 306 (c 0) 1) 305 (c 0) 0)).2 = s at *
    have ph : (s.1 306 (c 0)) = 1 := by rw [s1.ki _ _ (by decide) (by decide), upI_ne (by decide), upI_at]
    refine h.keep g2 (s1.kx.trans rfl) (fun f q f1 f2 f3 f4 f5 => by rw [s1.ki f q f1 f2, upI_ne f3, upI_ne f4]) (fun z => by omega) (fun _ t k u ht ha hm hg hk hf hu hmu => ?_) (fun z => by omega)
    exfalso
    rcases s1.mg t ht with ⟨a1, _⟩ | ⟨_, _, _, a4⟩
    · rw [upI_ne (by decide), upI_ne (by decide)] at a1
      have := h.s2 hp t ht (by omega)
      omega
    · omega
  · rw [if_neg hp]; exact h
theorem GD.mark (h : GD Λ c σ) : GD Λ c (fMark Λ c σ).2 := by
  unfold fMark
  by_cases hp : (σ.1 306 (c 0)) = 1
  · rw [if_pos hp]
    cases hg : fGrey c σ with
    | none => exact h
    | some t =>
      simp only
      obtain ⟨s1, s2⟩ := shadeF_sh (h.gb.grey0 t) (t := t)
      have gb := (scan_mm h.gb t).2
      have ew : fScan Λ t σ = fShadeF Λ t (upI σ 205 t 0) := rfl
      rw [ew] at gb ⊢
      generalize (fShadeF Λ t (upI σ 205 t 0)).2 = s at *
      have ki : ∀ f q, f ≠ 204 → f ≠ 205 → s.1 f q = σ.1 f q := fun f q f1 f2 => by rw [s1.ki f q f1 f2, upI_ne f2]
      have ph : (s.1 306 (c 0)) = 1 := (ki _ _ (by decide) (by decide)).trans hp
      refine h.keep gb (s1.kx.trans rfl) (fun f q f1 f2 _ _ _ => ki f q f1 f2) (fun z => by omega) (fun _ w k u hw ha hm hg2 hk hf hu hmu => ?_) (fun z => by omega)
      have hU := h.gb.wf.ty _ _ _ _ hf
      rw [ki 305 (c 0) (by decide) (by decide)]
      by_cases e : w = t
      · subst e
        have := s2 k u hk hf (by rw [upI_ne (by decide)]; exact hu)
        omega
      · rcases s1.mg w hw with ⟨a1, a2⟩ | ⟨_, _, _, a4⟩
        · rw [upI_ne (by decide)] at a1
          rw [upI_nq e] at a2
          refine h.s3 hp w k u hw ha (by omega) (by omega) hk hf hu ?_
          rcases (h.gb.fl u hU).1 with x | x
          · exact x
          · have := s1.up hU (by rw [upI_ne (by decide)]; exact x)
            omega
        · omega
  · rw [if_neg hp]; exact h
theorem cb_shl1 : ∀ i, i < 8 → ∀ j, j < 32 → cb (iShl 1 (i : Nat)) j = decide (j = i) := by decide +kernel
theorem GD.preclean (h : GD Λ c σ) : GD Λ c (fPre c σ).2 := by
  unfold fPre
  by_cases hp : (σ.1 306 (c 0)) = 1
  · rw [if_pos hp]
    rcases fnd_is (p := fun i => decide (iAnd ((σ.1 305 (c 0))) (iShl 1 (i : Nat)) ≠ 0)) 8 with ⟨e, _⟩ | ⟨i, e, hi, _, _⟩
    · rw [e]; exact h
    · rw [e]
      simp only
      have g1 : GB Λ c (upI σ 305 (c 0) (iAnd ((σ.1 305 (c 0))) (iXor (iShl 1 i) (-1)))) := h.gb.upH (f := 305) (by omega) ⟨fun _ => lo8_and _ h.gb.n8, by omega, by omega⟩
      obtain ⟨h1, h2, h3, h4⟩ := grey_is c (iShl 1 i) (upI σ 305 (c 0) (iAnd ((σ.1 305 (c 0))) (iXor (iShl 1 i) (-1))))
      have gb := g1.greyOn (iShl 1 i)
      generalize gGrey c (iShl 1 i) (upI σ 305 (c 0) (iAnd ((σ.1 305 (c 0))) (iXor (iShl 1 i) (-1)))) = s at *
      have ki : ∀ f q, f ≠ 205 → f ≠ 305 → s.1 f q = σ.1 f q := fun f q f1 f2 => by rw [h2 f q f1, upI_ne f2]
      have ph : (s.1 306 (c 0)) = 1 := (ki _ _ (by decide) (by decide)).trans hp
      refine h.keep gb (h1.trans rfl) (fun f q f1 f2 f3 _ _ => ki f q f2 f3) (fun z => by omega) (fun _ t k u ht ha hm hg hk hf hu hmu => ?_) (fun z => by omega)
      rw [ki 204 t (by decide) (by decide)] at hm
      rw [ki 204 u (by decide) (by decide)] at hmu
      have h64 : ((σ.1 203 t) + 1 + k).toNat < 64 := by
        rcases h.gb.ad t ht with e | e | ⟨_, e⟩
        · omega
        · omega
        · unfold szI at e; omega
      have hc : (σ.2.2 102 (c 5) ((σ.1 203 t) + 1 + k).toNat) = some t := (h.gb.ce _ t h64).mpr ⟨ht, ha, by omega, by unfold szI; omega⟩
      have hnot : cb ((s.1 305 (c 0))) (((σ.1 203 t) + 1 + k).toNat / 8) = (cb ((σ.1 305 (c 0))) (((σ.1 203 t) + 1 + k).toNat / 8) && !(decide (((σ.1 203 t) + 1 + k).toNat / 8 = i))) := by
        rw [h2 _ _ (by decide), upI_at, cb_and, cb_not _ (by omega), cb_shl1 i hi _ (by omega)]
      by_cases ei : ((σ.1 203 t) + 1 + k).toNat / 8 = i
      · exfalso
        have := h3 t ⟨((σ.1 203 t) + 1 + k).toNat, h64, hc, by rw [upI_ne (by decide), hm]; decide, (cb_hit _ h64).mpr (by rw [cb_shl1 i hi _ (by omega)]; exact decide_eq_true ei)⟩
        omega
      · have hg0 : (σ.1 205 t) = 0 := by
          rcases (h.gb.fl t ht).2.1 with x | x
          · exact x
          · by_cases y : ∃ a : Nat, a < 64 ∧ ((upI σ 305 (c 0) (iAnd ((σ.1 305 (c 0))) (iXor (iShl 1 i) (-1)))).2.2 102 (c 5) a) = some t ∧ ((upI σ 305 (c 0) (iAnd ((σ.1 305 (c 0))) (iXor (iShl 1 i) (-1)))).1 204 t) ≠ 0 ∧ iAnd (iShl 1 i) (fCard a) ≠ 0
            · have := h3 t y; omega
            · have := h4 t y
              rw [upI_ne (by decide)] at this
              omega
        rcases h.s3 hp t k u ht ha hm hg0 hk hf hu hmu with x | x
        · exact Or.inl x
        · right
          rw [hnot, x, decide_eq_false ei]
          rfl
  · rw [if_neg hp]; exact h
theorem GD.remarkC {sg sr sy sa : Mem} (h : GD Λ c σ) (hp : (σ.1 306 (c 0)) = 1) (h1 : sg.2 = σ.2) (h2 : ∀ f q, f ≠ 205 → sg.1 f q = σ.1 f q)
    (h3 : ∀ t, (∃ a : Nat, a < 64 ∧ (σ.2.2 102 (c 5) a) = some t ∧ (σ.1 204 t) ≠ 0 ∧ iAnd (iOr ((σ.1 304 (c 0))) ((σ.1 305 (c 0)))) (fCard a) ≠ 0) → (sg.1 205 t) = 1)
    (h4 : ∀ t, ¬ (∃ a : Nat, a < 64 ∧ (σ.2.2 102 (c 5) a) = some t ∧ (σ.1 204 t) ≠ 0 ∧ iAnd (iOr ((σ.1 304 (c 0))) ((σ.1 305 (c 0)))) (fCard a) ≠ 0) → (sg.1 205 t) = (σ.1 205 t))
    (g0 : GB Λ c sg) (er : (fShadeR c sg).2 = sr) (ey : (fShadeY Λ c sr).2 = sy) (ea : (fScanAll Λ c sy).2 = sa) (w1 : WF Λ c sr) (w2 : WF Λ c sy) :
    GD Λ c (upI (upI (upI sa 305 (c 0) 0) 306 (c 0) 2) 307 (c 0) 0) := by
  have tc0 : TC Λ sg := by
    intro t k u ht ha hm hg hk hf hu
    rw [h2 _ _ (by decide)] at ha hm hu ⊢
    rw [h1] at hf
    have hU := h.gb.wf.ty _ _ _ _ hf
    rcases (h.gb.fl u hU).1 with x | x
    · exfalso
      have h64 : ((σ.1 203 t) + 1 + k).toNat < 64 := by
        rcases h.gb.ad t ht with e | e | ⟨_, e⟩
        · omega
        · omega
        · unfold szI at e; omega
      have hc : (σ.2.2 102 (c 5) ((σ.1 203 t) + 1 + k).toNat) = some t := (h.gb.ce _ t h64).mpr ⟨ht, ha, by omega, by unfold szI; omega⟩
      have hg0 : (σ.1 205 t) = 0 := by
        rcases (h.gb.fl t ht).2.1 with y | y
        · exact y
        · by_cases z : ∃ a : Nat, a < 64 ∧ (σ.2.2 102 (c 5) a) = some t ∧ (σ.1 204 t) ≠ 0 ∧ iAnd (iOr ((σ.1 304 (c 0))) ((σ.1 305 (c 0)))) (fCard a) ≠ 0
          · have := h3 t z; omega
          · have := h4 t z; omega
      have hcb := h.s3 hp t k u ht ha hm hg0 hk hf hu x
      have := h3 t ⟨_, h64, hc, by rw [hm]; decide, (cb_hit _ h64).mpr (by rw [cb_or]; rcases hcb with y | y <;> rw [y] <;> simp)⟩
      omega
    · exact x
  obtain ⟨a1, a2⟩ := shadeR_sh g0
  rw [er] at a1 a2
  have g1 := a1.gb g0 w1
  have tc1 := TC.sh a1 g0.wf.ty tc0
  obtain ⟨b1, b2⟩ := shadeY_sh g1
  rw [ey] at b1 b2
  have g2 := b1.gb g1 w2
  have tc2 := TC.sh b1 g1.wf.ty tc1
  obtain ⟨g3, m3, tc3, no⟩ := scanAll_is g2 tc2
  rw [ea] at g3 m3 tc3 no
  have gb : GB Λ c (upI (upI (upI sa 305 (c 0) 0) 306 (c 0) 2) 307 (c 0) 0) := ((g3.upH (f := 305) (v := 0) (by omega) ⟨fun _ => lo8_0, by omega, by omega⟩).upH (f := 306) (v := 2) (by omega) ⟨by omega, by omega, by omega⟩).upH (f := 307) (v := 0) (by omega) ⟨by omega, by omega, by omega⟩
  generalize hs9 : upI (upI (upI sa 305 (c 0) 0) 306 (c 0) 2) 307 (c 0) 0 = s9 at gb ⊢
  have i9 : ∀ f q, f ≠ 305 → f ≠ 306 → f ≠ 307 → s9.1 f q = sa.1 f q := fun f q f1 f2 f3 => by rw [← hs9, upI_ne f3, upI_ne f2, upI_ne f1]
  have x9 : s9.2 = sa.2 := by rw [← hs9]; rfl
  have kx : sa.2 = σ.2 := m3.kx.trans (b1.kx.trans (a1.kx.trans h1))
  have ki : ∀ f q, f ≠ 204 → f ≠ 205 → sa.1 f q = σ.1 f q := fun f q f1 f2 => by rw [m3.ki f q f1 f2, b1.ki f q f1 f2, a1.ki f q f1 f2, h2 f q f2]
  have eA : ∀ t, (sa.1 203 t) = (σ.1 203 t) := fun t => ki _ _ (by decide) (by decide)
  have eAr : ∀ t, (sr.1 203 t) = (σ.1 203 t) := fun t => by rw [a1.ki _ _ (by decide) (by decide), h2 _ _ (by decide)]
  have ph9 : (s9.1 306 (c 0)) = 2 := by rw [← hs9, upI_ne (by decide), upI_at]
  have nogrey : ∀ t, isT Λ t → (σ.1 203 t) ≠ -2 → (sa.1 205 t) = 0 := by
    intro t ht hn
    rcases h.gb.ad t ht with e | e | ⟨e, _⟩
    · exact absurd e hn
    · exact (g3.ym t ht (by rw [eA]; exact e)).2
    · exact (grey_at g3).2 no t ht (by rw [eA]; exact e)
  refine h.keep gb (x9.trans kx) (fun f q f1 f2 f3 f4 f5 => (i9 f q f3 f4 f5).trans (ki f q f1 f2)) (fun z => by omega) (fun z => by omega) (fun _ => ⟨fun t ht hn => by rw [i9 _ _ (by decide) (by decide) (by decide)]; exact nogrey t ht hn, fun t hr ha _ => ?_⟩)
  rw [i9 _ _ (by decide) (by decide) (by decide)]
  have key : Reach Λ c σ t ∧ (0 ≤ (σ.1 203 t) → (sa.1 204 t) = 1) := by
    refine hr (fun t => Reach Λ c σ t ∧ (0 ≤ (σ.1 203 t) → (sa.1 204 t) = 1)) (fun r u hrr e => ⟨Reach.root hrr e, fun hu => ?_⟩) (fun u k v hu hk hf => ⟨hu.1.fld hk hf, fun hv => ?_⟩)
    · have hU := h.gb.wf.ty _ _ _ _ e
      exact m3.up u hU (b1.up hU (a2 r u hrr (by rw [h1]; exact e) (by rw [h2 _ _ (by decide)]; exact hu)))
    · have hU : isT Λ u := hu.1.thing h.gb.wf.ty
      have hV : isT Λ v := h.gb.wf.ty _ _ _ _ hf
      rcases h.gb.ad u hU with e | e | ⟨e, _⟩
      · exact absurd e (h.s5 u hu.1)
      · obtain ⟨j, hj, hx⟩ := (h.yl.1 u hU).mp e
        have xr : sr.2 = σ.2 := a1.kx.trans h1
        refine m3.up v hV (b2 j u k v ?_ (by rw [xr]; exact hx) hk (by rw [xr]; exact hf) (by rw [eAr]; exact hv))
        rw [a1.ki _ _ (by decide) (by decide), h2 _ _ (by decide)]
        exact hj
      · exact tc3 u k v hU (by rw [eA]; exact e) (hu.2 e) (nogrey u hU (by omega)) hk (by rw [kx]; exact hf) (by rw [eA]; exact hv)
  exact key.2 ha
theorem GD.remark (h : GD Λ c σ) : GD Λ c (fRemark Λ c σ).2 := by
  unfold fRemark
  by_cases hp : (σ.1 306 (c 0)) = 1
  · rw [if_pos hp]
    have e1 : (fShadeR c (gGrey c (iOr ((σ.1 304 (c 0))) ((σ.1 305 (c 0)))) σ)).2 = (rmk1 c σ).2 := by unfold rmk1; rfl
    have e2 : (fShadeY Λ c (rmk1 c σ).2).2 = (rmk2 Λ c σ).2 := by unfold rmk2; rfl
    have e3 : (fScanAll Λ c (rmk2 Λ c σ).2).2 = (rmk3 Λ c σ).2 := by unfold rmk3; rfl
    have w1 := rmk1_wf h.gb.wf
    have w2 := rmk2_wf h.gb.wf
    obtain ⟨h1, h2, h3, h4⟩ := grey_is c (iOr ((σ.1 304 (c 0))) ((σ.1 305 (c 0)))) σ
    have g0 := h.gb.greyOn (iOr ((σ.1 304 (c 0))) ((σ.1 305 (c 0))))
    generalize gGrey c (iOr ((σ.1 304 (c 0))) ((σ.1 305 (c 0)))) σ = sg at *
    generalize (rmk1 c σ) = u1 at *
    generalize (rmk2 Λ c σ) = u2 at *
    generalize (rmk3 Λ c σ) = u3 at *
    exact GD.remarkC h hp h1 h2 h3 h4 g0 e1 e2 e3 w1 w2
  · rw [if_neg hp]; exact h
end MKT
