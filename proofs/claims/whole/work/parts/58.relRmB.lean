/-! Remarking: which things shading marks, and how often; the young things in the order of their slots. -/
def mkA (c : Nat → Nat) (σ : Mem) (a : Nat) : Int := match fAt c σ a with
  | none => 0
  | some t => (σ.1 204 t)
def mkS (c : Nat → Nat) (σ : Mem) : Int := sumN (mkA c σ) 64
-- only things of Q were marked
def SQ (Λ : Lam) (c : Nat → Nat) (Q : Nat → Prop) (σ0 : Mem) (u : Int × Mem) : Prop :=
  (SH Λ σ0 u.2) ∧
  (WF Λ c u.2) ∧
  (∀ t, isT Λ t → (u.2.1 204 t) ≠ (σ0.1 204 t) → Q t) ∧
  (u.1 = mkS c u.2 - mkS c σ0)
theorem SQ.sh {Λ : Lam} {c : Nat → Nat} {Q : Nat → Prop} {σ0 : Mem} {u : Int × Mem} (h : SQ Λ c Q σ0 u) : SH Λ σ0 u.2 := h.1
theorem SQ.wf {Λ : Lam} {c : Nat → Nat} {Q : Nat → Prop} {σ0 : Mem} {u : Int × Mem} (h : SQ Λ c Q σ0 u) : WF Λ c u.2 := h.2.1
theorem SQ.qs {Λ : Lam} {c : Nat → Nat} {Q : Nat → Prop} {σ0 : Mem} {u : Int × Mem} (h : SQ Λ c Q σ0 u) : ∀ t, isT Λ t → (u.2.1 204 t) ≠ (σ0.1 204 t) → Q t := h.2.2.1
theorem SQ.ct {Λ : Lam} {c : Nat → Nat} {Q : Nat → Prop} {σ0 : Mem} {u : Int × Mem} (h : SQ Λ c Q σ0 u) : u.1 = mkS c u.2 - mkS c σ0 := h.2.2.2
def gShS1 (Λ : Lam) (th : Nat → Option Nat) (i : Nat) (u : Int × Mem) : Int × Mem := match th i with
  | none => u
  | some t => if (u.2.1 203 t) = -1 then (u.1 + (fShadeF Λ t u.2).1, (fShadeF Λ t u.2).2) else u
section RMB
variable {l : Launch} {D : va_G} {Λ ΛR : Lam} {c r : Nat → Nat} {th : Nat → Option Nat} {σ σ0 ρ : Mem} {Q : Nat → Prop}
theorem shade_ct (g : GB Λ c σ) (o : Option Nat) (ho : ∀ t, o = some t → isT Λ t) : (fShade o σ).1 = mkS c (fShade o σ).2 - mkS c σ := by
  cases o with
  | none => show (0 : Int) = mkS c σ - mkS c σ; omega
  | some t =>
    have hT := ho t rfl
    unfold fShade
    simp only
    by_cases h : 0 ≤ (σ.1 203 t) ∧ (σ.1 204 t) = 0
    · rw [if_pos h]
      obtain ⟨a64, hat⟩ := g.at_old hT h.1
      have eat : ∀ a, fAt c (upI (upI σ 204 t 1) 205 t 1) a = fAt c σ a := fun a => fAt_congr rfl (fun u => by rw [upI_ne (by decide), upI_ne (by decide)]) a
      have e : ∀ a, a < 64 → mkA c (upI (upI σ 204 t 1) 205 t 1) a = mkA c σ a + (if a = ((σ.1 203 t)).toNat then 1 else 0) := by
        intro a ha
        unfold mkA
        rw [eat]
        by_cases x : a = ((σ.1 203 t)).toNat
        · rw [x, hat, if_pos rfl]
          simp only
          rw [upI_ne (by decide), upI_at, h.2]
          rfl
        · rw [if_neg x]
          cases hx : fAt c σ a with
          | none => rfl
          | some v =>
            simp only
            have : v ≠ t := by
              intro e
              have := (at_some hx).2
              rw [e] at this
              omega
            rw [upI_ne (by decide), upI_nq this]
            omega
      unfold mkS
      rw [sumN_congr e, sumN_add, sumN_one (f := fun i => if i = ((σ.1 203 t)).toNat then (1 : Int) else 0) a64 (fun i _ hi => if_neg hi), if_pos rfl]
      simp only
      omega
    · rw [if_neg h]
      simp only
      omega
theorem SQ.rf (g : GB Λ c σ) : SQ Λ c Q σ (0, σ) := ⟨SH.rf, g.wf, fun t _ h => absurd rfl h, by show (0 : Int) = mkS c σ - mkS c σ; omega⟩
theorem SQ.shade {u : Int × Mem} (h : SQ Λ c Q σ0 u) (g : GB Λ c σ0) {o : Option Nat} (ho : ∀ t, o = some t → Q t) (hty : ∀ t, o = some t → isT Λ t) : SQ Λ c Q σ0 (u.1 + (fShade o u.2).1, (fShade o u.2).2) := by
  have gu := h.sh.gb g h.wf
  obtain ⟨s1, s2⟩ := shade_sh gu o hty
  have ct := shade_ct gu o hty
  refine ⟨h.sh.tr s1, shade_wf h.wf o, fun t ht hne => ?_, ?_⟩
  · simp only at hne
    by_cases x : (u.2.1 204 t) = (σ0.1 204 t)
    · cases o with
      | none => exact absurd x hne
      | some v =>
        by_cases y : t = v
        · exact ho t (by rw [y])
        · exfalso
          apply hne
          rw [← x]
          unfold fShade
          simp only
          split
          · simp only
            rw [upI_nq y, upI_nq y]
          · rfl
    · exact h.qs t ht x
  · have := h.ct
    simp only
    omega
theorem SQ.tr {s1 : Int × Mem} {u : Int × Mem} (h1 : SQ Λ c Q σ0 s1) (h2 : SQ Λ c Q s1.2 u) : SQ Λ c Q σ0 (s1.1 + u.1, u.2) := by
  refine ⟨h1.sh.tr h2.sh, h2.wf, fun t ht hne => ?_, ?_⟩
  · by_cases x : (s1.2.1 204 t) = (σ0.1 204 t)
    · exact h2.qs t ht (by rw [x]; exact hne)
    · exact h1.qs t ht x
  · have a := h1.ct
    have b := h2.ct
    simp only
    omega
theorem SQ.shadeF (g : GB Λ c σ) {t : Nat} (hq : ∀ k v, k < nfL Λ t → (σ.2.2 103 (faL Λ t) k) = some v → Q v) : SQ Λ c Q σ (fShadeF Λ t σ) := by
  unfold fShadeF
  refine nfold_inv (f := gShF1 Λ t) (a := ((0 : Int), σ)) (fun _ (w : Int × Mem) => SQ Λ c Q σ w) (SQ.rf g) (nfL Λ t) (fun n w hn hs => ?_)
  unfold gShF1
  exact hs.shade g (fun v e => hq n v hn (by rw [← e, hs.sh.kx])) (fun v e => hs.wf.ty _ _ _ _ e)
-- what the young things refer to
def yQ (Λ : Lam) (σ : Mem) (v : Nat) : Prop := ∃ t k : Nat, isT Λ t ∧ (σ.1 203 t) = -1 ∧ k < nfL Λ t ∧ (σ.2.2 103 (faL Λ t) k) = some v
theorem shadeY_sq (g : GB Λ c σ) (yl : YL Λ c σ) : SQ Λ c (yQ Λ σ) σ (fShadeY Λ c σ) ∧ ∀ v, yQ Λ σ v → 0 ≤ (σ.1 203 v) → ((fShadeY Λ c σ).2.1 204 v) = 1 := by
  constructor
  · unfold fShadeY
    refine nfold_inv (f := gShY1 Λ c) (a := ((0 : Int), σ)) (fun _ (w : Int × Mem) => SQ Λ c (yQ Λ σ) σ w) (SQ.rf g) ((σ.1 101 (c 2))).toNat (fun n w hn hs => ?_)
    unfold gShY1
    have y0 := g.wf.y0
    rw [hs.sh.kx]
    cases hx : σ.2.2 101 (c 3) n with
    | none => exact hs
    | some t =>
      have hT := g.wf.ty _ _ _ _ hx
      have hy := (yl.1 t hT).mpr ⟨n, by omega, hx⟩
      exact hs.tr (SQ.shadeF (hs.sh.gb g hs.wf) (fun k v hk e => ⟨t, k, hT, hy, hk, by rw [← e, hs.sh.kx]⟩))
  · rintro v ⟨t, k, hT, hy, hk, e⟩ hv
    obtain ⟨i, hi, hx⟩ := (yl.1 t hT).mp hy
    exact (shadeY_sh g).2 i t k v hi hx hk e hv
theorem shadeS_sq (g : GB Λ c σ) (hth : ∀ i t, i < 90 → th i = some t → isT Λ t) (k3 : ∀ t : Nat, isT Λ t → (σ.1 203 t) ≠ -2 → ∃ i : Nat, i < 90 ∧ th i = some t) : ∀ n, n ≤ 90 → SQ Λ c (yQ Λ σ) σ (nfold (gShS1 Λ th) (0, σ) n) ∧ (∀ i t k v, i < n → th i = some t → (σ.1 203 t) = -1 → k < nfL Λ t → (σ.2.2 103 (faL Λ t) k) = some v → 0 ≤ (σ.1 203 v) → ((nfold (gShS1 Λ th) (0, σ) n).2.1 204 v) = 1) := by
  intro n hn
  refine nfold_inv (f := gShS1 Λ th) (a := ((0 : Int), σ)) (fun n (w : Int × Mem) => SQ Λ c (yQ Λ σ) σ w ∧ (∀ i t k v, i < n → th i = some t → (σ.1 203 t) = -1 → k < nfL Λ t → (σ.2.2 103 (faL Λ t) k) = some v → 0 ≤ (σ.1 203 v) → (w.2.1 204 v) = 1)) ⟨SQ.rf g, fun i t k v hi => by omega⟩ n (fun m w hm hs => ?_)
  obtain ⟨hs, hd⟩ := hs
  have gw := hs.sh.gb g hs.wf
  unfold gShS1
  cases hx : th m with
  | none =>
    refine ⟨hs, fun i t k v hi e => ?_⟩
    by_cases z : i = m
    · rw [z, hx] at e; cases e
    · exact hd i t k v (by omega) e
  | some t0 =>
    simp only
    have hT := hth m t0 (by omega) hx
    rw [hs.sh.adr]
    by_cases y : (σ.1 203 t0) = -1
    · rw [if_pos y]
      obtain ⟨s1, s2⟩ := shadeF_sh gw (t := t0)
      refine ⟨hs.tr (SQ.shadeF gw (fun k v hk e => ⟨t0, k, hT, y, hk, by rw [← e, hs.sh.kx]⟩)), fun i t k v hi e ey hk ef hv => ?_⟩
      by_cases z : i = m
      · rw [z, hx] at e
        cases e
        exact s2 k v hk (by rw [hs.sh.kx]; exact ef) (by rw [hs.sh.adr]; exact hv)
      · exact s1.up (g.wf.ty _ _ _ _ ef) (hd i t k v (by omega) e ey hk ef hv)
    · rw [if_neg y]
      refine ⟨hs, fun i t k v hi e ey => ?_⟩
      by_cases z : i = m
      · rw [z, hx] at e; cases e; exact absurd ey y
      · exact hd i t k v (by omega) e ey
theorem sq_same {u1 u2 : Int × Mem} (h1 : SQ Λ c Q σ u1) (h2 : SQ Λ c Q σ u2) (q1 : ∀ v, Q v → 0 ≤ (σ.1 203 v) → (u1.2.1 204 v) = 1) (q2 : ∀ v, Q v → 0 ≤ (σ.1 203 v) → (u2.2.1 204 v) = 1) (g : GB Λ c σ) : u1.1 = u2.1 ∧ ∀ t, isT Λ t → (u1.2.1 204 t) = (u2.2.1 204 t) ∧ (u1.2.1 205 t) = (u2.2.1 205 t) := by
  have key : ∀ t, isT Λ t → (u1.2.1 204 t) = (u2.2.1 204 t) ∧ (u1.2.1 205 t) = (u2.2.1 205 t) := by
    intro t ht
    rcases h1.sh.mg t ht with ⟨a1, a2⟩ | ⟨a0, a1, a2, a3⟩
    · rcases h2.sh.mg t ht with ⟨b1, b2⟩ | ⟨b0, b1, b2, b3⟩
      · exact ⟨a1.trans b1.symm, a2.trans b2.symm⟩
      · have := q1 t (h2.qs t ht (by rw [b2, b1]; decide)) b0
        omega
    · have := q2 t (h1.qs t ht (by rw [a2, a1]; decide)) a0
      rcases h2.sh.mg t ht with ⟨b1, b2⟩ | ⟨b0, b1, b2, b3⟩
      · omega
      · exact ⟨by omega, by omega⟩
  refine ⟨?_, key⟩
  rw [h1.ct, h2.ct]
  have e : mkS c u1.2 = mkS c u2.2 := by
    unfold mkS
    refine sumN_congr (fun a ha => ?_)
    unfold mkA
    rw [fAt_congr h1.sh.kx h1.sh.adr, fAt_congr h2.sh.kx h2.sh.adr]
    cases hx : fAt c σ a with
    | none => rfl
    | some t => exact (key t (g.wf.ty _ _ _ _ (at_some hx).1)).1
  rw [e]
end RMB
