/-! Marking: shading, greying, scanning; begin, mark, preclean, remark, sweep keep what holds between calls. -/
-- only unmarked old things change: they become marked and grey
def SH (Λ : Lam) (σ0 σ : Mem) : Prop :=
  (σ.2 = σ0.2) ∧
  (∀ f q, f ≠ 204 → f ≠ 205 → σ.1 f q = σ0.1 f q) ∧
  (∀ t, isT Λ t → ((σ.1 204 t) = (σ0.1 204 t) ∧ (σ.1 205 t) = (σ0.1 205 t)) ∨ (0 ≤ (σ0.1 203 t) ∧ (σ0.1 204 t) = 0 ∧ (σ.1 204 t) = 1 ∧ (σ.1 205 t) = 1))
theorem SH.kx {Λ : Lam} {σ0 σ : Mem} (h : SH Λ σ0 σ) : σ.2 = σ0.2 := h.1
theorem SH.ki {Λ : Lam} {σ0 σ : Mem} (h : SH Λ σ0 σ) : ∀ f q, f ≠ 204 → f ≠ 205 → σ.1 f q = σ0.1 f q := h.2.1
theorem SH.mg {Λ : Lam} {σ0 σ : Mem} (h : SH Λ σ0 σ) : ∀ t, isT Λ t → ((σ.1 204 t) = (σ0.1 204 t) ∧ (σ.1 205 t) = (σ0.1 205 t)) ∨ (0 ≤ (σ0.1 203 t) ∧ (σ0.1 204 t) = 0 ∧ (σ.1 204 t) = 1 ∧ (σ.1 205 t) = 1) := h.2.2
section MKS
variable {Λ : Lam} {c : Nat → Nat} {σ0 σ σ1 σ2 : Mem}
theorem SH.rf : SH Λ σ σ := ⟨rfl, fun _ _ _ _ => rfl, fun _ _ => Or.inl ⟨rfl, rfl⟩⟩
theorem SH.tr (h1 : SH Λ σ0 σ1) (h2 : SH Λ σ1 σ2) : SH Λ σ0 σ2 := by
  refine ⟨h2.kx.trans h1.kx, fun f q a b => (h2.ki f q a b).trans (h1.ki f q a b), fun t ht => ?_⟩
  have ea : (σ1.1 203 t) = (σ0.1 203 t) := h1.ki _ _ (by decide) (by decide)
  rcases h1.mg t ht with ⟨a1, a2⟩ | ⟨a1, a2, a3, a4⟩
  · rcases h2.mg t ht with ⟨b1, b2⟩ | ⟨b1, b2, b3, b4⟩
    · exact Or.inl ⟨b1.trans a1, b2.trans a2⟩
    · exact Or.inr ⟨by omega, by omega, b3, b4⟩
  · rcases h2.mg t ht with ⟨b1, b2⟩ | ⟨b1, b2, b3, b4⟩
    · exact Or.inr ⟨a1, a2, by omega, by omega⟩
    · omega
theorem SH.adr (h : SH Λ σ0 σ) (t : Nat) : (σ.1 203 t) = (σ0.1 203 t) := h.ki _ _ (by decide) (by decide)
theorem SH.up (h : SH Λ σ0 σ) {t : Nat} (ht : isT Λ t) (hm : (σ0.1 204 t) = 1) : (σ.1 204 t) = 1 := by
  rcases h.mg t ht with ⟨a1, _⟩ | ⟨_, _, a3, _⟩
  · rw [a1]; exact hm
  · exact a3
theorem SH.gb (h : SH Λ σ0 σ) (g : GB Λ c σ0) (hw : WF Λ c σ) : GB Λ c σ := by
  refine ⟨hw, fun t ht => ?_, fun a t ha => ?_, fun t ht => ?_, fun t ht hy => ?_, fun t ht hn hg => ?_, ?_, ?_, ?_, ?_⟩
  · rw [h.adr]; exact g.ad t ht
  · rw [h.adr, h.kx]; exact g.ce a t ha
  · rw [h.ki 206 t (by decide) (by decide)]
    have f := g.fl t ht
    rcases h.mg t ht with ⟨a1, a2⟩ | ⟨_, _, a3, a4⟩
    · rw [a1, a2]; exact f
    · exact ⟨Or.inr a3, Or.inr a4, f.2.2⟩
  · rw [h.adr] at hy
    rcases h.mg t ht with ⟨a1, a2⟩ | ⟨a1, _⟩
    · rw [a1, a2]; exact g.ym t ht hy
    · omega
  · rw [h.adr] at hn
    rcases h.mg t ht with ⟨a1, a2⟩ | ⟨_, _, a3, _⟩
    · rw [a1]; rw [a2] at hg; exact g.gm t ht hn hg
    · exact a3
  · rw [h.ki _ _ (by decide) (by decide)]; exact g.d8
  · rw [h.ki _ _ (by decide) (by decide)]; exact g.n8
  · rw [h.ki _ _ (by decide) (by decide)]; exact g.ph
  · rw [h.ki _ _ (by decide) (by decide)]; exact g.sw
theorem shade_sh (g : GB Λ c σ) (o : Option Nat) (ho : ∀ t, o = some t → isT Λ t) : SH Λ σ (fShade o σ).2 ∧ ∀ t, o = some t → 0 ≤ (σ.1 203 t) → ((fShade o σ).2.1 204 t) = 1 := by
  unfold fShade
  cases o with
  | none => exact ⟨SH.rf, fun t e => (by cases e)⟩
  | some t =>
    have ht := ho t rfl
    simp only
    by_cases h : 0 ≤ (σ.1 203 t) ∧ (σ.1 204 t) = 0
    · rw [if_pos h]
      have eM : ∀ u, (upI (upI σ 204 t 1) 205 t 1).1 204 u = if u = t then 1 else (σ.1 204 u) := by
        intro u
        rw [upI_ne (by decide), upI_1]
        by_cases z : u = t
        · rw [if_pos ⟨rfl, z⟩, if_pos z]
        · rw [if_neg (fun y => z y.2), if_neg z]
      have eG : ∀ u, (upI (upI σ 204 t 1) 205 t 1).1 205 u = if u = t then 1 else (σ.1 205 u) := by
        intro u
        rw [upI_1]
        by_cases z : u = t
        · rw [if_pos ⟨rfl, z⟩, if_pos z]
        · rw [if_neg (fun y => z y.2), if_neg z, upI_ne (by decide)]
      refine ⟨⟨rfl, fun f q f1 f2 => by rw [upI_ne f2, upI_ne f1], fun u hu => ?_⟩, fun u e _ => ?_⟩
      · rw [eM, eG]
        by_cases z : u = t
        · rw [if_pos z, if_pos z, z]; exact Or.inr ⟨h.1, h.2, rfl, rfl⟩
        · rw [if_neg z, if_neg z]; exact Or.inl ⟨rfl, rfl⟩
      · cases e; rw [eM, if_pos rfl]
    · rw [if_neg h]
      refine ⟨SH.rf, fun u e ha => ?_⟩
      cases e
      rcases (g.fl t ht).1 with x | x
      · exact absurd ⟨ha, x⟩ h
      · exact x
theorem shadeF_sh (g : GB Λ c σ) {t : Nat} : SH Λ σ (fShadeF Λ t σ).2 ∧ ∀ k u, k < nfL Λ t → (σ.2.2 103 (faL Λ t) k) = some u → 0 ≤ (σ.1 203 u) → ((fShadeF Λ t σ).2.1 204 u) = 1 := by
  unfold fShadeF
  have key := nfold_inv (f := gShF1 Λ t) (a := ((0 : Int), σ)) (fun n (w : Int × Mem) => SH Λ σ w.2 ∧ WF Λ c w.2 ∧ ∀ k u, k < n → (σ.2.2 103 (faL Λ t) k) = some u → 0 ≤ (σ.1 203 u) → (w.2.1 204 u) = 1) ⟨SH.rf, g.wf, fun k u hk => by omega⟩ (nfL Λ t) (fun n w hn hs => ?_)
  · exact ⟨key.1, key.2.2⟩
  · obtain ⟨a, b, d⟩ := hs
    have gw := a.gb g b
    have ho : ∀ u, (w.2.2.2 103 (faL Λ t) n) = some u → isT Λ u := fun u e => b.ty _ _ _ _ e
    obtain ⟨s1, s2⟩ := shade_sh gw ((w.2.2.2 103 (faL Λ t) n)) ho
    refine ⟨a.tr s1, shade_wf b _, fun k u hk e ha => ?_⟩
    have hu := g.wf.ty _ _ _ _ e
    by_cases ek : k = n
    · subst ek
      exact s2 u (by rw [a.kx]; exact e) (by rw [a.adr]; exact ha)
    · exact s1.up hu (d k u (by omega) e ha)
theorem shadeR_sh (g : GB Λ c σ) : SH Λ σ (fShadeR c σ).2 ∧ ∀ r u, r < 6 → (σ.2.2 100 (c 1) r) = some u → 0 ≤ (σ.1 203 u) → ((fShadeR c σ).2.1 204 u) = 1 := by
  unfold fShadeR
  have key := nfold_inv (f := gShR1 c) (a := ((0 : Int), σ)) (fun n (w : Int × Mem) => SH Λ σ w.2 ∧ WF Λ c w.2 ∧ ∀ k u, k < n → (σ.2.2 100 (c 1) k) = some u → 0 ≤ (σ.1 203 u) → (w.2.1 204 u) = 1) ⟨SH.rf, g.wf, fun k u hk => by omega⟩ 6 (fun n w hn hs => ?_)
  · exact ⟨key.1, key.2.2⟩
  · obtain ⟨a, b, d⟩ := hs
    have gw := a.gb g b
    have ho : ∀ u, (w.2.2.2 100 (c 1) n) = some u → isT Λ u := fun u e => b.ty _ _ _ _ e
    obtain ⟨s1, s2⟩ := shade_sh gw ((w.2.2.2 100 (c 1) n)) ho
    refine ⟨a.tr s1, shade_wf b _, fun k u hk e ha => ?_⟩
    have hu := g.wf.ty _ _ _ _ e
    by_cases ek : k = n
    · subst ek
      exact s2 u (by rw [a.kx]; exact e) (by rw [a.adr]; exact ha)
    · exact s1.up hu (d k u (by omega) e ha)
theorem shadeY_sh (g : GB Λ c σ) : SH Λ σ (fShadeY Λ c σ).2 ∧ ∀ (i t k u : Nat), (i : Int) < (σ.1 101 (c 2)) → σ.2.2 101 (c 3) i = some t → k < nfL Λ t → (σ.2.2 103 (faL Λ t) k) = some u → 0 ≤ (σ.1 203 u) → ((fShadeY Λ c σ).2.1 204 u) = 1 := by
  have y0 := g.wf.y0
  unfold fShadeY
  have key := nfold_inv (f := gShY1 Λ c) (a := ((0 : Int), σ)) (fun n (w : Int × Mem) => SH Λ σ w.2 ∧ WF Λ c w.2 ∧ ∀ (i t k u : Nat), i < n → σ.2.2 101 (c 3) i = some t → k < nfL Λ t → (σ.2.2 103 (faL Λ t) k) = some u → 0 ≤ (σ.1 203 u) → (w.2.1 204 u) = 1) ⟨SH.rf, g.wf, fun i t k u hk => by omega⟩ ((σ.1 101 (c 2))).toNat (fun n w hn hs => ?_)
  · exact ⟨key.1, fun i t k u hi => key.2.2 i t k u (by omega)⟩
  · obtain ⟨a, b, d⟩ := hs
    have gw := a.gb g b
    cases hx : σ.2.2 101 (c 3) n with
    | none =>
      have e : gShY1 Λ c n w = w := by unfold gShY1; rw [a.kx, hx]
      rw [e]
      refine ⟨a, b, fun i t k u hi e1 => ?_⟩
      refine d i t k u ?_ e1
      by_cases z : i = n
      · rw [z, hx] at e1; cases e1
      · omega
    | some t0 =>
      have e : gShY1 Λ c n w = (w.1 + (fShadeF Λ t0 w.2).1, (fShadeF Λ t0 w.2).2) := by unfold gShY1; rw [a.kx, hx]
      rw [e]
      obtain ⟨s1, s2⟩ := shadeF_sh gw (t := t0)
      refine ⟨a.tr s1, shadeF_wf b _, fun i t k u hi e1 hk ef ha => ?_⟩
      by_cases z : i = n
      · rw [z, hx] at e1
        cases e1
        exact s2 k u hk (by rw [a.kx]; exact ef) (by rw [a.adr]; exact ha)
      · exact s1.up (g.wf.ty _ _ _ _ ef) (d i t k u (by omega) e1 hk ef ha)
-- what is not grey and marked refers to marked things only
def TC (Λ : Lam) (σ : Mem) : Prop := ∀ t k u : Nat, isT Λ t → 0 ≤ (σ.1 203 t) → (σ.1 204 t) = 1 → (σ.1 205 t) = 0 → k < nfL Λ t → (σ.2.2 103 (faL Λ t) k) = some u → 0 ≤ (σ.1 203 u) → (σ.1 204 u) = 1
theorem TC.sh (h : SH Λ σ0 σ) (ty : ∀ kd q k t, σ0.2.2 kd q k = some t → isT Λ t) (tc : TC Λ σ0) : TC Λ σ := by
  intro t k u ht ha hm hg hk hf hu
  rw [h.adr] at ha hu
  rw [h.kx] at hf
  have hT := ty _ _ _ _ hf
  rcases h.mg t ht with ⟨a1, a2⟩ | ⟨_, _, _, a4⟩
  · exact h.up hT (tc t k u ht ha (by rw [← a1]; exact hm) (by rw [← a2]; exact hg) hk hf hu)
  · omega
theorem GB.grey0 (g : GB Λ c σ) (t : Nat) : GB Λ c (upI σ 205 t 0) := by
  refine ⟨g.wf.upT (by decide) (by decide) (by decide) rng_0, g.ad, g.ce, fun u hu => ?_, fun u hu hy => ?_, fun u hu hn hg => ?_, g.d8, g.n8, g.ph, g.sw⟩
  · refine ⟨(g.fl u hu).1, ?_, (g.fl u hu).2.2⟩
    rw [upI_1]
    split
    · exact Or.inl rfl
    · exact (g.fl u hu).2.1
  · refine ⟨(g.ym u hu hy).1, ?_⟩
    rw [upI_1]
    split
    · rfl
    · exact (g.ym u hu hy).2
  · rw [upI_1] at hg
    split at hg
    · omega
    · exact g.gm u hu hn hg
theorem TC.scan (g : GB Λ c σ) {t : Nat} (tc : TC Λ σ) : TC Λ (fScan Λ t σ).2 := by
  unfold fScan
  obtain ⟨s1, s2⟩ := shadeF_sh (g.grey0 t) (t := t)
  intro w k u hw ha hm hg hk hf hu
  rw [s1.adr] at ha hu
  rw [s1.kx] at hf
  have hT : isT Λ u := g.wf.ty _ _ _ _ hf
  by_cases e : w = t
  · subst e
    exact s2 k u hk hf hu
  · rcases s1.mg w hw with ⟨a1, a2⟩ | ⟨_, _, _, a4⟩
    · rw [upI_nq e] at a2
      refine s1.up hT (tc w k u hw ha ?_ ?_ hk hf hu)
      · rw [a1] at hm; exact hm
      · rw [a2] at hg; exact hg
    · omega
theorem grey_at (g : GB Λ c σ) : (∀ t, fGrey c σ = some t → isT Λ t ∧ 0 ≤ (σ.1 203 t) ∧ (σ.1 205 t) ≠ 0) ∧ (fGrey c σ = none → ∀ t, isT Λ t → 0 ≤ (σ.1 203 t) → (σ.1 205 t) = 0) := by
  have at1 : ∀ a t, a < 64 → fAt c σ a = some t → isT Λ t ∧ (σ.1 203 t) = a := by
    intro a t ha h
    unfold fAt at h
    split at h
    · cases h
    · rename_i w hw
      split at h
      · rename_i e
        cases h
        exact ⟨g.wf.ty _ _ _ _ hw, e⟩
      · cases h
  have at2 : ∀ t, isT Λ t → 0 ≤ (σ.1 203 t) → ((σ.1 203 t)).toNat < 64 ∧ fAt c σ ((σ.1 203 t)).toNat = some t := by
    intro t ht ha
    have zt := szI_le ht
    have h64 : (σ.1 203 t) + szI Λ t ≤ 64 := by
      rcases g.ad t ht with x | x | ⟨_, x⟩ <;> omega
    refine ⟨by omega, ?_⟩
    have hc := (g.ce ((σ.1 203 t)).toNat t (by omega)).mpr ⟨ht, ha, by omega, by omega⟩
    unfold fAt
    rw [hc]
    simp only
    rw [if_pos (by omega)]
  constructor
  · intro t h
    unfold fGrey at h
    rcases fnd_is (p := isGry c σ) 64 with ⟨e, _⟩ | ⟨a, e, ha, hg, _⟩
    · rw [e] at h; cases h
    · rw [e] at h
      simp only at h
      obtain ⟨h1, h2⟩ := at1 a t ha h
      refine ⟨h1, by omega, ?_⟩
      unfold isGry at hg
      rw [h] at hg
      exact of_decide_eq_true hg
  · intro h t ht ha
    unfold fGrey at h
    obtain ⟨h64, hat⟩ := at2 t ht ha
    rcases fnd_is (p := isGry c σ) 64 with ⟨_, hn⟩ | ⟨a, e, h1, hg, _⟩
    · have := hn _ h64
      unfold isGry at this
      rw [hat] at this
      have := of_decide_eq_false this
      by_cases x : (σ.1 205 t) = 0
      · exact x
      · exact absurd x this
    · exfalso
      rw [e] at h
      simp only at h
      unfold isGry at hg
      rw [h] at hg
      cases hg
theorem grey_is (c : Nat → Nat) (cards : Int) (s : Mem) : (gGrey c cards s).2 = s.2 ∧ (∀ f q, f ≠ 205 → (gGrey c cards s).1 f q = s.1 f q) ∧ (∀ t, (∃ a : Nat, a < 64 ∧ (s.2.2 102 (c 5) a) = some t ∧ (s.1 204 t) ≠ 0 ∧ iAnd cards (fCard a) ≠ 0) → ((gGrey c cards s).1 205 t) = 1) ∧ (∀ t, ¬ (∃ a : Nat, a < 64 ∧ (s.2.2 102 (c 5) a) = some t ∧ (s.1 204 t) ≠ 0 ∧ iAnd cards (fCard a) ≠ 0) → ((gGrey c cards s).1 205 t) = (s.1 205 t)) := by
  unfold gGrey
  refine nfold_inv (fun n (s' : Mem) => s'.2 = s.2 ∧ (∀ f q, f ≠ 205 → s'.1 f q = s.1 f q) ∧ (∀ t, (∃ a : Nat, a < n ∧ (s.2.2 102 (c 5) a) = some t ∧ (s.1 204 t) ≠ 0 ∧ iAnd cards (fCard a) ≠ 0) → (s'.1 205 t) = 1) ∧ (∀ t, ¬ (∃ a : Nat, a < n ∧ (s.2.2 102 (c 5) a) = some t ∧ (s.1 204 t) ≠ 0 ∧ iAnd cards (fCard a) ≠ 0) → (s'.1 205 t) = (s.1 205 t))) ⟨rfl, fun _ _ _ => rfl, fun t ⟨a, ha, _⟩ => by omega, fun _ _ => rfl⟩ 64 (fun n s' hn hs => ?_)
  obtain ⟨h1, h2, h3, h4⟩ := hs
  have e1 : (s'.2.2 102 (c 5) n) = (s.2.2 102 (c 5) n) := by rw [h1]
  by_cases hit : ∃ w, (s.2.2 102 (c 5) n) = some w ∧ (s.1 204 w) ≠ 0 ∧ iAnd cards (fCard n) ≠ 0
  · obtain ⟨w, x1, x2, x3⟩ := hit
    have e : gGrey1 c cards n s' = upI s' 205 w 1 := by unfold gGrey1; rw [e1, x1]; simp only; rw [if_pos ⟨by rw [h2 _ _ (by decide)]; exact x2, x3⟩]
    rw [e]
    refine ⟨h1, fun f q f1 => by rw [upI_ne f1]; exact h2 f q f1, fun t ⟨a, ha, ea⟩ => ?_, fun t hnn => ?_⟩
    · rw [upI_1]
      by_cases z : t = w
      · rw [if_pos ⟨rfl, z⟩]
      · rw [if_neg (fun y => z y.2)]
        refine h3 t ⟨a, ?_, ea⟩
        by_cases y : a = n
        · rw [y, x1] at ea; cases ea.1; exact absurd rfl z
        · omega
    · have z : t ≠ w := fun z => hnn ⟨n, by omega, by rw [z]; exact ⟨x1, x2, x3⟩⟩
      rw [upI_nq z]
      exact h4 t (fun ⟨a, ha, ea⟩ => hnn ⟨a, by omega, ea⟩)
  · have e : gGrey1 c cards n s' = s' := by
      unfold gGrey1
      rw [e1]
      cases hx : (s.2.2 102 (c 5) n) with
      | none => rfl
      | some w =>
        simp only
        rw [if_neg (fun z => hit ⟨w, hx, by rw [← h2 204 w (by decide)]; exact z.1, z.2⟩)]
    rw [e]
    refine ⟨h1, h2, fun t ⟨a, ha, ea⟩ => h3 t ⟨a, ?_, ea⟩, fun t hnn => h4 t (fun ⟨a, ha, ea⟩ => hnn ⟨a, by omega, ea⟩)⟩
    by_cases y : a = n
    · rw [y] at ea; exact absurd ⟨t, ea⟩ hit
    · omega
theorem GB.greyOn (g : GB Λ c σ) (cards : Int) : GB Λ c (gGrey c cards σ) := by
  obtain ⟨h1, h2, h3, h4⟩ := grey_is c cards σ
  have hw := g.wf.greyOn cards
  generalize gGrey c cards σ = s at *
  have hit : ∀ t, isT Λ t → ((s.1 205 t) = (σ.1 205 t) ∨ ((s.1 205 t) = 1 ∧ (σ.1 204 t) = 1 ∧ 0 ≤ (σ.1 203 t))) := by
    intro t ht
    by_cases x : ∃ a : Nat, a < 64 ∧ (σ.2.2 102 (c 5) a) = some t ∧ (σ.1 204 t) ≠ 0 ∧ iAnd cards (fCard a) ≠ 0
    · obtain ⟨a, ha, hc, hm, hi⟩ := x
      refine Or.inr ⟨h3 t ⟨a, ha, hc, hm, hi⟩, ?_, ((g.ce a t ha).mp hc).2.1⟩
      rcases (g.fl t ht).1 with y | y
      · exact absurd y hm
      · exact y
    · exact Or.inl (h4 t x)
  refine ⟨hw, fun t ht => ?_, fun a t ha => ?_, fun t ht => ?_, fun t ht hy => ?_, fun t ht hn hg => ?_, ?_, ?_, ?_, ?_⟩
  · rw [h2 _ _ (by decide)]; exact g.ad t ht
  · rw [h2 _ _ (by decide), h1]; exact g.ce a t ha
  · rw [h2 204 t (by decide), h2 206 t (by decide)]
    refine ⟨(g.fl t ht).1, ?_, (g.fl t ht).2.2⟩
    rcases hit t ht with x | ⟨x, _⟩
    · rw [x]; exact (g.fl t ht).2.1
    · exact Or.inr x
  · rw [h2 203 t (by decide)] at hy
    rw [h2 204 t (by decide)]
    refine ⟨(g.ym t ht hy).1, ?_⟩
    rcases hit t ht with x | ⟨_, _, x⟩
    · rw [x]; exact (g.ym t ht hy).2
    · omega
  · rw [h2 203 t (by decide)] at hn
    rw [h2 204 t (by decide)]
    rcases hit t ht with x | ⟨_, x, _⟩
    · rw [x] at hg; exact g.gm t ht hn hg
    · exact x
  · rw [h2 _ _ (by decide)]; exact g.d8
  · rw [h2 _ _ (by decide)]; exact g.n8
  · rw [h2 _ _ (by decide)]; exact g.ph
  · rw [h2 _ _ (by decide)]; exact g.sw
end MKS
