/-! The sweeper's steps, the roots and the fields keep the invariants. -/
section SWS
variable {Λ : Lam} {c : Nat → Nat} {σ : Mem}
theorem from_some {l : Int} {t : Nat} (h : fFrom c σ l = some t) : ∃ a : Nat, a < 64 ∧ l ≤ (a : Int) ∧ (σ.2.2 102 (c 5) a) = some t ∧ (σ.1 203 t) = a := by
  unfold fFrom at h
  rcases fnd_is (p := fun a : Nat => decide (l ≤ (a : Int)) && (fAt c σ a).isSome) 64 with ⟨e, _⟩ | ⟨a, e, ha, hp, _⟩
  · rw [e] at h; cases h
  · rw [e] at h
    simp only at h
    have hl : l ≤ (a : Int) := by
      have := (Bool.and_eq_true_iff.mp hp).1
      exact of_decide_eq_true this
    unfold fAt at h
    cases hc : (σ.2.2 102 (c 5) a) with
    | none => rw [hc] at h; cases h
    | some u =>
      rw [hc] at h
      simp only at h
      by_cases x : (σ.1 203 u) = (a : Int)
      · rw [if_pos x] at h
        cases h
        exact ⟨a, ha, hl, hc, x⟩
      · rw [if_neg x] at h; cases h
theorem GB.unm (h : GB Λ c σ) : GB Λ c (gUnm c σ) := by
  obtain ⟨kx, ki, u1, u2⟩ := unm_is c σ
  have w := h.wf.unm
  generalize gUnm c σ = s at *
  have eA : ∀ t, (s.1 203 t) = (σ.1 203 t) := fun t => ki _ _ (by decide) (by decide)
  refine ⟨w, fun t ht => by rw [eA]; exact h.ad t ht, fun a t ha => by rw [eA, kx]; exact h.ce a t ha, fun t ht => ?_, fun t ht hy => ?_, fun t ht hn hg => ?_, ?_, ?_, ?_, ?_⟩
  · by_cases x : ∃ a : Nat, a < 64 ∧ (σ.2.2 102 (c 5) a) = some t
    · have := u1 t x
      exact ⟨Or.inl this.1, Or.inl this.2, by rw [ki _ _ (by decide) (by decide)]; exact (h.fl t ht).2.2⟩
    · have := u2 t x
      rw [this.1, this.2, ki 206 t (by decide) (by decide)]
      exact h.fl t ht
  · rw [eA] at hy
    by_cases x : ∃ a : Nat, a < 64 ∧ (σ.2.2 102 (c 5) a) = some t
    · exact u1 t x
    · have := u2 t x
      rw [this.1, this.2]
      exact h.ym t ht hy
  · rw [eA] at hn
    by_cases x : ∃ a : Nat, a < 64 ∧ (σ.2.2 102 (c 5) a) = some t
    · have := u1 t x; omega
    · have := u2 t x
      rw [this.2] at hg
      rw [this.1]
      exact h.gm t ht hn hg
  · rw [ki _ _ (by decide) (by decide)]; exact h.d8
  · rw [ki _ _ (by decide) (by decide)]; exact h.n8
  · rw [ki _ _ (by decide) (by decide)]; exact h.ph
  · rw [ki _ _ (by decide) (by decide)]; exact h.sw
theorem GB.inCell (h : GB Λ c σ) {t : Nat} (ht : isT Λ t) (ha : 0 ≤ (σ.1 203 t)) : ∃ a : Nat, a < 64 ∧ (σ.2.2 102 (c 5) a) = some t := by
  have hz := szI_le ht
  rcases h.ad t ht with e | e | ⟨_, e⟩
  · omega
  · omega
  · exact ⟨((σ.1 203 t)).toNat, by omega, (h.ce _ t (by omega)).mpr ⟨ht, ha, by omega, by omega⟩⟩
theorem GD.free (h : GD Λ c σ) (hp : (σ.1 306 (c 0)) = 2) {t : Nat} (ht : isT Λ t) (h0 : 0 ≤ (σ.1 203 t)) (hs : (σ.1 307 (c 0)) ≤ (σ.1 203 t)) (hm : (σ.1 204 t) = 0) : GD Λ c (upI (gTake Λ c t (upI σ 307 (c 0) ((σ.1 203 t) + szI Λ t))) 203 t (-2)) := by
  have hz := szI_le ht
  have h64 : (σ.1 203 t) + szI Λ t ≤ 64 := by
    rcases h.gb.ad t ht with e | e | ⟨_, e⟩
    · omega
    · omega
    · exact e
  have g1 : GB Λ c (upI σ 307 (c 0) ((σ.1 203 t) + szI Λ t)) := h.gb.upH (f := 307) (by omega) ⟨by omega, by omega, fun _ => ⟨by omega, by omega⟩⟩
  have w2 : WF Λ c (upI (gTake Λ c t (upI σ 307 (c 0) ((σ.1 203 t) + szI Λ t))) 203 t (-2)) := (g1.wf.take).upAdr ⟨by omega, by omega⟩
  have eA : ∀ w, ((upI (gTake Λ c t (upI σ 307 (c 0) ((σ.1 203 t) + szI Λ t))) 203 t (-2)).1 203 w) = if w = t then -2 else (σ.1 203 w) := by
    intro w
    rw [upI_1]
    by_cases ew : w = t
    · rw [if_pos ⟨rfl, ew⟩, if_pos ew]
    · rw [if_neg (fun z => ew z.2), if_neg ew]
      rfl
  have eI : ∀ f q, f ≠ 203 → f ≠ 307 → (upI (gTake Λ c t (upI σ 307 (c 0) ((σ.1 203 t) + szI Λ t))) 203 t (-2)).1 f q = σ.1 f q := by
    intro f q f1 f2
    rw [upI_ne f1]
    show (upI σ 307 (c 0) ((σ.1 203 t) + szI Λ t)).1 f q = _
    rw [upI_ne f2]
  have eS : (upI (gTake Λ c t (upI σ 307 (c 0) ((σ.1 203 t) + szI Λ t))) 203 t (-2)).1 307 (c 0) = (σ.1 203 t) + szI Λ t := by
    rw [upI_ne (by decide)]
    show (upI σ 307 (c 0) ((σ.1 203 t) + szI Λ t)).1 307 (c 0) = _
    rw [upI_at]
  have eC : ∀ a, ((upI (gTake Λ c t (upI σ 307 (c 0) ((σ.1 203 t) + szI Λ t))) 203 t (-2)).2.2 102 (c 5) a) = if (σ.1 203 t) ≤ (a : Int) ∧ (a : Int) < (σ.1 203 t) + szI Λ t then none else (σ.2.2 102 (c 5) a) := by
    intro a
    have e := take_cel (Λ := Λ) (c := c) (s := upI σ 307 (c 0) ((σ.1 203 t) + szI Λ t)) t a
    have e2 : ((upI σ 307 (c 0) ((σ.1 203 t) + szI Λ t)).1 203 t) = (σ.1 203 t) := upI_ne (by decide)
    rw [e2, Int.min_eq_left h64] at e
    exact e
  have eX : ∀ kd q k, kd ≠ 102 → (upI (gTake Λ c t (upI σ 307 (c 0) ((σ.1 203 t) + szI Λ t))) 203 t (-2)).2.2 kd q k = σ.2.2 kd q k := by
    intro kd q k hk
    show (gFill c _ _ none _).2.2 kd q k = _
    unfold gFill
    simp only
    rw [if_neg (fun z => hk z.1)]
    rfl
  generalize upI (gTake Λ c t (upI σ 307 (c 0) ((σ.1 203 t) + szI Λ t))) 203 t (-2) = s at *
  have eR : ∀ w, Reach Λ c s w → Reach Λ c σ w := fun w hr => hr.same (fun r => eX _ _ _ (by decide)) (fun u k => eX _ _ _ (by decide))
  have nt : ¬ Reach Λ c σ t := fun hr => by have := (h.s4 hp).2 t hr h0 hs; omega
  have hne : ∀ w, (s.1 203 w) ≠ -2 → w ≠ t ∧ (s.1 203 w) = (σ.1 203 w) := by
    intro w hw
    have := eA w
    by_cases ew : w = t
    · rw [if_pos ew] at this; exact absurd this hw
    · rw [if_neg ew] at this; exact ⟨ew, this⟩
  have gb : GB Λ c s := by
    refine ⟨w2, fun w hw => ?_, fun a w ha => ?_, fun w hw => ?_, fun w hw hy => ?_, fun w hw hn hg => ?_, ?_, ?_, ?_, ?_⟩
    · rw [eA]
      by_cases ew : w = t
      · rw [if_pos ew]; exact Or.inl rfl
      · rw [if_neg ew]; exact h.gb.ad w hw
    · rw [eC, eA]
      by_cases x : (σ.1 203 t) ≤ (a : Int) ∧ (a : Int) < (σ.1 203 t) + szI Λ t
      · rw [if_pos x]
        constructor
        · intro z; cases z
        · rintro ⟨y1, y2, y3, y4⟩
          exfalso
          by_cases ew : w = t
          · rw [if_pos ew] at y2; omega
          · rw [if_neg ew] at y2 y3 y4
            have z1 := (h.gb.ce a w ha).mpr ⟨y1, y2, y3, y4⟩
            have z2 := (h.gb.ce a t ha).mpr ⟨ht, h0, x.1, x.2⟩
            rw [z1] at z2
            cases z2
            exact ew rfl
      · rw [if_neg x]
        by_cases ew : w = t
        · rw [if_pos ew, ew, h.gb.ce a t ha]
          constructor
          · intro z; exact absurd ⟨z.2.2.1, z.2.2.2⟩ x
          · intro z; omega
        · rw [if_neg ew]; exact h.gb.ce a w ha
    · rw [eI _ _ (by decide) (by decide), eI _ _ (by decide) (by decide), eI _ _ (by decide) (by decide)]; exact h.gb.fl w hw
    · obtain ⟨_, e⟩ := hne w (by omega)
      rw [eI _ _ (by decide) (by decide), eI _ _ (by decide) (by decide)]
      exact h.gb.ym w hw (by omega)
    · obtain ⟨_, e⟩ := hne w hn
      rw [eI _ _ (by decide) (by decide)] at hg ⊢
      exact h.gb.gm w hw (by omega) hg
    · rw [eI _ _ (by decide) (by decide)]; exact h.gb.d8
    · rw [eI _ _ (by decide) (by decide)]; exact h.gb.n8
    · rw [eI _ _ (by decide) (by decide)]; exact h.gb.ph
    · rw [eS]; exact ⟨by omega, h64⟩
  have ph2 : (s.1 306 (c 0)) = 2 := by rw [eI _ _ (by decide) (by decide)]; exact hp
  refine ⟨gb, ?_, fun w hw => ?_, ?_, ?_, fun w k u hw ha hk hf hy => ?_, fun z => by omega, fun z => by omega, fun _ => ⟨fun w hw hn => ?_, fun w hr ha hsw => ?_⟩, fun w hr => ?_⟩
  · rw [eI _ _ (by decide) (by decide)]; exact h.q0
  · rw [eI _ _ (by decide) (by decide)]; exact h.r0 w hw
  · have y := h.yl
    refine ⟨fun w hw => ?_, fun i j hi hj e => ?_⟩
    · simp only [eX 101 (c 3) _ (by decide), eI 101 (c 2) (by decide) (by decide)]
      rw [← y.1 w hw, eA]
      by_cases ew : w = t
      · rw [if_pos ew, ew]; omega
      · rw [if_neg ew]
    · rw [eI 101 (c 2) (by decide) (by decide)] at hi hj
      rw [eX 101 (c 3) _ (by decide), eX 101 (c 3) _ (by decide)] at e
      exact y.2 i j hi hj e
  · rw [taken_congr (eI _ _ (by decide) (by decide)) (fun i => eX _ _ _ (by decide))]; exact h.y20
  · obtain ⟨_, e1⟩ := hne w (by omega)
    obtain ⟨_, e2⟩ := hne u (by omega)
    rw [eX _ _ _ (by decide)] at hf
    rw [eI _ _ (by decide) (by decide), e1]
    exact h.s1 w k u hw (by omega) hk hf (by omega)
  · obtain ⟨_, e⟩ := hne w hn
    rw [eI _ _ (by decide) (by decide)]
    exact (h.s4 hp).1 w hw (by omega)
  · obtain ⟨_, e⟩ := hne w (by omega)
    rw [eI _ _ (by decide) (by decide)]
    exact (h.s4 hp).2 w (eR w hr) (by omega) (by omega)
  · have hr2 := eR w hr
    rw [eA, if_neg (fun e => nt (by rw [← e]; exact hr2))]
    exact h.s5 w hr2
theorem GD.sweep (h : GD Λ c σ) : GD Λ c (fSweep Λ c σ).2 := by
  unfold fSweep
  by_cases hp : (σ.1 306 (c 0)) = 2
  · rw [if_pos hp]
    cases hf : fFrom c σ ((σ.1 307 (c 0))) with
    | none =>
      dsimp only
      have g1 : GB Λ c (upI σ 306 (c 0) 0) := h.gb.upH (f := 306) (v := 0) (by omega) ⟨by omega, by omega, by omega⟩
      have g2 := g1.unm
      obtain ⟨kx, ki, u1, u2⟩ := unm_is c (upI σ 306 (c 0) 0)
      generalize gUnm c (upI σ 306 (c 0) 0) = s at *
      have ph : (s.1 306 (c 0)) = 0 := by rw [ki _ _ (by decide) (by decide), upI_at]
      refine h.keep g2 kx (fun f q f1 f2 f3 f4 f5 => by rw [ki f q f1 f2, upI_ne f4]) (fun _ t ht hn => ?_) (fun z => by omega) (fun z => by omega)
      rcases h.gb.ad t ht with e | e | ⟨e, _⟩
      · exact absurd e hn
      · exact (g2.ym t ht (by rw [ki _ _ (by decide) (by decide), upI_ne (by decide)]; exact e)).1
      · exact (u1 t (h.gb.inCell ht e)).1
    | some t =>
      obtain ⟨a, ha, hl, hc, hA⟩ := from_some hf
      have ht := h.gb.wf.ty _ _ _ _ hc
      have hz := szI_le ht
      by_cases hm : (σ.1 204 t) = 0
      · simp only [if_pos hm]
        exact h.free hp ht (by omega) (by omega) hm
      · simp only [if_neg hm]
        have h64 : (σ.1 203 t) + szI Λ t ≤ 64 := by
          rcases h.gb.ad t ht with e | e | ⟨_, e⟩
          · omega
          · omega
          · exact e
        have g1 : GB Λ c (upI σ 307 (c 0) ((σ.1 203 t) + szI Λ t)) := h.gb.upH (f := 307) (by omega) ⟨by omega, by omega, fun _ => ⟨by omega, by omega⟩⟩
        have eS : ((upI σ 307 (c 0) ((σ.1 203 t) + szI Λ t)).1 307 (c 0)) = (σ.1 203 t) + szI Λ t := upI_at
        have eP : ((upI σ 307 (c 0) ((σ.1 203 t) + szI Λ t)).1 306 (c 0)) = 2 := by rw [upI_ne (by decide)]; exact hp
        refine h.keep g1 rfl (fun f q _ _ _ _ f5 => upI_ne f5) (fun z => by omega) (fun z => by omega) (fun _ => ⟨fun u hu hn => ?_, fun u hr h0 hs => ?_⟩)
        · rw [upI_ne (by decide)]; exact (h.s4 hp).1 u hu hn
        · rw [upI_ne (by decide)]; exact (h.s4 hp).2 u hr h0 (by omega)
  · rw [if_neg hp]; exact h
-- a root is given what is reachable, or nothing
theorem GD.root (h : GD Λ c σ) {r : Nat} {o : Option Nat} (ho : ∀ t, o = some t → Reach Λ c σ t) : GD Λ c (upX σ 100 (c 1) r o) := by
  have eX : ∀ kd q k, kd ≠ 100 → (upX σ 100 (c 1) r o).2.2 kd q k = σ.2.2 kd q k := fun kd q k hk => by rw [upX_22, if_neg (fun z => hk z.1)]
  have eR : ∀ w, Reach Λ c (upX σ 100 (c 1) r o) w → Reach Λ c σ w := by
    intro w hr
    refine hr.mono (fun q u hq e => ?_) (fun u k v hu hk e => hu.fld hk (by rw [← eX _ _ _ (by decide)]; exact e))
    rw [upX_22] at e
    by_cases x : q = r
    · rw [if_pos ⟨rfl, rfl, x⟩] at e
      exact ho u e
    · rw [if_neg (fun z => x z.2.2)] at e
      exact Reach.root hq e
  have ty : ∀ kd q k t, (upX σ 100 (c 1) r o).2.2 kd q k = some t → isT Λ t := by
    intro kd q k t e
    rw [upX_22] at e
    by_cases x : kd = 100 ∧ q = c 1 ∧ k = r
    · rw [if_pos x] at e; exact (ho t e).thing h.gb.wf.ty
    · rw [if_neg x] at e; exact h.gb.wf.ty _ _ _ _ e
  have e1 : (upX σ 100 (c 1) r o).1 = σ.1 := rfl
  generalize upX σ 100 (c 1) r o = s at *
  have w : WF Λ c s := by
    have w := h.gb.wf
    refine ⟨w.ly, ty, ?_, ?_, ?_, ?_, ?_, ?_, ?_, ?_, ?_⟩
    · rw [e1]; exact w.rg
    · rw [e1]; exact w.ab
    · rw [e1]; exact w.ag
    · rw [e1]; exact w.y0
    · rw [e1]; exact w.y1
    · rw [e1]; exact w.q0
    · rw [e1]; exact w.q1
    · intro i hi; rw [e1] at hi; rw [eX _ _ _ (by decide)]; exact w.yl i hi
    · intro i hi; rw [e1] at hi; rw [eX _ _ _ (by decide)]; exact w.ql i hi
  have gb : GB Λ c s := by
    refine ⟨w, ?_, fun a t ha => ?_, ?_, ?_, ?_, ?_, ?_, ?_, ?_⟩
    · rw [e1]; exact h.gb.ad
    · rw [e1, eX _ _ _ (by decide)]; exact h.gb.ce a t ha
    · rw [e1]; exact h.gb.fl
    · rw [e1]; exact h.gb.ym
    · rw [e1]; exact h.gb.gm
    · rw [e1]; exact h.gb.d8
    · rw [e1]; exact h.gb.n8
    · rw [e1]; exact h.gb.ph
    · rw [e1]; exact h.gb.sw
  refine ⟨gb, ?_, ?_, ?_, ?_, fun t k u ht ha hk hf hy => ?_, ?_, fun hp t k u ht ha hm hg hk hf hu hmu => ?_, fun hp => ⟨?_, fun t hr ha hs => ?_⟩, fun t hr => ?_⟩
  · rw [e1]; exact h.q0
  · rw [e1]; exact h.r0
  · have y := h.yl
    unfold YL at y ⊢
    rw [e1]
    simp only [eX 101 (c 3) _ (by decide)]
    exact y
  · rw [taken_congr (by rw [e1]) (fun i => eX _ _ _ (by decide))]; exact h.y20
  · rw [eX _ _ _ (by decide)] at hf
    rw [e1] at ha hy ⊢
    exact h.s1 t k u ht ha hk hf hy
  · rw [e1]; exact h.s2
  · rw [eX _ _ _ (by decide)] at hf
    rw [e1] at hp ha hm hg hu hmu ⊢
    exact h.s3 hp t k u ht ha hm hg hk hf hu hmu
  · rw [e1] at hp ⊢; exact (h.s4 hp).1
  · rw [e1] at hp ha hs ⊢; exact (h.s4 hp).2 t (eR t hr) ha hs
  · rw [e1]; exact h.s5 t (eR t hr)
theorem GD.clear (h : GD Λ c σ) (r : Int) : GD Λ c (fClear c r σ).2 := by
  unfold fClear
  by_cases x : 0 ≤ r ∧ r < 6
  · rw [if_pos x]; exact h.root (fun t e => by cases e)
  · rw [if_neg x]; exact h
theorem GD.copy (h : GD Λ c σ) (r q : Int) : GD Λ c (fCopy c r q σ).2 := by
  unfold fCopy
  by_cases x : (0 ≤ r ∧ r < 6) ∧ 0 ≤ q ∧ q < 6
  · rw [if_pos x]; exact h.root (fun t e => Reach.root (r := q.toNat) (by omega) e)
  · rw [if_neg x]; exact h
theorem GD.load (h : GD Λ c σ) (r q k : Int) : GD Λ c (fLoad Λ c r q k σ).2 := by
  unfold fLoad
  by_cases x : (0 ≤ r ∧ r < 6) ∧ 0 ≤ q ∧ q < 6
  · rw [if_pos x]
    cases e : (σ.2.2 100 (c 1) q.toNat) with
    | none => exact h
    | some t =>
      simp only
      by_cases y : 0 ≤ k ∧ k < (nfL Λ t : Int)
      · rw [if_pos y]
        exact h.root (fun u e2 => (Reach.root (r := q.toNat) (by omega) e).fld (k := k.toNat) (by omega) e2)
      · rw [if_neg y]; exact h
  · rw [if_neg x]; exact h
-- a field is given what is reachable, or nothing
def FI (Λ : Lam) : Prop := ∀ t u, isT Λ t → isT Λ u → faL Λ t = faL Λ u → t = u
theorem GD.store1 (h : GD Λ c σ) (fi : FI Λ) {t k : Nat} {o : Option Nat} (ht : isT Λ t) (hn : (σ.1 203 t) ≠ -2) (hk : k < nfL Λ t) (ho : ∀ u, o = some u → Reach Λ c σ u) : GD Λ c (gStore Λ c t k o σ) := by
  have hz := szI_le ht
  have ex : (gStore Λ c t k o σ).2 = (upX σ 103 (faL Λ t) k o).2 := by
    unfold gStore
    by_cases x : 0 ≤ (σ.1 203 t)
    · rw [if_pos x]; rfl
    · rw [if_neg x]
  have eX : ∀ kd q j, kd ≠ 103 → (gStore Λ c t k o σ).2.2 kd q j = σ.2.2 kd q j := fun kd q j hk => by rw [ex, upX_22, if_neg (fun z => hk z.1)]
  have eF : ∀ w j, isT Λ w → ((gStore Λ c t k o σ).2.2 103 (faL Λ w) j) = if w = t ∧ j = k then o else (σ.2.2 103 (faL Λ w) j) := by
    intro w j hw
    rw [ex, upX_22]
    by_cases x : w = t ∧ j = k
    · rw [if_pos x, if_pos ⟨rfl, by rw [x.1], x.2⟩]
    · rw [if_neg x, if_neg (fun z => x ⟨fi w t hw ht z.2.1, z.2.2⟩)]
  have eI : ∀ f q, f ≠ 304 → (gStore Λ c t k o σ).1 f q = σ.1 f q := by
    intro f q hf
    unfold gStore
    by_cases x : 0 ≤ (σ.1 203 t)
    · rw [if_pos x, upI_ne hf]; rfl
    · rw [if_neg x]; rfl
  have eD : ((gStore Λ c t k o σ).1 304 (c 0)) = if 0 ≤ (σ.1 203 t) then iOr ((σ.1 304 (c 0))) (fCard ((σ.1 203 t) + 1 + k)) else (σ.1 304 (c 0)) := by
    unfold gStore
    by_cases x : 0 ≤ (σ.1 203 t)
    · rw [if_pos x, if_pos x, upI_at]
    · rw [if_neg x, if_neg x]; rfl
  have ty : ∀ kd q j u, (gStore Λ c t k o σ).2.2 kd q j = some u → isT Λ u := by
    intro kd q j u e
    rw [ex, upX_22] at e
    by_cases x : kd = 103 ∧ q = faL Λ t ∧ j = k
    · rw [if_pos x] at e; exact (ho u e).thing h.gb.wf.ty
    · rw [if_neg x] at e; exact h.gb.wf.ty _ _ _ _ e
  have oq : ∀ f q, f = 304 → q ≠ c 0 → (gStore Λ c t k o σ).1 f q = σ.1 f q := by
    intro f q hf hq
    unfold gStore
    by_cases x : 0 ≤ (σ.1 203 t)
    · rw [if_pos x, upI_nq hq]; rfl
    · rw [if_neg x]; rfl
  have h64 : 0 ≤ (σ.1 203 t) → (σ.1 203 t) + 1 + k < 64 := by
    intro z
    rcases h.gb.ad t ht with e | e | ⟨_, e⟩
    · omega
    · omega
    · unfold szI at e; omega
  have d8 : lo8 (((gStore Λ c t k o σ).1 304 (c 0))) := by
    rw [eD]
    by_cases x : 0 ≤ (σ.1 203 t)
    · rw [if_pos x]
      have := h64 x
      have e : (σ.1 203 t) + 1 + (k : Int) = ((((σ.1 203 t)).toNat + 1 + k : Nat) : Int) := by omega
      rw [e]
      exact lo8_or h.gb.d8 (lo8_card (by omega))
    · rw [if_neg x]; exact h.gb.d8
  have dUp : ∀ i, cb ((σ.1 304 (c 0))) i = true → cb (((gStore Λ c t k o σ).1 304 (c 0))) i = true := by
    intro i hi
    rw [eD]
    by_cases x : 0 ≤ (σ.1 203 t)
    · rw [if_pos x, cb_or, hi]; rfl
    · rw [if_neg x]; exact hi
  have dAt : 0 ≤ (σ.1 203 t) → cb (((gStore Λ c t k o σ).1 304 (c 0))) (((σ.1 203 t) + 1 + k).toNat / 8) = true := by
    intro x
    have := h64 x
    rw [eD, if_pos x, cb_or]
    have e : (σ.1 203 t) + 1 + (k : Int) = ((((σ.1 203 t)).toNat + 1 + k : Nat) : Int) := by omega
    rw [e, cb_card' (by omega), decide_eq_true (by rw [Int.toNat_natCast]), Bool.or_true]
  have eR : ∀ w, Reach Λ c (gStore Λ c t k o σ) w → Reach Λ c σ w := by
    intro w hr
    refine hr.mono (fun q u hq e => Reach.root hq (by rw [← eX _ _ _ (by decide)]; exact e)) (fun u j v hu hj e => ?_)
    rw [eF u j (hu.thing h.gb.wf.ty)] at e
    by_cases x : u = t ∧ j = k
    · rw [if_pos x] at e; exact ho v e
    · rw [if_neg x] at e; exact hu.fld hj e
  generalize gStore Λ c t k o σ = s at *
  have w : WF Λ c s := by
    have w := h.gb.wf
    refine ⟨w.ly, ty, fun f q => ?_, fun u hu => ?_, fun u hu => ?_, ?_, ?_, ?_, ?_, ?_, ?_⟩
    · by_cases x : f = 304
      · by_cases y : q = c 0
        · rw [x, y]; exact d8.1
        · rw [oq f q x y]; exact w.rg f q
      · rw [eI f q x]; exact w.rg f q
    · rw [eI _ _ (by decide)]; exact w.ab u hu
    · rw [eI _ _ (by decide)]; exact w.ag u hu
    · rw [eI _ _ (by decide)]; exact w.y0
    · rw [eI _ _ (by decide)]; exact w.y1
    · rw [eI _ _ (by decide)]; exact w.q0
    · rw [eI _ _ (by decide)]; exact w.q1
    · intro i hi; rw [eI _ _ (by decide)] at hi; rw [eX _ _ _ (by decide)]; exact w.yl i hi
    · intro i hi; rw [eI _ _ (by decide)] at hi; rw [eX _ _ _ (by decide)]; exact w.ql i hi
  have gb : GB Λ c s := by
    refine ⟨w, fun u hu => ?_, fun a u ha => ?_, fun u hu => ?_, fun u hu hy => ?_, fun u hu hnu hg => ?_, d8, ?_, ?_, ?_⟩
    · rw [eI _ _ (by decide)]; exact h.gb.ad u hu
    · rw [eI _ _ (by decide), eX _ _ _ (by decide)]; exact h.gb.ce a u ha
    · rw [eI _ _ (by decide), eI _ _ (by decide), eI _ _ (by decide)]; exact h.gb.fl u hu
    · rw [eI _ _ (by decide)] at hy
      rw [eI _ _ (by decide), eI _ _ (by decide)]; exact h.gb.ym u hu hy
    · rw [eI _ _ (by decide)] at hnu hg ⊢
      exact h.gb.gm u hu hnu hg
    · rw [eI _ _ (by decide)]; exact h.gb.n8
    · rw [eI _ _ (by decide)]; exact h.gb.ph
    · rw [eI _ _ (by decide)]; exact h.gb.sw
  refine ⟨gb, ?_, fun u hu => ?_, ?_, ?_, fun w j u hw ha hj hf hy => ?_, fun hp u hu hnu => ?_, fun hp w j u hw ha hm hg hj hf hu hmu => ?_, fun hp => ⟨fun u hu hnu => ?_, fun u hr ha hs => ?_⟩, fun u hr => ?_⟩
  · rw [eI _ _ (by decide)]; exact h.q0
  · rw [eI _ _ (by decide)]; exact h.r0 u hu
  · have y := h.yl
    unfold YL at y ⊢
    simp only [eX 101 (c 3) _ (by decide), eI 101 _ (by decide), eI 203 _ (by decide)]
    exact y
  · rw [taken_congr (eI _ _ (by decide)) (fun i => eX _ _ _ (by decide))]; exact h.y20
  · rw [eI _ _ (by decide)] at ha hy
    rw [eI 203 _ (by decide)]
    rw [eF w j hw] at hf
    by_cases x : w = t ∧ j = k
    · rw [x.1, x.2]; exact dAt (by rw [← x.1]; exact ha)
    · rw [if_neg x] at hf; exact dUp _ (h.s1 w j u hw ha hj hf hy)
  · rw [eI _ _ (by decide)] at hp hnu ⊢
    exact h.s2 hp u hu hnu
  · rw [eI _ _ (by decide)] at hp ha hm hg hu hmu
    rw [eI 203 _ (by decide), eI 305 _ (by decide)]
    rw [eF w j hw] at hf
    by_cases x : w = t ∧ j = k
    · rw [x.1, x.2]; exact Or.inl (dAt (by rw [← x.1]; exact ha))
    · rw [if_neg x] at hf
      rcases h.s3 hp w j u hw ha hm hg hj hf hu hmu with z | z
      · exact Or.inl (dUp _ z)
      · exact Or.inr z
  · rw [eI _ _ (by decide)] at hp hnu ⊢
    exact (h.s4 hp).1 u hu hnu
  · rw [eI _ _ (by decide)] at hp ha ⊢
    rw [eI 307 _ (by decide), eI 203 _ (by decide)] at hs
    exact (h.s4 hp).2 u (eR u hr) ha hs
  · rw [eI _ _ (by decide)]; exact h.s5 u (eR u hr)
theorem GD.store (h : GD Λ c σ) (fi : FI Λ) (r k q : Int) : GD Λ c (fStore Λ c r k q σ).2 := by
  unfold fStore
  by_cases x : (0 ≤ r ∧ r < 6) ∧ 0 ≤ q ∧ q < 6
  · rw [if_pos x]
    cases e : (σ.2.2 100 (c 1) r.toNat) with
    | none => exact h
    | some t =>
      simp only
      by_cases y : 0 ≤ k ∧ k < (nfL Λ t : Int)
      · rw [if_pos y]
        have hr : Reach Λ c σ t := Reach.root (r := r.toNat) (by omega) e
        exact h.store1 fi (hr.thing h.gb.wf.ty) (h.s5 t hr) (by omega) (fun u e2 => Reach.root (r := q.toNat) (by omega) e2)
      · rw [if_neg y]; exact h
  · rw [if_neg x]; exact h
end SWS
