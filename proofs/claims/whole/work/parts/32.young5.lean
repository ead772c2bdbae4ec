/-! GD behind a young collection. -/
section YF
variable {Λ : Lam} {c : Nat → Nat} {σ0 s1 s5 : Mem}
theorem YZ.adr (h : YZ Λ c σ0 s1 s5) {t : Nat} (ht : isT Λ t) (ha : 0 ≤ (s1.1 203 t) ∨ 0 ≤ (s5.1 203 t) ∨ (s5.1 203 t) = -1) : (s5.1 203 t) = (s1.1 203 t) := by
  refine h.a2 t ht (fun z => ?_)
  have e5 := h.a1 t ht z.1 z.2
  rcases h.ya.aa t ht with e | ⟨_, _, e, _⟩
  · rcases ha with x | x | x <;> omega
  · omega
theorem YZ.cel (h : YZ Λ c σ0 s1 s5) (a : Nat) : (s5.2.2 102 (c 5) a) = (s1.2.2 102 (c 5) a) := h.kx _ _ _ (by omega)
theorem YZ.fld0 (h : YZ Λ c σ0 s1 s5) (t k : Nat) : (s5.2.2 103 (faL Λ t) k) = (σ0.2.2 103 (faL Λ t) k) := (h.kx _ _ _ (by omega)).trans (h.ya.kx _ _ _ (by decide) (by omega))
theorem YZ.root0 (h : YZ Λ c σ0 s1 s5) (r : Nat) : (s5.2.2 100 (c 1) r) = (σ0.2.2 100 (c 1) r) := (h.kx _ _ _ (by omega)).trans (h.ya.kx _ _ _ (by decide) (by omega))
theorem YZ.phs (h : YZ Λ c σ0 s1 s5) : (s5.1 306 (c 0)) = (σ0.1 306 (c 0)) := (h.ki _ _ (by decide) (by decide) (by decide) (by decide) (by decide)).trans (h.ya.ki _ _ (by decide) (by decide) (by decide) (by decide) (by decide) (by omega))
theorem YZ.swp (h : YZ Λ c σ0 s1 s5) : (s5.1 307 (c 0)) = (σ0.1 307 (c 0)) := (h.ki _ _ (by decide) (by decide) (by decide) (by decide) (by decide)).trans (h.ya.ki _ _ (by decide) (by decide) (by decide) (by decide) (by decide) (by omega))
theorem YZ.mrk (h : YZ Λ c σ0 s1 s5) (t : Nat) : (s5.1 204 t) = (s1.1 204 t) := h.ki _ _ (by decide) (by decide) (by decide) (by decide) (by decide)
theorem YZ.gry (h : YZ Λ c σ0 s1 s5) (t : Nat) : (s5.1 205 t) = (σ0.1 205 t) := (h.ki _ _ (by decide) (by decide) (by decide) (by decide) (by decide)).trans (h.ya.ki _ _ (by decide) (by decide) (by decide) (by decide) (by decide) (by omega))
theorem YZ.gry1 (h : YZ Λ c σ0 s1 s5) (t : Nat) : (s5.1 205 t) = (s1.1 205 t) := h.ki _ _ (by decide) (by decide) (by decide) (by decide) (by decide)
theorem YZ.reach (h : YZ Λ c σ0 s1 s5) {t : Nat} (hr : Reach Λ c s5 t) : Reach Λ c σ0 t := hr.same h.root0 h.fld0
theorem lo8_of {z : Int} (hr : rng z) (h : ∀ i, i < 32 → 8 ≤ i → cb z i = false) : lo8 z := ⟨hr, fun i hi => by
  by_cases e : i < 32
  · exact h i e hi
  · exact cb_big _ (by omega)⟩
-- a bit that was dirty is dirty or noted behind it while marking goes on
theorem YZ.gb (h : YZ Λ c σ0 s1 s5) : GB Λ c s5 := by
  have g := h.ya.gb
  have eph : (s5.1 306 (c 0)) = (s1.1 306 (c 0)) := h.ki _ _ (by decide) (by decide) (by decide) (by decide) (by decide)
  have esw : (s5.1 307 (c 0)) = (s1.1 307 (c 0)) := h.ki _ _ (by decide) (by decide) (by decide) (by decide) (by decide)
  refine ⟨h.wf, fun t ht => ?_, fun a t ha => ?_, fun t ht => ?_, fun t ht hy => ?_, fun t ht hn hg => ?_, ?_, ?_, ?_, ?_⟩
  · by_cases z : (σ0.1 203 t) = -1 ∧ (s1.1 206 t) = 0
    · exact Or.inl (h.a1 t ht z.1 z.2)
    · rw [h.a2 t ht z]; exact g.ad t ht
  · rw [h.cel a, g.ce a t ha]
    constructor
    · rintro ⟨h1, h2, h3, h4⟩
      rw [h.adr h1 (Or.inl h2)]
      exact ⟨h1, h2, h3, h4⟩
    · rintro ⟨h1, h2, h3, h4⟩
      have e := h.adr h1 (Or.inr (Or.inl h2))
      rw [e] at h2 h3 h4
      exact ⟨h1, h2, h3, h4⟩
  · rw [h.mrk, h.gry1]
    exact ⟨(g.fl t ht).1, (g.fl t ht).2.1, Or.inl (h.rc t ht)⟩
  · rw [h.mrk, h.gry1]
    exact g.ym t ht (by rw [← h.adr ht (Or.inr (Or.inr hy))]; exact hy)
  · rw [h.gry1] at hg
    rw [h.mrk]
    refine g.gm t ht ?_ hg
    by_cases z : (σ0.1 203 t) = -1 ∧ (s1.1 206 t) = 0
    · exact absurd (h.a1 t ht z.1 z.2) hn
    · rw [← h.a2 t ht z]; exact hn
  · refine lo8_of (h.wf.rg _ _) (fun i h1 h2 => ?_)
    rw [h.dr i h1, g.d8.2 i h2]; rfl
  · refine lo8_of (h.wf.rg _ _) (fun i h1 h2 => ?_)
    rw [h.nt i h1, g.n8.2 i h2, g.d8.2 i h2]; simp
  · rw [eph]; exact g.ph
  · rw [esw]; exact g.sw
theorem GD.young (h : GD Λ c σ0) : GD Λ c (fYoung Λ c σ0).2 := by
  have z := h.yz
  have hreach := (y_all h).2
  generalize gReachAllY Λ c σ0 = s1 at z hreach
  generalize (fYoung Λ c σ0).2 = s5 at z
  have g5 := z.gb
  have hyl : YL Λ c s5 := by
    refine ⟨fun t ht => ?_, z.yd⟩
    rw [z.yl t ht]
    constructor
    · intro hy
      refine ⟨?_, hy⟩
      have e1 := z.adr ht (Or.inr (Or.inr hy))
      rw [hy] at e1
      have h0 : (σ0.1 203 t) = -1 := by
        rcases z.ya.aa t ht with e | ⟨e, _⟩
        · omega
        · exact e
      rcases (z.ya.gb.fl t ht).2.2 with e | e
      · have := z.a1 t ht h0 e; omega
      · exact e
    · exact fun x => x.2
  -- what is young behind it was young before, and was reached
  have yng0 : ∀ t, isT Λ t → (s5.1 203 t) = -1 → (σ0.1 203 t) = -1 ∧ (s1.1 203 t) = -1 := by
    intro t ht hy
    have e1 := z.adr ht (Or.inr (Or.inr hy))
    rw [hy] at e1
    refine ⟨?_, e1.symm⟩
    rcases z.ya.aa t ht with e | ⟨e, _⟩
    · omega
    · exact e
  -- an old thing behind it was old before, at the same place and marked alike, or grew old in it
  have old0 : ∀ t, isT Λ t → 0 ≤ (s5.1 203 t) → (s1.1 203 t) = (s5.1 203 t) ∧ (((σ0.1 203 t) = (s5.1 203 t) ∧ (s5.1 204 t) = (σ0.1 204 t)) ∨ ((σ0.1 203 t) = -1 ∧ (s5.1 204 t) = if (σ0.1 306 (c 0)) = 0 then 0 else 1)) := by
    intro t ht ha
    have e1 := z.adr ht (Or.inr (Or.inl ha))
    refine ⟨e1.symm, ?_⟩
    rcases z.ya.aa t ht with e | ⟨e, _, _, em⟩
    · left
      exact ⟨by rw [e1, e], by rw [z.mrk]; exact z.ya.mk t ht e⟩
    · right
      exact ⟨e, by rw [z.mrk]; exact em⟩
  -- a card under a field of an old thing is dirty in s1, if it was before or the thing is new there
  have card32 : ∀ t k : Nat, isT Λ t → 0 ≤ (s5.1 203 t) → k < nfL Λ t → ((s5.1 203 t) + 1 + k).toNat < 64 ∧ ((s5.1 203 t) + 1 + k).toNat / 8 < 32 := by
    intro t k ht ha hk
    rcases g5.ad t ht with e | e | ⟨_, e⟩
    · omega
    · omega
    · unfold szI at e
      omega
  have newc : ∀ t k : Nat, isT Λ t → 0 ≤ (s5.1 203 t) → k < nfL Λ t → (σ0.1 203 t) = -1 → cb ((s1.1 304 (c 0))) (((s5.1 203 t) + 1 + k).toNat / 8) = true := by
    intro t k ht ha hk h0
    have e1 := (old0 t ht ha).1
    have := z.ya.du t ht h0 (by rw [e1]; exact ha) (1 + k) (by omega) (by unfold szI; omega)
    rw [e1] at this
    rw [show (s5.1 203 t) + 1 + (k : Int) = (s5.1 203 t) + (1 + k) by omega]
    exact this
  refine ⟨g5, z.qc, z.rc, hyl, ?_, fun t k u ht ha hk hf hy => ?_, fun hp t ht hn => ?_, fun hp t k u ht ha hm hg hk hf hu hmu => ?_, fun hp => ⟨fun t ht hn => ?_, fun t hr ha hs => ?_⟩, fun t hr he => ?_⟩
  · refine Int.le_trans ?_ h.y20
    unfold fTaken
    have y0 := g5.wf.y0
    have z0 := h.gb.wf.y0
    refine sumN_inj (fun i j => s5.2.2 101 (c 3) i = σ0.2.2 101 (c 3) j) (fun i hi => ?_) (fun i hi j hj j' hj' e e' => h.yl.2 j j' (by omega) (by omega) (e.symm.trans e')) (fun j hj i hi i' hi' e e' => z.yd i i' (by omega) (by omega) (e.trans e'.symm)) (fun i hi j hj e => ?_) (fun j hj => ?_)
    · obtain ⟨t, ht⟩ := g5.wf.yl i (by omega)
      have hT := g5.wf.ty _ _ _ _ ht
      have hy := (hyl.1 t hT).mpr ⟨i, by omega, ht⟩
      obtain ⟨j, hj, e⟩ := (h.yl.1 t hT).mp (yng0 t hT hy).1
      exact ⟨j, by omega, by rw [ht, e]⟩
    · unfold fSzAt
      rw [e]
    · unfold fSzAt
      split
      · exact Int.le_refl _
      · rename_i t ht
        have := szI_le (h.gb.wf.ty _ _ _ _ ht)
        omega
  · obtain ⟨h64, h32⟩ := card32 t k ht ha hk
    rw [z.dr _ h32]
    have hu : isT Λ u := g5.wf.ty _ _ _ _ hf
    have hd : cb ((s1.1 304 (c 0))) (((s5.1 203 t) + 1 + k).toNat / 8) = true := by
      rcases (old0 t ht ha).2 with ⟨e, _⟩ | ⟨e, _⟩
      · have := h.s1 t k u ht (by rw [e]; exact ha) hk (by rw [← z.fld0]; exact hf) (yng0 u hu hy).1
        rw [e] at this
        exact z.ya.dd _ this
      · exact newc t k ht ha hk e
    rw [hd, Bool.true_and]
    refine (show_cb s5 _).mpr ⟨((s5.1 203 t) + 1 + k).toNat, h64, rfl, ?_⟩
    have hc : (s5.2.2 102 (c 5) ((s5.1 203 t) + 1 + k).toNat) = some t := (g5.ce _ t h64).mpr ⟨ht, ha, by omega, by unfold szI; omega⟩
    have hr : fRef Λ c s5 ((s5.1 203 t) + 1 + k).toNat = some u := by
      unfold fRef
      rw [hc]
      simp only
      have e3 : ((((s5.1 203 t) + 1 + k).toNat : Nat) : Int) - (s5.1 203 t) - 1 = k := by omega
      rw [e3, if_pos ⟨by omega, by omega⟩]
      exact hf
    rw [hr]
    unfold isYng
    exact decide_eq_true hy
  · rw [z.phs] at hp
    rw [z.mrk]
    rcases z.ya.aa t ht with e | ⟨_, _, _, em⟩
    · rw [z.ya.mk t ht e]
      refine h.s2 hp t ht ?_
      by_cases y : (σ0.1 203 t) = -1 ∧ (s1.1 206 t) = 0
      · omega
      · rw [← e, ← z.a2 t ht y]; exact hn
    · rw [em, if_pos hp]
  · rw [z.phs] at hp
    obtain ⟨h64, h32⟩ := card32 t k ht ha hk
    have hu2 : isT Λ u := g5.wf.ty _ _ _ _ hf
    have ephs1 : (s1.1 306 (c 0)) = 1 := by rw [← z.ki 306 (c 0) (by decide) (by decide) (by decide) (by decide) (by decide), z.phs]; exact hp
    -- dirty in s1, or noted before
    have key : cb ((s1.1 304 (c 0))) (((s5.1 203 t) + 1 + k).toNat / 8) = true ∨ cb ((s1.1 305 (c 0))) (((s5.1 203 t) + 1 + k).toNat / 8) = true := by
      rcases (old0 t ht ha).2 with ⟨e, em⟩ | ⟨e, _⟩
      · have eu : (σ0.1 203 u) = (s5.1 203 u) ∧ (s5.1 204 u) = (σ0.1 204 u) := by
          rcases (old0 u hu2 hu).2 with x | ⟨_, x⟩
          · exact x
          · rw [if_neg (by omega)] at x; omega
        have := h.s3 hp t k u ht (by rw [e]; exact ha) (by rw [← em]; exact hm) (by rw [← z.gry]; exact hg) hk (by rw [← z.fld0]; exact hf) (by rw [eu.1]; exact hu) (by rw [← eu.2]; exact hmu)
        rw [e] at this
        rcases this with x | x
        · exact Or.inl (z.ya.dd _ x)
        · right
          rw [z.ya.ki 305 (c 0) (by decide) (by decide) (by decide) (by decide) (by decide) (by omega)]
          exact x
      · exact Or.inl (newc t k ht ha hk e)
    rw [z.nt _ h32, decide_eq_true ephs1]
    rcases key with x | x
    · rw [x]
      cases cb ((s5.1 304 (c 0))) (((s5.1 203 t) + 1 + k).toNat / 8)
      · right; simp
      · left; rfl
    · right; rw [x]; rfl
  · rw [z.phs] at hp
    rw [z.gry]
    by_cases e : (σ0.1 203 t) = -2
    · rcases z.ya.aa t ht with x | ⟨x, _⟩
      · have : (s5.1 203 t) = (s1.1 203 t) := z.a2 t ht (fun y => by omega)
        omega
      · omega
    · exact (h.s4 hp).1 t ht e
  · rw [z.phs] at hp
    have hT := hr.thing g5.wf.ty
    rcases (old0 t hT ha).2 with ⟨e, em⟩ | ⟨_, em⟩
    · rw [em]
      refine (h.s4 hp).2 t (z.reach hr) (by rw [e]; exact ha) ?_
      rw [e, ← z.swp]
      exact hs
    · rw [em, if_neg (by omega)]
  · have hT := hr.thing g5.wf.ty
    have hr0 := z.reach hr
    have h5 := h.s5 t hr0
    by_cases y : (σ0.1 203 t) = -1 ∧ (s1.1 206 t) = 0
    · have := hreach t hr0 y.1
      omega
    · have e := z.a2 t hT y
      rcases z.ya.aa t hT with x | ⟨_, x, _⟩
      · omega
      · omega
end YF
