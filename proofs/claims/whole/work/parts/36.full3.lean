/-! Behind a full collection all holds again that holds between calls. -/
-- the state s5 in which the young are going to be moved, thing by thing, out of σ0, s1 (what was found) and s2 (slid)
def FZ (Λ : Lam) (c : Nat → Nat) (σ0 s1 s2 s5 : Mem) : Prop :=
  (FA Λ c σ0 s1) ∧
  (SL Λ c s1 64 (nfold (gSlide1 Λ c) (0, s1) 64).1 s2) ∧
  (WF Λ c s5) ∧
  (∀ t, isT Λ t → (σ0.1 203 t) = -1 → (s1.1 206 t) = 0 → (s5.1 203 t) = -2) ∧
  (∀ t, isT Λ t → ¬ ((σ0.1 203 t) = -1 ∧ (s1.1 206 t) = 0) → (s5.1 203 t) = (s2.1 203 t)) ∧
  (∀ t, isT Λ t → 0 ≤ (s2.1 203 t) → (s5.1 204 t) = 0 ∧ (s5.1 205 t) = 0) ∧
  (∀ t, isT Λ t → (s2.1 203 t) < 0 → (s5.1 204 t) = (σ0.1 204 t) ∧ (s5.1 205 t) = (σ0.1 205 t)) ∧
  (∀ f q, f ≠ 203 → f ≠ 204 → f ≠ 205 → f ≠ 206 → f ≠ 101 → f ≠ 306 → s5.1 f q = σ0.1 f q) ∧
  (∀ t, isT Λ t → (s5.1 206 t) = 0) ∧
  (∀ a, (s5.2.2 102 (c 5) a) = (s2.2.2 102 (c 5) a)) ∧
  (∀ kd q k, kd ≠ 102 → kd ≠ 101 → s5.2.2 kd q k = σ0.2.2 kd q k) ∧
  ((s5.1 101 (c 6)) = 0) ∧
  ((s5.1 306 (c 0)) = 0) ∧
  (∀ t, isT Λ t → ((∃ i : Nat, (i : Int) < (s5.1 101 (c 2)) ∧ s5.2.2 101 (c 3) i = some t) ↔ ((σ0.1 203 t) = -1 ∧ (s1.1 206 t) ≠ 0))) ∧
  (∀ i j : Nat, (i : Int) < (s5.1 101 (c 2)) → (j : Int) < (s5.1 101 (c 2)) → s5.2.2 101 (c 3) i = s5.2.2 101 (c 3) j → i = j)
theorem FZ.fa {Λ : Lam} {c : Nat → Nat} {σ0 s1 s2 s5 : Mem} (h : FZ Λ c σ0 s1 s2 s5) : FA Λ c σ0 s1 := h.1
theorem FZ.sl {Λ : Lam} {c : Nat → Nat} {σ0 s1 s2 s5 : Mem} (h : FZ Λ c σ0 s1 s2 s5) : SL Λ c s1 64 (nfold (gSlide1 Λ c) (0, s1) 64).1 s2 := h.2.1
theorem FZ.wf {Λ : Lam} {c : Nat → Nat} {σ0 s1 s2 s5 : Mem} (h : FZ Λ c σ0 s1 s2 s5) : WF Λ c s5 := h.2.2.1
theorem FZ.a1 {Λ : Lam} {c : Nat → Nat} {σ0 s1 s2 s5 : Mem} (h : FZ Λ c σ0 s1 s2 s5) : ∀ t, isT Λ t → (σ0.1 203 t) = -1 → (s1.1 206 t) = 0 → (s5.1 203 t) = -2 := h.2.2.2.1
theorem FZ.a2 {Λ : Lam} {c : Nat → Nat} {σ0 s1 s2 s5 : Mem} (h : FZ Λ c σ0 s1 s2 s5) : ∀ t, isT Λ t → ¬ ((σ0.1 203 t) = -1 ∧ (s1.1 206 t) = 0) → (s5.1 203 t) = (s2.1 203 t) := h.2.2.2.2.1
theorem FZ.mk {Λ : Lam} {c : Nat → Nat} {σ0 s1 s2 s5 : Mem} (h : FZ Λ c σ0 s1 s2 s5) : ∀ t, isT Λ t → 0 ≤ (s2.1 203 t) → (s5.1 204 t) = 0 ∧ (s5.1 205 t) = 0 := h.2.2.2.2.2.1
theorem FZ.m2 {Λ : Lam} {c : Nat → Nat} {σ0 s1 s2 s5 : Mem} (h : FZ Λ c σ0 s1 s2 s5) : ∀ t, isT Λ t → (s2.1 203 t) < 0 → (s5.1 204 t) = (σ0.1 204 t) ∧ (s5.1 205 t) = (σ0.1 205 t) := h.2.2.2.2.2.2.1
theorem FZ.ki {Λ : Lam} {c : Nat → Nat} {σ0 s1 s2 s5 : Mem} (h : FZ Λ c σ0 s1 s2 s5) : ∀ f q, f ≠ 203 → f ≠ 204 → f ≠ 205 → f ≠ 206 → f ≠ 101 → f ≠ 306 → s5.1 f q = σ0.1 f q := h.2.2.2.2.2.2.2.1
theorem FZ.rc {Λ : Lam} {c : Nat → Nat} {σ0 s1 s2 s5 : Mem} (h : FZ Λ c σ0 s1 s2 s5) : ∀ t, isT Λ t → (s5.1 206 t) = 0 := h.2.2.2.2.2.2.2.2.1
theorem FZ.cx {Λ : Lam} {c : Nat → Nat} {σ0 s1 s2 s5 : Mem} (h : FZ Λ c σ0 s1 s2 s5) : ∀ a, (s5.2.2 102 (c 5) a) = (s2.2.2 102 (c 5) a) := h.2.2.2.2.2.2.2.2.2.1
theorem FZ.kx {Λ : Lam} {c : Nat → Nat} {σ0 s1 s2 s5 : Mem} (h : FZ Λ c σ0 s1 s2 s5) : ∀ kd q k, kd ≠ 102 → kd ≠ 101 → s5.2.2 kd q k = σ0.2.2 kd q k := h.2.2.2.2.2.2.2.2.2.2.1
theorem FZ.qc {Λ : Lam} {c : Nat → Nat} {σ0 s1 s2 s5 : Mem} (h : FZ Λ c σ0 s1 s2 s5) : (s5.1 101 (c 6)) = 0 := h.2.2.2.2.2.2.2.2.2.2.2.1
theorem FZ.ph {Λ : Lam} {c : Nat → Nat} {σ0 s1 s2 s5 : Mem} (h : FZ Λ c σ0 s1 s2 s5) : (s5.1 306 (c 0)) = 0 := h.2.2.2.2.2.2.2.2.2.2.2.2.1
theorem FZ.yl {Λ : Lam} {c : Nat → Nat} {σ0 s1 s2 s5 : Mem} (h : FZ Λ c σ0 s1 s2 s5) : ∀ t, isT Λ t → ((∃ i : Nat, (i : Int) < (s5.1 101 (c 2)) ∧ s5.2.2 101 (c 3) i = some t) ↔ ((σ0.1 203 t) = -1 ∧ (s1.1 206 t) ≠ 0)) := h.2.2.2.2.2.2.2.2.2.2.2.2.2.1
theorem FZ.yd {Λ : Lam} {c : Nat → Nat} {σ0 s1 s2 s5 : Mem} (h : FZ Λ c σ0 s1 s2 s5) : ∀ i j : Nat, (i : Int) < (s5.1 101 (c 2)) → (j : Int) < (s5.1 101 (c 2)) → s5.2.2 101 (c 3) i = s5.2.2 101 (c 3) j → i = j := h.2.2.2.2.2.2.2.2.2.2.2.2.2.2
section FU3
variable {Λ : Lam} {c : Nat → Nat} {σ0 s1 s2 s5 : Mem}
theorem GD.fz (h : GD Λ c σ0) : FZ Λ c σ0 (gFindAll Λ c σ0) (gSlide Λ c (gFindAll Λ c σ0)) (gLetGo (c 6) (c 7) (gKeep c (gAll1 Λ c σ0))) := by
  have fa := (f_all h).1
  have sl := SL.all fa.gb 64 (Nat.le_refl _)
  have hw3 := h.gb.wf.gall1
  unfold gAll1 at hw3 ⊢
  have e2 : gSlide Λ c (gFindAll Λ c σ0) = (nfold (gSlide1 Λ c) (0, gFindAll Λ c σ0) 64).2 := rfl
  rw [← e2] at sl
  generalize gFindAll Λ c σ0 = s1 at *
  generalize gSlide Λ c s1 = s2 at *
  obtain ⟨u1, u2, u3, u4⟩ := unm_is c s2
  generalize gUnm c s2 = sm at *
  have n26 := h.gb.wf.ly.ne26
  have n37 := h.gb.wf.ly.ne37
  generalize hs3 : upI sm 306 (c 0) 0 = s3 at *
  have i3 : ∀ f q, ¬ (f = 306 ∧ q = c 0) → s3.1 f q = sm.1 f q := by
    intro f q hf
    rw [← hs3, upI_1, if_neg hf]
  have x3 : s3.2 = s2.2 := by rw [← hs3]; exact u1
  have c2eq : (s3.1 101 (c 2)) = (σ0.1 101 (c 2)) := by
    rw [i3 _ _ (by omega), u2 _ _ (by decide) (by decide), sl.ki _ _ (by decide), fa.ki _ _ (by decide) (fun z => n26 z.2)]
  have l3eq : ∀ i, s3.2.2 101 (c 3) i = σ0.2.2 101 (c 3) i := by
    intro i
    rw [x3, sl.kx _ _ _ (by decide), fa.kx _ _ _ (fun z => n37 z.2)]
  have r3eq : ∀ t, (s3.1 206 t) = (s1.1 206 t) := by
    intro t
    rw [i3 _ _ (by omega), u2 _ _ (by decide) (by decide), sl.ki _ _ (by decide)]
  have inl : ∀ t, isT Λ t → ((∃ j : Nat, (j : Int) < (s3.1 101 (c 2)) ∧ s3.2.2 101 (c 3) j = some t) ↔ (σ0.1 203 t) = -1) := by
    intro t ht
    simp only [c2eq, l3eq]
    exact (h.yl.1 t ht).symm
  obtain ⟨d1, d2⟩ := drop_is c s3
  obtain ⟨k1, k2, k3, k4, k5⟩ := keep_is hw3 (fun i j hi hj e => by
    rw [c2eq] at hi hj
    rw [l3eq, l3eq] at e
    exact h.yl.2 i j hi hj e)
  have hw4 := hw3.keep
  have hw5 := hw4.letGo
  generalize gKeep c s3 = s4 at *
  obtain ⟨l1, l2, l3, l4, l5⟩ := let_is (c 6) (c 7) s4
  generalize gLetGo (c 6) (c 7) s4 = s5 at *
  have eA : ∀ t, (s5.1 203 t) = ((gDrop c s3).1 203 t) := by
    intro t
    rw [l4 _ _ (by decide) (by omega), k2]
  have a3 : ∀ t, (s3.1 203 t) = (s2.1 203 t) := by
    intro t
    rw [i3 _ _ (by omega), u2 _ _ (by decide) (by decide)]
  have e4c : (s4.1 101 (c 6)) = (s1.1 101 (c 6)) := by rw [k1 _ _ (by decide) (fun z => n26 z.2.symm), i3 _ _ (by omega), u2 _ _ (by decide) (by decide), sl.ki _ _ (by decide)]
  have e4q : ∀ j, s4.2.2 101 (c 7) j = s1.2.2 101 (c 7) j := fun j => by rw [k3 _ _ _ (fun z => n37 z.2.symm), x3, sl.kx _ _ _ (by decide)]
  have onc : ∀ t, isT Λ t → (0 ≤ (s2.1 203 t) ↔ ∃ a : Nat, a < 64 ∧ (s2.2.2 102 (c 5) a) = some t) := by
    intro t ht
    have zt := szI_le ht
    constructor
    · intro ha
      have hs : (s2.1 203 t) < 64 := by
        by_cases z : 0 ≤ (s1.1 203 t) ∧ (s1.1 203 t) < 64
        · have p := sl.p1 t ht z.1 z.2
          by_cases r : (s1.1 206 t) = 0
          · have := p.2 r; omega
          · have := (p.1 r).2.1; omega
        · rw [sl.p2 t ht z] at ha
          have : (s1.1 203 t) + szI Λ t ≤ 64 := by
            rcases fa.gb.ad t ht with x | x | ⟨_, x⟩ <;> omega
          omega
      exact ⟨((s2.1 203 t)).toNat, by omega, (sl.ce _ t (by omega)).mpr ⟨ht, ha, by omega, by omega⟩⟩
    · rintro ⟨a, ha, hc⟩
      exact ((sl.ce a t ha).mp hc).2.1
  refine ⟨fa, sl, hw5, fun t ht h1 h2 => ?_, fun t ht hn => ?_, fun t ht ha => ?_, fun t ht ha => ?_, fun f q f1 f2 f3 f4 f5 f6 => ?_, fun t ht => ?_, fun a => ?_, fun kd q k h1 h2 => ?_, l5, ?_, fun t ht => ?_, fun i j hi hj e => ?_⟩
  · rw [eA]; exact d1 t ((inl t ht).mpr h1) ((r3eq t).trans h2)
  · rw [eA, d2 t (fun z => hn ⟨(inl t ht).mp z.1, (r3eq t).symm.trans z.2⟩), a3]
  · have u := u3 t ((onc t ht).mp ha)
    rw [l4 _ _ (by decide) (by omega), l4 _ _ (by decide) (by omega), k1 _ _ (by decide) (by omega), k1 _ _ (by decide) (by omega), i3 _ _ (by omega), i3 _ _ (by omega)]
    exact u
  · have u := u4 t (fun z => by have := (onc t ht).mpr z; omega)
    rw [l4 _ _ (by decide) (by omega), l4 _ _ (by decide) (by omega), k1 _ _ (by decide) (by omega), k1 _ _ (by decide) (by omega), i3 _ _ (by omega), i3 _ _ (by omega), u.1, u.2, sl.ki _ _ (by decide), sl.ki _ _ (by decide), fa.ki _ _ (by decide) (by omega), fa.ki _ _ (by decide) (by omega)]
    exact ⟨rfl, rfl⟩
  · rw [l4 f q f4 (fun z => f5 z.1), k1 f q f1 (fun z => f5 z.1), i3 f q (fun z => f6 z.1), u2 f q f2 f3, sl.ki f q f1, fa.ki f q f4 (fun z => f5 z.1)]
  · by_cases hr : ∃ j : Nat, (j : Int) < (s4.1 101 (c 6)) ∧ s4.2.2 101 (c 7) j = some t
    · exact l1 t hr
    · rw [l2 t hr, k1 _ _ (by decide) (by omega), r3eq]
      simp only [e4c, e4q] at hr
      rcases (fa.gb.fl t ht).2.2 with e | e
      · exact e
      · exact absurd ((fa.rl t ht).mp e) hr
  · rw [l3, k3 _ _ _ (by omega), x3]
  · rw [l3, k3 kd q k (fun z => h2 z.1), x3, sl.kx kd q k h1, fa.kx kd q k (fun z => h2 z.1)]
  · rw [l4 _ _ (by decide) (by omega), k1 _ _ (by decide) (by omega), ← hs3, upI_at]
  · have e5c : (s5.1 101 (c 2)) = (s4.1 101 (c 2)) := l4 _ _ (by decide) (fun z => n26 z.2)
    have e5x : ∀ i, s5.2.2 101 (c 3) i = s4.2.2 101 (c 3) i := fun i => by rw [l3]
    simp only [e5c, e5x]
    rw [k4 t, inl t ht, r3eq]
  · have e5c : (s5.1 101 (c 2)) = (s4.1 101 (c 2)) := l4 _ _ (by decide) (fun z => n26 z.2)
    rw [e5c] at hi hj
    rw [l3] at e
    exact k5 i j hi hj e
-- the places in s2
theorem FZ.adr2 (z : FZ Λ c σ0 s1 s2 s5) {t : Nat} (ht : isT Λ t) : (0 ≤ (σ0.1 203 t) → ((s1.1 206 t) ≠ 0 → 0 ≤ (s2.1 203 t)) ∧ ((s1.1 206 t) = 0 → (s2.1 203 t) = -2)) ∧ ((σ0.1 203 t) < 0 → (s2.1 203 t) = (σ0.1 203 t)) := by
  have e1 : (s1.1 203 t) = (σ0.1 203 t) := z.fa.ki _ _ (by decide) (by omega)
  have zt := szI_le ht
  constructor
  · intro h0
    have h64 : (σ0.1 203 t) < 64 := by
      rw [← e1] at h0 ⊢
      rcases z.fa.gb.ad t ht with x | x | ⟨_, x⟩ <;> omega
    have p := z.sl.p1 t ht (by omega) (by omega)
    exact ⟨fun r => (p.1 r).1, p.2⟩
  · intro h0
    rw [z.sl.p2 t ht (by omega), e1]
theorem FZ.gb (h : GD Λ c σ0) (z : FZ Λ c σ0 s1 s2 s5) : GB Λ c s5 := by
  have kA : ∀ t, isT Λ t → (0 ≤ (s2.1 203 t) ∨ 0 ≤ (s5.1 203 t)) → (s5.1 203 t) = (s2.1 203 t) := by
    intro t ht ha
    refine z.a2 t ht (fun y => ?_)
    have e := z.a1 t ht y.1 y.2
    have := (z.adr2 ht).2 (by omega)
    omega
  refine ⟨z.wf, fun t ht => ?_, fun a t ha => ?_, fun t ht => ?_, fun t ht hy => ?_, fun t ht hn hg => ?_, ?_, ?_, Or.inl z.ph, ?_⟩
  · by_cases y : (σ0.1 203 t) = -1 ∧ (s1.1 206 t) = 0
    · exact Or.inl (z.a1 t ht y.1 y.2)
    · rw [z.a2 t ht y]
      rcases h.gb.ad t ht with e | e | ⟨e, e2⟩
      · left; rw [(z.adr2 ht).2 (by omega)]; exact e
      · right; left; rw [(z.adr2 ht).2 (by omega)]; exact e
      · by_cases r : (s1.1 206 t) = 0
        · left; exact ((z.adr2 ht).1 e).2 r
        · right; right
          refine ⟨((z.adr2 ht).1 e).1 r, ?_⟩
          have e1 : (s1.1 203 t) = (σ0.1 203 t) := z.fa.ki _ _ (by decide) (by omega)
          have zt := szI_le ht
          have := (z.sl.p1 t ht (by omega) (by omega)).1 r
          have := z.sl.tp
          omega
  · rw [z.cx a, z.sl.ce a t ha]
    constructor
    · rintro ⟨h1, h2, h3, h4⟩
      rw [kA t h1 (Or.inl h2)]
      exact ⟨h1, h2, h3, h4⟩
    · rintro ⟨h1, h2, h3, h4⟩
      have e := kA t h1 (Or.inr h2)
      rw [e] at h2 h3 h4
      exact ⟨h1, h2, h3, h4⟩
  · refine ⟨?_, ?_, Or.inl (z.rc t ht)⟩
    · by_cases y : 0 ≤ (s2.1 203 t)
      · exact Or.inl (z.mk t ht y).1
      · rw [(z.m2 t ht (by omega)).1]; exact (h.gb.fl t ht).1
    · by_cases y : 0 ≤ (s2.1 203 t)
      · exact Or.inl (z.mk t ht y).2
      · rw [(z.m2 t ht (by omega)).2]; exact (h.gb.fl t ht).2.1
  · have e0 : (σ0.1 203 t) = -1 := by
      have e2 : (s2.1 203 t) = -1 := by
        by_cases y : (σ0.1 203 t) = -1 ∧ (s1.1 206 t) = 0
        · have := z.a1 t ht y.1 y.2; omega
        · rw [← z.a2 t ht y]; exact hy
      rcases h.gb.ad t ht with e | e | ⟨e, _⟩
      · have := (z.adr2 ht).2 (by omega); omega
      · exact e
      · by_cases r : (s1.1 206 t) = 0
        · have := ((z.adr2 ht).1 e).2 r; omega
        · have := ((z.adr2 ht).1 e).1 r; omega
    have e2 := (z.adr2 ht).2 (by omega)
    have m := z.m2 t ht (by omega)
    rw [m.1, m.2]
    exact h.gb.ym t ht e0
  · by_cases y : 0 ≤ (s2.1 203 t)
    · have := (z.mk t ht y).2; omega
    · have m := z.m2 t ht (by omega)
      rw [m.2] at hg
      rw [m.1]
      refine h.gb.gm t ht (fun e => ?_) hg
      have e2 := (z.adr2 ht).2 (by omega)
      have := z.a2 t ht (fun w => by omega)
      omega
  · rw [z.ki _ _ (by decide) (by decide) (by decide) (by decide) (by decide) (by decide)]; exact h.gb.d8
  · rw [z.ki _ _ (by decide) (by decide) (by decide) (by decide) (by decide) (by decide)]; exact h.gb.n8
  · rw [z.ki _ _ (by decide) (by decide) (by decide) (by decide) (by decide) (by decide)]; exact h.gb.sw
theorem FZ.yng (h : GD Λ c σ0) (z : FZ Λ c σ0 s1 s2 s5) : YL Λ c s5 := by
  refine ⟨fun t ht => ?_, z.yd⟩
  rw [z.yl t ht]
  constructor
  · intro hy
    have e2 : ¬ ((σ0.1 203 t) = -1 ∧ (s1.1 206 t) = 0) := fun y => by have := z.a1 t ht y.1 y.2; omega
    have e := z.a2 t ht e2
    have e0 : (σ0.1 203 t) = -1 := by
      rcases h.gb.ad t ht with x | x | ⟨x, _⟩
      · have := (z.adr2 ht).2 (by omega); omega
      · exact x
      · by_cases r : (s1.1 206 t) = 0
        · have := ((z.adr2 ht).1 x).2 r; omega
        · have := ((z.adr2 ht).1 x).1 r; omega
    exact ⟨e0, fun r => e2 ⟨e0, r⟩⟩
  · rintro ⟨e0, r⟩
    rw [z.a2 t ht (fun y => r y.2), (z.adr2 ht).2 (by omega)]
    exact e0
theorem GD.all (h : GD Λ c σ0) : GD Λ c (fAll Λ c σ0).2 := by
  have z := h.fz
  have hreach := (f_all h).2
  have hwf := h.gb.wf.all
  unfold fAll gAll2 at hwf ⊢
  unfold fAll1 at hwf ⊢
  dsimp only at hwf ⊢
  generalize gFindAll Λ c σ0 = s1 at z hreach
  generalize gSlide Λ c s1 = s2 at z
  generalize gLetGo (c 6) (c 7) (gKeep c (gAll1 Λ c σ0)) = s5 at *
  have g5 := z.gb h
  have y5 := z.yng h
  obtain ⟨g6, v0, v1, v2, v3, v4, v5, v6, v7, v8⟩ := move_is g5 y5 z.ph
  generalize fMove Λ c s5 = u at *
  have n26 := h.gb.wf.ly.ne26
  generalize hs7 : upI u.2 305 (c 0) 0 = s7 at *
  have i7 : ∀ f q, ¬ (f = 305 ∧ q = c 0) → s7.1 f q = u.2.1 f q := by
    intro f q hf
    rw [← hs7, upI_1, if_neg hf]
  have x7 : s7.2 = u.2.2 := by rw [← hs7]; rfl
  generalize hs8 : upI s7 304 (c 0) (fShow Λ c s7) = s8 at *
  have i8 : ∀ f q, ¬ (f = 304 ∧ q = c 0) → s8.1 f q = s7.1 f q := by
    intro f q hf
    rw [← hs8, upI_1, if_neg hf]
  have x8 : s8.2 = u.2.2 := by rw [← hs8]; exact x7
  have iA : ∀ t, (s8.1 203 t) = (u.2.1 203 t) := fun t => by rw [i8 _ _ (by omega), i7 _ _ (by omega)]
  have iM : ∀ t, (s8.1 204 t) = (u.2.1 204 t) := fun t => by rw [i8 _ _ (by omega), i7 _ _ (by omega)]
  have iG : ∀ t, (s8.1 205 t) = (u.2.1 205 t) := fun t => by rw [i8 _ _ (by omega), i7 _ _ (by omega)]
  have hD : (s8.1 304 (c 0)) = fShow Λ c s8 := by
    rw [← hs8, upI_at]
    rw [hs8]
    refine show_congr (fun a => ?_)
    have rc := ref_congr (Λ := Λ) (c := c) (s := s7) (s' := s8) (fun a => by rw [x7, x8]) (fun t => (i8 _ _ (by omega)).symm) (fun t k => by rw [x7, x8]) a
    rw [rc.1, rc.2]
  have g8 : GB Λ c s8 := by
    refine ⟨hwf, fun t ht => ?_, fun a t ha => ?_, fun t ht => ?_, fun t ht => ?_, fun t ht => ?_, ?_, ?_, ?_, ?_⟩
    · rw [iA]; exact g6.ad t ht
    · rw [iA, x8]; exact g6.ce a t ha
    · rw [iM, iG, i8 _ _ (by omega), i7 _ _ (by omega)]; exact g6.fl t ht
    · rw [iA, iM, iG]; exact g6.ym t ht
    · rw [iA, iM, iG]; exact g6.gm t ht
    · rw [hD]; exact show_lo8 s8
    · rw [i8 _ _ (by omega), ← hs7, upI_at]; exact lo8_0
    · rw [i8 _ _ (by omega), i7 _ _ (by omega)]; exact g6.ph
    · rw [i8 _ _ (by omega), i7 _ _ (by omega)]; exact g6.sw
  have ph8 : (s8.1 306 (c 0)) = 0 := by
    rw [i8 _ _ (by omega), i7 _ _ (by omega), v5 _ _ (by decide) (by decide) (by decide) (by omega)]; exact z.ph
  have fld8 : ∀ t k, (s8.2.2 103 (faL Λ t) k) = (σ0.2.2 103 (faL Λ t) k) := fun t k => by rw [x8, v6 _ _ _ (by decide) (by omega), z.kx _ _ _ (by decide) (by decide)]
  have root8 : ∀ r, (s8.2.2 100 (c 1) r) = (σ0.2.2 100 (c 1) r) := fun r => by rw [x8, v6 _ _ _ (by decide) (by omega), z.kx _ _ _ (by decide) (by decide)]
  have c8 : (s8.1 101 (c 2)) = (s5.1 101 (c 2)) - u.1 := by rw [i8 _ _ (by omega), i7 _ _ (by omega)]; exact v7
  have l8 : ∀ i : Nat, (i : Int) < (s5.1 101 (c 2)) - u.1 → s8.2.2 101 (c 3) i = s5.2.2 101 (c 3) (i + u.1.toNat) := fun i hi => by rw [x8]; exact v8 i hi
  have y8 : YL Λ c s8 := by
    refine ⟨fun t ht => ?_, fun i j hi hj e => ?_⟩
    · rw [iA, c8]
      constructor
      · intro hy
        have h5 : (s5.1 203 t) = -1 := by
          by_cases x : (s5.1 203 t) = -1
          · exact x
          · have := (v2 t ht x).1; omega
        obtain ⟨j, hj, e⟩ := (y5.1 t ht).mp h5
        by_cases k : (j : Int) < u.1
        · have := (v3 j t k e).1; omega
        · exact ⟨j - u.1.toNat, by omega, by rw [l8 _ (by omega), show j - u.1.toNat + u.1.toNat = j by omega]; exact e⟩
      · rintro ⟨i, hi, e⟩
        rw [l8 i hi] at e
        exact v4 (i + u.1.toNat) t (by omega) (by omega) e
    · rw [c8] at hi hj
      rw [l8 i hi, l8 j hj] at e
      have := y5.2 _ _ (by omega) (by omega) e
      omega
  refine ⟨g8, ?_, fun t ht => ?_, y8, ?_, fun t k w ht ha hk hf hy => ?_, fun _ t ht hn => ?_, fun hp => by omega, fun hp => by omega, fun t hr he => ?_⟩
  · rw [i8 _ _ (by omega), i7 _ _ (by omega), v5 _ _ (by decide) (by decide) (by decide) (fun y => n26 y.2.symm)]; exact z.qc
  · rw [i8 _ _ (by omega), i7 _ _ (by omega), v5 _ _ (by decide) (by decide) (by decide) (by omega)]; exact z.rc t ht
  · refine Int.le_trans ?_ h.y20
    unfold fTaken
    have y0 := g8.wf.y0
    have z0 := h.gb.wf.y0
    refine sumN_inj (fun i j => s8.2.2 101 (c 3) i = σ0.2.2 101 (c 3) j) (fun i hi => ?_) (fun i hi j hj j' hj' e e' => h.yl.2 j j' (by omega) (by omega) (e.symm.trans e')) (fun j hj i hi i' hi' e e' => y8.2 i i' (by omega) (by omega) (e.trans e'.symm)) (fun i hi j hj e => ?_) (fun j hj => ?_)
    · have hi' : (i : Int) < (s5.1 101 (c 2)) - u.1 := by omega
      obtain ⟨t, ht⟩ := g5.wf.yl (i + u.1.toNat) (by omega)
      have hT := g5.wf.ty _ _ _ _ ht
      have := (z.yl t hT).mp ⟨i + u.1.toNat, by omega, ht⟩
      obtain ⟨j, hj, e⟩ := (h.yl.1 t hT).mp this.1
      exact ⟨j, by omega, by rw [l8 i hi', ht, e]⟩
    · unfold fSzAt
      rw [e]
    · unfold fSzAt
      split
      · exact Int.le_refl _
      · rename_i t ht
        have := szI_le (h.gb.wf.ty _ _ _ _ ht)
        omega
  · have h64 : ((s8.1 203 t) + 1 + k).toNat < 64 := by
      rcases g8.ad t ht with e | e | ⟨_, e⟩
      · omega
      · omega
      · unfold szI at e; omega
    rw [hD]
    refine (show_cb s8 _).mpr ⟨((s8.1 203 t) + 1 + k).toNat, h64, rfl, ?_⟩
    have hc : (s8.2.2 102 (c 5) ((s8.1 203 t) + 1 + k).toNat) = some t := (g8.ce _ t h64).mpr ⟨ht, ha, by omega, by unfold szI; omega⟩
    have hr : fRef Λ c s8 ((s8.1 203 t) + 1 + k).toNat = some w := by
      unfold fRef
      rw [hc]
      simp only
      have e3 : ((((s8.1 203 t) + 1 + k).toNat : Nat) : Int) - (s8.1 203 t) - 1 = k := by omega
      rw [e3, if_pos ⟨by omega, by omega⟩]
      exact hf
    rw [hr]
    unfold isYng
    exact decide_eq_true hy
  · rw [iA] at hn
    rw [iM]
    by_cases x : (s5.1 203 t) = -1
    · obtain ⟨j, hj, e⟩ := (y5.1 t ht).mp x
      by_cases k : (j : Int) < u.1
      · exact (v3 j t k e).2
      · exact (g6.ym t ht (v4 j t (by omega) hj e)).1
    · have v := v2 t ht x
      rw [v.2]
      rw [v.1] at hn
      have y : ¬ ((σ0.1 203 t) = -1 ∧ (s1.1 206 t) = 0) := fun y => hn (z.a1 t ht y.1 y.2)
      have e2 := z.a2 t ht y
      refine (z.mk t ht ?_).1
      rcases g5.ad t ht with q | q | q
      · exact absurd q hn
      · exact absurd q x
      · rw [← e2]; exact q.1
  · have hr0 : Reach Λ c σ0 t := hr.same root8 fld8
    have hT := hr0.thing h.gb.wf.ty
    have hrc := hreach t hr0
    have h0 := h.s5 t hr0
    rw [iA] at he
    have e5 : (s5.1 203 t) ≠ -2 := by
      have e := z.a2 t hT (fun y => by omega)
      rcases h.gb.ad t hT with q | q | ⟨q, _⟩
      · exact absurd q h0
      · have := (z.adr2 hT).2 (by omega); omega
      · have := ((z.adr2 hT).1 q).1 (by omega); omega
    by_cases x : (s5.1 203 t) = -1
    · obtain ⟨j, hj, e⟩ := (y5.1 t hT).mp x
      by_cases k : (j : Int) < u.1
      · have := (v3 j t k e).1; omega
      · have := v4 j t (by omega) hj e; omega
    · have := (v2 t hT x).1; omega
end FU3
