/-! Remarking: the greying by cards, and how often shading marks. -/
section RMA
variable {l : Launch} {D : va_G} {Λ ΛR : Lam} {c r : Nat → Nat} {th : Nat → Option Nat} {σ ρ : Mem}
def mHot (r : Nat → Nat) (ρ : Mem) (cd : Nat) : Prop := ¬ (ρ.2.1 53 (r 53) cd) = 0 ∨ ¬ (ρ.2.1 54 (r 54) cd) = 0
def mGr (r : Nat → Nat) (ρ : Mem) (i m : Nat) : Prop := ¬ (ρ.2.1 52 (r 52) m) = 0 ∨ (¬ (ρ.2.1 51 (r 51) m) = 0 ∧ ∃ cd : Nat, cd < i ∧ mHot r ρ cd ∧ mLies r ρ m cd ≠ 0)
theorem mGr_s {i m : Nat} : mGr r ρ (i + 1) m ↔ (mGr r ρ i m ∨ (¬ (ρ.2.1 51 (r 51) m) = 0 ∧ mHot r ρ i ∧ mLies r ρ m i ≠ 0)) := by
  unfold mGr
  constructor
  · rintro (a | ⟨a, cd, h1, h2, h3⟩)
    · exact Or.inl (Or.inl a)
    · by_cases e : cd = i
      · rw [e] at h2 h3; exact Or.inr ⟨a, h2, h3⟩
      · exact Or.inl (Or.inr ⟨a, cd, by omega, h2, h3⟩)
  · rintro ((a | ⟨a, cd, h1, h2, h3⟩) | ⟨a, h2, h3⟩)
    · exact Or.inl a
    · exact Or.inr ⟨a, cd, by omega, h2, h3⟩
    · exact Or.inr ⟨a, i, by omega, h2, h3⟩
theorem rmk_end (w : RW ΛR r ρ) (g : GB Λ c σ) (h : RB Λ c r th σ ρ) {q : Mem} (wq : RW ΛR r q) (e1 : q.1 = ρ.1) (eY : ∀ kd q' k, kd ≠ 52 → kd ≠ 54 → q.2.1 kd q' k = ρ.2.1 kd q' k) (hn : ∀ k : Nat, k < 8 → (q.2.1 54 (r 54) k) = 0) (hg : ∀ m : Nat, m < 90 → (¬ (q.2.1 52 (r 52) m) = 0 ↔ mGr r ρ 8 m)) : RB Λ c r th (upI (gGrey c (iOr ((σ.1 304 (c 0))) ((σ.1 305 (c 0)))) σ) 305 (c 0) 0) q := by
  have g2 := g.greyOn (iOr ((σ.1 304 (c 0))) ((σ.1 305 (c 0))))
  obtain ⟨h1, h2, h3, h4⟩ := grey_is c (iOr ((σ.1 304 (c 0))) ((σ.1 305 (c 0)))) σ
  generalize gGrey c (iOr ((σ.1 304 (c 0))) ((σ.1 305 (c 0)))) σ = s at *
  have hb : RB Λ c r th s (q.1, (fun kd q' k => if kd = 54 then ρ.2.1 kd q' k else q.2.1 kd q' k), q.2.2) := by
    refine h.mg h1 (fun f q _ f1 => h2 f q f1) e1 (fun kd q' k k1 k2 => ?_) (fun i t hi e => ?_) (fun i hi e => ?_)
    · show (if kd = 54 then ρ.2.1 kd q' k else q.2.1 kd q' k) = _
      by_cases x : kd = 54
      · rw [if_pos x]
      · rw [if_neg x]; exact eY kd q' k k2 x
    · obtain ⟨_, _, m1, m2, _⟩ := h.k4 i t hi e
      have hT := (h.k1 i t hi e).1
      refine ⟨?_, ?_⟩
      · show q.2.1 51 (r 51) i = _
        rw [eY _ _ _ (by decide) (by decide), h2 _ _ (by decide)]; exact m1
      · show q.2.1 52 (r 52) i = _
        have iff1 : ¬ (q.2.1 52 (r 52) i) = 0 ↔ (s.1 205 t) ≠ 0 := by
          rw [hg i hi]
          unfold mGr
          constructor
          · rintro (a | ⟨a, cd, b1, b2, b3⟩)
            · by_cases z : ∃ a : Nat, a < 64 ∧ (σ.2.2 102 (c 5) a) = some t ∧ (σ.1 204 t) ≠ 0 ∧ iAnd (iOr ((σ.1 304 (c 0))) ((σ.1 305 (c 0)))) (fCard a) ≠ 0
              · rw [h3 t z]; decide
              · rw [h4 t z, ← m2]; exact a
            · obtain ⟨a1, ha1, hc1, hd1⟩ := (lies_iff h w g hi e b1).mp b3
              obtain ⟨k1, k2⟩ := h.k8 cd b1
              have hcb : cb (iOr ((σ.1 304 (c 0))) ((σ.1 305 (c 0)))) (a1 / 8) = true := by
                rw [cb_or, hd1]
                rcases b2 with y | y
                · cases hx : cb ((σ.1 304 (c 0))) cd with
                  | true => rfl
                  | false => exact absurd (k1.mpr hx) y
                · cases hx : cb ((σ.1 305 (c 0))) cd with
                  | true => simp
                  | false => exact absurd (k2.mpr hx) y
              rw [h3 t ⟨a1, ha1, hc1, by rw [← m1]; exact a, (cb_hit _ ha1).mpr hcb⟩]
              decide
          · intro z
            by_cases y : ∃ a : Nat, a < 64 ∧ (σ.2.2 102 (c 5) a) = some t ∧ (σ.1 204 t) ≠ 0 ∧ iAnd (iOr ((σ.1 304 (c 0))) ((σ.1 305 (c 0)))) (fCard a) ≠ 0
            · obtain ⟨a1, ha1, hc1, hm1, hi1⟩ := y
              have hcb := (cb_hit _ ha1).mp hi1
              rw [cb_or] at hcb
              have b1 : a1 / 8 < 8 := by omega
              obtain ⟨k1, k2⟩ := h.k8 (a1 / 8) b1
              refine Or.inr ⟨by rw [m1]; exact hm1, a1 / 8, b1, ?_, (lies_iff h w g hi e b1).mpr ⟨a1, ha1, hc1, rfl⟩⟩
              rcases Bool.or_eq_true_iff.mp hcb with x | x
              · left
                intro x2
                rw [k1.mp x2] at x
                cases x
              · right
                intro x2
                rw [k2.mp x2] at x
                cases x
            · left
              rw [m2, ← h4 t y]; exact z
        have f1 := (wq.bm i hi).2
        have f2 := (g2.fl t hT).2.1
        rcases f1 with f1 | f1 <;> rcases f2 with f2 | f2
        · rw [f1, f2]
        · exact absurd f1 (iff1.mpr (by rw [f2]; decide))
        · exact absurd f2 (iff1.mp (by rw [f1]; decide))
        · rw [f1, f2]
    · obtain ⟨z1, z2⟩ := h.k5 i hi e
      refine ⟨?_, ?_⟩
      · show q.2.1 51 (r 51) i = _
        rw [eY _ _ _ (by decide) (by decide)]; exact z1
      · show q.2.1 52 (r 52) i = _
        rcases (wq.bm i hi).2 with f1 | f1
        · exact f1
        · exfalso
          rcases (hg i hi).mp (by rw [f1]; decide) with y | ⟨y, _⟩
          · exact y z2
          · exact y z1
  refine hb.ntd rfl (fun kd q' k hk => ?_) (fun k hk => ⟨fun _ => cb_0 k, fun _ => hn k hk⟩)
  show _ = (if kd = 54 then ρ.2.1 kd q' k else q.2.1 kd q' k)
  rw [if_neg hk]
theorem rmkA {x : Cx} {P : Int → Mem → Prop} (hx : X_M_remark x) (w : RW ΛR r ρ) (g : GB Λ c σ) (h : RB Λ c r th σ ρ) (go : ∀ q, RW ΛR r q → RB Λ c r th (upI (gGrey c (iOr ((σ.1 304 (c 0))) ((σ.1 305 (c 0)))) σ) 305 (c 0) 0) q → N_M_remark_59 x P ΛR q r 0 0) : N_M_remark_13 x P ΛR ρ r 0 := by
  have hL := w.ly
  have loop : ∀ n i : Nat, i + n = 8 → ∀ q : Mem, RW ΛR r q → q.1 = ρ.1 → (∀ kd q' k, kd ≠ 52 → kd ≠ 54 → q.2.1 kd q' k = ρ.2.1 kd q' k) → (∀ k : Nat, k < i → (q.2.1 54 (r 54) k) = 0) → (∀ k : Nat, i ≤ k → (q.2.1 54 (r 54) k) = (ρ.2.1 54 (r 54) k)) → (∀ m : Nat, m < 90 → (¬ (q.2.1 52 (r 52) m) = 0 ↔ mGr r ρ i m)) → N_M_remark_13 x P ΛR q r i := by
    intro n
    induction n with
    | zero =>
      intro i hi q wq a1 a2 a3 a4 a5
      refine u_M_remark_13 hx hL ⟨⟨by omega, by omega⟩, fun _ => ?_, fun z => absurd (by omega) z⟩
      rw [show i = 8 by omega] at a3 a5
      exact go q wq (rmk_end w g h wq a1 a2 a3 a5)
    | succ n ih =>
      intro i hi q wq a1 a2 a3 a4 a5
      have eD : (q.2.1 53 (r 53) i) = (ρ.2.1 53 (r 53) i) := a2 _ _ _ (by decide) (by decide)
      have eN : (q.2.1 54 (r 54) i) = (ρ.2.1 54 (r 54) i) := a4 i (Nat.le_refl _)
      -- zeroing the noted card, whatever the greys are
      have fin : ∀ q1 : Mem, RW ΛR r q1 → q1.1 = ρ.1 → (∀ kd q' k, kd ≠ 52 → kd ≠ 54 → q1.2.1 kd q' k = ρ.2.1 kd q' k) → (∀ k : Nat, k < i → (q1.2.1 54 (r 54) k) = 0) → (∀ k : Nat, i ≤ k → (q1.2.1 54 (r 54) k) = (ρ.2.1 54 (r 54) k)) → (∀ m : Nat, m < 90 → (¬ (q1.2.1 52 (r 52) m) = 0 ↔ mGr r ρ (i + 1) m)) → N_M_remark_42 x P ΛR q1 r i := by
        intro q1 w1 b1 b2 b3 b4 b5
        refine u_M_remark_42 hx hL ⟨by omega, by omega, ih (i + 1) (by omega) _ (w1.ntd rfl (fun kd q' k hk => upY_nk hk) (fun kd q' k => ?_) (fun k hk => ?_)) b1 (fun kd q' k k1 k2 => ?_) (fun k hk => ?_) (fun k hk => ?_) (fun m hm => ?_)⟩
        · rw [upY_21]
          split
          · exact rng_0
          · exact w1.ry kd q' k
        · rw [upY_21]
          split
          · exact Or.inl rfl
          · exact (w1.bd k hk).2
        · rw [upY_nk k2]; exact b2 kd q' k k1 k2
        · by_cases y : k = i
          · rw [y]; exact upY_at
          · show (upY q1 54 (r 54) i 0).2.1 54 (r 54) k = 0
            rw [upY_ni y]; exact b3 k (by omega)
        · show (upY q1 54 (r 54) i 0).2.1 54 (r 54) k = _
          rw [upY_ni (by omega)]; exact b4 k (by omega)
        · rw [upY_nk (by decide)]; exact b5 m hm
      have hot : mHot r ρ i → N_M_remark_37 x P ΛR q r i := by
        intro hh
        refine u_M_remark_37 hx hL (c_M_regrey wq ⟨by omega, by omega⟩ (fun q' b1 b2 b3 b4 => ?_))
        refine fin q' (wq.mg b1 (fun kd q k _ k2 => b2 kd q k k2) b4 (fun k hk => ⟨by rw [b2 _ _ _ (by decide)]; exact (wq.bm k hk).1, by rw [b3 k hk]; split; exact Or.inr rfl; exact Or.inl rfl⟩)) (b1.trans a1) (fun kd q2 k k1 k2 => (b2 kd q2 k k1).trans (a2 kd q2 k k1 k2)) (fun k hk => (b2 _ _ _ (by decide)).trans (a3 k hk)) (fun k hk => (b2 _ _ _ (by decide)).trans (a4 k hk)) (fun m hm => ?_)
        have el : mLies r q m i = mLies r ρ m i := by
          unfold mLies
          rw [a2 1 _ _ (by decide) (by decide), a2 6 _ _ (by decide) (by decide), a2 3 _ _ (by decide) (by decide)]
        have em : (q.2.1 51 (r 51) m) = (ρ.2.1 51 (r 51) m) := a2 _ _ _ (by decide) (by decide)
        rw [b3 m hm, mGr_s, ← a5 m hm, el, em]
        constructor
        · intro z
          by_cases y : (q.2.1 52 (r 52) m) ≠ 0 ∨ (ρ.2.1 51 (r 51) m) ≠ 0 ∧ mLies r ρ m i ≠ 0
          · rcases y with y | ⟨y1, y2⟩
            · exact Or.inl y
            · exact Or.inr ⟨y1, hh, y2⟩
          · rw [if_neg y] at z; exact absurd rfl z
        · intro z
          have y : (q.2.1 52 (r 52) m) ≠ 0 ∨ (ρ.2.1 51 (r 51) m) ≠ 0 ∧ mLies r ρ m i ≠ 0 := by
            rcases z with z | ⟨z1, _, z2⟩
            · exact Or.inl z
            · exact Or.inr ⟨z1, z2⟩
          rw [if_pos y]; decide
      refine u_M_remark_13 hx hL ⟨⟨by omega, by omega⟩, fun z => absurd z (by omega), fun _ => ⟨by omega, by omega, wq.ry _ _ _, fun z => hot ?_, fun z => ⟨by omega, by omega, wq.ry _ _ _, fun z2 => fin q wq a1 a2 a3 a4 (fun m hm => ?_), fun z2 => hot ?_⟩⟩⟩
      · have z : ¬ (q.2.1 53 (r 53) i) = 0 := z
        exact Or.inl (by rw [← eD]; exact z)
      · have z : (q.2.1 53 (r 53) i) = 0 := z
        have z2 : (q.2.1 54 (r 54) i) = 0 := z2
        rw [mGr_s, ← a5 m hm]
        constructor
        · exact Or.inl
        · rintro (y | ⟨_, y, _⟩)
          · exact y
          · exfalso
            rcases y with y | y
            · exact y (by rw [← eD]; exact z)
            · exact y (by rw [← eN]; exact z2)
      · have z2 : ¬ (q.2.1 54 (r 54) i) = 0 := z2
        exact Or.inr (by rw [← eN]; exact z2)
  refine loop 8 0 rfl ρ w rfl (fun _ _ _ _ _ => rfl) (fun k hk => by omega) (fun _ _ => rfl) (fun m hm => ?_)
  unfold mGr
  constructor
  · exact Or.inl
  · rintro (y | ⟨_, cd, y, _⟩)
    · exact y
    · omega
end RMA
