/-! Scanning, and finding the lowest, on both sides. -/
def mQ (r : Nat → Nat) (ρ : Mem) (a gb : Int) (i : Nat) : Prop := (ρ.2.1 1 (r 1) i) = 2 ∧ a ≤ (ρ.2.1 6 (r 6) i) ∧ ((ρ.2.1 52 (r 52) i) ≠ 0 ∨ gb = 0)
def NX (r : Nat → Nat) (ρ : Mem) (a gb : Int) (n : Nat) (z : Int) : Prop := (z = -1 ∧ ∀ i, i < n → ¬ mQ r ρ a gb i) ∨ ∃ j : Nat, j < n ∧ z = j ∧ mQ r ρ a gb j ∧ ∀ i, i < n → mQ r ρ a gb i → (ρ.2.1 6 (r 6) j) ≤ (ρ.2.1 6 (r 6) i)
section RLO
variable {l : Launch} {D : va_G} {Λ ΛR : Lam} {c r : Nat → Nat} {th : Nat → Option Nat} {σ ρ : Mem}
theorem s_scan {j t : Nat} {P : Int → Mem → Prop} (w : RW ΛR r ρ) (g : GB Λ c σ) (h : RB Λ c r th σ ρ) (hj : j < 90) (ht : th j = some t) (hp : ∀ ρ', RW ΛR r ρ' → RB Λ c r th (fScan Λ t σ).2 ρ' → P (fScan Λ t σ).1 ρ') : K_M_scan l D ΛR ρ r j P := by
  refine e_M_scan (fun x hl hD hx => ?_)
  subst hl; subst hD
  have hL := w.ly
  have hT := (h.k1 j t hj ht).1
  have hn : nfL Λ t ≤ 3 := hT.2.2
  refine u_M_scan_0 hx hL ⟨by omega, by omega, ?_⟩
  have w0 := w.grey1 (j := j) (v := 0) (Or.inl rfl)
  have h0 := h.grey1 (v := 0) hj ht
  have g0 := g.grey0 t
  unfold fScan fShadeF at hp
  show N_M_scan_11 x P ΛR (upY ρ 52 (r 52) j 0) r j 0 0
  generalize upI σ 205 t 0 = s0 at *
  generalize upY ρ 52 (r 52) j 0 = q0 at *
  have gk : ∀ k : Nat, GB Λ c (nfold (gShF1 Λ t) (0, s0) k).2 := by
    intro k
    refine nfold_inv (fun _ (u : Int × Mem) => GB Λ c u.2) g0 k (fun i u _ hu => ?_)
    unfold gShF1
    exact (shade_sh hu _ (fun v e => hu.wf.ty _ _ _ _ e)).1.gb hu (shade_wf hu.wf _)
  have loop : ∀ m k : Nat, k + m = nfL Λ t → ∀ ρ', RW ΛR r ρ' → RB Λ c r th (nfold (gShF1 Λ t) (0, s0) k).2 ρ' → N_M_scan_11 x P ΛR ρ' r j (nfold (gShF1 Λ t) (0, s0) k).1 k := by
    intro m
    induction m with
    | zero =>
      intro k hk ρ' w' h'
      have hf := (h'.k4 j t hj ht).2.1
      refine u_M_scan_11 hx hL ⟨by omega, by omega, ⟨by omega, by omega⟩, w'.ry _ _ _, fun _ => ?_, fun z => absurd ?_ z⟩
      · rw [show nfL Λ t = k by omega] at hp
        exact hp ρ' w' h'
      · show (ρ'.2.1 3 (r 3) j) ≤ k
        omega
    | succ m ih =>
      intro k hk ρ' w' h'
      have hf := (h'.k4 j t hj ht).2.1
      have ei : (3 * (j : Int) + (k : Int)).toNat = 3 * j + k := by omega
      refine u_M_scan_11 hx hL ⟨by omega, by omega, ⟨by omega, by omega⟩, w'.ry _ _ _, fun z => absurd z ?_, fun z => ⟨by omega, by omega, ?_⟩⟩
      · show ¬ (ρ'.2.1 3 (r 3) j) ≤ k
        omega
      · rw [ei]
        refine s_shade w' (gk k) h' (h'.k6 j t k hj ht (by omega)) (fun ρ2 w2 h2 => ?_)
        have := ih (k + 1) (by omega) ρ2 w2 (by rw [nfold_s]; exact h2)
        rw [nfold_s] at this
        exact this
  exact loop (nfL Λ t) 0 (by omega) q0 w0 h0
theorem c_M_next {a gb : Int} {P : Int → Mem → Prop} (w : RW ΛR r ρ) (ha : rng a) (hg : rng gb) (hp : ∀ z, NX r ρ a gb 90 z → P z ρ) : K_M_next l D ΛR ρ r a gb P := by
  refine e_M_next (fun x hl hD hx => ?_)
  subst hl; subst hD
  have hL := w.ly
  refine u_M_next_0 hx hL ?_
  have loop : ∀ n i : Nat, i + n = 90 → ∀ z, NX r ρ a gb i z → N_M_next_5 x P ΛR ρ r a gb z i := by
    intro n
    induction n with
    | zero =>
      intro i hi z hz
      refine u_M_next_5 hx hL ⟨⟨by omega, by omega⟩, fun _ => ?_, fun h => absurd h (by omega)⟩
      rw [show i = 90 by omega] at hz
      exact hp z hz
    | succ n ih =>
      intro i hi z hz
      have skip : ¬ mQ r ρ a gb i → N_M_next_5 x P ΛR ρ r a gb z (i + 1 : Nat) := by
        intro hn
        refine ih (i + 1) (by omega) z ?_
        rcases hz with ⟨e, h0⟩ | ⟨j, hj, e, hq, h0⟩
        · exact Or.inl ⟨e, fun k hk => (by
            by_cases x : k = i
            · rw [x]; exact hn
            · exact h0 k (by omega))⟩
        · exact Or.inr ⟨j, by omega, e, hq, fun k hk hqk => (by
            by_cases x : k = i
            · rw [x] at hqk; exact absurd hqk hn
            · exact h0 k (by omega) hqk)⟩
      have take : mQ r ρ a gb i → N_M_next_48 x P ΛR ρ r a gb z i := by
        intro hq
        rcases hz with ⟨e, h0⟩ | ⟨j, hj, e, hqj, h0⟩
        · refine u_M_next_48 hx hL ⟨⟨by omega, by omega⟩, fun _ => ih (i + 1) (by omega) i (Or.inr ⟨i, by omega, rfl, hq, fun k hk hqk => ?_⟩), fun n => absurd (by omega) n⟩
          by_cases x : k = i
          · rw [x]; exact Int.le_refl _
          · exact absurd hqk (h0 k (by omega))
        · rw [e]
          refine u_M_next_48 hx hL ⟨⟨by omega, by omega⟩, fun n => absurd n (by omega), fun _ => ⟨by omega, by omega, by omega, by omega, w.ry _ _ _, w.ry _ _ _, fun hle => ih (i + 1) (by omega) j (Or.inr ⟨j, by omega, rfl, hqj, fun k hk hqk => ?_⟩), fun hlt => ih (i + 1) (by omega) i (Or.inr ⟨i, by omega, rfl, hq, fun k hk hqk => ?_⟩)⟩⟩
          · by_cases x : k = i
            · rw [x]; exact hle
            · exact h0 k (by omega) hqk
          · have hlt : ¬ (ρ.2.1 6 (r 6) j) ≤ (ρ.2.1 6 (r 6) i) := hlt
            by_cases x : k = i
            · rw [x]; exact Int.le_refl _
            · have := h0 k (by omega) hqk
              omega
      refine u_M_next_5 hx hL ⟨⟨by omega, by omega⟩, fun h => absurd h (by omega), fun _ => ⟨by omega, by omega, w.ry _ _ _, fun h => skip (fun q => h q.1), fun h1 => ⟨by omega, by omega, w.ry _ _ _, ha, fun h => skip (fun q => absurd q.2.1 (Int.not_le.mpr h)), fun h2 => ⟨by omega, by omega, w.ry _ _ _, fun h3 => take ⟨h1, Int.not_lt.mp h2, Or.inl h3⟩, fun h3 => ⟨hg, fun h4 => skip (fun q => q.2.2.elim (fun q => q h3) h4), fun h4 => take ⟨h1, Int.not_lt.mp h2, Or.inr h4⟩⟩⟩⟩⟩⟩
  exact loop 90 0 rfl (-1) (Or.inl ⟨rfl, fun i hi => by omega⟩)
theorem next_grey (h : RB Λ c r th σ ρ) (w : RW ΛR r ρ) (g : GB Λ c σ) {z : Int} (hz : NX r ρ 0 1 90 z) : (z = -1 ∧ fGrey c σ = none) ∨ ∃ j t : Nat, j < 90 ∧ z = j ∧ th j = some t ∧ fGrey c σ = some t := by
  have q1 : ∀ i, i < 90 → mQ r ρ 0 1 i → ∃ t, th i = some t ∧ isT Λ t ∧ 0 ≤ (σ.1 203 t) ∧ (ρ.2.1 6 (r 6) i) = (σ.1 203 t) ∧ isGry c σ ((σ.1 203 t)).toNat = true := by
    intro i hi hq
    cases e : th i with
    | none => have := (h.k0 i hi).mpr e; have := hq.1; omega
    | some t =>
      obtain ⟨x1, x2, x3, x4⟩ := h.k1 i t hi e
      have hA := (h.old w g hi e).mp hq.1
      refine ⟨t, rfl, x1, hA, x4 hq.1, ?_⟩
      unfold isGry
      rw [(g.at_old x1 hA).2]
      refine decide_eq_true ?_
      rw [← (h.k4 i t hi e).2.2.2.1]
      rcases hq.2.2 with y | y
      · exact y
      · omega
  unfold fGrey
  rcases fnd_is (p := isGry c σ) 64 with ⟨e, hn⟩ | ⟨a, e, ha, hp, hmin⟩
  · rw [e]
    rcases hz with ⟨e1, _⟩ | ⟨j, hj, e1, hq, _⟩
    · exact Or.inl ⟨e1, rfl⟩
    · obtain ⟨t, _, x1, hA, _, hg⟩ := q1 j hj hq
      rw [hn _ (g.at_old x1 hA).1] at hg
      cases hg
  · rw [e]
    simp only
    cases hf : fAt c σ a with
    | none => unfold isGry at hp; rw [hf] at hp; cases hp
    | some t =>
      right
      have hgt : (σ.1 205 t) ≠ 0 := by
        unfold isGry at hp
        rw [hf] at hp
        exact of_decide_eq_true hp
      obtain ⟨hc, hA⟩ := at_some hf
      have hT := g.wf.ty _ _ _ _ hc
      obtain ⟨i, hi, ht⟩ := cell_slot h g ha hc
      obtain ⟨x1, x2, x3, x4⟩ := h.k1 i t hi ht
      have hk2 := (h.old w g hi ht).mpr (by omega)
      have hq : mQ r ρ 0 1 i := ⟨hk2, by rw [x4 hk2]; omega, Or.inl (by rw [(h.k4 i t hi ht).2.2.2.1]; exact hgt)⟩
      rcases hz with ⟨_, h0⟩ | ⟨j, hj, e1, hqj, h0⟩
      · exact absurd hq (h0 i hi)
      · obtain ⟨t', y1, y2, y3, y4, y5⟩ := q1 j hj hqj
        have hle := h0 i hi hq
        rw [y4, x4 hk2, hA] at hle
        have heq : ((σ.1 203 t')).toNat = a := by
          by_cases x : ((σ.1 203 t')).toNat < a
          · rw [hmin _ x] at y5; cases y5
          · omega
        have f2 := (g.at_old y2 y3).2
        rw [heq, hf] at f2
        cases f2
        exact ⟨j, t, hj, e1, y1, rfl⟩
theorem s_mark {P : Int → Mem → Prop} (w : RW ΛR r ρ) (g : GB Λ c σ) (h : RB Λ c r th σ ρ) (hp : ∀ ρ', RW ΛR r ρ' → RB Λ c r th (fMark Λ c σ).2 ρ' → P (fMark Λ c σ).1 ρ') : K_M_mark l D ΛR ρ r P := by
  have e9 := h.k9.1
  unfold fMark at hp
  refine w_M_mark w.ly ⟨w.ri _ _, fun z => ?_, fun z => ?_⟩
  · rw [if_pos (show (σ.1 306 (c 0)) = 1 by omega)] at hp
    refine c_M_next w rng_0 rng_1 (fun y hy => ?_)
    rcases next_grey h w g hy with ⟨e1, e2⟩ | ⟨j, t, hj, e1, e2, e3⟩
    · rw [e2] at hp
      rw [e1]
      exact ⟨⟨by omega, by omega⟩, fun n => absurd n (by decide), fun _ => hp ρ w h⟩
    · rw [e3] at hp
      rw [e1]
      simp only at hp
      refine ⟨⟨by omega, by omega⟩, fun _ => s_scan w g h hj e2 (fun ρ' w' h' => ⟨by omega, by omega, ?_⟩), fun n => absurd (by omega) n⟩
      have hA := (grey_at g).1 t e3
      have hk := (h.old w g hj e2).mpr hA.2.1
      have sc := (shadeF_sh (t := t) (g.grey0 t)).1
      have ea : ((fScan Λ t σ).2.1 203 t) = (σ.1 203 t) := by
        have := sc.adr t
        rw [upI_ne (by decide)] at this
        exact this
      have p2 := hp ρ' w' h'
      have k0' := h'.k0 j hj
      obtain ⟨y1, y2, y3, y4⟩ := h'.k1 j t hj e2
      have kn' := w'.kn j hj
      rw [e2] at k0'
      have n0 : ¬ (ρ'.2.1 1 (r 1) j) = 0 := fun q => by cases (k0'.mp q)
      have n1 : ¬ (ρ'.2.1 1 (r 1) j) = 1 := fun q => by have := y3.mp q; omega
      have e5 := y4 (by omega)
      rw [← e5] at p2
      exact p2
  · rw [if_neg (show ¬ (σ.1 306 (c 0)) = 1 by omega)] at hp
    exact hp ρ w h
end RLO
