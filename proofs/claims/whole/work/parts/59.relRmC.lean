/-! Remarking on both sides. -/
section RMC
variable {l : Launch} {D : va_G} {Λ ΛR : Lam} {c r : Nat → Nat} {th : Nat → Option Nat} {σ ρ : Mem}
theorem shadeF_comm (t : Nat) (q : Nat) (v : Int) (n : Nat) : nfold (gShF1 Λ t) (0, upI σ 305 q v) n = ((nfold (gShF1 Λ t) (0, σ) n).1, upI (nfold (gShF1 Λ t) (0, σ) n).2 305 q v) := by
  induction n with
  | zero => rfl
  | succ n ih =>
    rw [nfold_s, nfold_s, ih]
    generalize nfold (gShF1 Λ t) (0, σ) n = u
    have e := shade_comm (σ := u.2) ((u.2.2.2 103 (faL Λ t) n)) q v
    show (u.1 + (fShade ((u.2.2.2 103 (faL Λ t) n)) (upI u.2 305 q v)).1, (fShade ((u.2.2.2 103 (faL Λ t) n)) (upI u.2 305 q v)).2) = _
    rw [e]
    rfl
theorem scan_comm (t : Nat) (q : Nat) (v : Int) : fScan Λ t (upI σ 305 q v) = ((fScan Λ t σ).1, upI (fScan Λ t σ).2 305 q v) := by
  unfold fScan fShadeF
  rw [upI_comm (f := 305) (f' := 205) (by decide), shadeF_comm]
theorem grey_not (q : Nat) (v : Int) : fGrey c (upI σ 305 q v) = fGrey c σ := by
  have e : ∀ a, fAt c (upI σ 305 q v) a = fAt c σ a := fun a => fAt_congr rfl (fun t => upI_ne (by decide)) a
  have e2 : isGry c (upI σ 305 q v) = isGry c σ := by
    funext a
    unfold isGry
    rw [e]
    cases fAt c σ a with
    | none => rfl
    | some t => simp only; rw [upI_ne (by decide)]
  unfold fGrey
  rw [e2]
  cases fnd (isGry c σ) 64 with
  | none => rfl
  | some a => exact e a
theorem GB.not0 (g : GB Λ c σ) : GB Λ c (upI σ 305 (c 0) 0) := g.upH (f := 305) (v := 0) (by omega) ⟨fun _ => lo8_0, by omega, by omega⟩
theorem rmkB {x : Cx} {P : Int → Mem → Prop} (hx : X_M_remark x) (w : RW ΛR r ρ) (g : GB Λ c σ) (h : RB Λ c r th (upI σ 305 (c 0) 0) ρ) (go : ∀ q, RW ΛR r q → RB Λ c r th (upI (fShadeR c σ).2 305 (c 0) 0) q → N_M_remark_86 x P ΛR q r (fShadeR c σ).1 0) : N_M_remark_59 x P ΛR ρ r 0 0 := by
  have hL := w.ly
  have gk : ∀ k : Nat, GB Λ c (nfold (gShR1 c) (0, σ) k).2 := by
    intro k
    refine nfold_inv (fun _ (u : Int × Mem) => GB Λ c u.2) g k (fun i u _ hu => ?_)
    unfold gShR1
    exact (shade_sh hu _ (fun v e => hu.wf.ty _ _ _ _ e)).1.gb hu (shade_wf hu.wf _)
  have loop : ∀ n i : Nat, i + n = 6 → ∀ q2, RW ΛR r q2 → RB Λ c r th (upI (nfold (gShR1 c) (0, σ) i).2 305 (c 0) 0) q2 → N_M_remark_59 x P ΛR q2 r (nfold (gShR1 c) (0, σ) i).1 i := by
    intro n
    induction n with
    | zero =>
      intro i hi q2 w2 h2
      rw [show i = 6 by omega] at h2 ⊢
      exact u_M_remark_59 hx hL ⟨⟨by omega, by omega⟩, fun _ => go q2 w2 h2, fun z => absurd (by decide) z⟩
    | succ n ih =>
      intro i hi q2 w2 h2
      refine u_M_remark_59 hx hL ⟨⟨by omega, by omega⟩, fun z => absurd z (by omega), fun _ => ⟨by omega, by omega, s_shade w2 (gk i).not0 h2 (Or.inl (h2.k7 i (by omega))) (fun q3 w3 h3 => ?_)⟩⟩
      rw [shade_comm] at h3 ⊢
      have := ih (i + 1) (by omega) q3 w3 (by rw [nfold_s]; exact h3)
      rw [nfold_s] at this
      exact this
  exact loop 6 0 rfl ρ w h
theorem rmkC {x : Cx} {P : Int → Mem → Prop} {n0 : Int} (hx : X_M_remark x) (w : RW ΛR r ρ) (g : GB Λ c σ) (yl : YL Λ c σ) (h : RB Λ c r th (upI σ 305 (c 0) 0) ρ) (go : ∀ q, RW ΛR r q → RB Λ c r th (upI (fShadeY Λ c σ).2 305 (c 0) 0) q → K_M_next (xl x) (xD x) ΛR q r 0 1 (fun z2 σa2 => N_M_remark_152 x P ΛR σa2 r (n0 + (fShadeY Λ c σ).1) z2 0)) : N_M_remark_86 x P ΛR ρ r n0 0 := by
  have hL := w.ly
  have hth : ∀ i t, i < 90 → th i = some t → isT Λ t := fun i t hi e => (h.k1 i t hi e).1
  have k3 : ∀ t : Nat, isT Λ t → (σ.1 203 t) ≠ -2 → ∃ i : Nat, i < 90 ∧ th i = some t := fun t ht hn => h.k3 t ht (by rw [upI_ne (by decide)]; exact hn)
  have sq := shadeS_sq g hth k3
  have gS : ∀ i, i ≤ 90 → GB Λ c (nfold (gShS1 Λ th) (0, σ) i).2 := fun i hi => (sq i hi).1.sh.gb g (sq i hi).1.wf
  have aS : ∀ i, i ≤ 90 → ∀ t, ((nfold (gShS1 Λ th) (0, σ) i).2.1 203 t) = (σ.1 203 t) := fun i hi t => (sq i hi).1.sh.adr t
  have loop : ∀ n i : Nat, i + n = 90 → ∀ q2, RW ΛR r q2 → RB Λ c r th (upI (nfold (gShS1 Λ th) (0, σ) i).2 305 (c 0) 0) q2 → N_M_remark_86 x P ΛR q2 r (n0 + (nfold (gShS1 Λ th) (0, σ) i).1) i := by
    intro n
    induction n with
    | zero =>
      intro i hi q2 w2 h2
      rw [show i = 90 by omega] at h2 ⊢
      refine u_M_remark_86 hx hL ⟨⟨by omega, by omega⟩, fun _ => ?_, fun z => absurd (by decide) z⟩
      obtain ⟨y1, y2⟩ := shadeY_sq g yl
      obtain ⟨z1, z2⟩ := sq 90 (Nat.le_refl _)
      obtain ⟨e1, e2⟩ := sq_same z1 y1 (fun v ⟨t, k, hT, hy, hk, e⟩ hv => by
        obtain ⟨i, hi, hth⟩ := k3 t hT (by omega)
        exact z2 i t k v hi hth hy hk e hv) y2 g
      generalize nfold (gShS1 Λ th) (0, σ) 90 = S at *
      generalize fShadeY Λ c σ = Y at *
      rw [e1]
      refine go q2 w2 (h2.mg ?_ (fun f q f1 f2 => ?_) rfl (fun _ _ _ _ _ => rfl) (fun j t hj e => ?_) h2.k5)
      · exact y1.sh.kx.trans z1.sh.kx.symm
      · rw [upI_1, upI_1]
        split
        · rfl
        · exact (y1.sh.ki f q f1 f2).trans (z1.sh.ki f q f1 f2).symm
      · obtain ⟨_, _, m1, m2, _⟩ := h2.k4 j t hj e
        rw [upI_ne (f' := 204) (by decide)] at m1 ⊢
        rw [upI_ne (f' := 205) (by decide)] at m2 ⊢
        obtain ⟨a1, a2⟩ := e2 t (hth j t hj e)
        exact ⟨m1.trans a1, m2.trans a2⟩
    | succ n ih =>
      intro i hi q2 w2 h2
      refine u_M_remark_86 hx hL ⟨⟨by omega, by omega⟩, fun z => absurd z (by omega), fun _ => ?_⟩
      have ih2 := ih (i + 1) (by omega)
      rw [nfold_s] at ih2
      have gi := gS i (by omega)
      have ai := aS i (by omega)
      generalize nfold (gShS1 Λ th) (0, σ) i = S at *
      have kk := w2.kn i (by omega)
      cases e : th i with
      | none =>
        have eS : gShS1 Λ th i S = S := by unfold gShS1; rw [e]
        rw [eS] at ih2
        have k0 := (h2.k0 i (by omega)).mpr e
        refine u_M_remark_94 hx hL ⟨by omega, by omega, w2.ry _ _ _, fun _ => ih2 q2 w2 h2, fun z => absurd z ?_⟩
        show ¬ (q2.2.1 1 (r 1) i) = 1
        omega
      | some t =>
        obtain ⟨x1, x2, x3, x4⟩ := h2.k1 i t (by omega) e
        rw [upI_ne (by decide)] at x3
        have hn : nfL Λ t ≤ 3 := x1.2.2
        by_cases hy : (S.2.1 203 t) = -1
        · have eS : gShS1 Λ th i S = (S.1 + (fShadeF Λ t S.2).1, (fShadeF Λ t S.2).2) := by unfold gShS1; rw [e]; simp only; rw [if_pos hy]
          rw [eS] at ih2
          unfold fShadeF at ih2
          have gk : ∀ k : Nat, GB Λ c (nfold (gShF1 Λ t) (0, S.2) k).2 := by
            intro k
            refine nfold_inv (f := gShF1 Λ t) (a := ((0 : Int), S.2)) (fun _ (u : Int × Mem) => GB Λ c u.2) gi k (fun i u _ hu => ?_)
            unfold gShF1
            exact (shade_sh hu _ (fun v e => hu.wf.ty _ _ _ _ e)).1.gb hu (shade_wf hu.wf _)
          have ak : ∀ k : Nat, ((nfold (gShF1 Λ t) (0, S.2) k).2.1 203 t) = -1 := by
            intro k
            refine (nfold_inv (f := gShF1 Λ t) (a := ((0 : Int), S.2)) (fun _ (u : Int × Mem) => GB Λ c u.2 ∧ (u.2.1 203 t) = -1) ⟨gi, hy⟩ k (fun i u _ hu => ?_)).2
            have sh := (shade_sh hu.1 ((u.2.2.2 103 (faL Λ t) i)) (fun v e => hu.1.wf.ty _ _ _ _ e)).1
            exact ⟨sh.gb hu.1 (shade_wf hu.1.wf _), (sh.adr t).trans hu.2⟩
          have inner : ∀ m k : Nat, k + m = nfL Λ t → ∀ q3, RW ΛR r q3 → RB Λ c r th (upI (nfold (gShF1 Λ t) (0, S.2) k).2 305 (c 0) 0) q3 → N_M_remark_94 x P ΛR q3 r (n0 + S.1 + (nfold (gShF1 Λ t) (0, S.2) k).1) i k := by
            intro m
            induction m with
            | zero =>
              intro k hk q3 w3 h3
              have hf := (h3.k4 i t (by omega) e).2.1
              have k1 : (q3.2.1 1 (r 1) i) = 1 := (h3.k1 i t (by omega) e).2.2.1.mpr (by rw [upI_ne (by decide)]; exact ak k)
              rw [show nfL Λ t = k by omega] at ih2
              refine u_M_remark_94 hx hL ⟨by omega, by omega, w3.ry _ _ _, fun z => absurd k1 z, fun _ => ⟨by omega, by omega, ⟨by omega, by omega⟩, w3.ry _ _ _, fun _ => ?_, fun z => absurd ?_ z⟩⟩
              · have := ih2 q3 w3 h3
                simp only at this
                rw [← Int.add_assoc] at this
                exact this
              · show (q3.2.1 3 (r 3) i) ≤ k
                omega
            | succ m ihm =>
              intro k hk q3 w3 h3
              have hf := (h3.k4 i t (by omega) e).2.1
              have k1 : (q3.2.1 1 (r 1) i) = 1 := (h3.k1 i t (by omega) e).2.2.1.mpr (by rw [upI_ne (by decide)]; exact ak k)
              have ei : (3 * (i : Int) + (k : Int)).toNat = 3 * i + k := by omega
              refine u_M_remark_94 hx hL ⟨by omega, by omega, w3.ry _ _ _, fun z => absurd k1 z, fun _ => ⟨by omega, by omega, ⟨by omega, by omega⟩, w3.ry _ _ _, fun z => absurd z ?_, fun _ => ⟨by omega, by omega, ?_⟩⟩⟩
              · show ¬ (q3.2.1 3 (r 3) i) ≤ k
                omega
              · rw [ei]
                refine s_shade w3 (gk k).not0 h3 (h3.k6 i t k (by omega) e (by omega)) (fun q4 w4 h4 => ?_)
                rw [shade_comm] at h4 ⊢
                have := ihm (k + 1) (by omega) q4 w4 (by rw [nfold_s]; exact h4)
                rw [nfold_s] at this
                have e5 : ∀ a b d : Int, a + b + d = a + (b + d) := fun a b d => Int.add_assoc a b d
                rw [e5]
                exact this
          have h0 := inner (nfL Λ t) 0 (by omega) q2 w2 h2
          have e6 : n0 + S.1 + (nfold (gShF1 Λ t) (0, S.2) 0).1 = n0 + S.1 := Int.add_zero _
          rw [e6] at h0
          exact h0
        · have eS : gShS1 Λ th i S = S := by unfold gShS1; rw [e]; simp only; rw [if_neg hy]
          rw [eS] at ih2
          refine u_M_remark_94 hx hL ⟨by omega, by omega, w2.ry _ _ _, fun _ => ih2 q2 w2 h2, fun z => absurd (x3.mp z) hy⟩
  have h0 := loop 90 0 rfl ρ w h
  have e6 : n0 + (nfold (gShS1 Λ th) (0, σ) 0).1 = n0 := Int.add_zero _
  rw [e6] at h0
  exact h0
theorem scan_end (g : GB Λ c σ) : fGrey c (nfold (gScan1 Λ c) (0, σ) 64).2 = none ∧ ∀ k, GB Λ c (nfold (gScan1 Λ c) (0, σ) k).2 := by
  have nn : ∀ s : Mem, 0 ≤ sumN (uM c s) 64 ∧ sumN (uM c s) 64 ≤ 64 := by
    intro s
    have hb : ∀ a, 0 ≤ uM c s a ∧ uM c s a ≤ 1 := by
      intro a
      unfold uM
      split
      · omega
      · split <;> omega
    constructor
    · have := sumN_le (f := fun _ => 0) (g := uM c s) (n := 64) (fun i _ => (hb i).1)
      rw [sumN_const] at this
      omega
    · have := sumN_le (f := uM c s) (g := fun _ => 1) (n := 64) (fun i _ => (hb i).2)
      rw [sumN_const] at this
      omega
  have key : ∀ n : Nat, GB Λ c (nfold (gScan1 Λ c) (0, σ) n).2 ∧ (fGrey c (nfold (gScan1 Λ c) (0, σ) n).2 = none ∨ sumN (uM c (nfold (gScan1 Λ c) (0, σ) n).2) 64 + n ≤ 64) := by
    intro n
    induction n with
    | zero => exact ⟨g, Or.inr (by have := (nn σ).2; show sumN (uM c σ) 64 + ((0 : Nat) : Int) ≤ 64; omega)⟩
    | succ n ih =>
      obtain ⟨a1, a4⟩ := ih
      rw [nfold_s]
      generalize nfold (gScan1 Λ c) (0, σ) n = u at *
      cases hg : fGrey c u.2 with
      | none =>
        rw [gScan1_stop hg]
        exact ⟨a1, Or.inl hg⟩
      | some t =>
        have e : gScan1 Λ c n u = (u.1 + (fScan Λ t u.2).1, (fScan Λ t u.2).2) := by unfold gScan1; rw [hg]
        rw [e]
        obtain ⟨m1, m2⟩ := scan_mm a1 t
        refine ⟨m2, Or.inr ?_⟩
        have := scan_less a1 hg
        rcases a4 with x | x
        · rw [hg] at x; cases x
        · simp only; omega
  obtain ⟨a1, a4⟩ := key 64
  refine ⟨?_, fun k => (key k).1⟩
  generalize nfold (gScan1 Λ c) (0, σ) 64 = u at *
  rcases a4 with x | x
  · exact x
  · cases hg : fGrey c u.2 with
    | none => rfl
    | some t =>
      have := scan_less a1 hg
      have := nn (fScan Λ t u.2).2
      omega
theorem scan_all (g : GB Λ c σ) {k : Nat} (hk : fGrey c (nfold (gScan1 Λ c) (0, σ) k).2 = none ∨ 64 ≤ k) : nfold (gScan1 Λ c) (0, σ) k = fScanAll Λ c σ := by
  unfold fScanAll
  have h64 := (scan_end g).1
  by_cases e : 64 ≤ k
  · exact nfold_stop (i := 64) (fun j _ => gScan1_stop h64) k e
  · rcases hk with hk | hk
    · exact (nfold_stop (i := k) (fun j _ => gScan1_stop hk) 64 (by omega)).symm
    · exact absurd hk e
theorem rmkD {x : Cx} {P : Int → Mem → Prop} {n0 : Int} (hx : X_M_remark x) (w : RW ΛR r ρ) (g : GB Λ c σ) (h : RB Λ c r th (upI σ 305 (c 0) 0) ρ) (go : ∀ q, RW ΛR r q → RB Λ c r th (upI (fScanAll Λ c σ).2 305 (c 0) 0) q → N_M_remark_184 x P ΛR q r (n0 + (fScanAll Λ c σ).1)) : K_M_next (xl x) (xD x) ΛR ρ r 0 1 (fun z2 σa2 => N_M_remark_152 x P ΛR σa2 r n0 z2 0) := by
  have hL := w.ly
  have gk := (scan_end g).2
  have loop : ∀ m k : Nat, k + m = 200 → ∀ q z, RW ΛR r q → RB Λ c r th (upI (nfold (gScan1 Λ c) (0, σ) k).2 305 (c 0) 0) q → NX r q 0 1 90 z → N_M_remark_152 x P ΛR q r (n0 + (nfold (gScan1 Λ c) (0, σ) k).1) z k := by
    intro m
    induction m with
    | zero =>
      intro k hk q z w2 h2 hz
      refine u_M_remark_152 hx hL ⟨⟨by omega, by omega⟩, fun _ => ?_, fun y => absurd (by omega) y⟩
      rw [scan_all g (Or.inr (by omega))] at h2 ⊢
      exact go q w2 h2
    | succ m ih =>
      intro k hk q z w2 h2 hz
      have ih2 := ih (k + 1) (by omega)
      have ha := fun e => scan_all g (k := k) (Or.inl e)
      have g2 := gk k
      rw [nfold_s] at ih2
      generalize nfold (gScan1 Λ c) (0, σ) k = u at *
      have ng := next_grey h2 w2 g2.not0 hz
      rw [grey_not] at ng
      rcases ng with ⟨e1, e2⟩ | ⟨j, t, hj, e1, e2, e3⟩
      · rw [e1]
        refine u_M_remark_152 hx hL ⟨⟨by omega, by omega⟩, fun y => absurd y (by omega), fun _ => ⟨⟨by omega, by omega⟩, fun _ => ?_, fun y => absurd (by decide) y⟩⟩
        rw [ha e2] at h2 ⊢
        exact go q w2 h2
      · rw [e1]
        have eG : gScan1 Λ c k u = (u.1 + (fScan Λ t u.2).1, (fScan Λ t u.2).2) := by unfold gScan1; rw [e3]
        rw [eG] at ih2
        refine u_M_remark_152 hx hL ⟨⟨by omega, by omega⟩, fun y => absurd y (by omega), fun _ => ⟨⟨by omega, by omega⟩, fun y => absurd y (by omega), fun _ => s_scan w2 g2.not0 h2 hj e2 (fun q3 w3 h3 => ?_)⟩⟩
        rw [scan_comm] at h3 ⊢
        refine c_M_next w3 rng_0 rng_1 (fun z3 hz3 => ?_)
        have := ih2 q3 z3 w3 h3 hz3
        simp only at this
        rw [← Int.add_assoc] at this
        exact this
  refine c_M_next w rng_0 rng_1 (fun z hz => ?_)
  have h0 := loop 200 0 rfl ρ z w h hz
  have e6 : n0 + (nfold (gScan1 Λ c) (0, σ) 0).1 = n0 := Int.add_zero _
  rw [e6] at h0
  exact h0
theorem s_remark {P : Int → Mem → Prop} (w : RW ΛR r ρ) (g : GD Λ c σ) (h : RB Λ c r th σ ρ) (hp : ∀ ρ', RW ΛR r ρ' → RB Λ c r th (fRemark Λ c σ).2 ρ' → P (fRemark Λ c σ).1 ρ') : K_M_remark l D ΛR ρ r P := by
  have e9 := h.k9.1
  unfold fRemark at hp
  refine e_M_remark (fun x hl hD hx => ?_)
  subst hl; subst hD
  have hL := w.ly
  refine u_M_remark_0 hx hL ⟨w.ri _ _, fun z => ?_, fun z => ?_⟩
  · rw [if_pos (show (σ.1 306 (c 0)) = 1 by omega)] at hp
    have g0 := g.gb.greyOn (iOr ((σ.1 304 (c 0))) ((σ.1 305 (c 0))))
    have e1 : fShadeR c (gGrey c (iOr ((σ.1 304 (c 0))) ((σ.1 305 (c 0)))) σ) = rmk1 c σ := by unfold rmk1; rfl
    have e2 : fShadeY Λ c (rmk1 c σ).2 = rmk2 Λ c σ := by unfold rmk2; rfl
    have e3 : fScanAll Λ c (rmk2 Λ c σ).2 = rmk3 Λ c σ := by unfold rmk3; rfl
    have a1 := (shadeR_sh g0).1
    rw [e1] at a1
    have w1 : WF Λ c (rmk1 c σ).2 := rmk1_wf g.gb.wf
    have g1 : GB Λ c (rmk1 c σ).2 := a1.gb g0 w1
    have b1 := (shadeY_sh g1).1
    rw [e2] at b1
    have g2 : GB Λ c (rmk2 Λ c σ).2 := b1.gb g1 (rmk2_wf g.gb.wf)
    have y1 : YL Λ c (rmk1 c σ).2 := by
      obtain ⟨h1, h2, h3, h4⟩ := grey_is c (iOr ((σ.1 304 (c 0))) ((σ.1 305 (c 0)))) σ
      have eA : ∀ t, ((rmk1 c σ).2.1 203 t) = (σ.1 203 t) := fun t => (a1.adr t).trans (h2 _ _ (by decide))
      have eC : ((rmk1 c σ).2.1 101 (c 2)) = (σ.1 101 (c 2)) := (a1.ki _ _ (by decide) (by decide)).trans (h2 _ _ (by decide))
      have eX : (rmk1 c σ).2.2 = σ.2 := a1.kx.trans h1
      have y := g.yl
      generalize (rmk1 c σ).2 = s1 at *
      unfold YL at y ⊢
      simp only [eA, eC, eX]
      exact y
    refine rmkA hx w g.gb h (fun q wq hq => rmkB hx wq g0 hq (fun q wq hq => ?_))
    rw [e1] at hq ⊢
    refine rmkC hx wq g1 y1 hq (fun q wq hq => ?_)
    rw [e2] at hq ⊢
    refine rmkD hx wq g2 hq (fun q wq hq => ?_)
    rw [e3] at hq ⊢
    generalize rmk1 c σ = u1 at *
    generalize rmk2 Λ c σ = u2 at *
    generalize rmk3 Λ c σ = u3 at *
    refine u_M_remark_184 hx hL ?_
    exact hp _ ((wq.phs (f := 411) (v := 2) (Or.inl rfl) ⟨by omega, by omega⟩).phs (f := 412) (v := 0) (Or.inr rfl) rng_0) ((hq.phs (v := 2)).swp (v := 0))
  · rw [if_neg (show ¬ (σ.1 306 (c 0)) = 1 by omega)] at hp
    exact hp ρ w h
end RMC
