/-! Beginning to mark, on both sides. -/
section RLP
variable {l : Launch} {D : va_G} {Λ ΛR : Lam} {c r : Nat → Nat} {th : Nat → Option Nat} {σ ρ : Mem}
theorem upI_comm {f q f' q' : Nat} {v v' : Int} (h : f ≠ f') : upI (upI σ f q v) f' q' v' = upI (upI σ f' q' v') f q v := by
  have e : (upI (upI σ f q v) f' q' v').1 = (upI (upI σ f' q' v') f q v).1 := by
    funext a b
    rw [upI_1, upI_1, upI_1, upI_1]
    by_cases x : a = f ∧ b = q
    · have y : ¬ (a = f' ∧ b = q') := fun z => h (x.1.symm.trans z.1)
      simp only [if_pos x, if_neg y]
    · by_cases y : a = f' ∧ b = q'
      · simp only [if_neg x, if_pos y]
      · simp only [if_neg x, if_neg y]
  exact Prod.ext e rfl
theorem shade_comm (o : Option Nat) (q : Nat) (v : Int) : fShade o (upI σ 305 q v) = ((fShade o σ).1, upI (fShade o σ).2 305 q v) := by
  cases o with
  | none => rfl
  | some t =>
    unfold fShade
    simp only
    rw [upI_ne (f' := 203) (by decide), upI_ne (f' := 204) (by decide)]
    by_cases x : 0 ≤ (σ.1 203 t) ∧ (σ.1 204 t) = 0
    · rw [if_pos x, if_pos x]
      simp only
      rw [upI_comm (f := 305) (f' := 204) (by decide), upI_comm (f := 305) (f' := 205) (by decide)]
    · rw [if_neg x, if_neg x]
theorem shadeR_comm (q : Nat) (v : Int) (n : Nat) : nfold (gShR1 c) (0, upI σ 305 q v) n = ((nfold (gShR1 c) (0, σ) n).1, upI (nfold (gShR1 c) (0, σ) n).2 305 q v) := by
  induction n with
  | zero => rfl
  | succ n ih =>
    rw [nfold_s, nfold_s, ih]
    generalize nfold (gShR1 c) (0, σ) n = u
    have e := shade_comm (σ := u.2) ((u.2.2.2 100 (c 1) n)) q v
    show (u.1 + (fShade ((u.2.2.2 100 (c 1) n)) (upI u.2 305 q v)).1, (fShade ((u.2.2.2 100 (c 1) n)) (upI u.2 305 q v)).2) = _
    rw [e]
    rfl
theorem RW.ntd {ρ' : Mem} (w : RW ΛR r ρ) (e1 : ρ'.1 = ρ.1) (eY : ∀ kd q k, kd ≠ 54 → ρ'.2.1 kd q k = ρ.2.1 kd q k) (hr : ∀ kd q k, rng (ρ'.2.1 kd q k)) (hb : ∀ i : Nat, i < 8 → (ρ'.2.1 54 (r 54) i) = 0 ∨ (ρ'.2.1 54 (r 54) i) = 1) : RW ΛR r ρ' := by
  refine ⟨w.ly, by rw [e1]; exact w.ri, hr, fun i hi => ?_, fun i hi => ?_, fun i hi => ?_, fun i hi => ?_, fun i hi => ?_, fun i hi => ?_, fun i hi => ?_, fun i hi => ⟨?_, hb i hi⟩, by rw [e1]; exact w.yo, fun i hi => ?_⟩
  · rw [eY _ _ _ (by decide)]; exact w.kn i hi
  · rw [eY _ _ _ (by decide)]; exact w.fd i hi
  · rw [eY _ _ _ (by decide)]; exact w.pa i hi
  · rw [eY _ _ _ (by decide)]; exact w.rf i hi
  · rw [eY _ _ _ (by decide)]; exact w.rt i hi
  · rw [eY _ _ _ (by decide)]; exact w.ag i hi
  · rw [eY _ _ _ (by decide), eY _ _ _ (by decide)]; exact w.bm i hi
  · rw [eY _ _ _ (by decide)]; exact (w.bd i hi).1
  · rw [e1] at hi; rw [eY _ _ _ (by decide)]; exact w.od i hi
theorem RB.ntd (h : RB Λ c r th σ ρ) {v : Int} {ρ' : Mem} (e1 : ρ'.1 = ρ.1) (eY : ∀ kd q k, kd ≠ 54 → ρ'.2.1 kd q k = ρ.2.1 kd q k) (hd : ∀ i : Nat, i < 8 → ((ρ'.2.1 54 (r 54) i) = 0 ↔ cb v i = false)) : RB Λ c r th (upI σ 305 (c 0) v) ρ' := by
  refine ⟨fun i hi => ?_, fun i t hi e => ?_, h.k2, fun t ht hn => ?_, fun i t hi e => ?_, fun i hi e => ?_, fun i t k hi e hk => ?_, fun i hi => ?_, fun i hi => ⟨?_, ?_⟩, ?_, fun i hi => ?_⟩
  · rw [eY _ _ _ (by decide)]; exact h.k0 i hi
  · rw [eY _ _ _ (by decide), eY _ _ _ (by decide), upI_ne (by decide)]; exact h.k1 i t hi e
  · rw [upI_ne (by decide)] at hn; exact h.k3 t ht hn
  · rw [eY _ _ _ (by decide), eY _ _ _ (by decide), eY _ _ _ (by decide), eY _ _ _ (by decide), eY _ _ _ (by decide), eY _ _ _ (by decide), upI_ne (by decide), upI_ne (by decide), upI_ne (by decide), upI_ne (by decide)]; exact h.k4 i t hi e
  · rw [eY _ _ _ (by decide), eY _ _ _ (by decide)]; exact h.k5 i hi e
  · rw [eY _ _ _ (by decide)]; exact (h.k6 i t k hi e hk).congr (fun _ => upI_ne (by decide))
  · rw [eY _ _ _ (by decide)]; exact h.k7 i hi
  · rw [eY _ _ _ (by decide), upI_ne (by decide)]; exact (h.k8 i hi).1
  · rw [upI_at]; exact hd i hi
  · rw [e1, upI_ne (by decide), upI_ne (by decide), upI_ne (by decide)]; exact h.k9
  · rw [e1] at hi
    rw [eY _ _ _ (by decide)]; exact h.ka i hi
theorem RW.phs (w : RW ΛR r ρ) {f : Nat} {v : Int} (hf : f = 411 ∨ f = 412) (hv : rng v) : RW ΛR r (upI ρ f (r 0) v) := by
  have ey : ((upI ρ f (r 0) v).1 413 (r 0)) = (ρ.1 413 (r 0)) := upI_ne (by omega)
  refine ⟨w.ly, fun f' q => ?_, w.ry, w.kn, w.fd, w.pa, w.rf, w.rt, w.ag, w.bm, w.bd, by rw [ey]; exact w.yo, by rw [ey]; exact w.od⟩
  rw [upI_1]
  split
  · exact hv
  · exact w.ri f' q
theorem RB.phs (h : RB Λ c r th σ ρ) {v : Int} : RB Λ c r th (upI σ 306 (c 0) v) (upI ρ 411 (r 0) v) := by
  have ey : ((upI ρ 411 (r 0) v).1 413 (r 0)) = (ρ.1 413 (r 0)) := upI_ne (by decide)
  refine ⟨h.k0, fun i t hi e => ?_, h.k2, fun t ht hn => ?_, fun i t hi e => ?_, h.k5, fun i t k hi e hk => ?_, h.k7, fun i hi => ?_, ⟨?_, ?_, ?_⟩, by rw [ey]; exact h.ka⟩
  · rw [upI_ne (by decide)]; exact h.k1 i t hi e
  · rw [upI_ne (by decide)] at hn; exact h.k3 t ht hn
  · rw [upI_ne (f' := 200) (by decide), upI_ne (f' := 204) (by decide), upI_ne (f' := 205) (by decide), upI_ne (f' := 202) (by decide)]; exact h.k4 i t hi e
  · exact (h.k6 i t k hi e hk).congr (fun _ => upI_ne (by decide))
  · rw [upI_ne (f' := 304) (by decide), upI_ne (f' := 305) (by decide)]; exact h.k8 i hi
  · rw [upI_at, upI_at]
  · rw [upI_ne (by decide), upI_ne (by decide)]; exact h.k9.2.1
  · rw [ey, upI_ne (by decide)]; exact h.k9.2.2
theorem s_begin {P : Int → Mem → Prop} (w : RW ΛR r ρ) (g : GB Λ c σ) (h : RB Λ c r th σ ρ) (hp : ∀ ρ', RW ΛR r ρ' → RB Λ c r th (fBegin c σ).2 ρ' → P (fBegin c σ).1 ρ') : K_M_begin l D ΛR ρ r P := by
  have e9 := h.k9.1
  unfold fBegin at hp
  refine e_M_begin (fun x hl hD hx => ?_)
  subst hl; subst hD
  have hL := w.ly
  refine u_M_begin_0 hx hL ⟨w.ri _ _, fun z => ?_, fun z => ?_⟩
  · rw [if_pos (show (σ.1 306 (c 0)) = 0 by omega)] at hp
    unfold fShadeR at hp
    rw [shadeR_comm] at hp
    have w1 := w.phs (f := 411) (v := 1) (Or.inl rfl) rng_1
    have h1 := h.phs (v := 1)
    have g1 : GB Λ c (upI σ 306 (c 0) 1) := g.upH (f := 306) (v := 1) (by omega) ⟨by omega, by omega, by omega⟩
    generalize upI σ 306 (c 0) 1 = s1 at *
    generalize upI ρ 411 (r 0) 1 = q1 at *
    have gk : ∀ k : Nat, GB Λ c (nfold (gShR1 c) (0, s1) k).2 := by
      intro k
      refine nfold_inv (fun _ (u : Int × Mem) => GB Λ c u.2) g1 k (fun i u _ hu => ?_)
      unfold gShR1
      exact (shade_sh hu _ (fun v e => hu.wf.ty _ _ _ _ e)).1.gb hu (shade_wf hu.wf _)
    have fin : ∀ q2, RW ΛR r q2 → RB Λ c r th (nfold (gShR1 c) (0, s1) 6).2 q2 → N_M_begin_46 x P ΛR q2 r (nfold (gShR1 c) (0, s1) 6).1 0 := by
      intro q2 w2 h2
      have loop2 : ∀ n i : Nat, i + n = 8 → ∀ q3 : Mem, q3.1 = q2.1 → (∀ kd q k, kd ≠ 54 → q3.2.1 kd q k = q2.2.1 kd q k) → (∀ kd q k, rng (q3.2.1 kd q k)) → (∀ k : Nat, k < i → (q3.2.1 54 (r 54) k) = 0) → N_M_begin_46 x P ΛR q3 r (nfold (gShR1 c) (0, s1) 6).1 i := by
        intro n
        induction n with
        | zero =>
          intro i hi q3 a1 a2 a3 a4
          refine u_M_begin_46 hx hL ⟨⟨by omega, by omega⟩, fun _ => ?_, fun z => absurd z (by omega)⟩
          exact hp q3 (w2.ntd a1 a2 a3 (fun k hk => Or.inl (a4 k (by omega)))) (h2.ntd a1 a2 (fun k hk => ⟨fun _ => cb_0 k, fun _ => a4 k (by omega)⟩))
        | succ n ih =>
          intro i hi q3 a1 a2 a3 a4
          refine u_M_begin_46 hx hL ⟨⟨by omega, by omega⟩, fun z => absurd z (by omega), fun _ => ⟨by omega, by omega, ih (i + 1) (by omega) _ a1 (fun kd q k hk => ?_) (fun kd q k => ?_) (fun k hk => ?_)⟩⟩
          · rw [upY_nk hk]; exact a2 kd q k hk
          · rw [upY_21]
            split
            · exact rng_0
            · exact a3 kd q k
          · by_cases y : k = i
            · rw [y]; exact upY_at
            · show (upY q3 54 (r 54) i 0).2.1 54 (r 54) k = 0
              rw [upY_ni y]; exact a4 k (by omega)
      exact loop2 8 0 rfl q2 rfl (fun _ _ _ _ => rfl) w2.ry (fun k hk => by omega)
    have loop : ∀ n i : Nat, i + n = 6 → ∀ q2, RW ΛR r q2 → RB Λ c r th (nfold (gShR1 c) (0, s1) i).2 q2 → N_M_begin_19 x P ΛR q2 r (nfold (gShR1 c) (0, s1) i).1 i := by
      intro n
      induction n with
      | zero =>
        intro i hi q2 w2 h2
        rw [show i = 6 by omega] at h2 ⊢
        exact u_M_begin_19 hx hL ⟨⟨by omega, by omega⟩, fun _ => fin q2 w2 h2, fun z => absurd (by decide) z⟩
      | succ n ih =>
        intro i hi q2 w2 h2
        refine u_M_begin_19 hx hL ⟨⟨by omega, by omega⟩, fun z => absurd z (by omega), fun _ => ⟨by omega, by omega, s_shade w2 (gk i) h2 (Or.inl (h2.k7 i (by omega))) (fun q3 w3 h3 => ?_)⟩⟩
        have := ih (i + 1) (by omega) q3 w3 (by rw [nfold_s]; exact h3)
        rw [nfold_s] at this
        exact this
    exact loop 6 0 rfl q1 w1 h1
  · rw [if_neg (show ¬ (σ.1 306 (c 0)) = 0 by omega)] at hp
    exact hp ρ w h
end RLP
