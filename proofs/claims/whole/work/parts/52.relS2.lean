/-! Sweeping on both sides. -/
section RLT
variable {l : Launch} {D : va_G} {Λ ΛR : Lam} {c r : Nat → Nat} {th : Nat → Option Nat} {σ ρ : Mem}
theorem RB.swp (h : RB Λ c r th σ ρ) {v : Int} : RB Λ c r th (upI σ 307 (c 0) v) (upI ρ 412 (r 0) v) := by
  have ey : ((upI ρ 412 (r 0) v).1 413 (r 0)) = (ρ.1 413 (r 0)) := upI_ne (by decide)
  refine ⟨h.k0, fun i t hi e => ?_, h.k2, fun t ht hn => ?_, fun i t hi e => ?_, h.k5, fun i t k hi e hk => ?_, h.k7, fun i hi => ?_, ⟨?_, ?_, ?_⟩, by rw [ey]; exact h.ka⟩
  · rw [upI_ne (by decide)]; exact h.k1 i t hi e
  · rw [upI_ne (by decide)] at hn; exact h.k3 t ht hn
  · rw [upI_ne (f' := 200) (by decide), upI_ne (f' := 204) (by decide), upI_ne (f' := 205) (by decide), upI_ne (f' := 202) (by decide)]; exact h.k4 i t hi e
  · exact (h.k6 i t k hi e hk).congr (fun _ => upI_ne (by decide))
  · rw [upI_ne (f' := 304) (by decide), upI_ne (f' := 305) (by decide)]; exact h.k8 i hi
  · rw [upI_ne (by decide), upI_ne (by decide)]; exact h.k9.1
  · rw [upI_at, upI_at]
  · rw [ey, upI_ne (by decide)]; exact h.k9.2.2
theorem s_sweep {P : Int → Mem → Prop} (w : RW ΛR r ρ) (g : GD Λ c σ) (h : RB Λ c r th σ ρ) (hp : ∀ th' ρ', RW ΛR r ρ' → RB Λ c r th' (fSweep Λ c σ).2 ρ' → P (fSweep Λ c σ).1 ρ') : K_M_sweep l D ΛR ρ r P := by
  have e9 := h.k9.1
  have e92 := h.k9.2.1
  have hsw := g.gb.sw
  unfold fSweep at hp
  refine e_M_sweep (fun x hl hD hx => ?_)
  subst hl; subst hD
  have hL := w.ly
  refine u_M_sweep_0 hx hL ⟨w.ri _ _, fun z => ?_, fun z => ?_⟩
  · have hph : (σ.1 306 (c 0)) = 2 := by omega
    rw [if_pos hph] at hp
    refine c_M_next w (w.ri _ _) rng_0 (fun y hy => ?_)
    rw [e92] at hy
    rcases next_from h w g.gb hsw.1 hy with ⟨e1, e2⟩ | ⟨j, t, hj, e1, e2, e3⟩
    · rw [e2] at hp
      dsimp only at hp
      rw [e1]
      refine ⟨⟨by omega, by omega⟩, fun n => absurd n (by decide), fun _ => ?_⟩
      have w1 := w.phs (f := 411) (v := 0) (Or.inl rfl) rng_0
      have h1 := h.phs (v := 0)
      obtain ⟨kx, ki, u1, u2⟩ := unm_is c (upI σ 306 (c 0) 0)
      have s41 := (g.s4 hph).1
      have loop : ∀ n i : Nat, i + n = 90 → ∀ q3 : Mem, q3.1 = (upI ρ 411 (r 0) 0).1 → (∀ kd q k, kd ≠ 51 → q3.2.1 kd q k = ρ.2.1 kd q k) → (∀ kd q k, rng (q3.2.1 kd q k)) → (∀ k : Nat, k < i → (q3.2.1 51 (r 51) k) = 0) → N_M_sweep_32 x P ΛR q3 r i := by
        intro n
        induction n with
        | zero =>
          intro i hi q3 a1 a2 a3 a4
          refine u_M_sweep_32 hx hL ⟨⟨by omega, by omega⟩, fun _ => ?_, fun z => absurd z (by omega)⟩
          refine hp th q3 (w1.mg a1 (fun kd q k k1 _ => a2 kd q k k1) a3 (fun k hk => ⟨Or.inl (a4 k (by omega)), by rw [a2 _ _ _ (by decide)]; exact (w.bm k hk).2⟩)) (h1.mg kx ki a1 (fun kd q k k1 _ => a2 kd q k k1) (fun k u hk e => ?_) (fun k hk e => ⟨a4 k (by omega), by rw [a2 _ _ _ (by decide)]; exact (h.k5 k hk e).2⟩))
          rw [a4 k (by omega), a2 _ _ _ (by decide)]
          obtain ⟨y1, y2, _, _⟩ := h.k1 k u hk e
          have m2 := (h.k4 k u hk e).2.2.2.1
          have gz := s41 u y1 y2
          by_cases q : ∃ a : Nat, a < 64 ∧ ((upI σ 306 (c 0) 0).2.2 102 (c 5) a) = some u
          · have := u1 u q
            rw [this.1, this.2]
            exact ⟨rfl, by omega⟩
          · have hu := u2 u q
            rw [hu.1, hu.2, upI_ne (f' := 204) (by decide), upI_ne (f' := 205) (by decide)]
            refine ⟨?_, m2⟩
            rcases g.gb.ad u y1 with e | e | ⟨e, _⟩
            · exact absurd e y2
            · exact (g.gb.ym u y1 e).1.symm
            · exact absurd (g.gb.inCell y1 e) q
        | succ n ih =>
          intro i hi q3 a1 a2 a3 a4
          refine u_M_sweep_32 hx hL ⟨⟨by omega, by omega⟩, fun z => absurd z (by omega), fun _ => ⟨by omega, by omega, ih (i + 1) (by omega) _ a1 (fun kd q k hk => ?_) (fun kd q k => ?_) (fun k hk => ?_)⟩⟩
          · rw [upY_nk hk]; exact a2 kd q k hk
          · rw [upY_21]
            split
            · exact rng_0
            · exact a3 kd q k
          · by_cases y : k = i
            · rw [y]; exact upY_at
            · show (upY q3 51 (r 51) i 0).2.1 51 (r 51) k = 0
              rw [upY_ni y]; exact a4 k (by omega)
      exact loop 90 0 rfl _ rfl (fun _ _ _ _ => rfl) w.ry (fun k hk => by omega)
    · rw [e3] at hp
      simp only at hp
      rw [e1]
      obtain ⟨a, ha, hba, hc, hA⟩ := from_some e3
      obtain ⟨x1, x2, x3, x4⟩ := h.k1 j t hj e2
      obtain ⟨_, hf, m1, _, _⟩ := h.k4 j t hj e2
      have hk2 := (h.old w g.gb hj e2).mpr (by omega)
      have eAt := x4 hk2
      have hz := szI_le x1
      have h64 : (σ.1 203 t) + szI Λ t ≤ 64 := by
        rcases g.gb.ad t x1 with e | e | ⟨_, e⟩
        · omega
        · omega
        · exact e
      have ev : (ρ.2.1 6 (r 6) j) + 1 + (ρ.2.1 3 (r 3) j) = (σ.1 203 t) + szI Λ t := by unfold szI; omega
      have ej : ((j : Int)).toNat = j := rfl
      rw [ej, ev]
      have w1 := w.phs (f := 412) (v := (σ.1 203 t) + szI Λ t) (Or.inr rfl) ⟨by omega, by omega⟩
      have h1 := h.swp (v := (σ.1 203 t) + szI Λ t)
      refine ⟨⟨by omega, by omega⟩, fun _ => ⟨by omega, by omega, by omega, by omega, by omega, by omega, w1.ry _ _ _, fun z => ?_, fun z => ⟨by omega, by omega, ?_⟩⟩, fun n => absurd (by omega) n⟩
      · have z : (ρ.2.1 51 (r 51) j) = 0 := z
        rw [if_pos (show (σ.1 204 t) = 0 by omega)] at hp
        refine c_M_remove w1 hj (fun q' b1 b2 b4 b3 => ⟨by omega, by omega, ?_⟩)
        have nr : ¬ Reach Λ c σ t := fun hr => by have := (g.s4 hph).2 t hr (by omega) (by omega); omega
        have hB := h1.remove (σ' := upI (gTake Λ c t (upI σ 307 (c 0) ((σ.1 203 t) + szI Λ t))) 203 t (-2)) hj e2 (fun u => ?_) (fun f q f1 => ?_) (fun kd q k hk => ?_) (fun i hi e => nr (Reach.root hi e)) (fun i hi e => ?_) b1 b2 b4
        · have p2 := hp _ q' (w1.remove b1 b2 b4 b3) hB
          have e5 : (q'.2.1 6 (r 6) j) = (σ.1 203 t) := by
            rw [b2 _ _ _ (by decide), upY_nk (by decide), upY_nk (by decide), upY_nk (by decide)]
            exact eAt
          rw [← e5] at p2
          exact p2
        · rw [upI_1]
          by_cases ew : u = t
          · rw [if_pos ⟨rfl, ew⟩, if_pos ew]
          · rw [if_neg (fun z => ew z.2), if_neg ew]
            rfl
        · rw [upI_ne f1]
          rfl
        · show (gFill c _ _ none _).2.2 kd q k = _
          unfold gFill
          simp only
          rw [if_neg (fun z => hk z.1)]
        · have hi2 : (i : Int) < (ρ.1 413 (r 0)) := by
            have ey : ((upI ρ 412 (r 0) ((σ.1 203 t) + szI Λ t)).1 413 (r 0)) = (ρ.1 413 (r 0)) := upI_ne (by decide)
            rw [ey] at hi
            exact hi
          have := (g.yl.1 t x1).mpr ⟨i, by have := h.k9.2.2; omega, e⟩
          omega
      · have z : ¬ (ρ.2.1 51 (r 51) j) = 0 := z
        rw [if_neg (show ¬ (σ.1 204 t) = 0 by omega)] at hp
        have p2 := hp th _ w1 h1
        rw [← eAt] at p2
        rw [← eAt]
        exact p2
  · rw [if_neg (show ¬ (σ.1 306 (c 0)) = 2 by omega)] at hp
    exact hp th ρ w h
end RLT
