/-! Precleaning on both sides. -/
section RLI
variable {l : Launch} {D : va_G} {Λ ΛR : Lam} {c r : Nat → Nat} {th : Nat → Option Nat} {σ ρ : Mem}
theorem s_preclean {P : Int → Mem → Prop} (w : RW ΛR r ρ) (g : GB Λ c σ) (h : RB Λ c r th σ ρ) (hp : ∀ ρ', RW ΛR r ρ' → RB Λ c r th (fPre c σ).2 ρ' → P (fPre c σ).1 ρ') : K_M_preclean l D ΛR ρ r P := by
  have e9 := h.k9.1
  unfold fPre at hp
  have bit : ∀ i : Nat, i < 8 → (decide (iAnd ((σ.1 305 (c 0))) (iShl 1 (i : Nat)) ≠ 0) = true ↔ cb ((σ.1 305 (c 0))) i = true) := by
    intro i hi
    rw [decide_eq_true_iff]
    have e : iShl 1 ((i : Nat) : Int) = fCard ((8 * i : Nat) : Int) := by
      rcases (show i = 0 ∨ i = 1 ∨ i = 2 ∨ i = 3 ∨ i = 4 ∨ i = 5 ∨ i = 6 ∨ i = 7 by omega) with e | e | e | e | e | e | e | e <;> subst e <;> decide +kernel
    rw [e, cb_hit _ (by omega), show 8 * i / 8 = i by omega]
  refine e_M_preclean (fun x hl hD hx => ?_)
  subst hl; subst hD
  have hL := w.ly
  refine u_M_preclean_0 hx hL ⟨w.ri _ _, fun z => ?_, fun z => ?_⟩
  · rw [if_pos (show (σ.1 306 (c 0)) = 1 by omega)] at hp
    have loop : ∀ n i : Nat, i + n = 8 → (∀ j, j < i → decide (iAnd ((σ.1 305 (c 0))) (iShl 1 (j : Nat)) ≠ 0) = false) → N_M_preclean_13 x P ΛR ρ r i := by
      intro n
      induction n with
      | zero =>
        intro i hi hb
        refine u_M_preclean_13 hx hL ⟨⟨by omega, by omega⟩, fun _ => u_M_preclean_34 hx hL ⟨⟨by omega, by omega⟩, fun q => absurd (by omega) q, fun _ => ?_⟩, fun q => absurd q (by omega)⟩
        rw [fnd_none (fun j hj => hb j (by omega))] at hp
        exact hp ρ w h
      | succ n ih =>
        intro i hi hb
        have k8 := (h.k8 i (by omega)).2
        have bi := bit i (by omega)
        refine u_M_preclean_13 hx hL ⟨⟨by omega, by omega⟩, fun q => absurd q (by omega), fun _ => ⟨by omega, by omega, w.ry _ _ _, fun q => ?_, fun q => ih (i + 1) (by omega) (fun j hj => ?_)⟩⟩
        · have q : ¬ (ρ.2.1 54 (r 54) i) = 0 := q
          have hit : cb ((σ.1 305 (c 0))) i = true := by
            cases hx2 : cb ((σ.1 305 (c 0))) i with
            | true => rfl
            | false => exact absurd (k8.mpr hx2) q
          rw [fnd_some (i := i) (bi.mpr hit) hb (by omega)] at hp
          simp only at hp
          have w1 : RW ΛR r (upY ρ 54 (r 54) i 0) := w.ntd rfl (fun kd q k hk => upY_nk hk) (fun kd q k => by rw [upY_21]; split; exact rng_0; exact w.ry kd q k) (fun k hk => by rw [upY_21]; split; exact Or.inl rfl; exact (w.bd k hk).2)
          have h1 : RB Λ c r th (upI σ 305 (c 0) (iAnd ((σ.1 305 (c 0))) (iXor (iShl 1 i) (-1)))) (upY ρ 54 (r 54) i 0) := by
            refine h.ntd rfl (fun kd q k hk => upY_nk hk) (fun k hk => ?_)
            rw [cb_and, cb_not _ (by omega), cb_shl1 i (by omega) k (by omega)]
            by_cases y : k = i
            · rw [y, upY_at, decide_eq_true rfl]
              simp
            · rw [upY_ni y, decide_eq_false y]
              have := (h.k8 k hk).2
              simp only [Bool.not_false, Bool.and_true]
              exact this
          have g1 : GB Λ c (upI σ 305 (c 0) (iAnd ((σ.1 305 (c 0))) (iXor (iShl 1 i) (-1)))) := g.upH (f := 305) (by omega) ⟨fun _ => lo8_and _ g.n8, by omega, by omega⟩
          refine u_M_preclean_34 hx hL ⟨⟨by omega, by omega⟩, fun _ => ⟨by omega, by omega, c_M_regrey w1 ⟨by omega, by omega⟩ (fun q' b1 b2 b3 b4 => ?_)⟩, fun q => absurd q (by omega)⟩
          refine hp q' (w1.mg b1 (fun kd q k _ k2 => b2 kd q k k2) b4 (fun k hk => ⟨by rw [b2 _ _ _ (by decide)]; exact (w1.bm k hk).1, by rw [b3 k hk]; split; exact Or.inr rfl; exact Or.inl rfl⟩)) ?_
          exact h1.regrey w1 g1 (by omega) (fun k hk => by rw [cb_shl1 i (by omega) k (by omega)]; exact decide_eq_true_iff) b1 b2 b3
        · by_cases y : j = i
          · rw [y]
            have q : (ρ.2.1 54 (r 54) i) = 0 := q
            have := k8.mp q
            cases hd : decide (iAnd ((σ.1 305 (c 0))) (iShl 1 (i : Nat)) ≠ 0) with
            | false => rfl
            | true => rw [bi.mp hd] at this; cases this
          · exact hb j (by omega)
    exact loop 8 0 rfl (fun j hj => by omega)
  · rw [if_neg (show ¬ (σ.1 306 (c 0)) = 1 by omega)] at hp
    exact hp ρ w h
end RLI
