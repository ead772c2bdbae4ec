/-! Greying again by a card, in the reference. -/
section RLG
variable {l : Launch} {D : va_G} {Λ ΛR : Lam} {c r : Nat → Nat} {th : Nat → Option Nat} {σ ρ : Mem}
theorem c_M_regrey {cd : Int} {P : Mem → Prop} (w : RW ΛR r ρ) (hc : 0 ≤ cd ∧ cd < 8) (hp : ∀ ρ' : Mem, ρ'.1 = ρ.1 → (∀ kd q k, kd ≠ 52 → ρ'.2.1 kd q k = ρ.2.1 kd q k) → (∀ m : Nat, m < 90 → (ρ'.2.1 52 (r 52) m) = if (ρ.2.1 52 (r 52) m) ≠ 0 ∨ ((ρ.2.1 51 (r 51) m) ≠ 0 ∧ mLies r ρ m cd ≠ 0) then 1 else 0) → (∀ kd q k, rng (ρ'.2.1 kd q k)) → P ρ') : K_M_regrey l D ΛR ρ r cd P := by
  refine e_M_regrey (fun x hl hD hx => ?_)
  subst hl; subst hD
  have hL := w.ly
  refine u_M_regrey_0 hx hL ?_
  have loop : ∀ n i : Nat, i + n = 90 → ∀ q3 : Mem, q3.1 = ρ.1 → (∀ kd q k, kd ≠ 52 → q3.2.1 kd q k = ρ.2.1 kd q k) → RW ΛR r q3 → (∀ m : Nat, m < i → (q3.2.1 52 (r 52) m) = if (ρ.2.1 52 (r 52) m) ≠ 0 ∨ ((ρ.2.1 51 (r 51) m) ≠ 0 ∧ mLies r ρ m cd ≠ 0) then 1 else 0) → (∀ m : Nat, i ≤ m → (q3.2.1 52 (r 52) m) = (ρ.2.1 52 (r 52) m)) → N_M_regrey_2 x P ΛR q3 r cd i := by
    intro n
    induction n with
    | zero =>
      intro i hi q3 a1 a2 a3 a4 a5
      exact u_M_regrey_2 hx hL ⟨⟨by omega, by omega⟩, fun _ => hp q3 a1 a2 (fun m hm => a4 m (by omega)) a3.ry, fun z => absurd z (by omega)⟩
    | succ n ih =>
      intro i hi q3 a1 a2 a3 a4 a5
      have e5 := a5 i (Nat.le_refl _)
      have em : (q3.2.1 51 (r 51) i) = (ρ.2.1 51 (r 51) i) := a2 _ _ _ (by decide)
      have el : mLies r q3 i cd = mLies r ρ i cd := by
        unfold mLies
        rw [a2 1 _ _ (by decide), a2 6 _ _ (by decide), a2 3 _ _ (by decide)]
      have go : ∀ v : Int, (v = 0 ∨ v = 1) → v = (if (ρ.2.1 52 (r 52) i) ≠ 0 ∨ ((ρ.2.1 51 (r 51) i) ≠ 0 ∧ mLies r ρ i cd ≠ 0) then 1 else 0) → N_M_regrey_2 x P ΛR (upY q3 52 (r 52) i v) r cd (i + 1 : Nat) := by
        intro v hv e
        refine ih (i + 1) (by omega) _ a1 (fun kd q k hk => ?_) (a3.grey1 hv) (fun m hm => ?_) (fun m hm => ?_)
        · rw [upY_nk hk]; exact a2 kd q k hk
        · by_cases y : m = i
          · rw [y, upY_at]; exact e
          · rw [upY_ni y]; exact a4 m (by omega)
        · rw [upY_ni (by omega)]; exact a5 m (by omega)
      refine u_M_regrey_2 hx hL ⟨⟨by omega, by omega⟩, fun z => absurd z (by omega), fun _ => ⟨by omega, by omega, a3.ry _ _ _, fun z => ⟨by omega, by omega, go 1 (Or.inr rfl) ?_⟩, fun z => ⟨by omega, by omega, a3.ry _ _ _, fun z2 => ⟨by omega, by omega, go 0 (Or.inl rfl) ?_⟩, fun z2 => c_M_lies a3 (by omega) ⟨by omega, by omega⟩ ⟨by unfold mLies; split <;> exact ⟨by omega, by omega⟩, fun z3 => ⟨by omega, by omega, go 0 (Or.inl rfl) ?_⟩, fun z3 => ⟨by omega, by omega, go 1 (Or.inr rfl) ?_⟩⟩⟩⟩⟩
      · have z : ¬ (q3.2.1 52 (r 52) i) = 0 := z
        rw [if_pos (Or.inl (by rw [← e5]; exact z))]
      · have z : (q3.2.1 52 (r 52) i) = 0 := z
        have z2 : (q3.2.1 51 (r 51) i) = 0 := z2
        rw [if_neg (fun q => q.elim (fun q => q (by rw [← e5]; exact z)) (fun q => q.1 (by rw [← em]; exact z2)))]
      · have z : (q3.2.1 52 (r 52) i) = 0 := z
        rw [el] at z3
        rw [if_neg (fun q => q.elim (fun q => q (by rw [← e5]; exact z)) (fun q => q.2 z3))]
      · have z2 : ¬ (q3.2.1 51 (r 51) i) = 0 := z2
        rw [el] at z3
        rw [if_pos (Or.inr ⟨by rw [← em]; exact z2, z3⟩)]
  exact loop 90 0 rfl ρ rfl (fun _ _ _ _ => rfl) w (fun m hm => by omega) (fun _ _ => rfl)
end RLG
