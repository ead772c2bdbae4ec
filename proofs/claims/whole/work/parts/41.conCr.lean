/-! Contracts of create and of the class's constructor; the invariants at the start. -/
def crt1 (Λ : Lam) (c : Nat → Nat) (z : Int) (σ : Mem) : Mem := if fTaken Λ (c 2) (c 3) σ + z ≤ 20 then σ else (fYoung Λ c σ).2
def crt2 (Λ : Lam) (c : Nat → Nat) (z : Int) (σ : Mem) : Mem := if fTaken Λ (c 2) (c 3) (crt1 Λ c z σ) + z ≤ 20 then crt1 Λ c z σ else (fAll Λ c (crt1 Λ c z σ)).2
section CRT
variable {l : Launch} {D : va_G} {Λ : Lam} {c : Nat → Nat} {σ : Mem}
theorem crt1_wf {z : Int} (w : WF Λ c σ) : WF Λ c (crt1 Λ c z σ) := by
  unfold crt1
  by_cases x : fTaken Λ (c 2) (c 3) σ + z ≤ 20
  · rw [if_pos x]; exact w
  · rw [if_neg x]; exact w.young
theorem crt2_wf {z : Int} (w : WF Λ c σ) : WF Λ c (crt2 Λ c z σ) := by
  unfold crt2
  by_cases x : fTaken Λ (c 2) (c 3) (crt1 Λ c z σ) + z ≤ 20
  · rw [if_pos x]; exact crt1_wf w
  · rw [if_neg x]; exact (crt1_wf w).all
theorem GD.crtA {z : Int} (h : GD Λ c σ) : GD Λ c (crt1 Λ c z σ) := by
  unfold crt1
  by_cases x : fTaken Λ (c 2) (c 3) σ + z ≤ 20
  · rw [if_pos x]; exact h
  · rw [if_neg x]; exact h.young
theorem GD.crtB {z : Int} (h : GD Λ c σ) : GD Λ c (crt2 Λ c z σ) := by
  unfold crt2
  by_cases x : fTaken Λ (c 2) (c 3) (crt1 Λ c z σ) + z ≤ 20
  · rw [if_pos x]; exact h.crtA
  · rw [if_neg x]; exact h.crtA.all
theorem c_H_create {a1 a2 a3 : Int} {P : PostT} (w : WF Λ c σ) (fj : FJ Λ) (r1 : rng a1) (r2 : rng a2) (r3 : rng a3)
    (p1 : ¬ (0 ≤ a1 ∧ a1 < 6) → P (some (.int (iI (-2)))) Λ σ)
    (p2 : 0 ≤ a1 ∧ a1 < 6 → ¬ (0 ≤ a2 ∧ a2 ≤ 3) → P (some (.int (iI (-4)))) Λ σ)
    (p3 : 0 ≤ a1 ∧ a1 < 6 → 0 ≤ a2 ∧ a2 ≤ 3 → ¬ fTaken Λ (c 2) (c 3) (crt2 Λ c (1 + a2) σ) + (1 + a2) ≤ 20 → P (some (.int (iI (-5)))) Λ (crt2 Λ c (1 + a2) σ))
    (p4 : 0 ≤ a1 ∧ a1 < 6 → 0 ≤ a2 ∧ a2 ≤ 3 → fTaken Λ (c 2) (c 3) (crt2 Λ c (1 + a2) σ) + (1 + a2) ≤ 20 → ∀ q1 q2 cA, Λ q1 = none → Λ q2 = none → q2 ≠ q1 → P (some (.int (iI 0))) (grow Λ q1 q2 a2.toNat cA) (gNew c a1.toNat q1 q2 a3 (crt2 Λ c (1 + a2) σ))) : K_H_create l D Λ σ c a1 a2 a3 P := by
  refine e_H_create (fun x hl hD hx => ?_)
  subst hl; subst hD
  have hL := w.ly
  refine u_H_create_0 hx hL (c_H_isRoot r1 ⟨by split <;> exact ⟨by omega, by omega⟩, fun h => ?_, fun h => ?_⟩)
  · have hr : 0 ≤ a1 ∧ a1 < 6 := by
      by_cases y : 0 ≤ a1 ∧ a1 < 6
      · exact y
      · rw [if_neg y] at h; exact absurd rfl h
    refine ⟨r2, fun h1 => p2 hr (by omega), fun h1 => ⟨fun h2 => ?_, fun h2 => p2 hr (by omega)⟩⟩
    have hn : 0 ≤ a2 ∧ a2 ≤ 3 := ⟨by omega, h2⟩
    have P3 := p3 hr hn
    have P4 := p4 hr hn
    have w2 := crt2_wf (z := 1 + a2) w
    have n67 : ∀ s, s = crt2 Λ c (1 + a2) σ → fTaken Λ (c 2) (c 3) s + (1 + a2) ≤ 20 → N_H_create_67 x P Λ s c a1 a2 a3 := by
      intro s hs hroom
      rw [← hs] at P4 w2
      refine u_H_create_67 hx hL (fun q1 h1 => w_T_init upL_at ⟨hn, fun q2 cA h2 => ?_⟩)
      have e2 : q2 ≠ q1 := by
        intro e
        rw [e, upL_at] at h2
        cases h2
      have h2' : Λ q2 = none := by
        rw [upL_nn e2] at h2
        exact h2
      have T := P4 hroom q1 q2 cA h1 h2' e2
      have wb := birth_wf (n := a2.toNat) (cA := cA) w2 fj h1 h2' e2 r3
      have m1 := (grow_new (Λ := Λ) (n := a2.toNat) (cA := cA) e2 (by omega)).1
      exact ⟨rfl, wb.ly, m1, c_R_add wb.rowY (by omega) wb.rg wb.y0 (fun t e => by cases e; exact m1) ⟨hr.1, hr.2, T⟩⟩
    have n55 : ∀ s, s = crt2 Λ c (1 + a2) σ → N_H_create_55 x P Λ s c a1 a2 a3 (1 + a2) := by
      intro s hs
      have ws : WF Λ c s := by rw [hs]; exact w2
      refine u_H_create_55 hx hL (c_H_hasRoom ws ⟨by omega, by omega⟩ ⟨by split <;> exact ⟨by omega, by omega⟩, fun h => n67 s hs ?_, fun h => ?_⟩)
      · by_cases y : fTaken Λ (c 2) (c 3) s + (1 + a2) ≤ 20
        · exact y
        · rw [if_neg y] at h; exact absurd rfl h
      · rw [hs] at h ⊢
        refine P3 (fun y => ?_)
        rw [if_pos y] at h
        omega
    have n41 : ∀ s, s = crt1 Λ c (1 + a2) σ → N_H_create_41 x P Λ s c a1 a2 a3 (1 + a2) := by
      intro s hs
      have ws : WF Λ c s := by rw [hs]; exact crt1_wf w
      have e2 : crt2 Λ c (1 + a2) σ = if fTaken Λ (c 2) (c 3) s + (1 + a2) ≤ 20 then s else (fAll Λ c s).2 := by rw [hs]; rfl
      refine u_H_create_41 hx hL (c_H_hasRoom ws ⟨by omega, by omega⟩ ⟨by split <;> exact ⟨by omega, by omega⟩, fun h => n55 s ?_, fun h => c_H_collectAll ws (n55 _ ?_)⟩)
      · by_cases y : fTaken Λ (c 2) (c 3) s + (1 + a2) ≤ 20
        · rw [e2, if_pos y]
        · rw [if_neg y] at h; exact absurd rfl h
      · by_cases y : fTaken Λ (c 2) (c 3) s + (1 + a2) ≤ 20
        · rw [if_pos y] at h; omega
        · rw [e2, if_neg y]
    refine c_H_hasRoom w ⟨by omega, by omega⟩ ⟨by split <;> exact ⟨by omega, by omega⟩, fun h => n41 σ ?_, fun h => c_H_collectYoung w (n41 _ ?_)⟩
    · by_cases y : fTaken Λ (c 2) (c 3) σ + (1 + a2) ≤ 20
      · unfold crt1; rw [if_pos y]
      · rw [if_neg y] at h; exact absurd rfl h
    · by_cases y : fTaken Λ (c 2) (c 3) σ + (1 + a2) ≤ 20
      · rw [if_pos y] at h; omega
      · unfold crt1; rw [if_neg y]
  · refine p1 (fun y => ?_)
    rw [if_pos y] at h
    omega
end CRT
