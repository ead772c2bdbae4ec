/-! The class's constructor, and the invariants at the start. -/
def NT (Λ : Lam) : Prop := ∀ t tm, Λ t ≠ some (.inr (2, tm))
def Z0 (σ : Mem) : Prop := (∀ f q, σ.1 f q = 0) ∧ ∀ kd q k, σ.2.2 kd q k = none
def cOf (h q1 q2 q3 q4 q5 q6 q7 : Nat) : Nat → Nat
  | 0 => h
  | 1 => q1
  | 2 => q2
  | 3 => q3
  | 4 => q4
  | 5 => q5
  | 6 => q6
  | _ => q7
section STT
variable {l : Launch} {D : va_G} {Λ : Lam} {c : Nat → Nat} {σ : Mem}
theorem NT.up (h : NT Λ) {q : Nat} {y : Lay} (hy : ∀ tm, y ≠ .inr (2, tm)) : NT (upL Λ q y) := by
  intro t tm e
  by_cases x : t = q
  · rw [x, upL_at] at e
    exact hy tm (Option.some.inj e)
  · rw [upL_nn x] at e
    exact h t tm e
theorem up_keep {q a : Nat} {y y' y0 : Lay} (h : Λ a = some y) (hq : Λ q = some y0) (hne : y ≠ y0) : upL Λ q y' a = some y := by
  rw [upL_nn (fun e => hne (by rw [e, hq] at h; exact (Option.some.inj h).symm))]
  exact h
theorem Z0.zap (h : Z0 σ) (q : Nat) : Z0 (zap σ q) := by
  refine ⟨fun f p => ?_, fun kd p k => ?_⟩
  · show (if p = q then 0 else σ.1 f p) = 0
    rw [h.1, ite_self]
  · show (if p = q then none else σ.2.2 kd p k) = none
    rw [h.2, ite_self]
theorem Z0.up (h : Z0 σ) (f q : Nat) : Z0 (upI σ f q 0) := by
  refine ⟨fun f' p => ?_, h.2⟩
  rw [upI_1, h.1, ite_self]
theorem GD.zero (ly : LayC Λ c) (nt : NT Λ) (z : Z0 σ) : GD Λ c σ := by
  have no : ∀ t, ¬ isT Λ t := fun t ht => nt t _ ht.1
  obtain ⟨z1, z2⟩ := z
  have w : WF Λ c σ := by
    refine ⟨ly, fun kd q k t e => ?_, fun f q => ?_, fun t ht => absurd ht (no t), fun t ht => absurd ht (no t), ?_, ?_, ?_, ?_, fun i hi => ?_, fun i hi => ?_⟩
    · rw [z2] at e; cases e
    · rw [z1]; exact rng_0
    · rw [z1]; omega
    · rw [z1]; omega
    · rw [z1]; omega
    · rw [z1]; omega
    · rw [z1] at hi; omega
    · rw [z1] at hi; omega
  have nr : ∀ t, ¬ Reach Λ c σ t := fun t hr => no t (hr.thing w.ty)
  have gb : GB Λ c σ := by
    refine ⟨w, fun t ht => absurd ht (no t), fun a t _ => ⟨fun e => ?_, fun e => absurd e.1 (no t)⟩, fun t ht => absurd ht (no t), fun t ht => absurd ht (no t), fun t ht => absurd ht (no t), ?_, ?_, ?_, ?_⟩
    · rw [z2] at e; cases e
    · rw [z1]; exact lo8_0
    · rw [z1]; exact lo8_0
    · rw [z1]; exact Or.inl rfl
    · rw [z1]; omega
  refine ⟨gb, z1 _ _, fun t ht => absurd ht (no t), ⟨fun t ht => absurd ht (no t), fun i j hi => ?_⟩, ?_, fun t k u ht => absurd ht (no t), fun _ t ht => absurd ht (no t), fun _ t k u ht => absurd ht (no t), fun _ => ⟨fun t ht => absurd ht (no t), fun t hr => absurd hr (nr t)⟩, fun t hr => absurd hr (nr t)⟩
  · rw [z1] at hi; omega
  · unfold fTaken
    rw [z1]
    show (0 : Int) ≤ 20
    omega
theorem c_H_init {h : Nat} {P : PostT} (hThis : Λ h = some (.inr (3, [some none, some none, some none, some none, none, none, none, none]))) (nt : NT Λ) (z : Z0 σ) (hp : ∀ c Λ' σ', c 0 = h → GD Λ' c σ' → FI Λ' → FJ Λ' → NT Λ' → Z0 σ' → P none Λ' σ') : K_H_init l D Λ σ h P := by
  refine w_H_init hThis (fun q1 cA1 h1 q2 h2 => w_R_init upL_at ⟨⟨by omega, by omega⟩, fun q3 cA3 h3 => ?_⟩)
  have f1h := upL_ne (y' := .inl (cA1, 6, 100)) hThis h1
  have f1q1 : (upL Λ q1 (.inl (cA1, 6, 100))) q1 = some (.inl (cA1, 6, 100)) := upL_at
  have t1 : NT (upL Λ q1 (.inl (cA1, 6, 100))) := nt.up (fun tm e => by cases e)
  have f2q1 := up_keep (y' := .inr (3, [some (some q1), some none, some none, some none, none, none, none, none])) f1q1 f1h (fun e => by cases e)
  have f2h : (upL (upL Λ q1 (.inl (cA1, 6, 100))) h (.inr (3, [some (some q1), some none, some none, some none, none, none, none, none]))) h = some (.inr (3, [some (some q1), some none, some none, some none, none, none, none, none])) := upL_at
  have t2 : NT (upL (upL Λ q1 (.inl (cA1, 6, 100))) h (.inr (3, [some (some q1), some none, some none, some none, none, none, none, none]))) := t1.up (fun tm e => by cases e)
  have f3q1 := upL_ne (y' := .inr (1, [some none, none])) f2q1 h2
  have f3h := upL_ne (y' := .inr (1, [some none, none])) f2h h2
  have f3q2 : (upL (upL (upL Λ q1 (.inl (cA1, 6, 100))) h (.inr (3, [some (some q1), some none, some none, some none, none, none, none, none]))) q2 (.inr (1, [some none, none]))) q2 = some (.inr (1, [some none, none])) := upL_at
  have t3 : NT (upL (upL (upL Λ q1 (.inl (cA1, 6, 100))) h (.inr (3, [some (some q1), some none, some none, some none, none, none, none, none]))) q2 (.inr (1, [some none, none]))) := t2.up (fun tm e => by cases e)
  have f4q1 := upL_ne (y' := .inl (cA3, 20, 101)) f3q1 h3
  have f4h := upL_ne (y' := .inl (cA3, 20, 101)) f3h h3
  have f4q2 := upL_ne (y' := .inl (cA3, 20, 101)) f3q2 h3
  have f4q3 : (upL (upL (upL (upL Λ q1 (.inl (cA1, 6, 100))) h (.inr (3, [some (some q1), some none, some none, some none, none, none, none, none]))) q2 (.inr (1, [some none, none]))) q3 (.inl (cA3, 20, 101))) q3 = some (.inl (cA3, 20, 101)) := upL_at
  have t4 : NT (upL (upL (upL (upL Λ q1 (.inl (cA1, 6, 100))) h (.inr (3, [some (some q1), some none, some none, some none, none, none, none, none]))) q2 (.inr (1, [some none, none]))) q3 (.inl (cA3, 20, 101))) := t3.up (fun tm e => by cases e)
  have f5q1 := up_keep (y' := .inr (1, [some (some q3), none])) f4q1 f4q2 (fun e => by cases e)
  have f5h := up_keep (y' := .inr (1, [some (some q3), none])) f4h f4q2 (fun e => by cases e)
  have f5q3 := up_keep (y' := .inr (1, [some (some q3), none])) f4q3 f4q2 (fun e => by cases e)
  have f5q2 : (upL (upL (upL (upL (upL Λ q1 (.inl (cA1, 6, 100))) h (.inr (3, [some (some q1), some none, some none, some none, none, none, none, none]))) q2 (.inr (1, [some none, none]))) q3 (.inl (cA3, 20, 101))) q2 (.inr (1, [some (some q3), none]))) q2 = some (.inr (1, [some (some q3), none])) := upL_at
  have t5 : NT (upL (upL (upL (upL (upL Λ q1 (.inl (cA1, 6, 100))) h (.inr (3, [some (some q1), some none, some none, some none, none, none, none, none]))) q2 (.inr (1, [some none, none]))) q3 (.inl (cA3, 20, 101))) q2 (.inr (1, [some (some q3), none]))) := t4.up (fun tm e => by cases e)
  refine ⟨rfl, f5h, fun q4 h4 => w_O_init upL_at (fun q5 cA5 h5 => ?_)⟩
  have f6q1 := up_keep (y' := .inr (3, [some (some q1), some (some q2), some none, some none, none, none, none, none])) f5q1 f5h (fun e => by cases e)
  have f6q3 := up_keep (y' := .inr (3, [some (some q1), some (some q2), some none, some none, none, none, none, none])) f5q3 f5h (fun e => by cases e)
  have f6q2 := up_keep (y' := .inr (3, [some (some q1), some (some q2), some none, some none, none, none, none, none])) f5q2 f5h (fun e => by cases e)
  have f6h : (upL (upL (upL (upL (upL (upL Λ q1 (.inl (cA1, 6, 100))) h (.inr (3, [some (some q1), some none, some none, some none, none, none, none, none]))) q2 (.inr (1, [some none, none]))) q3 (.inl (cA3, 20, 101))) q2 (.inr (1, [some (some q3), none]))) h (.inr (3, [some (some q1), some (some q2), some none, some none, none, none, none, none]))) h = some (.inr (3, [some (some q1), some (some q2), some none, some none, none, none, none, none])) := upL_at
  have t6 : NT (upL (upL (upL (upL (upL (upL Λ q1 (.inl (cA1, 6, 100))) h (.inr (3, [some (some q1), some none, some none, some none, none, none, none, none]))) q2 (.inr (1, [some none, none]))) q3 (.inl (cA3, 20, 101))) q2 (.inr (1, [some (some q3), none]))) h (.inr (3, [some (some q1), some (some q2), some none, some none, none, none, none, none]))) := t5.up (fun tm e => by cases e)
  have f7q1 := upL_ne (y' := .inr (0, [some none])) f6q1 h4
  have f7q3 := upL_ne (y' := .inr (0, [some none])) f6q3 h4
  have f7q2 := upL_ne (y' := .inr (0, [some none])) f6q2 h4
  have f7h := upL_ne (y' := .inr (0, [some none])) f6h h4
  have f7q4 : (upL (upL (upL (upL (upL (upL (upL Λ q1 (.inl (cA1, 6, 100))) h (.inr (3, [some (some q1), some none, some none, some none, none, none, none, none]))) q2 (.inr (1, [some none, none]))) q3 (.inl (cA3, 20, 101))) q2 (.inr (1, [some (some q3), none]))) h (.inr (3, [some (some q1), some (some q2), some none, some none, none, none, none, none]))) q4 (.inr (0, [some none]))) q4 = some (.inr (0, [some none])) := upL_at
  have t7 : NT (upL (upL (upL (upL (upL (upL (upL Λ q1 (.inl (cA1, 6, 100))) h (.inr (3, [some (some q1), some none, some none, some none, none, none, none, none]))) q2 (.inr (1, [some none, none]))) q3 (.inl (cA3, 20, 101))) q2 (.inr (1, [some (some q3), none]))) h (.inr (3, [some (some q1), some (some q2), some none, some none, none, none, none, none]))) q4 (.inr (0, [some none]))) := t6.up (fun tm e => by cases e)
  have f8q1 := upL_ne (y' := .inl (cA5, 64, 102)) f7q1 h5
  have f8q3 := upL_ne (y' := .inl (cA5, 64, 102)) f7q3 h5
  have f8q2 := upL_ne (y' := .inl (cA5, 64, 102)) f7q2 h5
  have f8h := upL_ne (y' := .inl (cA5, 64, 102)) f7h h5
  have f8q4 := upL_ne (y' := .inl (cA5, 64, 102)) f7q4 h5
  have f8q5 : (upL (upL (upL (upL (upL (upL (upL (upL Λ q1 (.inl (cA1, 6, 100))) h (.inr (3, [some (some q1), some none, some none, some none, none, none, none, none]))) q2 (.inr (1, [some none, none]))) q3 (.inl (cA3, 20, 101))) q2 (.inr (1, [some (some q3), none]))) h (.inr (3, [some (some q1), some (some q2), some none, some none, none, none, none, none]))) q4 (.inr (0, [some none]))) q5 (.inl (cA5, 64, 102))) q5 = some (.inl (cA5, 64, 102)) := upL_at
  have t8 : NT (upL (upL (upL (upL (upL (upL (upL (upL Λ q1 (.inl (cA1, 6, 100))) h (.inr (3, [some (some q1), some none, some none, some none, none, none, none, none]))) q2 (.inr (1, [some none, none]))) q3 (.inl (cA3, 20, 101))) q2 (.inr (1, [some (some q3), none]))) h (.inr (3, [some (some q1), some (some q2), some none, some none, none, none, none, none]))) q4 (.inr (0, [some none]))) q5 (.inl (cA5, 64, 102))) := t7.up (fun tm e => by cases e)
  have f9q1 := up_keep (y' := .inr (0, [some (some q5)])) f8q1 f8q4 (fun e => by cases e)
  have f9q3 := up_keep (y' := .inr (0, [some (some q5)])) f8q3 f8q4 (fun e => by cases e)
  have f9q2 := up_keep (y' := .inr (0, [some (some q5)])) f8q2 f8q4 (fun e => by cases e)
  have f9h := up_keep (y' := .inr (0, [some (some q5)])) f8h f8q4 (fun e => by cases e)
  have f9q5 := up_keep (y' := .inr (0, [some (some q5)])) f8q5 f8q4 (fun e => by cases e)
  have f9q4 : (upL (upL (upL (upL (upL (upL (upL (upL (upL Λ q1 (.inl (cA1, 6, 100))) h (.inr (3, [some (some q1), some none, some none, some none, none, none, none, none]))) q2 (.inr (1, [some none, none]))) q3 (.inl (cA3, 20, 101))) q2 (.inr (1, [some (some q3), none]))) h (.inr (3, [some (some q1), some (some q2), some none, some none, none, none, none, none]))) q4 (.inr (0, [some none]))) q5 (.inl (cA5, 64, 102))) q4 (.inr (0, [some (some q5)]))) q4 = some (.inr (0, [some (some q5)])) := upL_at
  have t9 : NT (upL (upL (upL (upL (upL (upL (upL (upL (upL Λ q1 (.inl (cA1, 6, 100))) h (.inr (3, [some (some q1), some none, some none, some none, none, none, none, none]))) q2 (.inr (1, [some none, none]))) q3 (.inl (cA3, 20, 101))) q2 (.inr (1, [some (some q3), none]))) h (.inr (3, [some (some q1), some (some q2), some none, some none, none, none, none, none]))) q4 (.inr (0, [some none]))) q5 (.inl (cA5, 64, 102))) q4 (.inr (0, [some (some q5)]))) := t8.up (fun tm e => by cases e)
  refine ⟨rfl, f9h, fun q6 h6 => w_R_init upL_at ⟨⟨by omega, by omega⟩, fun q7 cA7 h7 => ?_⟩⟩
  have f10q1 := up_keep (y' := .inr (3, [some (some q1), some (some q2), some (some q4), some none, none, none, none, none])) f9q1 f9h (fun e => by cases e)
  have f10q3 := up_keep (y' := .inr (3, [some (some q1), some (some q2), some (some q4), some none, none, none, none, none])) f9q3 f9h (fun e => by cases e)
  have f10q2 := up_keep (y' := .inr (3, [some (some q1), some (some q2), some (some q4), some none, none, none, none, none])) f9q2 f9h (fun e => by cases e)
  have f10q5 := up_keep (y' := .inr (3, [some (some q1), some (some q2), some (some q4), some none, none, none, none, none])) f9q5 f9h (fun e => by cases e)
  have f10q4 := up_keep (y' := .inr (3, [some (some q1), some (some q2), some (some q4), some none, none, none, none, none])) f9q4 f9h (fun e => by cases e)
  have f10h : (upL (upL (upL (upL (upL (upL (upL (upL (upL (upL Λ q1 (.inl (cA1, 6, 100))) h (.inr (3, [some (some q1), some none, some none, some none, none, none, none, none]))) q2 (.inr (1, [some none, none]))) q3 (.inl (cA3, 20, 101))) q2 (.inr (1, [some (some q3), none]))) h (.inr (3, [some (some q1), some (some q2), some none, some none, none, none, none, none]))) q4 (.inr (0, [some none]))) q5 (.inl (cA5, 64, 102))) q4 (.inr (0, [some (some q5)]))) h (.inr (3, [some (some q1), some (some q2), some (some q4), some none, none, none, none, none]))) h = some (.inr (3, [some (some q1), some (some q2), some (some q4), some none, none, none, none, none])) := upL_at
  have t10 : NT (upL (upL (upL (upL (upL (upL (upL (upL (upL (upL Λ q1 (.inl (cA1, 6, 100))) h (.inr (3, [some (some q1), some none, some none, some none, none, none, none, none]))) q2 (.inr (1, [some none, none]))) q3 (.inl (cA3, 20, 101))) q2 (.inr (1, [some (some q3), none]))) h (.inr (3, [some (some q1), some (some q2), some none, some none, none, none, none, none]))) q4 (.inr (0, [some none]))) q5 (.inl (cA5, 64, 102))) q4 (.inr (0, [some (some q5)]))) h (.inr (3, [some (some q1), some (some q2), some (some q4), some none, none, none, none, none]))) := t9.up (fun tm e => by cases e)
  have f11q1 := upL_ne (y' := .inr (1, [some none, none])) f10q1 h6
  have f11q3 := upL_ne (y' := .inr (1, [some none, none])) f10q3 h6
  have f11q2 := upL_ne (y' := .inr (1, [some none, none])) f10q2 h6
  have f11q5 := upL_ne (y' := .inr (1, [some none, none])) f10q5 h6
  have f11q4 := upL_ne (y' := .inr (1, [some none, none])) f10q4 h6
  have f11h := upL_ne (y' := .inr (1, [some none, none])) f10h h6
  have f11q6 : (upL (upL (upL (upL (upL (upL (upL (upL (upL (upL (upL Λ q1 (.inl (cA1, 6, 100))) h (.inr (3, [some (some q1), some none, some none, some none, none, none, none, none]))) q2 (.inr (1, [some none, none]))) q3 (.inl (cA3, 20, 101))) q2 (.inr (1, [some (some q3), none]))) h (.inr (3, [some (some q1), some (some q2), some none, some none, none, none, none, none]))) q4 (.inr (0, [some none]))) q5 (.inl (cA5, 64, 102))) q4 (.inr (0, [some (some q5)]))) h (.inr (3, [some (some q1), some (some q2), some (some q4), some none, none, none, none, none]))) q6 (.inr (1, [some none, none]))) q6 = some (.inr (1, [some none, none])) := upL_at
  have t11 : NT (upL (upL (upL (upL (upL (upL (upL (upL (upL (upL (upL Λ q1 (.inl (cA1, 6, 100))) h (.inr (3, [some (some q1), some none, some none, some none, none, none, none, none]))) q2 (.inr (1, [some none, none]))) q3 (.inl (cA3, 20, 101))) q2 (.inr (1, [some (some q3), none]))) h (.inr (3, [some (some q1), some (some q2), some none, some none, none, none, none, none]))) q4 (.inr (0, [some none]))) q5 (.inl (cA5, 64, 102))) q4 (.inr (0, [some (some q5)]))) h (.inr (3, [some (some q1), some (some q2), some (some q4), some none, none, none, none, none]))) q6 (.inr (1, [some none, none]))) := t10.up (fun tm e => by cases e)
  have f12q1 := upL_ne (y' := .inl (cA7, 84, 101)) f11q1 h7
  have f12q3 := upL_ne (y' := .inl (cA7, 84, 101)) f11q3 h7
  have f12q2 := upL_ne (y' := .inl (cA7, 84, 101)) f11q2 h7
  have f12q5 := upL_ne (y' := .inl (cA7, 84, 101)) f11q5 h7
  have f12q4 := upL_ne (y' := .inl (cA7, 84, 101)) f11q4 h7
  have f12h := upL_ne (y' := .inl (cA7, 84, 101)) f11h h7
  have f12q6 := upL_ne (y' := .inl (cA7, 84, 101)) f11q6 h7
  have f12q7 : (upL (upL (upL (upL (upL (upL (upL (upL (upL (upL (upL (upL Λ q1 (.inl (cA1, 6, 100))) h (.inr (3, [some (some q1), some none, some none, some none, none, none, none, none]))) q2 (.inr (1, [some none, none]))) q3 (.inl (cA3, 20, 101))) q2 (.inr (1, [some (some q3), none]))) h (.inr (3, [some (some q1), some (some q2), some none, some none, none, none, none, none]))) q4 (.inr (0, [some none]))) q5 (.inl (cA5, 64, 102))) q4 (.inr (0, [some (some q5)]))) h (.inr (3, [some (some q1), some (some q2), some (some q4), some none, none, none, none, none]))) q6 (.inr (1, [some none, none]))) q7 (.inl (cA7, 84, 101))) q7 = some (.inl (cA7, 84, 101)) := upL_at
  have t12 : NT (upL (upL (upL (upL (upL (upL (upL (upL (upL (upL (upL (upL Λ q1 (.inl (cA1, 6, 100))) h (.inr (3, [some (some q1), some none, some none, some none, none, none, none, none]))) q2 (.inr (1, [some none, none]))) q3 (.inl (cA3, 20, 101))) q2 (.inr (1, [some (some q3), none]))) h (.inr (3, [some (some q1), some (some q2), some none, some none, none, none, none, none]))) q4 (.inr (0, [some none]))) q5 (.inl (cA5, 64, 102))) q4 (.inr (0, [some (some q5)]))) h (.inr (3, [some (some q1), some (some q2), some (some q4), some none, none, none, none, none]))) q6 (.inr (1, [some none, none]))) q7 (.inl (cA7, 84, 101))) := t11.up (fun tm e => by cases e)
  have f13q1 := up_keep (y' := .inr (1, [some (some q7), none])) f12q1 f12q6 (fun e => by cases e)
  have f13q3 := up_keep (y' := .inr (1, [some (some q7), none])) f12q3 f12q6 (fun e => by cases e)
  have f13q2 := up_keep (y' := .inr (1, [some (some q7), none])) f12q2 f12q6 (fun e => by cases e)
  have f13q5 := up_keep (y' := .inr (1, [some (some q7), none])) f12q5 f12q6 (fun e => by cases e)
  have f13q4 := up_keep (y' := .inr (1, [some (some q7), none])) f12q4 f12q6 (fun e => by cases e)
  have f13h := up_keep (y' := .inr (1, [some (some q7), none])) f12h f12q6 (fun e => by cases e)
  have f13q7 := up_keep (y' := .inr (1, [some (some q7), none])) f12q7 f12q6 (fun e => by cases e)
  have f13q6 : (upL (upL (upL (upL (upL (upL (upL (upL (upL (upL (upL (upL (upL Λ q1 (.inl (cA1, 6, 100))) h (.inr (3, [some (some q1), some none, some none, some none, none, none, none, none]))) q2 (.inr (1, [some none, none]))) q3 (.inl (cA3, 20, 101))) q2 (.inr (1, [some (some q3), none]))) h (.inr (3, [some (some q1), some (some q2), some none, some none, none, none, none, none]))) q4 (.inr (0, [some none]))) q5 (.inl (cA5, 64, 102))) q4 (.inr (0, [some (some q5)]))) h (.inr (3, [some (some q1), some (some q2), some (some q4), some none, none, none, none, none]))) q6 (.inr (1, [some none, none]))) q7 (.inl (cA7, 84, 101))) q6 (.inr (1, [some (some q7), none]))) q6 = some (.inr (1, [some (some q7), none])) := upL_at
  have t13 : NT (upL (upL (upL (upL (upL (upL (upL (upL (upL (upL (upL (upL (upL Λ q1 (.inl (cA1, 6, 100))) h (.inr (3, [some (some q1), some none, some none, some none, none, none, none, none]))) q2 (.inr (1, [some none, none]))) q3 (.inl (cA3, 20, 101))) q2 (.inr (1, [some (some q3), none]))) h (.inr (3, [some (some q1), some (some q2), some none, some none, none, none, none, none]))) q4 (.inr (0, [some none]))) q5 (.inl (cA5, 64, 102))) q4 (.inr (0, [some (some q5)]))) h (.inr (3, [some (some q1), some (some q2), some (some q4), some none, none, none, none, none]))) q6 (.inr (1, [some none, none]))) q7 (.inl (cA7, 84, 101))) q6 (.inr (1, [some (some q7), none]))) := t12.up (fun tm e => by cases e)
  refine ⟨rfl, f13h, ?_⟩
  have f14q1 := up_keep (y' := .inr (3, [some (some q1), some (some q2), some (some q4), some (some q6), none, none, none, none])) f13q1 f13h (fun e => by cases e)
  have f14q3 := up_keep (y' := .inr (3, [some (some q1), some (some q2), some (some q4), some (some q6), none, none, none, none])) f13q3 f13h (fun e => by cases e)
  have f14q2 := up_keep (y' := .inr (3, [some (some q1), some (some q2), some (some q4), some (some q6), none, none, none, none])) f13q2 f13h (fun e => by cases e)
  have f14q5 := up_keep (y' := .inr (3, [some (some q1), some (some q2), some (some q4), some (some q6), none, none, none, none])) f13q5 f13h (fun e => by cases e)
  have f14q4 := up_keep (y' := .inr (3, [some (some q1), some (some q2), some (some q4), some (some q6), none, none, none, none])) f13q4 f13h (fun e => by cases e)
  have f14q7 := up_keep (y' := .inr (3, [some (some q1), some (some q2), some (some q4), some (some q6), none, none, none, none])) f13q7 f13h (fun e => by cases e)
  have f14q6 := up_keep (y' := .inr (3, [some (some q1), some (some q2), some (some q4), some (some q6), none, none, none, none])) f13q6 f13h (fun e => by cases e)
  have f14h : (upL (upL (upL (upL (upL (upL (upL (upL (upL (upL (upL (upL (upL (upL Λ q1 (.inl (cA1, 6, 100))) h (.inr (3, [some (some q1), some none, some none, some none, none, none, none, none]))) q2 (.inr (1, [some none, none]))) q3 (.inl (cA3, 20, 101))) q2 (.inr (1, [some (some q3), none]))) h (.inr (3, [some (some q1), some (some q2), some none, some none, none, none, none, none]))) q4 (.inr (0, [some none]))) q5 (.inl (cA5, 64, 102))) q4 (.inr (0, [some (some q5)]))) h (.inr (3, [some (some q1), some (some q2), some (some q4), some none, none, none, none, none]))) q6 (.inr (1, [some none, none]))) q7 (.inl (cA7, 84, 101))) q6 (.inr (1, [some (some q7), none]))) h (.inr (3, [some (some q1), some (some q2), some (some q4), some (some q6), none, none, none, none]))) h = some (.inr (3, [some (some q1), some (some q2), some (some q4), some (some q6), none, none, none, none])) := upL_at
  have t14 : NT (upL (upL (upL (upL (upL (upL (upL (upL (upL (upL (upL (upL (upL (upL Λ q1 (.inl (cA1, 6, 100))) h (.inr (3, [some (some q1), some none, some none, some none, none, none, none, none]))) q2 (.inr (1, [some none, none]))) q3 (.inl (cA3, 20, 101))) q2 (.inr (1, [some (some q3), none]))) h (.inr (3, [some (some q1), some (some q2), some none, some none, none, none, none, none]))) q4 (.inr (0, [some none]))) q5 (.inl (cA5, 64, 102))) q4 (.inr (0, [some (some q5)]))) h (.inr (3, [some (some q1), some (some q2), some (some q4), some none, none, none, none, none]))) q6 (.inr (1, [some none, none]))) q7 (.inl (cA7, 84, 101))) q6 (.inr (1, [some (some q7), none]))) h (.inr (3, [some (some q1), some (some q2), some (some q4), some (some q6), none, none, none, none]))) := t13.up (fun tm e => by cases e)
  have ly : LayC (upL (upL (upL (upL (upL (upL (upL (upL (upL (upL (upL (upL (upL (upL Λ q1 (.inl (cA1, 6, 100))) h (.inr (3, [some (some q1), some none, some none, some none, none, none, none, none]))) q2 (.inr (1, [some none, none]))) q3 (.inl (cA3, 20, 101))) q2 (.inr (1, [some (some q3), none]))) h (.inr (3, [some (some q1), some (some q2), some none, some none, none, none, none, none]))) q4 (.inr (0, [some none]))) q5 (.inl (cA5, 64, 102))) q4 (.inr (0, [some (some q5)]))) h (.inr (3, [some (some q1), some (some q2), some (some q4), some none, none, none, none, none]))) q6 (.inr (1, [some none, none]))) q7 (.inl (cA7, 84, 101))) q6 (.inr (1, [some (some q7), none]))) h (.inr (3, [some (some q1), some (some q2), some (some q4), some (some q6), none, none, none, none]))) (cOf h q1 q2 q3 q4 q5 q6 q7) := ⟨f14h, ⟨cA1, f14q1⟩, ⟨f14q2, cA3, f14q3⟩, f14q4, ⟨cA5, f14q5⟩, ⟨f14q6, cA7, f14q7⟩⟩
  have z14 := ((((((((((((z.zap q1).zap q2).zap q3).up 101 q2).zap q4).zap q5).zap q6).zap q7).up 101 q6).up 304 h).up 305 h).up 306 h).up 307 h
  exact hp (cOf h q1 q2 q3 q4 q5 q6 q7) _ _ rfl (GD.zero ly t14 z14) (fun t u ht => absurd ht.1 (t14 t _)) (fun t f e => absurd e (t14 t _)) t14 z14
end STT
