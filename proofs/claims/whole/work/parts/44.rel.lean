/-! The relation of the class's memory and the reference's memory, and the calls that only look or change a root. -/
def RR (th : Nat → Option Nat) (z : Int) (o : Option Nat) : Prop := (z = -1 ∧ o = none) ∨ ∃ j u : Nat, j < 90 ∧ z = j ∧ th j = some u ∧ o = some u
def RF (th : Nat → Option Nat) (σ : Mem) (z : Int) (o : Option Nat) : Prop := RR th z o ∨ (z = -1 ∧ ∃ u, o = some u ∧ (σ.1 203 u) = -2)
def RB (Λ : Lam) (c r : Nat → Nat) (th : Nat → Option Nat) (σ ρ : Mem) : Prop :=
  (∀ i : Nat, i < 90 → ((ρ.2.1 1 (r 1) i) = 0 ↔ th i = none)) ∧
  (∀ i t : Nat, i < 90 → th i = some t → isT Λ t ∧ (σ.1 203 t) ≠ -2 ∧ ((ρ.2.1 1 (r 1) i) = 1 ↔ (σ.1 203 t) = -1) ∧ ((ρ.2.1 1 (r 1) i) = 2 → (ρ.2.1 6 (r 6) i) = (σ.1 203 t))) ∧
  (∀ i j t : Nat, i < 90 → j < 90 → th i = some t → th j = some t → i = j) ∧
  (∀ t : Nat, isT Λ t → (σ.1 203 t) ≠ -2 → ∃ i : Nat, i < 90 ∧ th i = some t) ∧
  (∀ i t : Nat, i < 90 → th i = some t → (ρ.2.1 2 (r 2) i) = (σ.1 200 t) ∧ (ρ.2.1 3 (r 3) i) = nfL Λ t ∧ (ρ.2.1 51 (r 51) i) = (σ.1 204 t) ∧ (ρ.2.1 52 (r 52) i) = (σ.1 205 t) ∧ ((ρ.2.1 1 (r 1) i) = 1 → (ρ.2.1 5 (r 5) i) = (σ.1 202 t))) ∧
  (∀ i : Nat, i < 90 → th i = none → (ρ.2.1 51 (r 51) i) = 0 ∧ (ρ.2.1 52 (r 52) i) = 0) ∧
  (∀ i t k : Nat, i < 90 → th i = some t → k < nfL Λ t → RF th σ ((ρ.2.1 4 (r 4) (3 * i + k))) ((σ.2.2 103 (faL Λ t) k))) ∧
  (∀ j : Nat, j < 6 → RR th ((ρ.2.1 7 (r 7) j)) ((σ.2.2 100 (c 1) j))) ∧
  (∀ i : Nat, i < 8 → (((ρ.2.1 53 (r 53) i) = 0 ↔ cb ((σ.1 304 (c 0))) i = false) ∧ ((ρ.2.1 54 (r 54) i) = 0 ↔ cb ((σ.1 305 (c 0))) i = false))) ∧
  ((ρ.1 411 (r 0)) = (σ.1 306 (c 0)) ∧ (ρ.1 412 (r 0)) = (σ.1 307 (c 0)) ∧ (ρ.1 413 (r 0)) = (σ.1 101 (c 2))) ∧
  (∀ i : Nat, (i : Int) < (ρ.1 413 (r 0)) → ∃ j t : Nat, j < 90 ∧ (ρ.2.1 8 (r 8) i) = j ∧ th j = some t ∧ σ.2.2 101 (c 3) i = some t)
theorem RB.k0 {Λ : Lam} {c r : Nat → Nat} {th : Nat → Option Nat} {σ ρ : Mem} (h : RB Λ c r th σ ρ) : ∀ i : Nat, i < 90 → ((ρ.2.1 1 (r 1) i) = 0 ↔ th i = none) := h.1
theorem RB.k1 {Λ : Lam} {c r : Nat → Nat} {th : Nat → Option Nat} {σ ρ : Mem} (h : RB Λ c r th σ ρ) : ∀ i t : Nat, i < 90 → th i = some t → isT Λ t ∧ (σ.1 203 t) ≠ -2 ∧ ((ρ.2.1 1 (r 1) i) = 1 ↔ (σ.1 203 t) = -1) ∧ ((ρ.2.1 1 (r 1) i) = 2 → (ρ.2.1 6 (r 6) i) = (σ.1 203 t)) := h.2.1
theorem RB.k2 {Λ : Lam} {c r : Nat → Nat} {th : Nat → Option Nat} {σ ρ : Mem} (h : RB Λ c r th σ ρ) : ∀ i j t : Nat, i < 90 → j < 90 → th i = some t → th j = some t → i = j := h.2.2.1
theorem RB.k3 {Λ : Lam} {c r : Nat → Nat} {th : Nat → Option Nat} {σ ρ : Mem} (h : RB Λ c r th σ ρ) : ∀ t : Nat, isT Λ t → (σ.1 203 t) ≠ -2 → ∃ i : Nat, i < 90 ∧ th i = some t := h.2.2.2.1
theorem RB.k4 {Λ : Lam} {c r : Nat → Nat} {th : Nat → Option Nat} {σ ρ : Mem} (h : RB Λ c r th σ ρ) : ∀ i t : Nat, i < 90 → th i = some t → (ρ.2.1 2 (r 2) i) = (σ.1 200 t) ∧ (ρ.2.1 3 (r 3) i) = nfL Λ t ∧ (ρ.2.1 51 (r 51) i) = (σ.1 204 t) ∧ (ρ.2.1 52 (r 52) i) = (σ.1 205 t) ∧ ((ρ.2.1 1 (r 1) i) = 1 → (ρ.2.1 5 (r 5) i) = (σ.1 202 t)) := h.2.2.2.2.1
theorem RB.k5 {Λ : Lam} {c r : Nat → Nat} {th : Nat → Option Nat} {σ ρ : Mem} (h : RB Λ c r th σ ρ) : ∀ i : Nat, i < 90 → th i = none → (ρ.2.1 51 (r 51) i) = 0 ∧ (ρ.2.1 52 (r 52) i) = 0 := h.2.2.2.2.2.1
theorem RB.k6 {Λ : Lam} {c r : Nat → Nat} {th : Nat → Option Nat} {σ ρ : Mem} (h : RB Λ c r th σ ρ) : ∀ i t k : Nat, i < 90 → th i = some t → k < nfL Λ t → RF th σ ((ρ.2.1 4 (r 4) (3 * i + k))) ((σ.2.2 103 (faL Λ t) k)) := h.2.2.2.2.2.2.1
theorem RB.k7 {Λ : Lam} {c r : Nat → Nat} {th : Nat → Option Nat} {σ ρ : Mem} (h : RB Λ c r th σ ρ) : ∀ j : Nat, j < 6 → RR th ((ρ.2.1 7 (r 7) j)) ((σ.2.2 100 (c 1) j)) := h.2.2.2.2.2.2.2.1
theorem RB.k8 {Λ : Lam} {c r : Nat → Nat} {th : Nat → Option Nat} {σ ρ : Mem} (h : RB Λ c r th σ ρ) : ∀ i : Nat, i < 8 → (((ρ.2.1 53 (r 53) i) = 0 ↔ cb ((σ.1 304 (c 0))) i = false) ∧ ((ρ.2.1 54 (r 54) i) = 0 ↔ cb ((σ.1 305 (c 0))) i = false)) := h.2.2.2.2.2.2.2.2.1
theorem RB.k9 {Λ : Lam} {c r : Nat → Nat} {th : Nat → Option Nat} {σ ρ : Mem} (h : RB Λ c r th σ ρ) : (ρ.1 411 (r 0)) = (σ.1 306 (c 0)) ∧ (ρ.1 412 (r 0)) = (σ.1 307 (c 0)) ∧ (ρ.1 413 (r 0)) = (σ.1 101 (c 2)) := h.2.2.2.2.2.2.2.2.2.1
theorem RB.ka {Λ : Lam} {c r : Nat → Nat} {th : Nat → Option Nat} {σ ρ : Mem} (h : RB Λ c r th σ ρ) : ∀ i : Nat, (i : Int) < (ρ.1 413 (r 0)) → ∃ j t : Nat, j < 90 ∧ (ρ.2.1 8 (r 8) i) = j ∧ th j = some t ∧ σ.2.2 101 (c 3) i = some t := h.2.2.2.2.2.2.2.2.2.2
section REL
variable {l : Launch} {D : va_G} {Λ ΛR : Lam} {c r : Nat → Nat} {th : Nat → Option Nat} {σ ρ : Mem}
theorem RR.eq {a b : Int} {o p : Option Nat} (k2 : ∀ i j t : Nat, i < 90 → j < 90 → th i = some t → th j = some t → i = j) (h1 : RR th a o) (h2 : RR th b p) : a = b ↔ o = p := by
  rcases h1 with ⟨e1, e2⟩ | ⟨i, u, hi, e1, e2, e3⟩
  · rcases h2 with ⟨f1, f2⟩ | ⟨j, v, hj, f1, f2, f3⟩
    · rw [e1, e2, f1, f2]; exact ⟨fun _ => rfl, fun _ => rfl⟩
    · rw [e1, e2, f1, f3]
      exact ⟨fun z => by omega, fun z => by cases z⟩
  · rcases h2 with ⟨f1, f2⟩ | ⟨j, v, hj, f1, f2, f3⟩
    · rw [e1, e3, f1, f2]
      exact ⟨fun z => by omega, fun z => by cases z⟩
    · rw [e1, e3, f1, f3]
      constructor
      · intro z
        have : i = j := by omega
        rw [this, f2] at e2
        cases e2
        rfl
      · intro z
        cases z
        rw [k2 i j u hi hj e2 f2]
theorem isR_c {a : Int} {P : Int → Mem → Prop} (ha : rng a) (h0 : ¬ (0 ≤ a ∧ a < 6) → P 0 ρ) (h1 : 0 ≤ a ∧ a < 6 → P 1 ρ) : K_M_isRoot l D ΛR ρ a P := by
  refine c_M_isRoot ha ?_
  by_cases y : 0 ≤ a ∧ a < 6
  · rw [if_pos y]; exact h1 y
  · rw [if_neg y]; exact h0 y
theorem rng_1 : rng 1 := ⟨by omega, by omega⟩
theorem s_payload {a : Int} {P : Int → Mem → Prop} (w : RW ΛR r ρ) (h : RB Λ c r th σ ρ) (ha : rng a) (hp : P (fPayload c a σ) ρ) : K_M_payload l D ΛR ρ r a P := by
  unfold fPayload at hp
  refine w_M_payload w.ly (isR_c ha (fun n => ⟨rng_0, fun _ => ?_, fun z => absurd rfl z⟩) (fun y => ⟨rng_1, fun z => absurd z (by decide), fun _ => ⟨y.1, y.2, w.ry _ _ _, fun z => ?_, fun z => ?_⟩⟩))
  · rw [if_neg n] at hp; exact hp
  · rw [if_pos y] at hp
    rcases h.k7 a.toNat (by omega) with ⟨e1, e2⟩ | ⟨j, u, hj, e1, e2, e3⟩
    · rw [e1] at z; omega
    · rw [e3] at hp
      refine ⟨y.1, y.2, by rw [e1]; omega, by rw [e1]; omega, ?_⟩
      rw [e1]
      have e4 := (h.k4 j u hj e2).1
      simp only at hp
      rw [← e4] at hp
      exact hp
  · rw [if_pos y] at hp
    rcases h.k7 a.toNat (by omega) with ⟨e1, e2⟩ | ⟨j, u, hj, e1, e2, e3⟩
    · rw [e2] at hp; exact hp
    · rw [e1] at z; omega
theorem s_address {a : Int} {P : Int → Mem → Prop} (w : RW ΛR r ρ) (g : GB Λ c σ) (h : RB Λ c r th σ ρ) (ha : rng a) (hp : P (fAddress c a σ) ρ) : K_M_address l D ΛR ρ r a P := by
  unfold fAddress at hp
  refine w_M_address w.ly (isR_c ha (fun n => ⟨rng_0, fun z => absurd rfl z, fun _ => ?_⟩) (fun y => ⟨rng_1, fun _ => ⟨y.1, y.2, w.ry _ _ _, fun z => ?_, fun z => ?_⟩, fun z => absurd z (by decide)⟩))
  · rw [if_neg n] at hp; exact hp
  · rw [if_pos y] at hp
    rcases h.k7 a.toNat (by omega) with ⟨e1, e2⟩ | ⟨j, u, hj, e1, e2, e3⟩
    · rw [e1] at z; omega
    · rw [e3] at hp
      simp only at hp
      obtain ⟨x1, x2, x3, x4⟩ := h.k1 j u hj e2
      have hk := w.kn j hj
      have h0 := h.k0 j hj
      rw [e2] at h0
      refine ⟨by rw [e1]; omega, by rw [e1]; omega, w.ry _ _ _, ?_, ?_⟩
      · rw [e1]
        intro n2
        have n2 : ¬ (ρ.2.1 1 (r 1) j) = 2 := n2
        have n0 : ¬ (ρ.2.1 1 (r 1) j) = 0 := fun z => by cases (h0.mp z)
        have hy := x3.mp (by omega)
        rw [if_neg (by omega)] at hp
        exact hp
      · rw [e1]
        intro n2
        have n2 : (ρ.2.1 1 (r 1) j) = 2 := n2
        refine ⟨by omega, by omega, ?_⟩
        have hA : 0 ≤ (σ.1 203 u) := by
          rcases g.ad u x1 with e | e | ⟨e, _⟩
          · exact absurd e x2
          · have := x3.mpr e; omega
          · exact e
        rw [if_pos hA, ← x4 n2] at hp
        exact hp
  · rw [if_pos y] at hp
    rcases h.k7 a.toNat (by omega) with ⟨e1, e2⟩ | ⟨j, u, hj, e1, e2, e3⟩
    · rw [e2] at hp; exact hp
    · rw [e1] at z; omega
theorem s_age {a : Int} {P : Int → Mem → Prop} (w : RW ΛR r ρ) (h : RB Λ c r th σ ρ) (ha : rng a) (hp : P (fAgeOf c a σ) ρ) : K_M_age l D ΛR ρ r a P := by
  unfold fAgeOf at hp
  refine w_M_age w.ly (isR_c ha (fun n => ⟨rng_0, fun z => absurd rfl z, fun _ => ?_⟩) (fun y => ⟨rng_1, fun _ => ⟨y.1, y.2, w.ry _ _ _, fun z => ?_, fun z => ?_⟩, fun z => absurd z (by decide)⟩))
  · rw [if_neg n] at hp; exact hp
  · rw [if_pos y] at hp
    rcases h.k7 a.toNat (by omega) with ⟨e1, e2⟩ | ⟨j, u, hj, e1, e2, e3⟩
    · rw [e1] at z; omega
    · rw [e3] at hp
      simp only at hp
      obtain ⟨x1, x2, x3, x4⟩ := h.k1 j u hj e2
      refine ⟨by rw [e1]; omega, by rw [e1]; omega, w.ry _ _ _, ?_, ?_⟩
      · rw [e1]
        intro n1
        rw [if_neg (fun z => n1 (x3.mpr z))] at hp
        exact hp
      · rw [e1]
        intro n1
        refine ⟨by omega, by omega, ?_⟩
        rw [if_pos (x3.mp n1), ← (h.k4 j u hj e2).2.2.2.2 n1] at hp
        exact hp
  · rw [if_pos y] at hp
    rcases h.k7 a.toNat (by omega) with ⟨e1, e2⟩ | ⟨j, u, hj, e1, e2, e3⟩
    · rw [e2] at hp; exact hp
    · rw [e1] at z; omega
theorem s_same {a b : Int} {P : Int → Mem → Prop} (w : RW ΛR r ρ) (h : RB Λ c r th σ ρ) (ha : rng a) (hb : rng b) (hp : P (fSame c a b σ) ρ) : K_M_same l D ΛR ρ r a b P := by
  unfold fSame at hp
  refine w_M_same w.ly (isR_c ha (fun n => ⟨rng_0, fun _ => ?_, fun z => absurd rfl z⟩) (fun y => ⟨rng_1, fun z => absurd z (by decide), fun _ => isR_c hb (fun n => ⟨rng_0, fun _ => ?_, fun z => absurd rfl z⟩) (fun y2 => ⟨rng_1, fun z => absurd z (by decide), fun _ => ⟨y.1, y.2, y2.1, y2.2, w.ry _ _ _, w.ry _ _ _, fun z => ?_, fun z => ?_⟩⟩)⟩))
  · rw [if_neg (fun z => n z.1.1)] at hp; exact hp
  · rw [if_neg (fun z => n z.1.2)] at hp; exact hp
  · rw [if_neg (fun q => z (((h.k7 a.toNat (by omega)).eq h.k2 (h.k7 b.toNat (by omega))).mpr q.2))] at hp; exact hp
  · rw [if_pos ⟨⟨y, y2⟩, ((h.k7 a.toNat (by omega)).eq h.k2 (h.k7 b.toNat (by omega))).mp z⟩] at hp; exact hp
theorem s_phase {P : Int → Mem → Prop} (w : RW ΛR r ρ) (h : RB Λ c r th σ ρ) (hp : P ((σ.1 306 (c 0))) ρ) : K_M_phase l D ΛR ρ r P := by
  rw [← h.k9.1] at hp
  exact w_M_phase w.ly hp
end REL
