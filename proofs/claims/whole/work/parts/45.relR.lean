/-! Roots and fields, on both sides. -/
def fChk (Λ : Lam) (c : Nat → Nat) (a1 a2 a3 : Int) (σ : Mem) : Int := if (0 ≤ a1 ∧ a1 < 6) ∧ 0 ≤ a2 ∧ a2 < 6 then (match (σ.2.2 100 (c 1) a2.toNat) with
  | none => -3
  | some t => if 0 ≤ a3 ∧ a3 < (nfL Λ t : Int) then 0 else -4) else -2
section RLR
variable {l : Launch} {D : va_G} {Λ ΛR : Lam} {c r : Nat → Nat} {th : Nat → Option Nat} {σ ρ : Mem}
theorem upY_1 (σ : Mem) (kd q k : Nat) (v : Int) : (upY σ kd q k v).1 = σ.1 := rfl
theorem upY_21 (σ : Mem) (kd q k : Nat) (v : Int) (kd' q' k' : Nat) : (upY σ kd q k v).2.1 kd' q' k' = if kd' = kd ∧ q' = q ∧ k' = k then v else σ.2.1 kd' q' k' := rfl
theorem upY_nk {σ : Mem} {kd q k : Nat} {v : Int} {kd' q' k' : Nat} (h : kd' ≠ kd) : (upY σ kd q k v).2.1 kd' q' k' = σ.2.1 kd' q' k' := by rw [upY_21, if_neg (fun z => h z.1)]
theorem upY_at {σ : Mem} {kd q k : Nat} {v : Int} : (upY σ kd q k v).2.1 kd q k = v := by rw [upY_21, if_pos ⟨rfl, rfl, rfl⟩]
theorem upY_ni {σ : Mem} {kd q k : Nat} {v : Int} {k' : Nat} (h : k' ≠ k) : (upY σ kd q k v).2.1 kd q k' = σ.2.1 kd q k' := by rw [upY_21, if_neg (fun z => h z.2.2)]
theorem RR.lt {z : Int} {o : Option Nat} (h : RR th z o) : -1 ≤ z ∧ z < 90 := by
  rcases h with ⟨e, _⟩ | ⟨j, u, hj, e, _⟩ <;> omega
theorem RW.root (w : RW ΛR r ρ) {j : Nat} {v : Int} (hv : -1 ≤ v ∧ v < 90) : RW ΛR r (upY ρ 7 (r 7) j v) := by
  refine ⟨w.ly, w.ri, fun kd q k => ?_, fun i hi => ?_, fun i hi => ?_, fun i hi => ?_, fun i hi => ?_, fun i hi => ?_, fun i hi => ?_, fun i hi => ?_, fun i hi => ?_, w.yo, fun i hi => ?_⟩
  · rw [upY_21]
    split
    · exact ⟨by omega, by omega⟩
    · exact w.ry kd q k
  · rw [upY_nk (by decide)]; exact w.kn i hi
  · rw [upY_nk (by decide)]; exact w.fd i hi
  · rw [upY_nk (by decide)]; exact w.pa i hi
  · rw [upY_nk (by decide)]; exact w.rf i hi
  · rw [upY_21]
    split
    · exact hv
    · exact w.rt i hi
  · rw [upY_nk (by decide)]; exact w.ag i hi
  · rw [upY_nk (by decide), upY_nk (by decide)]; exact w.bm i hi
  · rw [upY_nk (by decide), upY_nk (by decide)]; exact w.bd i hi
  · rw [upY_nk (by decide)]; exact w.od i hi
theorem RB.root (h : RB Λ c r th σ ρ) {j : Nat} {v : Int} {o : Option Nat} (hv : RR th v o) : RB Λ c r th (upX σ 100 (c 1) j o) (upY ρ 7 (r 7) j v) := by
  have eX : ∀ kd q k, kd ≠ 100 → (upX σ 100 (c 1) j o).2.2 kd q k = σ.2.2 kd q k := fun kd q k hk => by rw [upX_22, if_neg (fun z => hk z.1)]
  refine ⟨fun i hi => ?_, fun i t hi e => ?_, h.k2, h.k3, fun i t hi e => ?_, fun i hi e => ?_, fun i t k hi e hk => ?_, fun i hi => ?_, fun i hi => ?_, h.k9, fun i hi => ?_⟩
  · rw [upY_nk (by decide)]; exact h.k0 i hi
  · rw [upY_nk (by decide), upY_nk (by decide)]; exact h.k1 i t hi e
  · rw [upY_nk (by decide), upY_nk (by decide), upY_nk (by decide), upY_nk (by decide), upY_nk (by decide), upY_nk (by decide)]; exact h.k4 i t hi e
  · rw [upY_nk (by decide), upY_nk (by decide)]; exact h.k5 i hi e
  · rw [upY_nk (by decide), eX _ _ _ (by decide)]; exact h.k6 i t k hi e hk
  · rw [upY_21, upX_22]
    by_cases x : i = j
    · rw [if_pos ⟨rfl, rfl, x⟩, if_pos ⟨rfl, rfl, x⟩]; exact hv
    · rw [if_neg (fun z => x z.2.2), if_neg (fun z => x z.2.2)]; exact h.k7 i hi
  · rw [upY_nk (by decide), upY_nk (by decide)]; exact h.k8 i hi
  · rw [upY_nk (by decide), eX _ _ _ (by decide)]; exact h.ka i hi
theorem s_clear {a : Int} {P : Int → Mem → Prop} (w : RW ΛR r ρ) (h : RB Λ c r th σ ρ) (ha : rng a) (hp : ∀ ρ', RW ΛR r ρ' → RB Λ c r th (fClear c a σ).2 ρ' → P (fClear c a σ).1 ρ') : K_M_clear l D ΛR ρ r a P := by
  unfold fClear at hp
  refine w_M_clear w.ly (isR_c ha (fun n => ⟨rng_0, fun z => absurd rfl z, fun _ => ?_⟩) (fun y => ⟨rng_1, fun _ => ⟨y.1, y.2, ?_⟩, fun z => absurd z (by decide)⟩))
  · rw [if_neg n] at hp; exact hp ρ w h
  · rw [if_pos y] at hp; exact hp _ (w.root (by omega)) (h.root (Or.inl ⟨rfl, rfl⟩))
theorem s_copy {a b : Int} {P : Int → Mem → Prop} (w : RW ΛR r ρ) (h : RB Λ c r th σ ρ) (ha : rng a) (hb : rng b) (hp : ∀ ρ', RW ΛR r ρ' → RB Λ c r th (fCopy c a b σ).2 ρ' → P (fCopy c a b σ).1 ρ') : K_M_copy l D ΛR ρ r a b P := by
  unfold fCopy at hp
  refine w_M_copy w.ly (isR_c ha (fun n => ⟨rng_0, fun _ => ?_, fun z => absurd rfl z⟩) (fun y => ⟨rng_1, fun z => absurd z (by decide), fun _ => isR_c hb (fun n => ⟨rng_0, fun z => absurd rfl z, fun _ => ?_⟩) (fun y2 => ⟨rng_1, fun _ => ⟨y2.1, y2.2, y.1, y.2, ?_⟩, fun z => absurd z (by decide)⟩)⟩))
  · rw [if_neg (fun z => n z.1)] at hp; exact hp ρ w h
  · rw [if_neg (fun z => n z.2)] at hp; exact hp ρ w h
  · rw [if_pos ⟨y, y2⟩] at hp
    have hR := h.k7 b.toNat (by omega)
    exact hp _ (w.root hR.lt) (h.root hR)
theorem s_check {a1 a2 a3 : Int} {P : Int → Mem → Prop} (w : RW ΛR r ρ) (h : RB Λ c r th σ ρ) (h1 : rng a1) (h2 : rng a2) (h3 : rng a3) (hp : P (fChk Λ c a1 a2 a3 σ) ρ) : K_M_check l D ΛR ρ r a1 a2 a3 P := by
  unfold fChk at hp
  refine w_M_check w.ly (isR_c h1 (fun n => ⟨rng_0, fun _ => ?_, fun z => absurd rfl z⟩) (fun y => ⟨rng_1, fun z => absurd z (by decide), fun _ => isR_c h2 (fun n => ⟨rng_0, fun z => absurd rfl z, fun _ => ?_⟩) (fun y2 => ⟨rng_1, fun _ => ⟨y2.1, y2.2, w.ry _ _ _, fun z => ?_, fun z => ?_⟩, fun z => absurd z (by decide)⟩)⟩))
  · rw [if_neg (fun z => n z.1)] at hp; exact hp
  · rw [if_neg (fun z => n z.2)] at hp; exact hp
  · rw [if_pos ⟨y, y2⟩] at hp
    rcases h.k7 a2.toNat (by omega) with ⟨e1, e2⟩ | ⟨j, u, hj, e1, e2, e3⟩
    · rw [e1] at z; omega
    · rw [e3] at hp
      simp only at hp
      have hf := (h.k4 j u hj e2).2.1
      rw [e1]
      refine ⟨h3, fun q => ?_, fun q => ⟨by omega, by omega, w.ry _ _ _, fun q2 => ?_, fun q2 => ?_⟩⟩
      · rw [if_neg (by omega)] at hp; exact hp
      · have q2 : a3 < (ρ.2.1 3 (r 3) j) := q2
        rw [if_pos (by omega)] at hp; exact hp
      · have q2 : ¬ a3 < (ρ.2.1 3 (r 3) j) := q2
        rw [if_neg (by omega)] at hp; exact hp
  · rw [if_pos ⟨y, y2⟩] at hp
    rcases h.k7 a2.toNat (by omega) with ⟨e1, e2⟩ | ⟨j, u, hj, e1, e2, e3⟩
    · rw [e2] at hp; exact hp
    · rw [e1] at z; omega
theorem chk_is (a1 a2 a3 : Int) : (fChk Λ c a1 a2 a3 σ = 0 ∧ ∃ t, ((0 ≤ a1 ∧ a1 < 6) ∧ 0 ≤ a2 ∧ a2 < 6) ∧ (σ.2.2 100 (c 1) a2.toNat) = some t ∧ (0 ≤ a3 ∧ a3 < (nfL Λ t : Int)) ∧ fLoad Λ c a1 a2 a3 σ = (0, upX σ 100 (c 1) a1.toNat ((σ.2.2 103 (faL Λ t) a3.toNat))) ∧ fStore Λ c a2 a3 a1 σ = (0, gStore Λ c t a3.toNat ((σ.2.2 100 (c 1) a1.toNat)) σ)) ∨ (fChk Λ c a1 a2 a3 σ ≠ 0 ∧ rng (fChk Λ c a1 a2 a3 σ) ∧ fLoad Λ c a1 a2 a3 σ = (fChk Λ c a1 a2 a3 σ, σ) ∧ fStore Λ c a2 a3 a1 σ = (fChk Λ c a1 a2 a3 σ, σ)) := by
  unfold fChk fLoad fStore
  by_cases x : (0 ≤ a1 ∧ a1 < 6) ∧ 0 ≤ a2 ∧ a2 < 6
  · rw [if_pos x, if_pos x, if_pos ⟨x.2, x.1⟩]
    cases e : (σ.2.2 100 (c 1) a2.toNat) with
    | none =>
      simp only
      exact Or.inr ⟨by decide, ⟨by decide, by decide⟩, trivial, trivial⟩
    | some t =>
      simp only
      by_cases y : 0 ≤ a3 ∧ a3 < (nfL Λ t : Int)
      · rw [if_pos y, if_pos y, if_pos y]
        exact Or.inl ⟨rfl, t, x, rfl, y, rfl, rfl⟩
      · rw [if_neg y, if_neg y, if_neg y]
        exact Or.inr ⟨by decide, ⟨by decide, by decide⟩, rfl, rfl⟩
  · rw [if_neg x, if_neg x, if_neg (fun z => x ⟨z.2, z.1⟩)]
    exact Or.inr ⟨by decide, ⟨by decide, by decide⟩, rfl, rfl⟩
theorem RF.rr {z : Int} {o : Option Nat} (h : RF th σ z o) (ho : ∀ u, o = some u → (σ.1 203 u) ≠ -2) : RR th z o := by
  rcases h with h | ⟨_, u, e, hu⟩
  · exact h
  · exact absurd hu (ho u e)
theorem s_load {a1 a2 a3 : Int} {P : Int → Mem → Prop} (w : RW ΛR r ρ) (g : GD Λ c σ) (h : RB Λ c r th σ ρ) (h1 : rng a1) (h2 : rng a2) (h3 : rng a3) (hp : ∀ ρ', RW ΛR r ρ' → RB Λ c r th (fLoad Λ c a1 a2 a3 σ).2 ρ' → P (fLoad Λ c a1 a2 a3 σ).1 ρ') : K_M_load l D ΛR ρ r a1 a2 a3 P := by
  refine w_M_load w.ly (s_check w h h1 h2 h3 ?_)
  rcases chk_is (Λ := Λ) (c := c) (σ := σ) a1 a2 a3 with ⟨e0, t, x, e, y, eL, -⟩ | ⟨e0, hr, eL, -⟩
  · rw [eL] at hp
    rw [e0]
    refine ⟨rng_0, fun z => absurd rfl z, fun _ => ?_⟩
    have ht : Reach Λ c σ t := Reach.root (r := a2.toNat) (by omega) e
    have hT := ht.thing g.gb.wf.ty
    have hn : nfL Λ t ≤ 3 := hT.2.2
    rcases h.k7 a2.toNat (by omega) with ⟨e1, e2⟩ | ⟨j, u, hj, e1, e2, e3⟩
    · rw [e2] at e; cases e
    · rw [e3] at e
      cases e
      rw [e1]
      have hR := (h.k6 j t a3.toNat hj e2 (by omega)).rr (fun u hu => g.s5 u (ht.fld (by omega) hu))
      have ei : (3 * (j : Int) + a3).toNat = 3 * j + a3.toNat := by omega
      refine ⟨by omega, by omega, by omega, by omega, by omega, by omega, ?_⟩
      rw [ei]
      exact hp _ (w.root hR.lt) (h.root hR)
  · rw [eL] at hp
    exact ⟨hr, fun _ => hp ρ w h, fun z => absurd z e0⟩
theorem div8 : ∀ a : Nat, a < 64 → iDiv (a : Nat) 8 = ((a / 8 : Nat) : Int) := by decide +kernel
end RLR
