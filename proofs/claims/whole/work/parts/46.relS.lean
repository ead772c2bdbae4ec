/-! Storing on both sides; the sums. -/
section RLS
variable {l : Launch} {D : va_G} {Λ ΛR : Lam} {c r : Nat → Nat} {th : Nat → Option Nat} {σ ρ : Mem}
theorem RF.congr {σ' : Mem} {z : Int} {o : Option Nat} (e : ∀ u, (σ'.1 203 u) = (σ.1 203 u)) (h : RF th σ z o) : RF th σ' z o := by
  rcases h with h | ⟨h1, u, h2, h3⟩
  · exact Or.inl h
  · exact Or.inr ⟨h1, u, h2, by rw [e]; exact h3⟩
theorem RW.ref (w : RW ΛR r ρ) {j : Nat} {v : Int} (hv : -1 ≤ v ∧ v < 90) : RW ΛR r (upY ρ 4 (r 4) j v) := by
  refine ⟨w.ly, w.ri, fun kd q k => ?_, fun i hi => ?_, fun i hi => ?_, fun i hi => ?_, fun i hi => ?_, fun i hi => ?_, fun i hi => ?_, fun i hi => ?_, fun i hi => ?_, w.yo, fun i hi => ?_⟩
  · rw [upY_21]
    split
    · exact ⟨by omega, by omega⟩
    · exact w.ry kd q k
  · rw [upY_nk (by decide)]; exact w.kn i hi
  · rw [upY_nk (by decide)]; exact w.fd i hi
  · rw [upY_nk (by decide)]; exact w.pa i hi
  · rw [upY_21]
    split
    · exact hv
    · exact w.rf i hi
  · rw [upY_nk (by decide)]; exact w.rt i hi
  · rw [upY_nk (by decide)]; exact w.ag i hi
  · rw [upY_nk (by decide), upY_nk (by decide)]; exact w.bm i hi
  · rw [upY_nk (by decide), upY_nk (by decide)]; exact w.bd i hi
  · rw [upY_nk (by decide)]; exact w.od i hi
theorem RW.drt (w : RW ΛR r ρ) {j : Nat} {v : Int} (hv : v = 0 ∨ v = 1) : RW ΛR r (upY ρ 53 (r 53) j v) := by
  refine ⟨w.ly, w.ri, fun kd q k => ?_, fun i hi => ?_, fun i hi => ?_, fun i hi => ?_, fun i hi => ?_, fun i hi => ?_, fun i hi => ?_, fun i hi => ?_, fun i hi => ?_, w.yo, fun i hi => ?_⟩
  · rw [upY_21]
    split
    · exact ⟨by omega, by omega⟩
    · exact w.ry kd q k
  · rw [upY_nk (by decide)]; exact w.kn i hi
  · rw [upY_nk (by decide)]; exact w.fd i hi
  · rw [upY_nk (by decide)]; exact w.pa i hi
  · rw [upY_nk (by decide)]; exact w.rf i hi
  · rw [upY_nk (by decide)]; exact w.rt i hi
  · rw [upY_nk (by decide)]; exact w.ag i hi
  · rw [upY_nk (by decide), upY_nk (by decide)]; exact w.bm i hi
  · refine ⟨?_, by rw [upY_nk (by decide)]; exact (w.bd i hi).2⟩
    rw [upY_21]
    split
    · exact hv
    · exact (w.bd i hi).1
  · rw [upY_nk (by decide)]; exact w.od i hi
theorem RB.fld (h : RB Λ c r th σ ρ) (fi : FI Λ) {j t k : Nat} {v : Int} {o : Option Nat} (hj : j < 90) (ht : th j = some t) (hk : k < nfL Λ t) (hv : RR th v o) : RB Λ c r th (upX σ 103 (faL Λ t) k o) (upY ρ 4 (r 4) (3 * j + k) v) := by
  have eX : ∀ kd q m, kd ≠ 103 → (upX σ 103 (faL Λ t) k o).2.2 kd q m = σ.2.2 kd q m := fun kd q m hm => by rw [upX_22, if_neg (fun z => hm z.1)]
  refine ⟨fun i hi => ?_, fun i t hi e => ?_, h.k2, h.k3, fun i t hi e => ?_, fun i hi e => ?_, fun i u m hi e hm => ?_, fun i hi => ?_, fun i hi => ?_, h.k9, fun i hi => ?_⟩
  · rw [upY_nk (by decide)]; exact h.k0 i hi
  · rw [upY_nk (by decide), upY_nk (by decide)]; exact h.k1 i t hi e
  · rw [upY_nk (by decide), upY_nk (by decide), upY_nk (by decide), upY_nk (by decide), upY_nk (by decide), upY_nk (by decide)]; exact h.k4 i t hi e
  · rw [upY_nk (by decide), upY_nk (by decide)]; exact h.k5 i hi e
  · have hU := (h.k1 i u hi e).1
    have hT := (h.k1 j t hj ht).1
    have n1 : nfL Λ u ≤ 3 := hU.2.2
    have n2 : nfL Λ t ≤ 3 := hT.2.2
    rw [upX_22]
    by_cases x : u = t ∧ m = k
    · have hij : i = j := h.k2 i j t hi hj (by rw [e, x.1]) ht
      rw [if_pos ⟨rfl, by rw [x.1], x.2⟩, hij, x.2, upY_at]
      exact Or.inl hv
    · rw [if_neg (fun z => x ⟨fi u t hU hT z.2.1, z.2.2⟩), upY_ni (fun z => x ?_)]
      · exact (h.k6 i u m hi e hm).congr (fun _ => rfl)
      · have : i = j ∧ m = k := by omega
        rw [this.1, ht] at e
        exact ⟨(Option.some.inj e).symm, this.2⟩
  · rw [upY_nk (by decide), eX _ _ _ (by decide)]; exact h.k7 i hi
  · rw [upY_nk (by decide), upY_nk (by decide)]; exact h.k8 i hi
  · rw [upY_nk (by decide), eX _ _ _ (by decide)]; exact h.ka i hi
theorem RB.drt (h : RB Λ c r th σ ρ) {v : Int} {ρ' : Mem} (e1 : ρ'.1 = ρ.1) (eY : ∀ kd q k, kd ≠ 53 → ρ'.2.1 kd q k = ρ.2.1 kd q k) (hd : ∀ i : Nat, i < 8 → ((ρ'.2.1 53 (r 53) i) = 0 ↔ cb v i = false)) : RB Λ c r th (upI σ 304 (c 0) v) ρ' := by
  refine ⟨fun i hi => ?_, fun i t hi e => ?_, h.k2, fun t ht hn => ?_, fun i t hi e => ?_, fun i hi e => ?_, fun i t k hi e hk => ?_, fun i hi => ?_, fun i hi => ⟨?_, ?_⟩, ?_, fun i hi => ?_⟩
  · rw [eY _ _ _ (by decide)]; exact h.k0 i hi
  · rw [eY _ _ _ (by decide), eY _ _ _ (by decide), upI_ne (by decide)]; exact h.k1 i t hi e
  · rw [upI_ne (by decide)] at hn; exact h.k3 t ht hn
  · rw [eY _ _ _ (by decide), eY _ _ _ (by decide), eY _ _ _ (by decide), eY _ _ _ (by decide), eY _ _ _ (by decide), eY _ _ _ (by decide), upI_ne (by decide), upI_ne (by decide), upI_ne (by decide), upI_ne (by decide)]; exact h.k4 i t hi e
  · rw [eY _ _ _ (by decide), eY _ _ _ (by decide)]; exact h.k5 i hi e
  · rw [eY _ _ _ (by decide)]; exact (h.k6 i t k hi e hk).congr (fun _ => upI_ne (by decide))
  · rw [eY _ _ _ (by decide)]; exact h.k7 i hi
  · rw [upI_at]; exact hd i hi
  · rw [eY _ _ _ (by decide), upI_ne (by decide)]; exact (h.k8 i hi).2
  · rw [e1, upI_ne (by decide), upI_ne (by decide), upI_ne (by decide)]; exact h.k9
  · rw [e1] at hi
    rw [eY _ _ _ (by decide)]; exact h.ka i hi
theorem s_store {a1 a2 a3 : Int} {P : Int → Mem → Prop} (w : RW ΛR r ρ) (g : GD Λ c σ) (fi : FI Λ) (h : RB Λ c r th σ ρ) (h1 : rng a1) (h2 : rng a2) (h3 : rng a3) (hp : ∀ ρ', RW ΛR r ρ' → RB Λ c r th (fStore Λ c a1 a2 a3 σ).2 ρ' → P (fStore Λ c a1 a2 a3 σ).1 ρ') : K_M_store l D ΛR ρ r a1 a2 a3 P := by
  refine w_M_store w.ly (s_check w h h3 h1 h2 ?_)
  rcases chk_is (Λ := Λ) (c := c) (σ := σ) a3 a1 a2 with ⟨e0, t, x, e, y, -, eL⟩ | ⟨e0, hr, -, eL⟩
  · rw [eL] at hp
    rw [e0]
    refine ⟨rng_0, fun z => absurd rfl z, fun _ => ?_⟩
    have ht : Reach Λ c σ t := Reach.root (r := a1.toNat) (by omega) e
    have hT := ht.thing g.gb.wf.ty
    have hn : nfL Λ t ≤ 3 := hT.2.2
    have hR := h.k7 a3.toNat (by omega)
    rcases h.k7 a1.toNat (by omega) with ⟨e1, e2⟩ | ⟨j, u, hj, e1, e2, e3⟩
    · rw [e2] at e; cases e
    · rw [e3] at e
      cases e
      rw [e1]
      have ei : (3 * (j : Int) + a2).toNat = 3 * j + a2.toNat := by omega
      have ej : ((j : Int)).toNat = j := rfl
      rw [ei, ej]
      have w1 := w.ref (j := 3 * j + a2.toNat) hR.lt
      have b1 := h.fld fi (k := a2.toNat) hj e2 (by omega) hR
      obtain ⟨x1, x2, x3, x4⟩ := h.k1 j t hj e2
      have hk0 := h.k0 j hj
      rw [e2] at hk0
      have hkn := w.kn j hj
      have n0 : ¬ (ρ.2.1 1 (r 1) j) = 0 := fun z => by cases (hk0.mp z)
      unfold gStore at hp
      refine ⟨by omega, by omega, by omega, by omega, by omega, by omega, by omega, by omega, w1.ry _ _ _, fun z => ?_, fun z => ?_⟩
      · rw [upY_nk (by decide)] at z
        have hy := x3.mp (by omega)
        rw [if_neg (by omega)] at hp
        exact hp _ w1 b1
      · rw [upY_nk (by decide)] at z
        have hA : 0 ≤ (σ.1 203 t) ∧ (σ.1 203 t) + szI Λ t ≤ 64 := by
          rcases g.gb.ad t x1 with e | e | e
          · exact absurd e x2
          · have := x3.mpr e; omega
          · exact e
        have h64 : (σ.1 203 t) + 1 + a2 < 64 := by
          have := hA.2
          unfold szI at this
          omega
        rw [if_pos hA.1] at hp
        have eA := x4 z
        rw [upY_nk (by decide), eA]
        have en : (σ.1 203 t) + 1 + a2 = ((((σ.1 203 t)).toNat + 1 + a2.toNat : Nat) : Int) := by omega
        have en2 : (σ.1 203 t) + 1 + ((a2.toNat : Nat) : Int) = ((((σ.1 203 t)).toNat + 1 + a2.toNat : Nat) : Int) := by omega
        rw [en2] at hp
        rw [en, div8 _ (by omega)]
        have e8 : (((σ.1 203 t)).toNat + 1 + a2.toNat) / 8 < 8 := by omega
        refine ⟨by omega, by omega, by omega, by omega, ?_⟩
        refine hp _ (w1.drt (Or.inr rfl)) (b1.drt rfl (fun kd q k hk => upY_nk hk) (fun i hi => ?_))
        rw [cb_or, cb_card' (by omega), upY_21]
        by_cases xi : i = (((σ.1 203 t)).toNat + 1 + a2.toNat) / 8
        · rw [if_pos ⟨rfl, rfl, xi⟩, decide_eq_true xi, Bool.or_true]
          exact ⟨fun z => absurd z (by decide), fun z => by cases z⟩
        · rw [if_neg (fun z => xi z.2.2), decide_eq_false xi, Bool.or_false]
          exact (b1.k8 i hi).1
  · rw [eL] at hp
    exact ⟨hr, fun _ => hp ρ w h, fun z => absurd z e0⟩
theorem young_eq (g : GD Λ c σ) (h : RB Λ c r th σ ρ) (w : RW ΛR r ρ) : sumN (mCel r ρ 1) 90 = fTaken Λ (c 2) (c 3) σ := by
  have y0 := g.gb.wf.y0
  have e9 := h.k9.2.2
  unfold fTaken
  refine (sumN_bij (fun (i x : Nat) => (ρ.2.1 8 (r 8) i) = (x : Int)) (fun i hi _ => ?_) (fun i hi x _ x' _ h1 h2 => by omega) (fun x hx hne => ?_) (fun x hx i hi i' hi' h1 h2 => ?_) (fun i hi x hx hx2 => ?_)).symm
  · obtain ⟨j, t, hj, e1, _⟩ := h.ka i (by omega)
    exact ⟨j, hj, e1⟩
  · unfold mCel at hne
    by_cases k1 : (ρ.2.1 1 (r 1) x) = 1
    · cases e : th x with
      | none =>
        have := (h.k0 x hx).mpr e
        omega
      | some t =>
        obtain ⟨x1, x2, x3, x4⟩ := h.k1 x t hx e
        obtain ⟨i, hi, hrow⟩ := (g.yl.1 t x1).mp (x3.mp k1)
        obtain ⟨j, t', hj, e1, e2, e3⟩ := h.ka i (by omega)
        rw [hrow] at e3
        cases e3
        exact ⟨i, by omega, by rw [e1, h.k2 j x t hj hx e2 e]⟩
    · rw [if_neg k1] at hne; exact absurd rfl hne
  · obtain ⟨j, t, hj, e1, e2, e3⟩ := h.ka i (by omega)
    obtain ⟨j', t', hj', f1, f2, f3⟩ := h.ka i' (by omega)
    have : j = j' := by omega
    rw [this, f2] at e2
    cases e2
    exact g.yl.2 i i' (by omega) (by omega) (by rw [e3, f3])
  · obtain ⟨j, t, hj, e1, e2, e3⟩ := h.ka i (by omega)
    have : j = x := by omega
    rw [this] at e2
    obtain ⟨x1, x2, x3, x4⟩ := h.k1 x t hx e2
    have hy : (σ.1 203 t) = -1 := (g.yl.1 t x1).mpr ⟨i, by omega, e3⟩
    unfold mCel fSzAt
    rw [if_pos (x3.mpr hy), e3]
    have := (h.k4 x t hx e2).2.1
    show szI Λ t = _
    unfold szI
    omega
theorem s_youngCells {P : Int → Mem → Prop} (w : RW ΛR r ρ) (g : GD Λ c σ) (h : RB Λ c r th σ ρ) (hp : P (fTaken Λ (c 2) (c 3) σ) ρ) : K_M_youngCells l D ΛR ρ r P := w_M_youngCells w.ly (c_M_cells w rng_1 (by rw [young_eq g h w]; exact hp))
end RLS
