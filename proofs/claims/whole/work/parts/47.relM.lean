/-! Cells and marks on both sides; shading and scanning. -/
section RLM
variable {l : Launch} {D : va_G} {Λ ΛR : Lam} {c r : Nat → Nat} {th : Nat → Option Nat} {σ ρ : Mem}
theorem RB.old (h : RB Λ c r th σ ρ) (w : RW ΛR r ρ) (g : GB Λ c σ) {i t : Nat} (hi : i < 90) (e : th i = some t) : (ρ.2.1 1 (r 1) i) = 2 ↔ 0 ≤ (σ.1 203 t) := by
  obtain ⟨x1, x2, x3, x4⟩ := h.k1 i t hi e
  have hk0 := h.k0 i hi
  rw [e] at hk0
  have hkn := w.kn i hi
  have n0 : ¬ (ρ.2.1 1 (r 1) i) = 0 := fun z => by cases (hk0.mp z)
  constructor
  · intro z
    rcases g.ad t x1 with q | q | ⟨q, _⟩
    · exact absurd q x2
    · have := x3.mpr q; omega
    · exact q
  · intro z
    have : ¬ (ρ.2.1 1 (r 1) i) = 1 := fun q => by have := x3.mp q; omega
    omega
theorem on_iff (h : RB Λ c r th σ ρ) (w : RW ΛR r ρ) (g : GB Λ c σ) {i a : Nat} (hi : i < 90) (ha : a < 64) : mOn r ρ a i = true ↔ ∃ t, th i = some t ∧ (σ.2.2 102 (c 5) a) = some t := by
  constructor
  · intro z
    obtain ⟨z1, z2, z3⟩ := of_decide_eq_true z
    cases e : th i with
    | none => have := (h.k0 i hi).mpr e; omega
    | some t =>
      obtain ⟨x1, x2, x3, x4⟩ := h.k1 i t hi e
      have hA := (h.old w g hi e).mp z1
      have e4 := x4 z1
      have hf := (h.k4 i t hi e).2.1
      refine ⟨t, rfl, (g.ce a t ha).mpr ⟨x1, hA, by omega, ?_⟩⟩
      unfold szI
      omega
  · rintro ⟨t, e, hc⟩
    obtain ⟨y1, y2, y3, y4⟩ := (g.ce a t ha).mp hc
    obtain ⟨x1, x2, x3, x4⟩ := h.k1 i t hi e
    have k2 := (h.old w g hi e).mpr y2
    have e4 := x4 k2
    have hf := (h.k4 i t hi e).2.1
    unfold szI at y4
    exact decide_eq_true ⟨k2, by omega, by omega⟩
theorem cell_slot (h : RB Λ c r th σ ρ) (g : GB Λ c σ) {a t : Nat} (ha : a < 64) (hc : (σ.2.2 102 (c 5) a) = some t) : ∃ i : Nat, i < 90 ∧ th i = some t := by
  obtain ⟨y1, y2, y3, y4⟩ := (g.ce a t ha).mp hc
  exact h.k3 t y1 (by omega)
theorem free_eq (h : RB Λ c r th σ ρ) (w : RW ΛR r ρ) (g : GB Λ c σ) {a : Nat} (ha : a < 64) : mFree r ρ a = fFree c σ a := by
  unfold mFree fFree
  rcases fnd_is (p := mOn r ρ a) 90 with ⟨e, hn⟩ | ⟨i, e, hi, hp, _⟩
  · rw [e]
    cases hc : (σ.2.2 102 (c 5) a) with
    | none => rfl
    | some t =>
      obtain ⟨i, hi, ht⟩ := cell_slot h g ha hc
      have := (on_iff h w g hi ha).mpr ⟨t, ht, hc⟩
      rw [hn i hi] at this
      cases this
  · obtain ⟨t, _, hc⟩ := (on_iff h w g hi ha).mp hp
    rw [e, hc]
    rfl
theorem place_eq (h : RB Λ c r th σ ρ) (w : RW ΛR r ρ) (g : GB Λ c σ) (z : Int) : plc (mFree r ρ) z = fPlace c σ z := plc_congr (fun _ ha => free_eq h w g ha)
theorem sum_iv (lo z : Nat) : ∀ n : Nat, sumN (fun a => if lo ≤ a ∧ a < lo + z then 1 else 0) n = ((min n (lo + z) - lo : Nat) : Int)
  | 0 => by show (0 : Int) = _; omega
  | n + 1 => by
    show sumN (fun a => if lo ≤ a ∧ a < lo + z then 1 else 0) n + (if lo ≤ n ∧ n < lo + z then 1 else 0) = _
    rw [sum_iv lo z n]
    by_cases x : lo ≤ n ∧ n < lo + z
    · rw [if_pos x]; omega
    · rw [if_neg x]; omega
theorem old_eq (g : GB Λ c σ) (h : RB Λ c r th σ ρ) (w : RW ΛR r ρ) : sumN (mCel r ρ 2) 90 = fOldCells c σ := by
  have e1 : sumN (mCel r ρ 2) 90 = sumN (fun i => sumN (fun a => if mOn r ρ ((a : Nat) : Int) i = true then 1 else 0) 64) 90 := by
    refine sumN_congr (fun i hi => ?_)
    unfold mCel
    by_cases k : (ρ.2.1 1 (r 1) i) = 2
    · rw [if_pos k]
      cases e : th i with
      | none => have := (h.k0 i hi).mpr e; omega
      | some t =>
        obtain ⟨x1, x2, x3, x4⟩ := h.k1 i t hi e
        have hA := (h.old w g hi e).mp k
        have e4 := x4 k
        have hf := (h.k4 i t hi e).2.1
        have h64 : (σ.1 203 t) + szI Λ t ≤ 64 := by
          rcases g.ad t x1 with q | q | ⟨_, q⟩
          · omega
          · omega
          · exact q
        unfold szI at h64
        have e5 : sumN (fun a => if mOn r ρ ((a : Nat) : Int) i = true then 1 else 0) 64 = sumN (fun a => if ((ρ.2.1 6 (r 6) i)).toNat ≤ a ∧ a < ((ρ.2.1 6 (r 6) i)).toNat + (1 + nfL Λ t) then 1 else 0) 64 := by
          refine sumN_congr (fun a ha => ?_)
          by_cases q : ((ρ.2.1 6 (r 6) i)).toNat ≤ a ∧ a < ((ρ.2.1 6 (r 6) i)).toNat + (1 + nfL Λ t)
          · have on : mOn r ρ ((a : Nat) : Int) i = true := decide_eq_true ⟨k, by omega, by omega⟩
            rw [if_pos q, if_pos on]
          · rw [if_neg q, if_neg (fun z => q ?_)]
            obtain ⟨_, z2, z3⟩ := of_decide_eq_true z
            omega
        rw [e5, sum_iv]
        omega
    · rw [if_neg k]
      refine (sumN_zero (fun a _ => if_neg (fun z => k ?_))).symm
      exact (of_decide_eq_true z).1
  rw [e1, sumN_swap]
  unfold fOldCells
  refine sumN_congr (fun a ha => ?_)
  cases hc : (σ.2.2 102 (c 5) a) with
  | none =>
    refine sumN_zero (fun i hi => if_neg (fun z => ?_))
    obtain ⟨t, _, h2⟩ := (on_iff h w g hi ha).mp z
    rw [hc] at h2
    cases h2
  | some t =>
    obtain ⟨i, hi, ht⟩ := cell_slot h g ha hc
    rw [sumN_one hi (fun j hj hne => if_neg (fun z => hne ?_)), if_pos ((on_iff h w g hi ha).mpr ⟨t, ht, hc⟩)]
    · rfl
    · obtain ⟨t2, h1, h2⟩ := (on_iff h w g hj ha).mp z
      rw [hc] at h2
      cases h2
      exact h.k2 j i t hj hi h1 ht
theorem s_oldCells {P : Int → Mem → Prop} (w : RW ΛR r ρ) (g : GB Λ c σ) (h : RB Λ c r th σ ρ) (hp : P (fOldCells c σ) ρ) : K_M_oldCells l D ΛR ρ r P := w_M_oldCells w.ly (c_M_cells w ⟨by omega, by omega⟩ (by rw [old_eq g h w]; exact hp))
theorem at_some {a t : Nat} (h : fAt c σ a = some t) : (σ.2.2 102 (c 5) a) = some t ∧ (σ.1 203 t) = a := by
  unfold fAt at h
  cases hc : (σ.2.2 102 (c 5) a) with
  | none => rw [hc] at h; cases h
  | some u =>
    rw [hc] at h
    simp only at h
    by_cases x : (σ.1 203 u) = (a : Int)
    · rw [if_pos x] at h
      cases h
      exact ⟨rfl, x⟩
    · rw [if_neg x] at h; cases h
theorem GB.at_old (g : GB Λ c σ) {t : Nat} (ht : isT Λ t) (h0 : 0 ≤ (σ.1 203 t)) : ((σ.1 203 t)).toNat < 64 ∧ fAt c σ ((σ.1 203 t)).toNat = some t := by
  have hz := szI_le ht
  have h64 : (σ.1 203 t) + szI Λ t ≤ 64 := by
    rcases g.ad t ht with q | q | ⟨_, q⟩
    · omega
    · omega
    · exact q
  have hc := (g.ce ((σ.1 203 t)).toNat t (by omega)).mpr ⟨ht, h0, by omega, by omega⟩
  refine ⟨by omega, ?_⟩
  unfold fAt
  rw [hc]
  exact if_pos (by omega)
theorem marked_eq (g : GB Λ c σ) (h : RB Λ c r th σ ρ) (w : RW ΛR r ρ) : sumN (mMk r ρ) 90 = fMarked c σ := by
  unfold fMarked
  refine sumN_bij (fun (i a : Nat) => ∃ t, th i = some t ∧ (σ.1 203 t) = (a : Int)) (fun i hi hne => ?_) (fun i hi a _ a' _ h1 h2 => ?_) (fun a ha hne => ?_) (fun a ha i hi i' hi' h1 h2 => ?_) (fun i hi a ha h1 => ?_)
  · cases e : th i with
    | none =>
      have := h.k5 i hi e
      unfold mMk at hne
      rw [if_pos this.1, if_pos this.2] at hne
      exact absurd rfl hne
    | some t =>
      obtain ⟨x1, x2, x3, x4⟩ := h.k1 i t hi e
      obtain ⟨_, _, m1, m2, _⟩ := h.k4 i t hi e
      rcases g.ad t x1 with q | q | ⟨q, _⟩
      · exact absurd q x2
      · have := g.ym t x1 q
        unfold mMk at hne
        rw [if_pos (by omega), if_pos (by omega)] at hne
        exact absurd rfl hne
      · exact ⟨((σ.1 203 t)).toNat, (g.at_old x1 q).1, t, rfl, by omega⟩
  · obtain ⟨t, e1, e2⟩ := h1
    obtain ⟨t', f1, f2⟩ := h2
    rw [e1] at f1
    cases f1
    omega
  · cases e : fAt c σ a with
    | none =>
      unfold fMkAt at hne
      rw [e] at hne
      exact absurd rfl hne
    | some t =>
      obtain ⟨hc, hA⟩ := at_some e
      obtain ⟨i, hi, ht⟩ := cell_slot h g ha hc
      exact ⟨i, hi, t, ht, hA⟩
  · obtain ⟨t, e1, e2⟩ := h1
    obtain ⟨t', f1, f2⟩ := h2
    have a1 := (g.at_old (h.k1 i t hi e1).1 (by omega)).2
    have a2 := (g.at_old (h.k1 i' t' hi' f1).1 (by omega)).2
    rw [e2] at a1
    rw [f2, a1] at a2
    cases a2
    exact h.k2 i i' t hi hi' e1 f1
  · obtain ⟨t, e1, e2⟩ := h1
    obtain ⟨x1, x2, x3, x4⟩ := h.k1 i t hi e1
    obtain ⟨_, _, m1, m2, _⟩ := h.k4 i t hi e1
    have a1 := (g.at_old x1 (by omega)).2
    rw [e2, Int.toNat_natCast] at a1
    have gm := g.gm t x1 x2
    have fl := g.fl t x1
    unfold mMk fMkAt
    rw [a1]
    simp only
    rw [m1, m2]
    by_cases z1 : (σ.1 204 t) = 0
    · have z2 : (σ.1 205 t) = 0 := by
        rcases fl.2.1 with q | q
        · exact q
        · have := gm q; omega
      rw [if_pos z1, if_pos z1, if_pos z2]; rfl
    · by_cases z2 : (σ.1 205 t) = 0
      · rw [if_neg z1, if_neg z1, if_pos z2, if_pos z2]; rfl
      · rw [if_neg z1, if_neg z1, if_neg z2, if_neg z2]; rfl
theorem s_marked {P : Int → Mem → Prop} (w : RW ΛR r ρ) (g : GB Λ c σ) (h : RB Λ c r th σ ρ) (hp : P (fMarked c σ) ρ) : K_M_marked l D ΛR ρ r P := c_M_marked w (by rw [marked_eq g h w]; exact hp)
-- marks and greys change on both sides
theorem RW.mg {ρ' : Mem} (w : RW ΛR r ρ) (e1 : ρ'.1 = ρ.1) (eY : ∀ kd q k, kd ≠ 51 → kd ≠ 52 → ρ'.2.1 kd q k = ρ.2.1 kd q k) (hr : ∀ kd q k, rng (ρ'.2.1 kd q k)) (hb : ∀ i : Nat, i < 90 → ((ρ'.2.1 51 (r 51) i) = 0 ∨ (ρ'.2.1 51 (r 51) i) = 1) ∧ ((ρ'.2.1 52 (r 52) i) = 0 ∨ (ρ'.2.1 52 (r 52) i) = 1)) : RW ΛR r ρ' := by
  refine ⟨w.ly, by rw [e1]; exact w.ri, hr, fun i hi => ?_, fun i hi => ?_, fun i hi => ?_, fun i hi => ?_, fun i hi => ?_, fun i hi => ?_, hb, fun i hi => ?_, by rw [e1]; exact w.yo, fun i hi => ?_⟩
  · rw [eY _ _ _ (by decide) (by decide)]; exact w.kn i hi
  · rw [eY _ _ _ (by decide) (by decide)]; exact w.fd i hi
  · rw [eY _ _ _ (by decide) (by decide)]; exact w.pa i hi
  · rw [eY _ _ _ (by decide) (by decide)]; exact w.rf i hi
  · rw [eY _ _ _ (by decide) (by decide)]; exact w.rt i hi
  · rw [eY _ _ _ (by decide) (by decide)]; exact w.ag i hi
  · rw [eY _ _ _ (by decide) (by decide), eY _ _ _ (by decide) (by decide)]; exact w.bd i hi
  · rw [e1] at hi; rw [eY _ _ _ (by decide) (by decide)]; exact w.od i hi
theorem RB.mg {σ' ρ' : Mem} (h : RB Λ c r th σ ρ) (kx : σ'.2 = σ.2) (ki : ∀ f q, f ≠ 204 → f ≠ 205 → σ'.1 f q = σ.1 f q) (e1 : ρ'.1 = ρ.1) (eY : ∀ kd q k, kd ≠ 51 → kd ≠ 52 → ρ'.2.1 kd q k = ρ.2.1 kd q k)
    (hm : ∀ i t : Nat, i < 90 → th i = some t → (ρ'.2.1 51 (r 51) i) = (σ'.1 204 t) ∧ (ρ'.2.1 52 (r 52) i) = (σ'.1 205 t)) (h0 : ∀ i : Nat, i < 90 → th i = none → (ρ'.2.1 51 (r 51) i) = 0 ∧ (ρ'.2.1 52 (r 52) i) = 0) : RB Λ c r th σ' ρ' := by
  refine ⟨fun i hi => ?_, fun i t hi e => ?_, h.k2, fun t ht hn => ?_, fun i t hi e => ?_, h0, fun i t k hi e hk => ?_, fun i hi => ?_, fun i hi => ?_, ?_, fun i hi => ?_⟩
  · rw [eY _ _ _ (by decide) (by decide)]; exact h.k0 i hi
  · rw [eY _ _ _ (by decide) (by decide), eY _ _ _ (by decide) (by decide), ki _ _ (by decide) (by decide)]; exact h.k1 i t hi e
  · rw [ki _ _ (by decide) (by decide)] at hn; exact h.k3 t ht hn
  · obtain ⟨a1, a2, _, _, a5⟩ := h.k4 i t hi e
    obtain ⟨b1, b2⟩ := hm i t hi e
    refine ⟨?_, ?_, b1, b2, ?_⟩
    · rw [eY _ _ _ (by decide) (by decide), ki _ _ (by decide) (by decide)]; exact a1
    · rw [eY _ _ _ (by decide) (by decide)]; exact a2
    · rw [eY _ _ _ (by decide) (by decide), eY _ _ _ (by decide) (by decide), ki _ _ (by decide) (by decide)]; exact a5
  · rw [eY _ _ _ (by decide) (by decide), kx]; exact (h.k6 i t k hi e hk).congr (fun _ => ki _ _ (by decide) (by decide))
  · rw [eY _ _ _ (by decide) (by decide), kx]; exact h.k7 i hi
  · rw [eY _ _ _ (by decide) (by decide), eY _ _ _ (by decide) (by decide), ki _ _ (by decide) (by decide), ki _ _ (by decide) (by decide)]; exact h.k8 i hi
  · rw [e1, ki _ _ (by decide) (by decide), ki _ _ (by decide) (by decide), ki _ _ (by decide) (by decide)]; exact h.k9
  · rw [e1] at hi; rw [eY _ _ _ (by decide) (by decide), kx]; exact h.ka i hi
end RLM
