/-! Which cards show a young thing, on both sides; taking out many slots; rows renewed. -/
section RY5
variable {l : Launch} {D : va_G} {Λ ΛR : Lam} {c r : Nat → Nat} {th : Nat → Option Nat} {σ0 σ ρ : Mem}
def mSh (r : Nat → Nat) (ρ : Mem) (cd : Int) (i k : Nat) : Prop := (ρ.2.1 1 (r 1) i) = 2 ∧ (k : Int) < (ρ.2.1 3 (r 3) i) ∧ iDiv ((ρ.2.1 6 (r 6) i) + 1 + k) 8 = cd ∧ 0 ≤ (ρ.2.1 4 (r 4) (3 * i + k)) ∧ (ρ.2.1 1 (r 1) ((ρ.2.1 4 (r 4) (3 * i + k))).toNat) = 1
theorem c_M_showsYoung {cd : Int} {P : Int → Mem → Prop} (w : RW ΛR r ρ) (hc : rng cd) (h1 : (∃ i k : Nat, i < 90 ∧ mSh r ρ cd i k) → P 1 ρ) (h0 : ¬ (∃ i k : Nat, i < 90 ∧ mSh r ρ cd i k) → P 0 ρ) : K_M_showsYoung l D ΛR ρ r cd P := by
  refine e_M_showsYoung (fun x hl hD hx => ?_)
  subst hl; subst hD
  have hL := w.ly
  refine u_M_showsYoung_0 hx hL ?_
  have outer : ∀ n i : Nat, i + n = 90 → (∀ i' k : Nat, i' < i → ¬ mSh r ρ cd i' k) → N_M_showsYoung_2 x P ΛR ρ r cd i := by
    intro n
    induction n with
    | zero =>
      intro i hi hb
      exact u_M_showsYoung_2 hx hL ⟨⟨by omega, by omega⟩, fun _ => h0 (fun ⟨i', k, hi', hm⟩ => hb i' k (by omega) hm), fun z => absurd (by omega) z⟩
    | succ n ih =>
      intro i hi hb
      have hi9 : i < 90 := by omega
      have hfd := w.fd i hi9
      refine u_M_showsYoung_2 hx hL ⟨⟨by omega, by omega⟩, fun z => absurd z (by omega), fun _ => ?_⟩
      have next : (∀ k : Nat, ¬ mSh r ρ cd i k) → N_M_showsYoung_2 x P ΛR ρ r cd (i + 1 : Nat) := by
        intro hn
        refine ih (i + 1) (by omega) (fun i' k hi' hm => ?_)
        by_cases y : i' = i
        · rw [y] at hm; exact hn k hm
        · exact hb i' k (by omega) hm
      have inner : ∀ m k : Nat, k + m = 4 → (∀ k', k' < k → ¬ mSh r ρ cd i k') → N_M_showsYoung_10 x P ΛR ρ r cd i k := by
        intro m
        induction m with
        | zero =>
          intro k hk hb2
          refine u_M_showsYoung_10 hx hL ⟨by omega, by omega, w.ry _ _ _, fun z => next (fun k' hm => z hm.1), fun _ => ⟨by omega, by omega, ⟨by omega, by omega⟩, w.ry _ _ _, fun _ => next (fun k' hm => hb2 k' (by have := hm.2.1; omega) hm), fun z => absurd ?_ z⟩⟩
          show (ρ.2.1 3 (r 3) i) ≤ k
          omega
        | succ m ihm =>
          intro k hk hb2
          have more : ¬ mSh r ρ cd i k → N_M_showsYoung_10 x P ΛR ρ r cd i (k + 1 : Nat) := by
            intro hn
            refine ihm (k + 1) (by omega) (fun k' hk' hm => ?_)
            by_cases y : k' = k
            · rw [y] at hm; exact hn hm
            · exact hb2 k' (by omega) hm
          refine u_M_showsYoung_10 hx hL ⟨by omega, by omega, w.ry _ _ _, fun z => next (fun k' hm => z hm.1), fun z1 => ⟨by omega, by omega, ⟨by omega, by omega⟩, w.ry _ _ _, fun z => next (fun k' hm => ?_), fun z2 => ⟨by omega, ?_, by omega, by omega, hc, fun z => more (fun hm => z hm.2.2.1), fun z3 => ?_⟩⟩⟩
          · have z : (ρ.2.1 3 (r 3) i) ≤ k := z
            exact hb2 k' (by have := hm.2.1; omega) hm
          · have z2 : ¬ (ρ.2.1 3 (r 3) i) ≤ k := z2
            omega
          · have z2 : ¬ (ρ.2.1 3 (r 3) i) ≤ k := z2
            have ei : (3 * (i : Int) + (k : Int)).toNat = 3 * i + k := by omega
            rw [ei]
            have hrf := w.rf (3 * i + k) (by omega)
            exact ⟨w.ry _ _ _, fun z => more (fun hm => absurd hm.2.2.2.1 (Int.not_le.mpr z)), fun z4 => ⟨Int.not_lt.mp z4, hrf.2, w.ry _ _ _, fun z => more (fun hm => z hm.2.2.2.2), fun z5 => h1 ⟨i, k, hi9, z1, Int.not_le.mp z2, z3, Int.not_lt.mp z4, z5⟩⟩⟩
      exact inner 4 0 rfl (fun k' hk' => by omega)
  exact outer 90 0 rfl (fun i' k hi' => by omega)
theorem show_iff (w : RW ΛR r ρ) (g : GB Λ c σ) (h : RB Λ c r th σ ρ) {cd : Nat} : (∃ i k : Nat, i < 90 ∧ mSh r ρ cd i k) ↔ cb (fShow Λ c σ) cd = true := by
  rw [show_cb]
  constructor
  · rintro ⟨i, k, hi, m1, m2, m3, m4, m5⟩
    cases e : th i with
    | none => have := (h.k0 i hi).mpr e; omega
    | some t =>
      obtain ⟨x1, x2, x3, x4⟩ := h.k1 i t hi e
      have hA := (h.old w g hi e).mp m1
      have e6 := x4 m1
      have e3 := (h.k4 i t hi e).2.1
      have h64 : (σ.1 203 t) + szI Λ t ≤ 64 := by
        rcases g.ad t x1 with q | q | ⟨_, q⟩
        · omega
        · omega
        · exact q
      have hs : szI Λ t = 1 + (nfL Λ t : Int) := rfl
      have ea : (ρ.2.1 6 (r 6) i) + 1 + (k : Int) = ((((σ.1 203 t)).toNat + 1 + k : Nat) : Int) := by omega
      rw [ea, div8 _ (by omega)] at m3
      have hc : (σ.2.2 102 (c 5) (((σ.1 203 t)).toNat + 1 + k)) = some t := (g.ce _ t (by omega)).mpr ⟨x1, hA, by omega, by omega⟩
      refine ⟨((σ.1 203 t)).toNat + 1 + k, by omega, by omega, ?_⟩
      have ef : fRef Λ c σ (((σ.1 203 t)).toNat + 1 + k) = (σ.2.2 103 (faL Λ t) k) := by
        unfold fRef
        rw [hc]
        simp only
        rw [if_pos ⟨by omega, by omega⟩, show (((((σ.1 203 t)).toNat + 1 + k : Nat) : Int) - (σ.1 203 t) - 1).toNat = k by omega]
      rw [ef]
      rcases h.k6 i t k hi e (by omega) with (⟨f1, _⟩ | ⟨j, u, hj, f1, f2, f3⟩) | ⟨f1, _⟩
      · omega
      · rw [f3]
        rw [f1, Int.toNat_natCast] at m5
        exact decide_eq_true ((h.k1 j u hj f2).2.2.1.mp m5)
      · omega
  · rintro ⟨a, ha, hd, hy⟩
    unfold isYng at hy
    cases ef : fRef Λ c σ a with
    | none => rw [ef] at hy; cases hy
    | some u =>
      rw [ef] at hy
      have hy : (σ.1 203 u) = -1 := of_decide_eq_true hy
      unfold fRef at ef
      cases hc : (σ.2.2 102 (c 5) a) with
      | none => rw [hc] at ef; cases ef
      | some t =>
        rw [hc] at ef
        simp only at ef
        by_cases kk : 0 ≤ (a : Int) - (σ.1 203 t) - 1 ∧ (a : Int) - (σ.1 203 t) - 1 < (nfL Λ t : Int)
        · rw [if_pos kk] at ef
          obtain ⟨y1, y2, y3, y4⟩ := (g.ce a t ha).mp hc
          obtain ⟨i, hi, e⟩ := h.k3 t y1 (by omega)
          have k2 := (h.old w g hi e).mpr y2
          have e6 := (h.k1 i t hi e).2.2.2 k2
          have e3 := (h.k4 i t hi e).2.1
          refine ⟨i, ((a : Int) - (σ.1 203 t) - 1).toNat, hi, k2, by omega, ?_, ?_⟩
          · rw [show (ρ.2.1 6 (r 6) i) + 1 + ((((a : Int) - (σ.1 203 t) - 1).toNat : Nat) : Int) = (a : Nat) by omega, div8 a ha, hd]
          · rcases h.k6 i t _ hi e (show ((a : Int) - (σ.1 203 t) - 1).toNat < nfL Λ t by omega) with (⟨_, f2⟩ | ⟨j, v, hj, f1, f2, f3⟩) | ⟨f1, v, f2, f3⟩
            · rw [f2] at ef; cases ef
            · rw [f3] at ef
              cases ef
              rw [f1]
              exact ⟨by omega, (h.k1 j u hj f2).2.2.1.mpr hy⟩
            · rw [f2] at ef
              cases ef
              omega
        · rw [if_neg kk] at ef; cases ef
-- what RB says of one slot
theorem RB.hs (h : RB Λ c r th σ ρ) {i t : Nat} (hi : i < 90) (e : th i = some t) : (ρ.2.1 1 (r 1) i) ≠ 0 ∧ (σ.1 203 t) ≠ -2 ∧ ((ρ.2.1 1 (r 1) i) = 1 ↔ (σ.1 203 t) = -1) ∧ ((ρ.2.1 1 (r 1) i) = 2 → (ρ.2.1 6 (r 6) i) = (σ.1 203 t)) ∧ (ρ.2.1 51 (r 51) i) = (σ.1 204 t) ∧ (ρ.2.1 52 (r 52) i) = (σ.1 205 t) ∧ ((ρ.2.1 1 (r 1) i) = 1 → (ρ.2.1 5 (r 5) i) = (σ.1 202 t)) := by
  obtain ⟨b1, b2, b3, b4⟩ := h.k1 i t hi e
  obtain ⟨_, _, d3, d4, d5⟩ := h.k4 i t hi e
  have k0 := h.k0 i hi
  rw [e] at k0
  exact ⟨fun z => (by cases (k0.mp z)), b2, b3, b4, d3, d4, d5⟩
theorem RB.h0 (h : RB Λ c r th σ ρ) {i : Nat} (hi : i < 90) (e : th i = none) : (ρ.2.1 1 (r 1) i) = 0 ∧ (ρ.2.1 51 (r 51) i) = 0 ∧ (ρ.2.1 52 (r 52) i) = 0 := ⟨(h.k0 i hi).mpr e, h.k5 i hi e⟩
theorem RB.eqA {s : Mem} (h : RB Λ c r th σ ρ) (ty : ∀ kd q k t, σ.2.2 kd q k = some t → isT Λ t) (kx : ∀ kd q k, kd ≠ 102 → ¬ (kd = 101 ∧ q = c 7) → s.2.2 kd q k = σ.2.2 kd q k) (ki : ∀ f q, f ≠ 203 → f ≠ 206 → ¬ (f = 101 ∧ q = c 6) → s.1 f q = σ.1 f q) (ka : ∀ t, isT Λ t → (s.1 203 t) = (σ.1 203 t)) (n37 : c 3 ≠ c 7) (n26 : c 2 ≠ c 6) : RB Λ c r th s ρ := by
  refine h.chg ty (fun q k => kx _ _ _ (by decide) (by omega)) (fun q k => kx _ _ _ (by decide) (by omega)) (fun t => ki _ _ (by decide) (by decide) (by omega)) (fun _ => rfl) (fun _ => rfl) (fun _ => rfl) (fun _ => rfl) (fun i t hi e => ?_) (fun i hi e => h.h0 hi e) (fun t ht hu => by rw [ka t ht]; exact hu) (fun i hi => ?_) ?_ (fun i hi => ?_)
  · rw [ka t (h.k1 i t hi e).1, ki 204 _ (by decide) (by decide) (by omega), ki 205 _ (by decide) (by decide) (by omega), ki 202 _ (by decide) (by decide) (by omega)]
    exact h.hs hi e
  · rw [ki 304 _ (by decide) (by decide) (by omega), ki 305 _ (by decide) (by decide) (by omega)]; exact h.k8 i hi
  · rw [ki 306 _ (by decide) (by decide) (by omega), ki 307 _ (by decide) (by decide) (by omega), ki 101 _ (by decide) (by decide) (fun z => n26 z.2)]; exact h.k9
  · rw [kx _ _ _ (by decide) (fun z => n37 z.2)]; exact h.ka i hi
-- the rows of both sides are emptied
theorem RB.cnt0 (h : RB Λ c r th σ ρ) : RB Λ c r th (upI σ 101 (c 2) 0) (upI ρ 413 (r 0) 0) := by
  have e0 : ((upI ρ 413 (r 0) 0).1 413 (r 0)) = 0 := upI_at
  refine ⟨h.k0, fun i t hi e => ?_, h.k2, fun t ht hn => ?_, fun i t hi e => ?_, h.k5, fun i t k hi e hk => ?_, h.k7, fun i hi => ?_, ⟨?_, ?_, ?_⟩, fun i hi => ?_⟩
  · rw [upI_ne (by decide)]; exact h.k1 i t hi e
  · rw [upI_ne (by decide)] at hn; exact h.k3 t ht hn
  · rw [upI_ne (f' := 200) (by decide), upI_ne (f' := 204) (by decide), upI_ne (f' := 205) (by decide), upI_ne (f' := 202) (by decide)]; exact h.k4 i t hi e
  · exact (h.k6 i t k hi e hk).congr (fun _ => upI_ne (by decide))
  · rw [upI_ne (f' := 304) (by decide), upI_ne (f' := 305) (by decide)]; exact h.k8 i hi
  · rw [upI_ne (by decide), upI_ne (by decide)]; exact h.k9.1
  · rw [upI_ne (by decide), upI_ne (by decide)]; exact h.k9.2.1
  · rw [e0, upI_at]
  · rw [e0] at hi; omega
-- many slots are taken out
def gR1 (th : Nat → Option Nat) (R : Nat → Bool) (i : Nat) (s : Mem) : Mem := match th i with
  | none => s
  | some t => if R t = true then upI s 203 t (-2) else s
def thR (th : Nat → Option Nat) (R : Nat → Bool) (n i : Nat) : Option Nat := match th i with
  | none => none
  | some t => if i < n ∧ R t = true then none else some t
theorem gR_is (th : Nat → Option Nat) (R : Nat → Bool) (s : Mem) : ∀ n, (nfold (gR1 th R) s n).2 = s.2 ∧ (∀ f q, f ≠ 203 → (nfold (gR1 th R) s n).1 f q = s.1 f q) ∧ (∀ i t, i < n → th i = some t → R t = true → ((nfold (gR1 th R) s n).1 203 t) = -2) ∧ (∀ t, ¬ (R t = true ∧ ∃ i, i < n ∧ th i = some t) → ((nfold (gR1 th R) s n).1 203 t) = (s.1 203 t)) := by
  intro n
  induction n with
  | zero => exact ⟨rfl, fun _ _ _ => rfl, fun i t hi => by omega, fun _ _ => rfl⟩
  | succ n ih =>
    obtain ⟨a1, a2, a3, a4⟩ := ih
    rw [nfold_s]
    generalize nfold (gR1 th R) s n = u at *
    unfold gR1
    cases e : th n with
    | none =>
      refine ⟨a1, a2, fun i t hi ei hr => ?_, fun t hn => a4 t (fun z => hn ⟨z.1, ?_⟩)⟩
      · by_cases x : i = n
        · rw [x, e] at ei; cases ei
        · exact a3 i t (by omega) ei hr
      · obtain ⟨_, i, hi, ei⟩ := z; exact ⟨i, by omega, ei⟩
    | some v =>
      simp only
      by_cases hv : R v = true
      · rw [if_pos hv]
        refine ⟨a1, fun f q hf => by rw [upI_ne hf]; exact a2 f q hf, fun i t hi ei hr => ?_, fun t hn => ?_⟩
        · by_cases x : t = v
          · rw [x, upI_at]
          · rw [upI_nq x]
            refine a3 i t ?_ ei hr
            by_cases y : i = n
            · rw [y, e] at ei; cases ei; exact absurd rfl x
            · omega
        · have x : t ≠ v := fun x => hn ⟨by rw [x]; exact hv, n, by omega, by rw [e, x]⟩
          rw [upI_nq x]
          exact a4 t (fun z => hn ⟨z.1, by obtain ⟨_, i, hi, ei⟩ := z; exact ⟨i, by omega, ei⟩⟩)
      · rw [if_neg hv]
        refine ⟨a1, a2, fun i t hi ei hr => ?_, fun t hn => a4 t (fun z => hn ⟨z.1, ?_⟩)⟩
        · by_cases x : i = n
          · rw [x, e] at ei; cases ei; exact absurd hr hv
          · exact a3 i t (by omega) ei hr
        · obtain ⟨_, i, hi, ei⟩ := z; exact ⟨i, by omega, ei⟩
theorem thR_0 (R : Nat → Bool) : thR th R 0 = th := by
  funext i
  unfold thR
  cases th i with
  | none => rfl
  | some t => exact if_neg (fun z => by omega)
theorem thR_no {R : Nat → Bool} {n : Nat} (h : ∀ t, th n = some t → R t = false) : thR th R (n + 1) = thR th R n := by
  funext i
  unfold thR
  cases e : th i with
  | none => rfl
  | some t =>
    simp only
    by_cases x : i = n
    · rw [x] at e
      rw [if_neg (fun z => by rw [h t e] at z; cases z.2), if_neg (fun z => by omega)]
    · by_cases y : i < n ∧ R t = true
      · rw [if_pos ⟨by omega, y.2⟩, if_pos y]
      · rw [if_neg (fun z => y ⟨by omega, z.2⟩), if_neg y]
theorem thR_yes {R : Nat → Bool} {n t : Nat} (h : th n = some t) (hr : R t = true) : thR th R (n + 1) = thD (thR th R n) n := by
  funext i
  unfold thD
  by_cases x : i = n
  · rw [if_pos x, x]
    unfold thR
    rw [h]
    exact if_pos ⟨by omega, hr⟩
  · rw [if_neg x]
    unfold thR
    cases th i with
    | none => rfl
    | some v =>
      simp only
      by_cases y : i < n ∧ R v = true
      · rw [if_pos ⟨by omega, y.2⟩, if_pos y]
      · rw [if_neg (fun z => y ⟨by omega, z.2⟩), if_neg y]
theorem thR_ge {R : Nat → Bool} {n i : Nat} (h : n ≤ i) : thR th R n i = th i := by
  unfold thR
  cases th i with
  | none => rfl
  | some t => exact if_neg (fun z => by omega)
theorem thR_some {R : Nat → Bool} {n i t : Nat} (h : thR th R n i = some t) : th i = some t ∧ ¬ (i < n ∧ R t = true) := by
  unfold thR at h
  cases e : th i with
  | none => rw [e] at h; cases h
  | some v =>
    rw [e] at h
    simp only at h
    by_cases y : i < n ∧ R v = true
    · rw [if_pos y] at h; cases h
    · rw [if_neg y] at h
      cases h
      exact ⟨rfl, y⟩
theorem thR_keep {R : Nat → Bool} {n i t : Nat} (h : th i = some t) (hr : R t = false) : thR th R n i = some t := by
  unfold thR
  rw [h]
  exact if_neg (fun z => by rw [hr] at z; cases z.2)
theorem RB.rm1 {R : Nat → Bool} {n t : Nat} {s q q' : Mem} (k2 : ∀ i j t : Nat, i < 90 → j < 90 → th i = some t → th j = some t → i = j) (h : RB Λ c r (thR th R n) (nfold (gR1 th R) s n) (upI q 413 (r 0) 0)) (hn : n < 90) (e : th n = some t) (hr : R t = true) (hroot : ∀ i : Nat, i < 6 → (s.2.2 100 (c 1) i) ≠ some t)
    (e1 : q'.1 = q.1) (eY : ∀ kd q2 k, kd ≠ 4 → q'.2.1 kd q2 k = (upY (upY (upY q 1 (r 1) n 0) 51 (r 51) n 0) 52 (r 52) n 0).2.1 kd q2 k) (e4 : ∀ m : Nat, m < 270 → (q'.2.1 4 (r 4) m) = if (q.2.1 4 (r 4) m) = n then -1 else (q.2.1 4 (r 4) m)) : RB Λ c r (thR th R (n + 1)) (nfold (gR1 th R) s (n + 1)) (upI q' 413 (r 0) 0) := by
  obtain ⟨a1, a2, a3, a4⟩ := gR_is th R s n
  rw [thR_yes e hr, nfold_s]
  have eg : gR1 th R n (nfold (gR1 th R) s n) = upI (nfold (gR1 th R) s n) 203 t (-2) := by unfold gR1; rw [e]; simp only; rw [if_pos hr]
  rw [eg]
  have y0 : ((upI q 413 (r 0) 0).1 413 (r 0)) = 0 := upI_at
  refine h.remove hn (by rw [thR_ge (Nat.le_refl _)]; exact e) (fun u => ?_) (fun f q hf => upI_ne hf) (fun _ _ _ _ => rfl) (fun i hi => ?_) (fun i hi => ?_) ?_ (fun kd q2 k hk => ?_) (fun m hm => ?_)
  · rw [upI_1]
    by_cases x : u = t
    · rw [if_pos ⟨rfl, x⟩, if_pos x]
    · rw [if_neg (fun z => x z.2), if_neg x]
  · rw [a1]; exact hroot i hi
  · rw [y0] at hi; omega
  · show (upI q' 413 (r 0) 0).1 = (upI q 413 (r 0) 0).1
    unfold upI
    rw [e1]
  · exact eY kd q2 k hk
  · exact e4 m hm
end RY5
