/-! The full collection: meeting all that can be reached, in the reference. -/
section RF1
variable {l : Launch} {D : va_G} {Λ ΛR : Lam} {c r : Nat → Nat} {th : Nat → Option Nat} {σ0 σ ρ : Mem}
def mtN (r : Nat → Nat) (q : Mem) : Int := sumN (fun i => if (q.2.1 55 (r 55) i) = 0 then 0 else 1) 90
def mtC (r : Nat → Nat) (q : Mem) (i k : Nat) : Prop := ¬ (q.2.1 55 (r 55) i) = 0 → (k : Int) < (q.2.1 3 (r 3) i) → (q.2.1 4 (r 4) (3 * i + k)) < 0 ∨ ¬ (q.2.1 55 (r 55) ((q.2.1 4 (r 4) (3 * i + k))).toNat) = 0
-- what stays true while meeting goes on; ρ is where it began
def MT (Λ : Lam) (c r : Nat → Nat) (th : Nat → Option Nat) (σ ρ q : Mem) : Prop :=
  (q.1 = ρ.1) ∧
  (∀ kd q' k, kd ≠ 55 → q.2.1 kd q' k = ρ.2.1 kd q' k) ∧
  (∀ kd q' k, rng (q.2.1 kd q' k)) ∧
  (∀ i : Nat, i < 90 → ¬ (q.2.1 55 (r 55) i) = 0 → ∃ t, th i = some t ∧ Reach Λ c σ t) ∧
  (∀ i : Nat, i < 90 → ¬ (q.2.1 55 (r 55) i) = 0 → (q.2.1 55 (r 55) i) = 1)
theorem MT.e1 {Λ : Lam} {c r : Nat → Nat} {th : Nat → Option Nat} {σ ρ q : Mem} (h : MT Λ c r th σ ρ q) : q.1 = ρ.1 := h.1
theorem MT.ys {Λ : Lam} {c r : Nat → Nat} {th : Nat → Option Nat} {σ ρ q : Mem} (h : MT Λ c r th σ ρ q) : ∀ kd q' k, kd ≠ 55 → q.2.1 kd q' k = ρ.2.1 kd q' k := h.2.1
theorem MT.hr {Λ : Lam} {c r : Nat → Nat} {th : Nat → Option Nat} {σ ρ q : Mem} (h : MT Λ c r th σ ρ q) : ∀ kd q' k, rng (q.2.1 kd q' k) := h.2.2.1
theorem MT.so {Λ : Lam} {c r : Nat → Nat} {th : Nat → Option Nat} {σ ρ q : Mem} (h : MT Λ c r th σ ρ q) : ∀ i : Nat, i < 90 → ¬ (q.2.1 55 (r 55) i) = 0 → ∃ t, th i = some t ∧ Reach Λ c σ t := h.2.2.2.1
theorem MT.m01 {Λ : Lam} {c r : Nat → Nat} {th : Nat → Option Nat} {σ ρ q : Mem} (h : MT Λ c r th σ ρ q) : ∀ i : Nat, i < 90 → ¬ (q.2.1 55 (r 55) i) = 0 → (q.2.1 55 (r 55) i) = 1 := h.2.2.2.2
theorem upY_self {q : Mem} {kd a k : Nat} : upY q kd a k (q.2.1 kd a k) = q := by
  have e : (upY q kd a k (q.2.1 kd a k)).2.1 = q.2.1 := by
    funext kd' a' k'
    rw [upY_21]
    by_cases x : kd' = kd ∧ a' = a ∧ k' = k
    · rw [if_pos x, x.1, x.2.1, x.2.2]
    · rw [if_neg x]
  exact Prod.ext rfl (Prod.ext e rfl)
theorem MT.up {q : Mem} (h : MT Λ c r th σ ρ q) {j t : Nat} (ht : th j = some t) (hr : Reach Λ c σ t) : MT Λ c r th σ ρ (upY q 55 (r 55) j 1) := by
  refine ⟨h.e1, fun kd q' k hk => by rw [upY_nk hk]; exact h.ys kd q' k hk, rng_upY h.hr rng_1, fun i hi hm => ?_, fun i hi hm => ?_⟩
  · by_cases x : i = j
    · rw [x]; exact ⟨t, ht, hr⟩
    · rw [upY_ni x] at hm; exact h.so i hi hm
  · by_cases x : i = j
    · rw [x, upY_at]
    · rw [upY_ni x] at hm ⊢; exact h.m01 i hi hm
theorem mt_mono {q : Mem} {j i : Nat} (h : ¬ (q.2.1 55 (r 55) i) = 0) : ¬ (upY q 55 (r 55) j 1).2.1 55 (r 55) i = 0 := by
  by_cases x : i = j
  · rw [x, upY_at]; decide
  · rw [upY_ni x]; exact h
theorem mtN_up {q : Mem} {j : Nat} (hj : j < 90) (h : (q.2.1 55 (r 55) j) = 0) : mtN r (upY q 55 (r 55) j 1) = mtN r q + 1 := by
  have e : ∀ i, i < 90 → (if (upY q 55 (r 55) j 1).2.1 55 (r 55) i = 0 then (0 : Int) else 1) = (if (q.2.1 55 (r 55) i) = 0 then 0 else 1) + (if i = j then 1 else 0) := by
    intro i hi
    by_cases x : i = j
    · rw [x, upY_at, if_neg (by decide), if_pos h, if_pos rfl]; rfl
    · rw [upY_ni x, if_neg x]; omega
  unfold mtN
  rw [sumN_congr e, sumN_add, sumN_one (f := fun i => if i = j then (1 : Int) else 0) hj (fun i _ hi => if_neg hi), if_pos rfl]
theorem mtN_le (q : Mem) : 0 ≤ mtN r q ∧ mtN r q ≤ 90 := by
  unfold mtN
  constructor
  · have := sumN_le (f := fun _ => 0) (g := fun i => if (q.2.1 55 (r 55) i) = 0 then (0 : Int) else 1) (n := 90) (fun i _ => by split <;> omega)
    rw [sumN_const] at this
    omega
  · have := sumN_le (f := fun i => if (q.2.1 55 (r 55) i) = 0 then (0 : Int) else 1) (g := fun _ => 1) (n := 90) (fun i _ => by split <;> omega)
    rw [sumN_const] at this
    omega
theorem mtN_full {q : Mem} (h : 90 ≤ mtN r q) : ∀ i, i < 90 → ¬ (q.2.1 55 (r 55) i) = 0 := by
  intro i hi z
  have := sumN_lt (f := fun i => if (q.2.1 55 (r 55) i) = 0 then (0 : Int) else 1) (g := fun _ => 1) (n := 90) (a0 := i) (fun i _ => by split <;> omega) hi (by rw [if_pos z]; omega)
  rw [sumN_const] at this
  unfold mtN at h
  omega
theorem c_M_meetAll {P : Mem → Prop} (w : RW ΛR r ρ) (g : GD Λ c σ) (h : RB Λ c r th σ ρ) (h0 : ∀ i : Nat, i < 90 → (ρ.2.1 55 (r 55) i) = 0) (hp : ∀ q, q.1 = ρ.1 → (∀ kd q' k, kd ≠ 55 → q.2.1 kd q' k = ρ.2.1 kd q' k) → (∀ kd q' k, rng (q.2.1 kd q' k)) → (∀ i t : Nat, i < 90 → th i = some t → (¬ (q.2.1 55 (r 55) i) = 0 ↔ Reach Λ c σ t)) → P q) : K_M_meetAll l D ΛR ρ r P := by
  refine e_M_meetAll (fun x hl hD hx => ?_)
  subst hl; subst hD
  have hL := w.ly
  refine u_M_meetAll_0 hx hL ?_
  -- the end: closed and all roots met
  have fin : ∀ q, MT Λ c r th σ ρ q → (∀ j : Nat, j < 6 → (ρ.2.1 7 (r 7) j) < 0 ∨ ¬ (q.2.1 55 (r 55) ((ρ.2.1 7 (r 7) j)).toNat) = 0) → (∀ i k : Nat, i < 90 → mtC r q i k) → P q := by
    intro q hq hroot hcl
    refine hp q hq.e1 hq.ys hq.hr (fun i t hi e => ⟨fun z => ?_, fun z => ?_⟩)
    · obtain ⟨t', e', hr⟩ := hq.so i hi z
      rw [e] at e'
      cases e'
      exact hr
    · have key : Reach Λ c σ t ∧ ∃ i' : Nat, i' < 90 ∧ th i' = some t ∧ ¬ (q.2.1 55 (r 55) i') = 0 := by
        refine z (fun t => Reach Λ c σ t ∧ ∃ i' : Nat, i' < 90 ∧ th i' = some t ∧ ¬ (q.2.1 55 (r 55) i') = 0) (fun k u hk er => ⟨Reach.root hk er, ?_⟩) (fun u k v hu hk hf => ⟨hu.1.fld hk hf, ?_⟩)
        · rcases h.k7 k hk with ⟨_, f2⟩ | ⟨j, u', hj, f1, f2, f3⟩
          · rw [f2] at er; cases er
          · rw [f3] at er
            cases er
            refine ⟨j, hj, f2, ?_⟩
            rcases hroot k hk with y | y
            · omega
            · rw [f1, Int.toNat_natCast] at y; exact y
        · obtain ⟨hRu, i', hi', ei', hm'⟩ := hu
          have e3 := (h.k4 i' u hi' ei').2.1
          rcases h.k6 i' u k hi' ei' hk with (⟨_, f2⟩ | ⟨j, v', hj, f1, f2, f3⟩) | ⟨_, v', f2, f3⟩
          · rw [f2] at hf; cases hf
          · rw [f3] at hf
            cases hf
            refine ⟨j, hj, f2, ?_⟩
            have := hcl i' k hi' hm' (by rw [hq.ys 3 _ _ (by decide)]; omega)
            rw [hq.ys 4 _ _ (by decide), f1] at this
            rcases this with y | y
            · omega
            · rw [Int.toNat_natCast] at y; exact y
          · rw [f2] at hf
            cases hf
            exact absurd f3 (g.s5 v (hRu.fld hk f2))
      obtain ⟨_, i', hi', ei', hm'⟩ := key
      rw [h.k2 i i' t hi hi' e ei']
      exact hm'
  have rounds : ∀ n rd : Nat, rd + n = 90 → ∀ (q : Mem) (mo : Int), MT Λ c r th σ ρ q → (∀ j : Nat, j < 6 → (ρ.2.1 7 (r 7) j) < 0 ∨ ¬ (q.2.1 55 (r 55) ((ρ.2.1 7 (r 7) j)).toNat) = 0) → (mo = 0 ∨ mo = 1) → (mo = 0 → ∀ i k : Nat, i < 90 → mtC r q i k) → (mo = 1 → (rd : Int) ≤ mtN r q) → N_M_meetAll_39 x P ΛR q r mo rd := by
    intro n
    induction n with
    | zero =>
      intro rd hrd q mo hq hroot hmo hcl hcnt
      refine u_M_meetAll_39 hx hL ⟨⟨by omega, by omega⟩, fun _ => fin q hq hroot ?_, fun z => absurd (by omega) z⟩
      rcases hmo with e | e
      · exact hcl e
      · intro i k hi _ hk
        have full := mtN_full (r := r) (q := q) (by have := hcnt e; omega)
        have e3 : (q.2.1 3 (r 3) i) = (ρ.2.1 3 (r 3) i) := hq.ys _ _ _ (by decide)
        have hfd := w.fd i hi
        have hrf := w.rf (3 * i + k) (by omega)
        have e4 : (q.2.1 4 (r 4) (3 * i + k)) = (ρ.2.1 4 (r 4) (3 * i + k)) := hq.ys _ _ _ (by decide)
        rw [e4]
        by_cases y : (ρ.2.1 4 (r 4) (3 * i + k)) < 0
        · exact Or.inl y
        · exact Or.inr (full _ (by omega))
    | succ n ih =>
      intro rd hrd q mo hq hroot hmo hcl hcnt
      refine u_M_meetAll_39 hx hL ⟨⟨by omega, by omega⟩, fun z => absurd z (by omega), fun _ => ⟨by rcases hmo with e | e <;> rw [e] <;> exact ⟨by omega, by omega⟩, fun z => fin q hq hroot (hcl z), fun z => ?_⟩⟩
      have hmo1 : mo = 1 := by omega
      have hc0 := hcnt hmo1
      -- one round: q is where it began
      have scan : ∀ m i : Nat, i + m = 90 → ∀ (q2 : Mem) (m2 : Int), MT Λ c r th σ ρ q2 → (∀ j : Nat, j < 6 → (ρ.2.1 7 (r 7) j) < 0 ∨ ¬ (q2.2.1 55 (r 55) ((ρ.2.1 7 (r 7) j)).toNat) = 0) → (m2 = 0 ∨ m2 = 1) → (m2 = 0 → q2 = q ∧ ∀ i' k : Nat, i' < i → mtC r q i' k) → (m2 = 1 → mtN r q + 1 ≤ mtN r q2) → N_M_meetAll_53 x P ΛR q2 r m2 rd i := by
        intro m
        induction m with
        | zero =>
          intro i hi q2 m2 h2 hroot2 hm2 hz hone
          refine u_M_meetAll_53 hx hL ⟨⟨by omega, by omega⟩, fun _ => ?_, fun z => absurd (by omega) z⟩
          refine ih (rd + 1) (by omega) q2 m2 h2 hroot2 hm2 (fun e => ?_) (fun e => ?_)
          · obtain ⟨e1, e2⟩ := hz e
            rw [e1]
            exact fun i' k hi' => e2 i' k (by omega)
          · have := hone e
            omega
        | succ m ihm =>
          intro i hi q2 m2 h2 hroot2 hm2 hz hone
          have hi9 : i < 90 := by omega
          refine u_M_meetAll_53 hx hL ⟨⟨by omega, by omega⟩, fun z => absurd z (by omega), fun _ => ?_⟩
          have hfd := w.fd i hi9
          -- the fields of slot i
          have flds : ∀ mk k : Nat, k + mk = 4 → ∀ (q3 : Mem) (m3 : Int), MT Λ c r th σ ρ q3 → (∀ j : Nat, j < 6 → (ρ.2.1 7 (r 7) j) < 0 ∨ ¬ (q3.2.1 55 (r 55) ((ρ.2.1 7 (r 7) j)).toNat) = 0) → (m3 = 0 ∨ m3 = 1) → (m3 = 0 → q3 = q ∧ (∀ i' k' : Nat, i' < i → mtC r q i' k') ∧ ∀ k' : Nat, k' < k → mtC r q i k') → (m3 = 1 → mtN r q + 1 ≤ mtN r q3) → N_M_meetAll_62 x P ΛR q3 r m3 rd i k := by
            intro mk
            induction mk with
            | zero =>
              intro k hk q3 m3 h3 hroot3 hm3 hz3 hone3
              have e3 : (q3.2.1 3 (r 3) i) = (ρ.2.1 3 (r 3) i) := h3.ys _ _ _ (by decide)
              have next : N_M_meetAll_53 x P ΛR q3 r m3 rd (i + 1 : Nat) := by
                refine ihm (i + 1) (by omega) q3 m3 h3 hroot3 hm3 (fun e => ?_) hone3
                obtain ⟨a1, a2, a3⟩ := hz3 e
                refine ⟨a1, fun i' k' hi' => ?_⟩
                by_cases y : i' = i
                · rw [y]
                  by_cases y2 : k' < k
                  · exact a3 k' y2
                  · intro _ hkf
                    rw [← a1] at hkf
                    omega
                · exact a2 i' k' (by omega)
              refine u_M_meetAll_62 hx hL ⟨by omega, by omega, h3.hr _ _ _, fun _ => next, fun _ => ⟨by omega, by omega, ⟨by omega, by omega⟩, h3.hr _ _ _, fun _ => next, fun z => absurd ?_ z⟩⟩
              show (q3.2.1 3 (r 3) i) ≤ k
              omega
            | succ mk ihk =>
              intro k hk q3 m3 h3 hroot3 hm3 hz3 hone3
              have e3 : (q3.2.1 3 (r 3) i) = (ρ.2.1 3 (r 3) i) := h3.ys _ _ _ (by decide)
              have rm3 : rng m3 := by rcases hm3 with e | e <;> rw [e] <;> exact ⟨by omega, by omega⟩
              have next : (m3 = 0 → ∀ k' : Nat, k ≤ k' → mtC r q i k') → N_M_meetAll_53 x P ΛR q3 r m3 rd (i + 1 : Nat) := by
                intro hk2
                refine ihm (i + 1) (by omega) q3 m3 h3 hroot3 hm3 (fun e => ?_) hone3
                obtain ⟨a1, a2, a3⟩ := hz3 e
                refine ⟨a1, fun i' k' hi' => ?_⟩
                by_cases y : i' = i
                · rw [y]
                  by_cases y2 : k' < k
                  · exact a3 k' y2
                  · exact hk2 e k' (by omega)
                · exact a2 i' k' (by omega)
              refine u_M_meetAll_62 hx hL ⟨by omega, by omega, h3.hr _ _ _, fun z => next (fun e k' _ hm _ => ?_), fun z1 => ⟨by omega, by omega, ⟨by omega, by omega⟩, h3.hr _ _ _, fun z => next (fun e k' hk' _ hkf => ?_), fun z2 => ⟨by omega, ?_, ?_⟩⟩⟩
              · exfalso
                rw [← (hz3 e).1] at hm
                exact hm z
              · exfalso
                have z : (q3.2.1 3 (r 3) i) ≤ k := z
                rw [← (hz3 e).1] at hkf
                omega
              · have z2 : ¬ (q3.2.1 3 (r 3) i) ≤ k := z2
                omega
              · have z2 : ¬ (q3.2.1 3 (r 3) i) ≤ k := z2
                have z1 : ¬ (q3.2.1 55 (r 55) i) = 0 := z1
                have ei : (3 * (i : Int) + (k : Int)).toNat = 3 * i + k := by omega
                rw [ei]
                have e4 : (q3.2.1 4 (r 4) (3 * i + k)) = (ρ.2.1 4 (r 4) (3 * i + k)) := h3.ys _ _ _ (by decide)
                have hrf := w.rf (3 * i + k) (by omega)
                obtain ⟨t, et, hRt⟩ := h3.so i hi9 z1
                have nf := (h.k4 i t hi9 et).2.1
                -- a reference that is not negative is to something that can be reached
                have tgt : ¬ (q3.2.1 4 (r 4) (3 * i + k)) < 0 → ∃ j u : Nat, j < 90 ∧ (q3.2.1 4 (r 4) (3 * i + k)) = j ∧ th j = some u ∧ Reach Λ c σ u := by
                  intro y
                  rw [e4] at y ⊢
                  rcases h.k6 i t k hi9 et (by omega) with (⟨f1, _⟩ | ⟨j, u, hj, f1, f2, f3⟩) | ⟨f1, _⟩
                  · omega
                  · exact ⟨j, u, hj, f1, f2, hRt.fld (by omega) f3⟩
                  · omega
                have step : ∀ m4 : Int, (m4 = 0 ∨ m4 = 1) → (m4 = 0 → m3 = 0 ∧ ((q3.2.1 4 (r 4) (3 * i + k)) < 0 ∨ ¬ (q3.2.1 55 (r 55) ((q3.2.1 4 (r 4) (3 * i + k))).toNat) = 0)) → (m4 = 1 → m3 = 1 ∨ (m3 = 0 ∧ ¬ (q3.2.1 4 (r 4) (3 * i + k)) < 0 ∧ (q3.2.1 55 (r 55) ((q3.2.1 4 (r 4) (3 * i + k))).toNat) = 0)) → N_M_meetAll_119 x P ΛR q3 r rd i k ((q3.2.1 4 (r 4) (3 * i + k))) m4 := by
                  intro m4 hm4 hA hB
                  refine u_M_meetAll_119 hx hL ⟨h3.hr _ _ _, fun y => ?_, fun y => ?_⟩
                  · refine ihk (k + 1) (by omega) q3 m4 h3 hroot3 hm4 (fun e => ?_) (fun e => ?_)
                    · obtain ⟨b1, b2⟩ := hA e
                      obtain ⟨a1, a2, a3⟩ := hz3 b1
                      refine ⟨a1, a2, fun k' hk' => ?_⟩
                      by_cases y2 : k' = k
                      · rw [y2, ← a1]; exact fun _ _ => b2
                      · exact a3 k' (by omega)
                    · rcases hB e with b | ⟨_, b, _⟩
                      · exact hone3 b
                      · exact absurd y b
                  · obtain ⟨j, u, hj, f1, f2, f3⟩ := tgt y
                    rw [f1]
                    refine ⟨by omega, by omega, ?_⟩
                    rw [Int.toNat_natCast]
                    rw [f1, Int.toNat_natCast] at hA hB
                    refine ihk (k + 1) (by omega) _ m4 (h3.up f2 f3) (fun jj hjj => ?_) hm4 (fun e => ?_) (fun e => ?_)
                    · rcases hroot3 jj hjj with b | b
                      · exact Or.inl b
                      · exact Or.inr (mt_mono b)
                    · obtain ⟨b1, b2⟩ := hA e
                      obtain ⟨a1, a2, a3⟩ := hz3 b1
                      have bm : ¬ (q3.2.1 55 (r 55) j) = 0 := by
                        rcases b2 with b2 | b2
                        · omega
                        · exact b2
                      have e01 : (q3.2.1 55 (r 55) j) = 1 := h3.m01 j hj bm
                      have same : upY q3 55 (r 55) j 1 = q3 := by
                        rw [← e01]
                        exact upY_self
                      rw [same]
                      refine ⟨a1, a2, fun k' hk' => ?_⟩
                      by_cases y2 : k' = k
                      · rw [y2, ← a1]
                        intro _ _
                        right
                        rw [f1, Int.toNat_natCast]
                        exact bm
                      · exact a3 k' (by omega)
                    · rcases hB e with b | ⟨b1, _, b3⟩
                      · have := hone3 b
                        have mono : mtN r q3 ≤ mtN r (upY q3 55 (r 55) j 1) := by
                          unfold mtN
                          refine sumN_le (fun i2 hi2 => ?_)
                          by_cases y3 : i2 = j
                          · rw [y3, upY_at]
                            have e1 : (if (1 : Int) = 0 then (0 : Int) else 1) = 1 := rfl
                            rw [e1]
                            split <;> omega
                          · rw [upY_ni y3]
                            exact Int.le_refl _
                        omega
                      · rw [mtN_up hj b3, (hz3 b1).1]
                        exact Int.le_refl _
                refine ⟨rm3, fun y => step 1 (Or.inr rfl) (fun e => absurd e (by decide)) (fun _ => Or.inl (hm3.resolve_left y)), fun y => ⟨h3.hr _ _ _, fun y2 => u_M_meetAll_118 hx hL (step 0 (Or.inl rfl) (fun _ => ⟨y, Or.inl y2⟩) (fun e => absurd e (by decide))), fun y2 => ⟨Int.not_lt.mp y2, ?_, h3.hr _ _ _, fun y3 => u_M_meetAll_118 hx hL (step 0 (Or.inl rfl) (fun _ => ⟨y, Or.inr y3⟩) (fun e => absurd e (by decide))), fun y3 => step 1 (Or.inr rfl) (fun e => absurd e (by decide)) (fun _ => Or.inr ⟨y, y2, y3⟩)⟩⟩⟩
                rw [e4]; exact hrf.2
          refine flds 4 0 rfl q2 m2 h2 hroot2 hm2 (fun e => ⟨(hz e).1, (hz e).2, fun k' hk' => by omega⟩) hone
      exact scan 90 0 rfl q 0 hq hroot (Or.inl rfl) (fun _ => ⟨rfl, fun i' k hi' => by omega⟩) (fun e => absurd e (by decide))
  have roots : ∀ n i : Nat, i + n = 6 → ∀ q : Mem, MT Λ c r th σ ρ q → (∀ j : Nat, j < i → (ρ.2.1 7 (r 7) j) < 0 ∨ ¬ (q.2.1 55 (r 55) ((ρ.2.1 7 (r 7) j)).toNat) = 0) → N_M_meetAll_2 x P ΛR q r i := by
    intro n
    induction n with
    | zero =>
      intro i hi q hq hroot
      refine u_M_meetAll_2 hx hL ⟨⟨by omega, by omega⟩, fun _ => ?_, fun z => absurd (by omega) z⟩
      refine rounds 90 0 rfl q 1 hq (fun j hj => hroot j (by omega)) (Or.inr rfl) (fun e => absurd e (by decide)) (fun _ => ?_)
      have := (mtN_le (r := r) q).1
      omega
    | succ n ih =>
      intro i hi q hq hroot
      have e7 : (q.2.1 7 (r 7) i) = (ρ.2.1 7 (r 7) i) := hq.ys _ _ _ (by decide)
      refine u_M_meetAll_2 hx hL ⟨⟨by omega, by omega⟩, fun z => absurd z (by omega), fun _ => ⟨by omega, by omega, hq.hr _ _ _, fun z => ?_, fun z => ?_⟩⟩
      · have z : (q.2.1 7 (r 7) i) < 0 := z
        refine ih (i + 1) (by omega) q hq (fun j hj => ?_)
        by_cases y : j = i
        · rw [y]; exact Or.inl (by omega)
        · exact hroot j (by omega)
      · have z : ¬ (q.2.1 7 (r 7) i) < 0 := z
        rcases h.k7 i (by omega) with ⟨f1, _⟩ | ⟨j, u, hj, f1, f2, f3⟩
        · omega
        · have e8 : (q.2.1 7 (r 7) ((i : Nat) : Int).toNat) = j := by
            show (q.2.1 7 (r 7) i) = j
            omega
          rw [e8]
          refine ⟨by omega, by omega, by omega, by omega, ?_⟩
          rw [Int.toNat_natCast]
          refine ih (i + 1) (by omega) _ (hq.up f2 (Reach.root (by omega) f3)) (fun j2 hj2 => ?_)
          by_cases y : j2 = i
          · rw [y, f1, Int.toNat_natCast, upY_at]; exact Or.inr (by decide)
          · rcases hroot j2 (by omega) with b | b
            · exact Or.inl b
            · exact Or.inr (mt_mono b)
  exact roots 6 0 rfl ρ ⟨rfl, fun _ _ _ _ => rfl, w.ry, fun i hi hm => absurd (h0 i hi) hm, fun i hi hm => absurd (h0 i hi) hm⟩ (fun j hj => by omega)
end RF1
