/-! The young collection: its reaching. σ0 is the state in which it began. -/
def YA (Λ : Lam) (c : Nat → Nat) (σ0 σ : Mem) : Prop :=
  (GB Λ c σ) ∧
  (∀ kd q k, kd ≠ 102 → ¬ (kd = 101 ∧ q = c 7) → σ.2.2 kd q k = σ0.2.2 kd q k) ∧
  (∀ f q, f ≠ 202 → f ≠ 203 → f ≠ 204 → f ≠ 206 → f ≠ 304 → ¬ (f = 101 ∧ q = c 6) → σ.1 f q = σ0.1 f q) ∧
  (∀ t, isT Λ t → (σ.1 203 t) = (σ0.1 203 t) ∨ ((σ0.1 203 t) = -1 ∧ 0 ≤ (σ.1 203 t) ∧ (σ.1 206 t) = 1 ∧ (σ.1 204 t) = (if (σ0.1 306 (c 0)) = 0 then 0 else 1))) ∧
  (∀ t, isT Λ t → (σ.1 203 t) = (σ0.1 203 t) → (σ.1 204 t) = (σ0.1 204 t)) ∧
  (∀ t, isT Λ t → ((σ.1 206 t) = 1 ↔ ∃ i : Nat, (i : Int) < (σ.1 101 (c 6)) ∧ σ.2.2 101 (c 7) i = some t)) ∧
  (∀ t, isT Λ t → (σ.1 206 t) = 1 → (σ0.1 203 t) = -1) ∧
  (∀ i j : Nat, (i : Int) < (σ.1 101 (c 6)) → (j : Int) < (σ.1 101 (c 6)) → σ.2.2 101 (c 7) i = σ.2.2 101 (c 7) j → i = j) ∧
  (∀ i, cb ((σ0.1 304 (c 0))) i = true → cb ((σ.1 304 (c 0))) i = true) ∧
  (∀ t, isT Λ t → (σ0.1 203 t) = -1 → 0 ≤ (σ.1 203 t) → ∀ j : Int, 0 ≤ j → j < szI Λ t → cb ((σ.1 304 (c 0))) (((σ.1 203 t) + j).toNat / 8) = true) ∧
  (∀ i, cb ((σ.1 304 (c 0))) i = true → cb ((σ0.1 304 (c 0))) i = true ∨ ∃ t, isT Λ t ∧ (σ0.1 203 t) = -1 ∧ 0 ≤ (σ.1 203 t))
theorem YA.gb {Λ : Lam} {c : Nat → Nat} {σ0 σ : Mem} (h : YA Λ c σ0 σ) : GB Λ c σ := h.1
theorem YA.kx {Λ : Lam} {c : Nat → Nat} {σ0 σ : Mem} (h : YA Λ c σ0 σ) : ∀ kd q k, kd ≠ 102 → ¬ (kd = 101 ∧ q = c 7) → σ.2.2 kd q k = σ0.2.2 kd q k := h.2.1
theorem YA.ki {Λ : Lam} {c : Nat → Nat} {σ0 σ : Mem} (h : YA Λ c σ0 σ) : ∀ f q, f ≠ 202 → f ≠ 203 → f ≠ 204 → f ≠ 206 → f ≠ 304 → ¬ (f = 101 ∧ q = c 6) → σ.1 f q = σ0.1 f q := h.2.2.1
theorem YA.aa {Λ : Lam} {c : Nat → Nat} {σ0 σ : Mem} (h : YA Λ c σ0 σ) : ∀ t, isT Λ t → (σ.1 203 t) = (σ0.1 203 t) ∨ ((σ0.1 203 t) = -1 ∧ 0 ≤ (σ.1 203 t) ∧ (σ.1 206 t) = 1 ∧ (σ.1 204 t) = (if (σ0.1 306 (c 0)) = 0 then 0 else 1)) := h.2.2.2.1
theorem YA.mk {Λ : Lam} {c : Nat → Nat} {σ0 σ : Mem} (h : YA Λ c σ0 σ) : ∀ t, isT Λ t → (σ.1 203 t) = (σ0.1 203 t) → (σ.1 204 t) = (σ0.1 204 t) := h.2.2.2.2.1
theorem YA.rl {Λ : Lam} {c : Nat → Nat} {σ0 σ : Mem} (h : YA Λ c σ0 σ) : ∀ t, isT Λ t → ((σ.1 206 t) = 1 ↔ ∃ i : Nat, (i : Int) < (σ.1 101 (c 6)) ∧ σ.2.2 101 (c 7) i = some t) := h.2.2.2.2.2.1
theorem YA.r0 {Λ : Lam} {c : Nat → Nat} {σ0 σ : Mem} (h : YA Λ c σ0 σ) : ∀ t, isT Λ t → (σ.1 206 t) = 1 → (σ0.1 203 t) = -1 := h.2.2.2.2.2.2.1
theorem YA.rd {Λ : Lam} {c : Nat → Nat} {σ0 σ : Mem} (h : YA Λ c σ0 σ) : ∀ i j : Nat, (i : Int) < (σ.1 101 (c 6)) → (j : Int) < (σ.1 101 (c 6)) → σ.2.2 101 (c 7) i = σ.2.2 101 (c 7) j → i = j := h.2.2.2.2.2.2.2.1
theorem YA.dd {Λ : Lam} {c : Nat → Nat} {σ0 σ : Mem} (h : YA Λ c σ0 σ) : ∀ i, cb ((σ0.1 304 (c 0))) i = true → cb ((σ.1 304 (c 0))) i = true := h.2.2.2.2.2.2.2.2.1
theorem YA.du {Λ : Lam} {c : Nat → Nat} {σ0 σ : Mem} (h : YA Λ c σ0 σ) : ∀ t, isT Λ t → (σ0.1 203 t) = -1 → 0 ≤ (σ.1 203 t) → ∀ j : Int, 0 ≤ j → j < szI Λ t → cb ((σ.1 304 (c 0))) (((σ.1 203 t) + j).toNat / 8) = true := h.2.2.2.2.2.2.2.2.2.1
theorem YA.dn {Λ : Lam} {c : Nat → Nat} {σ0 σ : Mem} (h : YA Λ c σ0 σ) : ∀ i, cb ((σ.1 304 (c 0))) i = true → cb ((σ0.1 304 (c 0))) i = true ∨ ∃ t, isT Λ t ∧ (σ0.1 203 t) = -1 ∧ 0 ≤ (σ.1 203 t) := h.2.2.2.2.2.2.2.2.2.2
-- the young things of σ0 are those of its list
def YL (Λ : Lam) (c : Nat → Nat) (σ : Mem) : Prop := (∀ t, isT Λ t → ((σ.1 203 t) = -1 ↔ ∃ i : Nat, (i : Int) < (σ.1 101 (c 2)) ∧ σ.2.2 101 (c 3) i = some t)) ∧ (∀ i j : Nat, (i : Int) < (σ.1 101 (c 2)) → (j : Int) < (σ.1 101 (c 2)) → σ.2.2 101 (c 3) i = σ.2.2 101 (c 3) j → i = j)
section YAS
variable {Λ : Lam} {c : Nat → Nat} {σ0 σ : Mem}
-- fewer are reached than are young
theorem YA.few (h : YA Λ c σ0 σ) (hy : YL Λ c σ0) : (σ.1 101 (c 6)) ≤ (σ0.1 101 (c 2)) := by
  classical
  have q0 := h.gb.wf.q0
  have y0 := h.gb.wf.y0
  rw [h.ki 101 (c 2) (by decide) (by decide) (by decide) (by decide) (by decide) (fun z => h.gb.wf.ly.ne26 z.2)] at y0
  have key : ∀ i : Nat, (i : Int) < (σ.1 101 (c 6)) → ∃ j : Nat, (j : Int) < (σ0.1 101 (c 2)) ∧ σ0.2.2 101 (c 3) j = σ.2.2 101 (c 7) i := by
    intro i hi
    obtain ⟨t, ht⟩ := h.gb.wf.ql i hi
    have hT := h.gb.wf.ty _ _ _ _ ht
    obtain ⟨j, hj, e⟩ := (hy.1 t hT).mp (h.r0 t hT ((h.rl t hT).mpr ⟨i, hi, ht⟩))
    exact ⟨j, hj, e.trans ht.symm⟩
  have hp := pigeon (n := ((σ.1 101 (c 6))).toNat) (m := ((σ0.1 101 (c 2))).toNat) (fun i => if hi : (i : Int) < (σ.1 101 (c 6)) then (key i hi).choose else 0)
    (fun i hi => by
      have hi' : (i : Int) < (σ.1 101 (c 6)) := by omega
      simp only [dif_pos hi']
      have := (key i hi').choose_spec.1
      omega)
    (fun i hi j hj e => by
      have hi' : (i : Int) < (σ.1 101 (c 6)) := by omega
      have hj' : (j : Int) < (σ.1 101 (c 6)) := by omega
      simp only [dif_pos hi', dif_pos hj'] at e
      have h1 := (key i hi').choose_spec.2
      have h2 := (key j hj').choose_spec.2
      rw [e] at h1
      exact h.rd i j hi' hj' (h1.symm.trans h2))
  omega
theorem GB.upAge (h : GB Λ c σ) {q : Nat} {v : Int} (hv : 0 ≤ v ∧ v ≤ 9) : GB Λ c (upI σ 202 q v) := ⟨h.wf.upAge hv, h.ad, h.ce, h.fl, h.ym, h.gm, h.d8, h.n8, h.ph, h.sw⟩
theorem reach_new {t : Nat} {s : Mem} (h0 : (s.1 206 t) = 0) (hc : (s.1 101 (c 6)) < 84) : fReach (c 6) (c 7) 84 (some t) s = (1, upI (gAdd (c 6) (c 7) (some t) s) 206 t 1) := by
  unfold fReach
  simp only
  rw [if_pos h0, if_neg (by omega)]
theorem reach_old {t : Nat} {s : Mem} (h0 : (s.1 206 t) ≠ 0) : fReach (c 6) (c 7) 84 (some t) s = (0, s) := by
  unfold fReach
  simp only
  rw [if_neg h0]
theorem rn_1 {t : Nat} {s : Mem} (f q : Nat) : (upI (gAdd (c 6) (c 7) (some t) s) 206 t 1).1 f q = if f = 206 ∧ q = t then 1 else if f = 101 ∧ q = c 6 then (s.1 101 (c 6)) + 1 else s.1 f q := by
  rw [upI_1]
  split
  · rfl
  · unfold gAdd
    rw [upI_1]
    rfl
theorem rn_2 {t : Nat} {s : Mem} (kd q k : Nat) : (upI (gAdd (c 6) (c 7) (some t) s) 206 t 1).2.2 kd q k = if kd = 101 ∧ q = c 7 ∧ k = ((s.1 101 (c 6))).toNat then some t else s.2.2 kd q k := rfl
theorem GB.reached (h : GB Λ c σ) {t : Nat} (ht : isT Λ t) (hc : (σ.1 101 (c 6)) < 84) : GB Λ c (upI (gAdd (c 6) (c 7) (some t) σ) 206 t 1) := by
  have e1 : ∀ f q, f ≠ 206 → f ≠ 101 → (upI (gAdd (c 6) (c 7) (some t) σ) 206 t 1).1 f q = σ.1 f q := by
    intro f q h1 h2
    rw [rn_1, if_neg (fun z => h1 z.1), if_neg (fun z => h2 z.1)]
  refine ⟨(h.wf.addQ ht hc).upT (by decide) (by decide) (by decide) ⟨by omega, by omega⟩, fun u hu => ?_, fun a u ha => ?_, fun u hu => ?_, fun u hu => ?_, fun u hu => ?_, ?_, ?_, ?_, ?_⟩
  · rw [e1 _ _ (by decide) (by decide)]; exact h.ad u hu
  · rw [e1 _ _ (by decide) (by decide), rn_2, if_neg (by omega)]
    exact h.ce a u ha
  · rw [e1 _ _ (by decide) (by decide), e1 _ _ (by decide) (by decide)]
    refine ⟨(h.fl u hu).1, (h.fl u hu).2.1, ?_⟩
    rw [rn_1]
    split
    · exact Or.inr rfl
    · rw [if_neg (by omega)]
      exact (h.fl u hu).2.2
  · rw [e1 _ _ (by decide) (by decide), e1 _ _ (by decide) (by decide), e1 _ _ (by decide) (by decide)]; exact h.ym u hu
  · rw [e1 _ _ (by decide) (by decide), e1 _ _ (by decide) (by decide), e1 _ _ (by decide) (by decide)]; exact h.gm u hu
  · rw [e1 _ _ (by decide) (by decide)]; exact h.d8
  · rw [e1 _ _ (by decide) (by decide)]; exact h.n8
  · rw [e1 _ _ (by decide) (by decide)]; exact h.ph
  · rw [e1 _ _ (by decide) (by decide)]; exact h.sw
-- first the new one is put into the row, and grows older
theorem YA.push (h : YA Λ c σ0 σ) {t : Nat} (ht : isT Λ t) (hy : (σ.1 203 t) = -1) (h0 : (σ.1 206 t) = 0) (hc : (σ.1 101 (c 6)) < 84) {v : Int} (hv : 0 ≤ v ∧ v ≤ 9) : YA Λ c σ0 (upI (upI (gAdd (c 6) (c 7) (some t) σ) 206 t 1) 202 t v) := by
  have q0 := h.gb.wf.q0
  have e1 : ∀ f q, f ≠ 206 → f ≠ 101 → f ≠ 202 → (upI (upI (gAdd (c 6) (c 7) (some t) σ) 206 t 1) 202 t v).1 f q = σ.1 f q := by
    intro f q h1 h2 h3
    rw [upI_ne h3, rn_1, if_neg (fun z => h1 z.1), if_neg (fun z => h2 z.1)]
  have eC : (upI (upI (gAdd (c 6) (c 7) (some t) σ) 206 t 1) 202 t v).1 101 (c 6) = (σ.1 101 (c 6)) + 1 := by
    rw [upI_ne (by decide), rn_1, if_neg (by omega), if_pos ⟨rfl, rfl⟩]
  have eR : ∀ u, (upI (upI (gAdd (c 6) (c 7) (some t) σ) 206 t 1) 202 t v).1 206 u = if u = t then 1 else (σ.1 206 u) := by
    intro u
    rw [upI_ne (by decide), rn_1]
    by_cases e : u = t
    · rw [if_pos ⟨rfl, e⟩, if_pos e]
    · rw [if_neg (fun z => e z.2), if_neg (by omega), if_neg e]
  have eX : ∀ kd q k, (upI (upI (gAdd (c 6) (c 7) (some t) σ) 206 t 1) 202 t v).2.2 kd q k = if kd = 101 ∧ q = c 7 ∧ k = ((σ.1 101 (c 6))).toNat then some t else σ.2.2 kd q k := fun kd q k => rfl
  have hy0 : (σ0.1 203 t) = -1 := by
    rcases h.aa t ht with e | ⟨e, _⟩
    · rw [← e]; exact hy
    · exact e
  refine ⟨(h.gb.reached ht hc).upAge hv, fun kd q k h1 h2 => ?_, fun f q h1 h2 h3 h4 h5 h6 => ?_, fun u hu => ?_, fun u hu => ?_, fun u hu => ?_, fun u hu => ?_, fun i j hi hj => ?_, fun i hi => ?_, fun u hu => ?_, fun i hi => ?_⟩
  · rw [eX, if_neg (fun z => h2 ⟨z.1, z.2.1⟩)]; exact h.kx kd q k h1 h2
  · rw [upI_ne h1, rn_1, if_neg (fun z => h4 z.1), if_neg h6]
    exact h.ki f q h1 h2 h3 h4 h5 h6
  · rw [e1 203 u (by decide) (by decide) (by decide), e1 204 u (by decide) (by decide) (by decide), eR]
    rcases h.aa u hu with e | ⟨a1, a2, a3, a4⟩
    · exact Or.inl e
    · refine Or.inr ⟨a1, a2, ?_, a4⟩
      split
      · rfl
      · exact a3
  · rw [e1 _ _ (by decide) (by decide) (by decide), e1 _ _ (by decide) (by decide) (by decide)]; exact h.mk u hu
  · rw [eR, eC]
    constructor
    · intro hr
      by_cases e : u = t
      · refine ⟨((σ.1 101 (c 6))).toNat, by omega, ?_⟩
        rw [eX, if_pos ⟨rfl, rfl, rfl⟩, e]
      · rw [if_neg e] at hr
        obtain ⟨i, hi, hx⟩ := (h.rl u hu).mp hr
        refine ⟨i, by omega, ?_⟩
        rw [eX, if_neg (by omega)]
        exact hx
    · rintro ⟨i, hi, hx⟩
      rw [eX] at hx
      by_cases e : u = t
      · rw [if_pos e]
      · rw [if_neg e]
        split at hx
        · cases hx; exact absurd rfl e
        · refine (h.rl u hu).mpr ⟨i, ?_, hx⟩
          rename_i hne
          have : i ≠ ((σ.1 101 (c 6))).toNat := fun z => hne ⟨rfl, rfl, z⟩
          omega
  · rw [eR]
    intro hr
    by_cases e : u = t
    · rw [e]; exact hy0
    · rw [if_neg e] at hr
      exact h.r0 u hu hr
  · rw [eC] at hi hj
    rw [eX, eX]
    have nt : ∀ k : Nat, (k : Int) < (σ.1 101 (c 6)) → σ.2.2 101 (c 7) k ≠ some t := by
      intro k hk hx
      have := (h.rl t ht).mpr ⟨k, hk, hx⟩
      omega
    by_cases ei : i = ((σ.1 101 (c 6))).toNat
    · by_cases ej : j = ((σ.1 101 (c 6))).toNat
      · intro _; omega
      · rw [if_pos ⟨rfl, rfl, ei⟩, if_neg (fun z => ej z.2.2)]
        intro z
        exact absurd z.symm (nt j (by omega))
    · by_cases ej : j = ((σ.1 101 (c 6))).toNat
      · rw [if_neg (fun z => ei z.2.2), if_pos ⟨rfl, rfl, ej⟩]
        intro z
        exact absurd z (nt i (by omega))
      · rw [if_neg (fun z => ei z.2.2), if_neg (fun z => ej z.2.2)]
        exact h.rd i j (by omega) (by omega)
  · rw [e1 _ _ (by decide) (by decide) (by decide)]; exact h.dd i hi
  · rw [e1 _ _ (by decide) (by decide) (by decide), e1 _ _ (by decide) (by decide) (by decide)]; exact h.du u hu
  · rw [e1 _ _ (by decide) (by decide) (by decide)] at hi
    rcases h.dn i hi with a | ⟨u, hu, b1, b2⟩
    · exact Or.inl a
    · exact Or.inr ⟨u, hu, b1, by rw [e1 _ _ (by decide) (by decide) (by decide)]; exact b2⟩
theorem YA.place (h : YA Λ c σ0 σ) {t : Nat} (ht : isT Λ t) (hy : (σ.1 203 t) = -1) (hr : (σ.1 206 t) = 1) : YA Λ c σ0 (fPlaceOld Λ c t σ).2 := by
  have hz := szI_le ht
  by_cases hp : fPlace c σ (szI Λ t) = -1
  · rw [placeOld_no hp]; exact h
  · obtain ⟨p0, p1, pf⟩ := place_ok σ hz.1 hp
    obtain ⟨-, eA, eM, eD, eO, eC, eX⟩ := placeOld_is hp
    have hgb := h.gb.placeOld ht hy
    have hy0 : (σ0.1 203 t) = -1 := h.r0 t ht hr
    have hph : (σ.1 306 (c 0)) = (σ0.1 306 (c 0)) := h.ki _ _ (by decide) (by decide) (by decide) (by decide) (by decide) (by omega)
    have ea : ((gPut Λ c t (fPlace c σ (szI Λ t)) σ).1 203 t) = fPlace c σ (szI Λ t) := by
      unfold gPut
      rw [gFill_1, upI_at]
    have hcb := under_cb (Λ := Λ) (gPut Λ c t (fPlace c σ (szI Λ t)) σ) t (by rw [ea]; exact p0) (by rw [ea]; exact p1)
    rw [ea] at hcb
    generalize fUnder Λ (gPut Λ c t (fPlace c σ (szI Λ t)) σ) t = un at *
    generalize fPlace c σ (szI Λ t) = p at *
    generalize (fPlaceOld Λ c t σ).2 = s2 at *
    refine ⟨hgb, fun kd q k h1 h2 => ?_, fun f q h1 h2 h3 h4 h5 h6 => ?_, fun u hu => ?_, fun u hu => ?_, fun u hu => ?_, fun u hu => ?_, fun i j hi hj => ?_, fun i hi => ?_, fun u hu => ?_, fun i hi => ?_⟩
    · rw [eX kd q k h1]; exact h.kx kd q k h1 h2
    · rw [eO f q h2 h3 h5]; exact h.ki f q h1 h2 h3 h4 h5 h6
    · rw [eA, eM, eO _ _ (by decide) (by decide) (by decide)]
      by_cases e : u = t
      · rw [if_pos e, if_pos e, e]
        exact Or.inr ⟨hy0, p0, hr, by rw [hph]⟩
      · rw [if_neg e, if_neg e]; exact h.aa u hu
    · rw [eA, eM]
      by_cases e : u = t
      · rw [if_pos e, e]
        intro z
        omega
      · rw [if_neg e, if_neg e]; exact h.mk u hu
    · rw [eO _ _ (by decide) (by decide) (by decide), eO _ _ (by decide) (by decide) (by decide)]
      have e7 : ∀ i, s2.2.2 101 (c 7) i = σ.2.2 101 (c 7) i := fun i => eX _ _ _ (by decide)
      simp only [e7]
      exact h.rl u hu
    · rw [eO _ _ (by decide) (by decide) (by decide)]; exact h.r0 u hu
    · rw [eO _ _ (by decide) (by decide) (by decide)] at hi hj
      rw [eX _ _ _ (by decide), eX _ _ _ (by decide)]
      exact h.rd i j hi hj
    · rw [eD, cb_or, h.dd i hi]; rfl
    · rw [eA, eD]
      intro u0 ua j hj0 hj1
      rw [cb_or]
      by_cases e : u = t
      · rw [if_pos e]
        rw [e] at hj1
        rw [hcb j hj0 hj1]
        simp
      · rw [if_neg e] at ua ⊢
        rw [h.du u hu u0 ua j hj0 hj1]
        rfl
    · by_cases e : cb ((σ.1 304 (c 0))) i = true
      · rcases h.dn i e with a | ⟨u, hu, b1, b2⟩
        · exact Or.inl a
        · refine Or.inr ⟨u, hu, b1, ?_⟩
          rw [eA]
          split
          · exact p0
          · exact b2
      · exact Or.inr ⟨t, ht, hy0, by rw [eA, if_pos rfl]; exact p0⟩
theorem YA.reachY (h : YA Λ c σ0 σ) (hyl : YL Λ c σ0) {o : Option Nat} (ho : ∀ t, o = some t → isT Λ t) : YA Λ c σ0 (gReachY Λ c o σ) ∧ (∀ t, o = some t → (σ0.1 203 t) = -1 → ((gReachY Λ c o σ).1 206 t) = 1) ∧ ∀ u, isT Λ u → (σ.1 206 u) = 1 → ((gReachY Λ c o σ).1 206 u) = 1 := by
  have hfew := h.few hyl
  have hy20 : (σ0.1 101 (c 2)) ≤ 20 := by
    have := h.gb.wf.y1
    rw [h.ki 101 (c 2) (by decide) (by decide) (by decide) (by decide) (by decide) (fun z => h.gb.wf.ly.ne26 z.2)] at this
    exact this
  cases o with
  | none => exact ⟨h, fun t ht => (by cases ht), fun u _ hu => hu⟩
  | some t =>
    have ht := ho t rfl
    unfold gReachY
    simp only
    by_cases hy : (σ.1 203 t) = -1
    · rw [if_pos hy]
      by_cases h0 : (σ.1 206 t) = 0
      · rw [reach_new h0 (by omega)]
        simp only
        rw [if_neg (by decide)]
        have hag := h.gb.wf.ag t ht
        have eg : (upI (gAdd (c 6) (c 7) (some t) σ) 206 t 1).1 202 t = (σ.1 202 t) := by rw [rn_1, if_neg (by omega), if_neg (by omega)]
        rw [eg]
        have hp := h.push ht hy h0 (by omega) (v := min ((σ.1 202 t) + 1) 9) ⟨by omega, by omega⟩
        have hr1 : (upI (upI (gAdd (c 6) (c 7) (some t) σ) 206 t 1) 202 t (min ((σ.1 202 t) + 1) 9)).1 206 t = 1 := by rw [upI_ne (by decide), upI_at]
        have ha1 : (upI (upI (gAdd (c 6) (c 7) (some t) σ) 206 t 1) 202 t (min ((σ.1 202 t) + 1) 9)).1 203 t = -1 := by rw [upI_ne (by decide), rn_1, if_neg (by omega), if_neg (by omega)]; exact hy
        have hm : ∀ u, isT Λ u → (σ.1 206 u) = 1 → (upI (upI (gAdd (c 6) (c 7) (some t) σ) 206 t 1) 202 t (min ((σ.1 202 t) + 1) 9)).1 206 u = 1 := by
          intro u _ hu
          rw [upI_ne (by decide), rn_1]
          split
          · rfl
          · rw [if_neg (by omega)]; exact hu
        generalize upI (upI (gAdd (c 6) (c 7) (some t) σ) 206 t 1) 202 t (min ((σ.1 202 t) + 1) 9) = s1 at *
        have kp := (placeOld_keep (Λ := Λ) (c := c) t s1).2 206
        split
        · exact ⟨hp.place ht ha1 hr1, fun u hu _ => by cases hu; rw [kp t (by decide) (by decide) (by decide)]; exact hr1, fun u hu h1 => by rw [kp u (by decide) (by decide) (by decide)]; exact hm u hu h1⟩
        · exact ⟨hp, fun u hu _ => by cases hu; exact hr1, hm⟩
      · rw [reach_old h0]
        simp only [if_true]
        refine ⟨h, fun u hu _ => ?_, fun u _ hu => hu⟩
        cases hu
        rcases (h.gb.fl t ht).2.2 with e | e
        · exact absurd e h0
        · exact e
    · rw [if_neg hy]
      refine ⟨h, fun u hu h1 => ?_, fun u _ hu => hu⟩
      cases hu
      rcases h.aa t ht with e | ⟨_, _, e, _⟩
      · rw [h1] at e; exact absurd e hy
      · exact e
end YAS
