/-! The class's invariants, kept at all times. -/
def GB (Λ : Lam) (c : Nat → Nat) (σ : Mem) : Prop :=
  (WF Λ c σ) ∧
  (∀ t, isT Λ t → (σ.1 203 t) = -2 ∨ (σ.1 203 t) = -1 ∨ (0 ≤ (σ.1 203 t) ∧ (σ.1 203 t) + szI Λ t ≤ 64)) ∧
  (∀ a t : Nat, a < 64 → ((σ.2.2 102 (c 5) a) = some t ↔ (isT Λ t ∧ 0 ≤ (σ.1 203 t) ∧ (σ.1 203 t) ≤ (a : Int) ∧ (a : Int) < (σ.1 203 t) + szI Λ t))) ∧
  (∀ t, isT Λ t → ((σ.1 204 t) = 0 ∨ (σ.1 204 t) = 1) ∧ ((σ.1 205 t) = 0 ∨ (σ.1 205 t) = 1) ∧ ((σ.1 206 t) = 0 ∨ (σ.1 206 t) = 1)) ∧
  (∀ t, isT Λ t → (σ.1 203 t) = -1 → (σ.1 204 t) = 0 ∧ (σ.1 205 t) = 0) ∧
  (∀ t, isT Λ t → (σ.1 203 t) ≠ -2 → (σ.1 205 t) = 1 → (σ.1 204 t) = 1) ∧
  (lo8 ((σ.1 304 (c 0)))) ∧
  (lo8 ((σ.1 305 (c 0)))) ∧
  ((σ.1 306 (c 0)) = 0 ∨ (σ.1 306 (c 0)) = 1 ∨ (σ.1 306 (c 0)) = 2) ∧
  (0 ≤ (σ.1 307 (c 0)) ∧ (σ.1 307 (c 0)) ≤ 64)
theorem GB.wf {Λ : Lam} {c : Nat → Nat} {σ : Mem} (h : GB Λ c σ) : WF Λ c σ := h.1
theorem GB.ad {Λ : Lam} {c : Nat → Nat} {σ : Mem} (h : GB Λ c σ) : ∀ t, isT Λ t → (σ.1 203 t) = -2 ∨ (σ.1 203 t) = -1 ∨ (0 ≤ (σ.1 203 t) ∧ (σ.1 203 t) + szI Λ t ≤ 64) := h.2.1
theorem GB.ce {Λ : Lam} {c : Nat → Nat} {σ : Mem} (h : GB Λ c σ) : ∀ a t : Nat, a < 64 → ((σ.2.2 102 (c 5) a) = some t ↔ (isT Λ t ∧ 0 ≤ (σ.1 203 t) ∧ (σ.1 203 t) ≤ (a : Int) ∧ (a : Int) < (σ.1 203 t) + szI Λ t)) := h.2.2.1
theorem GB.fl {Λ : Lam} {c : Nat → Nat} {σ : Mem} (h : GB Λ c σ) : ∀ t, isT Λ t → ((σ.1 204 t) = 0 ∨ (σ.1 204 t) = 1) ∧ ((σ.1 205 t) = 0 ∨ (σ.1 205 t) = 1) ∧ ((σ.1 206 t) = 0 ∨ (σ.1 206 t) = 1) := h.2.2.2.1
theorem GB.ym {Λ : Lam} {c : Nat → Nat} {σ : Mem} (h : GB Λ c σ) : ∀ t, isT Λ t → (σ.1 203 t) = -1 → (σ.1 204 t) = 0 ∧ (σ.1 205 t) = 0 := h.2.2.2.2.1
theorem GB.gm {Λ : Lam} {c : Nat → Nat} {σ : Mem} (h : GB Λ c σ) : ∀ t, isT Λ t → (σ.1 203 t) ≠ -2 → (σ.1 205 t) = 1 → (σ.1 204 t) = 1 := h.2.2.2.2.2.1
theorem GB.d8 {Λ : Lam} {c : Nat → Nat} {σ : Mem} (h : GB Λ c σ) : lo8 ((σ.1 304 (c 0))) := h.2.2.2.2.2.2.1
theorem GB.n8 {Λ : Lam} {c : Nat → Nat} {σ : Mem} (h : GB Λ c σ) : lo8 ((σ.1 305 (c 0))) := h.2.2.2.2.2.2.2.1
theorem GB.ph {Λ : Lam} {c : Nat → Nat} {σ : Mem} (h : GB Λ c σ) : (σ.1 306 (c 0)) = 0 ∨ (σ.1 306 (c 0)) = 1 ∨ (σ.1 306 (c 0)) = 2 := h.2.2.2.2.2.2.2.2.1
theorem GB.sw {Λ : Lam} {c : Nat → Nat} {σ : Mem} (h : GB Λ c σ) : 0 ≤ (σ.1 307 (c 0)) ∧ (σ.1 307 (c 0)) ≤ 64 := h.2.2.2.2.2.2.2.2.2
section GBS
variable {Λ : Lam} {c : Nat → Nat} {σ : Mem}
theorem gFill_1 (lo hi : Int) (o : Option Nat) (σ : Mem) : (gFill c lo hi o σ).1 = σ.1 := rfl
theorem gFill_22 (lo hi : Int) (o : Option Nat) (σ : Mem) (a : Nat) : ((gFill c lo hi o σ).2.2 102 (c 5) a) = if lo ≤ (a : Int) ∧ (a : Int) < hi then o else (σ.2.2 102 (c 5) a) := by
  show (if 102 = 102 ∧ c 5 = c 5 ∧ lo ≤ (a : Int) ∧ (a : Int) < hi then o else (σ.2.2 102 (c 5) a)) = _
  by_cases h : lo ≤ (a : Int) ∧ (a : Int) < hi
  · rw [if_pos ⟨rfl, rfl, h⟩, if_pos h]
  · rw [if_neg (fun z => h z.2.2), if_neg h]
theorem GB.cellT (h : GB Λ c σ) {a t : Nat} (ha : a < 64) (hc : (σ.2.2 102 (c 5) a) = some t) : isT Λ t ∧ 0 ≤ (σ.1 203 t) ∧ (σ.1 203 t) ≤ (a : Int) ∧ (a : Int) < (σ.1 203 t) + szI Λ t := (h.ce a t ha).mp hc
theorem place_ok (s : Mem) {z : Int} (hz : 1 ≤ z) (hp : fPlace c s z ≠ -1) : 0 ≤ fPlace c s z ∧ fPlace c s z + z ≤ 64 ∧ ∀ j : Nat, fPlace c s z ≤ j → (j : Int) < fPlace c s z + z → (s.2.2 102 (c 5) j) = none := by
  rcases plc_is (fr := fFree c s) hz with h | ⟨h1, h2, h3⟩
  · exact absurd h hp
  · refine ⟨h1, h2, fun j a b => ?_⟩
    have := h3 j a b
    unfold fFree at this
    exact Option.isNone_iff_eq_none.mp this
theorem under_lo8 (s : Mem) (t : Nat) (h0 : 0 ≤ (s.1 203 t)) (h1 : (s.1 203 t) + szI Λ t ≤ 64) : lo8 (fUnder Λ s t) := by
  unfold szI at h1
  unfold fUnder
  have key : ∀ n, n ≤ nfL Λ t + 1 → lo8 (nfold (fun i u => iOr u (fCard ((s.1 203 t) + (i : Nat)))) 0 n) := by
    intro n
    induction n with
    | zero => intro _; exact lo8_0
    | succ n ih =>
      intro hn
      rw [nfold_s]
      refine lo8_or (ih (by omega)) ?_
      have e : (s.1 203 t) + (n : Int) = ((((s.1 203 t)).toNat + n : Nat) : Int) := by omega
      rw [e]
      exact lo8_card (by omega)
  exact key _ (Nat.le_refl _)
theorem under_cb (s : Mem) (t : Nat) (h0 : 0 ≤ (s.1 203 t)) (h1 : (s.1 203 t) + szI Λ t ≤ 64) (j : Int) (hj : 0 ≤ j) (hj2 : j < szI Λ t) : cb (fUnder Λ s t) (((s.1 203 t) + j).toNat / 8) = true := by
  unfold szI at h1 hj2
  unfold fUnder
  have key : ∀ n, n ≤ nfL Λ t + 1 → j < n → cb (nfold (fun i u => iOr u (fCard ((s.1 203 t) + (i : Nat)))) 0 n) (((s.1 203 t) + j).toNat / 8) = true := by
    intro n
    induction n with
    | zero => intro _ h; omega
    | succ n ih =>
      intro hn hjn
      rw [nfold_s, cb_or]
      by_cases e : j < n
      · rw [ih (by omega) e]; rfl
      · have e2 : (s.1 203 t) + (n : Int) = ((((s.1 203 t)).toNat + n : Nat) : Int) := by omega
        rw [e2, cb_card' (by omega), decide_eq_true (by congr 1; omega)]
        simp
  exact key _ (Nat.le_refl _) (by omega)
theorem under_of (s : Mem) (t : Nat) (h0 : 0 ≤ (s.1 203 t)) (h1 : (s.1 203 t) + szI Λ t ≤ 64) (i : Nat) (hi : cb (fUnder Λ s t) i = true) : ∃ j : Int, 0 ≤ j ∧ j < szI Λ t ∧ i = ((s.1 203 t) + j).toNat / 8 := by
  unfold szI at h1 ⊢
  unfold fUnder at hi
  have key : ∀ n, n ≤ nfL Λ t + 1 → cb (nfold (fun i u => iOr u (fCard ((s.1 203 t) + (i : Nat)))) 0 n) i = true → ∃ j : Int, 0 ≤ j ∧ j < n ∧ i = ((s.1 203 t) + j).toNat / 8 := by
    intro n
    induction n with
    | zero => intro _ h; rw [nfold_0, cb_0] at h; cases h
    | succ n ih =>
      intro hn h
      rw [nfold_s, cb_or] at h
      rcases Bool.or_eq_true_iff.mp h with h | h
      · obtain ⟨j, a, b, e⟩ := ih (by omega) h
        exact ⟨j, a, by omega, e⟩
      · have e2 : (s.1 203 t) + (n : Int) = ((((s.1 203 t)).toNat + n : Nat) : Int) := by omega
        rw [e2, cb_card' (by omega)] at h
        exact ⟨n, by omega, by omega, by have := of_decide_eq_true h; rw [this]; congr 1; omega⟩
  obtain ⟨j, a, b, e⟩ := key _ (Nat.le_refl _) hi
  exact ⟨j, a, by omega, e⟩
-- what placing a young thing does
theorem placeOld_no {t : Nat} {s : Mem} (h : fPlace c s (szI Λ t) = -1) : fPlaceOld Λ c t s = (0, s) := by unfold fPlaceOld; rw [if_pos h]
theorem placeOld_is {t : Nat} {s : Mem} (h : fPlace c s (szI Λ t) ≠ -1) : (fPlaceOld Λ c t s).1 = 1 ∧
    (∀ u, (fPlaceOld Λ c t s).2.1 203 u = if u = t then fPlace c s (szI Λ t) else (s.1 203 u)) ∧
    (∀ u, (fPlaceOld Λ c t s).2.1 204 u = if u = t then (if (s.1 306 (c 0)) = 0 then 0 else 1) else (s.1 204 u)) ∧
    ((fPlaceOld Λ c t s).2.1 304 (c 0) = iOr ((s.1 304 (c 0))) (fUnder Λ (gPut Λ c t (fPlace c s (szI Λ t)) s) t)) ∧
    (∀ f q, f ≠ 203 → f ≠ 204 → f ≠ 304 → (fPlaceOld Λ c t s).2.1 f q = s.1 f q) ∧
    (∀ a, ((fPlaceOld Λ c t s).2.2.2 102 (c 5) a) = if fPlace c s (szI Λ t) ≤ (a : Int) ∧ (a : Int) < min (fPlace c s (szI Λ t) + szI Λ t) 64 then some t else (s.2.2 102 (c 5) a)) ∧
    (∀ kd q k, kd ≠ 102 → (fPlaceOld Λ c t s).2.2.2 kd q k = s.2.2 kd q k) := by
  have hk := placeOld_keep (Λ := Λ) (c := c) t s
  have e : fPlaceOld Λ c t s = (1, upI (upI (gPut Λ c t (fPlace c s (szI Λ t)) s) 304 (c 0) (iOr (((gPut Λ c t (fPlace c s (szI Λ t)) s).1 304 (c 0))) (fUnder Λ (gPut Λ c t (fPlace c s (szI Λ t)) s) t))) 204 t (if ((upI (gPut Λ c t (fPlace c s (szI Λ t)) s) 304 (c 0) (iOr (((gPut Λ c t (fPlace c s (szI Λ t)) s).1 304 (c 0))) (fUnder Λ (gPut Λ c t (fPlace c s (szI Λ t)) s) t))).1 306 (c 0)) = 0 then 0 else 1)) := by
    unfold fPlaceOld
    rw [if_neg h]
  have pk := put_keep (Λ := Λ) (c := c) t (fPlace c s (szI Λ t)) s
  refine ⟨by rw [e], fun u => ?_, fun u => ?_, ?_, fun f q h1 h2 h3 => hk.2 f q h1 h3 h2, fun a => ?_, hk.1⟩
  · rw [e]
    simp only
    rw [upI_ne (by decide), upI_ne (by decide)]
    unfold gPut
    rw [gFill_1, upI_1]
    by_cases hu : u = t
    · rw [if_pos ⟨rfl, hu⟩, if_pos hu]
    · rw [if_neg (fun z => hu z.2), if_neg hu]
  · rw [e]
    simp only
    rw [upI_1]
    by_cases hu : u = t
    · rw [if_pos ⟨rfl, hu⟩, if_pos hu, upI_ne (by decide), pk.2 _ _ (by decide)]
    · rw [if_neg (fun z => hu z.2), if_neg hu, upI_ne (by decide), pk.2 _ _ (by decide)]
  · rw [e]
    simp only
    rw [upI_ne (by decide), upI_at, pk.2 _ _ (by decide)]
  · rw [e]
    show ((gPut Λ c t (fPlace c s (szI Λ t)) s).2.2 102 (c 5) a) = _
    unfold gPut
    rw [gFill_22]
    rfl
theorem GB.placeOld (h : GB Λ c σ) {t : Nat} (ht : isT Λ t) (hy : (σ.1 203 t) = -1) : GB Λ c (fPlaceOld Λ c t σ).2 := by
  have hz := szI_le ht
  by_cases hp : fPlace c σ (szI Λ t) = -1
  · rw [placeOld_no hp]; exact h
  · obtain ⟨p0, p1, pf⟩ := place_ok σ hz.1 hp
    obtain ⟨-, eA, eM, eD, eO, eC, eX⟩ := placeOld_is hp
    have hm : min (fPlace c σ (szI Λ t) + szI Λ t) 64 = fPlace c σ (szI Λ t) + szI Λ t := by omega
    rw [hm] at eC
    generalize fPlace c σ (szI Λ t) = p at *
    refine ⟨h.wf.placeOld ht, fun u hu => ?_, fun a u ha => ?_, fun u hu => ?_, fun u hu hy2 => ?_, fun u hu hn hg => ?_, ?_, ?_, ?_, ?_⟩
    · rw [eA]
      by_cases e : u = t
      · rw [if_pos e, e]; exact Or.inr (Or.inr ⟨p0, p1⟩)
      · rw [if_neg e]; exact h.ad u hu
    · rw [eC, eA]
      by_cases hr : p ≤ (a : Int) ∧ (a : Int) < p + szI Λ t
      · rw [if_pos hr]
        constructor
        · intro hh
          cases hh
          rw [if_pos rfl]
          exact ⟨ht, p0, hr.1, hr.2⟩
        · rintro ⟨hu, h0, h1, h2⟩
          by_cases e : u = t
          · rw [e]
          · rw [if_neg e] at h0 h1 h2
            have := (h.ce a u ha).mpr ⟨hu, h0, h1, h2⟩
            rw [pf a hr.1 hr.2] at this
            cases this
      · rw [if_neg hr]
        constructor
        · intro hh
          have := (h.ce a u ha).mp hh
          have e : u ≠ t := by
            intro e
            rw [e, hy] at this
            omega
          rw [if_neg e]
          exact this
        · rintro ⟨hu, h0, h1, h2⟩
          by_cases e : u = t
          · rw [if_pos e] at h0 h1 h2
            rw [e] at h2
            exact absurd ⟨h1, h2⟩ hr
          · rw [if_neg e] at h0 h1 h2
            exact (h.ce a u ha).mpr ⟨hu, h0, h1, h2⟩
    · have hf := h.fl u hu
      rw [eM, eO _ _ (by decide) (by decide) (by decide), eO _ _ (by decide) (by decide) (by decide)]
      refine ⟨?_, hf.2⟩
      by_cases e : u = t
      · rw [if_pos e]
        split
        · exact Or.inl rfl
        · exact Or.inr rfl
      · rw [if_neg e]; exact hf.1
    · rw [eA] at hy2
      have e : u ≠ t := by
        intro e
        rw [if_pos e] at hy2
        omega
      rw [if_neg e] at hy2
      rw [eM, if_neg e, eO _ _ (by decide) (by decide) (by decide)]
      exact h.ym u hu hy2
    · rw [eO _ _ (by decide) (by decide) (by decide)] at hg
      have e : u ≠ t := by
        intro e
        have := (h.ym t ht hy).2
        rw [e, this] at hg
        omega
      rw [eA, if_neg e] at hn
      rw [eM, if_neg e]
      exact h.gm u hu hn hg
    · rw [eD]
      refine lo8_or h.d8 ?_
      have ea : ((gPut Λ c t p σ).1 203 t) = p := by
        unfold gPut
        rw [gFill_1, upI_at]
      exact under_lo8 _ t (by rw [ea]; exact p0) (by rw [ea]; exact p1)
    · rw [eO _ _ (by decide) (by decide) (by decide)]; exact h.n8
    · rw [eO _ _ (by decide) (by decide) (by decide)]; exact h.ph
    · rw [eO _ _ (by decide) (by decide) (by decide)]; exact h.sw
end GBS
