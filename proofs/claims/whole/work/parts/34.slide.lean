/-! Sliding. -/
def SL (Λ : Lam) (c : Nat → Nat) (s1 : Mem) (a : Nat) (top : Int) (s : Mem) : Prop :=
  (WF Λ c s) ∧
  (0 ≤ top ∧ top ≤ 64) ∧
  (∀ f q, f ≠ 203 → s.1 f q = s1.1 f q) ∧
  (∀ kd q k, kd ≠ 102 → s.2.2 kd q k = s1.2.2 kd q k) ∧
  (∀ t, isT Λ t → 0 ≤ (s1.1 203 t) → (s1.1 203 t) < a → ((s1.1 206 t) ≠ 0 → 0 ≤ (s.1 203 t) ∧ (s.1 203 t) ≤ (s1.1 203 t) ∧ (s.1 203 t) + szI Λ t ≤ top) ∧ ((s1.1 206 t) = 0 → (s.1 203 t) = -2)) ∧
  (∀ t, isT Λ t → ¬ (0 ≤ (s1.1 203 t) ∧ (s1.1 203 t) < a) → (s.1 203 t) = (s1.1 203 t)) ∧
  (∀ t, isT Λ t → (a : Int) ≤ (s1.1 203 t) → top ≤ (s1.1 203 t)) ∧
  (∀ a' t : Nat, a' < 64 → ((s.2.2 102 (c 5) a') = some t ↔ (isT Λ t ∧ 0 ≤ (s.1 203 t) ∧ (s.1 203 t) ≤ (a' : Int) ∧ (a' : Int) < (s.1 203 t) + szI Λ t)))
theorem SL.wf {Λ : Lam} {c : Nat → Nat} {s1 : Mem} {a : Nat} {top : Int} {s : Mem} (h : SL Λ c s1 a top s) : WF Λ c s := h.1
theorem SL.tp {Λ : Lam} {c : Nat → Nat} {s1 : Mem} {a : Nat} {top : Int} {s : Mem} (h : SL Λ c s1 a top s) : 0 ≤ top ∧ top ≤ 64 := h.2.1
theorem SL.ki {Λ : Lam} {c : Nat → Nat} {s1 : Mem} {a : Nat} {top : Int} {s : Mem} (h : SL Λ c s1 a top s) : ∀ f q, f ≠ 203 → s.1 f q = s1.1 f q := h.2.2.1
theorem SL.kx {Λ : Lam} {c : Nat → Nat} {s1 : Mem} {a : Nat} {top : Int} {s : Mem} (h : SL Λ c s1 a top s) : ∀ kd q k, kd ≠ 102 → s.2.2 kd q k = s1.2.2 kd q k := h.2.2.2.1
theorem SL.p1 {Λ : Lam} {c : Nat → Nat} {s1 : Mem} {a : Nat} {top : Int} {s : Mem} (h : SL Λ c s1 a top s) : ∀ t, isT Λ t → 0 ≤ (s1.1 203 t) → (s1.1 203 t) < a → ((s1.1 206 t) ≠ 0 → 0 ≤ (s.1 203 t) ∧ (s.1 203 t) ≤ (s1.1 203 t) ∧ (s.1 203 t) + szI Λ t ≤ top) ∧ ((s1.1 206 t) = 0 → (s.1 203 t) = -2) := h.2.2.2.2.1
theorem SL.p2 {Λ : Lam} {c : Nat → Nat} {s1 : Mem} {a : Nat} {top : Int} {s : Mem} (h : SL Λ c s1 a top s) : ∀ t, isT Λ t → ¬ (0 ≤ (s1.1 203 t) ∧ (s1.1 203 t) < a) → (s.1 203 t) = (s1.1 203 t) := h.2.2.2.2.2.1
theorem SL.p3 {Λ : Lam} {c : Nat → Nat} {s1 : Mem} {a : Nat} {top : Int} {s : Mem} (h : SL Λ c s1 a top s) : ∀ t, isT Λ t → (a : Int) ≤ (s1.1 203 t) → top ≤ (s1.1 203 t) := h.2.2.2.2.2.2.1
theorem SL.ce {Λ : Lam} {c : Nat → Nat} {s1 : Mem} {a : Nat} {top : Int} {s : Mem} (h : SL Λ c s1 a top s) : ∀ a' t : Nat, a' < 64 → ((s.2.2 102 (c 5) a') = some t ↔ (isT Λ t ∧ 0 ≤ (s.1 203 t) ∧ (s.1 203 t) ≤ (a' : Int) ∧ (a' : Int) < (s.1 203 t) + szI Λ t)) := h.2.2.2.2.2.2.2
section SLS
variable {Λ : Lam} {c : Nat → Nat} {s1 s : Mem}
theorem GB.apart (g : GB Λ c s1) {t u : Nat} (ht : isT Λ t) (hu : isT Λ u) (h0 : 0 ≤ (s1.1 203 t)) (h1 : (s1.1 203 t) < (s1.1 203 u)) : (s1.1 203 t) + szI Λ t ≤ (s1.1 203 u) := by
  have zt := szI_le ht
  have zu := szI_le hu
  have au : (s1.1 203 u) + szI Λ u ≤ 64 := by
    rcases g.ad u hu with x | x | ⟨_, x⟩ <;> omega
  by_cases h : (s1.1 203 t) + szI Λ t ≤ (s1.1 203 u)
  · exact h
  · exfalso
    have c1 := (g.ce ((s1.1 203 u)).toNat t (by omega)).mpr ⟨ht, h0, by omega, by omega⟩
    have c2 := (g.ce ((s1.1 203 u)).toNat u (by omega)).mpr ⟨hu, by omega, by omega, by omega⟩
    rw [c1] at c2
    cases c2
    omega
theorem take_cel (t a : Nat) : ((gTake Λ c t s).2.2 102 (c 5) a) = if (s.1 203 t) ≤ (a : Int) ∧ (a : Int) < min ((s.1 203 t) + szI Λ t) 64 then none else (s.2.2 102 (c 5) a) := by
  unfold gTake
  exact gFill_22 _ _ _ _ _
theorem put_cel (t a : Nat) (p : Int) : ((gPut Λ c t p s).2.2 102 (c 5) a) = if p ≤ (a : Int) ∧ (a : Int) < min (p + szI Λ t) 64 then some t else (s.2.2 102 (c 5) a) := by
  unfold gPut
  rw [gFill_22]
  rfl
theorem take_adr (t u : Nat) : ((gTake Λ c t s).1 203 u) = (s.1 203 u) := rfl
theorem put_adr (t u : Nat) (p : Int) : ((gPut Λ c t p s).1 203 u) = if u = t then p else (s.1 203 u) := by
  show (upI s 203 t p).1 203 u = _
  rw [upI_1]
  by_cases h : u = t
  · rw [if_pos ⟨rfl, h⟩, if_pos h]
  · rw [if_neg (fun z => h z.2), if_neg h]
theorem SL.step (g : GB Λ c s1) {a : Nat} (ha : a < 64) {u : Int × Mem} (h : SL Λ c s1 a u.1 u.2) : SL Λ c s1 (a + 1) (gSlide1 Λ c a u).1 (gSlide1 Λ c a u).2 := by
  cases hf : fAt c u.2 a with
  | none =>
    have e : gSlide1 Λ c a u = u := by unfold gSlide1; rw [hf]
    rw [e]
    have no : ∀ t, isT Λ t → (s1.1 203 t) ≠ a := by
      intro t ht e1
      have e2 := h.p2 t ht (by omega)
      have zt := szI_le ht
      have hc := (h.ce a t ha).mpr ⟨ht, by omega, by omega, by omega⟩
      unfold fAt at hf
      rw [hc] at hf
      simp only at hf
      rw [if_pos (by omega)] at hf
      cases hf
    refine ⟨h.wf, h.tp, h.ki, h.kx, fun t ht h0 h1 => h.p1 t ht h0 (by have := no t ht; omega), fun t ht hn => h.p2 t ht (fun z => hn ⟨z.1, by omega⟩), fun t ht h1 => h.p3 t ht (by omega), h.ce⟩
  | some t =>
    have hT := h.wf.atT a t hf
    have zt := szI_le hT
    have hca : (u.2.2.2 102 (c 5) a) = some t ∧ (u.2.1 203 t) = a := by
      unfold fAt at hf
      split at hf
      · cases hf
      · rename_i w hw
        split at hf
        · rename_i hwa
          cases hf
          exact ⟨hw, hwa⟩
        · cases hf
    obtain ⟨hc, hta⟩ := hca
    have h1a : (s1.1 203 t) = a := by
      by_cases z : 0 ≤ (s1.1 203 t) ∧ (s1.1 203 t) < a
      · have p := h.p1 t hT z.1 z.2
        by_cases r : (s1.1 206 t) = 0
        · have := p.2 r; omega
        · have := (p.1 r).2.1; omega
      · rw [← h.p2 t hT z]; exact hta
    have htop := h.p3 t hT (by omega)
    have at64 : (s1.1 203 t) + szI Λ t ≤ 64 := by
      rcases g.ad t hT with x | x | ⟨_, x⟩ <;> omega
    have hrc : (u.2.1 206 t) = (s1.1 206 t) := h.ki _ _ (by decide)
    -- cells of another thing keep clear of both places
    have clear : ∀ (a' w : Nat), a' < 64 → w ≠ t → (u.2.2.2 102 (c 5) a') = some w → ¬ ((u.2.1 203 t) ≤ (a' : Int) ∧ (a' : Int) < (u.2.1 203 t) + szI Λ t) ∧ ¬ (u.1 ≤ (a' : Int) ∧ (a' : Int) < u.1 + szI Λ t) := by
      intro a' w ha' hw hcw
      obtain ⟨w1, w2, w3, w4⟩ := (h.ce a' w ha').mp hcw
      have nt : ¬ ((u.2.1 203 t) ≤ (a' : Int) ∧ (a' : Int) < (u.2.1 203 t) + szI Λ t) := by
        intro z
        have := (h.ce a' t ha').mpr ⟨hT, by omega, z.1, z.2⟩
        rw [hcw] at this
        cases this
        exact hw rfl
      refine ⟨nt, fun z => ?_⟩
      by_cases y : 0 ≤ (s1.1 203 w) ∧ (s1.1 203 w) < a
      · have p := h.p1 w w1 y.1 y.2
        by_cases r : (s1.1 206 w) = 0
        · have := p.2 r; omega
        · have := (p.1 r).2.2; omega
      · have e := h.p2 w w1 y
        have hne : (s1.1 203 w) ≠ a := by
          intro e2
          have cw := (h.ce a w ha).mpr ⟨w1, by omega, by omega, by have := szI_le w1; omega⟩
          rw [hc] at cw
          cases cw
          exact hw rfl
        have := g.apart hT w1 (by omega) (show (s1.1 203 t) < (s1.1 203 w) by omega)
        omega
    have after : ∀ w, isT Λ w → (a : Int) + 1 ≤ (s1.1 203 w) → (a : Int) + szI Λ t ≤ (s1.1 203 w) := by
      intro w hw hh
      have := g.apart hT hw (by omega) (show (s1.1 203 t) < (s1.1 203 w) by omega)
      omega
    have m1 : min ((u.2.1 203 t) + szI Λ t) 64 = (u.2.1 203 t) + szI Λ t := by omega
    by_cases r : (u.2.1 206 t) ≠ 0
    · have e : gSlide1 Λ c a u = (u.1 + szI Λ t, gPut Λ c t u.1 (gTake Λ c t u.2)) := by unfold gSlide1; rw [hf]; exact if_pos r
      rw [e]
      have tp := h.tp
      have m2 : min (u.1 + szI Λ t) 64 = u.1 + szI Λ t := by omega
      have ea : ∀ w, ((gPut Λ c t u.1 (gTake Λ c t u.2)).1 203 w) = if w = t then u.1 else (u.2.1 203 w) := fun w => by rw [put_adr, take_adr]
      have ec : ∀ a', ((gPut Λ c t u.1 (gTake Λ c t u.2)).2.2 102 (c 5) a') = if u.1 ≤ (a' : Int) ∧ (a' : Int) < u.1 + szI Λ t then some t else if (u.2.1 203 t) ≤ (a' : Int) ∧ (a' : Int) < (u.2.1 203 t) + szI Λ t then none else (u.2.2.2 102 (c 5) a') := fun a' => by rw [put_cel, take_cel, m1, m2]
      have pk := put_keep (Λ := Λ) (c := c) t u.1 (gTake Λ c t u.2)
      refine ⟨(h.wf.take).put hT ⟨by omega, by omega⟩, by simp only; omega, fun f q hfq => ?_, fun kd q k hk => ?_, fun w hw h0 h1 => ?_, fun w hw hn => ?_, fun w hw h1 => ?_, fun a' w ha' => ?_⟩
      · simp only
        rw [pk.2 f q hfq]
        exact h.ki f q hfq
      · simp only
        rw [pk.1 kd q k hk]
        show (gFill c _ _ none u.2).2.2 kd q k = _
        unfold gFill
        simp only
        rw [if_neg (fun z => hk z.1)]
        exact h.kx kd q k hk
      · simp only
        rw [ea]
        by_cases ew : w = t
        · rw [if_pos ew, ew]
          exact ⟨fun _ => ⟨by omega, by omega, by omega⟩, fun z => absurd (hrc.trans z) r⟩
        · rw [if_neg ew]
          have hne : (s1.1 203 w) ≠ a := by
            intro e2
            have cw := (h.ce a w ha).mpr ⟨hw, by have := h.p2 w hw (by omega); omega, by have := h.p2 w hw (by omega); omega, by have := h.p2 w hw (by omega); have := szI_le hw; omega⟩
            rw [hc] at cw
            cases cw
            exact ew rfl
          have p := h.p1 w hw h0 (by omega)
          exact ⟨fun z => ⟨(p.1 z).1, (p.1 z).2.1, by have := (p.1 z).2.2; omega⟩, p.2⟩
      · simp only
        rw [ea, if_neg (fun ew => hn (by rw [ew]; omega))]
        exact h.p2 w hw (fun z => hn ⟨z.1, by omega⟩)
      · simp only
        have := after w hw (by omega)
        omega
      · simp only
        rw [ec, ea]
        by_cases y : u.1 ≤ (a' : Int) ∧ (a' : Int) < u.1 + szI Λ t
        · rw [if_pos y]
          constructor
          · intro z
            cases z
            rw [if_pos rfl]
            exact ⟨hT, by omega, y.1, y.2⟩
          · rintro ⟨w1, w2, w3, w4⟩
            by_cases ew : w = t
            · rw [ew]
            · rw [if_neg ew] at w2 w3 w4
              exact absurd y (clear a' w ha' ew ((h.ce a' w ha').mpr ⟨w1, w2, w3, w4⟩)).2
        · rw [if_neg y]
          by_cases x : (u.2.1 203 t) ≤ (a' : Int) ∧ (a' : Int) < (u.2.1 203 t) + szI Λ t
          · rw [if_pos x]
            constructor
            · intro z; cases z
            · rintro ⟨w1, w2, w3, w4⟩
              by_cases ew : w = t
              · rw [if_pos ew] at w3 w4
                rw [ew] at w4
                exact absurd ⟨w3, w4⟩ y
              · rw [if_neg ew] at w2 w3 w4
                exact absurd x (clear a' w ha' ew ((h.ce a' w ha').mpr ⟨w1, w2, w3, w4⟩)).1
          · rw [if_neg x]
            constructor
            · intro z
              have ew : w ≠ t := by
                intro ew
                rw [ew] at z
                have := (h.ce a' t ha').mp z
                exact x ⟨this.2.2.1, this.2.2.2⟩
              rw [if_neg ew]
              exact (h.ce a' w ha').mp z
            · rintro ⟨w1, w2, w3, w4⟩
              by_cases ew : w = t
              · rw [if_pos ew] at w3 w4
                rw [ew] at w4
                exact absurd ⟨w3, w4⟩ y
              · rw [if_neg ew] at w2 w3 w4
                exact (h.ce a' w ha').mpr ⟨w1, w2, w3, w4⟩
    · have e : gSlide1 Λ c a u = (u.1, upI (gTake Λ c t u.2) 203 t (-2)) := by unfold gSlide1; rw [hf]; exact if_neg r
      rw [e]
      have r0 : (s1.1 206 t) = 0 := by
        by_cases x : (s1.1 206 t) = 0
        · exact x
        · exact absurd (fun z => x (hrc.symm.trans z)) r
      have ea : ∀ w, ((upI (gTake Λ c t u.2) 203 t (-2)).1 203 w) = if w = t then -2 else (u.2.1 203 w) := by
        intro w
        rw [upI_1]
        by_cases ew : w = t
        · rw [if_pos ⟨rfl, ew⟩, if_pos ew]
        · rw [if_neg (fun z => ew z.2), if_neg ew]; rfl
      have ec : ∀ a', ((upI (gTake Λ c t u.2) 203 t (-2)).2.2 102 (c 5) a') = if (u.2.1 203 t) ≤ (a' : Int) ∧ (a' : Int) < (u.2.1 203 t) + szI Λ t then none else (u.2.2.2 102 (c 5) a') := by
        intro a'
        have := take_cel (Λ := Λ) (c := c) (s := u.2) t a'
        rw [m1] at this
        exact this
      refine ⟨(h.wf.take).upAdr ⟨by omega, by omega⟩, h.tp, fun f q hfq => ?_, fun kd q k hk => ?_, fun w hw h0 h1 => ?_, fun w hw hn => ?_, fun w hw h1 => ?_, fun a' w ha' => ?_⟩
      · simp only
        rw [upI_ne hfq]
        exact h.ki f q hfq
      · show (gFill c _ _ none u.2).2.2 kd q k = _
        unfold gFill
        simp only
        rw [if_neg (fun z => hk z.1)]
        exact h.kx kd q k hk
      · simp only
        rw [ea]
        by_cases ew : w = t
        · rw [if_pos ew, ew]
          exact ⟨fun z => absurd r0 z, fun _ => rfl⟩
        · rw [if_neg ew]
          have hne : (s1.1 203 w) ≠ a := by
            intro e2
            have cw := (h.ce a w ha).mpr ⟨hw, by have := h.p2 w hw (by omega); omega, by have := h.p2 w hw (by omega); omega, by have := h.p2 w hw (by omega); have := szI_le hw; omega⟩
            rw [hc] at cw
            cases cw
            exact ew rfl
          exact h.p1 w hw h0 (by omega)
      · simp only
        rw [ea, if_neg (fun ew => hn (by rw [ew]; omega))]
        exact h.p2 w hw (fun z => hn ⟨z.1, by omega⟩)
      · exact h.p3 w hw (by omega)
      · simp only
        rw [ec, ea]
        by_cases x : (u.2.1 203 t) ≤ (a' : Int) ∧ (a' : Int) < (u.2.1 203 t) + szI Λ t
        · rw [if_pos x]
          constructor
          · intro z; cases z
          · rintro ⟨w1, w2, w3, w4⟩
            by_cases ew : w = t
            · rw [if_pos ew] at w2; omega
            · rw [if_neg ew] at w2 w3 w4
              exact absurd x (clear a' w ha' ew ((h.ce a' w ha').mpr ⟨w1, w2, w3, w4⟩)).1
        · rw [if_neg x]
          constructor
          · intro z
            have ew : w ≠ t := by
              intro ew
              rw [ew] at z
              have := (h.ce a' t ha').mp z
              exact x ⟨this.2.2.1, this.2.2.2⟩
            rw [if_neg ew]
            exact (h.ce a' w ha').mp z
          · rintro ⟨w1, w2, w3, w4⟩
            by_cases ew : w = t
            · rw [if_pos ew] at w2; omega
            · rw [if_neg ew] at w2 w3 w4
              exact (h.ce a' w ha').mpr ⟨w1, w2, w3, w4⟩
theorem SL.start (g : GB Λ c s1) : SL Λ c s1 0 0 s1 := ⟨g.wf, by omega, fun _ _ _ => rfl, fun _ _ _ _ => rfl, fun t ht h0 h1 => by omega, fun _ _ _ => rfl, fun t ht h1 => by omega, g.ce⟩
theorem SL.all (g : GB Λ c s1) : ∀ n, n ≤ 64 → SL Λ c s1 n (nfold (gSlide1 Λ c) (0, s1) n).1 (nfold (gSlide1 Λ c) (0, s1) n).2
  | 0, _ => SL.start g
  | n + 1, hn => by
    rw [nfold_s]
    exact SL.step g (by omega) (SL.all g n (by omega))
end SLS
