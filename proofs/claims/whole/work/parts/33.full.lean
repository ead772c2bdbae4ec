/-! The full collection: what it finds. -/
def FA (Λ : Lam) (c : Nat → Nat) (σ0 σ : Mem) : Prop :=
  (GB Λ c σ) ∧
  (∀ kd q k, ¬ (kd = 101 ∧ q = c 7) → σ.2.2 kd q k = σ0.2.2 kd q k) ∧
  (∀ f q, f ≠ 206 → ¬ (f = 101 ∧ q = c 6) → σ.1 f q = σ0.1 f q) ∧
  (∀ t, isT Λ t → ((σ.1 206 t) = 1 ↔ ∃ i : Nat, (i : Int) < (σ.1 101 (c 6)) ∧ σ.2.2 101 (c 7) i = some t)) ∧
  (∀ i j : Nat, (i : Int) < (σ.1 101 (c 6)) → (j : Int) < (σ.1 101 (c 6)) → σ.2.2 101 (c 7) i = σ.2.2 101 (c 7) j → i = j) ∧
  (∀ t, isT Λ t → (σ.1 206 t) = 1 → Reach Λ c σ0 t)
theorem FA.gb {Λ : Lam} {c : Nat → Nat} {σ0 σ : Mem} (h : FA Λ c σ0 σ) : GB Λ c σ := h.1
theorem FA.kx {Λ : Lam} {c : Nat → Nat} {σ0 σ : Mem} (h : FA Λ c σ0 σ) : ∀ kd q k, ¬ (kd = 101 ∧ q = c 7) → σ.2.2 kd q k = σ0.2.2 kd q k := h.2.1
theorem FA.ki {Λ : Lam} {c : Nat → Nat} {σ0 σ : Mem} (h : FA Λ c σ0 σ) : ∀ f q, f ≠ 206 → ¬ (f = 101 ∧ q = c 6) → σ.1 f q = σ0.1 f q := h.2.2.1
theorem FA.rl {Λ : Lam} {c : Nat → Nat} {σ0 σ : Mem} (h : FA Λ c σ0 σ) : ∀ t, isT Λ t → ((σ.1 206 t) = 1 ↔ ∃ i : Nat, (i : Int) < (σ.1 101 (c 6)) ∧ σ.2.2 101 (c 7) i = some t) := h.2.2.2.1
theorem FA.rd {Λ : Lam} {c : Nat → Nat} {σ0 σ : Mem} (h : FA Λ c σ0 σ) : ∀ i j : Nat, (i : Int) < (σ.1 101 (c 6)) → (j : Int) < (σ.1 101 (c 6)) → σ.2.2 101 (c 7) i = σ.2.2 101 (c 7) j → i = j := h.2.2.2.2.1
theorem FA.rr {Λ : Lam} {c : Nat → Nat} {σ0 σ : Mem} (h : FA Λ c σ0 σ) : ∀ t, isT Λ t → (σ.1 206 t) = 1 → Reach Λ c σ0 t := h.2.2.2.2.2
section FU
variable {Λ : Lam} {c : Nat → Nat} {σ0 σ : Mem}
-- different live things have different places: 20 of the young, 64 of the old
theorem GD.room (h : GD Λ c σ0) (L : Nat → Nat) (n : Nat) (hL : ∀ i, i < n → isT Λ (L i) ∧ (σ0.1 203 (L i)) ≠ -2) (hi : ∀ i j, i < n → j < n → L i = L j → i = j) : n ≤ 84 := by
  classical
  have y0 := h.gb.wf.y0
  have y1 := h.gb.wf.y1
  have key : ∀ i, i < n → ∃ m : Nat, m < 84 ∧ (((σ0.1 203 (L i)) = -1 ∧ m < 20 ∧ (m : Int) < (σ0.1 101 (c 2)) ∧ σ0.2.2 101 (c 3) m = some (L i)) ∨ (0 ≤ (σ0.1 203 (L i)) ∧ (m : Int) = 20 + (σ0.1 203 (L i)))) := by
    intro i hi2
    obtain ⟨hT, hn⟩ := hL i hi2
    rcases h.gb.ad _ hT with e | e | ⟨e, e2⟩
    · exact absurd e hn
    · obtain ⟨j, hj, hx⟩ := (h.yl.1 _ hT).mp e
      exact ⟨j, by omega, Or.inl ⟨e, by omega, hj, hx⟩⟩
    · have := szI_le hT
      exact ⟨20 + ((σ0.1 203 (L i))).toNat, by omega, Or.inr ⟨e, by omega⟩⟩
  refine pigeon (fun i => if h2 : i < n then (key i h2).choose else 0) (fun i h2 => ?_) (fun i h2 j h3 e => ?_)
  · simp only [dif_pos h2]
    exact (key i h2).choose_spec.1
  · simp only [dif_pos h2, dif_pos h3] at e
    have k1 := (key i h2).choose_spec.2
    have k2 := (key j h3).choose_spec.2
    rw [← e] at k2
    refine hi i j h2 h3 ?_
    rcases k1 with ⟨a1, a2, a3, a4⟩ | ⟨a1, a2⟩
    · rcases k2 with ⟨b1, b2, b3, b4⟩ | ⟨b1, b2⟩
      · rw [a4] at b4; exact Option.some.inj b4
      · omega
    · rcases k2 with ⟨b1, b2, b3, b4⟩ | ⟨b1, b2⟩
      · omega
      · have e2 : (σ0.1 203 (L i)) = (σ0.1 203 (L j)) := by omega
        have hTi := (hL i h2).1
        have hTj := (hL j h3).1
        have zi := szI_le hTi
        have zj := szI_le hTj
        have ai : (σ0.1 203 (L i)) + szI Λ (L i) ≤ 64 := by
          rcases h.gb.ad _ hTi with x | x | ⟨_, x⟩ <;> omega
        have c1 := (h.gb.ce ((σ0.1 203 (L i))).toNat (L i) (by omega)).mpr ⟨hTi, a1, by omega, by omega⟩
        have c2 := (h.gb.ce ((σ0.1 203 (L i))).toNat (L j) (by omega)).mpr ⟨hTj, b1, by omega, by omega⟩
        rw [c1] at c2
        exact Option.some.inj c2
theorem FA.room (h : GD Λ c σ0) (fa : FA Λ c σ0 σ) {t : Nat} (ht : isT Λ t) (hr : Reach Λ c σ0 t) (h0 : (σ.1 206 t) = 0) : (σ.1 101 (c 6)) < 84 := by
  classical
  have q0 := fa.gb.wf.q0
  have key : ∀ i : Nat, (i : Int) < (σ.1 101 (c 6)) → ∃ u, σ.2.2 101 (c 7) i = some u := fa.gb.wf.ql
  have hp := h.room (fun i => if hi : (i : Int) < (σ.1 101 (c 6)) then (key i hi).choose else t) (((σ.1 101 (c 6))).toNat + 1) (fun i hi => ?_) (fun i j hi hj e => ?_)
  · omega
  · by_cases h1 : (i : Int) < (σ.1 101 (c 6))
    · simp only [dif_pos h1]
      have hx := (key i h1).choose_spec
      have hT := fa.gb.wf.ty _ _ _ _ hx
      exact ⟨hT, h.s5 _ (fa.rr _ hT ((fa.rl _ hT).mpr ⟨i, h1, hx⟩))⟩
    · simp only [dif_neg h1]
      exact ⟨ht, h.s5 t hr⟩
  · have nt : ∀ (k : Nat) (hk : (k : Int) < (σ.1 101 (c 6))), (key k hk).choose ≠ t := by
      intro k hk e2
      have hx := (key k hk).choose_spec
      rw [e2] at hx
      have := (fa.rl t ht).mpr ⟨k, hk, hx⟩
      omega
    by_cases h1 : (i : Int) < (σ.1 101 (c 6))
    · by_cases h2 : (j : Int) < (σ.1 101 (c 6))
      · simp only [dif_pos h1, dif_pos h2] at e
        have x1 := (key i h1).choose_spec
        have x2 := (key j h2).choose_spec
        rw [e] at x1
        exact fa.rd i j h1 h2 (x1.trans x2.symm)
      · simp only [dif_pos h1, dif_neg h2] at e
        exact absurd e (nt i h1)
    · by_cases h2 : (j : Int) < (σ.1 101 (c 6))
      · simp only [dif_neg h1, dif_pos h2] at e
        exact absurd e.symm (nt j h2)
      · omega
theorem FA.reach (h : GD Λ c σ0) (fa : FA Λ c σ0 σ) {o : Option Nat} (ho : ∀ t, o = some t → isT Λ t ∧ Reach Λ c σ0 t) : FA Λ c σ0 (fReach (c 6) (c 7) 84 o σ).2 ∧ (∀ t, o = some t → ((fReach (c 6) (c 7) 84 o σ).2.1 206 t) = 1) ∧ (∀ u, (σ.1 206 u) = 1 → ((fReach (c 6) (c 7) 84 o σ).2.1 206 u) = 1) ∧ (σ.1 101 (c 6)) ≤ ((fReach (c 6) (c 7) 84 o σ).2.1 101 (c 6)) ∧ ∀ i : Nat, (i : Int) < (σ.1 101 (c 6)) → (fReach (c 6) (c 7) 84 o σ).2.2.2 101 (c 7) i = σ.2.2 101 (c 7) i := by
  have q0 := fa.gb.wf.q0
  cases o with
  | none => exact ⟨fa, fun t e => (by cases e), fun u hu => hu, Int.le_refl _, fun _ _ => rfl⟩
  | some t =>
    obtain ⟨ht, hr⟩ := ho t rfl
    by_cases h0 : (σ.1 206 t) = 0
    · have hc := fa.room h ht hr h0
      rw [reach_new h0 hc]
      simp only
      have eC : (upI (gAdd (c 6) (c 7) (some t) σ) 206 t 1).1 101 (c 6) = (σ.1 101 (c 6)) + 1 := by rw [rn_1, if_neg (by omega), if_pos ⟨rfl, rfl⟩]
      have eR : ∀ u, (upI (gAdd (c 6) (c 7) (some t) σ) 206 t 1).1 206 u = if u = t then 1 else (σ.1 206 u) := by
        intro u
        rw [rn_1]
        by_cases e : u = t
        · rw [if_pos ⟨rfl, e⟩, if_pos e]
        · rw [if_neg (fun z => e z.2), if_neg (by omega), if_neg e]
      have nt : ∀ k : Nat, (k : Int) < (σ.1 101 (c 6)) → σ.2.2 101 (c 7) k ≠ some t := by
        intro k hk hx
        have := (fa.rl t ht).mpr ⟨k, hk, hx⟩
        omega
      refine ⟨⟨fa.gb.reached ht hc, fun kd q k hk => ?_, fun f q h1 h2 => ?_, fun u hu => ?_, fun i j hi hj => ?_, fun u hu hr2 => ?_⟩, fun u e => ?_, fun u hu => ?_, ?_, fun i hi => ?_⟩
      · rw [rn_2, if_neg (fun z => hk ⟨z.1, z.2.1⟩)]; exact fa.kx kd q k hk
      · rw [rn_1, if_neg (fun z => h1 z.1), if_neg h2]; exact fa.ki f q h1 h2
      · rw [eR, eC]
        constructor
        · intro hx
          by_cases e : u = t
          · exact ⟨((σ.1 101 (c 6))).toNat, by omega, by rw [rn_2, if_pos ⟨rfl, rfl, rfl⟩, e]⟩
          · rw [if_neg e] at hx
            obtain ⟨i, hi, hy⟩ := (fa.rl u hu).mp hx
            exact ⟨i, by omega, by rw [rn_2, if_neg (by omega)]; exact hy⟩
        · rintro ⟨i, hi, hx⟩
          rw [rn_2] at hx
          by_cases e : u = t
          · rw [if_pos e]
          · rw [if_neg e]
            split at hx
            · cases hx; exact absurd rfl e
            · rename_i hne
              have : i ≠ ((σ.1 101 (c 6))).toNat := fun z => hne ⟨rfl, rfl, z⟩
              exact (fa.rl u hu).mpr ⟨i, by omega, hx⟩
      · rw [eC] at hi hj
        rw [rn_2, rn_2]
        by_cases ei : i = ((σ.1 101 (c 6))).toNat
        · by_cases ej : j = ((σ.1 101 (c 6))).toNat
          · intro _; omega
          · rw [if_pos ⟨rfl, rfl, ei⟩, if_neg (fun z => ej z.2.2)]
            intro z
            exact absurd z.symm (nt j (by omega))
        · by_cases ej : j = ((σ.1 101 (c 6))).toNat
          · rw [if_neg (fun z => ei z.2.2), if_pos ⟨rfl, rfl, ej⟩]
            intro z
            exact absurd z (nt i (by omega))
          · rw [if_neg (fun z => ei z.2.2), if_neg (fun z => ej z.2.2)]
            exact fa.rd i j (by omega) (by omega)
      · rw [eR] at hr2
        by_cases e : u = t
        · rw [e]; exact hr
        · rw [if_neg e] at hr2; exact fa.rr u hu hr2
      · cases e; rw [eR, if_pos rfl]
      · rw [eR]
        split
        · rfl
        · exact hu
      · rw [eC]; omega
      · rw [rn_2, if_neg (by omega)]
    · rw [reach_old h0]
      refine ⟨fa, fun u e => ?_, fun u hu => hu, Int.le_refl _, fun _ _ => rfl⟩
      cases e
      rcases (fa.gb.fl t ht).2.2 with x | x
      · exact absurd x h0
      · exact x
theorem GD.startF (h : GD Λ c σ0) : FA Λ c σ0 σ0 := by
  have q0 := h.q0
  refine ⟨h.gb, fun _ _ _ _ => rfl, fun _ _ _ _ => rfl, fun t ht => ?_, fun i j hi => by omega, fun t ht hr => ?_⟩
  · have := h.r0 t ht
    constructor
    · intro z; omega
    · rintro ⟨i, hi, _⟩; omega
  · have := h.r0 t ht; omega
theorem f_all (h : GD Λ c σ0) : FA Λ c σ0 (gFindAll Λ c σ0) ∧ ∀ t, Reach Λ c σ0 t → ((gFindAll Λ c σ0).1 206 t) = 1 := by
  have st1 : FA Λ c σ0 (nfold (gFindR c) σ0 6) ∧ ∀ r t, r < 6 → (σ0.2.2 100 (c 1) r) = some t → ((nfold (gFindR c) σ0 6).1 206 t) = 1 := by
    refine nfold_inv (fun i s => FA Λ c σ0 s ∧ ∀ r t, r < i → (σ0.2.2 100 (c 1) r) = some t → (s.1 206 t) = 1) ⟨h.startF, fun r t hr => by omega⟩ 6 (fun i s hi hs => ?_)
    have e0 : (s.2.2 100 (c 1) i) = (σ0.2.2 100 (c 1) i) := hs.1.kx _ _ _ (by omega)
    have ho : ∀ t, (s.2.2 100 (c 1) i) = some t → isT Λ t ∧ Reach Λ c σ0 t := fun t e => ⟨hs.1.gb.wf.ty _ _ _ _ e, Reach.root hi (e0.symm.trans e)⟩
    obtain ⟨a, b, d, _, _⟩ := hs.1.reach h ho
    refine ⟨a, fun r t hr e => ?_⟩
    by_cases er : r = i
    · subst er; exact b t (e0.trans e)
    · exact d t (hs.2 r t (by omega) e)
  have st2 : FA Λ c σ0 (gFindAll Λ c σ0) ∧ (∀ r t, r < 6 → (σ0.2.2 100 (c 1) r) = some t → ((gFindAll Λ c σ0).1 206 t) = 1) ∧ ∀ j u k t : Nat, j < 84 → (j : Int) < ((gFindAll Λ c σ0).1 101 (c 6)) → (gFindAll Λ c σ0).2.2 101 (c 7) j = some u → k < nfL Λ u → (σ0.2.2 103 (faL Λ u) k) = some t → ((gFindAll Λ c σ0).1 206 t) = 1 := by
    unfold gFindAll
    generalize nfold (gFindR c) σ0 6 = s0 at st1
    refine nfold_inv (fun i s => FA Λ c σ0 s ∧ (∀ r t, r < 6 → (σ0.2.2 100 (c 1) r) = some t → (s.1 206 t) = 1) ∧ ∀ j u k t : Nat, j < i → (j : Int) < (s.1 101 (c 6)) → s.2.2 101 (c 7) j = some u → k < nfL Λ u → (σ0.2.2 103 (faL Λ u) k) = some t → (s.1 206 t) = 1) ⟨st1.1, st1.2, fun j u k t hj => by omega⟩ 84 (fun i s hi hs => ?_)
    obtain ⟨fa, d1, d3⟩ := hs
    by_cases hc : (i : Int) < (s.1 101 (c 6))
    · obtain ⟨w, hw⟩ := fa.gb.wf.ql i hc
      have hT := fa.gb.wf.ty _ _ _ _ hw
      have e : gFind1 Λ c i s = nfold (gFindF Λ c w) s (nfL Λ w) := by unfold gFind1; rw [if_pos hc, hw]
      rw [e]
      have hrw := fa.rr w hT ((fa.rl w hT).mpr ⟨i, hc, hw⟩)
      have inner : FA Λ c σ0 (nfold (gFindF Λ c w) s (nfL Λ w)) ∧ (∀ k t, k < nfL Λ w → (σ0.2.2 103 (faL Λ w) k) = some t → ((nfold (gFindF Λ c w) s (nfL Λ w)).1 206 t) = 1) ∧ (∀ u, (s.1 206 u) = 1 → ((nfold (gFindF Λ c w) s (nfL Λ w)).1 206 u) = 1) ∧ (s.1 101 (c 6)) ≤ ((nfold (gFindF Λ c w) s (nfL Λ w)).1 101 (c 6)) ∧ ∀ i : Nat, (i : Int) < (s.1 101 (c 6)) → (nfold (gFindF Λ c w) s (nfL Λ w)).2.2 101 (c 7) i = s.2.2 101 (c 7) i := by
        refine nfold_inv (fun n s' => FA Λ c σ0 s' ∧ (∀ k t, k < n → (σ0.2.2 103 (faL Λ w) k) = some t → (s'.1 206 t) = 1) ∧ (∀ u, (s.1 206 u) = 1 → (s'.1 206 u) = 1) ∧ (s.1 101 (c 6)) ≤ (s'.1 101 (c 6)) ∧ ∀ i : Nat, (i : Int) < (s.1 101 (c 6)) → s'.2.2 101 (c 7) i = s.2.2 101 (c 7) i) ⟨fa, fun k t hk => by omega, fun u hu => hu, Int.le_refl _, fun _ _ => rfl⟩ (nfL Λ w) (fun k s' hk hs => ?_)
        obtain ⟨a, b, d, e5, f⟩ := hs
        have e0 : (s'.2.2 103 (faL Λ w) k) = (σ0.2.2 103 (faL Λ w) k) := a.kx _ _ _ (by omega)
        have ho : ∀ t, (s'.2.2 103 (faL Λ w) k) = some t → isT Λ t ∧ Reach Λ c σ0 t := fun t e => ⟨a.gb.wf.ty _ _ _ _ e, hrw.fld hk (e0.symm.trans e)⟩
        obtain ⟨a2, b2, d2, e2, f2⟩ := a.reach h ho
        refine ⟨a2, fun k' t hk' ef => ?_, fun u hr => d2 u (d u hr), Int.le_trans e5 e2, fun i hi => (f2 i (by omega)).trans (f i hi)⟩
        by_cases ek : k' = k
        · subst ek; exact b2 t (e0.trans ef)
        · exact d2 t (b k' t (by omega) ef)
      obtain ⟨a, b, d, e2, f⟩ := inner
      refine ⟨a, fun r t hr er => d t (d1 r t hr er), fun j u k t hj hjc hju hk hf => ?_⟩
      by_cases ej : j = i
      · subst ej
        rw [f j hc, hw] at hju
        cases hju
        exact b k t hk hf
      · have hj2 : (j : Int) < (s.1 101 (c 6)) := by omega
        rw [f j hj2] at hju
        exact d t (d3 j u k t (by omega) hj2 hju hk hf)
    · rw [gFind1_stop hc]
      refine ⟨fa, d1, fun j u k t hj hjc hju hk hf => d3 j u k t ?_ hjc hju hk hf⟩
      omega
  refine ⟨st2.1, fun t ht => ?_⟩
  have key : Reach Λ c σ0 t ∧ ((gFindAll Λ c σ0).1 206 t) = 1 := by
    refine ht (fun t => Reach Λ c σ0 t ∧ ((gFindAll Λ c σ0).1 206 t) = 1) (fun r u hr e => ⟨Reach.root hr e, st2.2.1 r u hr e⟩) (fun u k v hu hk hf => ⟨hu.1.fld hk hf, ?_⟩)
    have hT : isT Λ u := hu.1.thing h.gb.wf.ty
    obtain ⟨j, hj, hx⟩ := (st2.1.rl u hT).mp hu.2
    have := st2.1.gb.wf.q1
    exact st2.2.2 j u k v (by omega) hj hx hk hf
  exact key.2
end FU
