/-! The rest of the young collection on both sides. -/
section RY6
variable {l : Launch} {D : va_G} {Λ ΛR : Lam} {c r : Nat → Nat} {th : Nat → Option Nat} {σ0 σ ρ : Mem}
def rY (s : Mem) (t : Nat) : Bool := decide ((s.1 203 t) = -1) && decide ((s.1 206 t) = 0)
theorem rY_iff {s : Mem} {t : Nat} : rY s t = true ↔ (s.1 203 t) = -1 ∧ (s.1 206 t) = 0 := by
  unfold rY
  rw [Bool.and_eq_true, decide_eq_true_iff, decide_eq_true_iff]
theorem yg_drop {x : Cx} {P : Mem → Prop} {s1 : Mem} (hx : X_M_collectYoung x) (g0 : GD Λ c σ0) (h : RX Λ ΛR c r th σ0 s1 ρ) (hreach : ∀ t, Reach Λ c σ0 t → (σ0.1 203 t) = -1 → (s1.1 206 t) = 1) (go : ∀ (th' : Nat → Option Nat) (q : Mem), RW ΛR r q → RB Λ c r th' (upI (gDrop c s1) 101 (c 2) 0) (upI q 413 (r 0) 0) → q.1 = ρ.1 → (∀ kd q' k, kd ≠ 1 → kd ≠ 4 → kd ≠ 51 → kd ≠ 52 → q.2.1 kd q' k = ρ.2.1 kd q' k) → (∀ i : Nat, (i : Int) < (s1.1 101 (c 6)) → ∃ j t : Nat, j < 90 ∧ (q.2.1 9 (r 9) i) = j ∧ th' j = some t ∧ s1.2.2 101 (c 7) i = some t) → N_M_collectYoung_150 x P ΛR (upI q 413 (r 0) 0) r 0) : N_M_collectYoung_107 x P ΛR ρ r 0 := by
  have hL := h.rw.ly
  have ya := h.ya
  have n37 := ya.gb.wf.ly.ne37
  have n26 := ya.gb.wf.ly.ne26
  have yng0 : ∀ t, isT Λ t → (s1.1 203 t) = -1 → (σ0.1 203 t) = -1 := by
    intro t ht hy
    rcases ya.aa t ht with e | ⟨e, _⟩
    · omega
    · exact e
  have loop : ∀ n i : Nat, i + n = 90 → ∀ q : Mem, RW ΛR r q → RB Λ c r (thR th (rY s1) i) (nfold (gR1 th (rY s1)) (upI s1 101 (c 2) 0) i) (upI q 413 (r 0) 0) → q.1 = ρ.1 → (∀ kd q' k, kd ≠ 1 → kd ≠ 4 → kd ≠ 51 → kd ≠ 52 → q.2.1 kd q' k = ρ.2.1 kd q' k) → N_M_collectYoung_107 x P ΛR q r i := by
    intro n
    induction n with
    | zero =>
      intro i hi q wq hq a1 a2
      rw [show i = 90 by omega] at hq ⊢
      refine u_M_collectYoung_107 hx hL ⟨⟨by omega, by omega⟩, fun _ => ?_, fun z => absurd (by decide) z⟩
      obtain ⟨b1, b2, b3, b4⟩ := gR_is th (rY s1) (upI s1 101 (c 2) 0) 90
      obtain ⟨d1, d2⟩ := drop_is c s1
      obtain ⟨dk1, dk2⟩ := drop_keep' c s1
      have ec2 : (s1.1 101 (c 2)) = (σ0.1 101 (c 2)) := ya.ki _ _ (by decide) (by decide) (by decide) (by decide) (by decide) (fun z => n26 z.2)
      have ex3 : ∀ i, s1.2.2 101 (c 3) i = σ0.2.2 101 (c 3) i := fun i => ya.kx _ _ _ (by decide) (fun z => n37 z.2)
      have inl : ∀ t, isT Λ t → ((∃ j : Nat, (j : Int) < (s1.1 101 (c 2)) ∧ s1.2.2 101 (c 3) j = some t) ↔ (σ0.1 203 t) = -1) := by
        intro t ht
        simp only [ec2, ex3]
        exact (g0.yl.1 t ht).symm
      have fin : RB Λ c r (thR th (rY s1) 90) (upI (gDrop c s1) 101 (c 2) 0) (upI q 413 (r 0) 0) := by
        refine hq.eqA (fun kd q' k t e => ?_) (fun kd q' k _ _ => ?_) (fun f q' hf hf2 hf3 => ?_) (fun t ht => ?_) n37 n26
        · rw [b1] at e; exact ya.gb.wf.ty _ _ _ _ e
        · rw [b1]
          show (gDrop c s1).2.2 kd q' k = s1.2.2 kd q' k
          rw [dk1]
        · rw [b2 f q' hf, upI_1, upI_1]
          split
          · rfl
          · exact dk2 f q' hf
        · rw [upI_ne (by decide)]
          by_cases y : (σ0.1 203 t) = -1 ∧ (s1.1 206 t) = 0
          · rw [d1 t ((inl t ht).mpr y.1) y.2]
            have e1 : (s1.1 203 t) = -1 := by
              rcases ya.aa t ht with e | ⟨_, _, e, _⟩
              · omega
              · omega
            obtain ⟨j, hj, ej⟩ := h.rb.k3 t ht (by omega)
            exact (b3 j t hj ej (rY_iff.mpr ⟨e1, y.2⟩)).symm
          · rw [d2 t (fun z => y ⟨(inl t ht).mp z.1, z.2⟩), b4 t (fun z => y ⟨yng0 t ht (rY_iff.mp z.1).1, (rY_iff.mp z.1).2⟩), upI_ne (by decide)]
      refine go _ q wq fin a1 a2 (fun i hi => ?_)
      obtain ⟨j, t, hj, f1, f2, f3⟩ := h.ro i hi
      have hT := (h.rb.k1 j t hj f2).1
      have hr := (ya.rl t hT).mpr ⟨i, hi, f3⟩
      refine ⟨j, t, hj, ?_, thR_keep f2 ?_, f3⟩
      · rw [a2 _ _ _ (by decide) (by decide) (by decide) (by decide)]; exact f1
      · cases hc : rY s1 t with
        | false => rfl
        | true => have := (rY_iff.mp hc).2; omega
    | succ n ih =>
      intro i hi q wq hq a1 a2
      have hi9 : i < 90 := by omega
      obtain ⟨b1, b2, b3, b4⟩ := gR_is th (rY s1) (upI s1 101 (c 2) 0) i
      have go1 : (∀ t, th i = some t → rY s1 t = false) → N_M_collectYoung_107 x P ΛR q r (i + 1 : Nat) := by
        intro hn
        refine ih (i + 1) (by omega) q wq ?_ a1 a2
        rw [thR_no hn, nfold_s]
        have eg : gR1 th (rY s1) i (nfold (gR1 th (rY s1)) (upI s1 101 (c 2) 0) i) = nfold (gR1 th (rY s1)) (upI s1 101 (c 2) 0) i := by
          generalize nfold (gR1 th (rY s1)) (upI s1 101 (c 2) 0) i = u
          unfold gR1
          cases e : th i with
          | none => rfl
          | some t => simp only; rw [hn t e]; rfl
        rw [eg]
        exact hq
      cases e : th i with
      | none =>
        have k0 := (hq.k0 i hi9).mpr (by rw [thR_ge (Nat.le_refl _)]; exact e)
        have k0 : (q.2.1 1 (r 1) i) = 0 := k0
        refine u_M_collectYoung_107 hx hL ⟨⟨by omega, by omega⟩, fun z => absurd z (by omega), fun _ => ⟨by omega, by omega, wq.ry _ _ _, fun _ => go1 (fun t et => by rw [e] at et; cases et), fun z => ?_⟩⟩
        have z : (q.2.1 1 (r 1) i) = 1 := z
        omega
      | some t =>
        have hT := (h.rb.k1 i t hi9 e).1
        have k1 := (hq.k1 i t hi9 (by rw [thR_ge (Nat.le_refl _)]; exact e)).2.2.1
        have k1 : (q.2.1 1 (r 1) i) = 1 ↔ ((nfold (gR1 th (rY s1)) (upI s1 101 (c 2) 0) i).1 203 t) = -1 := k1
        have eA : ((nfold (gR1 th (rY s1)) (upI s1 101 (c 2) 0) i).1 203 t) = (s1.1 203 t) := by
          rw [b4 t (fun ⟨_, i', hi', ei'⟩ => by have := h.rb.k2 i' i t (by omega) hi9 ei' e; omega), upI_ne (by decide)]
        rw [eA] at k1
        have em : (q.2.1 55 (r 55) i) = (ρ.2.1 55 (r 55) i) := a2 _ _ _ (by decide) (by decide) (by decide) (by decide)
        have me := h.me i t hi9 e
        refine u_M_collectYoung_107 hx hL ⟨⟨by omega, by omega⟩, fun z => absurd z (by omega), fun _ => ⟨by omega, by omega, wq.ry _ _ _, fun z => go1 (fun u eu => ?_), fun z => ⟨by omega, by omega, wq.ry _ _ _, fun z2 => go1 (fun u eu => ?_), fun z2 => ?_⟩⟩⟩
        · rw [e] at eu
          cases eu
          cases hc : rY s1 t with
          | false => rfl
          | true => exact absurd (k1.mpr (rY_iff.mp hc).1) z
        · rw [e] at eu
          cases eu
          have z2 : ¬ (q.2.1 55 (r 55) i) = 0 := z2
          rw [em] at z2
          cases hc : rY s1 t with
          | false => rfl
          | true => exact absurd (me.mpr (rY_iff.mp hc).2) z2
        · have z2 : (q.2.1 55 (r 55) i) = 0 := z2
          rw [em] at z2
          have hy := k1.mp z
          have hr := me.mp z2
          refine c_M_remove wq hi9 (fun q' d1 d2 d3 d4 => ?_)
          refine ih (i + 1) (by omega) q' (wq.remove d1 d2 d3 d4) (RB.rm1 h.rb.k2 hq hi9 e (rY_iff.mpr ⟨hy, hr⟩) (fun k hk er => ?_) d1 d2 d3) (d1.trans a1) (fun kd q2 k k1 k2 k3 k4 => ?_)
          · have er : (s1.2.2 100 (c 1) k) = some t := er
            have e0 : (σ0.2.2 100 (c 1) k) = some t := by rw [← er]; exact (ya.kx _ _ _ (by decide) (by omega)).symm
            have := hreach t (Reach.root hk e0) (yng0 t hT hy)
            omega
          · rw [d2 kd q2 k k2, upY_nk k4, upY_nk k3, upY_nk k1]; exact a2 kd q2 k k1 k2 k3 k4
  exact loop 90 0 rfl ρ h.rw (by rw [thR_0]; exact h.rb.cnt0) rfl (fun _ _ _ _ _ _ _ => rfl)
-- the row is renewed
theorem RW.app (w : RW ΛR r ρ) {j : Nat} {n : Int} (hj : j < 90) (hn : n = (ρ.1 413 (r 0))) (h20 : n < 20) : RW ΛR r (upI (upY ρ 8 (r 8) n.toNat j) 413 (r 0) (n + 1)) := by
  have yo := w.yo
  have e3 : ((upI (upY ρ 8 (r 8) n.toNat j) 413 (r 0) (n + 1)).1 413 (r 0)) = n + 1 := upI_at
  have ek : ∀ kd q k, kd ≠ 8 → (upI (upY ρ 8 (r 8) n.toNat j) 413 (r 0) (n + 1)).2.1 kd q k = ρ.2.1 kd q k := fun kd q k hk => upY_nk hk
  refine ⟨w.ly, rng_upI (ρ := upY ρ 8 (r 8) n.toNat j) w.ri ⟨by omega, by omega⟩, rng_upY w.ry ⟨by omega, by omega⟩, fun i hi => ?_, fun i hi => ?_, fun i hi => ?_, fun i hi => ?_, fun i hi => ?_, fun i hi => ?_, fun i hi => ?_, fun i hi => ?_, ?_, fun i hi => ?_⟩
  · rw [ek 1 _ _ (by decide)]; exact w.kn i hi
  · rw [ek 3 _ _ (by decide)]; exact w.fd i hi
  · rw [ek 6 _ _ (by decide)]; exact w.pa i hi
  · rw [ek 4 _ _ (by decide)]; exact w.rf i hi
  · rw [ek 7 _ _ (by decide)]; exact w.rt i hi
  · rw [ek 5 _ _ (by decide)]; exact w.ag i hi
  · rw [ek 51 _ _ (by decide), ek 52 _ _ (by decide)]; exact w.bm i hi
  · rw [ek 53 _ _ (by decide), ek 54 _ _ (by decide)]; exact w.bd i hi
  · rw [e3]; omega
  · rw [e3] at hi
    show 0 ≤ (upY ρ 8 (r 8) n.toNat j).2.1 8 (r 8) i ∧ (upY ρ 8 (r 8) n.toNat j).2.1 8 (r 8) i < 90
    by_cases x : i = n.toNat
    · rw [x, upY_at]; exact ⟨by omega, by omega⟩
    · rw [upY_ni x]; exact w.od i (by omega)
theorem RB.app (h : RB Λ c r th σ ρ) {j t : Nat} {n : Int} (hj : j < 90) (ht : th j = some t) (hn : n = (ρ.1 413 (r 0))) (h0 : 0 ≤ n) : RB Λ c r th (gAdd (c 2) (c 3) (some t) σ) (upI (upY ρ 8 (r 8) n.toNat j) 413 (r 0) (n + 1)) := by
  have e3 : ((upI (upY ρ 8 (r 8) n.toNat j) 413 (r 0) (n + 1)).1 413 (r 0)) = n + 1 := upI_at
  have ek : ∀ kd q k, kd ≠ 8 → (upI (upY ρ 8 (r 8) n.toNat j) 413 (r 0) (n + 1)).2.1 kd q k = ρ.2.1 kd q k := fun kd q k hk => upY_nk hk
  have eC : ((gAdd (c 2) (c 3) (some t) σ).1 101 (c 2)) = (σ.1 101 (c 2)) + 1 := by unfold gAdd; rw [upI_at]
  have eX : ∀ kd q k, (gAdd (c 2) (c 3) (some t) σ).2.2 kd q k = if kd = 101 ∧ q = c 3 ∧ k = ((σ.1 101 (c 2))).toNat then some t else σ.2.2 kd q k := fun kd q k => rfl
  have eI : ∀ f q, f ≠ 101 → (gAdd (c 2) (c 3) (some t) σ).1 f q = σ.1 f q := fun f q hf => by unfold gAdd; rw [upI_ne hf]; rfl
  have e9 := h.k9.2.2
  have eF : ∀ f q, f ≠ 413 → (upI (upY ρ 8 (r 8) n.toNat j) 413 (r 0) (n + 1)).1 f q = ρ.1 f q := fun f q hf => by rw [upI_ne hf]; rfl
  have y8 : ∀ i, (upI (upY ρ 8 (r 8) n.toNat j) 413 (r 0) (n + 1)).2.1 8 (r 8) i = if i = n.toNat then (j : Int) else (ρ.2.1 8 (r 8) i) := by
    intro i
    show (upY ρ 8 (r 8) n.toNat j).2.1 8 (r 8) i = _
    by_cases x : i = n.toNat
    · rw [x, upY_at, if_pos rfl]
    · rw [upY_ni x, if_neg x]
  generalize upI (upY ρ 8 (r 8) n.toNat j) 413 (r 0) (n + 1) = ρ' at *
  generalize gAdd (c 2) (c 3) (some t) σ = s at *
  refine ⟨fun i hi => ?_, fun i u hi e => ?_, h.k2, fun u hu hn2 => ?_, fun i u hi e => ?_, fun i hi e => ?_, fun i u k hi e hk => ?_, fun i hi => ?_, fun i hi => ?_, ⟨?_, ?_, ?_⟩, fun i hi => ?_⟩
  · rw [ek 1 _ _ (by decide)]; exact h.k0 i hi
  · rw [ek 1 _ _ (by decide), ek 6 _ _ (by decide), eI _ _ (by decide)]; exact h.k1 i u hi e
  · rw [eI _ _ (by decide)] at hn2; exact h.k3 u hu hn2
  · rw [ek 2 _ _ (by decide), ek 3 _ _ (by decide), ek 51 _ _ (by decide), ek 52 _ _ (by decide), ek 1 _ _ (by decide), ek 5 _ _ (by decide), eI 200 _ (by decide), eI 204 _ (by decide), eI 205 _ (by decide), eI 202 _ (by decide)]; exact h.k4 i u hi e
  · rw [ek 51 _ _ (by decide), ek 52 _ _ (by decide)]; exact h.k5 i hi e
  · rw [ek 4 _ _ (by decide), eX, if_neg (by omega)]; exact (h.k6 i u k hi e hk).congr (fun _ => eI _ _ (by decide))
  · rw [ek 7 _ _ (by decide), eX, if_neg (by omega)]; exact h.k7 i hi
  · rw [ek 53 _ _ (by decide), ek 54 _ _ (by decide), eI 304 _ (by decide), eI 305 _ (by decide)]; exact h.k8 i hi
  · rw [eF _ _ (by decide), eI _ _ (by decide)]; exact h.k9.1
  · rw [eF _ _ (by decide), eI _ _ (by decide)]; exact h.k9.2.1
  · rw [e3, eC]; omega
  · rw [e3] at hi
    rw [y8, eX]
    by_cases x : i = n.toNat
    · rw [if_pos x, if_pos ⟨rfl, rfl, by omega⟩]
      exact ⟨j, t, hj, rfl, ht, rfl⟩
    · rw [if_neg x, if_neg (fun z => x (by omega))]
      exact h.ka i (by omega)
theorem renew_inv (hL : LayC Λ c) (s : Mem) : ∀ i : Nat, (i : Int) ≤ 20 → (∀ f q, f ≠ 101 → (nfold (gRenew1 c) (0, upI s 101 (c 2) 0) i).2.1 f q = s.1 f q) ∧ (∀ k, (nfold (gRenew1 c) (0, upI s 101 (c 2) 0) i).2.2.2 101 (c 7) k = s.2.2 101 (c 7) k) ∧ (0 ≤ ((nfold (gRenew1 c) (0, upI s 101 (c 2) 0) i).2.1 101 (c 2)) ∧ ((nfold (gRenew1 c) (0, upI s 101 (c 2) 0) i).2.1 101 (c 2)) ≤ i) ∧ (nfold (gRenew1 c) (0, upI s 101 (c 2) 0) i).1 = sumN (gN1 c s) i := by
  have n37 := hL.ne37
  intro i
  induction i with
  | zero =>
    intro _
    have e0 : ((nfold (gRenew1 c) (0, upI s 101 (c 2) 0) 0).2.1 101 (c 2)) = 0 := upI_at
    exact ⟨fun f q hf => upI_ne hf, fun _ => rfl, ⟨by omega, by omega⟩, rfl⟩
  | succ i ih =>
    intro hi
    obtain ⟨a1, a2, a3, a4⟩ := ih (by omega)
    rw [nfold_s]
    generalize nfold (gRenew1 c) (0, upI s 101 (c 2) 0) i = u at *
    show _ ∧ _ ∧ _ ∧ (gRenew1 c i u).1 = sumN (gN1 c s) i + gN1 c s i
    unfold gRenew1 gN1
    rw [a2 i]
    cases e : s.2.2 101 (c 7) i with
    | none => exact ⟨a1, a2, ⟨a3.1, by simp only; omega⟩, by simp only; rw [a4]; unfold gN1; omega⟩
    | some t =>
      simp only
      rw [a1 203 t (by decide)]
      by_cases hy : (s.1 203 t) = -1
      · rw [if_pos hy, if_pos hy]
        simp only
        unfold fAdd
        rw [if_neg (by omega)]
        have eC : (gAdd (c 2) (c 3) (some t) u.2).1 101 (c 2) = (u.2.1 101 (c 2)) + 1 := by unfold gAdd; rw [upI_at]
        refine ⟨fun f q hf => ?_, fun k => ?_, ⟨by rw [eC]; omega, by rw [eC]; omega⟩, by rw [a4]; unfold gN1; omega⟩
        · unfold gAdd
          rw [upI_ne hf]
          exact a1 f q hf
        · show (if 101 = 101 ∧ c 7 = c 3 ∧ k = ((u.2.1 101 (c 2))).toNat then some t else u.2.2.2 101 (c 7) k) = _
          rw [if_neg (fun z => n37 z.2.1.symm)]
          exact a2 k
      · rw [if_neg hy, if_neg hy]
        simp only
        exact ⟨a1, a2, ⟨a3.1, by omega⟩, by rw [a4]; unfold gN1; omega⟩
theorem yg_renew {x : Cx} {P : Mem → Prop} {s : Mem} (hx : X_M_collectYoung x) (w : RW ΛR r ρ) (hL0 : LayC Λ c) (h : RB Λ c r th (upI s 101 (c 2) 0) ρ) (rc : (ρ.1 415 (r 0)) = (s.1 101 (c 6))) (n20 : 0 ≤ (s.1 101 (c 6)) ∧ (s.1 101 (c 6)) ≤ 20) (rows : ∀ i : Nat, (i : Int) < (s.1 101 (c 6)) → ∃ j t : Nat, j < 90 ∧ (ρ.2.1 9 (r 9) i) = j ∧ th j = some t ∧ s.2.2 101 (c 7) i = some t) (go : ∀ q, RW ΛR r q → RB Λ c r th (fRenew c s).2 q → (∀ f q', f ≠ 413 → q.1 f q' = ρ.1 f q') → N_M_collectYoung_206 x P ΛR q r 0) : N_M_collectYoung_150 x P ΛR ρ r 0 := by
  have hL := w.ly
  have inv := renew_inv hL0 s
  unfold fRenew at go
  have loop : ∀ n i : Nat, i + n = ((s.1 101 (c 6))).toNat → ∀ q, RW ΛR r q → RB Λ c r th (nfold (gRenew1 c) (0, upI s 101 (c 2) 0) i).2 q → (∀ f q', f ≠ 413 → q.1 f q' = ρ.1 f q') → (∀ kd q' k, kd ≠ 8 → q.2.1 kd q' k = ρ.2.1 kd q' k) → N_M_collectYoung_150 x P ΛR q r i := by
    intro n
    induction n with
    | zero =>
      intro i hi q wq hq a1 a2
      rw [show ((s.1 101 (c 6))).toNat = i by omega] at go
      refine u_M_collectYoung_150 hx hL ⟨⟨by omega, by omega⟩, wq.ri _ _, fun _ => go q wq hq a1, fun z => absurd ?_ z⟩
      rw [a1 415 _ (by decide), rc]
      omega
    | succ n ih =>
      intro i hi q wq hq a1 a2
      obtain ⟨b1, b2, b3, b4⟩ := inv i (by omega)
      obtain ⟨j, t, hj, f1, f2, f3⟩ := rows i (by omega)
      have ih2 := ih (i + 1) (by omega)
      rw [nfold_s] at ih2
      generalize nfold (gRenew1 c) (0, upI s 101 (c 2) 0) i = u at *
      have e9 : (q.2.1 9 (r 9) i) = j := by rw [a2 _ _ _ (by decide)]; exact f1
      have k9 := hq.k9.2.2
      have e415 : (q.1 415 (r 0)) = (s.1 101 (c 6)) := by rw [a1 _ _ (by decide)]; exact rc
      have k1 := (hq.k1 j t hj f2).2.2.1
      rw [b1 203 t (by decide)] at k1
      have eg : gRenew1 c i u = if (s.1 203 t) = -1 then (u.1, (fAdd (c 2) (c 3) 20 (some t) u.2).2) else (u.1 + 1, u.2) := by
        unfold gRenew1
        rw [b2 i, f3]
        simp only
        rw [b1 203 t (by decide)]
      have e9t : (q.2.1 9 (r 9) ((i : Nat) : Int).toNat) = j := e9
      refine u_M_collectYoung_150 hx hL ⟨⟨by omega, by omega⟩, wq.ri _ _, fun z => ?_, fun _ => ?_⟩
      · have z : (q.1 415 (r 0)) ≤ i := z
        omega
      · rw [e9t]
        refine ⟨by omega, by omega, by omega, by omega, wq.ry _ _ _, fun z => ?_, fun z => ⟨by omega, by omega, ?_, ?_, ?_⟩⟩
        · have z : ¬ (q.2.1 1 (r 1) j) = 1 := z
          rw [eg, if_neg (fun y => z (k1.mpr y))] at ih2
          exact ih2 q wq hq a1 a2
        · show 0 ≤ (q.1 413 (r 0)); omega
        · show (q.1 413 (r 0)) < 20; omega
        · have z : (q.2.1 1 (r 1) j) = 1 := z
          rw [eg, if_pos (k1.mp z)] at ih2
          unfold fAdd at ih2
          rw [if_neg (by omega)] at ih2
          show N_M_collectYoung_150 x P ΛR (upI (upY q 8 (r 8) ((q.1 413 (r 0))).toNat j) 413 (r 0) ((q.1 413 (r 0)) + 1)) r (i + 1 : Nat)
          refine ih2 _ (wq.app hj rfl (by omega)) (hq.app hj f2 rfl (by omega)) (fun f q' hf => ?_) (fun kd q' k hk => ?_)
          · rw [upI_ne hf]; exact a1 f q' hf
          · show (upY q 8 (r 8) ((q.1 413 (r 0))).toNat j).2.1 kd q' k = _
            rw [upY_nk hk]; exact a2 kd q' k hk
  exact loop ((s.1 101 (c 6))).toNat 0 (by omega) ρ w h (fun _ _ _ => rfl) (fun _ _ _ _ => rfl)
end RY6
