/-! The full collection: sliding, and the order of the young that stay. -/
section RF2
variable {l : Launch} {D : va_G} {Λ ΛR : Lam} {c r : Nat → Nat} {th : Nat → Option Nat} {σ0 σ ρ s1 : Mem}
theorem SL.hit {a t : Nat} {top : Int} {s : Mem} (h : SL Λ c s1 a top s) (ha : a < 64) : fAt c s a = some t ↔ (isT Λ t ∧ (s1.1 203 t) = a) := by
  constructor
  · intro e
    obtain ⟨hc, hA⟩ := at_some e
    have hT := h.wf.ty _ _ _ _ hc
    refine ⟨hT, ?_⟩
    by_cases z : 0 ≤ (s1.1 203 t) ∧ (s1.1 203 t) < a
    · have p := h.p1 t hT z.1 z.2
      by_cases y : (s1.1 206 t) = 0
      · have := p.2 y; omega
      · have := (p.1 y).2.1; omega
    · rw [← h.p2 t hT z]; exact hA
  · rintro ⟨hT, hA⟩
    have e2 := h.p2 t hT (by omega)
    have zt := szI_le hT
    have hc := (h.ce a t ha).mpr ⟨hT, by omega, by omega, by omega⟩
    unfold fAt
    rw [hc]
    exact if_pos (by omega)
def mW (r : Nat → Nat) (q : Mem) (a : Int) (i : Nat) : Prop := (q.2.1 1 (r 1) i) = 2 ∧ (q.2.1 10 (r 10) i) = a
theorem s_slide {P : Mem → Prop} (w : RW ΛR r ρ) (g1 : GB Λ c s1) (k2 : ∀ i j t : Nat, i < 90 → j < 90 → th i = some t → th j = some t → i = j)
    (hA : ∀ i : Nat, i < 90 → (ρ.2.1 1 (r 1) i) = 2 → ∃ t, th i = some t ∧ isT Λ t ∧ 0 ≤ (s1.1 203 t) ∧ (s1.1 206 t) ≠ 0 ∧ (ρ.2.1 10 (r 10) i) = (s1.1 203 t) ∧ (ρ.2.1 3 (r 3) i) = nfL Λ t)
    (hB : ∀ t, isT Λ t → 0 ≤ (s1.1 203 t) → (s1.1 206 t) ≠ 0 → ∃ i : Nat, i < 90 ∧ th i = some t ∧ (ρ.2.1 1 (r 1) i) = 2)
    (hp : ∀ q, q.1 = ρ.1 → (∀ kd q' k, kd ≠ 6 → q.2.1 kd q' k = ρ.2.1 kd q' k) → RW ΛR r q → (∀ i t : Nat, i < 90 → th i = some t → (ρ.2.1 1 (r 1) i) = 2 → (q.2.1 6 (r 6) i) = ((gSlide Λ c s1).1 203 t)) → P q) : K_M_slide l D ΛR ρ r P := by
  refine e_M_slide (fun x hl hD hx => ?_)
  subst hl; subst hD
  have hL := w.ly
  refine u_M_slide_0 hx hL ?_
  have sl := SL.all (Λ := Λ) (c := c) g1
  have eS : gSlide Λ c s1 = (nfold (gSlide1 Λ c) (0, s1) 64).2 := rfl
  rw [eS] at hp
  have upA : ∀ (q : Mem) (j : Nat) (v : Int), RW ΛR r q → 0 ≤ v ∧ v ≤ 64 → RW ΛR r (upY q 6 (r 6) j v) := by
    intro q j v wq hv
    refine ⟨wq.ly, wq.ri, rng_upY wq.ry ⟨by omega, by omega⟩, fun i hi => ?_, fun i hi => ?_, fun i hi => ?_, fun i hi => ?_, fun i hi => ?_, fun i hi => ?_, fun i hi => ?_, fun i hi => ?_, wq.yo, fun i hi => ?_⟩
    · rw [upY_nk (by decide)]; exact wq.kn i hi
    · rw [upY_nk (by decide)]; exact wq.fd i hi
    · rw [upY_21]
      split
      · exact hv
      · exact wq.pa i hi
    · rw [upY_nk (by decide)]; exact wq.rf i hi
    · rw [upY_nk (by decide)]; exact wq.rt i hi
    · rw [upY_nk (by decide)]; exact wq.ag i hi
    · rw [upY_nk (by decide), upY_nk (by decide)]; exact wq.bm i hi
    · rw [upY_nk (by decide), upY_nk (by decide)]; exact wq.bd i hi
    · rw [upY_nk (by decide)]; exact wq.od i hi
  have skip1 : ∀ (q : Mem) (nx : Int) (a i : Nat), RW ΛR r q → a < 64 → i < 90 → ¬ mW r q a i → N_M_slide_12 x P ΛR q r nx a (i + 1 : Nat) → N_M_slide_12 x P ΛR q r nx a i := by
    intro q nx a i wq ha hi hn go
    exact u_M_slide_12 hx hL ⟨⟨by omega, by omega⟩, fun z => absurd z (by omega), fun _ => ⟨by omega, by omega, wq.ry _ _ _, fun _ => go, fun z1 => ⟨by omega, by omega, wq.ry _ _ _, ⟨by omega, by omega⟩, fun _ => go, fun z2 => absurd ⟨z1, z2⟩ hn⟩⟩⟩
  have skip : ∀ (q : Mem) (nx : Int) (a : Nat), RW ΛR r q → a < 64 → N_M_slide_4 x P ΛR q r nx (a + 1 : Nat) → ∀ n i : Nat, i + n = 90 → (∀ k, i ≤ k → k < 90 → ¬ mW r q a k) → N_M_slide_12 x P ΛR q r nx a i := by
    intro q nx a wq ha go n
    induction n with
    | zero =>
      intro i hi _
      exact u_M_slide_12 hx hL ⟨⟨by omega, by omega⟩, fun _ => go, fun z => absurd (by omega) z⟩
    | succ n ih =>
      intro i hi hn
      exact skip1 q nx a i wq ha (by omega) (hn i (Nat.le_refl _) (by omega)) (ih (i + 1) (by omega) (fun k hk => hn k (by omega)))
  have loop : ∀ n a : Nat, a + n = 64 → ∀ q : Mem, q.1 = ρ.1 → (∀ kd q' k, kd ≠ 6 → q.2.1 kd q' k = ρ.2.1 kd q' k) → RW ΛR r q → (∀ i t : Nat, i < 90 → th i = some t → (ρ.2.1 1 (r 1) i) = 2 → (s1.1 203 t) < a → (q.2.1 6 (r 6) i) = ((nfold (gSlide1 Λ c) (0, s1) a).2.1 203 t)) → N_M_slide_4 x P ΛR q r (nfold (gSlide1 Λ c) (0, s1) a).1 a := by
    intro n
    induction n with
    | zero =>
      intro a ha q a1 a2 a3 a4
      rw [show a = 64 by omega] at a4 ⊢
      refine u_M_slide_4 hx hL ⟨⟨by omega, by omega⟩, fun _ => hp q a1 a2 a3 (fun i t hi e k => ?_), fun z => absurd (by decide) z⟩
      refine a4 i t hi e k ?_
      obtain ⟨t', e', hT, h0, _⟩ := hA i hi k
      rw [e] at e'
      cases e'
      have zt := szI_le hT
      rcases g1.ad t hT with y | y | ⟨_, y⟩ <;> omega
    | succ n ih =>
      intro a ha q a1 a2 a3 a4
      have ha64 : a < 64 := by omega
      have sla := sl a (by omega)
      have ih2 := ih (a + 1) (by omega)
      rw [nfold_s] at ih2
      generalize nfold (gSlide1 Λ c) (0, s1) a = u at *
      refine u_M_slide_4 hx hL ⟨⟨by omega, by omega⟩, fun z => absurd z (by omega), fun _ => ?_⟩
      have tp := sla.tp
      have mq : ∀ i, i < 90 → mW r q a i → ∃ t, th i = some t ∧ isT Λ t ∧ (s1.1 203 t) = a ∧ (s1.1 206 t) ≠ 0 ∧ (q.2.1 3 (r 3) i) = nfL Λ t ∧ (ρ.2.1 1 (r 1) i) = 2 := by
        intro i hi hm
        have k := hm.1
        have v := hm.2
        rw [a2 1 _ _ (by decide)] at k
        rw [a2 10 _ _ (by decide)] at v
        obtain ⟨t, b1, b2, b3, b4, b5, b6⟩ := hA i hi k
        exact ⟨t, b1, b2, by omega, b4, by rw [a2 3 _ _ (by decide)]; exact b6, k⟩
      by_cases ex : ∃ j : Nat, j < 90 ∧ mW r q a j
      · obtain ⟨j, hj, hm⟩ := ex
        obtain ⟨t, b1, b2, b3, b4, b5, b6⟩ := mq j hj hm
        have hat := (sla.hit ha64).mpr ⟨b2, b3⟩
        have hr : (u.2.1 206 t) ≠ 0 := by rw [sla.ki _ _ (by decide)]; exact b4
        have eG : gSlide1 Λ c a u = (u.1 + szI Λ t, gPut Λ c t u.1 (gTake Λ c t u.2)) := by unfold gSlide1; rw [hat]; exact if_pos hr
        have uniq : ∀ k, k < 90 → mW r q a k → k = j := by
          intro k hk hmk
          obtain ⟨t', d1, d2, d3, _⟩ := mq k hk hmk
          have := (sla.hit ha64).mpr ⟨d2, d3⟩
          rw [hat] at this
          cases this
          exact k2 k j t hk hj d1 b1
        have down : ∀ n i : Nat, i + n = j → N_M_slide_12 x P ΛR q r u.1 a i := by
          intro n
          induction n with
          | zero =>
            intro i hi
            rw [show i = j by omega]
            refine u_M_slide_12 hx hL ⟨⟨by omega, by omega⟩, fun z => absurd z (by omega), fun _ => ⟨by omega, by omega, a3.ry _ _ _, fun z => absurd hm.1 z, fun _ => ⟨by omega, by omega, a3.ry _ _ _, ⟨by omega, by omega⟩, fun z => absurd hm.2 z, fun _ => ⟨by omega, by omega, by omega, by omega, ?_⟩⟩⟩⟩
            have e3 : (upY q 6 (r 6) j u.1).2.1 3 (r 3) j = nfL Λ t := by rw [upY_nk (by decide)]; exact b5
            show N_M_slide_12 x P ΛR (upY q 6 (r 6) j u.1) r (u.1 + 1 + (upY q 6 (r 6) j u.1).2.1 3 (r 3) j) a (j + 1 : Nat)
            rw [e3, show u.1 + 1 + (nfL Λ t : Int) = u.1 + szI Λ t by unfold szI; omega]
            have wq' := upA q j u.1 a3 tp
            refine skip _ _ a wq' ha64 ?_ (90 - (j + 1)) (j + 1) (by omega) (fun k hk hk2 hmk => ?_)
            · rw [eG] at ih2
              refine ih2 _ a1 (fun kd q' k hk => by rw [upY_nk hk]; exact a2 kd q' k hk) wq' (fun i' t' hi' e' k' hlt => ?_)
              have ea : ((gPut Λ c t u.1 (gTake Λ c t u.2)).1 203 t') = if t' = t then u.1 else (u.2.1 203 t') := by rw [put_adr, take_adr]
              rw [ea]
              by_cases y : i' = j
              · rw [y, upY_at]
                rw [y, b1] at e'
                cases e'
                rw [if_pos rfl]
              · have yt : t' ≠ t := fun z => y (k2 i' j t hi' hj (by rw [e', z]) b1)
                rw [upY_ni y, if_neg yt]
                refine a4 i' t' hi' e' k' ?_
                obtain ⟨t2, d1, d2, _⟩ := hA i' hi' k'
                rw [e'] at d1
                cases d1
                have : (s1.1 203 t') ≠ a := fun z => by
                  have := (sla.hit ha64).mpr ⟨d2, z⟩
                  rw [hat] at this
                  cases this
                  exact yt rfl
                omega
            · have := uniq k hk2 ⟨by have := hmk.1; rw [upY_nk (by decide)] at this; exact this, by have := hmk.2; rw [upY_nk (by decide)] at this; exact this⟩
              omega
          | succ n ihn =>
            intro i hi
            exact skip1 q u.1 a i a3 ha64 (by omega) (fun hmi => by have := uniq i (by omega) hmi; omega) (ihn (i + 1) (by omega))
        exact down j 0 (by omega)
      · refine skip q u.1 a a3 ha64 ?_ 90 0 rfl (fun k _ hk2 hmk => ex ⟨k, hk2, hmk⟩)
        -- nothing that stays stands at a
        have none1 : ∀ i t, i < 90 → th i = some t → (ρ.2.1 1 (r 1) i) = 2 → (s1.1 203 t) ≠ a := by
          intro i t hi e k z
          obtain ⟨t', d1, d2, d3, d4, d5, d6⟩ := hA i hi k
          rw [e] at d1
          cases d1
          refine ex ⟨i, hi, ?_, ?_⟩
          · rw [a2 1 _ _ (by decide)]; exact k
          · rw [a2 10 _ _ (by decide), d5]; exact z
        cases hat : fAt c u.2 a with
        | none =>
          have eG : gSlide1 Λ c a u = u := by unfold gSlide1; rw [hat]
          rw [eG] at ih2
          exact ih2 q a1 a2 a3 (fun i t hi e k hlt => a4 i t hi e k (by have := none1 i t hi e k; omega))
        | some t =>
          obtain ⟨hT, hta⟩ := (sla.hit ha64).mp hat
          have hr : ¬ (u.2.1 206 t) ≠ 0 := by
            intro z
            rw [sla.ki _ _ (by decide)] at z
            obtain ⟨i, hi, e, k⟩ := hB t hT (by omega) z
            exact none1 i t hi e k hta
          have eG : gSlide1 Λ c a u = (u.1, upI (gTake Λ c t u.2) 203 t (-2)) := by unfold gSlide1; rw [hat]; exact if_neg hr
          rw [eG] at ih2
          refine ih2 q a1 a2 a3 (fun i t' hi e k hlt => ?_)
          have h1 := none1 i t' hi e k
          have yt : t' ≠ t := fun z => h1 (by rw [z]; exact hta)
          rw [upI_nq yt]
          exact a4 i t' hi e k (by omega)
  exact loop 64 0 rfl ρ rfl (fun _ _ _ _ => rfl) w (fun i t hi e k hlt => by
    obtain ⟨t', d1, d2, d3, _⟩ := hA i hi k
    rw [e] at d1
    cases d1
    omega)
-- the order of those that stay
def kpN (c : Nat → Nat) (s : Mem) (n : Nat) : Int := sumN (fun j => match s.2.2 101 (c 3) j with
  | none => 0
  | some t => if (s.1 206 t) = 0 then 0 else 1) n
theorem kpN_s (s : Mem) {n t : Nat} (h : s.2.2 101 (c 3) n = some t) : kpN c s (n + 1) = kpN c s n + (if (s.1 206 t) = 0 then 0 else 1) := by
  show kpN c s n + (match s.2.2 101 (c 3) n with
    | none => 0
    | some t => if (s.1 206 t) = 0 then 0 else 1) = _
  rw [h]
theorem kpN_le (s : Mem) (n : Nat) : 0 ≤ kpN c s n ∧ kpN c s n ≤ n := by
  induction n with
  | zero => exact ⟨Int.le_refl _, Int.le_refl _⟩
  | succ n ih =>
    have e : kpN c s (n + 1) = kpN c s n + (match s.2.2 101 (c 3) n with
      | none => 0
      | some t => if (s.1 206 t) = 0 then 0 else 1) := rfl
    rw [e]
    split
    · omega
    · split <;> omega
theorem kpN_mono (s : Mem) {n m : Nat} (h : n ≤ m) : kpN c s n ≤ kpN c s m := by
  induction m with
  | zero => rw [show n = 0 by omega]; exact Int.le_refl _
  | succ m ih =>
    by_cases e : n = m + 1
    · rw [e]; exact Int.le_refl _
    · have h1 := ih (by omega)
      have e : kpN c s (m + 1) = kpN c s m + (match s.2.2 101 (c 3) m with
        | none => 0
        | some t => if (s.1 206 t) = 0 then 0 else 1) := rfl
      rw [e]
      split
      · omega
      · split <;> omega
theorem keep_ord {s : Mem} (hw : WF Λ c s) : ((gKeep c s).1 101 (c 2)) = kpN c s ((s.1 101 (c 2))).toNat ∧ ∀ j t : Nat, (j : Int) < (s.1 101 (c 2)) → s.2.2 101 (c 3) j = some t → (s.1 206 t) ≠ 0 → (gKeep c s).2.2 101 (c 3) (kpN c s j).toNat = some t := by
  have y0 := hw.y0
  have y1 := hw.y1
  obtain ⟨k1, k2⟩ := drop_keep' c s
  unfold gKeep
  have ec : ((gDrop c s).1 101 (c 2)) = (s.1 101 (c 2)) := k2 _ _ (by decide)
  rw [ec]
  generalize gDrop c s = s0 at *
  have key : ∀ n : Nat, (n : Int) ≤ (s.1 101 (c 2)) → (∀ f q, ¬ (f = 101 ∧ q = c 2) → (nfold (gKeep1 c) (upI s0 101 (c 2) 0) n).1 f q = s0.1 f q) ∧ ((nfold (gKeep1 c) (upI s0 101 (c 2) 0) n).1 101 (c 2)) = kpN c s n ∧ (∀ k, n ≤ k → (nfold (gKeep1 c) (upI s0 101 (c 2) 0) n).2.2 101 (c 3) k = s.2.2 101 (c 3) k) ∧ (∀ j t : Nat, j < n → s.2.2 101 (c 3) j = some t → (s.1 206 t) ≠ 0 → (nfold (gKeep1 c) (upI s0 101 (c 2) 0) n).2.2 101 (c 3) (kpN c s j).toNat = some t) := by
    intro n
    induction n with
    | zero =>
      intro _
      refine ⟨fun f q h => ?_, upI_at, fun k _ => ?_, fun j t hj => by omega⟩
      · show (upI s0 101 (c 2) 0).1 f q = _
        rw [upI_1, if_neg h]
      · show s0.2.2 101 (c 3) k = _
        rw [k1]
    | succ n ih =>
      intro hn
      obtain ⟨a1, a2, a3, a4⟩ := ih (by omega)
      rw [nfold_s]
      obtain ⟨v, hv⟩ := hw.yl n (by omega)
      have e7 : (nfold (gKeep1 c) (upI s0 101 (c 2) 0) n).2.2 101 (c 3) n = some v := (a3 n (Nat.le_refl _)).trans hv
      have eR : (nfold (gKeep1 c) (upI s0 101 (c 2) 0) n).1 206 v = (s.1 206 v) := (a1 _ _ (by omega)).trans (k2 _ _ (by decide))
      have kl := kpN_le (c := c) s n
      rw [kpN_s s hv]
      generalize nfold (gKeep1 c) (upI s0 101 (c 2) 0) n = u at *
      by_cases hy : (s.1 206 v) ≠ 0
      · have e : gKeep1 c n u = gAdd (c 2) (c 3) (some v) u := by
          unfold gKeep1
          rw [e7]
          simp only
          rw [if_pos (fun z => hy (eR.symm.trans z))]
          unfold fAdd
          rw [if_neg (by omega)]
        rw [e, if_neg hy]
        have eX : ∀ kd q k, (gAdd (c 2) (c 3) (some v) u).2.2 kd q k = if kd = 101 ∧ q = c 3 ∧ k = ((u.1 101 (c 2))).toNat then some v else u.2.2 kd q k := fun kd q k => rfl
        refine ⟨fun f q h => ?_, by unfold gAdd; rw [upI_at, a2], fun k hk => ?_, fun j t hj ht hr => ?_⟩
        · unfold gAdd
          rw [upI_1, if_neg h]
          exact a1 f q h
        · rw [eX, if_neg (by omega)]; exact a3 k (by omega)
        · rw [eX]
          by_cases x : j = n
          · rw [x, hv] at ht
            cases ht
            rw [x, if_pos ⟨rfl, rfl, by rw [a2]⟩]
          · have h1 := kpN_mono (c := c) s (show j + 1 ≤ n by omega)
            rw [kpN_s s ht, if_neg hr] at h1
            have h2 := kpN_le (c := c) s j
            rw [if_neg (fun z => by have := z.2.2; omega)]
            exact a4 j t (by omega) ht hr
      · have hz : (s.1 206 v) = 0 := by
          by_cases x : (s.1 206 v) = 0
          · exact x
          · exact absurd x hy
        have e : gKeep1 c n u = u := by
          unfold gKeep1
          rw [e7]
          simp only
          rw [if_neg (fun z => z (eR.trans hz))]
        rw [e, if_pos hz]
        refine ⟨a1, by rw [a2]; omega, fun k hk => a3 k (by omega), fun j t hj ht hr => ?_⟩
        by_cases x : j = n
        · rw [x, hv] at ht
          cases ht
          exact absurd hz hr
        · exact a4 j t (by omega) ht hr
  obtain ⟨a1, a2, a3, a4⟩ := key ((s.1 101 (c 2))).toNat (by omega)
  exact ⟨a2, fun j t hj => a4 j t (by omega)⟩
end RF2
