/-! Reaching from cards and all the reaching of the young collection, on both sides. -/
section RY4
variable {l : Launch} {D : va_G} {Λ ΛR : Lam} {c r : Nat → Nat} {th : Nat → Option Nat} {σ0 σ ρ : Mem}
def mM (r : Nat → Nat) (q : Mem) (a i : Nat) : Prop := ¬ (q.2.1 56 (r 56) i) = 0 ∧ ¬ (q.2.1 57 (r 57) (a / 8)) = 0 ∧ (q.2.1 6 (r 6) i) < (a : Int) ∧ (a : Int) ≤ (q.2.1 6 (r 6) i) + (q.2.1 3 (r 3) i)
theorem RX.own (g0 : GD Λ c σ0) (h : RX Λ ΛR c r th σ0 σ ρ) {a i : Nat} (ha : a < 64) (hi : i < 90) (hm : mM r ρ a i) : ∃ t, th i = some t ∧ (σ.2.2 102 (c 5) a) = some t ∧ (σ0.2.2 102 (c 5) a) = some t ∧ (σ.1 206 t) = 0 ∧ cb ((σ0.1 304 (c 0))) (a / 8) = true ∧ (ρ.2.1 6 (r 6) i) = (σ.1 203 t) ∧ 0 ≤ (σ.1 203 t) := by
  obtain ⟨m1, m2, m3, m4⟩ := hm
  cases e : th i with
  | none => exact absurd (h.wn i hi e) m1
  | some t =>
    have hT := (h.rb.k1 i t hi e).1
    have ho : 0 ≤ (σ0.1 203 t) := by
      by_cases x : 0 ≤ (σ0.1 203 t)
      · exact x
      · exact absurd ((h.wo i t hi e).mpr x) m1
    have eA : (σ.1 203 t) = (σ0.1 203 t) := by
      rcases h.ya.aa t hT with x | ⟨x, _⟩
      · exact x
      · omega
    have k2 := (h.rb.old h.rw h.ya.gb hi e).mpr (by omega)
    have e6 := (h.rb.k1 i t hi e).2.2.2 k2
    have e3 := (h.rb.k4 i t hi e).2.1
    have hs : szI Λ t = 1 + (nfL Λ t : Int) := rfl
    refine ⟨t, rfl, (h.ya.gb.ce a t ha).mpr ⟨hT, by omega, by omega, by omega⟩, (g0.gb.ce a t ha).mpr ⟨hT, by omega, by omega, by omega⟩, ?_, ?_, e6, by omega⟩
    · rcases (h.ya.gb.fl t hT).2.2 with x | x
      · exact x
      · have := h.ya.r0 t hT x; omega
    · cases hc : cb ((σ0.1 304 (c 0))) (a / 8) with
      | true => rfl
      | false => exact absurd ((h.wd (a / 8) (by omega)).mpr hc) m2
theorem RX.hit (h : RX Λ ΛR c r th σ0 σ ρ) {a t : Nat} (ha : a < 64) (hc : (σ.2.2 102 (c 5) a) = some t) (hr : (σ.1 206 t) = 0) (hd : cb ((σ0.1 304 (c 0))) (a / 8) = true) (h0 : 0 ≤ (a : Int) - (σ.1 203 t) - 1) (h1 : (a : Int) - (σ.1 203 t) - 1 < (nfL Λ t : Int)) : ∃ j : Nat, j < 90 ∧ mM r ρ a j := by
  obtain ⟨y1, y2, y3, y4⟩ := (h.ya.gb.ce a t ha).mp hc
  obtain ⟨j, hj, e⟩ := h.rb.k3 t y1 (by omega)
  have k2 := (h.rb.old h.rw h.ya.gb hj e).mpr y2
  have e6 := (h.rb.k1 j t hj e).2.2.2 k2
  have e3 := (h.rb.k4 j t hj e).2.1
  refine ⟨j, hj, fun z => ?_, fun z => ?_, by omega, by omega⟩
  · have nn := (h.wo j t hj e).mp z
    rcases h.ya.aa t y1 with x | ⟨_, _, x, _⟩
    · omega
    · omega
  · have := (h.wd (a / 8) (by omega)).mp z
    rw [hd] at this
    cases this
theorem s_reachFrom {a : Nat} {P : Mem → Prop} (g0 : GD Λ c σ0) (h : RX Λ ΛR c r th σ0 σ ρ) (ha : a < 64) (hp : ∀ ρ', RX Λ ΛR c r th σ0 (gCards1 Λ c ((σ0.1 304 (c 0))) a σ) ρ' → P ρ') : K_M_reachFrom l D ΛR ρ r a P := by
  refine e_M_reachFrom (fun x hl hD hx => ?_)
  subst hl; subst hD
  have hL := h.rw.ly
  refine u_M_reachFrom_0 hx hL ?_
  have d8 := div8 a ha
  -- one step without a hit
  have skip1 : ∀ (q : Mem) (i : Nat), RW ΛR r q → i < 90 → ¬ mM r q a i → N_M_reachFrom_2 x P ΛR q r a (i + 1 : Nat) → N_M_reachFrom_2 x P ΛR q r a i := by
    intro q i w hi hn go
    have hpa := w.pa i hi
    have hfd := w.fd i hi
    refine u_M_reachFrom_2 hx hL ⟨⟨by omega, by omega⟩, fun z => absurd z (by omega), fun _ => ⟨by omega, by omega, w.ry _ _ _, fun _ => go, fun z1 => ?_⟩⟩
    rw [d8]
    refine ⟨by omega, by omega, w.ry _ _ _, fun _ => go, fun z2 => ⟨by omega, by omega, ⟨by omega, by omega⟩, w.ry _ _ _, fun _ => go, fun z3 => ⟨by omega, by omega, by omega, by omega, ?_, fun _ => go, fun z4 => absurd ⟨z1, z2, Int.not_le.mp z3, Int.not_lt.mp z4⟩ hn⟩⟩⟩
    show rng ((q.2.1 6 (r 6) i) + (q.2.1 3 (r 3) i))
    exact ⟨by omega, by omega⟩
  have skip : ∀ (q : Mem), RW ΛR r q → P q → ∀ n i : Nat, i + n = 90 → (∀ k, i ≤ k → k < 90 → ¬ mM r q a k) → N_M_reachFrom_2 x P ΛR q r a i := by
    intro q w pq n
    induction n with
    | zero =>
      intro i hi _
      exact u_M_reachFrom_2 hx hL ⟨⟨by omega, by omega⟩, fun _ => pq, fun z => absurd (by omega) z⟩
    | succ n ih =>
      intro i hi hn
      exact skip1 q i w (by omega) (hn i (Nat.le_refl _) (by omega)) (ih (i + 1) (by omega) (fun k hk => hn k (by omega)))
  by_cases ex : ∃ j : Nat, j < 90 ∧ mM r ρ a j
  · obtain ⟨j, hj, hm⟩ := ex
    obtain ⟨t, e, hc, hc0, hr, hd, e6, hA⟩ := h.own g0 ha hj hm
    have hT := (h.rb.k1 j t hj e).1
    have e3 := (h.rb.k4 j t hj e).2.1
    obtain ⟨m1, m2, m3, m4⟩ := hm
    have kk : 0 ≤ (a : Int) - (σ.1 203 t) - 1 ∧ (a : Int) - (σ.1 203 t) - 1 < (nfL Λ t : Int) := ⟨by omega, by omega⟩
    have n3 : nfL Λ t ≤ 3 := hT.2.2
    have eg : gCards1 Λ c ((σ0.1 304 (c 0))) a σ = gReachY Λ c ((σ.2.2 103 (faL Λ t) ((a : Int) - (σ.1 203 t) - 1).toNat)) σ := by
      have ef : fRef Λ c σ a = (σ.2.2 103 (faL Λ t) ((a : Int) - (σ.1 203 t) - 1).toNat) := by
        unfold fRef
        rw [hc]
        exact if_pos kk
      unfold gCards1
      rw [hc]
      simp only
      rw [if_pos ⟨hr, (cb_hit _ ha).mpr hd⟩, ef]
    rw [eg] at hp
    have uniq : ∀ (s q : Mem), RX Λ ΛR c r th σ0 s q → ∀ k, k < 90 → mM r q a k → k = j := by
      intro s q hs k hk hmk
      obtain ⟨t', f1, _, f2, _⟩ := hs.own g0 ha hk hmk
      rw [hc0] at f2
      cases f2
      exact h.rb.k2 k j t hk hj f1 e
    have atj : N_M_reachFrom_2 x P ΛR ρ r a j := by
      have hpa := h.rw.pa j hj
      have hfd := h.rw.fd j hj
      have w := h.rw
      refine u_M_reachFrom_2 hx hL ⟨⟨by omega, by omega⟩, fun z => absurd z (by omega), fun _ => ⟨by omega, by omega, w.ry _ _ _, fun z => absurd z m1, fun _ => ?_⟩⟩
      rw [d8]
      refine ⟨by omega, by omega, w.ry _ _ _, fun z => absurd z m2, fun _ => ⟨by omega, by omega, ⟨by omega, by omega⟩, w.ry _ _ _, fun z => absurd m3 (Int.not_lt.mpr z), fun _ => ⟨by omega, by omega, by omega, by omega, ?_, fun z => absurd m4 (Int.not_le.mpr z), fun _ => ⟨by omega, by omega, ?_, ?_, ?_⟩⟩⟩⟩
      · show rng ((ρ.2.1 6 (r 6) j) + (ρ.2.1 3 (r 3) j))
        exact ⟨by omega, by omega⟩
      · show 0 ≤ 3 * (j : Int) + (a : Int) - (ρ.2.1 6 (r 6) j) - 1
        omega
      · show 3 * (j : Int) + (a : Int) - (ρ.2.1 6 (r 6) j) - 1 < 270
        omega
      · show K_M_reach (xl x) (xD x) ΛR ρ r (ρ.2.1 4 (r 4) (3 * (j : Int) + (a : Int) - (ρ.2.1 6 (r 6) j) - 1).toNat) (fun σa => N_M_reachFrom_2 x P ΛR σa r a (j + 1 : Nat))
        rw [show (3 * (j : Int) + (a : Int) - (ρ.2.1 6 (r 6) j) - 1).toNat = 3 * j + ((a : Int) - (σ.1 203 t) - 1).toNat by omega]
        refine s_reach g0 h (h.rb.k6 j t _ hj e (by omega)) (fun u eu => h.ya.gb.wf.ty _ _ _ _ eu) (fun ρ' hx' => ?_)
        exact skip ρ' hx'.rw (hp ρ' hx') (90 - (j + 1)) (j + 1) (by omega) (fun k hk hk2 hmk => by have := uniq _ _ hx' k hk2 hmk; omega)
    have down : ∀ n i : Nat, i + n = j → N_M_reachFrom_2 x P ΛR ρ r a i := by
      intro n
      induction n with
      | zero => intro i hi; rw [show i = j by omega]; exact atj
      | succ n ih =>
        intro i hi
        exact skip1 ρ i h.rw (by omega) (fun hmi => by have := uniq _ _ h i (by omega) hmi; omega) (ih (i + 1) (by omega))
    exact down j 0 (by omega)
  · have eg : gCards1 Λ c ((σ0.1 304 (c 0))) a σ = σ := by
      unfold gCards1
      cases hc : (σ.2.2 102 (c 5) a) with
      | none => rfl
      | some t =>
        simp only
        by_cases cd : (σ.1 206 t) = 0 ∧ iAnd ((σ0.1 304 (c 0))) (fCard a) ≠ 0
        · rw [if_pos cd]
          have ef : fRef Λ c σ a = none := by
            unfold fRef
            rw [hc]
            exact if_neg (fun z => ex (h.hit ha hc cd.1 ((cb_hit _ ha).mp cd.2) z.1 z.2))
          rw [ef]
          rfl
        · rw [if_neg cd]
    rw [eg] at hp
    exact skip ρ h.rw (hp ρ h) 90 0 rfl (fun k _ hk2 hmk => ex ⟨k, hk2, hmk⟩)
theorem yg_reach {x : Cx} {P : Mem → Prop} (hx : X_M_collectYoung x) (g0 : GD Λ c σ0) (h : RX Λ ΛR c r th σ0 σ0 ρ) (go : ∀ q, RX Λ ΛR c r th σ0 (gReachAllY Λ c σ0) q → N_M_collectYoung_107 x P ΛR q r 0) : N_M_collectYoung_6 x P ΛR ρ r 0 := by
  have hL := h.rw.ly
  have y1 := g0.gb.wf.y1
  have few : ∀ s q, RX Λ ΛR c r th σ0 s q → (s.1 101 (c 6)) ≤ 20 ∧ 0 ≤ (s.1 101 (c 6)) := fun s q hs => ⟨Int.le_trans (hs.ya.few g0.yl) y1, hs.ya.gb.wf.q0⟩
  have e0 : gReachAllY Λ c σ0 = nfold (gClose1 Λ c) (nfold (gCards1 Λ c ((σ0.1 304 (c 0)))) (nfold (gRoots1 Λ c) σ0 6) 64) 84 := by unfold gReachAllY; rfl
  rw [e0] at go
  -- the fields of one reached thing
  have fields : ∀ (i t j : Nat) (s : Mem), j < 90 → th j = some t → (i : Int) < 20 → ∀ m k : Nat, k + m = nfL Λ t → ∀ q, RX Λ ΛR c r th σ0 (nfold (gField1 Λ c t) s k) q → (q.2.1 9 (r 9) i) = j → (i : Int) < ((nfold (gField1 Λ c t) s k).1 101 (c 6)) → (∀ q', RX Λ ΛR c r th σ0 (gFields Λ c t s) q' → N_M_collectYoung_49 x P ΛR q' r (i + 1 : Nat)) → N_M_collectYoung_59 x P ΛR q r i k := by
    intro i t j s hj e hi20 m
    induction m with
    | zero =>
      intro k hk q hq hrow hic cont
      have e3 := (hq.rb.k4 j t hj e).2.1
      have n3 : nfL Λ t ≤ 3 := (hq.rb.k1 j t hj e).1.2.2
      refine u_M_collectYoung_59 hx hL ⟨by omega, by omega, ?_, ?_, ⟨by omega, by omega⟩, ?_, fun _ => ?_, fun z => absurd ?_ z⟩
      · show 0 ≤ (q.2.1 9 (r 9) i); omega
      · show (q.2.1 9 (r 9) i) < 90; omega
      · exact hq.rw.ry _ _ _
      · unfold gFields at cont
        rw [show nfL Λ t = k by omega] at cont
        exact cont q hq
      · show (q.2.1 3 (r 3) ((q.2.1 9 (r 9) i)).toNat) ≤ k
        rw [hrow, Int.toNat_natCast]
        omega
    | succ m ih =>
      intro k hk q hq hrow hic cont
      have e3 := (hq.rb.k4 j t hj e).2.1
      have n3 : nfL Λ t ≤ 3 := (hq.rb.k1 j t hj e).1.2.2
      refine u_M_collectYoung_59 hx hL ⟨by omega, by omega, ?_, ?_, ⟨by omega, by omega⟩, ?_, fun z => absurd z ?_, fun _ => ⟨by omega, by omega, ?_, ?_, ?_⟩⟩
      · show 0 ≤ (q.2.1 9 (r 9) i); omega
      · show (q.2.1 9 (r 9) i) < 90; omega
      · exact hq.rw.ry _ _ _
      · show ¬ (q.2.1 3 (r 3) ((q.2.1 9 (r 9) i)).toNat) ≤ k
        rw [hrow, Int.toNat_natCast]
        omega
      · show 0 ≤ 3 * (q.2.1 9 (r 9) i) + (k : Int); omega
      · show 3 * (q.2.1 9 (r 9) i) + (k : Int) < 270; omega
      · show K_M_reach (xl x) (xD x) ΛR q r (q.2.1 4 (r 4) (3 * (q.2.1 9 (r 9) i) + (k : Int)).toNat) (fun σa => N_M_collectYoung_59 x P ΛR σa r i (k + 1 : Nat))
        rw [hrow, show (3 * (j : Int) + (k : Int)).toNat = 3 * j + k by omega]
        have ho : ∀ u, ((nfold (gField1 Λ c t) s k).2.2 103 (faL Λ t) k) = some u → isT Λ u := fun u eu => hq.ya.gb.wf.ty _ _ _ _ eu
        obtain ⟨rr1, rr2⟩ := reachY_row hq.ya g0.yl ho
        refine s_reach g0 hq (hq.rb.k6 j t k hj e (by omega)) ho (fun q' hq' => ?_)
        have es : nfold (gField1 Λ c t) s (k + 1) = gReachY Λ c (((nfold (gField1 Λ c t) s k).2.2 103 (faL Λ t) k)) (nfold (gField1 Λ c t) s k) := nfold_s _ _ _
        rw [← es] at hq' rr1 rr2
        refine ih (k + 1) (by omega) q' hq' ?_ (by omega) cont
        obtain ⟨j1, t1, hj1, f1, f2, f3⟩ := hq.ro i hic
        obtain ⟨j2, t2, hj2, g1, g2, g3⟩ := hq'.ro i (by omega)
        rw [rr2 i hic, f3] at g3
        cases g3
        have : j1 = j2 := hq.rb.k2 j1 j2 t1 hj1 hj2 f2 g2
        omega
  have close : ∀ n i : Nat, i + n = 84 → ∀ q, RX Λ ΛR c r th σ0 (nfold (gClose1 Λ c) (nfold (gCards1 Λ c ((σ0.1 304 (c 0)))) (nfold (gRoots1 Λ c) σ0 6) 64) i) q → N_M_collectYoung_49 x P ΛR q r i := by
    intro n
    induction n with
    | zero =>
      intro i hi q hq
      have f := few _ _ hq
      have rc := hq.rc
      rw [show i = 84 by omega] at hq rc f ⊢
      refine u_M_collectYoung_49 hx hL ⟨⟨by omega, by omega⟩, hq.rw.ri _ _, fun _ => go q hq, fun z => absurd ?_ z⟩
      show (q.1 415 (r 0)) ≤ 84
      omega
    | succ n ih =>
      intro i hi q hq
      have f := few _ _ hq
      have rc := hq.rc
      have ih2 := ih (i + 1) (by omega)
      rw [nfold_s] at ih2
      have stop : ¬ (i : Int) < ((nfold (gClose1 Λ c) (nfold (gCards1 Λ c ((σ0.1 304 (c 0)))) (nfold (gRoots1 Λ c) σ0 6) 64) i).1 101 (c 6)) → nfold (gClose1 Λ c) (nfold (gCards1 Λ c ((σ0.1 304 (c 0)))) (nfold (gRoots1 Λ c) σ0 6) 64) 84 = nfold (gClose1 Λ c) (nfold (gCards1 Λ c ((σ0.1 304 (c 0)))) (nfold (gRoots1 Λ c) σ0 6) 64) i := fun z => nfold_stop (f := gClose1 Λ c) (fun k hk => gClose1_stop (by omega)) 84 (by omega)
      generalize nfold (gClose1 Λ c) (nfold (gCards1 Λ c ((σ0.1 304 (c 0)))) (nfold (gRoots1 Λ c) σ0 6) 64) i = s at *
      refine u_M_collectYoung_49 hx hL ⟨⟨by omega, by omega⟩, hq.rw.ri _ _, fun z => ?_, fun z => ?_⟩
      · have z : (q.1 415 (r 0)) ≤ i := z
        rw [stop (by omega)] at go
        exact go q hq
      · have z : ¬ (q.1 415 (r 0)) ≤ i := z
        obtain ⟨j, t, hj, f1, f2, f3⟩ := hq.ro i (by omega)
        have eg : gClose1 Λ c i s = gFields Λ c t s := by unfold gClose1; rw [if_pos (by omega), f3]
        rw [eg] at ih2
        exact fields i t j s hj f2 (by omega) (nfL Λ t) 0 (by omega) q hq f1 (by show (i : Int) < (s.1 101 (c 6)); omega) ih2
  have cards : ∀ n i : Nat, i + n = 64 → ∀ q, RX Λ ΛR c r th σ0 (nfold (gCards1 Λ c ((σ0.1 304 (c 0)))) (nfold (gRoots1 Λ c) σ0 6) i) q → N_M_collectYoung_30 x P ΛR q r i := by
    intro n
    induction n with
    | zero =>
      intro i hi q hq
      rw [show i = 64 by omega] at hq ⊢
      exact u_M_collectYoung_30 hx hL ⟨⟨by omega, by omega⟩, fun _ => close 84 0 rfl q (by rw [nfold_0]; exact hq), fun z => absurd (by decide) z⟩
    | succ n ih =>
      intro i hi q hq
      refine u_M_collectYoung_30 hx hL ⟨⟨by omega, by omega⟩, fun z => absurd z (by omega), fun _ => s_reachFrom g0 hq (by omega) (fun q' hq' => ?_)⟩
      exact ih (i + 1) (by omega) q' (by rw [nfold_s]; exact hq')
  have roots : ∀ n i : Nat, i + n = 6 → ∀ q, RX Λ ΛR c r th σ0 (nfold (gRoots1 Λ c) σ0 i) q → N_M_collectYoung_6 x P ΛR q r i := by
    intro n
    induction n with
    | zero =>
      intro i hi q hq
      rw [show i = 6 by omega] at hq ⊢
      exact u_M_collectYoung_6 hx hL ⟨⟨by omega, by omega⟩, fun _ => cards 64 0 rfl q (by rw [nfold_0]; exact hq), fun z => absurd (by decide) z⟩
    | succ n ih =>
      intro i hi q hq
      refine u_M_collectYoung_6 hx hL ⟨⟨by omega, by omega⟩, fun z => absurd z (by omega), fun _ => ⟨by omega, by omega, s_reach g0 hq (Or.inl (hq.rb.k7 i (by omega))) (fun u eu => hq.ya.gb.wf.ty _ _ _ _ eu) (fun q' hq' => ?_)⟩⟩
      exact ih (i + 1) (by omega) q' (by rw [nfold_s]; exact hq')
  exact roots 6 0 rfl ρ h
end RY4
