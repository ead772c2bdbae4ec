/-! Reaching one thing, on both sides. -/
section RY3
variable {l : Launch} {D : va_G} {Λ ΛR : Lam} {c r : Nat → Nat} {th : Nat → Option Nat} {σ0 σ ρ : Mem}
theorem lies_under {s q : Mem} {t j : Nat} {p : Int} (hT : isT Λ t) (e1 : (q.2.1 1 (r 1) j) = 2) (e6 : (q.2.1 6 (r 6) j) = p) (e3 : (q.2.1 3 (r 3) j) = nfL Λ t) (ea : (s.1 203 t) = p) (p0 : 0 ≤ p) (p1 : p + szI Λ t ≤ 64) {k : Nat} (hk : k < 8) : mLies r q j k ≠ 0 ↔ cb (fUnder Λ s t) k = true := by
  have hs : szI Λ t = 1 + (nfL Λ t : Int) := rfl
  unfold mLies
  constructor
  · intro z
    by_cases x : (q.2.1 1 (r 1) j) = 2 ∧ (q.2.1 6 (r 6) j) < 8 * (k : Int) + 8 ∧ 8 * (k : Int) ≤ (q.2.1 6 (r 6) j) + (q.2.1 3 (r 3) j)
    · obtain ⟨_, x2, x3⟩ := x
      rw [e6] at x2 x3
      rw [e3] at x3
      by_cases y : 8 * (k : Int) ≤ p
      · have := under_cb (Λ := Λ) s t (by omega) (by omega) 0 (by omega) (by omega)
        rw [ea, show (p + 0).toNat / 8 = k by omega] at this
        exact this
      · have := under_cb (Λ := Λ) s t (by omega) (by omega) (8 * (k : Int) - p) (by omega) (by omega)
        rw [ea, show (p + (8 * (k : Int) - p)).toNat / 8 = k by omega] at this
        exact this
    · rw [if_neg x] at z; exact absurd rfl z
  · intro z
    obtain ⟨d, d0, d1, d2⟩ := under_of (Λ := Λ) s t (by omega) (by omega) k z
    rw [ea] at d2
    rw [if_pos ⟨e1, by rw [e6]; omega, by rw [e6, e3]; omega⟩]
    decide
-- the cards under a thing become dirty
theorem rch_cards {x : Cx} {P : Mem → Prop} (hx : X_M_reach x) (w : RW ΛR r ρ) {j : Nat} (hj : j < 90) (go : ∀ q : Mem, q.1 = ρ.1 → (∀ kd q' k, kd ≠ 53 → q.2.1 kd q' k = ρ.2.1 kd q' k) → (∀ kd q' k, rng (q.2.1 kd q' k)) → (∀ k : Nat, k < 8 → ((q.2.1 53 (r 53) k) = 0 ∨ (q.2.1 53 (r 53) k) = 1) ∧ ((q.2.1 53 (r 53) k) = 0 ↔ (ρ.2.1 53 (r 53) k) = 0 ∧ mLies r ρ j k = 0)) → P q) : N_M_reach_139 x P ΛR ρ r j 0 := by
  have hL := w.ly
  have loop : ∀ n i : Nat, i + n = 8 → ∀ q : Mem, q.1 = ρ.1 → (∀ kd q' k, kd ≠ 53 → q.2.1 kd q' k = ρ.2.1 kd q' k) → RW ΛR r q → (∀ k : Nat, k < i → ((q.2.1 53 (r 53) k) = 0 ∨ (q.2.1 53 (r 53) k) = 1) ∧ ((q.2.1 53 (r 53) k) = 0 ↔ (ρ.2.1 53 (r 53) k) = 0 ∧ mLies r ρ j k = 0)) → (∀ k : Nat, i ≤ k → (q.2.1 53 (r 53) k) = (ρ.2.1 53 (r 53) k)) → N_M_reach_139 x P ΛR q r j i := by
    intro n
    induction n with
    | zero =>
      intro i hi q a1 a2 a3 a4 a5
      exact u_M_reach_139 hx hL ⟨⟨by omega, by omega⟩, fun _ => go q a1 a2 a3.ry (fun k hk => a4 k (by omega)), fun z => absurd (by omega) z⟩
    | succ n ih =>
      intro i hi q a1 a2 a3 a4 a5
      have e5 := a5 i (Nat.le_refl _)
      have el : mLies r q j i = mLies r ρ j i := by
        unfold mLies
        rw [a2 1 _ _ (by decide), a2 6 _ _ (by decide), a2 3 _ _ (by decide)]
      have step : ∀ v : Int, (v = 0 ∨ v = 1) → (v = 0 ↔ (ρ.2.1 53 (r 53) i) = 0 ∧ mLies r ρ j i = 0) → N_M_reach_139 x P ΛR (upY q 53 (r 53) i v) r j (i + 1 : Nat) := by
        intro v hv he
        refine ih (i + 1) (by omega) _ a1 (fun kd q' k hk => ?_) (a3.drt hv) (fun k hk => ?_) (fun k hk => ?_)
        · rw [upY_nk hk]; exact a2 kd q' k hk
        · by_cases y : k = i
          · rw [y, upY_at]; exact ⟨hv, he⟩
          · rw [upY_ni y]; exact a4 k (by omega)
        · rw [upY_ni (by omega)]; exact a5 k (by omega)
      refine u_M_reach_139 hx hL ⟨⟨by omega, by omega⟩, fun z => absurd z (by omega), fun _ => ⟨by omega, by omega, a3.ry _ _ _, fun z => ⟨by omega, by omega, step 1 (Or.inr rfl) ⟨fun y => by omega, fun y => absurd y.1 ?_⟩⟩, fun z => c_M_lies a3 (by omega) ⟨by omega, by omega⟩ ⟨by unfold mLies; split <;> exact ⟨by omega, by omega⟩, fun z3 => ⟨by omega, by omega, step 0 (Or.inl rfl) ⟨fun _ => ⟨?_, ?_⟩, fun _ => rfl⟩⟩, fun z3 => ⟨by omega, by omega, step 1 (Or.inr rfl) ⟨fun y => by omega, fun y => absurd y.2 ?_⟩⟩⟩⟩⟩
      · have z : ¬ (q.2.1 53 (r 53) i) = 0 := z
        rw [← e5]; exact z
      · have z : (q.2.1 53 (r 53) i) = 0 := z
        rw [← e5]; exact z
      · rw [← el]; exact z3
      · rw [← el]; exact z3
  exact loop 8 0 rfl ρ rfl (fun _ _ _ _ => rfl) w (fun k hk => by omega) (fun _ _ => rfl)
theorem rch_fin {x : Cx} {P : Mem → Prop} {u j : Nat} {m : Int} {σ2 ρ2 ρ3 : Mem} (hx : X_M_reach x) (rx : RX Λ ΛR c r th σ0 σ2 ρ2) (pl : PL r j (fPlace c σ2 (szI Λ u)) m ρ2 ρ3) (y53 : ∀ i, (ρ3.2.1 53 (r 53) i) = (ρ2.2.1 53 (r 53) i)) (hj : j < 90) (e2 : th j = some u) (ay2 : (σ2.1 203 u) = -1) (ar2 : (σ2.1 206 u) = 1) (pn : fPlace c σ2 (szI Λ u) ≠ -1) (hm : m = 0 ∨ m = 1) (em : m = (if (σ2.1 306 (c 0)) = 0 then 0 else 1)) (hp : ∀ ρ', RX Λ ΛR c r th σ0 (fPlaceOld Λ c u σ2).2 ρ' → P ρ') : N_M_reach_139 x P ΛR ρ3 r j 0 := by
  have hT := (rx.rb.k1 j u hj e2).1
  have hz := szI_le hT
  obtain ⟨p0, p1, pf⟩ := place_ok σ2 hz.1 pn
  obtain ⟨-, eA, eM, eD, eO, eC2, eX⟩ := placeOld_is pn
  have ya2 := rx.ya.place hT ay2 ar2
  have ea2 : ((gPut Λ c u (fPlace c σ2 (szI Λ u)) σ2).1 203 u) = fPlace c σ2 (szI Λ u) := by
    unfold gPut
    rw [gFill_1, upI_at]
  have w3 : RW ΛR r ρ3 := rx.rw.pl pl ⟨by omega, by omega⟩ hm (fun i hi => by rw [y53]; exact (rx.rw.bd i hi).1)
  refine rch_cards hx w3 hj (fun q b1 b2 b3 b4 => hp q ?_)
  have plq : PL r j (fPlace c σ2 (szI Λ u)) m ρ2 q := ⟨fun f q' hf => by rw [b1]; exact pl.f1 f q' hf, by rw [b1]; exact pl.f2, fun kd q' k k1 k2 k3 k4 k5 => (b2 kd q' k k5).trans (pl.ys kd q' k k1 k2 k3 k4 k5), fun i => (b2 _ _ _ (by decide)).trans (pl.y1 i), fun i => (b2 _ _ _ (by decide)).trans (pl.y6 i), fun i => (b2 _ _ _ (by decide)).trans (pl.ym i), fun i => (b2 _ _ _ (by decide)).trans (pl.yg i), b3, fun f q' => by rw [b1]; exact pl.hi f q'⟩
  have lu : ∀ k : Nat, k < 8 → (mLies r ρ3 j k ≠ 0 ↔ cb (fUnder Λ (gPut Λ c u (fPlace c σ2 (szI Λ u)) σ2) u) k = true) := fun k hk => lies_under hT (by rw [pl.y1, if_pos rfl]) (by rw [pl.y6, if_pos rfl]) (by rw [pl.ys _ _ _ (by decide) (by decide) (by decide) (by decide) (by decide)]; exact (rx.rb.k4 j u hj e2).2.1) ea2 p0 p1 hk
  generalize fUnder Λ (gPut Λ c u (fPlace c σ2 (szI Λ u)) σ2) u = un at *
  generalize fPlace c σ2 (szI Λ u) = p at *
  generalize (fPlaceOld Λ c u σ2).2 = s at *
  have hd : ∀ i : Nat, i < 8 → ((q.2.1 53 (r 53) i) = 0 ↔ cb ((s.1 304 (c 0))) i = false) := by
    intro i hi
    rw [(b4 i hi).2, y53, eD, cb_or, (rx.rb.k8 i hi).1]
    have l1 := lu i hi
    cases hc : cb un i with
    | true =>
      rw [hc] at l1
      constructor
      · intro z; exact absurd z.2 (l1.mpr rfl)
      · intro z; simp at z
    | false =>
      rw [hc] at l1
      have l0 : mLies r ρ3 j i = 0 := by
        by_cases y : mLies r ρ3 j i = 0
        · exact y
        · have := l1.mp y; cases this
      rw [Bool.or_false]
      exact ⟨fun z => z.1, fun z => ⟨z, l0⟩⟩
  have k55 : ∀ i, (q.2.1 55 (r 55) i) = (ρ2.2.1 55 (r 55) i) := fun i => plq.ys _ _ _ (by decide) (by decide) (by decide) (by decide) (by decide)
  have k9 : ∀ i, (q.2.1 9 (r 9) i) = (ρ2.2.1 9 (r 9) i) := fun i => plq.ys _ _ _ (by decide) (by decide) (by decide) (by decide) (by decide)
  have k56 : ∀ i, (q.2.1 56 (r 56) i) = (ρ2.2.1 56 (r 56) i) := fun i => plq.ys _ _ _ (by decide) (by decide) (by decide) (by decide) (by decide)
  have k57 : ∀ i, (q.2.1 57 (r 57) i) = (ρ2.2.1 57 (r 57) i) := fun i => plq.ys _ _ _ (by decide) (by decide) (by decide) (by decide) (by decide)
  refine ⟨rx.rw.pl plq ⟨by omega, by omega⟩ hm (fun i hi => (b4 i hi).1), rx.rb.pl rx.ya.gb hj e2 ay2 plq p0 eA (fun v => by rw [eM v, em]) eO eX hd, ya2, fun i t hi e => ?_, ?_, fun i hi => ?_, ?_, fun i t hi e => ?_, fun i hi e => ?_, fun i hi => ?_⟩
  · rw [k55, eO 206 _ (by decide) (by decide) (by decide)]; exact rx.me i t hi e
  · rw [plq.f1 _ _ (by decide), eO 101 _ (by decide) (by decide) (by decide)]; exact rx.rc
  · rw [eO 101 _ (by decide) (by decide) (by decide)] at hi
    rw [k9, eX _ _ _ (by decide)]; exact rx.ro i hi
  · rw [plq.f2, rx.gr]
    exact (gN_place rx.ya hT ar2 ay2 (fun v => by rw [eA v, eA u, if_pos rfl]) (by rw [eA u, if_pos rfl]; exact p0) (fun i => eX _ _ _ (by decide)) (eO 101 _ (by decide) (by decide) (by decide))).symm
  · rw [k56]; exact rx.wo i t hi e
  · rw [k56]; exact rx.wn i hi e
  · rw [k57]; exact rx.wd i hi
theorem s_reach {z : Int} {o : Option Nat} {P : Mem → Prop} (g0 : GD Λ c σ0) (h : RX Λ ΛR c r th σ0 σ ρ) (hz : RF th σ z o) (ho : ∀ t, o = some t → isT Λ t) (hp : ∀ ρ', RX Λ ΛR c r th σ0 (gReachY Λ c o σ) ρ' → P ρ') : K_M_reach l D ΛR ρ r z P := by
  refine e_M_reach (fun x hl hD hx => ?_)
  subst hl; subst hD
  have w := h.rw
  have hL := w.ly
  rcases hz with (⟨e1, e2⟩ | ⟨j, u, hj, e1, e2, e3⟩) | ⟨e1, u, e2, e3⟩
  · rw [e1]
    rw [e2] at hp
    exact u_M_reach_0 hx hL ⟨⟨by omega, by omega⟩, fun _ => hp ρ h, fun n => absurd (by decide) n⟩
  · rw [e1]
    rw [e3] at hp ho
    have hT := ho u rfl
    obtain ⟨b1, b2, b3, b4⟩ := h.rb.k1 j u hj e2
    have me := h.me j u hj e2
    unfold gReachY at hp
    dsimp only at hp
    by_cases hy : (σ.1 203 u) = -1
    · rw [if_pos hy] at hp
      by_cases h0 : (σ.1 206 u) = 0
      · have hag := h.ya.gb.wf.ag u hT
        have few0 := h.ya.few g0.yl
        have y1 := g0.gb.wf.y1
        have q0 := h.ya.gb.wf.q0
        have pu := h.ya.push hT hy h0 (by omega) (v := min ((σ.1 202 u) + 1) 9) ⟨by omega, by omega⟩
        have few1 := pu.few g0.yl
        have eC : (upI (upI (gAdd (c 6) (c 7) (some u) σ) 206 u 1) 202 u (min ((σ.1 202 u) + 1) 9)).1 101 (c 6) = (σ.1 101 (c 6)) + 1 := by
          rw [upI_ne (by decide), rn_1, if_neg (by omega), if_pos ⟨rfl, rfl⟩]
        rw [eC] at few1
        rw [reach_new h0 (by omega)] at hp
        simp only at hp
        rw [if_neg (by decide)] at hp
        have eg : (upI (gAdd (c 6) (c 7) (some u) σ) 206 u 1).1 202 u = (σ.1 202 u) := by rw [rn_1, if_neg (by omega), if_neg (by omega)]
        rw [eg] at hp
        have rx := h.push hj e2 hy h0 (by omega) (v := min ((σ.1 202 u) + 1) 9) ⟨by omega, by omega⟩
        have k1 : (ρ.2.1 1 (r 1) j) = 1 := b3.mpr hy
        have ka : (ρ.2.1 5 (r 5) j) = (σ.1 202 u) := (h.rb.k4 j u hj e2).2.2.2.2 k1
        have ag2 : (upI (upI (gAdd (c 6) (c 7) (some u) σ) 206 u 1) 202 u (min ((σ.1 202 u) + 1) 9)).1 202 u = min ((σ.1 202 u) + 1) 9 := upI_at
        have ay2 : (upI (upI (gAdd (c 6) (c 7) (some u) σ) 206 u 1) 202 u (min ((σ.1 202 u) + 1) 9)).1 203 u = -1 := by rw [upI_ne (by decide), rn_1, if_neg (by omega), if_neg (by omega)]; exact hy
        have ar2 : (upI (upI (gAdd (c 6) (c 7) (some u) σ) 206 u 1) 202 u (min ((σ.1 202 u) + 1) 9)).1 206 u = 1 := by rw [upI_ne (by decide), upI_at]
        rw [ag2] at hp
        have rc := h.rc
        have ea : ∀ v, v = min ((σ.1 202 u) + 1) 9 → N_M_reach_80 x P ΛR (upI (upY (upY ρ 55 (r 55) j 1) 9 (r 9) ((ρ.1 415 (r 0))).toNat j) 415 (r 0) ((ρ.1 415 (r 0)) + 1)) r j j v := by
          intro v hv
          subst hv
          have ey : (upY (upI (upY (upY ρ 55 (r 55) j 1) 9 (r 9) ((ρ.1 415 (r 0))).toNat j) 415 (r 0) ((ρ.1 415 (r 0)) + 1)) 5 (r 5) j (min ((σ.1 202 u) + 1) 9)).2.1 5 (r 5) j = min ((σ.1 202 u) + 1) 9 := upY_at
          refine u_M_reach_80 hx hL ⟨by omega, by omega, by omega, by omega, ?_, fun n => ?_, fun n => ⟨by omega, by omega, ?_⟩⟩
          · exact rx.rw.ry 5 (r 5) j
          · have n : (upY (upI (upY (upY ρ 55 (r 55) j 1) 9 (r 9) ((ρ.1 415 (r 0))).toNat j) 415 (r 0) ((ρ.1 415 (r 0)) + 1)) 5 (r 5) j (min ((σ.1 202 u) + 1) 9)).2.1 5 (r 5) j < 2 := n
            rw [ey] at n
            rw [if_neg (by omega)] at hp
            exact u_M_reach_107 hx hL ⟨⟨by omega, by omega⟩, fun y => absurd y (by decide), fun _ => hp _ rx⟩
          · have n : ¬ (upY (upI (upY (upY ρ 55 (r 55) j 1) 9 (r 9) ((ρ.1 415 (r 0))).toNat j) 415 (r 0) ((ρ.1 415 (r 0)) + 1)) 5 (r 5) j (min ((σ.1 202 u) + 1) 9)).2.1 5 (r 5) j < 2 := n
            rw [ey] at n
            rw [if_pos (by omega)] at hp
            show K_M_place (xl x) (xD x) ΛR (upY (upI (upY (upY ρ 55 (r 55) j 1) 9 (r 9) ((ρ.1 415 (r 0))).toNat j) 415 (r 0) ((ρ.1 415 (r 0)) + 1)) 5 (r 5) j (min ((σ.1 202 u) + 1) 9)) r (1 + ((upY (upI (upY (upY ρ 55 (r 55) j 1) 9 (r 9) ((ρ.1 415 (r 0))).toNat j) 415 (r 0) ((ρ.1 415 (r 0)) + 1)) 5 (r 5) j (min ((σ.1 202 u) + 1) 9)).2.1 3 (r 3) j)) _
            generalize upY (upI (upY (upY ρ 55 (r 55) j 1) 9 (r 9) ((ρ.1 415 (r 0))).toNat j) 415 (r 0) ((ρ.1 415 (r 0)) + 1)) 5 (r 5) j (min ((σ.1 202 u) + 1) 9) = ρ2 at *
            generalize upI (upI (gAdd (c 6) (c 7) (some u) σ) 206 u 1) 202 u (min ((σ.1 202 u) + 1) 9) = σ2 at *
            have hz := szI_le hT
            have ef := (rx.rb.k4 j u hj e2).2.1
            have es : 1 + (ρ2.2.1 3 (r 3) j) = szI Λ u := by rw [ef]; rfl
            rw [es]
            refine c_M_place rx.rw ⟨by omega, by omega⟩ ?_
            rw [place_eq rx.rb rx.rw rx.ya.gb]
            have ple := place_le (c := c) σ2 hz.1
            by_cases pn : fPlace c σ2 (szI Λ u) = -1
            · rw [placeOld_no pn] at hp
              rw [pn]
              exact u_M_reach_107 hx hL ⟨⟨by omega, by omega⟩, fun y => absurd y (by decide), fun _ => hp _ rx⟩
            · obtain ⟨p0, p1, pf⟩ := place_ok σ2 hz.1 pn
              obtain ⟨-, eA, eM, eD, eO, eC2, eX⟩ := placeOld_is pn
              have ya2 := rx.ya.place hT ay2 ar2
              have ea2 : ((gPut Λ c u (fPlace c σ2 (szI Λ u)) σ2).1 203 u) = fPlace c σ2 (szI Λ u) := by
                unfold gPut
                rw [gFill_1, upI_at]
              refine u_M_reach_107 hx hL ⟨⟨by omega, by omega⟩, fun _ => ?_, fun y => absurd p0 y⟩
              refine w_M_becomeOld hL ⟨by omega, by omega, by omega, by omega, by omega, by omega, by omega, by omega, ?_⟩
              show rng ((upI (upY (upY (upY (upY ρ2 1 (r 1) j 2) 6 (r 6) j (fPlace c σ2 (szI Λ u))) 51 (r 51) j 0) 52 (r 52) j 0) 421 (r 0) ((ρ2.1 421 (r 0)) + 1)).1 411 (r 0)) ∧ ((upI (upY (upY (upY (upY ρ2 1 (r 1) j 2) 6 (r 6) j (fPlace c σ2 (szI Λ u))) 51 (r 51) j 0) 52 (r 52) j 0) 421 (r 0) ((ρ2.1 421 (r 0)) + 1)).1 411 (r 0) = 0 → N_M_reach_136 x P ΛR (upI (upY (upY (upY (upY ρ2 1 (r 1) j 2) 6 (r 6) j (fPlace c σ2 (szI Λ u))) 51 (r 51) j 0) 52 (r 52) j 0) 421 (r 0) ((ρ2.1 421 (r 0)) + 1)) r j j 0) ∧ (¬ (upI (upY (upY (upY (upY ρ2 1 (r 1) j 2) 6 (r 6) j (fPlace c σ2 (szI Λ u))) 51 (r 51) j 0) 52 (r 52) j 0) 421 (r 0) ((ρ2.1 421 (r 0)) + 1)).1 411 (r 0) = 0 → N_M_reach_136 x P ΛR (upI (upY (upY (upY (upY ρ2 1 (r 1) j 2) 6 (r 6) j (fPlace c σ2 (szI Λ u))) 51 (r 51) j 0) 52 (r 52) j 0) 421 (r 0) ((ρ2.1 421 (r 0)) + 1)) r j j 1)
              have e411 : (upI (upY (upY (upY (upY ρ2 1 (r 1) j 2) 6 (r 6) j (fPlace c σ2 (szI Λ u))) 51 (r 51) j 0) 52 (r 52) j 0) 421 (r 0) ((ρ2.1 421 (r 0)) + 1)).1 411 (r 0) = (σ2.1 306 (c 0)) := by
                rw [upI_ne (by decide)]
                exact rx.rb.k9.1
              rw [e411]
              have gn0 := rx.gr
              have qb := rx.ya.gb.wf.q0
              have q20 : (σ2.1 101 (c 6)) ≤ 84 := rx.ya.gb.wf.q1
              have gnb : 0 ≤ gN c σ2 ∧ gN c σ2 ≤ 84 := by
                have hb : ∀ a, 0 ≤ gN1 c σ2 a ∧ gN1 c σ2 a ≤ 1 := by
                  intro a
                  unfold gN1
                  split
                  · omega
                  · split <;> omega
                unfold gN
                constructor
                · have := sumN_le (f := fun _ => 0) (g := gN1 c σ2) (n := ((σ2.1 101 (c 6))).toNat) (fun i _ => (hb i).1)
                  rw [sumN_const] at this
                  omega
                · have := sumN_le (f := gN1 c σ2) (g := fun _ => 1) (n := ((σ2.1 101 (c 6))).toNat) (fun i _ => (hb i).2)
                  rw [sumN_const] at this
                  omega
              have fin : ∀ m : Int, (m = 0 ∨ m = 1) → m = (if (σ2.1 306 (c 0)) = 0 then 0 else 1) → N_M_reach_136 x P ΛR (upI (upY (upY (upY (upY ρ2 1 (r 1) j 2) 6 (r 6) j (fPlace c σ2 (szI Λ u))) 51 (r 51) j 0) 52 (r 52) j 0) 421 (r 0) ((ρ2.1 421 (r 0)) + 1)) r j j m := by
                intro m hm em
                refine u_M_reach_136 hx hL ⟨by omega, by omega, hm, ?_⟩
                show N_M_reach_139 x P ΛR (upY (upI (upY (upY (upY (upY ρ2 1 (r 1) j 2) 6 (r 6) j (fPlace c σ2 (szI Λ u))) 51 (r 51) j 0) 52 (r 52) j 0) 421 (r 0) ((ρ2.1 421 (r 0)) + 1)) 51 (r 51) j m) r j 0
                have pl : PL r j (fPlace c σ2 (szI Λ u)) m ρ2 (upY (upI (upY (upY (upY (upY ρ2 1 (r 1) j 2) 6 (r 6) j (fPlace c σ2 (szI Λ u))) 51 (r 51) j 0) 52 (r 52) j 0) 421 (r 0) ((ρ2.1 421 (r 0)) + 1)) 51 (r 51) j m) := by
                  refine ⟨fun f q hf => ?_, ?_, fun kd q k k1 k2 k3 k4 k5 => ?_, fun i => ?_, fun i => ?_, fun i => ?_, fun i => ?_, ?_, ?_⟩
                  · show (upI (upY (upY (upY (upY ρ2 1 (r 1) j 2) 6 (r 6) j (fPlace c σ2 (szI Λ u))) 51 (r 51) j 0) 52 (r 52) j 0) 421 (r 0) ((ρ2.1 421 (r 0)) + 1)).1 f q = _
                    rw [upI_ne hf]; rfl
                  · exact upI_at
                  · rw [upY_nk k3]
                    show (upY (upY (upY (upY ρ2 1 (r 1) j 2) 6 (r 6) j (fPlace c σ2 (szI Λ u))) 51 (r 51) j 0) 52 (r 52) j 0).2.1 kd q k = _
                    rw [upY_nk k4, upY_nk k3, upY_nk k2, upY_nk k1]
                  · rw [upY_nk (by decide)]
                    show (upY (upY (upY (upY ρ2 1 (r 1) j 2) 6 (r 6) j (fPlace c σ2 (szI Λ u))) 51 (r 51) j 0) 52 (r 52) j 0).2.1 1 (r 1) i = _
                    rw [upY_nk (by decide), upY_nk (by decide), upY_nk (by decide)]
                    by_cases y : i = j
                    · rw [if_pos y, y, upY_at]
                    · rw [if_neg y, upY_ni y]
                  · rw [upY_nk (by decide)]
                    show (upY (upY (upY (upY ρ2 1 (r 1) j 2) 6 (r 6) j (fPlace c σ2 (szI Λ u))) 51 (r 51) j 0) 52 (r 52) j 0).2.1 6 (r 6) i = _
                    rw [upY_nk (by decide), upY_nk (by decide)]
                    by_cases y : i = j
                    · rw [if_pos y, y, upY_at]
                    · rw [if_neg y, upY_ni y, upY_nk (by decide)]
                  · by_cases y : i = j
                    · rw [if_pos y, y, upY_at]
                    · rw [if_neg y, upY_ni y]
                      show (upY (upY (upY (upY ρ2 1 (r 1) j 2) 6 (r 6) j (fPlace c σ2 (szI Λ u))) 51 (r 51) j 0) 52 (r 52) j 0).2.1 51 (r 51) i = _
                      rw [upY_nk (by decide), upY_ni y, upY_nk (by decide), upY_nk (by decide)]
                  · rw [upY_nk (by decide)]
                    show (upY (upY (upY (upY ρ2 1 (r 1) j 2) 6 (r 6) j (fPlace c σ2 (szI Λ u))) 51 (r 51) j 0) 52 (r 52) j 0).2.1 52 (r 52) i = _
                    by_cases y : i = j
                    · rw [if_pos y, y, upY_at]
                    · rw [if_neg y, upY_ni y, upY_nk (by decide), upY_nk (by decide), upY_nk (by decide)]
                  · refine rng_upY (ρ := upI (upY (upY (upY (upY ρ2 1 (r 1) j 2) 6 (r 6) j (fPlace c σ2 (szI Λ u))) 51 (r 51) j 0) 52 (r 52) j 0) 421 (r 0) ((ρ2.1 421 (r 0)) + 1)) ?_ (by rcases hm with e | e <;> rw [e] <;> exact ⟨by omega, by omega⟩)
                    exact rng_upY (rng_upY (rng_upY (rng_upY rx.rw.ry ⟨by omega, by omega⟩) ⟨by omega, by omega⟩) rng_0) rng_0
                  · exact rng_upI (ρ := upY (upY (upY (upY ρ2 1 (r 1) j 2) 6 (r 6) j (fPlace c σ2 (szI Λ u))) 51 (r 51) j 0) 52 (r 52) j 0) rx.rw.ri (by rw [gn0]; exact ⟨by omega, by omega⟩)
                have y53 : ∀ i, (upY (upI (upY (upY (upY (upY ρ2 1 (r 1) j 2) 6 (r 6) j (fPlace c σ2 (szI Λ u))) 51 (r 51) j 0) 52 (r 52) j 0) 421 (r 0) ((ρ2.1 421 (r 0)) + 1)) 51 (r 51) j m).2.1 53 (r 53) i = (ρ2.2.1 53 (r 53) i) := by
                  intro i
                  rw [upY_nk (by decide)]
                  show (upY (upY (upY (upY ρ2 1 (r 1) j 2) 6 (r 6) j (fPlace c σ2 (szI Λ u))) 51 (r 51) j 0) 52 (r 52) j 0).2.1 53 (r 53) i = _
                  rw [upY_nk (by decide), upY_nk (by decide), upY_nk (by decide), upY_nk (by decide)]
                generalize upY (upI (upY (upY (upY (upY ρ2 1 (r 1) j 2) 6 (r 6) j (fPlace c σ2 (szI Λ u))) 51 (r 51) j 0) 52 (r 52) j 0) 421 (r 0) ((ρ2.1 421 (r 0)) + 1)) 51 (r 51) j m = ρ3 at *
                exact rch_fin hx rx pl y53 hj e2 ay2 ar2 pn hm em hp
              refine ⟨rx.ya.gb.wf.rg _ _, fun n => fin 0 (Or.inl rfl) (by rw [if_pos n]), fun n => fin 1 (Or.inr rfl) (by rw [if_neg n])⟩
        refine u_M_reach_0 hx hL ⟨⟨by omega, by omega⟩, fun n => absurd n (by omega), fun _ => ⟨by omega, by omega, w.ry _ _ _, fun n => absurd k1 n, fun _ => ⟨by omega, by omega, w.ry _ _ _, fun _ => ⟨by omega, by omega, ?_, ?_, by omega, by omega, ?_, fun n => ?_, fun n => ⟨by omega, by omega, ?_⟩⟩, fun n => absurd (me.mpr h0) n⟩⟩⟩
        · show 0 ≤ (ρ.1 415 (r 0)); omega
        · show (ρ.1 415 (r 0)) < 20; omega
        · show rng ((upY (upY ρ 55 (r 55) j 1) 9 (r 9) ((ρ.1 415 (r 0))).toNat j).2.1 5 (r 5) j)
          rw [upY_nk (by decide), upY_nk (by decide)]; exact w.ry _ _ _
        · have n : 9 ≤ (upY (upY ρ 55 (r 55) j 1) 9 (r 9) ((ρ.1 415 (r 0))).toNat j).2.1 5 (r 5) j := n
          rw [upY_nk (by decide), upY_nk (by decide), ka] at n
          exact ea 9 (by omega)
        · have n : ¬ 9 ≤ (upY (upY ρ 55 (r 55) j 1) 9 (r 9) ((ρ.1 415 (r 0))).toNat j).2.1 5 (r 5) j := n
          rw [upY_nk (by decide), upY_nk (by decide), ka] at n
          show N_M_reach_80 x P ΛR (upI (upY (upY ρ 55 (r 55) j 1) 9 (r 9) ((ρ.1 415 (r 0))).toNat j) 415 (r 0) ((ρ.1 415 (r 0)) + 1)) r j j ((upY (upY ρ 55 (r 55) j 1) 9 (r 9) ((ρ.1 415 (r 0))).toNat j).2.1 5 (r 5) j + 1)
          rw [upY_nk (by decide), upY_nk (by decide), ka]
          exact ea _ (by omega)
      · rw [reach_old h0] at hp
        simp only [if_true] at hp
        exact u_M_reach_0 hx hL ⟨⟨by omega, by omega⟩, fun n => absurd n (by omega), fun _ => ⟨by omega, by omega, w.ry _ _ _, fun _ => hp ρ h, fun _ => ⟨by omega, by omega, w.ry _ _ _, fun n => absurd (me.mp n) h0, fun _ => hp ρ h⟩⟩⟩
    · rw [if_neg hy] at hp
      exact u_M_reach_0 hx hL ⟨⟨by omega, by omega⟩, fun n => absurd n (by omega), fun _ => ⟨by omega, by omega, w.ry _ _ _, fun _ => hp ρ h, fun n => absurd (b3.mp n) hy⟩⟩
  · rw [e1]
    rw [e2] at hp
    unfold gReachY at hp
    dsimp only at hp
    rw [if_neg (by omega)] at hp
    exact u_M_reach_0 hx hL ⟨⟨by omega, by omega⟩, fun _ => hp ρ h, fun n => absurd (by decide) n⟩
end RY3
