/-! The full collection on both sides. -/
section RF5
variable {l : Launch} {D : va_G} {Λ ΛR : Lam} {c r : Nat → Nat} {th : Nat → Option Nat} {σ0 σ ρ s1 : Mem}
def rF (s : Mem) (t : Nat) : Bool := decide ((s.1 206 t) = 0)
theorem rF_iff {s : Mem} {t : Nat} : rF s t = true ↔ (s.1 206 t) = 0 := by unfold rF; exact decide_eq_true_iff
theorem rF_no {s : Mem} {t : Nat} : rF s t = false ↔ (s.1 206 t) ≠ 0 := by unfold rF; exact decide_eq_false_iff_not
-- the state in which the young are moved over
theorem ff_mid {s2 s5 q3 q4 : Mem} (w : RW ΛR r ρ) (g : GD Λ c σ) (h : RB Λ c r th σ ρ) (z : FZ Λ c σ s1 s2 s5) (w3 : RW ΛR r q3) (h3 : RB Λ c r (thR th (rF s1) 90) (nfold (gR1 th (rF s1)) (upI σ 101 (c 2) 0) 90) (upI q3 413 (r 0) 0)) (e1 : q4.1 = q3.1) (eS : (q3.1 412 (r 0)) = (ρ.1 412 (r 0))) (eY : ∀ kd a k, kd ≠ 6 → q4.2.1 kd a k = q3.2.1 kd a k) (eA : ∀ i t : Nat, i < 90 → thR th (rF s1) 90 i = some t → (q3.2.1 1 (r 1) i) = 2 → (q4.2.1 6 (r 6) i) = (s2.1 203 t)) : RB Λ c r (thR th (rF s1) 90) (zc c s5) (zr r q4) := by
  obtain ⟨r1, r2, r3, r4⟩ := gR_is th (rF s1) (upI σ 101 (c 2) 0) 90
  have ek : ∀ kd a k, kd ≠ 6 ∧ kd ≠ 51 ∧ kd ≠ 52 ∧ kd ≠ 53 ∧ kd ≠ 54 → (zr r q4).2.1 kd a k = q3.2.1 kd a k := fun kd a k b => by rw [zr_k b.2]; exact eY kd a k b.1
  have ez : ∀ f q, f ≠ 203 ∧ f ≠ 204 ∧ f ≠ 205 ∧ f ≠ 206 ∧ f ≠ 101 ∧ f ≠ 306 ∧ f ≠ 304 ∧ f ≠ 305 → (zc c s5).1 f q = σ.1 f q := fun f q b => by rw [zc_1 ⟨b.2.2.2.2.1, b.2.2.2.2.2.2.1, b.2.2.2.2.2.2.2⟩]; exact z.ki f q b.1 b.2.1 b.2.2.1 b.2.2.2.1 b.2.2.2.2.1 b.2.2.2.2.2.1
  have er : ∀ f q, f ≠ 203 ∧ f ≠ 101 → (nfold (gR1 th (rF s1)) (upI σ 101 (c 2) 0) 90).1 f q = σ.1 f q := fun f q b => by rw [r2 f q b.1, upI_ne b.2]
  have kx : ∀ kd q k, kd ≠ 102 ∧ kd ≠ 101 → (zc c s5).2.2 kd q k = (nfold (gR1 th (rF s1)) (upI σ 101 (c 2) 0) 90).2.2 kd q k := fun kd q k b => by rw [r1]; exact z.kx kd q k b.1 b.2
  -- a thing that stays
  have stay : ∀ t, isT Λ t → (s1.1 206 t) ≠ 0 → ((nfold (gR1 th (rF s1)) (upI σ 101 (c 2) 0) 90).1 203 t) = (σ.1 203 t) ∧ (s5.1 203 t) = (s2.1 203 t) := by
    intro t ht hr
    refine ⟨?_, z.a2 t ht (fun y => hr y.2)⟩
    rw [r4 t (fun y => hr (rF_iff.mp y.1)), upI_ne (by decide)]
  refine h3.chg (fun kd q k t e => by rw [r1] at e; exact g.gb.wf.ty _ _ _ _ e) (fun q k => kx _ _ _ (by decide)) (fun q k => kx _ _ _ (by decide)) (fun t => by rw [ez 200 t (by decide), er 200 t (by decide)]) (fun k => ek _ _ _ (by decide)) (fun k => ek _ _ _ (by decide)) (fun k => ek _ _ _ (by decide)) (fun k => ek _ _ _ (by decide)) (fun i t hi e => ?_) (fun i hi e => ?_) (fun t ht hu => ?_) (fun i hi => ?_) ?_ (fun i hi => ?_)
  · obtain ⟨e0, en⟩ := thR_some e
    have hr : (s1.1 206 t) ≠ 0 := fun y => en ⟨hi, rF_iff.mpr y⟩
    have hT := (h.k1 i t hi e0).1
    obtain ⟨a1, a2⟩ := stay t hT hr
    obtain ⟨d1, d2, d3, d4, d5, d6, d7⟩ := h3.hs hi e
    have d1 : (q3.2.1 1 (r 1) i) ≠ 0 := d1
    have d3 : (q3.2.1 1 (r 1) i) = 1 ↔ _ := d3
    have d7 : (q3.2.1 1 (r 1) i) = 1 → (q3.2.1 5 (r 5) i) = _ := d7
    rw [a1] at d2 d3
    rw [er 202 t (by decide)] at d7
    have kn := w3.kn i hi
    have adr2 := z.adr2 hT
    rw [ek 1 _ _ (by decide), ek 5 _ _ (by decide), zr_k (kd := 6) (by decide), zr_0 (kd := 51) (by decide), zr_0 (kd := 52) (by decide), zc_1 (f := 203) (by decide), zc_1 (f := 204) (by decide), zc_1 (f := 205) (by decide), ez 202 t (by decide), a2]
    rcases g.gb.ad t hT with y | y | ⟨y, _⟩
    · exact absurd y d2
    · have ea := adr2.2 (by omega)
      have m2 := z.m2 t hT (by omega)
      have ym := g.gb.ym t hT y
      rw [ea]
      exact ⟨d1, by omega, ⟨fun _ => y, fun _ => d3.mpr y⟩, fun q => by have := d3.mpr y; omega, by omega, by omega, d7⟩
    · have ea := (adr2.1 y).1 hr
      have mk := z.mk t hT ea
      have k2 : (q3.2.1 1 (r 1) i) = 2 := by
        have : ¬ (q3.2.1 1 (r 1) i) = 1 := fun q => by have := d3.mp q; omega
        omega
      exact ⟨d1, by omega, ⟨fun q => by omega, fun q => by omega⟩, fun _ => eA i t hi e k2, mk.1.symm, mk.2.symm, fun q => by omega⟩
  · have := (h3.h0 hi e).1
    rw [ek 1 _ _ (by decide), zr_0 (kd := 51) (by decide), zr_0 (kd := 52) (by decide)]
    exact ⟨this, rfl, rfl⟩
  · rw [zc_1 (by decide)]
    have adr2 := z.adr2 ht
    by_cases hr : (s1.1 206 t) = 0
    · by_cases y : (σ.1 203 t) = -1
      · exact z.a1 t ht y hr
      · rw [z.a2 t ht (fun q => y q.1)]
        by_cases y2 : 0 ≤ (σ.1 203 t)
        · exact (adr2.1 y2).2 hr
        · rw [adr2.2 (by omega)]
          rcases g.gb.ad t ht with q | q | ⟨q, _⟩
          · exact q
          · exact absurd q y
          · exact absurd q y2
    · obtain ⟨a1, a2⟩ := stay t ht hr
      rw [a1] at hu
      rw [a2, adr2.2 (by omega)]
      exact hu
  · rw [zc_d.1, zc_d.2, zr_0 (by decide), zr_0 (by decide)]
    exact ⟨⟨fun _ => cb_0 i, fun _ => rfl⟩, fun _ => cb_0 i, fun _ => rfl⟩
  · have k9 := h.k9
    rw [zr_p.1, zr_p.2, zr_f (by decide), zc_c, zc_1 (by decide), z.ph, ez 307 _ (by decide), e1, eS]
    exact ⟨rfl, k9.2.1, rfl⟩
  · rw [zr_p.2] at hi; omega
theorem s_collectFull {P : Mem → Prop} (w : RW ΛR r ρ) (g : GD Λ c σ) (h : RB Λ c r th σ ρ) (hp : ∀ th' ρ', RW ΛR r ρ' → RB Λ c r th' (fAll Λ c σ).2 ρ' → (ρ'.1 421 (r 0)) = (fAll Λ c σ).1 → P ρ') : K_M_collectFull l D ΛR ρ r P := by
  refine e_M_collectFull (fun x hl hD hx => ?_)
  subst hl; subst hD
  have hL := w.ly
  have z := g.fz
  have hreach := (f_all g).2
  have hw3 := g.gb.wf.gall1
  have ko := keep_ord hw3
  -- what the state before the keeping has of the first
  have u := unm_is c (gSlide Λ c (gFindAll Λ c σ))
  have n26 := g.gb.wf.ly.ne26
  have n37 := g.gb.wf.ly.ne37
  have c2eq : ((gAll1 Λ c σ).1 101 (c 2)) = (σ.1 101 (c 2)) := by
    unfold gAll1
    rw [upI_ne (by decide), u.2.1 _ _ (by decide) (by decide), z.sl.ki _ _ (by decide), z.fa.ki _ _ (by decide) (fun y => n26 y.2)]
  have l3eq : ∀ i, (gAll1 Λ c σ).2.2 101 (c 3) i = σ.2.2 101 (c 3) i := by
    intro i
    unfold gAll1
    rw [upI_2, u.1, z.sl.kx _ _ _ (by decide), z.fa.kx _ _ _ (fun y => n37 y.2)]
  have r3eq : ∀ t, ((gAll1 Λ c σ).1 206 t) = ((gFindAll Λ c σ).1 206 t) := by
    intro t
    unfold gAll1
    rw [upI_ne (by decide), u.2.1 _ _ (by decide) (by decide), z.sl.ki _ _ (by decide)]
  clear u
  have lt := let_is (c 6) (c 7) (gKeep c (gAll1 Λ c σ))
  have e5c : ((gLetGo (c 6) (c 7) (gKeep c (gAll1 Λ c σ))).1 101 (c 2)) = ((gKeep c (gAll1 Λ c σ)).1 101 (c 2)) := lt.2.2.2.1 _ _ (by decide) (fun y => n26 y.2)
  have e5x : (gLetGo (c 6) (c 7) (gKeep c (gAll1 Λ c σ))).2 = (gKeep c (gAll1 Λ c σ)).2 := lt.2.2.1
  clear lt
  rw [← e5c] at ko
  rw [c2eq, ← e5x] at ko
  clear e5c e5x
  unfold fAll gAll2 fAll1 at hp
  dsimp only at hp
  generalize gLetGo (c 6) (c 7) (gKeep c (gAll1 Λ c σ)) = s5 at *
  generalize gAll1 Λ c σ = s3 at *
  have g5 := z.gb g
  have y5 := z.yng g
  obtain ⟨g6, v0, v1, v2, v3, v4, v5, v6, v7, v8⟩ := move_is g5 y5 z.ph
  obtain ⟨mv1, mv2, mv3⟩ := move_keep (Λ := Λ) (c := c) s5
  refine u_M_collectFull_0 hx hL (c_M_prepare w (fun q1 p => ?_))
  have w1 := w.aux p.ys p.fs p.hr p.hi
  have h1 := h.aux p.ys p.fs
  refine c_M_meetAll w1 g h1 p.me (fun q2 b1 b2 b3 b4 => ?_)
  have w2 : RW ΛR r q2 := w1.aux (fun kd a k _ _ k5 _ _ => b2 kd a k k5) (fun f a _ _ => by rw [b1]) b3 (by rw [b1]; exact w1.ri)
  have h2 : RB Λ c r th σ q2 := h1.aux (fun kd a k _ _ k5 _ _ => b2 kd a k k5) (fun f a _ _ => by rw [b1])
  have sS : gSlide Λ c (gFindAll Λ c σ) = gSlide Λ c (gFindAll Λ c σ) := rfl
  generalize gFindAll Λ c σ = s1 at *
  have fa := z.fa
  have eA1 : ∀ t, (s1.1 203 t) = (σ.1 203 t) := fun t => fa.ki _ _ (by decide) (by omega)
  refine ff_drop (R := rF s1) hx w2 h2 (fun i t hi e => ?_) (fun k t hk er => ?_) (fun q3 w3 h3 c1 c2 => ?_)
  · have b := b4 i t hi e
    have hT := (h.k1 i t hi e).1
    rw [rF_iff]
    constructor
    · intro y
      rcases (fa.gb.fl t hT).2.2 with q | q
      · exact q
      · exact absurd y (b.mpr (fa.rr t hT q))
    · intro y
      by_cases q : (q2.2.1 55 (r 55) i) = 0
      · exact q
      · have := hreach t (b.mp q)
        omega
  · rw [rF_no]
    have := hreach t (Reach.root hk er)
    omega
  obtain ⟨r1, r2, r3, r4⟩ := gR_is th (rF s1) (upI σ 101 (c 2) 0) 90
  have adrR : ∀ t, (s1.1 206 t) ≠ 0 → ((nfold (gR1 th (rF s1)) (upI σ 101 (c 2) 0) 90).1 203 t) = (σ.1 203 t) := by
    intro t hr
    rw [r4 t (fun y => hr (rF_iff.mp y.1)), upI_ne (by decide)]
  have c2' : ∀ kd a k, kd ≠ 1 ∧ kd ≠ 4 ∧ kd ≠ 51 ∧ kd ≠ 52 ∧ kd ≠ 55 → q3.2.1 kd a k = q1.2.1 kd a k := fun kd a k b => (c2 kd a k b.1 b.2.1 b.2.2.1 b.2.2.2.1).trans (b2 kd a k b.2.2.2.2)
  have f31 : q3.1 = q1.1 := c1.trans b1
  refine s_slide w3 fa.gb (th := thR th (rF s1) 90) (fun i j t hi hj ei ej => h.k2 i j t hi hj (thR_some ei).1 (thR_some ej).1) (fun i hi k => ?_) (fun t hT h0 hr => ?_) (fun q4 d1 d2 w4 d4 => ?_)
  · cases e : thR th (rF s1) 90 i with
    | none =>
      have := (h3.h0 hi e).1
      have : (q3.2.1 1 (r 1) i) = 0 := this
      omega
    | some t =>
      obtain ⟨e0, en⟩ := thR_some e
      have hr : (s1.1 206 t) ≠ 0 := fun y => en ⟨hi, rF_iff.mpr y⟩
      have hT := (h.k1 i t hi e0).1
      obtain ⟨x1, x2, x3, x4⟩ := h3.k1 i t hi e
      have x3 : (q3.2.1 1 (r 1) i) = 1 ↔ _ := x3
      rw [adrR t hr] at x2 x3
      have hA : 0 ≤ (σ.1 203 t) := by
        rcases g.gb.ad t hT with y | y | ⟨y, _⟩
        · exact absurd y x2
        · have := x3.mpr y; omega
        · exact y
      have k2 := (h.old w g.gb hi e0).mpr hA
      refine ⟨t, rfl, hT, by rw [eA1]; exact hA, hr, ?_, (h3.k4 i t hi e).2.1⟩
      rw [c2' 10 _ _ (by decide), p.wa i hi, eA1]
      exact (h.k1 i t hi e0).2.2.2 k2
  · rw [eA1] at h0
    obtain ⟨i, hi, e⟩ := h.k3 t hT (by omega)
    have e' := thR_keep (n := 90) e (rF_no.mpr hr)
    refine ⟨i, hi, e', ?_⟩
    obtain ⟨x1, x2, x3, x4⟩ := h3.k1 i t hi e'
    have x3 : (q3.2.1 1 (r 1) i) = 1 ↔ _ := x3
    rw [adrR t hr] at x3
    have x0 : (q3.2.1 1 (r 1) i) ≠ 0 := (h3.hs hi e').1
    have kn := w3.kn i hi
    have : ¬ (q3.2.1 1 (r 1) i) = 1 := fun q => by have := x3.mp q; omega
    omega
  have eS3 : (q3.1 412 (r 0)) = (ρ.1 412 (r 0)) := by rw [f31]; exact p.fs _ _ (by decide) (by decide)
  have h4 := ff_mid w g h z w3 h3 d1 eS3 d2 d4
  have f4 : ∀ f a, f ≠ 415 → f ≠ 421 → q4.1 f a = ρ.1 f a := fun f a n1 n2 => by rw [d1, f31]; exact p.fs f a n1 n2
  have eY4 : (q4.1 413 (r 0)) = (σ.1 101 (c 2)) := (f4 _ _ (by decide) (by decide)).trans h.k9.2.2
  have eO4 : ∀ i, (q4.2.1 8 (r 8) i) = (ρ.2.1 8 (r 8) i) := fun i => by rw [d2 _ _ _ (by decide), c2' 8 _ _ (by decide)]; exact p.ys _ _ _ (by decide) (by decide) (by decide) (by decide) (by decide)
  have y0 := g.gb.wf.y0
  have y1 := g.gb.wf.y1
  refine ff_move (mk := fun i => (kpN c s3 i).toNat) hx w4 g5 z.ph h4 (fun k t hk e => (y5.1 t (g5.wf.ty _ _ _ _ e)).mpr ⟨k, hk, e⟩) z.yd rfl ?_ (fun i hi => ?_) (fun i hi => ?_) ?_ (fun q5 w5 h5 g5m f5 gr5 mv0 rows => ?_)
  · rw [eY4, ← ko.1]
  · have kl := kpN_le (c := c) s3 i
    rw [eY4] at hi
    have km := kpN_mono (c := c) s3 (show i ≤ ((σ.1 101 (c 2))).toNat by omega)
    rw [← ko.1] at km
    exact ⟨by omega, by omega⟩
  · rw [eY4] at hi
    have e9 := h.k9.2.2
    obtain ⟨j, t, hj, a1, a2, a3⟩ := h.ka i (by omega)
    refine ⟨j, hj, by rw [eO4]; exact a1, ?_⟩
    have row3 : s3.2.2 101 (c 3) i = some t := by rw [l3eq]; exact a3
    have kl := kpN_le (c := c) s3 i
    have ks := kpN_s s3 row3
    by_cases hr : (s1.1 206 t) = 0
    · left
      refine ⟨?_, ?_⟩
      · unfold thR
        rw [a2]
        exact if_pos ⟨hj, rF_iff.mpr hr⟩
      · rw [ks, if_pos (by rw [r3eq]; exact hr), Int.add_zero]
    · right
      refine ⟨t, thR_keep a2 (rF_no.mpr hr), ?_, ?_⟩
      · rw [ks, if_neg (by rw [r3eq]; exact hr)]
        omega
      · exact ko.2 i t hi row3 (by rw [r3eq]; exact hr)
  · rw [d1, f31]; exact p.gr
  -- the rest
  have hm1 : 0 ≤ (s5.1 101 (c 2)) - (fMov1 Λ c s5).1 ∧ (s5.1 101 (c 2)) - (fMov1 Λ c s5).1 ≤ 20 := by
    rw [mv1] at v1
    have := g5.wf.y1
    omega
  have w6 : RW ΛR r (upI (upI q5 413 (r 0) ((s5.1 101 (c 2)) - (fMov1 Λ c s5).1)) 411 (r 0) 0) := by
    have ey : ((upI (upI q5 413 (r 0) ((s5.1 101 (c 2)) - (fMov1 Λ c s5).1)) 411 (r 0) 0).1 413 (r 0)) = (s5.1 101 (c 2)) - (fMov1 Λ c s5).1 := by rw [upI_ne (by decide), upI_at]
    refine ⟨w5.ly, rng_upI (rng_upI w5.ri ⟨by omega, by omega⟩) rng_0, w5.ry, w5.kn, w5.fd, w5.pa, w5.rf, w5.rt, w5.ag, w5.bm, w5.bd, by rw [ey]; exact hm1, fun i hi => ?_⟩
    rw [ey] at hi
    obtain ⟨j, t, hj, a1, _⟩ := rows i hi
    have a1 : (upI (upI q5 413 (r 0) ((s5.1 101 (c 2)) - (fMov1 Λ c s5).1)) 411 (r 0) 0).2.1 8 (r 8) i = j := a1
    rw [a1]
    exact ⟨by omega, by omega⟩
  have i7 : ∀ f q, f ≠ 101 ∧ f ≠ 304 ∧ f ≠ 305 → (upI (upI (fMove Λ c s5).2 305 (c 0) 0) 304 (c 0) 0).1 f q = (zc c (fMov1 Λ c s5).2).1 f q := fun f q b => by rw [upI_ne b.2.1, upI_ne b.2.2, mv2 f q b.1, zc_1 b]
  have h6 : RB Λ c r (thR th (rF s1) 90) (upI (upI (fMove Λ c s5).2 305 (c 0) 0) 304 (c 0) 0) (zk (upI (upI q5 413 (r 0) ((s5.1 101 (c 2)) - (fMov1 Λ c s5).1)) 411 (r 0) 0)) := by
    have ek : ∀ kd a k, kd ≠ 51 ∧ kd ≠ 52 ∧ kd ≠ 53 ∧ kd ≠ 54 → (zk (upI (upI q5 413 (r 0) ((s5.1 101 (c 2)) - (fMov1 Λ c s5).1)) 411 (r 0) 0)).2.1 kd a k = (zr r q5).2.1 kd a k := fun kd a k b => by rw [zk_k b, zr_k b]; rfl
    have ey : ((zk (upI (upI q5 413 (r 0) ((s5.1 101 (c 2)) - (fMov1 Λ c s5).1)) 411 (r 0) 0)).1 413 (r 0)) = (s5.1 101 (c 2)) - (fMov1 Λ c s5).1 := by
      show (upI (upI q5 413 (r 0) ((s5.1 101 (c 2)) - (fMov1 Λ c s5).1)) 411 (r 0) 0).1 413 (r 0) = _
      rw [upI_ne (by decide), upI_at]
    have ep : ((zk (upI (upI q5 413 (r 0) ((s5.1 101 (c 2)) - (fMov1 Λ c s5).1)) 411 (r 0) 0)).1 411 (r 0)) = 0 := by
      show (upI (upI q5 413 (r 0) ((s5.1 101 (c 2)) - (fMov1 Λ c s5).1)) 411 (r 0) 0).1 411 (r 0) = _
      rw [upI_at]
    have esw : ((zk (upI (upI q5 413 (r 0) ((s5.1 101 (c 2)) - (fMov1 Λ c s5).1)) 411 (r 0) 0)).1 412 (r 0)) = ((zr r q5).1 412 (r 0)) := by
      show (upI (upI q5 413 (r 0) ((s5.1 101 (c 2)) - (fMov1 Λ c s5).1)) 411 (r 0) 0).1 412 (r 0) = _
      rw [upI_ne (by decide), upI_ne (by decide), zr_f (by decide)]
    have zk51 : ∀ k, ((zk (upI (upI q5 413 (r 0) ((s5.1 101 (c 2)) - (fMov1 Λ c s5).1)) 411 (r 0) 0)).2.1 51 (r 51) k) = 0 := fun k => zk_0 (by decide)
    have zk52 : ∀ k, ((zk (upI (upI q5 413 (r 0) ((s5.1 101 (c 2)) - (fMov1 Λ c s5).1)) 411 (r 0) 0)).2.1 52 (r 52) k) = 0 := fun k => zk_0 (by decide)
    have zk53 : ∀ k, ((zk (upI (upI q5 413 (r 0) ((s5.1 101 (c 2)) - (fMov1 Λ c s5).1)) 411 (r 0) 0)).2.1 53 (r 53) k) = 0 := fun k => zk_0 (by decide)
    have zk54 : ∀ k, ((zk (upI (upI q5 413 (r 0) ((s5.1 101 (c 2)) - (fMov1 Λ c s5).1)) 411 (r 0) 0)).2.1 54 (r 54) k) = 0 := fun k => zk_0 (by decide)
    have cN : ((upI (upI (fMove Λ c s5).2 305 (c 0) 0) 304 (c 0) 0).1 101 (c 2)) = (s5.1 101 (c 2)) - (fMov1 Λ c s5).1 := by rw [upI_ne (by decide), upI_ne (by decide), v7, mv1]
    have row : ∀ k : Nat, (k : Int) < (s5.1 101 (c 2)) - (fMov1 Λ c s5).1 → (fMove Λ c s5).2.2.2 101 (c 3) k = s5.2.2 101 (c 3) (k + (fMov1 Λ c s5).1.toNat) := fun k hk => by have := v8 k (by rw [mv1]; exact hk); rw [mv1] at this; exact this
    have o8 : ∀ k, ((zk (upI (upI q5 413 (r 0) ((s5.1 101 (c 2)) - (fMov1 Λ c s5).1)) 411 (r 0) 0)).2.1 8 (r 8) k) = (q5.2.1 8 (r 8) k) := fun k => zk_k (by decide)
    generalize zk (upI (upI q5 413 (r 0) ((s5.1 101 (c 2)) - (fMov1 Λ c s5).1)) 411 (r 0) 0) = q6 at *
    refine h5.chg g5m.wf.ty (fun q k => mv3 _ _ _ (by decide)) (fun q k => mv3 _ _ _ (by decide)) (fun t => i7 _ _ (by decide)) (fun k => ek _ _ _ (by decide)) (fun k => ek _ _ _ (by decide)) (fun k => ek _ _ _ (by decide)) (fun k => ek _ _ _ (by decide)) (fun i t hi e => ?_) (fun i hi e => ?_) (fun t ht hu => ?_) (fun i hi => ?_) ?_ (fun i hi => ?_)
    · have hs := h5.hs hi e
      rw [zr_0 (kd := 51) (by decide), zr_0 (kd := 52) (by decide)] at hs
      rw [ek 1 _ _ (by decide), ek 6 _ _ (by decide), ek 5 _ _ (by decide), zk51, zk52, i7 203 _ (by decide), i7 204 _ (by decide), i7 205 _ (by decide), i7 202 _ (by decide)]
      exact hs
    · rw [ek 1 _ _ (by decide), zk51, zk52]
      exact ⟨(h5.h0 hi e).1, rfl, rfl⟩
    · rw [i7 _ _ (by decide)]; exact hu
    · rw [zk53, zk54, upI_at, upI_ne (by decide), upI_at]
      exact ⟨⟨fun _ => cb_0 i, fun _ => rfl⟩, fun _ => cb_0 i, fun _ => rfl⟩
    · have k9 := h5.k9
      rw [zr_p.1] at k9
      rw [ep, esw, ey, i7 306 _ (by decide), i7 307 _ (by decide), cN]
      exact ⟨k9.1, k9.2.1, rfl⟩
    · rw [ey] at hi
      obtain ⟨j, t, hj, a1, a2, a3⟩ := rows i hi
      refine ⟨j, t, hj, by rw [o8]; exact a1, a2, ?_⟩
      show (fMove Λ c s5).2.2.2 101 (c 3) i = some t
      rw [row i hi]; exact a3
  refine ff_end hx w6 g6 h6 (fun q7 w7 h7 e7 => hp _ q7 w7 h7 ?_)
  rw [e7, mv1, upI_ne (by decide), upI_ne (by decide)]
  exact gr5
theorem s_collect {a : Int} {P : Int → Mem → Prop} (w : RW ΛR r ρ) (g : GD Λ c σ) (h : RB Λ c r th σ ρ) (ha : rng a) (hp : ∀ th' ρ', RW ΛR r ρ' → RB Λ c r th' (if a = 0 then fYoung Λ c σ else fAll Λ c σ).2 ρ' → P (if a = 0 then fYoung Λ c σ else fAll Λ c σ).1 ρ') : K_M_collect l D ΛR ρ r a P := by
  refine w_M_collect w.ly ⟨ha, fun z => ?_, fun z => ?_⟩
  · rw [if_pos z] at hp
    refine s_collectYoung w g h (fun th' ρ' w' h' e => ?_)
    have := hp th' ρ' w' h'
    rw [← e] at this
    exact this
  · rw [if_neg z] at hp
    refine s_collectFull w g h (fun th' ρ' w' h' e => ?_)
    have := hp th' ρ' w' h'
    rw [← e] at this
    exact this
end RF5
