/-! Cleaning the cards; the whole young collection, on both sides. -/
section RY7
variable {l : Launch} {D : va_G} {Λ ΛR : Lam} {c r : Nat → Nat} {th : Nat → Option Nat} {σ0 σ ρ : Mem}
-- only cards change on both sides
theorem RW.cds {ρ' : Mem} (w : RW ΛR r ρ) (e1 : ρ'.1 = ρ.1) (eY : ∀ kd q k, kd ≠ 53 → kd ≠ 54 → ρ'.2.1 kd q k = ρ.2.1 kd q k) (hr : ∀ kd q k, rng (ρ'.2.1 kd q k)) (hb : ∀ i : Nat, i < 8 → ((ρ'.2.1 53 (r 53) i) = 0 ∨ (ρ'.2.1 53 (r 53) i) = 1) ∧ ((ρ'.2.1 54 (r 54) i) = 0 ∨ (ρ'.2.1 54 (r 54) i) = 1)) : RW ΛR r ρ' := by
  refine ⟨w.ly, by rw [e1]; exact w.ri, hr, fun i hi => ?_, fun i hi => ?_, fun i hi => ?_, fun i hi => ?_, fun i hi => ?_, fun i hi => ?_, fun i hi => ?_, hb, by rw [e1]; exact w.yo, fun i hi => ?_⟩
  · rw [eY _ _ _ (by decide) (by decide)]; exact w.kn i hi
  · rw [eY _ _ _ (by decide) (by decide)]; exact w.fd i hi
  · rw [eY _ _ _ (by decide) (by decide)]; exact w.pa i hi
  · rw [eY _ _ _ (by decide) (by decide)]; exact w.rf i hi
  · rw [eY _ _ _ (by decide) (by decide)]; exact w.rt i hi
  · rw [eY _ _ _ (by decide) (by decide)]; exact w.ag i hi
  · rw [eY _ _ _ (by decide) (by decide), eY _ _ _ (by decide) (by decide)]; exact w.bm i hi
  · rw [e1] at hi; rw [eY _ _ _ (by decide) (by decide)]; exact w.od i hi
theorem RB.cds {s ρ' : Mem} (h : RB Λ c r th σ ρ) (ty : ∀ kd q k t, σ.2.2 kd q k = some t → isT Λ t) (kx : s.2 = σ.2) (ki : ∀ f q, ¬ (f = 304 ∧ q = c 0) → ¬ (f = 305 ∧ q = c 0) → s.1 f q = σ.1 f q) (e1 : ρ'.1 = ρ.1) (eY : ∀ kd q k, kd ≠ 53 → kd ≠ 54 → ρ'.2.1 kd q k = ρ.2.1 kd q k) (h8 : ∀ i : Nat, i < 8 → (((ρ'.2.1 53 (r 53) i) = 0 ↔ cb ((s.1 304 (c 0))) i = false) ∧ ((ρ'.2.1 54 (r 54) i) = 0 ↔ cb ((s.1 305 (c 0))) i = false))) : RB Λ c r th s ρ' := by
  have ek : ∀ kd q k, kd ≠ 53 ∧ kd ≠ 54 → ρ'.2.1 kd q k = ρ.2.1 kd q k := fun kd q k a => eY kd q k a.1 a.2
  have ez : ∀ f q, f ≠ 304 ∧ f ≠ 305 → s.1 f q = σ.1 f q := fun f q a => ki f q (fun z => a.1 z.1) (fun z => a.2 z.1)
  refine h.chg ty (fun q k => by rw [kx]) (fun q k => by rw [kx]) (fun t => ez _ _ (by decide)) (fun _ => ek _ _ _ (by decide)) (fun _ => ek _ _ _ (by decide)) (fun _ => ek _ _ _ (by decide)) (fun _ => ek _ _ _ (by decide)) (fun i t hi e => ?_) (fun i hi e => ?_) (fun t ht hu => by rw [ez 203 t (by decide)]; exact hu) h8 ?_ (fun i hi => ?_)
  · rw [ek 1 _ _ (by decide), ek 6 _ _ (by decide), ek 51 _ _ (by decide), ek 52 _ _ (by decide), ek 5 _ _ (by decide), ez 203 _ (by decide), ez 204 _ (by decide), ez 205 _ (by decide), ez 202 _ (by decide)]
    exact h.hs hi e
  · rw [ek 1 _ _ (by decide), ek 51 _ _ (by decide), ek 52 _ _ (by decide)]; exact h.h0 hi e
  · rw [e1, ez 306 _ (by decide), ez 307 _ (by decide), ez 101 _ (by decide)]; exact h.k9
  · rw [e1] at hi
    rw [ek 8 _ _ (by decide), kx]; exact h.ka i hi
theorem yg_clean {x : Cx} {P : Mem → Prop} (hx : X_M_collectYoung x) (w : RW ΛR r ρ) (g : GB Λ c σ) (h : RB Λ c r th σ ρ) (go : ∀ q, RW ΛR r q → RB Λ c r th (gClean Λ c σ) q → q.1 = ρ.1 → P q) : N_M_collectYoung_206 x P ΛR ρ r 0 := by
  have hL := w.ly
  have sh : ∀ i : Nat, i < 8 → ((∃ i' k : Nat, i' < 90 ∧ mSh r ρ i i' k) ↔ cb (fShow Λ c σ) i = true) := fun i _ => show_iff w g h
  obtain ⟨c1, c2, c3, c4⟩ := clean_is (Λ := Λ) (c := c) σ
  have e9 := h.k9.1
  have loop : ∀ n i : Nat, i + n = 8 → ∀ q : Mem, q.1 = ρ.1 → (∀ kd q' k, kd ≠ 53 → kd ≠ 54 → q.2.1 kd q' k = ρ.2.1 kd q' k) → (∀ kd q' k, rng (q.2.1 kd q' k)) → (∀ k : Nat, k < i → ((q.2.1 53 (r 53) k) = 0 ∨ (q.2.1 53 (r 53) k) = 1) ∧ ((q.2.1 54 (r 54) k) = 0 ∨ (q.2.1 54 (r 54) k) = 1) ∧ ((q.2.1 53 (r 53) k) = 0 ↔ cb (((gClean Λ c σ).1 304 (c 0))) k = false) ∧ ((q.2.1 54 (r 54) k) = 0 ↔ cb (((gClean Λ c σ).1 305 (c 0))) k = false)) → (∀ k : Nat, i ≤ k → (q.2.1 53 (r 53) k) = (ρ.2.1 53 (r 53) k) ∧ (q.2.1 54 (r 54) k) = (ρ.2.1 54 (r 54) k)) → N_M_collectYoung_206 x P ΛR q r i := by
    intro n
    induction n with
    | zero =>
      intro i hi q a1 a2 a3 a4 a5
      refine u_M_collectYoung_206 hx hL ⟨⟨by omega, by omega⟩, fun _ => ?_, fun z => absurd (by omega) z⟩
      exact go q (w.cds a1 a2 a3 (fun k hk => ⟨(a4 k (by omega)).1, (a4 k (by omega)).2.1⟩)) (h.cds g.wf.ty c1 c2 a1 a2 (fun k hk => (a4 k (by omega)).2.2)) a1
    | succ n ih =>
      intro i hi q a1 a2 a3 a4 a5
      obtain ⟨eD, eN⟩ := a5 i (Nat.le_refl _)
      obtain ⟨k8d, k8n⟩ := h.k8 i (by omega)
      have c3i := c3 i (by omega)
      have c4i := c4 i (by omega)
      have wq : RW ΛR r q := w.cds a1 a2 a3 (fun k hk => by
        by_cases y : k < i
        · exact ⟨(a4 k y).1, (a4 k y).2.1⟩
        · rw [(a5 k (by omega)).1, (a5 k (by omega)).2]; exact w.bd k hk)
      have fin : ∀ d m : Int, (d = 0 ∨ d = 1) → (m = 0 ∨ m = 1) → (d = 0 ↔ cb (((gClean Λ c σ).1 304 (c 0))) i = false) → (m = 0 ↔ cb (((gClean Λ c σ).1 305 (c 0))) i = false) → N_M_collectYoung_206 x P ΛR (upY (upY q 54 (r 54) i m) 53 (r 53) i d) r (i + 1 : Nat) := by
        intro d m hd hm ed em
        refine ih (i + 1) (by omega) _ a1 (fun kd q' k k1 k2 => ?_) (rng_upY (rng_upY a3 (by rcases hm with e | e <;> rw [e] <;> exact ⟨by omega, by omega⟩)) (by rcases hd with e | e <;> rw [e] <;> exact ⟨by omega, by omega⟩)) (fun k hk => ?_) (fun k hk => ?_)
        · rw [upY_nk k1, upY_nk k2]; exact a2 kd q' k k1 k2
        · by_cases y : k = i
          · rw [y, upY_at, upY_nk (kd' := 54) (by decide), upY_at]
            exact ⟨hd, hm, ed, em⟩
          · rw [upY_ni y, upY_nk (kd' := 53) (by decide), upY_nk (kd' := 54) (by decide), upY_ni y]
            exact a4 k (by omega)
        · rw [upY_ni (by omega), upY_nk (kd' := 53) (by decide), upY_nk (kd' := 54) (by decide), upY_ni (by omega)]
          exact a5 k (by omega)
      -- with clean known
      have go266 : ∀ s0 m : Int, (s0 = 0 ∨ s0 = 1) → (m = 0 ∨ m = 1) → (s0 = 0 ↔ (cb ((σ.1 304 (c 0))) i = false ∨ cb (fShow Λ c σ) i = true)) → (m = 0 ↔ cb (((gClean Λ c σ).1 305 (c 0))) i = false) → N_M_collectYoung_266 x P ΛR q r i s0 i m := by
        intro s0 m h0 hm es em
        have e53 : (upY q 54 (r 54) i m).2.1 53 (r 53) i = (ρ.2.1 53 (r 53) i) := by rw [upY_nk (by decide)]; exact eD
        refine u_M_collectYoung_266 hx hL ⟨by omega, by omega, hm, by omega, by omega, ?_, fun z => ⟨by omega, by omega, fin 0 m (Or.inl rfl) hm ?_ em⟩, fun z => ⟨by rcases h0 with e | e <;> rw [e] <;> exact ⟨by omega, by omega⟩, fun z2 => ⟨by omega, by omega, fin 0 m (Or.inl rfl) hm ?_ em⟩, fun z2 => ⟨by omega, by omega, fin 1 m (Or.inr rfl) hm ?_ em⟩⟩⟩
        · show rng ((upY q 54 (r 54) i m).2.1 53 (r 53) i)
          rw [e53]; exact w.ry _ _ _
        · have z : (upY q 54 (r 54) i m).2.1 53 (r 53) i = 0 := z
          rw [e53] at z
          rw [c3i, k8d.mp z]
          exact ⟨fun _ => rfl, fun _ => rfl⟩
        · rw [c3i]
          have : ¬ (cb ((σ.1 304 (c 0))) i = false ∨ cb (fShow Λ c σ) i = true) := fun y => z2 (es.mpr y)
          cases h1 : cb (fShow Λ c σ) i with
          | true => exact absurd (Or.inr h1) this
          | false => simp
        · have z : ¬ (upY q 54 (r 54) i m).2.1 53 (r 53) i = 0 := z
          rw [e53] at z
          rw [c3i]
          have hd : cb ((σ.1 304 (c 0))) i = true := by
            cases h1 : cb ((σ.1 304 (c 0))) i with
            | true => rfl
            | false => exact absurd (k8d.mpr h1) z
          rcases es.mp z2 with y | y
          · rw [hd] at y; cases y
          · rw [hd, y]; simp
      have go234 : ∀ s0 : Int, (s0 = 0 ∨ s0 = 1) → (s0 = 0 ↔ (cb ((σ.1 304 (c 0))) i = false ∨ cb (fShow Λ c σ) i = true)) → N_M_collectYoung_234 x P ΛR q r i s0 := by
        intro s0 h0 es
        have e411 : (q.1 411 (r 0)) = (σ.1 306 (c 0)) := by rw [a1]; exact e9
        have cl : ¬ s0 = 0 → cb ((σ.1 304 (c 0))) i = true ∧ cb (fShow Λ c σ) i = false := by
          intro z
          constructor
          · cases h1 : cb ((σ.1 304 (c 0))) i with
            | true => rfl
            | false => exact absurd (es.mpr (Or.inl h1)) z
          · cases h1 : cb (fShow Λ c σ) i with
            | false => rfl
            | true => exact absurd (es.mpr (Or.inr h1)) z
        refine u_M_collectYoung_234 hx hL ⟨by omega, by omega, a3 _ _ _, fun z => go266 s0 1 h0 (Or.inr rfl) es ?_, fun z => ⟨by rcases h0 with e | e <;> rw [e] <;> exact ⟨by omega, by omega⟩, fun z2 => u_M_collectYoung_265 hx hL (go266 s0 0 h0 (Or.inl rfl) es ?_), fun z2 => ⟨wq.ri _ _, fun z3 => u_M_collectYoung_265 hx hL (go266 s0 0 h0 (Or.inl rfl) es ?_), fun z3 => go266 s0 1 h0 (Or.inr rfl) es ?_⟩⟩⟩
        · have z : ¬ (q.2.1 54 (r 54) i) = 0 := z
          rw [eN] at z
          have hn : cb ((σ.1 305 (c 0))) i = true := by
            cases h1 : cb ((σ.1 305 (c 0))) i with
            | true => rfl
            | false => exact absurd (k8n.mpr h1) z
          rw [c4i, hn]
          simp
        · have z : (q.2.1 54 (r 54) i) = 0 := z
          rw [eN] at z
          rw [c4i, k8n.mp z]
          rcases es.mp z2 with y | y <;> rw [y] <;> simp
        · have z : (q.2.1 54 (r 54) i) = 0 := z
          have z3 : ¬ (q.1 411 (r 0)) = 1 := z3
          rw [eN] at z
          rw [e411] at z3
          rw [c4i, k8n.mp z, decide_eq_false z3]
          simp
        · have z3 : (q.1 411 (r 0)) = 1 := z3
          rw [e411] at z3
          obtain ⟨y1, y2⟩ := cl z2
          rw [c4i, decide_eq_true z3, y1, y2]
          simp
      have mq : ∀ i' k, mSh r q i i' k ↔ mSh r ρ i i' k := by
        intro i' k
        unfold mSh
        rw [a2 1 _ _ (by decide) (by decide), a2 3 _ _ (by decide) (by decide), a2 6 _ _ (by decide) (by decide), a2 4 _ _ (by decide) (by decide), a2 1 _ _ (by decide) (by decide)]
      have shi := sh i (by omega)
      refine u_M_collectYoung_206 hx hL ⟨⟨by omega, by omega⟩, fun z => absurd z (by omega), fun _ => ⟨by omega, by omega, a3 _ _ _, fun z => u_M_collectYoung_233 hx hL (go234 0 (Or.inl rfl) ⟨fun _ => Or.inl ?_, fun _ => rfl⟩), fun z => c_M_showsYoung wq ⟨by omega, by omega⟩ (fun ex => ⟨rng_1, fun _ => u_M_collectYoung_233 hx hL (go234 0 (Or.inl rfl) ⟨fun _ => Or.inr ?_, fun _ => rfl⟩), fun y => absurd y (by decide)⟩) (fun ex => ⟨rng_0, fun y => absurd rfl y, fun _ => go234 1 (Or.inr rfl) ⟨fun y => absurd y (by decide), fun y => ?_⟩⟩)⟩⟩
      · have z : (q.2.1 53 (r 53) i) = 0 := z
        rw [eD] at z
        exact k8d.mp z
      · obtain ⟨i', k, hi', hm⟩ := ex
        exact shi.mp ⟨i', k, hi', (mq i' k).mp hm⟩
      · exfalso
        have z : ¬ (q.2.1 53 (r 53) i) = 0 := z
        rw [eD] at z
        rcases y with y | y
        · exact z (k8d.mpr y)
        · obtain ⟨i', k, hi', hm⟩ := shi.mpr y
          exact ex ⟨i', k, hi', (mq i' k).mpr hm⟩
  exact loop 8 0 rfl ρ rfl (fun _ _ _ _ _ => rfl) w.ry (fun k hk => by omega) (fun _ _ => ⟨rfl, rfl⟩)
theorem GB.uncl {s : Mem} (g : GB Λ c (gClean Λ c s)) (wf : WF Λ c s) (hd : lo8 ((s.1 304 (c 0)))) (hn : lo8 ((s.1 305 (c 0)))) : GB Λ c s := by
  obtain ⟨c1, c2, _, _⟩ := clean_is (Λ := Λ) (c := c) s
  generalize gClean Λ c s = s5 at *
  have ez : ∀ f q, f ≠ 304 ∧ f ≠ 305 → s.1 f q = s5.1 f q := fun f q a => (c2 f q (fun z => a.1 z.1) (fun z => a.2 z.1)).symm
  refine ⟨wf, fun t ht => ?_, fun a t ha => ?_, fun t ht => ?_, fun t ht => ?_, fun t ht => ?_, hd, hn, ?_, ?_⟩
  · rw [ez 203 _ (by decide)]; exact g.ad t ht
  · rw [ez 203 _ (by decide), ← c1]; exact g.ce a t ha
  · rw [ez 204 _ (by decide), ez 205 _ (by decide), ez 206 _ (by decide)]; exact g.fl t ht
  · rw [ez 203 _ (by decide), ez 204 _ (by decide), ez 205 _ (by decide)]; exact g.ym t ht
  · rw [ez 203 _ (by decide), ez 204 _ (by decide), ez 205 _ (by decide)]; exact g.gm t ht
  · rw [ez 306 _ (by decide)]; exact g.ph
  · rw [ez 307 _ (by decide)]; exact g.sw
theorem s_collectYoung {P : Mem → Prop} (w : RW ΛR r ρ) (g : GD Λ c σ) (h : RB Λ c r th σ ρ) (hp : ∀ th' ρ', RW ΛR r ρ' → RB Λ c r th' (fYoung Λ c σ).2 ρ' → (ρ'.1 421 (r 0)) = (fYoung Λ c σ).1 → P ρ') : K_M_collectYoung l D ΛR ρ r P := by
  refine e_M_collectYoung (fun x hl hD hx => ?_)
  subst hl; subst hD
  have hL := w.ly
  obtain ⟨ya, hreach⟩ := y_all g
  have g5 := g.yz.gb
  have hwr := g.gb.wf.reachAllY
  have y1 := g.gb.wf.y1
  have few := ya.few g.yl
  unfold fYoung fYng1 at hp g5
  dsimp only at hp g5
  refine u_M_collectYoung_0 hx hL (c_M_prepare w (fun q0 p => yg_reach hx g (RX.start w g h p) (fun q rx => ?_)))
  generalize gReachAllY Λ c σ = s1 at *
  refine yg_drop hx g rx hreach (fun th' q2 w2 h2 b1 b2 b3 => ?_)
  obtain ⟨dk1, dk2⟩ := drop_keep' c s1
  have hw2 := hwr.drop
  have n26 := hwr.ly.ne26
  have n37 := hwr.ly.ne37
  have e6 : ((gDrop c s1).1 101 (c 6)) = (s1.1 101 (c 6)) := dk2 _ _ (by decide)
  have q0 := hwr.q0
  have rd : ∀ i j : Nat, (i : Int) < ((gDrop c s1).1 101 (c 6)) → (j : Int) < ((gDrop c s1).1 101 (c 6)) → (gDrop c s1).2.2 101 (c 7) i = (gDrop c s1).2.2 101 (c 7) j → i = j := by
    intro i j hi hj e
    rw [e6] at hi hj
    rw [dk1] at e
    exact ya.rd i j hi hj e
  -- the things of the row keep their places when the others go
  have adr : ∀ i : Nat, (i : Int) < (s1.1 101 (c 6)) → gN1 c (gDrop c s1) i = gN1 c s1 i := by
    intro i hi
    unfold gN1
    rw [dk1]
    cases e : s1.2.2 101 (c 7) i with
    | none => rfl
    | some t =>
      simp only
      have hT := hwr.ty _ _ _ _ e
      have hr := (ya.rl t hT).mpr ⟨i, hi, e⟩
      rw [(drop_is c s1).2 t (fun z => by have := z.2; omega)]
  have cnt : (fRenew c (gDrop c s1)).1 = gN c s1 := by
    unfold fRenew gN
    rw [e6, (renew_inv hwr.ly (gDrop c s1) ((s1.1 101 (c 6))).toNat (by omega)).2.2.2]
    exact sumN_congr (fun i hi => adr i (by omega))
  have grn : (q2.1 421 (r 0)) = gN c s1 := by rw [b1]; exact rx.gr
  generalize gDrop c s1 = s2 at *
  have rc2 : ((upI q2 413 (r 0) 0).1 415 (r 0)) = (s2.1 101 (c 6)) := by rw [upI_ne (by decide), b1, e6]; exact rx.rc
  have w2' : RW ΛR r (upI q2 413 (r 0) 0) := by
    refine ⟨w2.ly, rng_upI w2.ri rng_0, w2.ry, w2.kn, w2.fd, w2.pa, w2.rf, w2.rt, w2.ag, w2.bm, w2.bd, ?_, fun i hi => ?_⟩
    · rw [upI_at]; omega
    · rw [upI_at] at hi; omega
  obtain ⟨n1, n2, n3, n4⟩ := renew_is hw2 (by omega) rd
  have hw3 := hw2.renew
  refine yg_renew hx w2' hwr.ly h2 rc2 ⟨by omega, by omega⟩ (fun i hi => ?_) (fun q3 w3 h3 d1 => ?_)
  · rw [e6] at hi
    obtain ⟨j, t, hj, f1, f2, f3⟩ := b3 i hi
    exact ⟨j, t, hj, f1, f2, by rw [dk1]; exact f3⟩
  · have g3 : (q3.1 421 (r 0)) = gN c s1 := by rw [d1 _ _ (by decide), upI_ne (by decide)]; exact grn
    generalize fRenew c s2 = u3 at *
    obtain ⟨l1, l2, l3, l4, l5⟩ := let_is (c 6) (c 7) u3.2
    have hw4 := hw3.letGo
    generalize gLetGo (c 6) (c 7) u3.2 = s4 at *
    have h4 : RB Λ c r th' s4 q3 := h3.eqA hw3.ty (fun kd q k _ _ => by rw [l3]) (fun f q _ f2 f3 => l4 f q f2 f3) (fun t _ => l4 _ _ (by decide) (by omega)) n37 n26
    have eD : (s4.1 304 (c 0)) = (s1.1 304 (c 0)) := by rw [l4 _ _ (by decide) (by omega), n1 _ _ (by omega), dk2 _ _ (by decide)]
    have eN : (s4.1 305 (c 0)) = (s1.1 305 (c 0)) := by rw [l4 _ _ (by decide) (by omega), n1 _ _ (by omega), dk2 _ _ (by decide)]
    have g4 : GB Λ c s4 := g5.uncl hw4 (by rw [eD]; exact ya.gb.d8) (by rw [eN]; exact ya.gb.n8)
    refine yg_clean hx w3 g4 h4 (fun q4 w4 h5 f1 => hp th' q4 w4 h5 ?_)
    rw [f1, cnt]; exact g3
end RY7
