/-! The end of the full collection; the whole of it, on both sides. -/
def zk (q : Mem) : Mem := (q.1, fun kd a k => if kd = 51 ∨ kd = 52 ∨ kd = 53 ∨ kd = 54 then 0 else q.2.1 kd a k, q.2.2)
section RF4
variable {l : Launch} {D : va_G} {Λ ΛR : Lam} {c r : Nat → Nat} {th : Nat → Option Nat} {σ0 σ ρ s1 : Mem}
theorem zk_k {q : Mem} {kd a k : Nat} (h : kd ≠ 51 ∧ kd ≠ 52 ∧ kd ≠ 53 ∧ kd ≠ 54) : (zk q).2.1 kd a k = q.2.1 kd a k := by
  show (if kd = 51 ∨ kd = 52 ∨ kd = 53 ∨ kd = 54 then 0 else q.2.1 kd a k) = _
  exact if_neg (by omega)
theorem zk_0 {q : Mem} {kd a k : Nat} (h : kd = 51 ∨ kd = 52 ∨ kd = 53 ∨ kd = 54) : (zk q).2.1 kd a k = 0 := if_pos h
theorem RW.fin {q : Mem} (w : RW ΛR r ρ) (e1 : q.1 = ρ.1) (eY : ∀ kd a k, kd ≠ 51 → kd ≠ 52 → kd ≠ 53 → kd ≠ 54 → q.2.1 kd a k = ρ.2.1 kd a k) (hr : ∀ kd a k, rng (q.2.1 kd a k)) (hb : ∀ i : Nat, i < 90 → ((q.2.1 51 (r 51) i) = 0 ∨ (q.2.1 51 (r 51) i) = 1) ∧ ((q.2.1 52 (r 52) i) = 0 ∨ (q.2.1 52 (r 52) i) = 1)) (hd : ∀ i : Nat, i < 8 → ((q.2.1 53 (r 53) i) = 0 ∨ (q.2.1 53 (r 53) i) = 1) ∧ ((q.2.1 54 (r 54) i) = 0 ∨ (q.2.1 54 (r 54) i) = 1)) : RW ΛR r q := by
  have ek : ∀ kd a k, kd ≠ 51 ∧ kd ≠ 52 ∧ kd ≠ 53 ∧ kd ≠ 54 → q.2.1 kd a k = ρ.2.1 kd a k := fun kd a k b => eY kd a k b.1 b.2.1 b.2.2.1 b.2.2.2
  refine ⟨w.ly, by rw [e1]; exact w.ri, hr, fun i hi => ?_, fun i hi => ?_, fun i hi => ?_, fun i hi => ?_, fun i hi => ?_, fun i hi => ?_, hb, hd, by rw [e1]; exact w.yo, fun i hi => ?_⟩
  · rw [ek 1 _ _ (by decide)]; exact w.kn i hi
  · rw [ek 3 _ _ (by decide)]; exact w.fd i hi
  · rw [ek 6 _ _ (by decide)]; exact w.pa i hi
  · rw [ek 4 _ _ (by decide)]; exact w.rf i hi
  · rw [ek 7 _ _ (by decide)]; exact w.rt i hi
  · rw [ek 5 _ _ (by decide)]; exact w.ag i hi
  · rw [e1] at hi; rw [ek 8 _ _ (by decide)]; exact w.od i hi
theorem ff_end {x : Cx} {P : Mem → Prop} (hx : X_M_collectFull x) (w : RW ΛR r ρ) (g : GB Λ c σ) (h : RB Λ c r th (upI (upI σ 305 (c 0) 0) 304 (c 0) 0) (zk ρ)) (go : ∀ q, RW ΛR r q → RB Λ c r th (upI (upI σ 305 (c 0) 0) 304 (c 0) (fShow Λ c (upI σ 305 (c 0) 0))) q → q.1 = ρ.1 → P q) : N_M_collectFull_160 x P ΛR ρ r 0 := by
  have hL := w.ly
  have wz : RW ΛR r (zk ρ) := w.fin rfl (fun kd a k k1 k2 k3 k4 => zk_k ⟨k1, k2, k3, k4⟩) (fun kd a k => by
    show rng (if kd = 51 ∨ kd = 52 ∨ kd = 53 ∨ kd = 54 then 0 else ρ.2.1 kd a k)
    split
    · exact rng_0
    · exact w.ry kd a k) (fun i hi => ⟨Or.inl (zk_0 (by decide)), Or.inl (zk_0 (by decide))⟩) (fun i hi => ⟨Or.inl (zk_0 (by decide)), Or.inl (zk_0 (by decide))⟩)
  have gN := g.not0
  have gz : GB Λ c (upI (upI σ 305 (c 0) 0) 304 (c 0) 0) := by
    refine ⟨gN.wf.upT (by decide) (by decide) (by decide) rng_0, fun t ht => ?_, fun a t ha => ?_, fun t ht => ?_, fun t ht => ?_, fun t ht => ?_, ?_, ?_, ?_, ?_⟩
    · rw [upI_ne (by decide)]; exact gN.ad t ht
    · rw [upI_ne (by decide)]; exact gN.ce a t ha
    · rw [upI_ne (f' := 204) (by decide), upI_ne (f' := 205) (by decide), upI_ne (f' := 206) (by decide)]; exact gN.fl t ht
    · rw [upI_ne (f' := 203) (by decide), upI_ne (f' := 204) (by decide), upI_ne (f' := 205) (by decide)]; exact gN.ym t ht
    · rw [upI_ne (f' := 203) (by decide), upI_ne (f' := 204) (by decide), upI_ne (f' := 205) (by decide)]; exact gN.gm t ht
    · rw [upI_at]; exact lo8_0
    · rw [upI_ne (by decide)]; exact gN.n8
    · rw [upI_ne (by decide)]; exact gN.ph
    · rw [upI_ne (by decide)]; exact gN.sw
  have esh : fShow Λ c (upI (upI σ 305 (c 0) 0) 304 (c 0) 0) = fShow Λ c (upI σ 305 (c 0) 0) := by
    refine show_congr (fun a => ?_)
    have rc := ref_congr (Λ := Λ) (c := c) (s := upI (upI σ 305 (c 0) 0) 304 (c 0) 0) (s' := upI σ 305 (c 0) 0) (fun a => rfl) (fun t => upI_ne (by decide)) (fun t k => rfl) a
    rw [rc.1, rc.2]
  have sh : ∀ i : Nat, ((∃ i' k : Nat, i' < 90 ∧ mSh r (zk ρ) i i' k) ↔ cb (fShow Λ c (upI σ 305 (c 0) 0)) i = true) := fun i => by rw [← esh]; exact show_iff wz gz h
  generalize fShow Λ c (upI σ 305 (c 0) 0) = v at *
  generalize hs7 : upI σ 305 (c 0) 0 = s7 at *
  have loop2 : ∀ n i : Nat, i + n = 8 → ∀ q : Mem, q.1 = ρ.1 → (∀ kd a k, kd ≠ 51 → kd ≠ 52 → kd ≠ 53 → kd ≠ 54 → q.2.1 kd a k = ρ.2.1 kd a k) → (∀ kd a k, rng (q.2.1 kd a k)) → (∀ k : Nat, k < 90 → (q.2.1 51 (r 51) k) = 0 ∧ (q.2.1 52 (r 52) k) = 0) → (∀ k : Nat, k < i → ((q.2.1 53 (r 53) k) = 0 ∨ (q.2.1 53 (r 53) k) = 1) ∧ ((q.2.1 53 (r 53) k) = 0 ↔ cb v k = false) ∧ (q.2.1 54 (r 54) k) = 0) → (∀ k : Nat, i ≤ k → (q.2.1 53 (r 53) k) = (ρ.2.1 53 (r 53) k) ∧ (q.2.1 54 (r 54) k) = (ρ.2.1 54 (r 54) k)) → N_M_collectFull_188 x P ΛR q r i := by
    intro n
    induction n with
    | zero =>
      intro i hi q a1 a2 a3 a4 a5 a6
      refine u_M_collectFull_188 hx hL ⟨⟨by omega, by omega⟩, fun _ => ?_, fun z => absurd (by omega) z⟩
      refine go q (w.fin a1 a2 a3 (fun k hk => ⟨Or.inl (a4 k hk).1, Or.inl (a4 k hk).2⟩) (fun k hk => ⟨(a5 k (by omega)).1, Or.inl (a5 k (by omega)).2.2⟩)) ?_ a1
      have ek : ∀ kd a k, kd ≠ 51 ∧ kd ≠ 52 ∧ kd ≠ 53 ∧ kd ≠ 54 → q.2.1 kd a k = (zk ρ).2.1 kd a k := fun kd a k b => by rw [zk_k b]; exact a2 kd a k b.1 b.2.1 b.2.2.1 b.2.2.2
      refine h.chg gz.wf.ty (fun _ _ => rfl) (fun _ _ => rfl) (fun t => by rw [upI_ne (by decide), upI_ne (by decide)]) (fun k => ek _ _ _ (by decide)) (fun k => ek _ _ _ (by decide)) (fun k => ek _ _ _ (by decide)) (fun k => ek _ _ _ (by decide)) (fun k t hk e => ?_) (fun k hk e => ?_) (fun t ht hu => ?_) (fun k hk => ?_) ?_ (fun k hk => ?_)
      · have hs := h.hs hk e
        rw [upI_ne (f' := 203) (by decide), upI_ne (f' := 204) (by decide), upI_ne (f' := 205) (by decide), upI_ne (f' := 202) (by decide)] at hs ⊢
        rw [zk_0 (kd := 51) (by decide), zk_0 (kd := 52) (by decide)] at hs
        rw [ek 1 _ _ (by decide), ek 6 _ _ (by decide), ek 5 _ _ (by decide), (a4 k hk).1, (a4 k hk).2]
        exact hs
      · rw [ek 1 _ _ (by decide), (a4 k hk).1, (a4 k hk).2]
        exact ⟨(h.h0 hk e).1, rfl, rfl⟩
      · rw [upI_ne (by decide)] at hu ⊢; exact hu
      · rw [upI_at, upI_ne (by decide)]
        refine ⟨(a5 k (by omega)).2.1, ?_⟩
        rw [(a5 k (by omega)).2.2, ← hs7, upI_at]
        exact ⟨fun _ => cb_0 k, fun _ => rfl⟩
      · have k9 := h.k9
        rw [upI_ne (by decide), upI_ne (by decide), upI_ne (by decide)] at k9 ⊢
        rw [a1]
        exact k9
      · rw [a1] at hk
        rw [ek 8 _ _ (by decide)]
        exact h.ka k hk
    | succ n ih =>
      intro i hi q a1 a2 a3 a4 a5 a6
      have w54 : RW ΛR r (upY q 54 (r 54) i 0) := by
        refine w.fin a1 (fun kd a k k1 k2 k3 k4 => by rw [upY_nk k4]; exact a2 kd a k k1 k2 k3 k4) (rng_upY a3 rng_0) (fun k hk => ?_) (fun k hk => ⟨?_, ?_⟩)
        · rw [upY_nk (by decide), upY_nk (by decide)]; exact ⟨Or.inl (a4 k hk).1, Or.inl (a4 k hk).2⟩
        · rw [upY_nk (by decide)]
          by_cases y : k < i
          · exact (a5 k y).1
          · rw [(a6 k (by omega)).1]; exact (w.bd k hk).1
        · rw [upY_21]
          split
          · exact Or.inl rfl
          · by_cases y : k < i
            · exact Or.inl (a5 k y).2.2
            · rw [(a6 k (by omega)).2]; exact (w.bd k hk).2
      have ms : ∀ i' k, mSh r (upY q 54 (r 54) i 0) i i' k ↔ mSh r (zk ρ) i i' k := by
        intro i' k
        have e : ∀ kd a k, kd ≠ 51 ∧ kd ≠ 52 ∧ kd ≠ 53 ∧ kd ≠ 54 → (upY q 54 (r 54) i 0).2.1 kd a k = (zk ρ).2.1 kd a k := fun kd a k b => by rw [zk_k b, upY_nk b.2.2.2]; exact a2 kd a k b.1 b.2.1 b.2.2.1 b.2.2.2
        unfold mSh
        rw [e 1 _ _ (by decide), e 3 _ _ (by decide), e 6 _ _ (by decide), e 4 _ _ (by decide), e 1 _ _ (by decide)]
      have step : ∀ d : Int, (d = 0 ∨ d = 1) → (d = 0 ↔ cb v i = false) → N_M_collectFull_188 x P ΛR (upY (upY q 54 (r 54) i 0) 53 (r 53) i d) r (i + 1 : Nat) := by
        intro d hd hv
        refine ih (i + 1) (by omega) _ a1 (fun kd a k k1 k2 k3 k4 => by rw [upY_nk k3, upY_nk k4]; exact a2 kd a k k1 k2 k3 k4) (rng_upY (rng_upY a3 rng_0) (by rcases hd with e | e <;> rw [e] <;> exact ⟨by omega, by omega⟩)) (fun k hk => ?_) (fun k hk => ?_) (fun k hk => ?_)
        · rw [upY_nk (by decide), upY_nk (by decide), upY_nk (by decide), upY_nk (by decide)]; exact a4 k hk
        · rw [upY_nk (kd' := 54) (by decide)]
          by_cases y : k = i
          · rw [y, upY_at, upY_at]; exact ⟨hd, hv, rfl⟩
          · rw [upY_ni y, upY_ni y, upY_nk (kd' := 53) (by decide)]; exact a5 k (by omega)
        · rw [upY_nk (kd' := 54) (by decide), upY_ni (by omega), upY_ni (by omega), upY_nk (kd' := 53) (by decide)]
          exact a6 k (by omega)
      refine u_M_collectFull_188 hx hL ⟨⟨by omega, by omega⟩, fun z => absurd z (by omega), fun _ => ⟨by omega, by omega, ?_⟩⟩
      show K_M_showsYoung (xl x) (xD x) ΛR (upY q 54 (r 54) i 0) r i _
      refine c_M_showsYoung w54 ⟨by omega, by omega⟩ (fun ex => ⟨by omega, by omega, Or.inr rfl, step 1 (Or.inr rfl) ⟨fun y => absurd y (by decide), fun y => ?_⟩⟩) (fun ex => ⟨by omega, by omega, Or.inl rfl, step 0 (Or.inl rfl) ⟨fun _ => ?_, fun _ => rfl⟩⟩)
      · obtain ⟨i', k, hi', hm⟩ := ex
        have := (sh i).mp ⟨i', k, hi', (ms i' k).mp hm⟩
        rw [y] at this
        cases this
      · cases hc : cb v i with
        | false => rfl
        | true =>
          obtain ⟨i', k, hi', hm⟩ := (sh i).mpr hc
          exact absurd ⟨i', k, hi', (ms i' k).mpr hm⟩ ex
  have loop1 : ∀ n i : Nat, i + n = 90 → ∀ q : Mem, q.1 = ρ.1 → (∀ kd a k, kd ≠ 51 → kd ≠ 52 → q.2.1 kd a k = ρ.2.1 kd a k) → (∀ kd a k, rng (q.2.1 kd a k)) → (∀ k : Nat, k < i → (q.2.1 51 (r 51) k) = 0 ∧ (q.2.1 52 (r 52) k) = 0) → N_M_collectFull_160 x P ΛR q r i := by
    intro n
    induction n with
    | zero =>
      intro i hi q a1 a2 a3 a4
      refine u_M_collectFull_160 hx hL ⟨⟨by omega, by omega⟩, fun _ => ?_, fun z => absurd (by omega) z⟩
      exact loop2 8 0 rfl q a1 (fun kd a k k1 k2 _ _ => a2 kd a k k1 k2) a3 (fun k hk => a4 k (by omega)) (fun k hk => by omega) (fun k _ => ⟨a2 _ _ _ (by decide) (by decide), a2 _ _ _ (by decide) (by decide)⟩)
    | succ n ih =>
      intro i hi q a1 a2 a3 a4
      refine u_M_collectFull_160 hx hL ⟨⟨by omega, by omega⟩, fun z => absurd z (by omega), fun _ => ⟨by omega, by omega, by omega, by omega, ih (i + 1) (by omega) _ a1 (fun kd a k k1 k2 => ?_) (rng_upY (rng_upY a3 rng_0) rng_0) (fun k hk => ?_)⟩⟩
      · rw [upY_nk k2, upY_nk k1]; exact a2 kd a k k1 k2
      · rw [upY_nk (kd' := 51) (by decide)]
        show (upY q 51 (r 51) i 0).2.1 51 (r 51) k = 0 ∧ (upY (upY q 51 (r 51) i 0) 52 (r 52) i 0).2.1 52 (r 52) k = 0
        by_cases y : k = i
        · rw [y, upY_at, upY_at]; exact ⟨rfl, rfl⟩
        · rw [upY_ni y, upY_ni y, upY_nk (kd' := 52) (by decide)]; exact a4 k (by omega)
  exact loop1 90 0 rfl ρ rfl (fun _ _ _ _ _ => rfl) w.ry (fun k hk => by omega)
theorem rest_keep (n : Int) (s : Mem) : ∀ i, (∀ f q, f ≠ 101 → (nfold (gRest1 c n) s i).1 f q = s.1 f q) ∧ (∀ kd q k, kd ≠ 101 → (nfold (gRest1 c n) s i).2.2 kd q k = s.2.2 kd q k) := by
  intro i
  induction i with
  | zero => exact ⟨fun _ _ _ => rfl, fun _ _ _ _ => rfl⟩
  | succ i ih =>
    rw [nfold_s]
    generalize nfold (gRest1 c n) s i = u at *
    unfold gRest1
    by_cases h : n ≤ (i : Int)
    · rw [if_pos h]
      cases e : u.2.2 101 (c 3) i with
      | none => exact ih
      | some t =>
        simp only
        exact ⟨fun f q hf => by rw [add_keep c _ _ _ _ _ f q hf]; exact ih.1 f q hf, fun kd q k hk => by rw [add_keepK hk]; exact ih.2 kd q k hk⟩
    · rw [if_neg h]; exact ih
theorem move_keep (s : Mem) : (fMove Λ c s).1 = (fMov1 Λ c s).1 ∧ (∀ f q, f ≠ 101 → (fMove Λ c s).2.1 f q = (fMov1 Λ c s).2.1 f q) ∧ (∀ kd q k, kd ≠ 101 → (fMove Λ c s).2.2.2 kd q k = (fMov1 Λ c s).2.2.2 kd q k) := by
  unfold fMove
  dsimp only
  obtain ⟨a1, a2⟩ := rest_keep (c := c) (fMov1 Λ c s).1 (upI (fMov1 Λ c s).2 101 (c 2) 0) ((s.1 101 (c 2))).toNat
  exact ⟨rfl, fun f q hf => by rw [a1 f q hf, upI_ne hf], fun kd q k hk => a2 kd q k hk⟩
end RF4
