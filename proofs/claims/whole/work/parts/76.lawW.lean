/-! The law's two worlds, and its calls in them. -/
def LF (p : Program) (s : State) (m : MethodId) (c0 : Code) (b L : Nat) (xs : Nat → Int32) : Prop := p.tables.exec = Jvm.exec ∧ c0.code = code ∧ c0.maxLocals = 4 ∧ s.vm.findClass R_law = some m.cls ∧ (∀ w ∈ wl_H_create, w.before #[Value.ref b] s = true) ∧ va_X b L xs s s.heap ∧ b < s.heap.size ∧ NW s ∧ L ≤ 2048
def WD (D : va_G) (s : State) (ΛC : Lam) (σ : Mem) (ΛR : Lam) (ρ : Mem) (H : Heap) (locs : List Loc) : Prop := Hd D CL ΛC σ H ∧ Hd D CL ΛR ρ H ∧ KL D CL ΛC s ∧ KL D CL ΛR s ∧ (∀ q y, ΛC q = some y → s.heap.size ≤ q) ∧ (∀ q y, ΛR q = some y → s.heap.size ≤ q) ∧ va_S (fun q => s.heap.size ≤ q) s.heap H locs ∧ ∀ q y, ΛC q = some y → ΛR q = none
def JV (ΛC : Lam) (c : Nat → Nat) (σ : Mem) (ΛR : Lam) (r : Nat → Nat) (ρ : Mem) : Prop := GD ΛC c σ ∧ FI ΛC ∧ FJ ΛC ∧ RW ΛR r ρ ∧ ∃ th, RB ΛC c r th σ ρ
section LWS
variable {p : Program} {l : Launch} {e : Env} {R : Room} {s : State} {m : MethodId} {args : Array Value} {below : List Frame} {meth : Method} {c0 : Code} {H : Heap} {locs : List Loc} {cells slots mc ms pc : Nat} {Q : State → Prop} {ls : Array Slot} {rest st0 : List Value} {D : va_G} {a : Array Value} {post : PostT} {ΛC ΛR : Lam} {σ ρ : Mem}
theorem Hd.frame {Λ Λ' : Lam} {H1 : Heap} (h : Hd D CL Λ σ H) (hf : ∀ q : Nat, q < H.size → ¬ AL Λ' H.size q → H1[q]? = H[q]?) (dj : ∀ q y, Λ q = some y → Λ' q = none) : Hd D CL Λ σ H1 := by
  intro q y hq
  refine (h q y hq).kept (hf q (h.lt hq) ?_)
  rintro (⟨y', e⟩ | e)
  · rw [dj q y hq] at e; cases e
  · exact Nat.not_le.mpr (h.lt hq) e
theorem callC (w : WD D s ΛC σ ΛR ρ H locs) (hr : va_Run p l e R s m args below meth c0 H locs cells slots mc ms (F0 m pc ls st0) rest (Qx D (AL ΛC H.size) post a) (AL ΛC H.size)) (kk : ∀ (v : Option Value) (Λ1 : Lam) (s1 : Mem) (H1 : Heap) (locs1 : List Loc), post v Λ1 s1 → WD D s Λ1 s1 ΛR ρ H1 locs1 → W p l e R s m args below meth c0 H1 locs1 (cells + mc) (slots + ms) Q (F0 m (pc + 3) ls (v.toList ++ rest))) : W p l e R s m args below meth c0 H locs cells slots Q (F0 m pc ls st0) := by
  obtain ⟨hC, hR, kC, kR, aC, aR, hS, dj⟩ := w
  have dj2 : ∀ q y, ΛR q = some y → ΛC q = none := by
    intro q y h
    cases e : ΛC q with
    | none => rfl
    | some y' => rw [dj q y' e] at h; cases h
  refine r_callL hr hS aC (fun q h => h) (fun v Λ1 s1 H1 locs1 hp hH hK hA' hS' hz hf => kk v Λ1 s1 H1 locs1 hp ⟨hH, hR.frame hf dj2, hK, kR, fun q y h => ?_, aR, hS', fun q y h => ?_⟩)
  · rcases hA' q y h with ⟨y', h'⟩ | h'
    · exact aC q y' h'
    · exact Nat.le_trans hS.1 h'
  · rcases hA' q y h with ⟨y', h'⟩ | h'
    · exact dj q y' h'
    · cases e : ΛR q with
      | none => rfl
      | some y2 => exact absurd (hR.lt e) (Nat.not_lt.mpr h')
theorem callR (w : WD D s ΛC σ ΛR ρ H locs) (hr : va_Run p l e R s m args below meth c0 H locs cells slots mc ms (F0 m pc ls st0) rest (Qx D (AL ΛR H.size) post a) (AL ΛR H.size)) (kk : ∀ (v : Option Value) (Λ1 : Lam) (s1 : Mem) (H1 : Heap) (locs1 : List Loc), post v Λ1 s1 → WD D s ΛC σ Λ1 s1 H1 locs1 → W p l e R s m args below meth c0 H1 locs1 (cells + mc) (slots + ms) Q (F0 m (pc + 3) ls (v.toList ++ rest))) : W p l e R s m args below meth c0 H locs cells slots Q (F0 m pc ls st0) := by
  obtain ⟨hC, hR, kC, kR, aC, aR, hS, dj⟩ := w
  refine r_callL hr hS aR (fun q h => h) (fun v Λ1 s1 H1 locs1 hp hH hK hA' hS' hz hf => kk v Λ1 s1 H1 locs1 hp ⟨hC.frame hf dj, hH, kC, hK, aC, fun q y h => ?_, hS', fun q y h => ?_⟩)
  · rcases hA' q y h with ⟨y', h'⟩ | h'
    · exact aR q y' h'
    · exact Nat.le_trans hS.1 h'
  · cases e : Λ1 q with
    | none => rfl
    | some y2 =>
      rcases hA' q y2 e with ⟨y', h'⟩ | h'
      · rw [dj q y h] at h'; cases h'
      · exact absurd (hC.lt h) (Nat.not_lt.mpr h')
-- the object that was just made stands by itself
theorem cellE_zz {q : Nat} {y : Lay} : cellE (zap σ q) q y = cellE (fun _ _ => 0, fun _ _ _ => 0, fun _ _ _ => none) q y := by
  rcases y with ⟨cA, n, kd⟩ | ⟨ci, tm⟩
  · show Sum.inl (cA, cellA _ _ _ _) = Sum.inl (cA, cellA _ _ _ _)
    unfold cellA
    simp only [zap, if_true]
  · show Sum.inr (ci, fldV _ _ _ _) = Sum.inr (ci, fldV _ _ _ _)
    unfold fldV
    simp only [zap, if_true]
theorem Hd.split {q : Nat} {y : Lay} {Λ : Lam} (h : Hd D CL (upL Λ q y) (zap σ q) H) (hq : Λ q = none) : Hd D CL Λ σ H ∧ Hd D CL (upL (fun _ => none) q y) (fun _ _ => 0, fun _ _ _ => 0, fun _ _ _ => none) H := by
  constructor
  · intro a y' ha
    have hne : a ≠ q := fun e => by rw [e, hq] at ha; cases ha
    have := h a y' (by rw [upL_nn hne]; exact ha)
    rw [cellE_z hne] at this
    exact this
  · intro a y' ha
    by_cases e : a = q
    · rw [e, upL_at] at ha
      cases ha
      rw [e, ← cellE_zz (σ := σ)]
      exact h q y upL_at
    · rw [upL_nn e] at ha; cases ha
end LWS
section LWL
variable {p : Program} {l : Launch} {e : Env} {R : Room} {s : State} {m : MethodId} {args : Array Value} {below : List Frame} {meth : Method} {c0 : Code} {H : Heap} {locs : List Loc} {cells slots pc : Nat} {Q : State → Prop} {ls : Array Slot} {rest : List Value} {b L : Nat} {xs : Nat → Int32} {i j x y : Nat}
theorem law_ld {k : Int} (hF : LF p s m c0 b L xs) (hS : va_S (fun q => s.heap.size ≤ q) s.heap H locs) (hl : lv_has ls 4 [(3, .int (iI i)), (2, .ref x), (1, .ref y), (0, .ref b)]) (d0 : decode code pc = .ok (.aload_n 0, 1)) (d1 : decode code (pc + 1) = .ok (.iload_n 3, 1)) (d2 : decode code (pc + 2) = .ok (.iconst k, 1)) (d3 : decode code (pc + 3) = .ok (.iadd, 1)) (d4 : decode code (pc + 4) = .ok (.iaload, 1)) (hj : (i : Int) + k = (j : Nat)) (hjL : j < L)
    (kk : W p l e R s m args below meth c0 H locs cells slots Q (F0 m (pc + 5) ls (.int (iI (xs j).toInt) :: rest))) : W p l e R s m args below meth c0 H locs cells slots Q (F0 m pc ls rest) := by
  obtain ⟨hex, hb, hml, hown, hts, hX, hbl, hNW, hLL⟩ := hF
  refine lv_aload_n hex hb d0 rfl (lv_at hl 3 rfl) ?_
  refine lv_iload_n hex hb d1 rfl (lv_at hl 0 rfl) ?_
  refine lv_iconst (v := iI k) hex hb d2 rfl ?_
  refine r_iadd hex hb d3 ?_
  rw [hj]
  refine va_sld hex hb hX hbl (Nat.not_le.mpr hbl) hS (iI_in (by omega) (by omega) (by omega)) d4 ?_
  rw [iI_cl ⟨by omega, by omega⟩]
  rw [iI_of] at kk
  exact kk
theorem law_l0 (hF : LF p s m c0 b L xs) (hS : va_S (fun q => s.heap.size ≤ q) s.heap H locs) (hl : lv_has ls 4 [(3, .int (iI i)), (2, .ref x), (1, .ref y), (0, .ref b)]) (d0 : decode code pc = .ok (.aload_n 0, 1)) (d1 : decode code (pc + 1) = .ok (.iload_n 3, 1)) (d4 : decode code (pc + 2) = .ok (.iaload, 1)) (hjL : i < L)
    (kk : W p l e R s m args below meth c0 H locs cells slots Q (F0 m (pc + 3) ls (.int (iI (xs i).toInt) :: rest))) : W p l e R s m args below meth c0 H locs cells slots Q (F0 m pc ls rest) := by
  obtain ⟨hex, hb, hml, hown, hts, hX, hbl, hNW, hLL⟩ := hF
  refine lv_aload_n hex hb d0 rfl (lv_at hl 3 rfl) ?_
  refine lv_iload_n hex hb d1 rfl (lv_at hl 0 rfl) ?_
  refine va_sld hex hb hX hbl (Nat.not_le.mpr hbl) hS (iI_in (by omega) (by omega) (by omega)) d4 ?_
  rw [iI_cl ⟨by omega, by omega⟩]
  rw [iI_of] at kk
  exact kk
theorem law_bool {A : Int} {pc : Nat} (hex : p.tables.exec = Jvm.exec) (hb : c0.code = code) (hA : rng A) (d0 : decode code pc = .ok (.ifCond .eq 7, 3)) (h0 : (pc : Int) + 7 = ((pc + 7 : Nat) : Int)) (d1 : decode code (pc + 3) = .ok (.iconst 1, 1)) (d2 : decode code (pc + 4) = .ok (.goto 4, 3)) (h2 : ((pc + 4 : Nat) : Int) + 4 = ((pc + 8 : Nat) : Int)) (d3 : decode code (pc + 7) = .ok (.iconst 0, 1))
    (kk : W p l e R s m args below meth c0 H locs cells slots Q (F0 m (pc + 8) ls (.int (iI (if A = 0 then 0 else 1)) :: rest))) : W p l e R s m args below meth c0 H locs cells slots Q (F0 m pc ls (.int (iI A) :: rest)) := by
  refine r_if_eq (tgt := pc + 7) hex hb hA d0 h0 (fun hz => ?_) (fun hz => ?_)
  · refine lv_iconst (v := iI 0) hex hb d3 rfl ?_
    rw [if_pos hz] at kk
    exact kk
  · refine lv_iconst (v := iI 1) hex hb d1 rfl ?_
    refine lv_goto (tgt := pc + 8) hex hb d2 h2 ?_
    rw [if_neg hz] at kk
    exact kk
theorem ite_rng {q : Prop} [Decidable q] : rng (if q then (0 : Int) else 1) := by
  split
  · exact rng_0
  · exact ⟨by omega, by omega⟩
end LWL
theorem GD.coll {Λ : Lam} {c : Nat → Nat} {σ : Mem} (g : GD Λ c σ) (a : Int) : GD Λ c (if a = 0 then fYoung Λ c σ else fAll Λ c σ).2 := by
  by_cases h : a = 0
  · rw [if_pos h]; exact g.young
  · rw [if_neg h]; exact g.all
-- what create leaves
def CR (Λ : Lam) (c : Nat → Nat) (σ : Mem) (a1 a2 a3 z : Int) (Λ1 : Lam) (s1 : Mem) : Prop := (¬ (0 ≤ a1 ∧ a1 < 6) ∧ z = -2 ∧ Λ1 = Λ ∧ s1 = σ) ∨ ((0 ≤ a1 ∧ a1 < 6) ∧ ¬ (0 ≤ a2 ∧ a2 ≤ 3) ∧ z = -4 ∧ Λ1 = Λ ∧ s1 = σ) ∨ ((0 ≤ a1 ∧ a1 < 6) ∧ (0 ≤ a2 ∧ a2 ≤ 3) ∧ ¬ fTaken Λ (c 2) (c 3) (crt2 Λ c (1 + a2) σ) + (1 + a2) ≤ 20 ∧ z = -5 ∧ Λ1 = Λ ∧ s1 = crt2 Λ c (1 + a2) σ) ∨ ((0 ≤ a1 ∧ a1 < 6) ∧ (0 ≤ a2 ∧ a2 ≤ 3) ∧ fTaken Λ (c 2) (c 3) (crt2 Λ c (1 + a2) σ) + (1 + a2) ≤ 20 ∧ z = 0 ∧ ∃ (q1 q2 : Nat) (cA : ClassId), Λ q1 = none ∧ Λ q2 = none ∧ q2 ≠ q1 ∧ Λ1 = grow Λ q1 q2 a2.toNat cA ∧ s1 = gNew c a1.toNat q1 q2 a3 (crt2 Λ c (1 + a2) σ))
section LWC
variable {l : Launch} {D : va_G} {Λ ΛR Λ1 : Lam} {c r : Nat → Nat} {th : Nat → Option Nat} {σ ρ s1 : Mem} {a1 a2 a3 z : Int}
theorem CR.keep (h : CR Λ c σ a1 a2 a3 z Λ1 s1) (g : GD Λ c σ) (fi : FI Λ) (fj : FJ Λ) (h3 : rng a3) : GD Λ1 c s1 ∧ FI Λ1 ∧ FJ Λ1 := by
  rcases h with ⟨_, _, e1, e2⟩ | ⟨_, _, _, e1, e2⟩ | ⟨_, _, _, _, e1, e2⟩ | ⟨h1, h2, hr, _, q1, q2, cA, n1, n2, hq, e1, e2⟩
  · rw [e1, e2]; exact ⟨g, fi, fj⟩
  · rw [e1, e2]; exact ⟨g, fi, fj⟩
  · rw [e1, e2]; exact ⟨g.crtB, fi, fj⟩
  · rw [e1, e2]
    exact ⟨g.crtB.born fj n1 n2 hq (by omega) h3 (by rw [show ((a2.toNat : Nat) : Int) = a2 by omega]; exact hr), grow_FI fi fj n1 n2 hq (by omega), grow_FJ fj n1 n2 hq (by omega)⟩
theorem CR.ref (h : CR Λ c σ a1 a2 a3 z Λ1 s1) (w : RW ΛR r ρ) (g : GD Λ c σ) (fj : FJ Λ) (rb : RB Λ c r th σ ρ) (h1 : rng a1) (h2 : rng a2) (h3 : rng a3) : K_M_create l D ΛR ρ r a1 a2 a3 (fun z2 q => z2 = z ∧ RW ΛR r q ∧ ∃ th2, RB Λ1 c r th2 s1 q) := by
  refine s_create w g fj rb h1 h2 h3 (fun y1 => ?_) (fun y1 y2 => ?_) (fun y1 y2 y3 th2 q w2 b2 => ?_) (fun y1 y2 y3 q w2 b2 => ?_)
  · rcases h with ⟨_, hz, e1, e2⟩ | ⟨x1, _⟩ | ⟨x1, _⟩ | ⟨x1, _⟩
    · rw [e1, e2]; exact ⟨hz.symm, w, th, rb⟩
    · exact absurd x1 y1
    · exact absurd x1 y1
    · exact absurd x1 y1
  · rcases h with ⟨x1, _⟩ | ⟨_, _, hz, e1, e2⟩ | ⟨_, x2, _⟩ | ⟨_, x2, _⟩
    · exact absurd y1 x1
    · rw [e1, e2]; exact ⟨hz.symm, w, th, rb⟩
    · exact absurd x2 y2
    · exact absurd x2 y2
  · rcases h with ⟨x1, _⟩ | ⟨_, x2, _⟩ | ⟨_, _, _, hz, e1, e2⟩ | ⟨_, _, x3, _⟩
    · exact absurd y1 x1
    · exact absurd y2 x2
    · rw [e1, e2]; exact ⟨hz.symm, w2, th2, b2⟩
    · exact absurd x3 y3
  · rcases h with ⟨x1, _⟩ | ⟨_, x2, _⟩ | ⟨_, _, x3, _⟩ | ⟨_, _, _, hz, q1, q2, cA, n1, n2, hq, e1, e2⟩
    · exact absurd y1 x1
    · exact absurd y2 x2
    · exact absurd y3 x3
    · rw [e1, e2]
      obtain ⟨th2, b3⟩ := b2 q1 q2 cA n1 n2 hq
      exact ⟨hz.symm, w2, th2, b3⟩
end LWC
