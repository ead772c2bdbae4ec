section RWA
variable {p : Program} {l : Launch} {e : Env} {R : Room} {s : State} {m : MethodId} {args : Array Value} {below : List Frame} {meth : Method} {c : Code} {H : Heap} {locs : List Loc} {cells slots : Nat} {Q : State → Prop}
variable {cc : ByteArray} {pc : Nat} {ls : Array Slot} {rest : List Value} {D : va_G} {cl : List vw_C} {A : Nat → Prop} {a : Nat} {Λ : Lam} {σ : Mem} {H0 : Heap}
theorem Hd.fresh (hP : Hd D cl Λ σ H) : Λ H.size = none := by
  cases h : Λ H.size with
  | none => rfl
  | some y => exact absurd (hP.lt h) (Nat.lt_irrefl _)
theorem KL.upO (hK : KL D cl Λ s) {q ci : Nat} {tm : List (Option (Option Nat))} : KL D cl (upL Λ q (.inr (ci, tm))) s := by
  refine ⟨hK.1, fun q' cA n kd h => ?_⟩
  unfold upL at h
  by_cases e : q' = q
  · rw [if_pos e] at h; cases h
  · rw [if_neg e] at h; exact hK.2 q' cA n kd h
theorem KL.upA (hK : KL D cl Λ s) {q n kd : Nat} {cA : ClassId} (h1 : ArrOfT s cA (tyK kd)) (h2 : va_RA s cA (tyK kd)) : KL D cl (upL Λ q (.inl (cA, n, kd))) s := by
  refine ⟨hK.1, fun q' cA' n' kd' h => ?_⟩
  unfold upL at h
  by_cases e : q' = q
  · rw [if_pos e] at h; cases h; exact ⟨h1, h2⟩
  · rw [if_neg e] at h; exact hK.2 q' cA' n' kd' h
theorem upL_A (hA : ∀ q y, Λ q = some y → A q) {q : Nat} {y : Lay} (hq : A q) : ∀ q' y', upL Λ q y q' = some y' → A q' := by
  intro q' y' h
  unfold upL at h
  by_cases e : q' = q
  · rw [e]; exact hq
  · rw [if_neg e] at h; exact hA q' y' h
theorem r_new (hexec : p.tables.exec = Jvm.exec) (hb : c.code = cc) {own C : String} {T : u_T} {N ci index : Nat} {tm : List (Option (Option Nat))} {Ts : List Cond} (hts : ∀ w ∈ Ts, w.before args s = true) (hin : ∀ w ∈ u_ws C T N, w ∈ Ts) (ty : Nat → FieldType) (hty : ∀ k, k < N → parseFieldDescriptor (T k).2.2.1 = some (ty k)) (hown : s.vm.findClass own = some m.cls) (hcl : (Cond.classLink own index C).before args s = true) (hinst : (Cond.instantiable C N).before args s = true) (hini : (Cond.initialized C).before args s = true)
    (hK : KL D cl Λ s) (hP : Hd D cl Λ σ H) (hA : ∀ q y, Λ q = some y → A q) (hS : va_S A H0 H locs) (hAs : ∀ q : Nat, H0.size ≤ q → A q) (hc : cl[ci]? = some (C, T, N)) (hfs : ∀ q j, j < N → defaultValue (ty j) = vp_V (fldV (zap σ q) ci q tm) j) (hcells : cells + 1 ≤ R.cells) (hslots : slots + N ≤ R.slots) (hdg : decode cc pc = .ok (.new index, 3))
    (kk : ∀ (q : Nat) (H1 : Heap), Λ q = none → Hd D cl (upL Λ q (.inr (ci, tm))) (zap σ q) H1 → KL D cl (upL Λ q (.inr (ci, tm))) s → (∀ q' y', upL Λ q (.inr (ci, tm)) q' = some y' → A q') → va_S A H0 H1 locs →
      W p l e R s m args below meth c H1 locs (cells + 1) (slots + N) Q (F0 m (pc + 3) ls (.ref q :: rest))) : W p l e R s m args below meth c H locs cells slots Q (F0 m pc ls rest) := by
  have hKn := hK.1.1 ci _ hc
  refine W.newcK hexec hb hown hcl hinst hini rfl hdg hcells hslots hKn.2.1 rfl fun H1 kC hkC e1 z1 o1 => ?_
  refine kk H.size H1 hP.fresh (hP.push ?_ o1) hK.upO (upL_A hA (hAs _ hS.1)) ⟨Nat.le_trans hS.1 (by omega), fun x h1 h2 => (o1 x (Nat.lt_of_lt_of_le h1 hS.1)).trans (hS.2.1 x h1 h2), hS.2.2⟩
  exact ⟨_, hc, (u_born ty hts hin hKn hkC e1 hty).to (hfs H.size)⟩
theorem r_newa (hexec : p.tables.exec = Jvm.exec) (hb : c.code = cc) {atype : ArrayType} (harr : (Cond.arrayClass (newarray.typeOf atype)).before args s = true) (kd : Nat) (hkd : kd < 100) (hty : newarray.typeOf atype = tyK kd) (hdv : defaultValue (tyK kd) = .int 0) (hK : KL D cl Λ s) (hP : Hd D cl Λ σ H) (hA : ∀ q y, Λ q = some y → A q) (hS : va_S A H0 H locs) (hAs : ∀ q : Nat, H0.size ≤ q → A q)
    {n : Int} {N : Nat} (hN : n = N) (hN2 : N < 2147483648) (hbytes : N * componentBytes (tyK kd) ≤ 536870912) (hcells : cells + 1 ≤ R.cells) (hslots : slots + N ≤ R.slots) (hdg : decode cc pc = .ok (.newarray atype, 2))
    (kk : ∀ (q : Nat) (cA : ClassId) (H1 : Heap), Λ q = none → Hd D cl (upL Λ q (.inl (cA, N, kd))) (zap σ q) H1 → KL D cl (upL Λ q (.inl (cA, N, kd))) s → (∀ q' y', upL Λ q (.inl (cA, N, kd)) q' = some y' → A q') → va_S A H0 H1 locs →
      W p l e R s m args below meth c H1 locs (cells + 1) (slots + N) Q (F0 m (pc + 2) ls (.ref q :: rest))) : W p l e R s m args below meth c H locs cells slots Q (F0 m pc ls (.int (iI n) :: rest)) := by
  subst hN
  have hr : rng (N : Int) := ⟨by omega, by omega⟩
  refine va_newaK hexec hb harr rfl hdg rfl (N := N) (fun h => by have := (iI_lt0 hr).mp h; omega) (by rw [iI_cl hr]; rfl) (by rw [hty]; exact hbytes) hcells hslots rfl fun H1 cA e1 z1 o1 hAr hNm => ?_
  rw [hty] at e1 hAr hNm
  refine kk H.size cA H1 hP.fresh (hP.push ?_ o1) (hK.upA hAr ?_) (upL_A hA (hAs _ hS.1)) ⟨Nat.le_trans hS.1 (by omega), fun x h1 h2 => (o1 x (Nat.lt_of_lt_of_le h1 hS.1)).trans (hS.2.1 x h1 h2), hS.2.2⟩
  · show H1[H.size]? = some (vp_cell _ _)
    rw [e1, cellA_lo hkd, vp_cell_i, hdv]
    simp only [zap, if_true]
    rfl
  · rw [← hty]
    rw [← hty] at hNm
    cases atype <;> exact hNm
theorem r_anew (hexec : p.tables.exec = Jvm.exec) (hb : c.code = cc) {own : String} {index : Nat} (hown : s.vm.findClass own = some m.cls) (hclink : (Cond.classLink own index "DirtyCardHeap$Thing").before args s = true) (hover : (Cond.arrayOver (.object "DirtyCardHeap$Thing")).before args s = true) (kd : Nat) (hkd : ¬ kd < 100) (hK : KL D cl Λ s) (hP : Hd D cl Λ σ H) (hA : ∀ q y, Λ q = some y → A q) (hS : va_S A H0 H locs) (hAs : ∀ q : Nat, H0.size ≤ q → A q)
    {n : Int} {N : Nat} (hN : n = N) (hN2 : N < 100000000) (hcells : cells + 1 ≤ R.cells) (hslots : slots + N ≤ R.slots) (hdg : decode cc pc = .ok (.anewarray index, 3))
    (kk : ∀ (q : Nat) (cA : ClassId) (H1 : Heap), Λ q = none → Hd D cl (upL Λ q (.inl (cA, N, kd))) (zap σ q) H1 → KL D cl (upL Λ q (.inl (cA, N, kd))) s → (∀ q' y', upL Λ q (.inl (cA, N, kd)) q' = some y' → A q') → va_S A H0 H1 locs →
      W p l e R s m args below meth c H1 locs (cells + 1) (slots + N) Q (F0 m (pc + 3) ls (.ref q :: rest))) : W p l e R s m args below meth c H locs cells slots Q (F0 m pc ls (.int (iI n) :: rest)) := by
  subst hN
  have hr : rng (N : Int) := ⟨by omega, by omega⟩
  have hc1 : (iI (N : Int)).toNatClampNeg = N := by rw [iI_cl hr]; rfl
  refine W.anew hexec hb hown hclink hover rfl hdg rfl (fun h => by have := (iI_lt0 hr).mp h; omega) (by rw [hc1]; omega) hcells (by rw [hc1]; exact hslots) fun cA kA comp f1 f2 f3 f4 => ?_
  rw [hc1]
  generalize hH1 : H.push ({ cls := cA, slots := Array.replicate N .null, vm := .none } : Cell) = H1
  have z1 : H1.size = H.size + 1 := by rw [← hH1, Array.size_push]
  have e1 : H1[H.size]? = some (arrV cA N (fun _ => .null)) := by rw [← hH1, Array.getElem?_push_size, ← arrV_new]
  have o1 : ∀ q : Nat, q < H.size → H1[q]? = H[q]? := fun q hq => by rw [← hH1, Array.getElem?_push, if_neg (Nat.ne_of_lt hq)]
  refine kk H.size cA H1 hP.fresh (hP.push ?_ o1) (hK.upA ?_ ?_) (upL_A hA (hAs _ hS.1)) ⟨Nat.le_trans hS.1 (by omega), fun x h1 h2 => (o1 x (Nat.lt_of_lt_of_le h1 hS.1)).trans (hS.2.1 x h1 h2), hS.2.2⟩
  · show H1[H.size]? = some (vp_cell _ _)
    rw [e1, cellA_hi hkd, vp_cell_q]
    simp only [zap, if_true]
    rfl
  · rw [tyK_t hkd]
    exact fun N z => ⟨(fun k h => by cases h), kA, f2, comp, f3⟩
  · rw [tyK_t hkd]
    exact ⟨kA, comp, f2, f3, f4, f1⟩
theorem Hd.putR (hP : Hd D cl Λ σ H) {H1 : Heap} {y' : Lay} (hn : va_at D cl (a, cellE σ a y') H1) (oq : ∀ q : Nat, q ≠ a → H1[q]? = H[q]?) : Hd D cl (upL Λ a y') σ H1 := by
  intro q y hq
  unfold upL at hq
  by_cases e : q = a
  · rw [if_pos e] at hq
    cases hq
    rw [e]
    exact hn
  · rw [if_neg e] at hq
    exact (hP q y hq).kept (oq q e)
theorem r_putR (hexec : p.tables.exec = Jvm.exec) (hb : c.code = cc) {own ref C : String} {T : u_T} {N ci index : Nat} {tm : List (Option (Option Nat))} {Ts : List Cond} (hts : ∀ w ∈ Ts, w.before args s = true) (hin : ∀ w ∈ u_ws C T N, w ∈ Ts) (ty0 : Nat → FieldType) (hty : ∀ k, k < N → parseFieldDescriptor (T k).2.2.1 = some (ty0 k)) (hnm : ∀ a, a < N → ∀ b, b < N → a ≠ b → (T a).2.1 ≠ (T b).2.1) (hown : s.vm.findClass own = some m.cls) (hK : KL D cl Λ s) (hP : Hd D cl Λ σ H) (hA : ∀ q y, Λ q = some y → A q) (hS0 : va_S A H0 H locs) (hy : Λ a = some (.inr (ci, tm))) (hc : cl[ci]? = some (C, T, N)) (k : Nat) (hk : k < N) (hlink : (Cond.fieldLink own index ref (T k).2.1 (T k).2.2.1).before args s = true) (hsame : ∀ x, s.fieldFound? (T k).1 (T k).2.1 (T k).2.2.1 = some x → s.fieldFound? ref (T k).2.1 (T k).2.2.1 = some x) (hfin : (T k).2.2.2 = false) {ty : FieldType} {b : Nat} (hd : parseFieldDescriptor (T k).2.2.1 = some ty) (hn : narrow ty (.ref b) = .ref b) (hfit : fits ty (.ref b) = true) (hl0 : k < tm.length)
    (hdg : decode cc pc = .ok (.putfield index, 3)) (kk : ∀ (H1 : Heap) (locs1 : List Loc), Hd D cl (upL Λ a (.inr (ci, tm.set k (some (some b))))) σ H1 → KL D cl (upL Λ a (.inr (ci, tm.set k (some (some b))))) s → (∀ q' y', upL Λ a (.inr (ci, tm.set k (some (some b)))) q' = some y' → A q') → va_S A H0 H1 locs1 → W p l e R s m args below meth c H1 locs1 cells slots Q (F0 m (pc + 3) ls rest)) : W p l e R s m args below meth c H locs cells slots Q (F0 m pc ls (.ref b :: .ref a :: rest)) := by
  have hap := va_apart (own := own) hts hin ty0 hty hnm hK.1 hc
  obtain ⟨r, h1, cell, q1, q2, q3, q4⟩ := hP a _ hy
  have hr : r = (C, T, N) := Option.some.inj (h1.symm.trans hc)
  subst hr
  obtain ⟨hS, hfc, kC, hkC, hkind⟩ := hK.1.1 ci _ hc
  obtain ⟨cf, kf, fi, f, hi, hsl⟩ := hS k hk
  have hlay := hts _ (hin _ (u_in_lay hk))
  unfold u_lay at hlay
  rw [if_neg (by rw [hfin]; decide)] at hlay
  have hst := (u_facts hfc hkC (u_lays hts hin hk) hi).1
  have h6 := u_store hfc hkC hkind hlay hi hd hn hfit
  refine W.putK hexec hb (f := f) ⟨hown, hlink, ⟨_, _, _, hsame _ hi⟩, hst⟩ (by rw [q2]; exact h6) q1 q3 (by rw [hsl]; exact k2_hasslot (q4 k hk)) rfl rfl hdg fun H' e1 e2 e3 => ?_
  rw [hsl] at e1 ⊢
  have hl : k < (fldV σ ci a tm).length := by rw [fldV_len]; exact hl0
  refine kk H' _ (hP.putR ⟨_, hc, ?_⟩ e3) hK.upO (upL_A hA (hA _ _ hy)) (hS0.put e2 e3 (hA _ _ hy))
  have hV := t_OB.to (V := updV (vp_V (fldV σ ci a tm)) k (.ref b)) ⟨_, e1, q2, q3, t_set q4 hap hk (.ref b)⟩ (fun j _ => vp_updV_set hl (.ref b) j)
  rw [fldV_setR] at hV
  exact hV
theorem r_putRF (hexec : p.tables.exec = Jvm.exec) (hb : c.code = cc) {own ref C : String} {T : u_T} {N ci index : Nat} {tm : List (Option (Option Nat))} {Ts : List Cond} (hts : ∀ w ∈ Ts, w.before args s = true) (hin : ∀ w ∈ u_ws C T N, w ∈ Ts) (ty0 : Nat → FieldType) (hty : ∀ k, k < N → parseFieldDescriptor (T k).2.2.1 = some (ty0 k)) (hnm : ∀ a, a < N → ∀ b, b < N → a ≠ b → (T a).2.1 ≠ (T b).2.1) (hown : s.vm.findClass own = some m.cls) (hK : KL D cl Λ s) (hP : Hd D cl Λ σ H) (hA : ∀ q y, Λ q = some y → A q) (hS0 : va_S A H0 H locs) (hy : Λ a = some (.inr (ci, tm))) (hc : cl[ci]? = some (C, T, N)) (k : Nat) (hk : k < N) (hlink : (Cond.fieldLink own index ref (T k).2.1 (T k).2.2.1).before args s = true) (hsame : ∀ x, s.fieldFound? (T k).1 (T k).2.1 (T k).2.2.1 = some x → s.fieldFound? ref (T k).2.1 (T k).2.2.1 = some x) (hfin : (T k).2.2.2 = true) (hin2 : meth.name = "<init>") (hdecl : (T k).1 = own) {ty : FieldType} {b : Nat} (hd : parseFieldDescriptor (T k).2.2.1 = some ty) (hn : narrow ty (.ref b) = .ref b) (hfit : fits ty (.ref b) = true) (hl0 : k < tm.length)
    (hdg : decode cc pc = .ok (.putfield index, 3)) (kk : ∀ (H1 : Heap) (locs1 : List Loc), Hd D cl (upL Λ a (.inr (ci, tm.set k (some (some b))))) σ H1 → KL D cl (upL Λ a (.inr (ci, tm.set k (some (some b))))) s → (∀ q' y', upL Λ a (.inr (ci, tm.set k (some (some b)))) q' = some y' → A q') → va_S A H0 H1 locs1 → W p l e R s m args below meth c H1 locs1 cells slots Q (F0 m (pc + 3) ls rest)) : W p l e R s m args below meth c H locs cells slots Q (F0 m pc ls (.ref b :: .ref a :: rest)) := by
  have hap := va_apart (own := own) hts hin ty0 hty hnm hK.1 hc
  obtain ⟨r, h1, cell, q1, q2, q3, q4⟩ := hP a _ hy
  have hr : r = (C, T, N) := Option.some.inj (h1.symm.trans hc)
  subst hr
  obtain ⟨hS, hfc, kC, hkC, hkind⟩ := hK.1.1 ci _ hc
  obtain ⟨cf, kf, fi, f, hi, hsl⟩ := hS k hk
  have hlay := hts _ (hin _ (u_in_lay hk))
  unfold u_lay at hlay
  rw [if_pos hfin] at hlay
  have hst := (u_facts hfc hkC (u_lays hts hin hk) hi).1
  have hcf : m.cls = cf := by
    obtain ⟨_, _, c', _, _, _, -, -, hf', -, -, -, hown2, -⟩ := Cond.laysFinal_spec hlay
    have e1 : c' = cf := by have := hi.symm.trans hf'; simp at this; exact this.1.symm
    rw [hdecl] at hown2
    rw [← e1]; exact Option.some.inj (hown.symm.trans hown2)
  have h6 := u_fits hfc hkC hkind (Or.inr hlay) hi hd hn hfit
  refine W.putFinK hexec hb hown hlink (hsame _ hi) hst hcf hin2 (by rw [q2]; exact h6) q1 q3 (by rw [hsl]; exact k2_hasslot (q4 k hk)) rfl rfl hdg fun H' e1 e2 e3 => ?_
  rw [hsl] at e1 ⊢
  have hl : k < (fldV σ ci a tm).length := by rw [fldV_len]; exact hl0
  refine kk H' _ (hP.putR ⟨_, hc, ?_⟩ e3) hK.upO (upL_A hA (hA _ _ hy)) (hS0.put e2 e3 (hA _ _ hy))
  have hV := t_OB.to (V := updV (vp_V (fldV σ ci a tm)) k (.ref b)) ⟨_, e1, q2, q3, t_set q4 hap hk (.ref b)⟩ (fun j _ => vp_updV_set hl (.ref b) j)
  rw [fldV_setR] at hV
  exact hV
theorem r_putIF (hexec : p.tables.exec = Jvm.exec) (hb : c.code = cc) {own ref C : String} {T : u_T} {N ci index : Nat} {tm : List (Option (Option Nat))} {Ts : List Cond} (hts : ∀ w ∈ Ts, w.before args s = true) (hin : ∀ w ∈ u_ws C T N, w ∈ Ts) (ty0 : Nat → FieldType) (hty : ∀ k, k < N → parseFieldDescriptor (T k).2.2.1 = some (ty0 k)) (hnm : ∀ a, a < N → ∀ b, b < N → a ≠ b → (T a).2.1 ≠ (T b).2.1) (hown : s.vm.findClass own = some m.cls) (hK : KL D cl Λ s) (hP : Hd D cl Λ σ H) (hA : ∀ q y, Λ q = some y → A q) (hS0 : va_S A H0 H locs) (hy : Λ a = some (.inr (ci, tm))) (hc : cl[ci]? = some (C, T, N)) (k : Nat) (hk : k < N) (hlink : (Cond.fieldLink own index ref (T k).2.1 (T k).2.2.1).before args s = true) (hsame : ∀ x, s.fieldFound? (T k).1 (T k).2.1 (T k).2.2.1 = some x → s.fieldFound? ref (T k).2.1 (T k).2.2.1 = some x) (hfin : (T k).2.2.2 = true) (hin2 : meth.name = "<init>") (hdecl : (T k).1 = own) {ty : FieldType} {v : Int} (hd : parseFieldDescriptor (T k).2.2.1 = some ty) (hn : narrow ty (.int (iI v)) = .int (iI v)) (hfit : fits ty (.int (iI v)) = true) (htm : tm[k]? = some none)
    (hdg : decode cc pc = .ok (.putfield index, 3)) (kk : ∀ (H1 : Heap) (locs1 : List Loc), Hd D cl Λ (upI σ (100 * ci + k) a v) H1 → va_S A H0 H1 locs1 → W p l e R s m args below meth c H1 locs1 cells slots Q (F0 m (pc + 3) ls rest)) : W p l e R s m args below meth c H locs cells slots Q (F0 m pc ls (.int (iI v) :: .ref a :: rest)) := by
  have hap := va_apart (own := own) hts hin ty0 hty hnm hK.1 hc
  obtain ⟨r, h1, cell, q1, q2, q3, q4⟩ := hP a _ hy
  have hr : r = (C, T, N) := Option.some.inj (h1.symm.trans hc)
  subst hr
  obtain ⟨hS, hfc, kC, hkC, hkind⟩ := hK.1.1 ci _ hc
  obtain ⟨cf, kf, fi, f, hi, hsl⟩ := hS k hk
  have hlay := hts _ (hin _ (u_in_lay hk))
  unfold u_lay at hlay
  rw [if_pos hfin] at hlay
  have hst := (u_facts hfc hkC (u_lays hts hin hk) hi).1
  have hcf : m.cls = cf := by
    obtain ⟨_, _, c', _, _, _, -, -, hf', -, -, -, hown2, -⟩ := Cond.laysFinal_spec hlay
    have e1 : c' = cf := by have := hi.symm.trans hf'; simp at this; exact this.1.symm
    rw [hdecl] at hown2
    rw [← e1]; exact Option.some.inj (hown.symm.trans hown2)
  have h6 := u_fits hfc hkC hkind (Or.inr hlay) hi hd hn hfit
  refine W.putFinK hexec hb hown hlink (hsame _ hi) hst hcf hin2 (by rw [q2]; exact h6) q1 q3 (by rw [hsl]; exact k2_hasslot (q4 k hk)) rfl rfl hdg fun H' e1 e2 e3 => ?_
  rw [hsl] at e1 ⊢
  have hl : k < (fldV σ ci a tm).length := by rw [fldV_len]; exact (List.getElem?_eq_some_iff.mp htm).1
  refine kk H' _ (hP.put hy ⟨_, hc, ?_⟩ (fun q y' h => cellE_I h) e3) (hS0.put e2 e3 (hA _ _ hy))
  have hV := t_OB.to (V := updV (vp_V (fldV σ ci a tm)) k (.int (iI v))) ⟨_, e1, q2, q3, t_set q4 hap hk (.int (iI v))⟩ (fun j _ => vp_updV_set hl (.int (iI v)) j)
  rw [fldV_set htm] at hV
  exact hV
end RWA
