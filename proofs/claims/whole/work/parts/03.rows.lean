section RW
variable {p : Program} {l : Launch} {e : Env} {R : Room} {s : State} {m : MethodId} {args : Array Value} {below : List Frame} {meth : Method} {c : Code} {H : Heap} {locs : List Loc} {cells slots : Nat} {Q : State → Prop}
variable {cc : ByteArray} {pc : Nat} {ls : Array Slot} {rest : List Value} {D : va_G} {cl : List vw_C} {A : Nat → Prop} {a : Nat} {Λ : Lam} {σ : Mem} {H0 : Heap}
theorem Hd.one (hP : Hd D cl Λ σ H) {y : Lay} (hy : Λ a = some y) : va_P D cl [(a, cellE σ a y)] H := by
  intro k q hk
  have hz : k < 1 := (List.getElem?_eq_some_iff.mp hk).1
  rw [show k = 0 by omega] at hk
  cases hk
  exact hP a y hy
theorem r_getI (hexec : p.tables.exec = Jvm.exec) (hb : c.code = cc) {own ref C : String} {T : u_T} {N ci index : Nat} {tm : List (Option (Option Nat))} {Ts : List Cond} (hts : ∀ w ∈ Ts, w.before args s = true) (hin : ∀ w ∈ u_ws C T N, w ∈ Ts) (hown : s.vm.findClass own = some m.cls) (hK : KL D cl Λ s) (hP : Hd D cl Λ σ H) (hy : Λ a = some (.inr (ci, tm))) (hc : cl[ci]? = some (C, T, N)) (k : Nat) (hk : k < N) (hlink : (Cond.fieldLink own index ref (T k).2.1 (T k).2.2.1).before args s = true) (hsame : ∀ x, s.fieldFound? (T k).1 (T k).2.1 (T k).2.2.1 = some x → s.fieldFound? ref (T k).2.1 (T k).2.2.1 = some x) (htm : tm[k]? = some none) (hdg : decode cc pc = .ok (.getfield index, 3))
    (kk : W p l e R s m args below meth c H locs cells slots Q (F0 m (pc + 3) ls (.int (iI (σ.1 (100 * ci + k) a)) :: rest))) : W p l e R s m args below meth c H locs cells slots Q (F0 m pc ls (.ref a :: rest)) :=
  va_get hexec hb hts hin hown hK.1 (hP.one hy) 0 rfl hc k hk hlink hsame (fldV_at htm) hdg kk
theorem r_getR (hexec : p.tables.exec = Jvm.exec) (hb : c.code = cc) {own ref C : String} {T : u_T} {N ci index : Nat} {tm : List (Option (Option Nat))} {b : Nat} {Ts : List Cond} (hts : ∀ w ∈ Ts, w.before args s = true) (hin : ∀ w ∈ u_ws C T N, w ∈ Ts) (hown : s.vm.findClass own = some m.cls) (hK : KL D cl Λ s) (hP : Hd D cl Λ σ H) (hy : Λ a = some (.inr (ci, tm))) (hc : cl[ci]? = some (C, T, N)) (k : Nat) (hk : k < N) (hlink : (Cond.fieldLink own index ref (T k).2.1 (T k).2.2.1).before args s = true) (hsame : ∀ x, s.fieldFound? (T k).1 (T k).2.1 (T k).2.2.1 = some x → s.fieldFound? ref (T k).2.1 (T k).2.2.1 = some x) (htm : tm[k]? = some (some (some b))) (hdg : decode cc pc = .ok (.getfield index, 3))
    (kk : W p l e R s m args below meth c H locs cells slots Q (F0 m (pc + 3) ls (.ref b :: rest))) : W p l e R s m args below meth c H locs cells slots Q (F0 m pc ls (.ref a :: rest)) :=
  va_get hexec hb hts hin hown hK.1 (hP.one hy) 0 rfl hc k hk hlink hsame (fldV_ref htm) hdg kk
theorem r_putI (hexec : p.tables.exec = Jvm.exec) (hb : c.code = cc) {own ref C : String} {T : u_T} {N ci index : Nat} {tm : List (Option (Option Nat))} {Ts : List Cond} (hts : ∀ w ∈ Ts, w.before args s = true) (hin : ∀ w ∈ u_ws C T N, w ∈ Ts) (ty0 : Nat → FieldType) (hty : ∀ k, k < N → parseFieldDescriptor (T k).2.2.1 = some (ty0 k)) (hnm : ∀ a, a < N → ∀ b, b < N → a ≠ b → (T a).2.1 ≠ (T b).2.1) (hown : s.vm.findClass own = some m.cls) (hK : KL D cl Λ s) (hP : Hd D cl Λ σ H) (hA : ∀ q y, Λ q = some y → A q) (hS0 : va_S A H0 H locs) (hy : Λ a = some (.inr (ci, tm))) (hc : cl[ci]? = some (C, T, N)) (k : Nat) (hk : k < N) (hlink : (Cond.fieldLink own index ref (T k).2.1 (T k).2.2.1).before args s = true) (hsame : ∀ x, s.fieldFound? (T k).1 (T k).2.1 (T k).2.2.1 = some x → s.fieldFound? ref (T k).2.1 (T k).2.2.1 = some x) (hfin : (T k).2.2.2 = false) {ty : FieldType} {v : Int} (hd : parseFieldDescriptor (T k).2.2.1 = some ty) (hn : narrow ty (.int (iI v)) = .int (iI v)) (hfit : fits ty (.int (iI v)) = true) (htm : tm[k]? = some none)
    (hdg : decode cc pc = .ok (.putfield index, 3)) (kk : ∀ (H1 : Heap) (locs1 : List Loc), Hd D cl Λ (upI σ (100 * ci + k) a v) H1 → va_S A H0 H1 locs1 → W p l e R s m args below meth c H1 locs1 cells slots Q (F0 m (pc + 3) ls rest)) : W p l e R s m args below meth c H locs cells slots Q (F0 m pc ls (.int (iI v) :: .ref a :: rest)) := by
  have hap := va_apart (own := own) hts hin ty0 hty hnm hK.1 hc
  obtain ⟨r, h1, cell, q1, q2, q3, q4⟩ := hP a _ hy
  have hr : r = (C, T, N) := Option.some.inj (h1.symm.trans hc)
  subst hr
  obtain ⟨hS, hfc, kC, hkC, hkind⟩ := hK.1.1 ci _ hc
  obtain ⟨cf, kf, fi, f, hi, hsl⟩ := hS k hk
  have hlay := hts _ (hin _ (u_in_lay hk))
  unfold u_lay at hlay
  rw [if_neg (by rw [hfin]; decide)] at hlay
  have hst := (u_facts hfc hkC (u_lays hts hin hk) hi).1
  have h6 := u_store hfc hkC hkind hlay hi hd hn hfit
  refine W.putK hexec hb (f := f) ⟨hown, hlink, ⟨_, _, _, hsame _ hi⟩, hst⟩ (by rw [q2]; exact h6) q1 q3 (by rw [hsl]; exact k2_hasslot (q4 k hk)) rfl rfl hdg fun H' e1 e2 e3 => ?_
  rw [hsl] at e1 ⊢
  have hl : k < (fldV σ ci a tm).length := by rw [fldV_len]; exact (List.getElem?_eq_some_iff.mp htm).1
  refine kk H' _ (hP.put hy ⟨_, hc, ?_⟩ (fun q y' h => cellE_I h) e3) (hS0.put e2 e3 (hA _ _ hy))
  have hV := t_OB.to (V := updV (vp_V (fldV σ ci a tm)) k (.int (iI v))) ⟨_, e1, q2, q3, t_set q4 hap hk (.int (iI v))⟩ (fun j _ => vp_updV_set hl (.int (iI v)) j)
  rw [fldV_set htm] at hV
  exact hV
theorem r_alen (hexec : p.tables.exec = Jvm.exec) (hb : c.code = cc) (hK : KL D cl Λ s) (hP : Hd D cl Λ σ H) {cA : ClassId} {n kd : Nat} (hy : Λ a = some (.inl (cA, n, kd))) (hdg : decode cc pc = .ok (.arraylength, 1))
    (kk : W p l e R s m args below meth c H locs cells slots Q (F0 m (pc + 1) ls (.int (iI n) :: rest))) : W p l e R s m args below meth c H locs cells slots Q (F0 m pc ls (.ref a :: rest)) := by
  have h1 : va_K D cl [(cA, tyK kd)] s := ⟨hK.1.1, fun k q hk => by
    have hz : k < 1 := (List.getElem?_eq_some_iff.mp hk).1
    rw [show k = 0 by omega] at hk
    cases hk
    exact hK.2 _ _ _ _ hy⟩
  refine va_alen hexec hb h1 (hP.one hy) 0 0 (x := cellA σ a n kd) rfl (ty := tyK kd) rfl ?_ hdg kk
  unfold cellA
  by_cases h : kd < 100
  · rw [if_pos h]; exact iI_nat n
  · rw [if_neg h]; exact iI_nat n
theorem KL.arr (hK : KL D cl Λ s) {cA : ClassId} {n kd : Nat} (hy : Λ a = some (.inl (cA, n, kd))) {ty : FieldType} (ht : tyK kd = ty) : va_K D cl [(cA, ty)] s := ⟨hK.1.1, fun k q hk => by
    have hz : k < 1 := (List.getElem?_eq_some_iff.mp hk).1
    rw [show k = 0 by omega] at hk
    cases hk
    rw [← ht]
    exact hK.2 _ _ _ _ hy⟩
theorem cellA_lo {q n kd : Nat} (h : kd < 100) : cellA σ q n kd = (n, .inl (fun j => iI (σ.2.1 kd q j))) := by unfold cellA; rw [if_pos h]
theorem cellA_hi {q n kd : Nat} (h : ¬ kd < 100) : cellA σ q n kd = (n, .inr (.inr (.inr (.inr (fun j => σ.2.2 kd q j))))) := by unfold cellA; rw [if_neg h]
theorem Hd.lo (hP : Hd D cl Λ σ H) {cA : ClassId} {n kd : Nat} (hy : Λ a = some (.inl (cA, n, kd))) (h : kd < 100) : va_P D cl [(a, .inl (cA, n, .inl (fun j => iI (σ.2.1 kd a j))))] H := by
  have h1 := hP.one hy
  unfold cellE at h1
  simp only [cellA_lo h] at h1
  exact h1
theorem Hd.hi (hP : Hd D cl Λ σ H) {cA : ClassId} {n kd : Nat} (hy : Λ a = some (.inl (cA, n, kd))) (h : ¬ kd < 100) : va_P D cl [(a, .inl (cA, n, .inr (.inr (.inr (.inr (fun j => σ.2.2 kd a j))))))] H := by
  have h1 := hP.one hy
  unfold cellE at h1
  simp only [cellA_hi h] at h1
  exact h1
theorem tyK_i {kd : Nat} (h : kd < 50) : tyK kd = .int := by unfold tyK; rw [if_pos h]
theorem tyK_z {kd : Nat} (h : ¬ kd < 50) (h2 : kd < 100) : tyK kd = .boolean := by unfold tyK; rw [if_neg h, if_pos h2]
theorem tyK_t {kd : Nat} (h : ¬ kd < 100) : tyK kd = .object "DirtyCardHeap$Thing" := by unfold tyK; rw [if_neg (by omega), if_neg h]
theorem r_iald (hexec : p.tables.exec = Jvm.exec) (hb : c.code = cc) (hK : KL D cl Λ s) (hP : Hd D cl Λ σ H) {cA : ClassId} {n kd : Nat} (hy : Λ a = some (.inl (cA, n, kd))) (hkd : kd < 50) (hnn : n < 2147483648) {i : Int} (h0 : 0 ≤ i) (hi : i < n) (hdg : decode cc pc = .ok (.iaload, 1))
    (kk : W p l e R s m args below meth c H locs cells slots Q (F0 m (pc + 1) ls (.int (iI (σ.2.1 kd a i.toNat)) :: rest))) : W p l e R s m args below meth c H locs cells slots Q (F0 m pc ls (.int (iI i) :: .ref a :: rest)) := by
  refine va_iald hexec hb (hK.arr hy (tyK_i hkd)) (hP.lo hy (by omega)) 0 0 rfl rfl (iI_in h0 hi hnn) hdg ?_
  rw [iI_cl ⟨by omega, by omega⟩]
  exact kk
theorem r_zald (hexec : p.tables.exec = Jvm.exec) (hb : c.code = cc) (hK : KL D cl Λ s) (hP : Hd D cl Λ σ H) {cA : ClassId} {n kd : Nat} (hy : Λ a = some (.inl (cA, n, kd))) (hkd : ¬ kd < 50) (hkd2 : kd < 100) (hnn : n < 2147483648) {i : Int} (h0 : 0 ≤ i) (hi : i < n) (hdg : decode cc pc = .ok (.baload, 1))
    (kk : W p l e R s m args below meth c H locs cells slots Q (F0 m (pc + 1) ls (.int (iI (σ.2.1 kd a i.toNat)) :: rest))) : W p l e R s m args below meth c H locs cells slots Q (F0 m pc ls (.int (iI i) :: .ref a :: rest)) := by
  refine va_zald hexec hb (hK.arr hy (tyK_z hkd hkd2)) (hP.lo hy hkd2) 0 0 rfl rfl (iI_in h0 hi hnn) hdg ?_
  rw [iI_cl ⟨by omega, by omega⟩]
  exact kk
theorem r_aald (hexec : p.tables.exec = Jvm.exec) (hb : c.code = cc) (hK : KL D cl Λ s) (hP : Hd D cl Λ σ H) {cA : ClassId} {n kd : Nat} (hy : Λ a = some (.inl (cA, n, kd))) (hkd : ¬ kd < 100) (hnn : n < 2147483648) {i : Int} (h0 : 0 ≤ i) (hi : i < n) (hdg : decode cc pc = .ok (.aaload, 1))
    (kk : W p l e R s m args below meth c H locs cells slots Q (F0 m (pc + 1) ls (va_rf (σ.2.2 kd a i.toNat) :: rest))) : W p l e R s m args below meth c H locs cells slots Q (F0 m pc ls (.int (iI i) :: .ref a :: rest)) := by
  refine va_aldq hexec hb (hK.arr hy (tyK_t hkd)) (hP.hi hy hkd) 0 0 rfl rfl (iI_in h0 hi hnn) hdg ?_
  rw [iI_cl ⟨by omega, by omega⟩]
  exact kk
theorem r_iast (hexec : p.tables.exec = Jvm.exec) (hb : c.code = cc) (hK : KL D cl Λ s) (hP : Hd D cl Λ σ H) (hA : ∀ q y, Λ q = some y → A q) (hS : va_S A H0 H locs) {cA : ClassId} {n kd : Nat} (hy : Λ a = some (.inl (cA, n, kd))) (hkd : kd < 50) (hnn : n < 2147483648) {i v : Int} (h0 : 0 ≤ i) (hi : i < n) (hdg : decode cc pc = .ok (.iastore, 1))
    (kk : ∀ (H1 : Heap) (locs1 : List Loc), Hd D cl Λ (upY σ kd a i.toNat v) H1 → va_S A H0 H1 locs1 → W p l e R s m args below meth c H1 locs1 cells slots Q (F0 m (pc + 1) ls rest)) : W p l e R s m args below meth c H locs cells slots Q (F0 m pc ls (.int (iI v) :: .int (iI i) :: .ref a :: rest)) := by
  have hcl : (iI i).toNatClampNeg = i.toNat := iI_cl ⟨by omega, by omega⟩
  have hin := iI_in h0 hi hnn
  have h1 := (hP.lo hy (by omega)) 0 _ rfl
  refine W.iast hexec hb h1 (((hK.arr hy (tyK_i hkd)).2 0 _ rfl).1 n (fun j => .int (iI (σ.2.1 kd a j)))) (fun q => by cases q) (by show ¬ (iI i < 0 ∨ (arrV _ _ _).slots.size ≤ _); rw [arrV_size]; exact hin) rfl rfl hdg fun H1 e z oq => ?_
  refine kk H1 _ (hP.put hy ?_ (fun q y' h => cellE_Y h) oq) (hS.put z oq (hA _ _ hy))
  show H1[a]? = some (vp_cell _ _)
  rw [e, cellA_lo (by omega)]
  rw [vp_cell_i, vp_cell_i, arrV_store]
  congr 2
  funext q
  rw [hcl]
  by_cases hq : q = i.toNat
  · subst hq
    simp [updV, upY]
  · simp [updV, upY, hq]
theorem r_zast (hexec : p.tables.exec = Jvm.exec) (hb : c.code = cc) (hK : KL D cl Λ s) (hP : Hd D cl Λ σ H) (hA : ∀ q y, Λ q = some y → A q) (hS : va_S A H0 H locs) {cA : ClassId} {n kd : Nat} (hy : Λ a = some (.inl (cA, n, kd))) (hkd : ¬ kd < 50) (hkd2 : kd < 100) (hnn : n < 2147483648) {i v : Int} (h0 : 0 ≤ i) (hi : i < n) (hv : v = 0 ∨ v = 1) (hdg : decode cc pc = .ok (.bastore, 1))
    (kk : ∀ (H1 : Heap) (locs1 : List Loc), Hd D cl Λ (upY σ kd a i.toNat v) H1 → va_S A H0 H1 locs1 → W p l e R s m args below meth c H1 locs1 cells slots Q (F0 m (pc + 1) ls rest)) : W p l e R s m args below meth c H locs cells slots Q (F0 m pc ls (.int (iI v) :: .int (iI i) :: .ref a :: rest)) := by
  have hcl : (iI i).toNatClampNeg = i.toNat := iI_cl ⟨by omega, by omega⟩
  have hin := iI_in h0 hi hnn
  have h1 := (hP.lo hy hkd2) 0 _ rfl
  refine W.zast hexec hb h1 (((hK.arr hy (tyK_z hkd hkd2)).2 0 _ rfl).1 n (fun j => .int (iI (σ.2.1 kd a j)))) (fun q => by cases q) (by show ¬ (iI i < 0 ∨ (arrV _ _ _).slots.size ≤ _); rw [arrV_size]; exact hin) rfl rfl hdg fun H1 e z oq => ?_
  refine kk H1 _ (hP.put hy ?_ (fun q y' h => cellE_Y h) oq) (hS.put z oq (hA _ _ hy))
  show H1[a]? = some (vp_cell _ _)
  rw [e, cellA_lo hkd2]
  rw [vp_cell_i, vp_cell_i, arrV_store]
  congr 2
  funext q
  rw [hcl]
  by_cases hq : q = i.toNat
  · subst hq
    rcases hv with rfl | rfl
    · simp [updV, upY]; rfl
    · simp [updV, upY]; rfl
  · simp [updV, upY, hq]
theorem r_aast (hexec : p.tables.exec = Jvm.exec) (hb : c.code = cc) (hK : KL D cl Λ s) (hP : Hd D cl Λ σ H) (hA : ∀ q y, Λ q = some y → A q) (hS : va_S A H0 H locs) {cA : ClassId} {n kd : Nat} (hy : Λ a = some (.inl (cA, n, kd))) (hkd : ¬ kd < 100) (hnn : n < 2147483648) {ci : Nat} {r : vw_C} (hc : cl[ci]? = some r) (hr : r.1 = "DirtyCardHeap$Thing") {o : Option Nat} (ho : ∀ t, o = some t → ∃ tm, Λ t = some (.inr (ci, tm))) {i : Int} (h0 : 0 ≤ i) (hi : i < n) (hdg : decode cc pc = .ok (.aastore, 1))
    (kk : ∀ (H1 : Heap) (locs1 : List Loc), Hd D cl Λ (upX σ kd a i.toNat o) H1 → va_S A H0 H1 locs1 → W p l e R s m args below meth c H1 locs1 cells slots Q (F0 m (pc + 1) ls rest)) : W p l e R s m args below meth c H locs cells slots Q (F0 m pc ls (va_rf o :: .int (iI i) :: .ref a :: rest)) := by
  have hcl : (iI i).toNatClampNeg = i.toNat := iI_cl ⟨by omega, by omega⟩
  have hin := iI_in h0 hi hnn
  have hlt : (iI i).toNatClampNeg < n := Nat.not_le.mp fun q => hin (Or.inr q)
  have hn0 : ¬ iI i < 0 := fun q => hin (Or.inl q)
  have hKa := hK.arr hy (tyK_t hkd)
  have h1 := (hP.hi hy hkd) 0 _ rfl
  have fin : ∀ (H1 : Heap), H1[a]? = some ((vp_cell cA (n, .inr (.inr (.inr (.inr (fun j => σ.2.2 kd a j)))))).setSlot (iI i).toNatClampNeg (va_rf o)) → H1.size = H.size → (∀ q : Nat, q ≠ a → H1[q]? = H[q]?) → W p l e R s m args below meth c H1 (locs ++ [⟨a, (iI i).toNatClampNeg⟩]) cells slots Q (F0 m (pc + 1) ls rest) := by
    intro H1 e z oq
    refine kk H1 _ (hP.put hy ?_ (fun q y' h => cellE_X h) oq) (hS.put z oq (hA _ _ hy))
    show H1[a]? = some (vp_cell _ _)
    rw [e, cellA_hi hkd]
    rw [vp_cell_q, vp_cell_q, arrV_store]
    congr 2
    funext q
    rw [hcl]
    by_cases hq : q = i.toNat
    · subst hq
      simp [updV, upX]
    · simp [updV, upX, hq]
  cases o with
  | none => exact va_WaastN (C := "DirtyCardHeap$Thing") hexec hb h1 ((hKa.2 0 _ rfl).1 n (fun j => va_rf (σ.2.2 kd a j))) (fun h => by cases h) (by show ¬ (iI i < 0 ∨ (arrV _ _ _).slots.size ≤ _); rw [arrV_size]; exact hin) rfl rfl hdg fin
  | some v =>
    obtain ⟨tm, hv⟩ := ho v rfl
    obtain ⟨r', hr', cellV, g1, g2, g3, -⟩ := hP v _ hv
    have hcls := (hK.1.1 ci r hc).2
    obtain ⟨kA, comp, k1, k2, k3, -⟩ := (hKa.2 0 _ rfl).2
    rw [hr] at hcls
    have hcomp : comp = D.1 ci := Option.some.inj (k3.symm.trans hcls.1)
    subst hcomp
    have hcls' := hcls
    obtain ⟨kC, hkC, -⟩ := hcls.2
    exact W.aast hexec hb h1 (fun q h => by cases h) (fun h => by cases h) k1 k2 rfl hkC ⟨hn0, by show _ < (arrV _ _ _).slots.size; rw [arrV_size]; exact hlt⟩ g1 (fun q h => by rw [g3] at h; cases h) (by rw [g2]; exact hkC) (by rw [g2]; exact va_assign hcls') rfl rfl hdg fin
end RW
