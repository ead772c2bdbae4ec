/-! One form of contract for all methods, the place of a walk, returns and calls. -/
abbrev CL : List vw_C := vwCL
abbrev PostT : Type := Option Value → Lam → Mem → Prop
def Qx (D : va_G) (A : Nat → Prop) (post : PostT) : Array Value → State → Outcome → State → Prop := fun _ st oc t => (∃ (v : Option Value) (Λ : Lam) (σ : Mem), oc = .returned v ∧ post v Λ σ ∧ Hd D CL Λ σ t.heap ∧ KL D CL Λ t ∧ ∀ q y, Λ q = some y → A q) ∧ va_F A st t
def AL (Λ : Lam) (sz : Nat) : Nat → Prop := fun q => (∃ y, Λ q = some y) ∨ sz ≤ q
def NW (U : State) : Prop := va_Nw (.methodLinkNest "DirtyCardHeap" 26 y_O_init "DirtyCardHeap") U ∧ va_Nw (.methodLinkNest "DirtyCardHeap$Thing" 23 y_H_cardOf "DirtyCardHeap") U ∧ va_Nw (.methodLinkNest "DirtyCardHeap$OldPart" 57 y_H_cardOf "DirtyCardHeap") U ∧ va_AO "DirtyCardHeap$Thing" U
theorem NW.warm {s U : State} (hW : s.WarmedH U.vm) (h : NW s) : NW U := ⟨va_Nw.warmM hW h.1, va_Nw.warmM hW h.2.1, va_Nw.warmM hW h.2.2.1, va_AO.moved hW.alike h.2.2.2⟩
theorem NW.call {U : State} {g : JFrame} {mk : MethodId} {a : Array Value} (h : NW U) : NW (U.calling g mk a) := ⟨va_Nw.same rfl rfl h.1, va_Nw.same rfl rfl h.2.1, va_Nw.same rfl rfl h.2.2.1, va_AO.moved (u := U) (U := U.calling g mk a) (Vm.Alike.refl U.vm) h.2.2.2⟩
def Px (D : va_G) (Λ : Lam) (σ : Mem) (sz : Nat) (U : State) : Prop := U.heap.size = sz ∧ Hd D CL Λ σ U.heap ∧ KL D CL Λ U ∧ NW U
def Ct (l : Launch) (D : va_G) (y : MethodName) (ws : List Cond) (rm : Room) (as : List Value) (Λ : Lam) (σ : Mem) (post : PostT) : Prop := ∃ _ : Unit,
  ∀ sz : Nat, Met l y ws rm (va_Pc as (Px D Λ σ sz)) (Qx D (AL Λ sz) post) rm.cells rm.slots (AL Λ sz)
abbrev Cx : Type := Program × Launch × Env × Room × State × MethodId × Array Value × List Frame × Method × Code × va_G × (Nat → Prop)
abbrev xp (x : Cx) : Program := x.1
abbrev xl (x : Cx) : Launch := x.2.1
abbrev xe (x : Cx) : Env := x.2.2.1
abbrev xR (x : Cx) : Room := x.2.2.2.1
abbrev xs (x : Cx) : State := x.2.2.2.2.1
abbrev xm (x : Cx) : MethodId := x.2.2.2.2.2.1
abbrev xa (x : Cx) : Array Value := x.2.2.2.2.2.2.1
abbrev xb (x : Cx) : List Frame := x.2.2.2.2.2.2.2.1
abbrev xt (x : Cx) : Method := x.2.2.2.2.2.2.2.2.1
abbrev xc (x : Cx) : Code := x.2.2.2.2.2.2.2.2.2.1
abbrev xD (x : Cx) : va_G := x.2.2.2.2.2.2.2.2.2.2.1
abbrev xA (x : Cx) : Nat → Prop := x.2.2.2.2.2.2.2.2.2.2.2
abbrev WX (x : Cx) (post : PostT) (cells slots : Nat) (H : Heap) (locs : List Loc) (g : JFrame) : Prop :=
  W (xp x) (xl x) (xe x) (xR x) (xs x) (xm x) (xa x) (xb x) (xt x) (xc x) H locs cells slots (MQ (xb x) (Qx (xD x) (xA x) post) (xa x) (xs x) (xR x).cells (xR x).slots (xA x)) g
def AtG (x : Cx) (post : PostT) (nL pc cells slots : Nat) (Λ : Lam) (σ : Mem) (env : List (Nat × Value)) (stk : List Value) : Prop := ∃ _ : Unit,
  KL (xD x) CL Λ (xs x) → (∀ q y, Λ q = some y → xA x q) → ∀ (ls : Array Slot) (H : Heap) (locs : List Loc), lv_has ls nL env → Hd (xD x) CL Λ σ H → va_S (xA x) (xs x).heap H locs → WX x post cells slots H locs (F0 (xm x) pc ls stk)
def CxOk (x : Cx) (cc : ByteArray) (nL : Nat) (Ts : List Cond) (own : String) (ret : Option FieldType) (rm : Room) (nm : String) : Prop :=
  (xp x).tables.exec = Jvm.exec ∧ (xc x).code = cc ∧ (xc x).maxLocals = nL ∧ (xs x).vm.findClass own = some (xm x).cls ∧ (∀ w ∈ Ts, w.before (xa x) (xs x) = true) ∧ (xt x).sig.returnType = ret ∧ (xt x).locks = false ∧ xR x = rm ∧ (xt x).name = nm ∧ (∀ q : Nat, (xs x).heap.size ≤ q → xA x q) ∧ NW (xs x)
theorem AtG.use {x : Cx} {post : PostT} {nL pc cells slots : Nat} {Λ : Lam} {σ : Mem} {env : List (Nat × Value)} {stk : List Value} (h : AtG x post nL pc cells slots Λ σ env stk) : KL (xD x) CL Λ (xs x) → (∀ q y, Λ q = some y → xA x q) → ∀ (ls : Array Slot) (H : Heap) (locs : List Loc), lv_has ls nL env → Hd (xD x) CL Λ σ H → va_S (xA x) (xs x).heap H locs → WX x post cells slots H locs (F0 (xm x) pc ls stk) := by
  obtain ⟨_, h⟩ := h
  exact h
theorem Ct.use {l : Launch} {D : va_G} {y : MethodName} {ws : List Cond} {rm : Room} {as : List Value} {Λ : Lam} {σ : Mem} {post : PostT} (h : Ct l D y ws rm as Λ σ post) (sz : Nat) : Met l y ws rm (va_Pc as (Px D Λ σ sz)) (Qx D (AL Λ sz) post) rm.cells rm.slots (AL Λ sz) := by
  obtain ⟨_, h⟩ := h
  exact h sz
theorem Ct.of {l : Launch} {D : va_G} {y : MethodName} {ws ws' : List Cond} {rm : Room} {as : List Value} {Λ : Lam} {σ : Mem} {post : PostT} {cc : ByteArray} {maxL : Nat} {ret : Option FieldType} (hy : plainName y.cls = true) (hw : ws = Cond.code y cc maxL ret :: ws') (hlen : (lg_sl as).length ≤ maxL)
    (body : ∀ x : Cx, xl x = l → xD x = D → CxOk x cc maxL ws y.cls ret rm y.name → AtG x post maxL 0 0 0 Λ σ (lv_args 0 as) []) : Ct l D y ws rm as Λ σ post := by
  refine ⟨(), fun sz => ?_⟩
  refine Met.ofW (cc := cc) (maxL := maxL) (ret := ret) hy hw ?_
  intro p e s m args below meth c s₁ B hml hv
  obtain ⟨rfl, hsz, hP, hK, hNW⟩ := hv
  subst hsz
  have hown : s.vm.findClass y.cls = some m.cls := findClass_of_methodNamed B.named
  have hts := atoms_spec (ws := ws) B.pre
  have hl := lv_entry as (n := maxL) hlen
  rw [lg_entry_eq]
  exact AtG.use (body (p, l, e, rm, s, m, as.toArray, below, meth, c, D, AL Λ s.heap.size) rfl rfl ⟨B.exec, B.bytes, hml, hown, hts, B.returns, B.notSynchronized, rfl, (name_of_methodNamed B.named B.method).1, fun q h => Or.inr h, hNW⟩) hK (fun q y' hq => Or.inl ⟨y', hq⟩) _ s.heap [] hl hP va_S.rf
-- what a method answers
def pI (Λ : Lam) (P : Int → Mem → Prop) : PostT := fun v Λ' σ' => ∃ z : Int, v = some (.int (iI z)) ∧ Λ = Λ' ∧ P z σ'
def pV (Λ : Lam) (P : Mem → Prop) : PostT := fun v Λ' σ' => v = none ∧ Λ = Λ' ∧ P σ'
def pQ (Λ : Lam) (P : Option Nat → Mem → Prop) : PostT := fun v Λ' σ' => ∃ o : Option Nat, v = some (va_rf o) ∧ Λ = Λ' ∧ P o σ'
section CTR
variable {x : Cx} {post : PostT} {cells slots : Nat} {H : Heap} {locs : List Loc} {Λ : Lam} {σ : Mem} {cc : ByteArray} {pc : Nat} {ls : Array Slot}
theorem r_iret (hexec : (xp x).tables.exec = Jvm.exec) (hb : (xc x).code = cc) (hr : (xt x).sig.returnType = some .int) (hlk : (xt x).locks = false) (hK : KL (xD x) CL Λ (xs x)) (hA : ∀ q y, Λ q = some y → xA x q) (hP : Hd (xD x) CL Λ σ H) (hS : va_S (xA x) (xs x).heap H locs) {z : Int} (T : post (some (.int (iI z))) Λ σ) (hc : cells ≤ (xR x).cells) (hs : slots ≤ (xR x).slots) (hdg : decode cc pc = .ok (.ireturn, 1)) : WX x post cells slots H locs (F0 (xm x) pc ls [.int (iI z)]) := by
  refine W.widen (k := (xR x).cells) (n := (xR x).slots) hc hs ?_
  exact W.iret hexec hb hr (fun t ht hW => ⟨⟨_, Λ, σ, rfl, T, by rw [ht]; exact hP, hK.moved hW.alike, hA⟩, hS.F ht⟩) hS.2.2 hdg hlk
theorem r_zret (hexec : (xp x).tables.exec = Jvm.exec) (hb : (xc x).code = cc) (hr : (xt x).sig.returnType = some .boolean) (hlk : (xt x).locks = false) (hK : KL (xD x) CL Λ (xs x)) (hA : ∀ q y, Λ q = some y → xA x q) (hP : Hd (xD x) CL Λ σ H) (hS : va_S (xA x) (xs x).heap H locs) {z : Int} (hz : z = 0 ∨ z = 1) (T : post (some (.int (iI z))) Λ σ) (hc : cells ≤ (xR x).cells) (hs : slots ≤ (xR x).slots) (hdg : decode cc pc = .ok (.ireturn, 1)) : WX x post cells slots H locs (F0 (xm x) pc ls [.int (iI z)]) := by
  refine W.widen (k := (xR x).cells) (n := (xR x).slots) hc hs ?_
  exact W.zret hexec hb hr (by rcases hz with rfl | rfl <;> rfl) (fun t ht hW => ⟨⟨_, Λ, σ, rfl, T, by rw [ht]; exact hP, hK.moved hW.alike, hA⟩, hS.F ht⟩) hS.2.2 hdg hlk
theorem r_vret (hexec : (xp x).tables.exec = Jvm.exec) (hb : (xc x).code = cc) (hr : (xt x).sig.returnType = none) (hlk : (xt x).locks = false) (hK : KL (xD x) CL Λ (xs x)) (hA : ∀ q y, Λ q = some y → xA x q) (hP : Hd (xD x) CL Λ σ H) (hS : va_S (xA x) (xs x).heap H locs) (T : post none Λ σ) (hc : cells ≤ (xR x).cells) (hs : slots ≤ (xR x).slots) (hdg : decode cc pc = .ok (.return_, 1)) : WX x post cells slots H locs (F0 (xm x) pc ls []) := by
  refine W.widen (k := (xR x).cells) (n := (xR x).slots) hc hs ?_
  exact W.vret hexec hb hr (fun t ht hW => ⟨⟨_, Λ, σ, rfl, T, by rw [ht]; exact hP, hK.moved hW.alike, hA⟩, hS.F ht⟩) hS.2.2 hdg hlk
theorem r_aret (hexec : (xp x).tables.exec = Jvm.exec) (hb : (xc x).code = cc) {cn : String} (hr : (xt x).sig.returnType = some (.object cn)) (hlk : (xt x).locks = false) (hK : KL (xD x) CL Λ (xs x)) (hA : ∀ q y, Λ q = some y → xA x q) (hP : Hd (xD x) CL Λ σ H) (hS : va_S (xA x) (xs x).heap H locs) {o : Option Nat} (T : post (some (va_rf o)) Λ σ) (hc : cells ≤ (xR x).cells) (hs : slots ≤ (xR x).slots) (hdg : decode cc pc = .ok (.areturn, 1)) : WX x post cells slots H locs (F0 (xm x) pc ls [va_rf o]) := by
  refine W.widen (k := (xR x).cells) (n := (xR x).slots) hc hs ?_
  exact W.aret hexec hb hr (Or.inl ⟨cn, rfl⟩) (va_rf_or o) (fun t ht hW => ⟨⟨_, Λ, σ, rfl, T, by rw [ht]; exact hP, hK.moved hW.alike, hA⟩, hS.F ht⟩) hS.2.2 hdg hlk
end CTR
section CCL
variable {p : Program} {l : Launch} {e : Env} {R : Room} {s : State} {m : MethodId} {args : Array Value} {below : List Frame} {meth : Method} {c : Code} {H : Heap} {locs : List Loc} {cells slots : Nat} {Q : State → Prop}
variable {cc : ByteArray} {pc : Nat} {ls : Array Slot} {rest st0 : List Value} {D : va_G} {A : Nat → Prop} {Λ : Lam} {σ : Mem} {H0 : Heap} {a : Array Value} {mc ms : Nat} {post : PostT}
theorem px_blind {as : List Value} {sz : Nat} : FrameBlind (va_Pc as (Px D Λ σ sz)) := fun a U g mk q => by
  obtain ⟨q0, q1, qP, qK, qN⟩ := q
  exact ⟨q0, q1, qP, KL.moved (u := U) (U := U.calling g mk a) (Vm.Alike.refl U.vm) qK, qN.call⟩
theorem px_preS {as : List Value} (hN : NW s) (hK : KL D CL Λ s) (hP : Hd D CL Λ σ H) : PreS s H (va_Pc as (Px D Λ σ H.size)) as :=
  ⟨px_blind, fun U hU hW => ⟨rfl, by rw [hU], by rw [hU]; exact hP, hK.moved hW.alike, hN.warm hW⟩⟩
theorem px_preV {as : List Value} {b ci : Nat} {q : vw_C} {tm : List (Option (Option Nat))} (hN : NW s) (hK : KL D CL Λ s) (hP : Hd D CL Λ σ H) (hy : Λ b = some (.inr (ci, tm))) (hc : CL[ci]? = some q) : PreV s H q.1 b (va_Pc (.ref b :: as) (Px D Λ σ H.size)) as :=
  ⟨px_blind, va_recv hK.1 (hP.one hy) hc (q0 := 0) rfl, fun U hU hW => ⟨rfl, by rw [hU], by rw [hU]; exact hP, hK.moved hW.alike, hN.warm hW⟩⟩
theorem r_callL (hr : va_Run p l e R s m args below meth c H locs cells slots mc ms (F0 m pc ls st0) rest (Qx D (AL Λ H.size) post a) (AL Λ H.size)) (hS : va_S A H0 H locs) (hA : ∀ q y, Λ q = some y → A q) (hAs : ∀ q : Nat, H0.size ≤ q → A q)
    (kk : ∀ (v : Option Value) (Λ' : Lam) (σ' : Mem) (H1 : Heap) (locs1 : List Loc), post v Λ' σ' → Hd D CL Λ' σ' H1 → KL D CL Λ' s → (∀ q y, Λ' q = some y → AL Λ H.size q) → va_S A H0 H1 locs1 → H.size ≤ H1.size → (∀ q : Nat, q < H.size → ¬ AL Λ H.size q → H1[q]? = H[q]?) → W p l e R s m args below meth c H1 locs1 (cells + mc) (slots + ms) Q (F0 m (pc + 3) ls (v.toList ++ rest))) : W p l e R s m args below meth c H locs cells slots Q (F0 m pc ls st0) := by
  have hAL : ∀ q, AL Λ H.size q → A q := by
    rintro q (⟨y, h⟩ | h)
    · exact hA q y h
    · exact hAs q (Nat.le_trans hS.1 h)
  intro T hT X
  obtain ⟨v, st₀, t, T', L, h0, X', hL, e1, e2, ⟨⟨v', Λ', σ', hv, hp, hH, hKt, hA'⟩, hz, hk⟩, st⟩ := hr T hT X
  cases hv
  rw [h0] at hz hk
  have hal : s.vm.Alike t.vm := by rw [← e2]; exact X'.warmed.alike
  obtain ⟨t2, a1, b1⟩ := kk v Λ' σ' T'.heap (locs ++ L) hp (by rw [e1]; exact hH) (hKt.moved hal.symm) hA'
    ⟨Nat.le_trans hS.1 (by rw [e1]; exact hz), fun q h1 h2 => by rw [e1, hk q (Nat.lt_of_lt_of_le h1 hS.1) (fun z => h2 (hAL q z))]; exact hS.2.1 q h1 h2, fun q hq => by
      rcases List.mem_append.mp hq with h | h
      · exact hS.2.2 q h
      · exact hAL _ (hL q h)⟩ (by rw [e1]; exact hz) (fun q h1 h2 => by rw [e1]; exact hk q h1 h2) T' rfl X'
  exact ⟨t2, st t2 a1, b1⟩
theorem r_call (hr : va_Run p l e R s m args below meth c H locs cells slots mc ms (F0 m pc ls st0) rest (Qx D (AL Λ H.size) post a) (AL Λ H.size)) (hS : va_S A H0 H locs) (hA : ∀ q y, Λ q = some y → A q) (hAs : ∀ q : Nat, H0.size ≤ q → A q)
    (kk : ∀ (v : Option Value) (Λ' : Lam) (σ' : Mem) (H1 : Heap) (locs1 : List Loc), post v Λ' σ' → Hd D CL Λ' σ' H1 → KL D CL Λ' s → (∀ q y, Λ' q = some y → A q) → va_S A H0 H1 locs1 → W p l e R s m args below meth c H1 locs1 (cells + mc) (slots + ms) Q (F0 m (pc + 3) ls (v.toList ++ rest))) : W p l e R s m args below meth c H locs cells slots Q (F0 m pc ls st0) := by
  refine r_callL hr hS hA hAs (fun v Λ' σ' H1 locs1 hp hH hK hA' hS' _ _ => kk v Λ' σ' H1 locs1 hp hH hK (fun q y h => ?_) hS')
  rcases hA' q y h with ⟨y', h'⟩ | h'
  · exact hA q y' h'
  · exact hAs q (Nat.le_trans hS.1 h')
-- rows for a reference that may be null
theorem r_aload_n (hexec : p.tables.exec = Jvm.exec) (hb : c.code = cc) {k : Fin 4} {i : Nat} {o : Option Nat} (hdg : decode cc pc = .ok (.aload_n k, 1)) (hi : (k : Nat) = i) (hl : ls[i]? = some (.val (va_rf o)))
    (kk : W p l e R s m args below meth c H locs cells slots Q (F0 m (pc + 1) ls (va_rf o :: rest))) : W p l e R s m args below meth c H locs cells slots Q (F0 m pc ls rest) := by
  cases o with
  | none => exact lv_aload_nN hexec hb hdg hi hl kk
  | some t => exact lv_aload_n hexec hb hdg hi hl kk
theorem r_aload (hexec : p.tables.exec = Jvm.exec) (hb : c.code = cc) {i : Nat} {o : Option Nat} (hdg : decode cc pc = .ok (.aload i, 2)) (hl : ls[i]? = some (.val (va_rf o)))
    (kk : W p l e R s m args below meth c H locs cells slots Q (F0 m (pc + 2) ls (va_rf o :: rest))) : W p l e R s m args below meth c H locs cells slots Q (F0 m pc ls rest) := by
  cases o with
  | none => exact lv_aloadN hexec hb hdg hl kk
  | some t => exact lv_aload hexec hb hdg hl kk
theorem r_astore_n (hexec : p.tables.exec = Jvm.exec) (hb : c.code = cc) {k : Fin 4} {i nL : Nat} {o : Option Nat} {lv lv' : List (Nat × Value)} (hdg : decode cc pc = .ok (.astore_n k, 1)) (hi : (k : Nat) = i) (h : lv_has ls nL lv) (hn : i < nL) (hl : (i, va_rf o) :: lv.filter (fun q => !(q.1 == i) && !(q.1 + 1 == i && q.2.category == 2)) = lv')
    (kk : ∀ ls' : Array Slot, lv_has ls' nL lv' → W p l e R s m args below meth c H locs cells slots Q (F0 m (pc + 1) ls' rest)) : W p l e R s m args below meth c H locs cells slots Q (F0 m pc ls (va_rf o :: rest)) := by
  cases o with
  | none => exact lv_astore_nN hexec hb hdg hi h hn hl kk
  | some t => exact lv_astore_n hexec hb hdg hi h hn hl kk
theorem r_astore (hexec : p.tables.exec = Jvm.exec) (hb : c.code = cc) {i nL : Nat} {o : Option Nat} {lv lv' : List (Nat × Value)} (hdg : decode cc pc = .ok (.astore i, 2)) (h : lv_has ls nL lv) (hn : i < nL) (hl : (i, va_rf o) :: lv.filter (fun q => !(q.1 == i) && !(q.1 + 1 == i && q.2.category == 2)) = lv')
    (kk : ∀ ls' : Array Slot, lv_has ls' nL lv' → W p l e R s m args below meth c H locs cells slots Q (F0 m (pc + 2) ls' rest)) : W p l e R s m args below meth c H locs cells slots Q (F0 m pc ls (va_rf o :: rest)) := by
  cases o with
  | none => exact lv_astoreN hexec hb hdg h hn hl kk
  | some t => exact lv_astore hexec hb hdg h hn hl kk
theorem r_ifnull (hexec : p.tables.exec = Jvm.exec) (hb : c.code = cc) {o : Option Nat} {off : Int} {tgt : Nat} (hdg : decode cc pc = .ok (.ifnull off, 3)) (ht : (pc : Int) + off = (tgt : Int))
    (kn : o = none → W p l e R s m args below meth c H locs cells slots Q (F0 m tgt ls rest)) (ks : ∀ t, o = some t → W p l e R s m args below meth c H locs cells slots Q (F0 m (pc + 3) ls rest)) : W p l e R s m args below meth c H locs cells slots Q (F0 m pc ls (va_rf o :: rest)) := by
  cases o with
  | none => exact lv_ifnullN hexec hb hdg ht (kn rfl)
  | some t => exact lv_ifnull hexec hb hdg (ks t rfl)
theorem r_ifnonnull (hexec : p.tables.exec = Jvm.exec) (hb : c.code = cc) {o : Option Nat} {off : Int} {tgt : Nat} (hdg : decode cc pc = .ok (.ifnonnull off, 3)) (ht : (pc : Int) + off = (tgt : Int))
    (kn : o = none → W p l e R s m args below meth c H locs cells slots Q (F0 m (pc + 3) ls rest)) (ks : ∀ t, o = some t → W p l e R s m args below meth c H locs cells slots Q (F0 m tgt ls rest)) : W p l e R s m args below meth c H locs cells slots Q (F0 m pc ls (va_rf o :: rest)) := by
  cases o with
  | none => exact lv_ifnonnullN hexec hb hdg (kn rfl)
  | some t => exact lv_ifnonnull hexec hb hdg ht (ks t rfl)
theorem va_rf_cat (o : Option Nat) : (va_rf o).category = 1 := by cases o <;> rfl
end CCL
