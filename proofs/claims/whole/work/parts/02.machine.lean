/-! The machine layer: a typed picture of memory (numbers as Int), one row an instruction, one form of contract. -/
def iI (z : Int) : Int32 := Int32.ofInt z
abbrev rng (z : Int) : Prop := -2147483648 ≤ z ∧ z < 2147483648
theorem iI_toInt {z : Int} (h : rng z) : (iI z).toInt = z := Int32.toInt_ofInt_of_le (by have := h.1; omega) (by have := h.2; omega)
theorem iI_of (x : Int32) : iI x.toInt = x := Int32.ofInt_toInt x
theorem rng_of (x : Int32) : rng x.toInt := ⟨by have := Int32.le_toInt x; omega, by have := Int32.toInt_lt x; omega⟩
theorem iI_add (a b : Int) : iI a + iI b = iI (a + b) := (Int32.ofInt_add a b).symm
theorem iI_sub (a b : Int) : iI a - iI b = iI (a - b) := (Int32.ofInt_sub a b).symm
theorem iI_mul (a b : Int) : iI a * iI b = iI (a * b) := (Int32.ofInt_mul a b).symm
theorem iI_lt {a b : Int} (ha : rng a) (hb : rng b) : iI a < iI b ↔ a < b := by rw [Int32.lt_iff_toInt_lt, iI_toInt ha, iI_toInt hb]
theorem iI_le {a b : Int} (ha : rng a) (hb : rng b) : iI a ≤ iI b ↔ a ≤ b := by rw [Int32.le_iff_toInt_le, iI_toInt ha, iI_toInt hb]
theorem iI_eq {a b : Int} (ha : rng a) (hb : rng b) : iI a = iI b ↔ a = b := by rw [← Int32.toInt_inj, iI_toInt ha, iI_toInt hb]
theorem rng_0 : rng 0 := ⟨by omega, by omega⟩
theorem iI_0 : (0 : Int32) = iI 0 := rfl
theorem iI_lt0 {a : Int} (ha : rng a) : iI a < 0 ↔ a < 0 := by rw [iI_0]; exact iI_lt ha rng_0
theorem iI_le0 {a : Int} (ha : rng a) : iI a ≤ 0 ↔ a ≤ 0 := by rw [iI_0]; exact iI_le ha rng_0
theorem iI_0lt {a : Int} (ha : rng a) : 0 < iI a ↔ 0 < a := by rw [iI_0]; exact iI_lt rng_0 ha
theorem iI_0le {a : Int} (ha : rng a) : 0 ≤ iI a ↔ 0 ≤ a := by rw [iI_0]; exact iI_le rng_0 ha
theorem iI_eq0 {a : Int} (ha : rng a) : iI a = 0 ↔ a = 0 := by rw [iI_0]; exact iI_eq ha rng_0
theorem iI_nat (n : Nat) : Int32.ofNat n = iI n := by unfold iI Int32.ofInt Int32.ofNat; rw [BitVec.ofInt_natCast]
theorem iI_in {z : Int} {n : Nat} (h0 : 0 ≤ z) (h : z < n) (hn : n < 2147483648) : vp_in (iI z) n := by
  rw [vp_in_iff, iI_toInt ⟨by omega, by omega⟩]
  exact ⟨h0, h⟩
theorem iI_cl {z : Int} (h : rng z) : (iI z).toNatClampNeg = z.toNat := by
  show (iI z).toInt.toNat = z.toNat
  rw [iI_toInt h]
def iOr (a b : Int) : Int := (iI a ||| iI b).toInt
def iAnd (a b : Int) : Int := (iI a &&& iI b).toInt
def iXor (a b : Int) : Int := (iI a ^^^ iI b).toInt
def iShl (a b : Int) : Int := (iI a <<< (iI b &&& 31)).toInt
def iDiv (a b : Int) : Int := (iI a / iI b).toInt
theorem iI_or (a b : Int) : iI a ||| iI b = iI (iOr a b) := (iI_of _).symm
theorem iI_and (a b : Int) : iI a &&& iI b = iI (iAnd a b) := (iI_of _).symm
theorem iI_xor (a b : Int) : iI a ^^^ iI b = iI (iXor a b) := (iI_of _).symm
theorem iI_shl (a b : Int) : iI a <<< (iI b &&& 31) = iI (iShl a b) := (iI_of _).symm
theorem iI_div (a b : Int) : iI a / iI b = iI (iDiv a b) := (iI_of _).symm
theorem rng_or (a b : Int) : rng (iOr a b) := rng_of _
theorem rng_and (a b : Int) : rng (iAnd a b) := rng_of _
theorem rng_xor (a b : Int) : rng (iXor a b) := rng_of _
theorem rng_shl (a b : Int) : rng (iShl a b) := rng_of _
theorem rng_div (a b : Int) : rng (iDiv a b) := rng_of _
theorem iI_max {x y : Int} (hx : rng x) (hy : rng y) : (if iI x < iI y then iI y else iI x) = iI (max x y) := by
  by_cases h : x < y
  · rw [if_pos ((iI_lt hx hy).mpr h), Int.max_eq_right (by omega)]
  · rw [if_neg (fun q => h ((iI_lt hx hy).mp q)), Int.max_eq_left (by omega)]
theorem iI_min {x y : Int} (hx : rng x) (hy : rng y) : (if iI y < iI x then iI y else iI x) = iI (min x y) := by
  by_cases h : y < x
  · rw [if_pos ((iI_lt hy hx).mpr h), Int.min_eq_right (by omega)]
  · rw [if_neg (fun q => h ((iI_lt hy hx).mp q)), Int.min_eq_left (by omega)]
-- memory: the layout of each known address, and the numbers and references that it holds
abbrev Lay : Type := (ClassId × Nat × Nat) ⊕ (Nat × List (Option (Option Nat)))
abbrev Lam : Type := Nat → Option Lay
abbrev Mem : Type := (Nat → Nat → Int) × (Nat → Nat → Nat → Int) × (Nat → Nat → Nat → Option Nat)
def tyK (kd : Nat) : FieldType := if kd < 50 then .int else if kd < 100 then .boolean else .object "DirtyCardHeap$Thing"
def fldV (σ : Mem) (ci q : Nat) (tm : List (Option (Option Nat))) : List Value := tm.mapIdx (fun k o => match o with
  | none => .int (iI (σ.1 (100 * ci + k) q))
  | some r => va_rf r)
def cellA (σ : Mem) (q n kd : Nat) : vp_A := if kd < 100 then (n, .inl (fun j => iI (σ.2.1 kd q j))) else (n, .inr (.inr (.inr (.inr (fun j => σ.2.2 kd q j)))))
def cellE (σ : Mem) (q : Nat) (y : Lay) : va_E := match y with
  | .inl (cA, n, kd) => .inl (cA, cellA σ q n kd)
  | .inr (ci, tm) => .inr (ci, fldV σ ci q tm)
def Hd (D : va_G) (cl : List vw_C) (Λ : Lam) (σ : Mem) (H : Heap) : Prop := ∀ (q : Nat) (y : Lay), Λ q = some y → va_at D cl (q, cellE σ q y) H
def KL (D : va_G) (cl : List vw_C) (Λ : Lam) (U : State) : Prop := va_K D cl [] U ∧ ∀ (q : Nat) (cA : ClassId) (n kd : Nat), Λ q = some (.inl (cA, n, kd)) → ArrOfT U cA (tyK kd) ∧ va_RA U cA (tyK kd)
theorem KL.moved {D : va_G} {cl : List vw_C} {Λ : Lam} {u U : State} (hvm : u.vm.Alike U.vm) (h : KL D cl Λ u) : KL D cl Λ U :=
  ⟨h.1.moved hvm, fun q cA n kd hq => ⟨arrOfT_moved hvm (h.2 q cA n kd hq).1, (h.2 q cA n kd hq).2.moved hvm⟩⟩
def upI (σ : Mem) (f q : Nat) (v : Int) : Mem := (fun f' q' => if f' = f ∧ q' = q then v else σ.1 f' q', σ.2.1, σ.2.2)
def upY (σ : Mem) (kd q k : Nat) (v : Int) : Mem := (σ.1, fun kd' q' k' => if kd' = kd ∧ q' = q ∧ k' = k then v else σ.2.1 kd' q' k', σ.2.2)
def upX (σ : Mem) (kd q k : Nat) (v : Option Nat) : Mem := (σ.1, σ.2.1, fun kd' q' k' => if kd' = kd ∧ q' = q ∧ k' = k then v else σ.2.2 kd' q' k')
def zap (σ : Mem) (q : Nat) : Mem := (fun f' q' => if q' = q then 0 else σ.1 f' q', fun kd' q' k' => if q' = q then 0 else σ.2.1 kd' q' k', fun kd' q' k' => if q' = q then none else σ.2.2 kd' q' k')
def upL (Λ : Lam) (q : Nat) (y : Lay) : Lam := fun q' => if q' = q then some y else Λ q'
theorem fldV_at {σ : Mem} {ci q k : Nat} {tm : List (Option (Option Nat))} (h : tm[k]? = some none) : (fldV σ ci q tm)[k]? = some (.int (iI (σ.1 (100 * ci + k) q))) := by
  unfold fldV
  rw [List.getElem?_mapIdx, h]
  rfl
theorem fldV_ref {σ : Mem} {ci q k a : Nat} {tm : List (Option (Option Nat))} (h : tm[k]? = some (some (some a))) : (fldV σ ci q tm)[k]? = some (.ref a) := by
  unfold fldV
  rw [List.getElem?_mapIdx, h]
  rfl
theorem fldV_len {σ : Mem} {ci q : Nat} {tm : List (Option (Option Nat))} : (fldV σ ci q tm).length = tm.length := by
  unfold fldV
  rw [List.length_mapIdx]
theorem fldV_set {σ : Mem} {ci q k : Nat} {tm : List (Option (Option Nat))} {v : Int} (h : tm[k]? = some none) : (fldV σ ci q tm).set k (.int (iI v)) = fldV (upI σ (100 * ci + k) q v) ci q tm := by
  apply List.ext_getElem?
  intro j
  rw [List.getElem?_set]
  by_cases hj : k = j
  · subst hj
    rw [if_pos rfl, fldV_at h]
    have hl : k < (fldV σ ci q tm).length := by rw [fldV_len]; exact (List.getElem?_eq_some_iff.mp h).1
    simp [hl, upI]
  · rw [if_neg hj]
    unfold fldV
    rw [List.getElem?_mapIdx, List.getElem?_mapIdx]
    cases tm[j]? with
    | none => rfl
    | some o => cases o with
      | none => simp only [Option.map_some]; rw [show (upI σ (100 * ci + k) q v).1 (100 * ci + j) q = σ.1 (100 * ci + j) q by simp only [upI]; rw [if_neg (by omega)]]
      | some a => rfl
theorem cellE_I {σ : Mem} {f q q' : Nat} {v : Int} {y : Lay} (h : q' ≠ q) : cellE (upI σ f q v) q' y = cellE σ q' y := by
  have e : ∀ ci tm, fldV (upI σ f q v) ci q' tm = fldV σ ci q' tm := by
    intro ci tm
    unfold fldV
    congr 1
    funext k o
    cases o with
    | none => simp only [upI]; rw [if_neg (fun z => h z.2)]
    | some a => rfl
  rcases y with ⟨cA, n, kd⟩ | ⟨ci, tm⟩
  · rfl
  · show Sum.inr (ci, _) = Sum.inr (ci, _)
    rw [e]
theorem cellE_Y {σ : Mem} {kd q q' k : Nat} {v : Int} {y : Lay} (h : q' ≠ q) : cellE (upY σ kd q k v) q' y = cellE σ q' y := by
  rcases y with ⟨cA, n, kd'⟩ | ⟨ci, tm⟩
  · show Sum.inl (cA, cellA _ _ _ _) = Sum.inl (cA, cellA _ _ _ _)
    unfold cellA
    simp [upY, h]
  · rfl
theorem cellE_X {σ : Mem} {kd q q' k : Nat} {v : Option Nat} {y : Lay} (h : q' ≠ q) : cellE (upX σ kd q k v) q' y = cellE σ q' y := by
  rcases y with ⟨cA, n, kd'⟩ | ⟨ci, tm⟩
  · show Sum.inl (cA, cellA _ _ _ _) = Sum.inl (cA, cellA _ _ _ _)
    unfold cellA
    simp [upX, h]
  · rfl
theorem cellE_z {σ : Mem} {q q' : Nat} {y : Lay} (h : q' ≠ q) : cellE (zap σ q) q' y = cellE σ q' y := by
  rcases y with ⟨cA, n, kd'⟩ | ⟨ci, tm⟩
  · show Sum.inl (cA, cellA _ _ _ _) = Sum.inl (cA, cellA _ _ _ _)
    unfold cellA
    simp only [zap, if_neg h]
  · show Sum.inr (ci, _) = Sum.inr (ci, _)
    unfold fldV
    simp only [zap, if_neg h]
theorem Hd.put {D : va_G} {cl : List vw_C} {Λ : Lam} {σ σ' : Mem} {H H1 : Heap} {a : Nat} {y : Lay} (h : Hd D cl Λ σ H) (hy : Λ a = some y) (hn : va_at D cl (a, cellE σ' a y) H1) (ho : ∀ q y', q ≠ a → cellE σ' q y' = cellE σ q y') (oq : ∀ q : Nat, q ≠ a → H1[q]? = H[q]?) : Hd D cl Λ σ' H1 := by
  intro q y' hq
  by_cases e : q = a
  · subst e
    rw [hy] at hq
    cases hq
    exact hn
  · rw [ho q y' e]
    exact (h q y' hq).kept (oq q e)
theorem Hd.lt {D : va_G} {cl : List vw_C} {Λ : Lam} {σ : Mem} {H : Heap} (h : Hd D cl Λ σ H) {q : Nat} {y : Lay} (hq : Λ q = some y) : q < H.size := (h q y hq).lt
theorem Hd.push {D : va_G} {cl : List vw_C} {Λ : Lam} {σ : Mem} {H H1 : Heap} {y : Lay} (h : Hd D cl Λ σ H) (hn : va_at D cl (H.size, cellE (zap σ H.size) H.size y) H1) (o1 : ∀ q : Nat, q < H.size → H1[q]? = H[q]?) : Hd D cl (upL Λ H.size y) (zap σ H.size) H1 := by
  intro q y' hq
  unfold upL at hq
  by_cases e : q = H.size
  · rw [if_pos e] at hq
    cases hq
    rw [e]
    exact hn
  · rw [if_neg e] at hq
    rw [cellE_z e]
    exact (h q y' hq).kept (o1 q (h.lt hq))
theorem fldV_setR {σ : Mem} {ci q k b : Nat} {tm : List (Option (Option Nat))} : (fldV σ ci q tm).set k (.ref b) = fldV σ ci q (tm.set k (some (some b))) := by
  apply List.ext_getElem?
  intro j
  unfold fldV
  rw [List.getElem?_set, List.getElem?_mapIdx, List.getElem?_mapIdx, List.getElem?_set]
  by_cases hj : k = j
  · subst hj
    rw [if_pos rfl, if_pos rfl]
    by_cases hl : k < tm.length
    · simp [hl]; rfl
    · simp [hl]
  · rw [if_neg hj, if_neg hj]
theorem upL_ne {Λ : Lam} {q a : Nat} {y y' : Lay} (h : Λ a = some y) (hq : Λ q = none) : upL Λ q y' a = some y := by
  unfold upL
  rw [if_neg (fun e => by rw [e, hq] at h; cases h)]
  exact h
theorem upL_at {Λ : Lam} {q : Nat} {y : Lay} : upL Λ q y q = some y := by
  unfold upL
  rw [if_pos rfl]
theorem upL_nn {Λ : Lam} {q a : Nat} {y : Lay} (h : a ≠ q) : upL Λ q y a = Λ a := by
  unfold upL
  rw [if_neg h]
