theorem r_born {σ : Mem} {ci N : Nat} {tm : List (Option (Option Nat))} {ty : Nat → FieldType} (hd : ∀ j, j < N → (tm[j]? = some none ∧ defaultValue (ty j) = .int 0) ∨ (tm[j]? = some (some none) ∧ defaultValue (ty j) = .null)) : ∀ q j, j < N → defaultValue (ty j) = vp_V (fldV (zap σ q) ci q tm) j := by
  intro q j hj
  rcases hd j hj with ⟨h1, h2⟩ | ⟨h1, h2⟩
  · rw [h2]
    unfold vp_V
    rw [List.getD_eq_getElem?_getD, fldV_at h1]
    show Value.int 0 = Value.int (iI ((zap σ q).1 (100 * ci + j) q))
    simp [zap]
    rfl
  · rw [h2]
    unfold vp_V fldV
    rw [List.getD_eq_getElem?_getD, List.getElem?_mapIdx, h1]
    rfl
theorem bg_12 : Cond.methodLink "DirtyCardHeap" 3 (⟨"java/lang/Object", "<init>", "()V"⟩ : MethodName) ∈ BG := bg_t (List.mem_of_getElem? (i := 12) (by decide +kernel)) rfl
theorem bg_13 : Cond.instanceMethod (⟨"java/lang/Object", "<init>", "()V"⟩ : MethodName) ∈ BG := bg_t (List.mem_of_getElem? (i := 13) (by decide +kernel)) rfl
theorem bg_14 : Cond.code (⟨"java/lang/Object", "<init>", "()V"⟩ : MethodName) object_method_1_code 1 (Option.none : Option FieldType) ∈ BG := bg_t (List.mem_of_getElem? (i := 14) (by decide +kernel)) rfl
theorem bg_15 : Cond.classLink "DirtyCardHeap" 9 "DirtyCardHeap$Thing" ∈ BG := bg_t (List.mem_of_getElem? (i := 15) (by decide +kernel)) rfl
theorem bg_17 : Cond.classLink "DirtyCardHeap" 15 "DirtyCardHeap$Row" ∈ BG := bg_t (List.mem_of_getElem? (i := 17) (by decide +kernel)) rfl
theorem bg_18 : Cond.instantiable "DirtyCardHeap$Row" 2 ∈ BG := bg_t (List.mem_of_getElem? (i := 18) (by decide +kernel)) rfl
theorem bg_19 : Cond.methodLink "DirtyCardHeap" 17 y_R_init ∈ BG := bg_t (List.mem_of_getElem? (i := 19) (by decide +kernel)) rfl
theorem bg_20 : Cond.instanceMethod y_R_init ∈ BG := bg_t (List.mem_of_getElem? (i := 20) (by decide +kernel)) rfl
theorem bg_22 : Cond.methodLink "DirtyCardHeap$Row" 1 (⟨"java/lang/Object", "<init>", "()V"⟩ : MethodName) ∈ BG := bg_t (List.mem_of_getElem? (i := 22) (by decide +kernel)) rfl
theorem bg_23 : Cond.classLink "DirtyCardHeap$Row" 7 "DirtyCardHeap$Thing" ∈ BG := bg_t (List.mem_of_getElem? (i := 23) (by decide +kernel)) rfl
theorem bg_33 : Cond.classLink "DirtyCardHeap" 24 "DirtyCardHeap$OldPart" ∈ BG := bg_t (List.mem_of_getElem? (i := 33) (by decide +kernel)) rfl
theorem bg_34 : Cond.instantiable "DirtyCardHeap$OldPart" 1 ∈ BG := bg_t (List.mem_of_getElem? (i := 34) (by decide +kernel)) rfl
theorem bg_36 : Cond.instanceMethod y_O_init ∈ BG := bg_t (List.mem_of_getElem? (i := 36) (by decide +kernel)) rfl
theorem bg_38 : Cond.methodLink "DirtyCardHeap$OldPart" 3 (⟨"java/lang/Object", "<init>", "()V"⟩ : MethodName) ∈ BG := bg_t (List.mem_of_getElem? (i := 38) (by decide +kernel)) rfl
theorem bg_39 : Cond.classLink "DirtyCardHeap$OldPart" 9 "DirtyCardHeap$Thing" ∈ BG := bg_t (List.mem_of_getElem? (i := 39) (by decide +kernel)) rfl
theorem bg_77 : Cond.methodLink "DirtyCardHeap" 51 y_H_hasRoom ∈ BG := bg_t (List.mem_of_getElem? (i := 77) (by decide +kernel)) rfl
theorem bg_79 : Cond.instanceMethod y_H_hasRoom ∈ BG := bg_t (List.mem_of_getElem? (i := 79) (by decide +kernel)) rfl
theorem bg_223 : Cond.instantiable "DirtyCardHeap$Thing" 7 ∈ BG := bg_t (List.mem_of_getElem? (i := 223) (by decide +kernel)) rfl
theorem bg_224 : Cond.methodLink "DirtyCardHeap" 61 y_T_init ∈ BG := bg_t (List.mem_of_getElem? (i := 224) (by decide +kernel)) rfl
theorem bg_225 : Cond.instanceMethod y_T_init ∈ BG := bg_t (List.mem_of_getElem? (i := 225) (by decide +kernel)) rfl
theorem bg_227 : Cond.methodLink "DirtyCardHeap$Thing" 1 (⟨"java/lang/Object", "<init>", "()V"⟩ : MethodName) ∈ BG := bg_t (List.mem_of_getElem? (i := 227) (by decide +kernel)) rfl
theorem bg_228 : Cond.classLink "DirtyCardHeap$Thing" 8 "DirtyCardHeap$Thing" ∈ BG := bg_t (List.mem_of_getElem? (i := 228) (by decide +kernel)) rfl
theorem bg_229 : Cond.fieldLink "DirtyCardHeap$Thing" 7 "DirtyCardHeap$Thing" "payload" "I" ∈ BG := bg_t (List.mem_of_getElem? (i := 229) (by decide +kernel)) rfl
theorem bg_234 : Cond.fieldLink "DirtyCardHeap$Thing" 17 "DirtyCardHeap$Thing" "age" "I" ∈ BG := bg_t (List.mem_of_getElem? (i := 234) (by decide +kernel)) rfl
theorem bg_390 : Cond.methodLink "DirtyCardHeapModel" 1 (⟨"java/lang/Object", "<init>", "()V"⟩ : MethodName) ∈ BG := bg_t (List.mem_of_getElem? (i := 390) (by decide +kernel)) rfl
theorem bg_458 : Cond.arrayClass FieldType.int ∈ BG := bg_t (List.mem_of_getElem? (i := 458) (by decide +kernel)) rfl
theorem bg_459 : Cond.arrayClass FieldType.boolean ∈ BG := bg_t (List.mem_of_getElem? (i := 459) (by decide +kernel)) rfl
theorem bg_523 : Cond.methodLink "DirtyCardHeapModel" 122 y_M_youngCells ∈ BG := bg_t (List.mem_of_getElem? (i := 523) (by decide +kernel)) rfl
theorem bg_524 : Cond.instanceMethod y_M_youngCells ∈ BG := bg_t (List.mem_of_getElem? (i := 524) (by decide +kernel)) rfl
theorem bg_525 : Cond.selects "DirtyCardHeapModel" y_M_youngCells y_M_youngCells ∈ BG := bg_t (List.mem_of_getElem? (i := 525) (by decide +kernel)) rfl
theorem bp_0 : Cond.selects "DirtyCardHeap" y_H_hasRoom y_H_hasRoom ∈ BG := bg_p (List.mem_map.mpr ⟨lw_privs[0]'(by decide), List.getElem_mem _, rfl⟩) rfl
