def BG : List Cond := lw_tbl.filter goodWord
theorem bg_t {w : Cond} (h : w ∈ tables_1) (hg : goodWord w = true) : w ∈ BG := List.mem_filter.mpr ⟨List.mem_append_right _ h, hg⟩
theorem bg_p {w : Cond} (h : w ∈ k2_sels lw_privs) (hg : goodWord w = true) : w ∈ BG := List.mem_filter.mpr ⟨List.mem_append_left _ h, hg⟩
theorem bg_good {w : Cond} (h : w ∈ BG) : goodWord w = true := (List.mem_filter.mp h).2
theorem gdW {c0 w : Cond} (h : w ∈ BG) : w ∈ c0 :: BG ∧ ((w.onTables && w.keeps) = true ∨ ∃ ty, w = .arrayClass ty) := ⟨List.mem_cons_of_mem _ h, good_of_word (bg_good h)⟩
theorem gdI {c0 c1 : Cond} (h : c1 ∈ BG) : GoodIn (c0 :: BG) (c1 :: BG) := fun w hw => (List.mem_cons.mp hw).elim (fun e => by rw [e]; exact gdW h) (fun h2 => gdW h2)
theorem gdV {c0 : Cond} {own C : String} {idx : Nat} {y : MethodName} {c1 : Cond} (h1 : Cond.methodLink own idx y ∈ BG) (h2 : Cond.instanceMethod y ∈ BG) (h3 : Cond.selects C y y ∈ BG) (h4 : Cond.initialized C ∈ BG) (h5 : c1 ∈ BG) : GoodIn (c0 :: BG) (wsV own idx C y (c1 :: BG)) := by
  intro w hw
  unfold wsV at hw
  rcases List.mem_append.mp hw with h | h
  · simp only [List.mem_cons, List.mem_nil_iff, or_false] at h
    rcases h with rfl | rfl | rfl | rfl
    · exact gdW h1
    · exact gdW h2
    · exact gdW h3
    · exact gdW h4
  · exact gdI h5 w h
theorem gdS {c0 : Cond} {own : String} {idx : Nat} {y : MethodName} {c1 : Cond} (h1 : Cond.methodLink own idx y ∈ BG) (h2 : Cond.static y ∈ BG) (h4 : Cond.initialized own ∈ BG) (h5 : c1 ∈ BG) : GoodIn (c0 :: BG) (wsS own idx y (c1 :: BG)) := by
  intro w hw
  unfold wsS at hw
  rcases List.mem_append.mp hw with h | h
  · simp only [List.mem_cons, List.mem_nil_iff, or_false] at h
    rcases h with rfl | rfl | rfl
    · exact gdW h1
    · exact gdW h2
    · exact gdW h4
  · exact gdI h5 w h
abbrev R_O : String := "DirtyCardHeap$OldPart"
def F_O : u_T := fun k => match k with
  | _ => ("DirtyCardHeap$OldPart", "cells", "[LDirtyCardHeap$Thing;", true)
def tq_O : Nat → FieldType := fun k => match k with
  | _ => .array (.object "DirtyCardHeap$Thing")
theorem n_O : ∀ a, a < 1 → ∀ b, b < 1 → a ≠ b → (F_O a).2.1 ≠ (F_O b).2.1 := by decide +kernel
theorem tq_O_ok : ∀ k, k < 1 → parseFieldDescriptor (F_O k).2.2.1 = some (tq_O k) := by decide +kernel
theorem in_O : ∀ w ∈ u_ws R_O F_O 1, w ∈ BG := fun w h => List.mem_filter.mpr ⟨List.mem_append_right _ ((by decide +kernel : ∀ w ∈ u_ws R_O F_O 1, w ∈ tables_1) w h), (by decide +kernel : ∀ w ∈ u_ws R_O F_O 1, goodWord w = true) w h⟩
abbrev R_R : String := "DirtyCardHeap$Row"
def F_R : u_T := fun k => match k with
  | 0 => ("DirtyCardHeap$Row", "things", "[LDirtyCardHeap$Thing;", true)
  | _ => ("DirtyCardHeap$Row", "count", "I", false)
def tq_R : Nat → FieldType := fun k => match k with
  | 0 => .array (.object "DirtyCardHeap$Thing")
  | _ => .int
theorem n_R : ∀ a, a < 2 → ∀ b, b < 2 → a ≠ b → (F_R a).2.1 ≠ (F_R b).2.1 := by decide +kernel
theorem tq_R_ok : ∀ k, k < 2 → parseFieldDescriptor (F_R k).2.2.1 = some (tq_R k) := by decide +kernel
theorem in_R : ∀ w ∈ u_ws R_R F_R 2, w ∈ BG := fun w h => List.mem_filter.mpr ⟨List.mem_append_right _ ((by decide +kernel : ∀ w ∈ u_ws R_R F_R 2, w ∈ tables_1) w h), (by decide +kernel : ∀ w ∈ u_ws R_R F_R 2, goodWord w = true) w h⟩
abbrev R_T : String := "DirtyCardHeap$Thing"
def F_T : u_T := fun k => match k with
  | 0 => ("DirtyCardHeap$Thing", "payload", "I", true)
  | 1 => ("DirtyCardHeap$Thing", "fields", "[LDirtyCardHeap$Thing;", true)
  | 2 => ("DirtyCardHeap$Thing", "age", "I", false)
  | 3 => ("DirtyCardHeap$Thing", "address", "I", false)
  | 4 => ("DirtyCardHeap$Thing", "marked", "Z", false)
  | 5 => ("DirtyCardHeap$Thing", "grey", "Z", false)
  | _ => ("DirtyCardHeap$Thing", "reached", "Z", false)
def tq_T : Nat → FieldType := fun k => match k with
  | 0 => .int
  | 1 => .array (.object "DirtyCardHeap$Thing")
  | 2 => .int
  | 3 => .int
  | 4 => .boolean
  | 5 => .boolean
  | _ => .boolean
theorem n_T : ∀ a, a < 7 → ∀ b, b < 7 → a ≠ b → (F_T a).2.1 ≠ (F_T b).2.1 := by decide +kernel
theorem tq_T_ok : ∀ k, k < 7 → parseFieldDescriptor (F_T k).2.2.1 = some (tq_T k) := by decide +kernel
theorem in_T : ∀ w ∈ u_ws R_T F_T 7, w ∈ BG := fun w h => List.mem_filter.mpr ⟨List.mem_append_right _ ((by decide +kernel : ∀ w ∈ u_ws R_T F_T 7, w ∈ tables_1) w h), (by decide +kernel : ∀ w ∈ u_ws R_T F_T 7, goodWord w = true) w h⟩
abbrev R_H : String := "DirtyCardHeap"
def F_H : u_T := fun k => match k with
  | 0 => ("DirtyCardHeap", "roots", "[LDirtyCardHeap$Thing;", true)
  | 1 => ("DirtyCardHeap", "young", "LDirtyCardHeap$Row;", true)
  | 2 => ("DirtyCardHeap", "old", "LDirtyCardHeap$OldPart;", true)
  | 3 => ("DirtyCardHeap", "reached", "LDirtyCardHeap$Row;", true)
  | 4 => ("DirtyCardHeap", "dirty", "I", false)
  | 5 => ("DirtyCardHeap", "noted", "I", false)
  | 6 => ("DirtyCardHeap", "currentPhase", "I", false)
  | _ => ("DirtyCardHeap", "sweepAddress", "I", false)
def tq_H : Nat → FieldType := fun k => match k with
  | 0 => .array (.object "DirtyCardHeap$Thing")
  | 1 => .object "DirtyCardHeap$Row"
  | 2 => .object "DirtyCardHeap$OldPart"
  | 3 => .object "DirtyCardHeap$Row"
  | 4 => .int
  | 5 => .int
  | 6 => .int
  | _ => .int
theorem n_H : ∀ a, a < 8 → ∀ b, b < 8 → a ≠ b → (F_H a).2.1 ≠ (F_H b).2.1 := by decide +kernel
theorem tq_H_ok : ∀ k, k < 8 → parseFieldDescriptor (F_H k).2.2.1 = some (tq_H k) := by decide +kernel
theorem in_H : ∀ w ∈ u_ws R_H F_H 8, w ∈ BG := fun w h => List.mem_filter.mpr ⟨List.mem_append_right _ ((by decide +kernel : ∀ w ∈ u_ws R_H F_H 8, w ∈ tables_1) w h), (by decide +kernel : ∀ w ∈ u_ws R_H F_H 8, goodWord w = true) w h⟩
abbrev R_M : String := "DirtyCardHeapModel"
def F_M : u_T := fun k => match k with
  | 0 => ("DirtyCardHeapModel", "kind", "[I", false)
  | 1 => ("DirtyCardHeapModel", "payloads", "[I", false)
  | 2 => ("DirtyCardHeapModel", "fields", "[I", false)
  | 3 => ("DirtyCardHeapModel", "ref", "[I", false)
  | 4 => ("DirtyCardHeapModel", "ages", "[I", false)
  | 5 => ("DirtyCardHeapModel", "at", "[I", false)
  | 6 => ("DirtyCardHeapModel", "marks", "[Z", false)
  | 7 => ("DirtyCardHeapModel", "grey", "[Z", false)
  | 8 => ("DirtyCardHeapModel", "root", "[I", false)
  | 9 => ("DirtyCardHeapModel", "dirty", "[Z", false)
  | 10 => ("DirtyCardHeapModel", "noted", "[Z", false)
  | 11 => ("DirtyCardHeapModel", "phase", "I", false)
  | 12 => ("DirtyCardHeapModel", "swept", "I", false)
  | 13 => ("DirtyCardHeapModel", "youngs", "I", false)
  | 14 => ("DirtyCardHeapModel", "order", "[I", false)
  | 15 => ("DirtyCardHeapModel", "reached", "I", false)
  | 16 => ("DirtyCardHeapModel", "row", "[I", false)
  | 17 => ("DirtyCardHeapModel", "met", "[Z", false)
  | 18 => ("DirtyCardHeapModel", "wasOld", "[Z", false)
  | 19 => ("DirtyCardHeapModel", "wasDirty", "[Z", false)
  | 20 => ("DirtyCardHeapModel", "wasAt", "[I", false)
  | _ => ("DirtyCardHeapModel", "grown", "I", false)
def tq_M : Nat → FieldType := fun k => match k with
  | 0 => .array .int
  | 1 => .array .int
  | 2 => .array .int
  | 3 => .array .int
  | 4 => .array .int
  | 5 => .array .int
  | 6 => .array .boolean
  | 7 => .array .boolean
  | 8 => .array .int
  | 9 => .array .boolean
  | 10 => .array .boolean
  | 11 => .int
  | 12 => .int
  | 13 => .int
  | 14 => .array .int
  | 15 => .int
  | 16 => .array .int
  | 17 => .array .boolean
  | 18 => .array .boolean
  | 19 => .array .boolean
  | 20 => .array .int
  | _ => .int
theorem n_M : ∀ a, a < 22 → ∀ b, b < 22 → a ≠ b → (F_M a).2.1 ≠ (F_M b).2.1 := by decide +kernel
theorem tq_M_ok : ∀ k, k < 22 → parseFieldDescriptor (F_M k).2.2.1 = some (tq_M k) := by decide +kernel
theorem in_M : ∀ w ∈ u_ws R_M F_M 22, w ∈ BG := fun w h => List.mem_filter.mpr ⟨List.mem_append_right _ ((by decide +kernel : ∀ w ∈ u_ws R_M F_M 22, w ∈ tables_1) w h), (by decide +kernel : ∀ w ∈ u_ws R_M F_M 22, goodWord w = true) w h⟩
abbrev vwCL : List vw_C := [(R_O, F_O, 1), (R_R, F_R, 2), (R_T, F_T, 7), (R_H, F_H, 8), (R_M, F_M, 22)]
abbrev b_H_init : ByteArray := prog_1_method_1_code
def y_H_init : MethodName := ⟨R_H, "<init>", "()V"⟩
abbrev wl_H_init : List Cond := .code y_H_init b_H_init 1 none :: BG
theorem bc_H_init : Cond.code y_H_init b_H_init 1 none ∈ BG := bg_t (List.mem_of_getElem? (i := 11) (by decide +kernel)) rfl
theorem hdV_H_init : y_H_init.cls = R_H ∧ y_H_init.cls ≠ "java/lang/invoke/MethodHandle" ∧ y_H_init.cls ≠ "java/lang/invoke/VarHandle" ∧ (parseMethodDescriptor y_H_init.desc).map (fun d => d.parameters.length) = some 0 := by decide +kernel
abbrev b_H_create : ByteArray := prog_1_method_2_code
def y_H_create : MethodName := ⟨R_H, "create", "(III)I"⟩
abbrev wl_H_create : List Cond := .code y_H_create b_H_create 6 (some .int) :: BG
theorem bc_H_create : Cond.code y_H_create b_H_create 6 (some .int) ∈ BG := bg_t (List.mem_of_getElem? (i := 73) (by decide +kernel)) rfl
theorem hdV_H_create : y_H_create.cls = R_H ∧ y_H_create.cls ≠ "java/lang/invoke/MethodHandle" ∧ y_H_create.cls ≠ "java/lang/invoke/VarHandle" ∧ (parseMethodDescriptor y_H_create.desc).map (fun d => d.parameters.length) = some 3 := by decide +kernel
abbrev b_H_clear : ByteArray := prog_1_method_3_code
def y_H_clear : MethodName := ⟨R_H, "clear", "(I)Z"⟩
abbrev wl_H_clear : List Cond := .code y_H_clear b_H_clear 2 (some .boolean) :: BG
theorem bc_H_clear : Cond.code y_H_clear b_H_clear 2 (some .boolean) ∈ BG := bg_t (List.mem_of_getElem? (i := 264) (by decide +kernel)) rfl
theorem hdV_H_clear : y_H_clear.cls = R_H ∧ y_H_clear.cls ≠ "java/lang/invoke/MethodHandle" ∧ y_H_clear.cls ≠ "java/lang/invoke/VarHandle" ∧ (parseMethodDescriptor y_H_clear.desc).map (fun d => d.parameters.length) = some 1 := by decide +kernel
abbrev b_H_copy : ByteArray := prog_1_method_4_code
def y_H_copy : MethodName := ⟨R_H, "copy", "(II)Z"⟩
abbrev wl_H_copy : List Cond := .code y_H_copy b_H_copy 3 (some .boolean) :: BG
theorem bc_H_copy : Cond.code y_H_copy b_H_copy 3 (some .boolean) ∈ BG := bg_t (List.mem_of_getElem? (i := 268) (by decide +kernel)) rfl
theorem hdV_H_copy : y_H_copy.cls = R_H ∧ y_H_copy.cls ≠ "java/lang/invoke/MethodHandle" ∧ y_H_copy.cls ≠ "java/lang/invoke/VarHandle" ∧ (parseMethodDescriptor y_H_copy.desc).map (fun d => d.parameters.length) = some 2 := by decide +kernel
abbrev b_H_load : ByteArray := prog_1_method_5_code
def y_H_load : MethodName := ⟨R_H, "load", "(III)I"⟩
abbrev wl_H_load : List Cond := .code y_H_load b_H_load 5 (some .int) :: BG
theorem bc_H_load : Cond.code y_H_load b_H_load 5 (some .int) ∈ BG := bg_t (List.mem_of_getElem? (i := 272) (by decide +kernel)) rfl
theorem hdV_H_load : y_H_load.cls = R_H ∧ y_H_load.cls ≠ "java/lang/invoke/MethodHandle" ∧ y_H_load.cls ≠ "java/lang/invoke/VarHandle" ∧ (parseMethodDescriptor y_H_load.desc).map (fun d => d.parameters.length) = some 3 := by decide +kernel
abbrev b_H_store : ByteArray := prog_1_method_6_code
def y_H_store : MethodName := ⟨R_H, "store", "(III)I"⟩
abbrev wl_H_store : List Cond := .code y_H_store b_H_store 5 (some .int) :: BG
theorem bc_H_store : Cond.code y_H_store b_H_store 5 (some .int) ∈ BG := bg_t (List.mem_of_getElem? (i := 277) (by decide +kernel)) rfl
theorem hdV_H_store : y_H_store.cls = R_H ∧ y_H_store.cls ≠ "java/lang/invoke/MethodHandle" ∧ y_H_store.cls ≠ "java/lang/invoke/VarHandle" ∧ (parseMethodDescriptor y_H_store.desc).map (fun d => d.parameters.length) = some 3 := by decide +kernel
abbrev b_H_payload : ByteArray := prog_1_method_7_code
def y_H_payload : MethodName := ⟨R_H, "payload", "(I)I"⟩
abbrev wl_H_payload : List Cond := .code y_H_payload b_H_payload 3 (some .int) :: BG
theorem bc_H_payload : Cond.code y_H_payload b_H_payload 3 (some .int) ∈ BG := bg_t (List.mem_of_getElem? (i := 285) (by decide +kernel)) rfl
theorem hdV_H_payload : y_H_payload.cls = R_H ∧ y_H_payload.cls ≠ "java/lang/invoke/MethodHandle" ∧ y_H_payload.cls ≠ "java/lang/invoke/VarHandle" ∧ (parseMethodDescriptor y_H_payload.desc).map (fun d => d.parameters.length) = some 1 := by decide +kernel
abbrev b_H_same : ByteArray := prog_1_method_8_code
def y_H_same : MethodName := ⟨R_H, "same", "(II)Z"⟩
abbrev wl_H_same : List Cond := .code y_H_same b_H_same 3 (some .boolean) :: BG
theorem bc_H_same : Cond.code y_H_same b_H_same 3 (some .boolean) ∈ BG := bg_t (List.mem_of_getElem? (i := 293) (by decide +kernel)) rfl
theorem hdV_H_same : y_H_same.cls = R_H ∧ y_H_same.cls ≠ "java/lang/invoke/MethodHandle" ∧ y_H_same.cls ≠ "java/lang/invoke/VarHandle" ∧ (parseMethodDescriptor y_H_same.desc).map (fun d => d.parameters.length) = some 2 := by decide +kernel
abbrev b_H_address : ByteArray := prog_1_method_9_code
def y_H_address : MethodName := ⟨R_H, "address", "(I)I"⟩
abbrev wl_H_address : List Cond := .code y_H_address b_H_address 3 (some .int) :: BG
theorem bc_H_address : Cond.code y_H_address b_H_address 3 (some .int) ∈ BG := bg_t (List.mem_of_getElem? (i := 297) (by decide +kernel)) rfl
theorem hdV_H_address : y_H_address.cls = R_H ∧ y_H_address.cls ≠ "java/lang/invoke/MethodHandle" ∧ y_H_address.cls ≠ "java/lang/invoke/VarHandle" ∧ (parseMethodDescriptor y_H_address.desc).map (fun d => d.parameters.length) = some 1 := by decide +kernel
abbrev b_H_age : ByteArray := prog_1_method_10_code
def y_H_age : MethodName := ⟨R_H, "age", "(I)I"⟩
abbrev wl_H_age : List Cond := .code y_H_age b_H_age 3 (some .int) :: BG
theorem bc_H_age : Cond.code y_H_age b_H_age 3 (some .int) ∈ BG := bg_t (List.mem_of_getElem? (i := 301) (by decide +kernel)) rfl
theorem hdV_H_age : y_H_age.cls = R_H ∧ y_H_age.cls ≠ "java/lang/invoke/MethodHandle" ∧ y_H_age.cls ≠ "java/lang/invoke/VarHandle" ∧ (parseMethodDescriptor y_H_age.desc).map (fun d => d.parameters.length) = some 1 := by decide +kernel
abbrev b_H_collect : ByteArray := prog_1_method_11_code
def y_H_collect : MethodName := ⟨R_H, "collect", "(Z)I"⟩
abbrev wl_H_collect : List Cond := .code y_H_collect b_H_collect 2 (some .int) :: BG
theorem bc_H_collect : Cond.code y_H_collect b_H_collect 2 (some .int) ∈ BG := bg_t (List.mem_of_getElem? (i := 305) (by decide +kernel)) rfl
theorem hdV_H_collect : y_H_collect.cls = R_H ∧ y_H_collect.cls ≠ "java/lang/invoke/MethodHandle" ∧ y_H_collect.cls ≠ "java/lang/invoke/VarHandle" ∧ (parseMethodDescriptor y_H_collect.desc).map (fun d => d.parameters.length) = some 1 := by decide +kernel
abbrev b_H_begin : ByteArray := prog_1_method_12_code
def y_H_begin : MethodName := ⟨R_H, "begin", "()I"⟩
abbrev wl_H_begin : List Cond := .code y_H_begin b_H_begin 1 (some .int) :: BG
theorem bc_H_begin : Cond.code y_H_begin b_H_begin 1 (some .int) ∈ BG := bg_t (List.mem_of_getElem? (i := 309) (by decide +kernel)) rfl
theorem hdV_H_begin : y_H_begin.cls = R_H ∧ y_H_begin.cls ≠ "java/lang/invoke/MethodHandle" ∧ y_H_begin.cls ≠ "java/lang/invoke/VarHandle" ∧ (parseMethodDescriptor y_H_begin.desc).map (fun d => d.parameters.length) = some 0 := by decide +kernel
abbrev b_H_mark : ByteArray := prog_1_method_13_code
def y_H_mark : MethodName := ⟨R_H, "mark", "()I"⟩
abbrev wl_H_mark : List Cond := .code y_H_mark b_H_mark 2 (some .int) :: BG
theorem bc_H_mark : Cond.code y_H_mark b_H_mark 2 (some .int) ∈ BG := bg_t (List.mem_of_getElem? (i := 320) (by decide +kernel)) rfl
theorem hdV_H_mark : y_H_mark.cls = R_H ∧ y_H_mark.cls ≠ "java/lang/invoke/MethodHandle" ∧ y_H_mark.cls ≠ "java/lang/invoke/VarHandle" ∧ (parseMethodDescriptor y_H_mark.desc).map (fun d => d.parameters.length) = some 0 := by decide +kernel
abbrev b_H_preclean : ByteArray := prog_1_method_14_code
def y_H_preclean : MethodName := ⟨R_H, "preclean", "()I"⟩
abbrev wl_H_preclean : List Cond := .code y_H_preclean b_H_preclean 3 (some .int) :: BG
theorem bc_H_preclean : Cond.code y_H_preclean b_H_preclean 3 (some .int) ∈ BG := bg_t (List.mem_of_getElem? (i := 334) (by decide +kernel)) rfl
theorem hdV_H_preclean : y_H_preclean.cls = R_H ∧ y_H_preclean.cls ≠ "java/lang/invoke/MethodHandle" ∧ y_H_preclean.cls ≠ "java/lang/invoke/VarHandle" ∧ (parseMethodDescriptor y_H_preclean.desc).map (fun d => d.parameters.length) = some 0 := by decide +kernel
abbrev b_H_remark : ByteArray := prog_1_method_15_code
def y_H_remark : MethodName := ⟨R_H, "remark", "()I"⟩
abbrev wl_H_remark : List Cond := .code y_H_remark b_H_remark 2 (some .int) :: BG
theorem bc_H_remark : Cond.code y_H_remark b_H_remark 2 (some .int) ∈ BG := bg_t (List.mem_of_getElem? (i := 342) (by decide +kernel)) rfl
theorem hdV_H_remark : y_H_remark.cls = R_H ∧ y_H_remark.cls ≠ "java/lang/invoke/MethodHandle" ∧ y_H_remark.cls ≠ "java/lang/invoke/VarHandle" ∧ (parseMethodDescriptor y_H_remark.desc).map (fun d => d.parameters.length) = some 0 := by decide +kernel
abbrev b_H_sweep : ByteArray := prog_1_method_16_code
def y_H_sweep : MethodName := ⟨R_H, "sweep", "()I"⟩
abbrev wl_H_sweep : List Cond := .code y_H_sweep b_H_sweep 3 (some .int) :: BG
theorem bc_H_sweep : Cond.code y_H_sweep b_H_sweep 3 (some .int) ∈ BG := bg_t (List.mem_of_getElem? (i := 354) (by decide +kernel)) rfl
theorem hdV_H_sweep : y_H_sweep.cls = R_H ∧ y_H_sweep.cls ≠ "java/lang/invoke/MethodHandle" ∧ y_H_sweep.cls ≠ "java/lang/invoke/VarHandle" ∧ (parseMethodDescriptor y_H_sweep.desc).map (fun d => d.parameters.length) = some 0 := by decide +kernel
abbrev b_H_phase : ByteArray := prog_1_method_17_code
def y_H_phase : MethodName := ⟨R_H, "phase", "()I"⟩
abbrev wl_H_phase : List Cond := .code y_H_phase b_H_phase 1 (some .int) :: BG
theorem bc_H_phase : Cond.code y_H_phase b_H_phase 1 (some .int) ∈ BG := bg_t (List.mem_of_getElem? (i := 363) (by decide +kernel)) rfl
theorem hdV_H_phase : y_H_phase.cls = R_H ∧ y_H_phase.cls ≠ "java/lang/invoke/MethodHandle" ∧ y_H_phase.cls ≠ "java/lang/invoke/VarHandle" ∧ (parseMethodDescriptor y_H_phase.desc).map (fun d => d.parameters.length) = some 0 := by decide +kernel
abbrev b_H_oldCells : ByteArray := prog_1_method_18_code
def y_H_oldCells : MethodName := ⟨R_H, "oldCells", "()I"⟩
abbrev wl_H_oldCells : List Cond := .code y_H_oldCells b_H_oldCells 1 (some .int) :: BG
theorem bc_H_oldCells : Cond.code y_H_oldCells b_H_oldCells 1 (some .int) ∈ BG := bg_t (List.mem_of_getElem? (i := 367) (by decide +kernel)) rfl
theorem hdV_H_oldCells : y_H_oldCells.cls = R_H ∧ y_H_oldCells.cls ≠ "java/lang/invoke/MethodHandle" ∧ y_H_oldCells.cls ≠ "java/lang/invoke/VarHandle" ∧ (parseMethodDescriptor y_H_oldCells.desc).map (fun d => d.parameters.length) = some 0 := by decide +kernel
abbrev b_H_youngCells : ByteArray := prog_1_method_19_code
def y_H_youngCells : MethodName := ⟨R_H, "youngCells", "()I"⟩
abbrev wl_H_youngCells : List Cond := .code y_H_youngCells b_H_youngCells 1 (some .int) :: BG
theorem bc_H_youngCells : Cond.code y_H_youngCells b_H_youngCells 1 (some .int) ∈ BG := bg_t (List.mem_of_getElem? (i := 375) (by decide +kernel)) rfl
theorem hdV_H_youngCells : y_H_youngCells.cls = R_H ∧ y_H_youngCells.cls ≠ "java/lang/invoke/MethodHandle" ∧ y_H_youngCells.cls ≠ "java/lang/invoke/VarHandle" ∧ (parseMethodDescriptor y_H_youngCells.desc).map (fun d => d.parameters.length) = some 0 := by decide +kernel
abbrev b_H_cards : ByteArray := prog_1_method_20_code
def y_H_cards : MethodName := ⟨R_H, "cards", "()I"⟩
abbrev wl_H_cards : List Cond := .code y_H_cards b_H_cards 1 (some .int) :: BG
theorem bc_H_cards : Cond.code y_H_cards b_H_cards 1 (some .int) ∈ BG := bg_t (List.mem_of_getElem? (i := 379) (by decide +kernel)) rfl
theorem hdV_H_cards : y_H_cards.cls = R_H ∧ y_H_cards.cls ≠ "java/lang/invoke/MethodHandle" ∧ y_H_cards.cls ≠ "java/lang/invoke/VarHandle" ∧ (parseMethodDescriptor y_H_cards.desc).map (fun d => d.parameters.length) = some 0 := by decide +kernel
abbrev b_H_marked : ByteArray := prog_1_method_21_code
def y_H_marked : MethodName := ⟨R_H, "marked", "()I"⟩
abbrev wl_H_marked : List Cond := .code y_H_marked b_H_marked 4 (some .int) :: BG
theorem bc_H_marked : Cond.code y_H_marked b_H_marked 4 (some .int) ∈ BG := bg_t (List.mem_of_getElem? (i := 383) (by decide +kernel)) rfl
theorem hdV_H_marked : y_H_marked.cls = R_H ∧ y_H_marked.cls ≠ "java/lang/invoke/MethodHandle" ∧ y_H_marked.cls ≠ "java/lang/invoke/VarHandle" ∧ (parseMethodDescriptor y_H_marked.desc).map (fun d => d.parameters.length) = some 0 := by decide +kernel
abbrev b_H_isRoot : ByteArray := prog_1_method_22_code
def y_H_isRoot : MethodName := ⟨R_H, "isRoot", "(I)Z"⟩
abbrev wl_H_isRoot : List Cond := .code y_H_isRoot b_H_isRoot 1 (some .boolean) :: BG
theorem bc_H_isRoot : Cond.code y_H_isRoot b_H_isRoot 1 (some .boolean) ∈ BG := bg_t (List.mem_of_getElem? (i := 76) (by decide +kernel)) rfl
theorem hdV_H_isRoot : y_H_isRoot.cls = R_H ∧ y_H_isRoot.cls ≠ "java/lang/invoke/MethodHandle" ∧ y_H_isRoot.cls ≠ "java/lang/invoke/VarHandle" ∧ (parseMethodDescriptor y_H_isRoot.desc).map (fun d => d.parameters.length) = some 1 := by decide +kernel
abbrev b_H_cardOf : ByteArray := prog_1_method_23_code
def y_H_cardOf : MethodName := ⟨R_H, "cardOf", "(I)I"⟩
abbrev wl_H_cardOf : List Cond := .code y_H_cardOf b_H_cardOf 1 (some .int) :: BG
theorem bc_H_cardOf : Cond.code y_H_cardOf b_H_cardOf 1 (some .int) ∈ BG := bg_t (List.mem_of_getElem? (i := 139) (by decide +kernel)) rfl
theorem hdV_H_cardOf : y_H_cardOf.cls = R_H ∧ y_H_cardOf.cls ≠ "java/lang/invoke/MethodHandle" ∧ y_H_cardOf.cls ≠ "java/lang/invoke/VarHandle" ∧ (parseMethodDescriptor y_H_cardOf.desc).map (fun d => d.parameters.length) = some 1 := by decide +kernel
abbrev b_H_thingOf : ByteArray := prog_1_method_24_code
def y_H_thingOf : MethodName := ⟨R_H, "thingOf", "(I)LDirtyCardHeap$Thing;"⟩
abbrev wl_H_thingOf : List Cond := .code y_H_thingOf b_H_thingOf 2 (some (.object "DirtyCardHeap$Thing")) :: BG
theorem bc_H_thingOf : Cond.code y_H_thingOf b_H_thingOf 2 (some (.object "DirtyCardHeap$Thing")) ∈ BG := bg_t (List.mem_of_getElem? (i := 289) (by decide +kernel)) rfl
theorem hdV_H_thingOf : y_H_thingOf.cls = R_H ∧ y_H_thingOf.cls ≠ "java/lang/invoke/MethodHandle" ∧ y_H_thingOf.cls ≠ "java/lang/invoke/VarHandle" ∧ (parseMethodDescriptor y_H_thingOf.desc).map (fun d => d.parameters.length) = some 1 := by decide +kernel
abbrev b_H_hasRoom : ByteArray := prog_1_method_25_code
def y_H_hasRoom : MethodName := ⟨R_H, "hasRoom", "(I)Z"⟩
abbrev wl_H_hasRoom : List Cond := .code y_H_hasRoom b_H_hasRoom 2 (some .boolean) :: BG
theorem bc_H_hasRoom : Cond.code y_H_hasRoom b_H_hasRoom 2 (some .boolean) ∈ BG := bg_t (List.mem_of_getElem? (i := 80) (by decide +kernel)) rfl
theorem hdV_H_hasRoom : y_H_hasRoom.cls = R_H ∧ y_H_hasRoom.cls ≠ "java/lang/invoke/MethodHandle" ∧ y_H_hasRoom.cls ≠ "java/lang/invoke/VarHandle" ∧ (parseMethodDescriptor y_H_hasRoom.desc).map (fun d => d.parameters.length) = some 1 := by decide +kernel
abbrev b_H_placeAsOld : ByteArray := prog_1_method_26_code
def y_H_placeAsOld : MethodName := ⟨R_H, "placeAsOld", "(LDirtyCardHeap$Thing;)Z"⟩
abbrev wl_H_placeAsOld : List Cond := .code y_H_placeAsOld b_H_placeAsOld 3 (some .boolean) :: BG
theorem bc_H_placeAsOld : Cond.code y_H_placeAsOld b_H_placeAsOld 3 (some .boolean) ∈ BG := bg_t (List.mem_of_getElem? (i := 115) (by decide +kernel)) rfl
theorem hdV_H_placeAsOld : y_H_placeAsOld.cls = R_H ∧ y_H_placeAsOld.cls ≠ "java/lang/invoke/MethodHandle" ∧ y_H_placeAsOld.cls ≠ "java/lang/invoke/VarHandle" ∧ (parseMethodDescriptor y_H_placeAsOld.desc).map (fun d => d.parameters.length) = some 1 := by decide +kernel
abbrev b_H_collectYoung : ByteArray := prog_1_method_27_code
def y_H_collectYoung : MethodName := ⟨R_H, "collectYoung", "()I"⟩
abbrev wl_H_collectYoung : List Cond := .code y_H_collectYoung b_H_collectYoung 3 (some .int) :: BG
theorem bc_H_collectYoung : Cond.code y_H_collectYoung b_H_collectYoung 3 (some .int) ∈ BG := bg_t (List.mem_of_getElem? (i := 92) (by decide +kernel)) rfl
theorem hdV_H_collectYoung : y_H_collectYoung.cls = R_H ∧ y_H_collectYoung.cls ≠ "java/lang/invoke/MethodHandle" ∧ y_H_collectYoung.cls ≠ "java/lang/invoke/VarHandle" ∧ (parseMethodDescriptor y_H_collectYoung.desc).map (fun d => d.parameters.length) = some 0 := by decide +kernel
abbrev b_H_reachYoung : ByteArray := prog_1_method_28_code
def y_H_reachYoung : MethodName := ⟨R_H, "reachYoung", "(LDirtyCardHeap$Thing;)V"⟩
abbrev wl_H_reachYoung : List Cond := .code y_H_reachYoung b_H_reachYoung 2 none :: BG
theorem bc_H_reachYoung : Cond.code y_H_reachYoung b_H_reachYoung 2 none ∈ BG := bg_t (List.mem_of_getElem? (i := 96) (by decide +kernel)) rfl
theorem hdV_H_reachYoung : y_H_reachYoung.cls = R_H ∧ y_H_reachYoung.cls ≠ "java/lang/invoke/MethodHandle" ∧ y_H_reachYoung.cls ≠ "java/lang/invoke/VarHandle" ∧ (parseMethodDescriptor y_H_reachYoung.desc).map (fun d => d.parameters.length) = some 1 := by decide +kernel
abbrev b_H_reachFromCards : ByteArray := prog_1_method_29_code
def y_H_reachFromCards : MethodName := ⟨R_H, "reachFromCards", "(I)V"⟩
abbrev wl_H_reachFromCards : List Cond := .code y_H_reachFromCards b_H_reachFromCards 5 none :: BG
theorem bc_H_reachFromCards : Cond.code y_H_reachFromCards b_H_reachFromCards 5 none ∈ BG := bg_t (List.mem_of_getElem? (i := 143) (by decide +kernel)) rfl
theorem hdV_H_reachFromCards : y_H_reachFromCards.cls = R_H ∧ y_H_reachFromCards.cls ≠ "java/lang/invoke/MethodHandle" ∧ y_H_reachFromCards.cls ≠ "java/lang/invoke/VarHandle" ∧ (parseMethodDescriptor y_H_reachFromCards.desc).map (fun d => d.parameters.length) = some 1 := by decide +kernel
abbrev b_H_reachFields : ByteArray := prog_1_method_30_code
def y_H_reachFields : MethodName := ⟨R_H, "reachFields", "(LDirtyCardHeap$Thing;)V"⟩
abbrev wl_H_reachFields : List Cond := .code y_H_reachFields b_H_reachFields 3 none :: BG
theorem bc_H_reachFields : Cond.code y_H_reachFields b_H_reachFields 3 none ∈ BG := bg_t (List.mem_of_getElem? (i := 156) (by decide +kernel)) rfl
theorem hdV_H_reachFields : y_H_reachFields.cls = R_H ∧ y_H_reachFields.cls ≠ "java/lang/invoke/MethodHandle" ∧ y_H_reachFields.cls ≠ "java/lang/invoke/VarHandle" ∧ (parseMethodDescriptor y_H_reachFields.desc).map (fun d => d.parameters.length) = some 1 := by decide +kernel
abbrev b_H_dropUnreachedYoung : ByteArray := prog_1_method_31_code
def y_H_dropUnreachedYoung : MethodName := ⟨R_H, "dropUnreachedYoung", "()V"⟩
abbrev wl_H_dropUnreachedYoung : List Cond := .code y_H_dropUnreachedYoung b_H_dropUnreachedYoung 2 none :: BG
theorem bc_H_dropUnreachedYoung : Cond.code y_H_dropUnreachedYoung b_H_dropUnreachedYoung 2 none ∈ BG := bg_t (List.mem_of_getElem? (i := 160) (by decide +kernel)) rfl
theorem hdV_H_dropUnreachedYoung : y_H_dropUnreachedYoung.cls = R_H ∧ y_H_dropUnreachedYoung.cls ≠ "java/lang/invoke/MethodHandle" ∧ y_H_dropUnreachedYoung.cls ≠ "java/lang/invoke/VarHandle" ∧ (parseMethodDescriptor y_H_dropUnreachedYoung.desc).map (fun d => d.parameters.length) = some 0 := by decide +kernel
abbrev b_H_renewYoungOrder : ByteArray := prog_1_method_32_code
def y_H_renewYoungOrder : MethodName := ⟨R_H, "renewYoungOrder", "()I"⟩
abbrev wl_H_renewYoungOrder : List Cond := .code y_H_renewYoungOrder b_H_renewYoungOrder 3 (some .int) :: BG
theorem bc_H_renewYoungOrder : Cond.code y_H_renewYoungOrder b_H_renewYoungOrder 3 (some .int) ∈ BG := bg_t (List.mem_of_getElem? (i := 168) (by decide +kernel)) rfl
theorem hdV_H_renewYoungOrder : y_H_renewYoungOrder.cls = R_H ∧ y_H_renewYoungOrder.cls ≠ "java/lang/invoke/MethodHandle" ∧ y_H_renewYoungOrder.cls ≠ "java/lang/invoke/VarHandle" ∧ (parseMethodDescriptor y_H_renewYoungOrder.desc).map (fun d => d.parameters.length) = some 0 := by decide +kernel
abbrev b_H_cleanCards : ByteArray := prog_1_method_33_code
def y_H_cleanCards : MethodName := ⟨R_H, "cleanCards", "()V"⟩
abbrev wl_H_cleanCards : List Cond := .code y_H_cleanCards b_H_cleanCards 2 none :: BG
theorem bc_H_cleanCards : Cond.code y_H_cleanCards b_H_cleanCards 2 none ∈ BG := bg_t (List.mem_of_getElem? (i := 181) (by decide +kernel)) rfl
theorem hdV_H_cleanCards : y_H_cleanCards.cls = R_H ∧ y_H_cleanCards.cls ≠ "java/lang/invoke/MethodHandle" ∧ y_H_cleanCards.cls ≠ "java/lang/invoke/VarHandle" ∧ (parseMethodDescriptor y_H_cleanCards.desc).map (fun d => d.parameters.length) = some 0 := by decide +kernel
abbrev b_H_collectAll : ByteArray := prog_1_method_34_code
def y_H_collectAll : MethodName := ⟨R_H, "collectAll", "()I"⟩
abbrev wl_H_collectAll : List Cond := .code y_H_collectAll b_H_collectAll 2 (some .int) :: BG
theorem bc_H_collectAll : Cond.code y_H_collectAll b_H_collectAll 2 (some .int) ∈ BG := bg_t (List.mem_of_getElem? (i := 192) (by decide +kernel)) rfl
theorem hdV_H_collectAll : y_H_collectAll.cls = R_H ∧ y_H_collectAll.cls ≠ "java/lang/invoke/MethodHandle" ∧ y_H_collectAll.cls ≠ "java/lang/invoke/VarHandle" ∧ (parseMethodDescriptor y_H_collectAll.desc).map (fun d => d.parameters.length) = some 0 := by decide +kernel
abbrev b_H_findReachable : ByteArray := prog_1_method_35_code
def y_H_findReachable : MethodName := ⟨R_H, "findReachable", "()V"⟩
abbrev wl_H_findReachable : List Cond := .code y_H_findReachable b_H_findReachable 4 none :: BG
theorem bc_H_findReachable : Cond.code y_H_findReachable b_H_findReachable 4 none ∈ BG := bg_t (List.mem_of_getElem? (i := 196) (by decide +kernel)) rfl
theorem hdV_H_findReachable : y_H_findReachable.cls = R_H ∧ y_H_findReachable.cls ≠ "java/lang/invoke/MethodHandle" ∧ y_H_findReachable.cls ≠ "java/lang/invoke/VarHandle" ∧ (parseMethodDescriptor y_H_findReachable.desc).map (fun d => d.parameters.length) = some 0 := by decide +kernel
abbrev b_H_keepReachedYoung : ByteArray := prog_1_method_36_code
def y_H_keepReachedYoung : MethodName := ⟨R_H, "keepReachedYoung", "()V"⟩
abbrev wl_H_keepReachedYoung : List Cond := .code y_H_keepReachedYoung b_H_keepReachedYoung 3 none :: BG
theorem bc_H_keepReachedYoung : Cond.code y_H_keepReachedYoung b_H_keepReachedYoung 3 none ∈ BG := bg_t (List.mem_of_getElem? (i := 218) (by decide +kernel)) rfl
theorem hdV_H_keepReachedYoung : y_H_keepReachedYoung.cls = R_H ∧ y_H_keepReachedYoung.cls ≠ "java/lang/invoke/MethodHandle" ∧ y_H_keepReachedYoung.cls ≠ "java/lang/invoke/VarHandle" ∧ (parseMethodDescriptor y_H_keepReachedYoung.desc).map (fun d => d.parameters.length) = some 0 := by decide +kernel
abbrev b_H_placeYoungInOrder : ByteArray := prog_1_method_37_code
def y_H_placeYoungInOrder : MethodName := ⟨R_H, "placeYoungInOrder", "()I"⟩
abbrev wl_H_placeYoungInOrder : List Cond := .code y_H_placeYoungInOrder b_H_placeYoungInOrder 4 (some .int) :: BG
theorem bc_H_placeYoungInOrder : Cond.code y_H_placeYoungInOrder b_H_placeYoungInOrder 4 (some .int) ∈ BG := bg_t (List.mem_of_getElem? (i := 222) (by decide +kernel)) rfl
theorem hdV_H_placeYoungInOrder : y_H_placeYoungInOrder.cls = R_H ∧ y_H_placeYoungInOrder.cls ≠ "java/lang/invoke/MethodHandle" ∧ y_H_placeYoungInOrder.cls ≠ "java/lang/invoke/VarHandle" ∧ (parseMethodDescriptor y_H_placeYoungInOrder.desc).map (fun d => d.parameters.length) = some 0 := by decide +kernel
abbrev b_H_shade : ByteArray := prog_1_method_38_code
def y_H_shade : MethodName := ⟨R_H, "shade", "(LDirtyCardHeap$Thing;)I"⟩
abbrev wl_H_shade : List Cond := .code y_H_shade b_H_shade 1 (some .int) :: BG
theorem bc_H_shade : Cond.code y_H_shade b_H_shade 1 (some .int) ∈ BG := bg_t (List.mem_of_getElem? (i := 316) (by decide +kernel)) rfl
theorem hdV_H_shade : y_H_shade.cls = R_H ∧ y_H_shade.cls ≠ "java/lang/invoke/MethodHandle" ∧ y_H_shade.cls ≠ "java/lang/invoke/VarHandle" ∧ (parseMethodDescriptor y_H_shade.desc).map (fun d => d.parameters.length) = some 1 := by decide +kernel
abbrev b_H_shadeFields : ByteArray := prog_1_method_39_code
def y_H_shadeFields : MethodName := ⟨R_H, "shadeFields", "(LDirtyCardHeap$Thing;)I"⟩
abbrev wl_H_shadeFields : List Cond := .code y_H_shadeFields b_H_shadeFields 3 (some .int) :: BG
theorem bc_H_shadeFields : Cond.code y_H_shadeFields b_H_shadeFields 3 (some .int) ∈ BG := bg_t (List.mem_of_getElem? (i := 330) (by decide +kernel)) rfl
theorem hdV_H_shadeFields : y_H_shadeFields.cls = R_H ∧ y_H_shadeFields.cls ≠ "java/lang/invoke/MethodHandle" ∧ y_H_shadeFields.cls ≠ "java/lang/invoke/VarHandle" ∧ (parseMethodDescriptor y_H_shadeFields.desc).map (fun d => d.parameters.length) = some 1 := by decide +kernel
abbrev b_H_shadeFromRoots : ByteArray := prog_1_method_40_code
def y_H_shadeFromRoots : MethodName := ⟨R_H, "shadeFromRoots", "()I"⟩
abbrev wl_H_shadeFromRoots : List Cond := .code y_H_shadeFromRoots b_H_shadeFromRoots 3 (some .int) :: BG
theorem bc_H_shadeFromRoots : Cond.code y_H_shadeFromRoots b_H_shadeFromRoots 3 (some .int) ∈ BG := bg_t (List.mem_of_getElem? (i := 313) (by decide +kernel)) rfl
theorem hdV_H_shadeFromRoots : y_H_shadeFromRoots.cls = R_H ∧ y_H_shadeFromRoots.cls ≠ "java/lang/invoke/MethodHandle" ∧ y_H_shadeFromRoots.cls ≠ "java/lang/invoke/VarHandle" ∧ (parseMethodDescriptor y_H_shadeFromRoots.desc).map (fun d => d.parameters.length) = some 0 := by decide +kernel
abbrev b_H_shadeFromYoung : ByteArray := prog_1_method_41_code
def y_H_shadeFromYoung : MethodName := ⟨R_H, "shadeFromYoung", "()I"⟩
abbrev wl_H_shadeFromYoung : List Cond := .code y_H_shadeFromYoung b_H_shadeFromYoung 3 (some .int) :: BG
theorem bc_H_shadeFromYoung : Cond.code y_H_shadeFromYoung b_H_shadeFromYoung 3 (some .int) ∈ BG := bg_t (List.mem_of_getElem? (i := 346) (by decide +kernel)) rfl
theorem hdV_H_shadeFromYoung : y_H_shadeFromYoung.cls = R_H ∧ y_H_shadeFromYoung.cls ≠ "java/lang/invoke/MethodHandle" ∧ y_H_shadeFromYoung.cls ≠ "java/lang/invoke/VarHandle" ∧ (parseMethodDescriptor y_H_shadeFromYoung.desc).map (fun d => d.parameters.length) = some 0 := by decide +kernel
abbrev b_H_scan : ByteArray := prog_1_method_42_code
def y_H_scan : MethodName := ⟨R_H, "scan", "(LDirtyCardHeap$Thing;)I"⟩
abbrev wl_H_scan : List Cond := .code y_H_scan b_H_scan 1 (some .int) :: BG
theorem bc_H_scan : Cond.code y_H_scan b_H_scan 1 (some .int) ∈ BG := bg_t (List.mem_of_getElem? (i := 327) (by decide +kernel)) rfl
theorem hdV_H_scan : y_H_scan.cls = R_H ∧ y_H_scan.cls ≠ "java/lang/invoke/MethodHandle" ∧ y_H_scan.cls ≠ "java/lang/invoke/VarHandle" ∧ (parseMethodDescriptor y_H_scan.desc).map (fun d => d.parameters.length) = some 1 := by decide +kernel
abbrev b_H_scanAllGrey : ByteArray := prog_1_method_43_code
def y_H_scanAllGrey : MethodName := ⟨R_H, "scanAllGrey", "()I"⟩
abbrev wl_H_scanAllGrey : List Cond := .code y_H_scanAllGrey b_H_scanAllGrey 4 (some .int) :: BG
theorem bc_H_scanAllGrey : Cond.code y_H_scanAllGrey b_H_scanAllGrey 4 (some .int) ∈ BG := bg_t (List.mem_of_getElem? (i := 350) (by decide +kernel)) rfl
theorem hdV_H_scanAllGrey : y_H_scanAllGrey.cls = R_H ∧ y_H_scanAllGrey.cls ≠ "java/lang/invoke/MethodHandle" ∧ y_H_scanAllGrey.cls ≠ "java/lang/invoke/VarHandle" ∧ (parseMethodDescriptor y_H_scanAllGrey.desc).map (fun d => d.parameters.length) = some 0 := by decide +kernel
abbrev b_M_init : ByteArray := prog_6_method_1_code
def y_M_init : MethodName := ⟨R_M, "<init>", "()V"⟩
abbrev wl_M_init : List Cond := .code y_M_init b_M_init 1 none :: BG
theorem bc_M_init : Cond.code y_M_init b_M_init 1 none ∈ BG := bg_t (List.mem_of_getElem? (i := 389) (by decide +kernel)) rfl
theorem hdV_M_init : y_M_init.cls = R_M ∧ y_M_init.cls ≠ "java/lang/invoke/MethodHandle" ∧ y_M_init.cls ≠ "java/lang/invoke/VarHandle" ∧ (parseMethodDescriptor y_M_init.desc).map (fun d => d.parameters.length) = some 0 := by decide +kernel
abbrev b_M_isRoot : ByteArray := prog_6_method_2_code
def y_M_isRoot : MethodName := ⟨R_M, "isRoot", "(I)Z"⟩
abbrev wl_M_isRoot : List Cond := .code y_M_isRoot b_M_isRoot 1 (some .boolean) :: BG
theorem bc_M_isRoot : Cond.code y_M_isRoot b_M_isRoot 1 (some .boolean) ∈ BG := bg_t (List.mem_of_getElem? (i := 522) (by decide +kernel)) rfl
theorem hdV_M_isRoot : y_M_isRoot.cls = R_M ∧ y_M_isRoot.cls ≠ "java/lang/invoke/MethodHandle" ∧ y_M_isRoot.cls ≠ "java/lang/invoke/VarHandle" ∧ (parseMethodDescriptor y_M_isRoot.desc).map (fun d => d.parameters.length) = some 1 := by decide +kernel
abbrev b_M_isFree : ByteArray := prog_6_method_3_code
def y_M_isFree : MethodName := ⟨R_M, "isFree", "(I)Z"⟩
abbrev wl_M_isFree : List Cond := .code y_M_isFree b_M_isFree 3 (some .boolean) :: BG
theorem bc_M_isFree : Cond.code y_M_isFree b_M_isFree 3 (some .boolean) ∈ BG := bg_t (List.mem_of_getElem? (i := 491) (by decide +kernel)) rfl
theorem hdV_M_isFree : y_M_isFree.cls = R_M ∧ y_M_isFree.cls ≠ "java/lang/invoke/MethodHandle" ∧ y_M_isFree.cls ≠ "java/lang/invoke/VarHandle" ∧ (parseMethodDescriptor y_M_isFree.desc).map (fun d => d.parameters.length) = some 1 := by decide +kernel
abbrev b_M_place : ByteArray := prog_6_method_4_code
def y_M_place : MethodName := ⟨R_M, "place", "(I)I"⟩
abbrev wl_M_place : List Cond := .code y_M_place b_M_place 4 (some .int) :: BG
theorem bc_M_place : Cond.code y_M_place b_M_place 4 (some .int) ∈ BG := bg_t (List.mem_of_getElem? (i := 487) (by decide +kernel)) rfl
theorem hdV_M_place : y_M_place.cls = R_M ∧ y_M_place.cls ≠ "java/lang/invoke/MethodHandle" ∧ y_M_place.cls ≠ "java/lang/invoke/VarHandle" ∧ (parseMethodDescriptor y_M_place.desc).map (fun d => d.parameters.length) = some 1 := by decide +kernel
abbrev b_M_lies : ByteArray := prog_6_method_5_code
def y_M_lies : MethodName := ⟨R_M, "lies", "(II)Z"⟩
abbrev wl_M_lies : List Cond := .code y_M_lies b_M_lies 3 (some .boolean) :: BG
theorem bc_M_lies : Cond.code y_M_lies b_M_lies 3 (some .boolean) ∈ BG := bg_t (List.mem_of_getElem? (i := 511) (by decide +kernel)) rfl
theorem hdV_M_lies : y_M_lies.cls = R_M ∧ y_M_lies.cls ≠ "java/lang/invoke/MethodHandle" ∧ y_M_lies.cls ≠ "java/lang/invoke/VarHandle" ∧ (parseMethodDescriptor y_M_lies.desc).map (fun d => d.parameters.length) = some 2 := by decide +kernel
abbrev b_M_showsYoung : ByteArray := prog_6_method_6_code
def y_M_showsYoung : MethodName := ⟨R_M, "showsYoung", "(I)Z"⟩
abbrev wl_M_showsYoung : List Cond := .code y_M_showsYoung b_M_showsYoung 5 (some .boolean) :: BG
theorem bc_M_showsYoung : Cond.code y_M_showsYoung b_M_showsYoung 5 (some .boolean) ∈ BG := bg_t (List.mem_of_getElem? (i := 499) (by decide +kernel)) rfl
theorem hdV_M_showsYoung : y_M_showsYoung.cls = R_M ∧ y_M_showsYoung.cls ≠ "java/lang/invoke/MethodHandle" ∧ y_M_showsYoung.cls ≠ "java/lang/invoke/VarHandle" ∧ (parseMethodDescriptor y_M_showsYoung.desc).map (fun d => d.parameters.length) = some 1 := by decide +kernel
abbrev b_M_becomeOld : ByteArray := prog_6_method_7_code
def y_M_becomeOld : MethodName := ⟨R_M, "becomeOld", "(II)V"⟩
abbrev wl_M_becomeOld : List Cond := .code y_M_becomeOld b_M_becomeOld 3 none :: BG
theorem bc_M_becomeOld : Cond.code y_M_becomeOld b_M_becomeOld 3 none ∈ BG := bg_t (List.mem_of_getElem? (i := 495) (by decide +kernel)) rfl
theorem hdV_M_becomeOld : y_M_becomeOld.cls = R_M ∧ y_M_becomeOld.cls ≠ "java/lang/invoke/MethodHandle" ∧ y_M_becomeOld.cls ≠ "java/lang/invoke/VarHandle" ∧ (parseMethodDescriptor y_M_becomeOld.desc).map (fun d => d.parameters.length) = some 2 := by decide +kernel
abbrev b_M_remove : ByteArray := prog_6_method_8_code
def y_M_remove : MethodName := ⟨R_M, "remove", "(I)V"⟩
abbrev wl_M_remove : List Cond := .code y_M_remove b_M_remove 3 none :: BG
theorem bc_M_remove : Cond.code y_M_remove b_M_remove 3 none ∈ BG := bg_t (List.mem_of_getElem? (i := 479) (by decide +kernel)) rfl
theorem hdV_M_remove : y_M_remove.cls = R_M ∧ y_M_remove.cls ≠ "java/lang/invoke/MethodHandle" ∧ y_M_remove.cls ≠ "java/lang/invoke/VarHandle" ∧ (parseMethodDescriptor y_M_remove.desc).map (fun d => d.parameters.length) = some 1 := by decide +kernel
abbrev b_M_reach : ByteArray := prog_6_method_9_code
def y_M_reach : MethodName := ⟨R_M, "reach", "(I)V"⟩
abbrev wl_M_reach : List Cond := .code y_M_reach b_M_reach 4 none :: BG
theorem bc_M_reach : Cond.code y_M_reach b_M_reach 4 none ∈ BG := bg_t (List.mem_of_getElem? (i := 507) (by decide +kernel)) rfl
theorem hdV_M_reach : y_M_reach.cls = R_M ∧ y_M_reach.cls ≠ "java/lang/invoke/MethodHandle" ∧ y_M_reach.cls ≠ "java/lang/invoke/VarHandle" ∧ (parseMethodDescriptor y_M_reach.desc).map (fun d => d.parameters.length) = some 1 := by decide +kernel
abbrev b_M_reachFrom : ByteArray := prog_6_method_10_code
def y_M_reachFrom : MethodName := ⟨R_M, "reachFrom", "(I)V"⟩
abbrev wl_M_reachFrom : List Cond := .code y_M_reachFrom b_M_reachFrom 3 none :: BG
theorem bc_M_reachFrom : Cond.code y_M_reachFrom b_M_reachFrom 3 none ∈ BG := bg_t (List.mem_of_getElem? (i := 515) (by decide +kernel)) rfl
theorem hdV_M_reachFrom : y_M_reachFrom.cls = R_M ∧ y_M_reachFrom.cls ≠ "java/lang/invoke/MethodHandle" ∧ y_M_reachFrom.cls ≠ "java/lang/invoke/VarHandle" ∧ (parseMethodDescriptor y_M_reachFrom.desc).map (fun d => d.parameters.length) = some 1 := by decide +kernel
abbrev b_M_prepare : ByteArray := prog_6_method_11_code
def y_M_prepare : MethodName := ⟨R_M, "prepare", "()V"⟩
abbrev wl_M_prepare : List Cond := .code y_M_prepare b_M_prepare 2 none :: BG
theorem bc_M_prepare : Cond.code y_M_prepare b_M_prepare 2 none ∈ BG := bg_t (List.mem_of_getElem? (i := 471) (by decide +kernel)) rfl
theorem hdV_M_prepare : y_M_prepare.cls = R_M ∧ y_M_prepare.cls ≠ "java/lang/invoke/MethodHandle" ∧ y_M_prepare.cls ≠ "java/lang/invoke/VarHandle" ∧ (parseMethodDescriptor y_M_prepare.desc).map (fun d => d.parameters.length) = some 0 := by decide +kernel
abbrev b_M_collectYoung : ByteArray := prog_6_method_12_code
def y_M_collectYoung : MethodName := ⟨R_M, "collectYoung", "()V"⟩
abbrev wl_M_collectYoung : List Cond := .code y_M_collectYoung b_M_collectYoung 3 none :: BG
theorem bc_M_collectYoung : Cond.code y_M_collectYoung b_M_collectYoung 3 none ∈ BG := bg_t (List.mem_of_getElem? (i := 503) (by decide +kernel)) rfl
theorem hdV_M_collectYoung : y_M_collectYoung.cls = R_M ∧ y_M_collectYoung.cls ≠ "java/lang/invoke/MethodHandle" ∧ y_M_collectYoung.cls ≠ "java/lang/invoke/VarHandle" ∧ (parseMethodDescriptor y_M_collectYoung.desc).map (fun d => d.parameters.length) = some 0 := by decide +kernel
abbrev b_M_meetAll : ByteArray := prog_6_method_13_code
def y_M_meetAll : MethodName := ⟨R_M, "meetAll", "()V"⟩
abbrev wl_M_meetAll : List Cond := .code y_M_meetAll b_M_meetAll 6 none :: BG
theorem bc_M_meetAll : Cond.code y_M_meetAll b_M_meetAll 6 none ∈ BG := bg_t (List.mem_of_getElem? (i := 475) (by decide +kernel)) rfl
theorem hdV_M_meetAll : y_M_meetAll.cls = R_M ∧ y_M_meetAll.cls ≠ "java/lang/invoke/MethodHandle" ∧ y_M_meetAll.cls ≠ "java/lang/invoke/VarHandle" ∧ (parseMethodDescriptor y_M_meetAll.desc).map (fun d => d.parameters.length) = some 0 := by decide +kernel
abbrev b_M_slide : ByteArray := prog_6_method_14_code
def y_M_slide : MethodName := ⟨R_M, "slide", "()V"⟩
abbrev wl_M_slide : List Cond := .code y_M_slide b_M_slide 4 none :: BG
theorem bc_M_slide : Cond.code y_M_slide b_M_slide 4 none ∈ BG := bg_t (List.mem_of_getElem? (i := 483) (by decide +kernel)) rfl
theorem hdV_M_slide : y_M_slide.cls = R_M ∧ y_M_slide.cls ≠ "java/lang/invoke/MethodHandle" ∧ y_M_slide.cls ≠ "java/lang/invoke/VarHandle" ∧ (parseMethodDescriptor y_M_slide.desc).map (fun d => d.parameters.length) = some 0 := by decide +kernel
abbrev b_M_collectFull : ByteArray := prog_6_method_15_code
def y_M_collectFull : MethodName := ⟨R_M, "collectFull", "()V"⟩
abbrev wl_M_collectFull : List Cond := .code y_M_collectFull b_M_collectFull 6 none :: BG
theorem bc_M_collectFull : Cond.code y_M_collectFull b_M_collectFull 6 none ∈ BG := bg_t (List.mem_of_getElem? (i := 467) (by decide +kernel)) rfl
theorem hdV_M_collectFull : y_M_collectFull.cls = R_M ∧ y_M_collectFull.cls ≠ "java/lang/invoke/MethodHandle" ∧ y_M_collectFull.cls ≠ "java/lang/invoke/VarHandle" ∧ (parseMethodDescriptor y_M_collectFull.desc).map (fun d => d.parameters.length) = some 0 := by decide +kernel
abbrev b_M_collect : ByteArray := prog_6_method_16_code
def y_M_collect : MethodName := ⟨R_M, "collect", "(Z)I"⟩
abbrev wl_M_collect : List Cond := .code y_M_collect b_M_collect 2 (some .int) :: BG
theorem bc_M_collect : Cond.code y_M_collect b_M_collect 2 (some .int) ∈ BG := bg_t (List.mem_of_getElem? (i := 463) (by decide +kernel)) rfl
theorem hdV_M_collect : y_M_collect.cls = R_M ∧ y_M_collect.cls ≠ "java/lang/invoke/MethodHandle" ∧ y_M_collect.cls ≠ "java/lang/invoke/VarHandle" ∧ (parseMethodDescriptor y_M_collect.desc).map (fun d => d.parameters.length) = some 1 := by decide +kernel
abbrev b_M_create : ByteArray := prog_6_method_17_code
def y_M_create : MethodName := ⟨R_M, "create", "(III)I"⟩
abbrev wl_M_create : List Cond := .code y_M_create b_M_create 6 (some .int) :: BG
theorem bc_M_create : Cond.code y_M_create b_M_create 6 (some .int) ∈ BG := bg_t (List.mem_of_getElem? (i := 519) (by decide +kernel)) rfl
theorem hdV_M_create : y_M_create.cls = R_M ∧ y_M_create.cls ≠ "java/lang/invoke/MethodHandle" ∧ y_M_create.cls ≠ "java/lang/invoke/VarHandle" ∧ (parseMethodDescriptor y_M_create.desc).map (fun d => d.parameters.length) = some 3 := by decide +kernel
abbrev b_M_clear : ByteArray := prog_6_method_18_code
def y_M_clear : MethodName := ⟨R_M, "clear", "(I)Z"⟩
abbrev wl_M_clear : List Cond := .code y_M_clear b_M_clear 2 (some .boolean) :: BG
theorem bc_M_clear : Cond.code y_M_clear b_M_clear 2 (some .boolean) ∈ BG := bg_t (List.mem_of_getElem? (i := 534) (by decide +kernel)) rfl
theorem hdV_M_clear : y_M_clear.cls = R_M ∧ y_M_clear.cls ≠ "java/lang/invoke/MethodHandle" ∧ y_M_clear.cls ≠ "java/lang/invoke/VarHandle" ∧ (parseMethodDescriptor y_M_clear.desc).map (fun d => d.parameters.length) = some 1 := by decide +kernel
abbrev b_M_copy : ByteArray := prog_6_method_19_code
def y_M_copy : MethodName := ⟨R_M, "copy", "(II)Z"⟩
abbrev wl_M_copy : List Cond := .code y_M_copy b_M_copy 3 (some .boolean) :: BG
theorem bc_M_copy : Cond.code y_M_copy b_M_copy 3 (some .boolean) ∈ BG := bg_t (List.mem_of_getElem? (i := 538) (by decide +kernel)) rfl
theorem hdV_M_copy : y_M_copy.cls = R_M ∧ y_M_copy.cls ≠ "java/lang/invoke/MethodHandle" ∧ y_M_copy.cls ≠ "java/lang/invoke/VarHandle" ∧ (parseMethodDescriptor y_M_copy.desc).map (fun d => d.parameters.length) = some 2 := by decide +kernel
abbrev b_M_check : ByteArray := prog_6_method_20_code
def y_M_check : MethodName := ⟨R_M, "check", "(III)I"⟩
abbrev wl_M_check : List Cond := .code y_M_check b_M_check 5 (some .int) :: BG
theorem bc_M_check : Cond.code y_M_check b_M_check 5 (some .int) ∈ BG := bg_t (List.mem_of_getElem? (i := 546) (by decide +kernel)) rfl
theorem hdV_M_check : y_M_check.cls = R_M ∧ y_M_check.cls ≠ "java/lang/invoke/MethodHandle" ∧ y_M_check.cls ≠ "java/lang/invoke/VarHandle" ∧ (parseMethodDescriptor y_M_check.desc).map (fun d => d.parameters.length) = some 3 := by decide +kernel
abbrev b_M_load : ByteArray := prog_6_method_21_code
def y_M_load : MethodName := ⟨R_M, "load", "(III)I"⟩
abbrev wl_M_load : List Cond := .code y_M_load b_M_load 5 (some .int) :: BG
theorem bc_M_load : Cond.code y_M_load b_M_load 5 (some .int) ∈ BG := bg_t (List.mem_of_getElem? (i := 542) (by decide +kernel)) rfl
theorem hdV_M_load : y_M_load.cls = R_M ∧ y_M_load.cls ≠ "java/lang/invoke/MethodHandle" ∧ y_M_load.cls ≠ "java/lang/invoke/VarHandle" ∧ (parseMethodDescriptor y_M_load.desc).map (fun d => d.parameters.length) = some 3 := by decide +kernel
abbrev b_M_store : ByteArray := prog_6_method_22_code
def y_M_store : MethodName := ⟨R_M, "store", "(III)I"⟩
abbrev wl_M_store : List Cond := .code y_M_store b_M_store 6 (some .int) :: BG
theorem bc_M_store : Cond.code y_M_store b_M_store 6 (some .int) ∈ BG := bg_t (List.mem_of_getElem? (i := 550) (by decide +kernel)) rfl
theorem hdV_M_store : y_M_store.cls = R_M ∧ y_M_store.cls ≠ "java/lang/invoke/MethodHandle" ∧ y_M_store.cls ≠ "java/lang/invoke/VarHandle" ∧ (parseMethodDescriptor y_M_store.desc).map (fun d => d.parameters.length) = some 3 := by decide +kernel
abbrev b_M_payload : ByteArray := prog_6_method_23_code
def y_M_payload : MethodName := ⟨R_M, "payload", "(I)I"⟩
abbrev wl_M_payload : List Cond := .code y_M_payload b_M_payload 2 (some .int) :: BG
theorem bc_M_payload : Cond.code y_M_payload b_M_payload 2 (some .int) ∈ BG := bg_t (List.mem_of_getElem? (i := 554) (by decide +kernel)) rfl
theorem hdV_M_payload : y_M_payload.cls = R_M ∧ y_M_payload.cls ≠ "java/lang/invoke/MethodHandle" ∧ y_M_payload.cls ≠ "java/lang/invoke/VarHandle" ∧ (parseMethodDescriptor y_M_payload.desc).map (fun d => d.parameters.length) = some 1 := by decide +kernel
abbrev b_M_same : ByteArray := prog_6_method_24_code
def y_M_same : MethodName := ⟨R_M, "same", "(II)Z"⟩
abbrev wl_M_same : List Cond := .code y_M_same b_M_same 3 (some .boolean) :: BG
theorem bc_M_same : Cond.code y_M_same b_M_same 3 (some .boolean) ∈ BG := bg_t (List.mem_of_getElem? (i := 558) (by decide +kernel)) rfl
theorem hdV_M_same : y_M_same.cls = R_M ∧ y_M_same.cls ≠ "java/lang/invoke/MethodHandle" ∧ y_M_same.cls ≠ "java/lang/invoke/VarHandle" ∧ (parseMethodDescriptor y_M_same.desc).map (fun d => d.parameters.length) = some 2 := by decide +kernel
abbrev b_M_address : ByteArray := prog_6_method_25_code
def y_M_address : MethodName := ⟨R_M, "address", "(I)I"⟩
abbrev wl_M_address : List Cond := .code y_M_address b_M_address 3 (some .int) :: BG
theorem bc_M_address : Cond.code y_M_address b_M_address 3 (some .int) ∈ BG := bg_t (List.mem_of_getElem? (i := 562) (by decide +kernel)) rfl
theorem hdV_M_address : y_M_address.cls = R_M ∧ y_M_address.cls ≠ "java/lang/invoke/MethodHandle" ∧ y_M_address.cls ≠ "java/lang/invoke/VarHandle" ∧ (parseMethodDescriptor y_M_address.desc).map (fun d => d.parameters.length) = some 1 := by decide +kernel
abbrev b_M_age : ByteArray := prog_6_method_26_code
def y_M_age : MethodName := ⟨R_M, "age", "(I)I"⟩
abbrev wl_M_age : List Cond := .code y_M_age b_M_age 3 (some .int) :: BG
theorem bc_M_age : Cond.code y_M_age b_M_age 3 (some .int) ∈ BG := bg_t (List.mem_of_getElem? (i := 566) (by decide +kernel)) rfl
theorem hdV_M_age : y_M_age.cls = R_M ∧ y_M_age.cls ≠ "java/lang/invoke/MethodHandle" ∧ y_M_age.cls ≠ "java/lang/invoke/VarHandle" ∧ (parseMethodDescriptor y_M_age.desc).map (fun d => d.parameters.length) = some 1 := by decide +kernel
abbrev b_M_shade : ByteArray := prog_6_method_27_code
def y_M_shade : MethodName := ⟨R_M, "shade", "(I)I"⟩
abbrev wl_M_shade : List Cond := .code y_M_shade b_M_shade 2 (some .int) :: BG
theorem bc_M_shade : Cond.code y_M_shade b_M_shade 2 (some .int) ∈ BG := bg_t (List.mem_of_getElem? (i := 574) (by decide +kernel)) rfl
theorem hdV_M_shade : y_M_shade.cls = R_M ∧ y_M_shade.cls ≠ "java/lang/invoke/MethodHandle" ∧ y_M_shade.cls ≠ "java/lang/invoke/VarHandle" ∧ (parseMethodDescriptor y_M_shade.desc).map (fun d => d.parameters.length) = some 1 := by decide +kernel
abbrev b_M_scan : ByteArray := prog_6_method_28_code
def y_M_scan : MethodName := ⟨R_M, "scan", "(I)I"⟩
abbrev wl_M_scan : List Cond := .code y_M_scan b_M_scan 4 (some .int) :: BG
theorem bc_M_scan : Cond.code y_M_scan b_M_scan 4 (some .int) ∈ BG := bg_t (List.mem_of_getElem? (i := 586) (by decide +kernel)) rfl
theorem hdV_M_scan : y_M_scan.cls = R_M ∧ y_M_scan.cls ≠ "java/lang/invoke/MethodHandle" ∧ y_M_scan.cls ≠ "java/lang/invoke/VarHandle" ∧ (parseMethodDescriptor y_M_scan.desc).map (fun d => d.parameters.length) = some 1 := by decide +kernel
abbrev b_M_next : ByteArray := prog_6_method_29_code
def y_M_next : MethodName := ⟨R_M, "next", "(IZ)I"⟩
abbrev wl_M_next : List Cond := .code y_M_next b_M_next 5 (some .int) :: BG
theorem bc_M_next : Cond.code y_M_next b_M_next 5 (some .int) ∈ BG := bg_t (List.mem_of_getElem? (i := 582) (by decide +kernel)) rfl
theorem hdV_M_next : y_M_next.cls = R_M ∧ y_M_next.cls ≠ "java/lang/invoke/MethodHandle" ∧ y_M_next.cls ≠ "java/lang/invoke/VarHandle" ∧ (parseMethodDescriptor y_M_next.desc).map (fun d => d.parameters.length) = some 2 := by decide +kernel
abbrev b_M_regrey : ByteArray := prog_6_method_30_code
def y_M_regrey : MethodName := ⟨R_M, "regrey", "(I)V"⟩
abbrev wl_M_regrey : List Cond := .code y_M_regrey b_M_regrey 3 none :: BG
theorem bc_M_regrey : Cond.code y_M_regrey b_M_regrey 3 none ∈ BG := bg_t (List.mem_of_getElem? (i := 594) (by decide +kernel)) rfl
theorem hdV_M_regrey : y_M_regrey.cls = R_M ∧ y_M_regrey.cls ≠ "java/lang/invoke/MethodHandle" ∧ y_M_regrey.cls ≠ "java/lang/invoke/VarHandle" ∧ (parseMethodDescriptor y_M_regrey.desc).map (fun d => d.parameters.length) = some 1 := by decide +kernel
abbrev b_M_begin : ByteArray := prog_6_method_31_code
def y_M_begin : MethodName := ⟨R_M, "begin", "()I"⟩
abbrev wl_M_begin : List Cond := .code y_M_begin b_M_begin 3 (some .int) :: BG
theorem bc_M_begin : Cond.code y_M_begin b_M_begin 3 (some .int) ∈ BG := bg_t (List.mem_of_getElem? (i := 570) (by decide +kernel)) rfl
theorem hdV_M_begin : y_M_begin.cls = R_M ∧ y_M_begin.cls ≠ "java/lang/invoke/MethodHandle" ∧ y_M_begin.cls ≠ "java/lang/invoke/VarHandle" ∧ (parseMethodDescriptor y_M_begin.desc).map (fun d => d.parameters.length) = some 0 := by decide +kernel
abbrev b_M_mark : ByteArray := prog_6_method_32_code
def y_M_mark : MethodName := ⟨R_M, "mark", "()I"⟩
abbrev wl_M_mark : List Cond := .code y_M_mark b_M_mark 2 (some .int) :: BG
theorem bc_M_mark : Cond.code y_M_mark b_M_mark 2 (some .int) ∈ BG := bg_t (List.mem_of_getElem? (i := 578) (by decide +kernel)) rfl
theorem hdV_M_mark : y_M_mark.cls = R_M ∧ y_M_mark.cls ≠ "java/lang/invoke/MethodHandle" ∧ y_M_mark.cls ≠ "java/lang/invoke/VarHandle" ∧ (parseMethodDescriptor y_M_mark.desc).map (fun d => d.parameters.length) = some 0 := by decide +kernel
abbrev b_M_preclean : ByteArray := prog_6_method_33_code
def y_M_preclean : MethodName := ⟨R_M, "preclean", "()I"⟩
abbrev wl_M_preclean : List Cond := .code y_M_preclean b_M_preclean 2 (some .int) :: BG
theorem bc_M_preclean : Cond.code y_M_preclean b_M_preclean 2 (some .int) ∈ BG := bg_t (List.mem_of_getElem? (i := 590) (by decide +kernel)) rfl
theorem hdV_M_preclean : y_M_preclean.cls = R_M ∧ y_M_preclean.cls ≠ "java/lang/invoke/MethodHandle" ∧ y_M_preclean.cls ≠ "java/lang/invoke/VarHandle" ∧ (parseMethodDescriptor y_M_preclean.desc).map (fun d => d.parameters.length) = some 0 := by decide +kernel
abbrev b_M_remark : ByteArray := prog_6_method_34_code
def y_M_remark : MethodName := ⟨R_M, "remark", "()I"⟩
abbrev wl_M_remark : List Cond := .code y_M_remark b_M_remark 4 (some .int) :: BG
theorem bc_M_remark : Cond.code y_M_remark b_M_remark 4 (some .int) ∈ BG := bg_t (List.mem_of_getElem? (i := 598) (by decide +kernel)) rfl
theorem hdV_M_remark : y_M_remark.cls = R_M ∧ y_M_remark.cls ≠ "java/lang/invoke/MethodHandle" ∧ y_M_remark.cls ≠ "java/lang/invoke/VarHandle" ∧ (parseMethodDescriptor y_M_remark.desc).map (fun d => d.parameters.length) = some 0 := by decide +kernel
abbrev b_M_sweep : ByteArray := prog_6_method_35_code
def y_M_sweep : MethodName := ⟨R_M, "sweep", "()I"⟩
abbrev wl_M_sweep : List Cond := .code y_M_sweep b_M_sweep 3 (some .int) :: BG
theorem bc_M_sweep : Cond.code y_M_sweep b_M_sweep 3 (some .int) ∈ BG := bg_t (List.mem_of_getElem? (i := 602) (by decide +kernel)) rfl
theorem hdV_M_sweep : y_M_sweep.cls = R_M ∧ y_M_sweep.cls ≠ "java/lang/invoke/MethodHandle" ∧ y_M_sweep.cls ≠ "java/lang/invoke/VarHandle" ∧ (parseMethodDescriptor y_M_sweep.desc).map (fun d => d.parameters.length) = some 0 := by decide +kernel
abbrev b_M_phase : ByteArray := prog_6_method_36_code
def y_M_phase : MethodName := ⟨R_M, "phase", "()I"⟩
abbrev wl_M_phase : List Cond := .code y_M_phase b_M_phase 1 (some .int) :: BG
theorem bc_M_phase : Cond.code y_M_phase b_M_phase 1 (some .int) ∈ BG := bg_t (List.mem_of_getElem? (i := 606) (by decide +kernel)) rfl
theorem hdV_M_phase : y_M_phase.cls = R_M ∧ y_M_phase.cls ≠ "java/lang/invoke/MethodHandle" ∧ y_M_phase.cls ≠ "java/lang/invoke/VarHandle" ∧ (parseMethodDescriptor y_M_phase.desc).map (fun d => d.parameters.length) = some 0 := by decide +kernel
abbrev b_M_cells : ByteArray := prog_6_method_37_code
def y_M_cells : MethodName := ⟨R_M, "cells", "(I)I"⟩
abbrev wl_M_cells : List Cond := .code y_M_cells b_M_cells 4 (some .int) :: BG
theorem bc_M_cells : Cond.code y_M_cells b_M_cells 4 (some .int) ∈ BG := bg_t (List.mem_of_getElem? (i := 530) (by decide +kernel)) rfl
theorem hdV_M_cells : y_M_cells.cls = R_M ∧ y_M_cells.cls ≠ "java/lang/invoke/MethodHandle" ∧ y_M_cells.cls ≠ "java/lang/invoke/VarHandle" ∧ (parseMethodDescriptor y_M_cells.desc).map (fun d => d.parameters.length) = some 1 := by decide +kernel
abbrev b_M_oldCells : ByteArray := prog_6_method_38_code
def y_M_oldCells : MethodName := ⟨R_M, "oldCells", "()I"⟩
abbrev wl_M_oldCells : List Cond := .code y_M_oldCells b_M_oldCells 1 (some .int) :: BG
theorem bc_M_oldCells : Cond.code y_M_oldCells b_M_oldCells 1 (some .int) ∈ BG := bg_t (List.mem_of_getElem? (i := 610) (by decide +kernel)) rfl
theorem hdV_M_oldCells : y_M_oldCells.cls = R_M ∧ y_M_oldCells.cls ≠ "java/lang/invoke/MethodHandle" ∧ y_M_oldCells.cls ≠ "java/lang/invoke/VarHandle" ∧ (parseMethodDescriptor y_M_oldCells.desc).map (fun d => d.parameters.length) = some 0 := by decide +kernel
abbrev b_M_youngCells : ByteArray := prog_6_method_39_code
def y_M_youngCells : MethodName := ⟨R_M, "youngCells", "()I"⟩
abbrev wl_M_youngCells : List Cond := .code y_M_youngCells b_M_youngCells 1 (some .int) :: BG
theorem bc_M_youngCells : Cond.code y_M_youngCells b_M_youngCells 1 (some .int) ∈ BG := bg_t (List.mem_of_getElem? (i := 526) (by decide +kernel)) rfl
theorem hdV_M_youngCells : y_M_youngCells.cls = R_M ∧ y_M_youngCells.cls ≠ "java/lang/invoke/MethodHandle" ∧ y_M_youngCells.cls ≠ "java/lang/invoke/VarHandle" ∧ (parseMethodDescriptor y_M_youngCells.desc).map (fun d => d.parameters.length) = some 0 := by decide +kernel
abbrev b_M_cards : ByteArray := prog_6_method_40_code
def y_M_cards : MethodName := ⟨R_M, "cards", "()I"⟩
abbrev wl_M_cards : List Cond := .code y_M_cards b_M_cards 3 (some .int) :: BG
theorem bc_M_cards : Cond.code y_M_cards b_M_cards 3 (some .int) ∈ BG := bg_t (List.mem_of_getElem? (i := 615) (by decide +kernel)) rfl
theorem hdV_M_cards : y_M_cards.cls = R_M ∧ y_M_cards.cls ≠ "java/lang/invoke/MethodHandle" ∧ y_M_cards.cls ≠ "java/lang/invoke/VarHandle" ∧ (parseMethodDescriptor y_M_cards.desc).map (fun d => d.parameters.length) = some 0 := by decide +kernel
abbrev b_M_marked : ByteArray := prog_6_method_41_code
def y_M_marked : MethodName := ⟨R_M, "marked", "()I"⟩
abbrev wl_M_marked : List Cond := .code y_M_marked b_M_marked 3 (some .int) :: BG
theorem bc_M_marked : Cond.code y_M_marked b_M_marked 3 (some .int) ∈ BG := bg_t (List.mem_of_getElem? (i := 619) (by decide +kernel)) rfl
theorem hdV_M_marked : y_M_marked.cls = R_M ∧ y_M_marked.cls ≠ "java/lang/invoke/MethodHandle" ∧ y_M_marked.cls ≠ "java/lang/invoke/VarHandle" ∧ (parseMethodDescriptor y_M_marked.desc).map (fun d => d.parameters.length) = some 0 := by decide +kernel
abbrev b_O_init : ByteArray := prog_2_method_1_code
def y_O_init : MethodName := ⟨R_O, "<init>", "()V"⟩
abbrev wl_O_init : List Cond := .code y_O_init b_O_init 1 none :: BG
theorem bc_O_init : Cond.code y_O_init b_O_init 1 none ∈ BG := bg_t (List.mem_of_getElem? (i := 37) (by decide +kernel)) rfl
theorem hdV_O_init : y_O_init.cls = R_O ∧ y_O_init.cls ≠ "java/lang/invoke/MethodHandle" ∧ y_O_init.cls ≠ "java/lang/invoke/VarHandle" ∧ (parseMethodDescriptor y_O_init.desc).map (fun d => d.parameters.length) = some 0 := by decide +kernel
abbrev b_O_findPlace : ByteArray := prog_2_method_2_code
def y_O_findPlace : MethodName := ⟨R_O, "findPlace", "(I)I"⟩
abbrev wl_O_findPlace : List Cond := .code y_O_findPlace b_O_findPlace 4 (some .int) :: BG
theorem bc_O_findPlace : Cond.code y_O_findPlace b_O_findPlace 4 (some .int) ∈ BG := bg_t (List.mem_of_getElem? (i := 120) (by decide +kernel)) rfl
theorem hdV_O_findPlace : y_O_findPlace.cls = R_O ∧ y_O_findPlace.cls ≠ "java/lang/invoke/MethodHandle" ∧ y_O_findPlace.cls ≠ "java/lang/invoke/VarHandle" ∧ (parseMethodDescriptor y_O_findPlace.desc).map (fun d => d.parameters.length) = some 1 := by decide +kernel
abbrev b_O_putAt : ByteArray := prog_2_method_3_code
def y_O_putAt : MethodName := ⟨R_O, "putAt", "(LDirtyCardHeap$Thing;I)V"⟩
abbrev wl_O_putAt : List Cond := .code y_O_putAt b_O_putAt 3 none :: BG
theorem bc_O_putAt : Cond.code y_O_putAt b_O_putAt 3 none ∈ BG := bg_t (List.mem_of_getElem? (i := 124) (by decide +kernel)) rfl
theorem hdV_O_putAt : y_O_putAt.cls = R_O ∧ y_O_putAt.cls ≠ "java/lang/invoke/MethodHandle" ∧ y_O_putAt.cls ≠ "java/lang/invoke/VarHandle" ∧ (parseMethodDescriptor y_O_putAt.desc).map (fun d => d.parameters.length) = some 2 := by decide +kernel
abbrev b_O_takeOut : ByteArray := prog_2_method_4_code
def y_O_takeOut : MethodName := ⟨R_O, "takeOut", "(LDirtyCardHeap$Thing;)V"⟩
abbrev wl_O_takeOut : List Cond := .code y_O_takeOut b_O_takeOut 2 none :: BG
theorem bc_O_takeOut : Cond.code y_O_takeOut b_O_takeOut 2 none ∈ BG := bg_t (List.mem_of_getElem? (i := 208) (by decide +kernel)) rfl
theorem hdV_O_takeOut : y_O_takeOut.cls = R_O ∧ y_O_takeOut.cls ≠ "java/lang/invoke/MethodHandle" ∧ y_O_takeOut.cls ≠ "java/lang/invoke/VarHandle" ∧ (parseMethodDescriptor y_O_takeOut.desc).map (fun d => d.parameters.length) = some 1 := by decide +kernel
abbrev b_O_fill : ByteArray := prog_2_method_5_code
def y_O_fill : MethodName := ⟨R_O, "fill", "(IILDirtyCardHeap$Thing;)V"⟩
abbrev wl_O_fill : List Cond := .code y_O_fill b_O_fill 5 none :: BG
theorem bc_O_fill : Cond.code y_O_fill b_O_fill 5 none ∈ BG := bg_t (List.mem_of_getElem? (i := 129) (by decide +kernel)) rfl
theorem hdV_O_fill : y_O_fill.cls = R_O ∧ y_O_fill.cls ≠ "java/lang/invoke/MethodHandle" ∧ y_O_fill.cls ≠ "java/lang/invoke/VarHandle" ∧ (parseMethodDescriptor y_O_fill.desc).map (fun d => d.parameters.length) = some 3 := by decide +kernel
abbrev b_O_thingAt : ByteArray := prog_2_method_6_code
def y_O_thingAt : MethodName := ⟨R_O, "thingAt", "(I)LDirtyCardHeap$Thing;"⟩
abbrev wl_O_thingAt : List Cond := .code y_O_thingAt b_O_thingAt 3 (some (.object "DirtyCardHeap$Thing")) :: BG
theorem bc_O_thingAt : Cond.code y_O_thingAt b_O_thingAt 3 (some (.object "DirtyCardHeap$Thing")) ∈ BG := bg_t (List.mem_of_getElem? (i := 204) (by decide +kernel)) rfl
theorem hdV_O_thingAt : y_O_thingAt.cls = R_O ∧ y_O_thingAt.cls ≠ "java/lang/invoke/MethodHandle" ∧ y_O_thingAt.cls ≠ "java/lang/invoke/VarHandle" ∧ (parseMethodDescriptor y_O_thingAt.desc).map (fun d => d.parameters.length) = some 1 := by decide +kernel
abbrev b_O_firstFrom : ByteArray := prog_2_method_7_code
def y_O_firstFrom : MethodName := ⟨R_O, "firstFrom", "(I)LDirtyCardHeap$Thing;"⟩
abbrev wl_O_firstFrom : List Cond := .code y_O_firstFrom b_O_firstFrom 4 (some (.object "DirtyCardHeap$Thing")) :: BG
theorem bc_O_firstFrom : Cond.code y_O_firstFrom b_O_firstFrom 4 (some (.object "DirtyCardHeap$Thing")) ∈ BG := bg_t (List.mem_of_getElem? (i := 358) (by decide +kernel)) rfl
theorem hdV_O_firstFrom : y_O_firstFrom.cls = R_O ∧ y_O_firstFrom.cls ≠ "java/lang/invoke/MethodHandle" ∧ y_O_firstFrom.cls ≠ "java/lang/invoke/VarHandle" ∧ (parseMethodDescriptor y_O_firstFrom.desc).map (fun d => d.parameters.length) = some 1 := by decide +kernel
abbrev b_O_firstGrey : ByteArray := prog_2_method_8_code
def y_O_firstGrey : MethodName := ⟨R_O, "firstGrey", "()LDirtyCardHeap$Thing;"⟩
abbrev wl_O_firstGrey : List Cond := .code y_O_firstGrey b_O_firstGrey 3 (some (.object "DirtyCardHeap$Thing")) :: BG
theorem bc_O_firstGrey : Cond.code y_O_firstGrey b_O_firstGrey 3 (some (.object "DirtyCardHeap$Thing")) ∈ BG := bg_t (List.mem_of_getElem? (i := 324) (by decide +kernel)) rfl
theorem hdV_O_firstGrey : y_O_firstGrey.cls = R_O ∧ y_O_firstGrey.cls ≠ "java/lang/invoke/MethodHandle" ∧ y_O_firstGrey.cls ≠ "java/lang/invoke/VarHandle" ∧ (parseMethodDescriptor y_O_firstGrey.desc).map (fun d => d.parameters.length) = some 0 := by decide +kernel
abbrev b_O_referenceIn : ByteArray := prog_2_method_9_code
def y_O_referenceIn : MethodName := ⟨R_O, "referenceIn", "(I)LDirtyCardHeap$Thing;"⟩
abbrev wl_O_referenceIn : List Cond := .code y_O_referenceIn b_O_referenceIn 4 (some (.object "DirtyCardHeap$Thing")) :: BG
theorem bc_O_referenceIn : Cond.code y_O_referenceIn b_O_referenceIn 4 (some (.object "DirtyCardHeap$Thing")) ∈ BG := bg_t (List.mem_of_getElem? (i := 148) (by decide +kernel)) rfl
theorem hdV_O_referenceIn : y_O_referenceIn.cls = R_O ∧ y_O_referenceIn.cls ≠ "java/lang/invoke/MethodHandle" ∧ y_O_referenceIn.cls ≠ "java/lang/invoke/VarHandle" ∧ (parseMethodDescriptor y_O_referenceIn.desc).map (fun d => d.parameters.length) = some 1 := by decide +kernel
abbrev b_O_cardsReferringToYoung : ByteArray := prog_2_method_10_code
def y_O_cardsReferringToYoung : MethodName := ⟨R_O, "cardsReferringToYoung", "()I"⟩
abbrev wl_O_cardsReferringToYoung : List Cond := .code y_O_cardsReferringToYoung b_O_cardsReferringToYoung 4 (some .int) :: BG
theorem bc_O_cardsReferringToYoung : Cond.code y_O_cardsReferringToYoung b_O_cardsReferringToYoung 4 (some .int) ∈ BG := bg_t (List.mem_of_getElem? (i := 185) (by decide +kernel)) rfl
theorem hdV_O_cardsReferringToYoung : y_O_cardsReferringToYoung.cls = R_O ∧ y_O_cardsReferringToYoung.cls ≠ "java/lang/invoke/MethodHandle" ∧ y_O_cardsReferringToYoung.cls ≠ "java/lang/invoke/VarHandle" ∧ (parseMethodDescriptor y_O_cardsReferringToYoung.desc).map (fun d => d.parameters.length) = some 0 := by decide +kernel
abbrev b_O_greyMarkedOn : ByteArray := prog_2_method_11_code
def y_O_greyMarkedOn : MethodName := ⟨R_O, "greyMarkedOn", "(I)V"⟩
abbrev wl_O_greyMarkedOn : List Cond := .code y_O_greyMarkedOn b_O_greyMarkedOn 4 none :: BG
theorem bc_O_greyMarkedOn : Cond.code y_O_greyMarkedOn b_O_greyMarkedOn 4 none ∈ BG := bg_t (List.mem_of_getElem? (i := 338) (by decide +kernel)) rfl
theorem hdV_O_greyMarkedOn : y_O_greyMarkedOn.cls = R_O ∧ y_O_greyMarkedOn.cls ≠ "java/lang/invoke/MethodHandle" ∧ y_O_greyMarkedOn.cls ≠ "java/lang/invoke/VarHandle" ∧ (parseMethodDescriptor y_O_greyMarkedOn.desc).map (fun d => d.parameters.length) = some 1 := by decide +kernel
abbrev b_O_unmarkAll : ByteArray := prog_2_method_12_code
def y_O_unmarkAll : MethodName := ⟨R_O, "unmarkAll", "()V"⟩
abbrev wl_O_unmarkAll : List Cond := .code y_O_unmarkAll b_O_unmarkAll 3 none :: BG
theorem bc_O_unmarkAll : Cond.code y_O_unmarkAll b_O_unmarkAll 3 none ∈ BG := bg_t (List.mem_of_getElem? (i := 214) (by decide +kernel)) rfl
theorem hdV_O_unmarkAll : y_O_unmarkAll.cls = R_O ∧ y_O_unmarkAll.cls ≠ "java/lang/invoke/MethodHandle" ∧ y_O_unmarkAll.cls ≠ "java/lang/invoke/VarHandle" ∧ (parseMethodDescriptor y_O_unmarkAll.desc).map (fun d => d.parameters.length) = some 0 := by decide +kernel
abbrev b_O_slideReached : ByteArray := prog_2_method_13_code
def y_O_slideReached : MethodName := ⟨R_O, "slideReached", "()V"⟩
abbrev wl_O_slideReached : List Cond := .code y_O_slideReached b_O_slideReached 4 none :: BG
theorem bc_O_slideReached : Cond.code y_O_slideReached b_O_slideReached 4 none ∈ BG := bg_t (List.mem_of_getElem? (i := 200) (by decide +kernel)) rfl
theorem hdV_O_slideReached : y_O_slideReached.cls = R_O ∧ y_O_slideReached.cls ≠ "java/lang/invoke/MethodHandle" ∧ y_O_slideReached.cls ≠ "java/lang/invoke/VarHandle" ∧ (parseMethodDescriptor y_O_slideReached.desc).map (fun d => d.parameters.length) = some 0 := by decide +kernel
abbrev b_O_cellsTaken : ByteArray := prog_2_method_14_code
def y_O_cellsTaken : MethodName := ⟨R_O, "cellsTaken", "()I"⟩
abbrev wl_O_cellsTaken : List Cond := .code y_O_cellsTaken b_O_cellsTaken 3 (some .int) :: BG
theorem bc_O_cellsTaken : Cond.code y_O_cellsTaken b_O_cellsTaken 3 (some .int) ∈ BG := bg_t (List.mem_of_getElem? (i := 371) (by decide +kernel)) rfl
theorem hdV_O_cellsTaken : y_O_cellsTaken.cls = R_O ∧ y_O_cellsTaken.cls ≠ "java/lang/invoke/MethodHandle" ∧ y_O_cellsTaken.cls ≠ "java/lang/invoke/VarHandle" ∧ (parseMethodDescriptor y_O_cellsTaken.desc).map (fun d => d.parameters.length) = some 0 := by decide +kernel
abbrev b_R_init : ByteArray := prog_3_method_1_code
def y_R_init : MethodName := ⟨R_R, "<init>", "(I)V"⟩
abbrev wl_R_init : List Cond := .code y_R_init b_R_init 2 none :: BG
theorem bc_R_init : Cond.code y_R_init b_R_init 2 none ∈ BG := bg_t (List.mem_of_getElem? (i := 21) (by decide +kernel)) rfl
theorem hdV_R_init : y_R_init.cls = R_R ∧ y_R_init.cls ≠ "java/lang/invoke/MethodHandle" ∧ y_R_init.cls ≠ "java/lang/invoke/VarHandle" ∧ (parseMethodDescriptor y_R_init.desc).map (fun d => d.parameters.length) = some 1 := by decide +kernel
abbrev b_R_add : ByteArray := prog_3_method_2_code
def y_R_add : MethodName := ⟨R_R, "add", "(LDirtyCardHeap$Thing;)Z"⟩
abbrev wl_R_add : List Cond := .code y_R_add b_R_add 2 (some .boolean) :: BG
theorem bc_R_add : Cond.code y_R_add b_R_add 2 (some .boolean) ∈ BG := bg_t (List.mem_of_getElem? (i := 108) (by decide +kernel)) rfl
theorem hdV_R_add : y_R_add.cls = R_R ∧ y_R_add.cls ≠ "java/lang/invoke/MethodHandle" ∧ y_R_add.cls ≠ "java/lang/invoke/VarHandle" ∧ (parseMethodDescriptor y_R_add.desc).map (fun d => d.parameters.length) = some 1 := by decide +kernel
abbrev b_R_reach : ByteArray := prog_3_method_3_code
def y_R_reach : MethodName := ⟨R_R, "reach", "(LDirtyCardHeap$Thing;)Z"⟩
abbrev wl_R_reach : List Cond := .code y_R_reach b_R_reach 2 (some .boolean) :: BG
theorem bc_R_reach : Cond.code y_R_reach b_R_reach 2 (some .boolean) ∈ BG := bg_t (List.mem_of_getElem? (i := 104) (by decide +kernel)) rfl
theorem hdV_R_reach : y_R_reach.cls = R_R ∧ y_R_reach.cls ≠ "java/lang/invoke/MethodHandle" ∧ y_R_reach.cls ≠ "java/lang/invoke/VarHandle" ∧ (parseMethodDescriptor y_R_reach.desc).map (fun d => d.parameters.length) = some 1 := by decide +kernel
abbrev b_R_letGo : ByteArray := prog_3_method_4_code
def y_R_letGo : MethodName := ⟨R_R, "letGo", "()V"⟩
abbrev wl_R_letGo : List Cond := .code y_R_letGo b_R_letGo 2 none :: BG
theorem bc_R_letGo : Cond.code y_R_letGo b_R_letGo 2 none ∈ BG := bg_t (List.mem_of_getElem? (i := 177) (by decide +kernel)) rfl
theorem hdV_R_letGo : y_R_letGo.cls = R_R ∧ y_R_letGo.cls ≠ "java/lang/invoke/MethodHandle" ∧ y_R_letGo.cls ≠ "java/lang/invoke/VarHandle" ∧ (parseMethodDescriptor y_R_letGo.desc).map (fun d => d.parameters.length) = some 0 := by decide +kernel
abbrev b_R_empty : ByteArray := prog_3_method_5_code
def y_R_empty : MethodName := ⟨R_R, "empty", "()V"⟩
abbrev wl_R_empty : List Cond := .code y_R_empty b_R_empty 1 none :: BG
theorem bc_R_empty : Cond.code y_R_empty b_R_empty 1 none ∈ BG := bg_t (List.mem_of_getElem? (i := 172) (by decide +kernel)) rfl
theorem hdV_R_empty : y_R_empty.cls = R_R ∧ y_R_empty.cls ≠ "java/lang/invoke/MethodHandle" ∧ y_R_empty.cls ≠ "java/lang/invoke/VarHandle" ∧ (parseMethodDescriptor y_R_empty.desc).map (fun d => d.parameters.length) = some 0 := by decide +kernel
abbrev b_R_cellsTaken : ByteArray := prog_3_method_6_code
def y_R_cellsTaken : MethodName := ⟨R_R, "cellsTaken", "()I"⟩
abbrev wl_R_cellsTaken : List Cond := .code y_R_cellsTaken b_R_cellsTaken 3 (some .int) :: BG
theorem bc_R_cellsTaken : Cond.code y_R_cellsTaken b_R_cellsTaken 3 (some .int) ∈ BG := bg_t (List.mem_of_getElem? (i := 84) (by decide +kernel)) rfl
theorem hdV_R_cellsTaken : y_R_cellsTaken.cls = R_R ∧ y_R_cellsTaken.cls ≠ "java/lang/invoke/MethodHandle" ∧ y_R_cellsTaken.cls ≠ "java/lang/invoke/VarHandle" ∧ (parseMethodDescriptor y_R_cellsTaken.desc).map (fun d => d.parameters.length) = some 0 := by decide +kernel
abbrev b_T_init : ByteArray := prog_4_method_1_code
def y_T_init : MethodName := ⟨R_T, "<init>", "(II)V"⟩
abbrev wl_T_init : List Cond := .code y_T_init b_T_init 3 none :: BG
theorem bc_T_init : Cond.code y_T_init b_T_init 3 none ∈ BG := bg_t (List.mem_of_getElem? (i := 226) (by decide +kernel)) rfl
theorem hdV_T_init : y_T_init.cls = R_T ∧ y_T_init.cls ≠ "java/lang/invoke/MethodHandle" ∧ y_T_init.cls ≠ "java/lang/invoke/VarHandle" ∧ (parseMethodDescriptor y_T_init.desc).map (fun d => d.parameters.length) = some 2 := by decide +kernel
abbrev b_T_size : ByteArray := prog_4_method_2_code
def y_T_size : MethodName := ⟨R_T, "size", "()I"⟩
abbrev wl_T_size : List Cond := .code y_T_size b_T_size 1 (some .int) :: BG
theorem bc_T_size : Cond.code y_T_size b_T_size 1 (some .int) ∈ BG := bg_t (List.mem_of_getElem? (i := 88) (by decide +kernel)) rfl
theorem hdV_T_size : y_T_size.cls = R_T ∧ y_T_size.cls ≠ "java/lang/invoke/MethodHandle" ∧ y_T_size.cls ≠ "java/lang/invoke/VarHandle" ∧ (parseMethodDescriptor y_T_size.desc).map (fun d => d.parameters.length) = some 0 := by decide +kernel
abbrev b_T_isYoung : ByteArray := prog_4_method_3_code
def y_T_isYoung : MethodName := ⟨R_T, "isYoung", "()Z"⟩
abbrev wl_T_isYoung : List Cond := .code y_T_isYoung b_T_isYoung 1 (some .boolean) :: BG
theorem bc_T_isYoung : Cond.code y_T_isYoung b_T_isYoung 1 (some .boolean) ∈ BG := bg_t (List.mem_of_getElem? (i := 100) (by decide +kernel)) rfl
theorem hdV_T_isYoung : y_T_isYoung.cls = R_T ∧ y_T_isYoung.cls ≠ "java/lang/invoke/MethodHandle" ∧ y_T_isYoung.cls ≠ "java/lang/invoke/VarHandle" ∧ (parseMethodDescriptor y_T_isYoung.desc).map (fun d => d.parameters.length) = some 0 := by decide +kernel
abbrev b_T_isOld : ByteArray := prog_4_method_4_code
def y_T_isOld : MethodName := ⟨R_T, "isOld", "()Z"⟩
abbrev wl_T_isOld : List Cond := .code y_T_isOld b_T_isOld 1 (some .boolean) :: BG
theorem bc_T_isOld : Cond.code y_T_isOld b_T_isOld 1 (some .boolean) ∈ BG := bg_t (List.mem_of_getElem? (i := 281) (by decide +kernel)) rfl
theorem hdV_T_isOld : y_T_isOld.cls = R_T ∧ y_T_isOld.cls ≠ "java/lang/invoke/MethodHandle" ∧ y_T_isOld.cls ≠ "java/lang/invoke/VarHandle" ∧ (parseMethodDescriptor y_T_isOld.desc).map (fun d => d.parameters.length) = some 0 := by decide +kernel
abbrev b_T_becomeGone : ByteArray := prog_4_method_5_code
def y_T_becomeGone : MethodName := ⟨R_T, "becomeGone", "()V"⟩
abbrev wl_T_becomeGone : List Cond := .code y_T_becomeGone b_T_becomeGone 1 none :: BG
theorem bc_T_becomeGone : Cond.code y_T_becomeGone b_T_becomeGone 1 none ∈ BG := bg_t (List.mem_of_getElem? (i := 164) (by decide +kernel)) rfl
theorem hdV_T_becomeGone : y_T_becomeGone.cls = R_T ∧ y_T_becomeGone.cls ≠ "java/lang/invoke/MethodHandle" ∧ y_T_becomeGone.cls ≠ "java/lang/invoke/VarHandle" ∧ (parseMethodDescriptor y_T_becomeGone.desc).map (fun d => d.parameters.length) = some 0 := by decide +kernel
abbrev b_T_hasField : ByteArray := prog_4_method_6_code
def y_T_hasField : MethodName := ⟨R_T, "hasField", "(I)Z"⟩
abbrev wl_T_hasField : List Cond := .code y_T_hasField b_T_hasField 2 (some .boolean) :: BG
theorem bc_T_hasField : Cond.code y_T_hasField b_T_hasField 2 (some .boolean) ∈ BG := bg_t (List.mem_of_getElem? (i := 152) (by decide +kernel)) rfl
theorem hdV_T_hasField : y_T_hasField.cls = R_T ∧ y_T_hasField.cls ≠ "java/lang/invoke/MethodHandle" ∧ y_T_hasField.cls ≠ "java/lang/invoke/VarHandle" ∧ (parseMethodDescriptor y_T_hasField.desc).map (fun d => d.parameters.length) = some 1 := by decide +kernel
abbrev b_T_cardsUnder : ByteArray := prog_4_method_7_code
def y_T_cardsUnder : MethodName := ⟨R_T, "cardsUnder", "()I"⟩
abbrev wl_T_cardsUnder : List Cond := .code y_T_cardsUnder b_T_cardsUnder 3 (some .int) :: BG
theorem bc_T_cardsUnder : Cond.code y_T_cardsUnder b_T_cardsUnder 3 (some .int) ∈ BG := bg_t (List.mem_of_getElem? (i := 136) (by decide +kernel)) rfl
theorem hdV_T_cardsUnder : y_T_cardsUnder.cls = R_T ∧ y_T_cardsUnder.cls ≠ "java/lang/invoke/MethodHandle" ∧ y_T_cardsUnder.cls ≠ "java/lang/invoke/VarHandle" ∧ (parseMethodDescriptor y_T_cardsUnder.desc).map (fun d => d.parameters.length) = some 0 := by decide +kernel
