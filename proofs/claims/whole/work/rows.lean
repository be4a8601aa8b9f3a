section
-- ===== PART A: goes FIRST, ahead of the names: the tables' words, and 'selects' of the private methods out of them =====
/-- a private method of a class that the tables say can be made, by its rows of tables_1 -/
def lw_okq (q : MethodName × Nat) : Prop := (q.1.cls ≠ "java/lang/invoke/MethodHandle" ∧ q.1.cls ≠ "java/lang/invoke/VarHandle") ∧ Cond.instantiable q.1.cls q.2 ∈ tables_1 ∧ Cond.privateMethod q.1 ∈ tables_1 ∧ Cond.instanceMethod q.1 ∈ tables_1
theorem lw_p0 : lw_okq (⟨"MemoryDesk", "clearAway", "()V"⟩, 11) := ⟨⟨by decide +kernel, by decide +kernel⟩, List.mem_of_getElem? (i := 16) (by decide +kernel), List.mem_of_getElem? (i := 67) (by decide +kernel), List.mem_of_getElem? (i := 68) (by decide +kernel)⟩
theorem lw_p1 : lw_okq (⟨"MemoryDesk", "comeTo", "(LMemoryDesk$Item;)V"⟩, 11) := ⟨⟨by decide +kernel, by decide +kernel⟩, List.mem_of_getElem? (i := 16) (by decide +kernel), List.mem_of_getElem? (i := 71) (by decide +kernel), List.mem_of_getElem? (i := 72) (by decide +kernel)⟩
theorem lw_p2 : lw_okq (⟨"MemoryDesk", "checkUndefined", "(I)V"⟩, 11) := ⟨⟨by decide +kernel, by decide +kernel⟩, List.mem_of_getElem? (i := 16) (by decide +kernel), List.mem_of_getElem? (i := 83) (by decide +kernel), List.mem_of_getElem? (i := 84) (by decide +kernel)⟩
theorem lw_p3 : lw_okq (⟨"java/lang/Throwable", "fillInStackTrace", "(I)Ljava/lang/Throwable;"⟩, 6) := ⟨⟨by decide +kernel, by decide +kernel⟩, List.mem_of_getElem? (i := 129) (by decide +kernel), List.mem_of_getElem? (i := 127) (by decide +kernel), List.mem_of_getElem? (i := 128) (by decide +kernel)⟩
theorem lw_p4 : lw_okq (⟨"MemoryDesk", "takeRoom", "(J)I"⟩, 11) := ⟨⟨by decide +kernel, by decide +kernel⟩, List.mem_of_getElem? (i := 16) (by decide +kernel), List.mem_of_getElem? (i := 251) (by decide +kernel), List.mem_of_getElem? (i := 252) (by decide +kernel)⟩
theorem lw_p5 : lw_okq (⟨"MemoryDesk", "heldWithPlace", "(IIZ)LMemoryDesk$Item;"⟩, 11) := ⟨⟨by decide +kernel, by decide +kernel⟩, List.mem_of_getElem? (i := 16) (by decide +kernel), List.mem_of_getElem? (i := 346) (by decide +kernel), List.mem_of_getElem? (i := 347) (by decide +kernel)⟩
theorem lw_p6 : lw_okq (⟨"MemoryDesk", "held", "(I)LMemoryDesk$Item;"⟩, 11) := ⟨⟨by decide +kernel, by decide +kernel⟩, List.mem_of_getElem? (i := 16) (by decide +kernel), List.mem_of_getElem? (i := 350) (by decide +kernel), List.mem_of_getElem? (i := 351) (by decide +kernel)⟩
theorem lw_p7 : lw_okq (⟨"MemoryDeskModel", "fails", "(ZI)Z"⟩, 20) := ⟨⟨by decide +kernel, by decide +kernel⟩, List.mem_of_getElem? (i := 478) (by decide +kernel), List.mem_of_getElem? (i := 560) (by decide +kernel), List.mem_of_getElem? (i := 561) (by decide +kernel)⟩
theorem lw_p8 : lw_okq (⟨"MemoryDeskModel", "reachable", "()J"⟩, 20) := ⟨⟨by decide +kernel, by decide +kernel⟩, List.mem_of_getElem? (i := 478) (by decide +kernel), List.mem_of_getElem? (i := 578) (by decide +kernel), List.mem_of_getElem? (i := 579) (by decide +kernel)⟩
theorem lw_p9 : lw_okq (⟨"MemoryDeskModel", "many", "(I)I"⟩, 20) := ⟨⟨by decide +kernel, by decide +kernel⟩, List.mem_of_getElem? (i := 478) (by decide +kernel), List.mem_of_getElem? (i := 582) (by decide +kernel), List.mem_of_getElem? (i := 583) (by decide +kernel)⟩
theorem lw_p10 : lw_okq (⟨"MemoryDeskModel", "isReference", "(II)Z"⟩, 20) := ⟨⟨by decide +kernel, by decide +kernel⟩, List.mem_of_getElem? (i := 478) (by decide +kernel), List.mem_of_getElem? (i := 586) (by decide +kernel), List.mem_of_getElem? (i := 587) (by decide +kernel)⟩
theorem lw_p11 : lw_okq (⟨"MemoryDeskModel", "latest", "(II)J"⟩, 20) := ⟨⟨by decide +kernel, by decide +kernel⟩, List.mem_of_getElem? (i := 478) (by decide +kernel), List.mem_of_getElem? (i := 590) (by decide +kernel), List.mem_of_getElem? (i := 591) (by decide +kernel)⟩
theorem lw_p12 : lw_okq (⟨"MemoryDeskModel", "placed", "(IIZ)I"⟩, 20) := ⟨⟨by decide +kernel, by decide +kernel⟩, List.mem_of_getElem? (i := 478) (by decide +kernel), List.mem_of_getElem? (i := 610) (by decide +kernel), List.mem_of_getElem? (i := 611) (by decide +kernel)⟩
theorem lw_p13 : lw_okq (⟨"MemoryDeskModel", "cut", "(IJ)J"⟩, 20) := ⟨⟨by decide +kernel, by decide +kernel⟩, List.mem_of_getElem? (i := 478) (by decide +kernel), List.mem_of_getElem? (i := 618) (by decide +kernel), List.mem_of_getElem? (i := 619) (by decide +kernel)⟩
theorem lw_p14 : lw_okq (⟨"MemoryDeskModel", "enter", "(IIJ)V"⟩, 20) := ⟨⟨by decide +kernel, by decide +kernel⟩, List.mem_of_getElem? (i := 478) (by decide +kernel), List.mem_of_getElem? (i := 622) (by decide +kernel), List.mem_of_getElem? (i := 623) (by decide +kernel)⟩
def lw_privs_1 : List (MethodName × Nat) := [(⟨"MemoryDesk", "clearAway", "()V"⟩, 11), (⟨"MemoryDesk", "comeTo", "(LMemoryDesk$Item;)V"⟩, 11), (⟨"MemoryDesk", "checkUndefined", "(I)V"⟩, 11), (⟨"java/lang/Throwable", "fillInStackTrace", "(I)Ljava/lang/Throwable;"⟩, 6), (⟨"MemoryDesk", "takeRoom", "(J)I"⟩, 11), (⟨"MemoryDesk", "heldWithPlace", "(IIZ)LMemoryDesk$Item;"⟩, 11), (⟨"MemoryDesk", "held", "(I)LMemoryDesk$Item;"⟩, 11), (⟨"MemoryDeskModel", "fails", "(ZI)Z"⟩, 20), (⟨"MemoryDeskModel", "reachable", "()J"⟩, 20), (⟨"MemoryDeskModel", "many", "(I)I"⟩, 20), (⟨"MemoryDeskModel", "isReference", "(II)Z"⟩, 20), (⟨"MemoryDeskModel", "latest", "(II)J"⟩, 20), (⟨"MemoryDeskModel", "placed", "(IIZ)I"⟩, 20), (⟨"MemoryDeskModel", "cut", "(IJ)J"⟩, 20), (⟨"MemoryDeskModel", "enter", "(IIJ)V"⟩, 20)]
theorem lw_r1 : ∀ q ∈ lw_privs_1, lw_okq q := List.forall_mem_cons.mpr ⟨lw_p0, List.forall_mem_cons.mpr ⟨lw_p1, List.forall_mem_cons.mpr ⟨lw_p2, List.forall_mem_cons.mpr ⟨lw_p3, List.forall_mem_cons.mpr ⟨lw_p4, List.forall_mem_cons.mpr ⟨lw_p5, List.forall_mem_cons.mpr ⟨lw_p6, List.forall_mem_cons.mpr ⟨lw_p7, List.forall_mem_cons.mpr ⟨lw_p8, List.forall_mem_cons.mpr ⟨lw_p9, List.forall_mem_cons.mpr ⟨lw_p10, List.forall_mem_cons.mpr ⟨lw_p11, List.forall_mem_cons.mpr ⟨lw_p12, List.forall_mem_cons.mpr ⟨lw_p13, List.forall_mem_cons.mpr ⟨lw_p14, fun _ h => absurd h List.not_mem_nil⟩⟩⟩⟩⟩⟩⟩⟩⟩⟩⟩⟩⟩⟩⟩
def lw_privs : List (MethodName × Nat) := lw_privs_1
def lw_tbl : List Cond := k2_sels lw_privs ++ tables_1
theorem lw_privs_ok : ∀ q ∈ lw_privs, lw_okq q := lw_r1
end
section
/-! names: classes, fields in the order of the slots, methods, decode rows: laid by program out of the Statement and the listing -/
/-- the words of the tables that stand over any warming -/
def x_tbl : List Cond := lw_tbl.filter goodWord
theorem tbl_good : ∀ w ∈ x_tbl, (w.onTables && w.keeps) = true ∨ ∃ ty, w = .arrayClass ty := fun w hw => good_of_word (List.mem_filter.mp hw).2
theorem x_good {w : Cond} (h : w ∈ lw_tbl) (hg : goodWord w = true) : w ∈ x_tbl := List.mem_filter.mpr ⟨h, hg⟩
def R_Ce : String := "MemoryDesk$Cell"
def R_It : String := "MemoryDesk$Item"
def R_Pk : String := "MemoryDesk$PlainKind"
def R_Rk : String := "MemoryDesk$RowKind"
def R_De : String := "MemoryDesk"
def R_Mo : String := "MemoryDeskModel"
def R_Ki : String := "MemoryDesk$Kind"
def R_La : String := "MemoryDeskLaw"
def F_Ce : u_T := fun k => match k with
  | 0 => ("MemoryDesk$Cell", "place", "I", true)
  | 1 => ("MemoryDesk$Cell", "next", "LMemoryDesk$Cell;", true)
  | 2 => ("MemoryDesk$Cell", "value", "J", false)
  | _ => ("MemoryDesk$Cell", "named", "LMemoryDesk$Item;", false)
def t_Ce : Nat → FieldType := fun k => match k with
  | 0 => .int
  | 1 => .object "MemoryDesk$Cell"
  | 2 => .long
  | _ => .object "MemoryDesk$Item"
theorem n_Ce : ∀ a, a < 4 → ∀ b, b < 4 → a ≠ b → (F_Ce a).2.1 ≠ (F_Ce b).2.1 := by decide +kernel
theorem t_Ce_ok : ∀ k, k < 4 → parseFieldDescriptor (F_Ce k).2.2.1 = some (t_Ce k) := by decide +kernel
theorem in_Ce : ∀ w ∈ u_ws R_Ce F_Ce 4, w ∈ x_tbl := by decide +kernel
def F_It : u_T := fun k => match k with
  | 0 => ("MemoryDesk$Item", "kind", "LMemoryDesk$Kind;", true)
  | 1 => ("MemoryDesk$Item", "length", "I", true)
  | 2 => ("MemoryDesk$Item", "words", "I", true)
  | 3 => ("MemoryDesk$Item", "cells", "LMemoryDesk$Cell;", false)
  | 4 => ("MemoryDesk$Item", "tag", "I", false)
  | 5 => ("MemoryDesk$Item", "isKept", "Z", false)
  | 6 => ("MemoryDesk$Item", "nextKept", "LMemoryDesk$Item;", false)
  | 7 => ("MemoryDesk$Item", "walkSeen", "I", false)
  | _ => ("MemoryDesk$Item", "nextPending", "LMemoryDesk$Item;", false)
def t_It : Nat → FieldType := fun k => match k with
  | 0 => .object "MemoryDesk$Kind"
  | 1 => .int
  | 2 => .int
  | 3 => .object "MemoryDesk$Cell"
  | 4 => .int
  | 5 => .boolean
  | 6 => .object "MemoryDesk$Item"
  | 7 => .int
  | _ => .object "MemoryDesk$Item"
theorem n_It : ∀ a, a < 9 → ∀ b, b < 9 → a ≠ b → (F_It a).2.1 ≠ (F_It b).2.1 := by decide +kernel
theorem t_It_ok : ∀ k, k < 9 → parseFieldDescriptor (F_It k).2.2.1 = some (t_It k) := by decide +kernel
theorem in_It : ∀ w ∈ u_ws R_It F_It 9, w ∈ x_tbl := by decide +kernel
def F_Pk : u_T := fun k => match k with
  | 0 => ("MemoryDesk$PlainKind", "words", "I", true)
  | _ => ("MemoryDesk$PlainKind", "mask", "I", true)
def t_Pk : Nat → FieldType := fun k => match k with
  | 0 => .int
  | _ => .int
theorem n_Pk : ∀ a, a < 2 → ∀ b, b < 2 → a ≠ b → (F_Pk a).2.1 ≠ (F_Pk b).2.1 := by decide +kernel
theorem t_Pk_ok : ∀ k, k < 2 → parseFieldDescriptor (F_Pk k).2.2.1 = some (t_Pk k) := by decide +kernel
theorem in_Pk : ∀ w ∈ u_ws R_Pk F_Pk 2, w ∈ x_tbl := by decide +kernel
def F_Rk : u_T := fun k => match k with
  | 0 => ("MemoryDesk$RowKind", "elements", "I", true)
  | _ => ("MemoryDesk$RowKind", "bits", "I", true)
def t_Rk : Nat → FieldType := fun k => match k with
  | 0 => .int
  | _ => .int
theorem n_Rk : ∀ a, a < 2 → ∀ b, b < 2 → a ≠ b → (F_Rk a).2.1 ≠ (F_Rk b).2.1 := by decide +kernel
theorem t_Rk_ok : ∀ k, k < 2 → parseFieldDescriptor (F_Rk k).2.2.1 = some (t_Rk k) := by decide +kernel
theorem in_Rk : ∀ w ∈ u_ws R_Rk F_Rk 2, w ∈ x_tbl := by decide +kernel
def F_De : u_T := fun k => match k with
  | 0 => ("MemoryDesk", "kinds", "[LMemoryDesk$Kind;", true)
  | 1 => ("MemoryDesk", "slots", "[LMemoryDesk$Item;", true)
  | 2 => ("MemoryDesk", "limit", "I", false)
  | 3 => ("MemoryDesk", "made", "I", false)
  | 4 => ("MemoryDesk", "keeps", "I", false)
  | 5 => ("MemoryDesk", "tags", "I", false)
  | 6 => ("MemoryDesk", "interval", "I", false)
  | 7 => ("MemoryDesk", "firstKept", "LMemoryDesk$Item;", false)
  | 8 => ("MemoryDesk", "used", "I", false)
  | 9 => ("MemoryDesk", "walk", "I", false)
  | _ => ("MemoryDesk", "pending", "LMemoryDesk$Item;", false)
def t_De : Nat → FieldType := fun k => match k with
  | 0 => .array (.object "MemoryDesk$Kind")
  | 1 => .array (.object "MemoryDesk$Item")
  | 2 => .int
  | 3 => .int
  | 4 => .int
  | 5 => .int
  | 6 => .int
  | 7 => .object "MemoryDesk$Item"
  | 8 => .int
  | 9 => .int
  | _ => .object "MemoryDesk$Item"
theorem n_De : ∀ a, a < 11 → ∀ b, b < 11 → a ≠ b → (F_De a).2.1 ≠ (F_De b).2.1 := by decide +kernel
theorem t_De_ok : ∀ k, k < 11 → parseFieldDescriptor (F_De k).2.2.1 = some (t_De k) := by decide +kernel
theorem in_De : ∀ w ∈ u_ws R_De F_De 11, w ∈ x_tbl := by decide +kernel
def F_Mo : u_T := fun k => match k with
  | 0 => ("MemoryDeskModel", "kindWords", "[I", true)
  | 1 => ("MemoryDeskModel", "kindMask", "[I", true)
  | 2 => ("MemoryDeskModel", "kindRow", "[I", true)
  | 3 => ("MemoryDeskModel", "defined", "[Z", true)
  | 4 => ("MemoryDeskModel", "objectKind", "[I", true)
  | 5 => ("MemoryDeskModel", "objectSize", "[I", true)
  | 6 => ("MemoryDeskModel", "numberOf", "[I", true)
  | 7 => ("MemoryDeskModel", "objects", "I", false)
  | 8 => ("MemoryDeskModel", "numbered", "I", false)
  | 9 => ("MemoryDeskModel", "memory", "I", false)
  | 10 => ("MemoryDeskModel", "err", "I", false)
  | 11 => ("MemoryDeskModel", "into", "[I", true)
  | 12 => ("MemoryDeskModel", "where", "[I", true)
  | 13 => ("MemoryDeskModel", "value", "[J", true)
  | 14 => ("MemoryDeskModel", "entries", "I", false)
  | 15 => ("MemoryDeskModel", "slots", "[I", true)
  | 16 => ("MemoryDeskModel", "kept", "[I", true)
  | 17 => ("MemoryDeskModel", "todo", "[I", true)
  | 18 => ("MemoryDeskModel", "reached", "[Z", true)
  | _ => ("MemoryDeskModel", "keeps", "I", false)
def t_Mo : Nat → FieldType := fun k => match k with
  | 0 => .array (.int)
  | 1 => .array (.int)
  | 2 => .array (.int)
  | 3 => .array (.boolean)
  | 4 => .array (.int)
  | 5 => .array (.int)
  | 6 => .array (.int)
  | 7 => .int
  | 8 => .int
  | 9 => .int
  | 10 => .int
  | 11 => .array (.int)
  | 12 => .array (.int)
  | 13 => .array (.long)
  | 14 => .int
  | 15 => .array (.int)
  | 16 => .array (.int)
  | 17 => .array (.int)
  | 18 => .array (.boolean)
  | _ => .int
theorem n_Mo : ∀ a, a < 20 → ∀ b, b < 20 → a ≠ b → (F_Mo a).2.1 ≠ (F_Mo b).2.1 := by decide +kernel
theorem t_Mo_ok : ∀ k, k < 20 → parseFieldDescriptor (F_Mo k).2.2.1 = some (t_Mo k) := by decide +kernel
theorem in_Mo : ∀ w ∈ u_ws R_Mo F_Mo 20, w ∈ x_tbl := by decide +kernel
abbrev vwCl : List vw_C := [(R_Ce, F_Ce, 4), (R_It, F_It, 9), (R_Pk, F_Pk, 2), (R_Rk, F_Rk, 2), (R_De, F_De, 11), (R_Mo, F_Mo, 20)]
abbrev b_De_init : ByteArray := prog_1_method_1_code
def y_De_init : MethodName := ⟨R_De, "<init>", "()V"⟩
abbrev b_De_collect : ByteArray := prog_1_method_17_code
def y_De_collect : MethodName := ⟨R_De, "collect", "()I"⟩
abbrev b_De_clearAway : ByteArray := prog_1_method_24_code
def y_De_clearAway : MethodName := ⟨R_De, "clearAway", "()V"⟩
abbrev b_De_comeTo : ByteArray := prog_1_method_25_code
def y_De_comeTo : MethodName := ⟨R_De, "comeTo", "(LMemoryDesk$Item;)V"⟩
abbrev b_La_plain : ByteArray := method_3_code
def y_La_plain : MethodName := ⟨R_La, "plain", "(LMemoryDesk;III)I"⟩
abbrev b_De_plain : ByteArray := prog_1_method_2_code
def y_De_plain : MethodName := ⟨R_De, "plain", "(III)V"⟩
abbrev b_De_checkUndefined : ByteArray := prog_1_method_20_code
def y_De_checkUndefined : MethodName := ⟨R_De, "checkUndefined", "(I)V"⟩
abbrev b_De_checkKind : ByteArray := prog_1_method_19_code
def y_De_checkKind : MethodName := ⟨R_De, "checkKind", "(I)V"⟩
abbrev b_Pk_init : ByteArray := prog_5_method_1_code
def y_Pk_init : MethodName := ⟨R_Pk, "<init>", "(II)V"⟩
abbrev b_Ki_init : ByteArray := prog_4_method_1_code
def y_Ki_init : MethodName := ⟨R_Ki, "<init>", "()V"⟩
abbrev b_La_row : ByteArray := method_4_code
def y_La_row : MethodName := ⟨R_La, "row", "(LMemoryDesk;II)I"⟩
abbrev b_De_row : ByteArray := prog_1_method_3_code
def y_De_row : MethodName := ⟨R_De, "row", "(II)V"⟩
abbrev b_Rk_init : ByteArray := prog_6_method_1_code
def y_Rk_init : MethodName := ⟨R_Rk, "<init>", "(II)V"⟩
abbrev b_La_make : ByteArray := method_5_code
def y_La_make : MethodName := ⟨R_La, "make", "(LMemoryDesk;III[J)I"⟩
abbrev b_De_make : ByteArray := prog_1_method_4_code
def y_De_make : MethodName := ⟨R_De, "make", "(III)I"⟩
abbrev b_De_checkSlot : ByteArray := prog_1_method_18_code
def y_De_checkSlot : MethodName := ⟨R_De, "checkSlot", "(I)V"⟩
abbrev b_Pk_allows : ByteArray := prog_5_method_2_code
def y_Pk_allows : MethodName := ⟨R_Pk, "allows", "(I)Z"⟩
abbrev b_Rk_allows : ByteArray := prog_6_method_2_code
def y_Rk_allows : MethodName := ⟨R_Rk, "allows", "(I)Z"⟩
abbrev b_Pk_wordsFor : ByteArray := prog_5_method_4_code
def y_Pk_wordsFor : MethodName := ⟨R_Pk, "wordsFor", "(I)J"⟩
abbrev b_Rk_wordsFor : ByteArray := prog_6_method_4_code
def y_Rk_wordsFor : MethodName := ⟨R_Rk, "wordsFor", "(I)J"⟩
abbrev b_De_takeRoom : ByteArray := prog_1_method_23_code
def y_De_takeRoom : MethodName := ⟨R_De, "takeRoom", "(J)I"⟩
abbrev b_Pk_lengthFor : ByteArray := prog_5_method_3_code
def y_Pk_lengthFor : MethodName := ⟨R_Pk, "lengthFor", "(I)I"⟩
abbrev b_Rk_lengthFor : ByteArray := prog_6_method_3_code
def y_Rk_lengthFor : MethodName := ⟨R_Rk, "lengthFor", "(I)I"⟩
abbrev b_It_init : ByteArray := prog_3_method_1_code
def y_It_init : MethodName := ⟨R_It, "<init>", "(LMemoryDesk$Kind;II)V"⟩
abbrev b_La_copy : ByteArray := method_6_code
def y_La_copy : MethodName := ⟨R_La, "copy", "(LMemoryDesk;II[J)I"⟩
abbrev b_De_copy : ByteArray := prog_1_method_5_code
def y_De_copy : MethodName := ⟨R_De, "copy", "(II)Z"⟩
abbrev b_La_drop : ByteArray := method_7_code
def y_La_drop : MethodName := ⟨R_La, "drop", "(LMemoryDesk;I[J)I"⟩
abbrev b_De_drop : ByteArray := prog_1_method_6_code
def y_De_drop : MethodName := ⟨R_De, "drop", "(I)Z"⟩
abbrev b_La_same : ByteArray := method_8_code
def y_La_same : MethodName := ⟨R_La, "same", "(LMemoryDesk;II[J)I"⟩
abbrev b_De_same : ByteArray := prog_1_method_7_code
def y_De_same : MethodName := ⟨R_De, "same", "(II)Z"⟩
abbrev b_La_get : ByteArray := method_9_code
def y_La_get : MethodName := ⟨R_La, "get", "(LMemoryDesk;II[J)I"⟩
abbrev b_De_get : ByteArray := prog_1_method_8_code
def y_De_get : MethodName := ⟨R_De, "get", "(II)J"⟩
abbrev b_De_heldWithPlace : ByteArray := prog_1_method_22_code
def y_De_heldWithPlace : MethodName := ⟨R_De, "heldWithPlace", "(IIZ)LMemoryDesk$Item;"⟩
abbrev b_De_held : ByteArray := prog_1_method_21_code
def y_De_held : MethodName := ⟨R_De, "held", "(I)LMemoryDesk$Item;"⟩
abbrev b_Pk_isReference : ByteArray := prog_5_method_5_code
def y_Pk_isReference : MethodName := ⟨R_Pk, "isReference", "(I)Z"⟩
abbrev b_Rk_isReference : ByteArray := prog_6_method_5_code
def y_Rk_isReference : MethodName := ⟨R_Rk, "isReference", "(I)Z"⟩
abbrev b_It_find : ByteArray := prog_3_method_2_code
def y_It_find : MethodName := ⟨R_It, "find", "(I)LMemoryDesk$Cell;"⟩
abbrev b_La_put : ByteArray := method_10_code
def y_La_put : MethodName := ⟨R_La, "put", "(LMemoryDesk;IIJ)I"⟩
abbrev b_De_put : ByteArray := prog_1_method_9_code
def y_De_put : MethodName := ⟨R_De, "put", "(IIJ)V"⟩
abbrev b_It_findOrAdd : ByteArray := prog_3_method_3_code
def y_It_findOrAdd : MethodName := ⟨R_It, "findOrAdd", "(I)LMemoryDesk$Cell;"⟩
abbrev b_Ce_init : ByteArray := prog_2_method_1_code
def y_Ce_init : MethodName := ⟨R_Ce, "<init>", "(ILMemoryDesk$Cell;)V"⟩
abbrev b_Pk_cut : ByteArray := prog_5_method_6_code
def y_Pk_cut : MethodName := ⟨R_Pk, "cut", "(J)J"⟩
abbrev b_Rk_cut : ByteArray := prog_6_method_6_code
def y_Rk_cut : MethodName := ⟨R_Rk, "cut", "(J)J"⟩
abbrev b_La_link : ByteArray := method_11_code
def y_La_link : MethodName := ⟨R_La, "link", "(LMemoryDesk;III[J)I"⟩
abbrev b_De_link : ByteArray := prog_1_method_10_code
def y_De_link : MethodName := ⟨R_De, "link", "(III)Z"⟩
abbrev b_La_follow : ByteArray := method_12_code
def y_La_follow : MethodName := ⟨R_La, "follow", "(LMemoryDesk;III[J)I"⟩
abbrev b_De_follow : ByteArray := prog_1_method_11_code
def y_De_follow : MethodName := ⟨R_De, "follow", "(III)Z"⟩
abbrev b_La_keep : ByteArray := method_13_code
def y_La_keep : MethodName := ⟨R_La, "keep", "(LMemoryDesk;I[J)I"⟩
abbrev b_De_keep : ByteArray := prog_1_method_12_code
def y_De_keep : MethodName := ⟨R_De, "keep", "(I)I"⟩
abbrev b_La_number : ByteArray := method_14_code
def y_La_number : MethodName := ⟨R_La, "number", "(LMemoryDesk;I[J)I"⟩
abbrev b_De_number : ByteArray := prog_1_method_13_code
def y_De_number : MethodName := ⟨R_De, "number", "(I)I"⟩
abbrev b_La_size : ByteArray := method_15_code
def y_La_size : MethodName := ⟨R_La, "size", "(LMemoryDesk;I[J)I"⟩
abbrev b_De_size : ByteArray := prog_1_method_14_code
def y_De_size : MethodName := ⟨R_De, "size", "(I)I"⟩
abbrev b_La_memory : ByteArray := method_16_code
def y_La_memory : MethodName := ⟨R_La, "memory", "(LMemoryDesk;I[J)I"⟩
abbrev b_De_memory : ByteArray := prog_1_method_15_code
def y_De_memory : MethodName := ⟨R_De, "memory", "(I)Z"⟩
abbrev b_La_every : ByteArray := method_17_code
def y_La_every : MethodName := ⟨R_La, "every", "(LMemoryDesk;I)I"⟩
abbrev b_De_every : ByteArray := prog_1_method_16_code
def y_De_every : MethodName := ⟨R_De, "every", "(I)V"⟩
abbrev b_Mo_init : ByteArray := prog_8_method_1_code
def y_Mo_init : MethodName := ⟨R_Mo, "<init>", "()V"⟩
abbrev b_Mo_thrown : ByteArray := prog_8_method_2_code
def y_Mo_thrown : MethodName := ⟨R_Mo, "thrown", "()I"⟩
abbrev b_Mo_plain : ByteArray := prog_8_method_11_code
def y_Mo_plain : MethodName := ⟨R_Mo, "plain", "(III)V"⟩
abbrev b_Mo_in : ByteArray := prog_8_method_4_code
def y_Mo_in : MethodName := ⟨R_Mo, "in", "(II)Z"⟩
abbrev b_Mo_fails : ByteArray := prog_8_method_3_code
def y_Mo_fails : MethodName := ⟨R_Mo, "fails", "(ZI)Z"⟩
abbrev b_Mo_row : ByteArray := prog_8_method_12_code
def y_Mo_row : MethodName := ⟨R_Mo, "row", "(II)V"⟩
abbrev b_Mo_make : ByteArray := prog_8_method_13_code
def y_Mo_make : MethodName := ⟨R_Mo, "make", "(III)I"⟩
abbrev b_Mo_takes : ByteArray := prog_8_method_7_code
def y_Mo_takes : MethodName := ⟨R_Mo, "takes", "(IJ)J"⟩
abbrev b_Mo_reachable : ByteArray := prog_8_method_10_code
def y_Mo_reachable : MethodName := ⟨R_Mo, "reachable", "()J"⟩
abbrev b_Mo_many : ByteArray := prog_8_method_5_code
def y_Mo_many : MethodName := ⟨R_Mo, "many", "(I)I"⟩
abbrev b_Mo_isReference : ByteArray := prog_8_method_6_code
def y_Mo_isReference : MethodName := ⟨R_Mo, "isReference", "(II)Z"⟩
abbrev b_Mo_latest : ByteArray := prog_8_method_8_code
def y_Mo_latest : MethodName := ⟨R_Mo, "latest", "(II)J"⟩
abbrev b_Mo_copy : ByteArray := prog_8_method_14_code
def y_Mo_copy : MethodName := ⟨R_Mo, "copy", "(II)Z"⟩
abbrev b_Mo_drop : ByteArray := prog_8_method_15_code
def y_Mo_drop : MethodName := ⟨R_Mo, "drop", "(I)Z"⟩
abbrev b_Mo_same : ByteArray := prog_8_method_16_code
def y_Mo_same : MethodName := ⟨R_Mo, "same", "(II)Z"⟩
abbrev b_Mo_get : ByteArray := prog_8_method_19_code
def y_Mo_get : MethodName := ⟨R_Mo, "get", "(II)J"⟩
abbrev b_Mo_placed : ByteArray := prog_8_method_17_code
def y_Mo_placed : MethodName := ⟨R_Mo, "placed", "(IIZ)I"⟩
abbrev b_Mo_put : ByteArray := prog_8_method_20_code
def y_Mo_put : MethodName := ⟨R_Mo, "put", "(IIJ)V"⟩
abbrev b_Mo_cut : ByteArray := prog_8_method_18_code
def y_Mo_cut : MethodName := ⟨R_Mo, "cut", "(IJ)J"⟩
abbrev b_Mo_enter : ByteArray := prog_8_method_9_code
def y_Mo_enter : MethodName := ⟨R_Mo, "enter", "(IIJ)V"⟩
abbrev b_Mo_link : ByteArray := prog_8_method_21_code
def y_Mo_link : MethodName := ⟨R_Mo, "link", "(III)Z"⟩
abbrev b_Mo_follow : ByteArray := prog_8_method_22_code
def y_Mo_follow : MethodName := ⟨R_Mo, "follow", "(III)Z"⟩
abbrev b_Mo_keep : ByteArray := prog_8_method_23_code
def y_Mo_keep : MethodName := ⟨R_Mo, "keep", "(I)I"⟩
abbrev b_Mo_number : ByteArray := prog_8_method_24_code
def y_Mo_number : MethodName := ⟨R_Mo, "number", "(I)I"⟩
abbrev b_Mo_size : ByteArray := prog_8_method_25_code
def y_Mo_size : MethodName := ⟨R_Mo, "size", "(I)I"⟩
abbrev b_Mo_memory : ByteArray := prog_8_method_26_code
def y_Mo_memory : MethodName := ⟨R_Mo, "memory", "(I)Z"⟩
abbrev b_Mo_every : ByteArray := prog_8_method_27_code
def y_Mo_every : MethodName := ⟨R_Mo, "every", "(I)V"⟩
abbrev b_Mo_collect : ByteArray := prog_8_method_28_code
def y_Mo_collect : MethodName := ⟨R_Mo, "collect", "()I"⟩
abbrev b_La_law : ByteArray := code
end
section
/-! Methods that return or throw: contracts (x_M), calls, leaving, catching, throwing. Own rows over the library's Stand. -/
section XMach
variable {p : Program} {l : Launch} {e : Env} {R : Room} {s : State} {m : MethodId} {args : Array Value} {below : List Frame} {meth : Method} {c : Code} {H : Heap} {locs : List Loc} {cells slots : Nat} {Q Q2 : State → Prop}
/-- what has moved behind a method, however it ended -/
def x_Fr (st t : State) (mc ms : Nat) (free : Addr → Prop) : Prop :=
  st.WarmedH t.vm ∧ ∃ L : List Loc, st.sameButNew ({ t with vm := st.vm } : State) L mc ms ∧ ∀ q ∈ L, free q.base
/-- a contract that speaks of both ends -/
def x_M (l : Launch) (y : MethodName) (ws : List Cond) (rm : Room) (Pc : Array Value → State → Prop) (Qc : Array Value → State → Outcome → State → Prop) (mc ms : Nat) (free : Addr → Prop) : Prop :=
  MetFree l y (headSpec ws rm) Pc (fun _ _ _ _ _ => True) (fun a st o t => Qc a st o t ∧ x_Fr st t mc ms free)
/-- the end of a walk under such a contract -/
def x_Q (below : List Frame) (Qc : Array Value → State → Outcome → State → Prop) (a : Array Value) (s : State) (mc ms : Nat) (free : Addr → Prop) : State → Prop := fun t =>
  ∃ o, t.status = .running ∧ Ended t below o ∧ Qc a s o t ∧ x_Fr s t mc ms free
/-- the walk, with q thrown over its frame g -/
def x_W (p : Program) (l : Launch) (e : Env) (R : Room) (s : State) (m : MethodId) (args : Array Value) (below : List Frame) (meth : Method) (c : Code) (H : Heap) (locs : List Loc) (cells slots : Nat) (Q : State → Prop) (g : JFrame) (q : Addr) : Prop :=
  ∀ T : State, T.heap = H → Stand p l e R s m args below meth c T locs cells slots → ∃ t, Steps p.tables e below ((T.setTop g).pushFrame (.throwing q)) t ∧ Q t
theorem x_W.widen {g : JFrame} {q : Addr} {k n : Nat} (h1 : cells ≤ k) (h2 : slots ≤ n) (kk : x_W p l e R s m args below meth c H locs k n Q g q) : x_W p l e R s m args below meth c H locs cells slots Q g q :=
  fun T hT X => kk T hT (stand_widen X h1 h2)
/-- a return, as the kit's rows lay it -/
theorem x_ret {Qc : Array Value → State → Outcome → State → Prop} {free : Addr → Prop} {mc ms : Nat} {g : JFrame} (h : W p l e R s m args below meth c H locs cells slots (MQ below Qc args s mc ms free) g) :
    W p l e R s m args below meth c H locs cells slots (x_Q below Qc args s mc ms free) g := by
  intro T hT X
  obtain ⟨t, st, o, h1, h2, h3, L, h4, h5⟩ := h T hT X
  exact ⟨t, st, o, h1, h2, h3, h4.2.1, L, h4.2.2, h5⟩
/-- every contract of the kit is such a contract -/
theorem x_of {y : MethodName} {ws : List Cond} {rm : Room} {Pc : Array Value → State → Prop} {Qc : Array Value → State → Outcome → State → Prop} {mc ms : Nat} {free : Addr → Prop} (h : Met l y ws rm Pc Qc mc ms free) : x_M l y ws rm Pc Qc mc ms free := by
  intro p e h1 h2 h3 s m a b h4 h5 h6 h7
  obtain ⟨n, o, q1, q2, q3, q4, L, q5, q6⟩ := h p e h1 h2 h3 s m a b h4 h5 h6 h7
  exact ⟨n, o, q1, q2, q3, q4, q5.2.1, L, q5.2.2, q6⟩
theorem x_ofW {y : MethodName} {ws ws' : List Cond} {rm : Room} {Pc : Array Value → State → Prop} {Qc : Array Value → State → Outcome → State → Prop} {mc ms : Nat} {free : Addr → Prop} {cc : ByteArray} {maxL : Nat} {ret : Option FieldType}
    (hy : plainName y.cls = true) (hw : ws = Cond.code y cc maxL ret :: ws')
    (body : ∀ p e s m args below meth c s₁, BodyLoose p l y (headSpec ws rm) cc maxL ret e s m args below meth c s₁ → c.maxLocals = maxL → (∀ (pc : Nat) (z : ExceptionTableEntry), z ∈ c.exceptionTable.toList → covers z pc = false) → Pc args s →
      W p l e (headSpec ws rm).room s m args below meth c s.heap [] 0 0 (x_Q below Qc args s mc ms free) (entryFrame m args maxL)) : x_M l y ws rm Pc Qc mc ms free := by
  refine MetFree.of_bodyS (code := cc) (maxLocals := maxL) (ret := ret) hy ?_ ?_
  · intro a s m h hn
    obtain ⟨meth, c, h1, h2, h3, h4, h5, h6, -, -⟩ := Cond.code_spec hn (atoms_spec (ws := ws) h _ (by rw [hw]; exact List.mem_cons_self))
    exact ⟨meth, c, h1, h2, h3, h4, h5, h6⟩
  · intro p e s m args below meth c s₁ B hml hP _
    have hh0 : s₁.heap = s.heap := by rw [B.state]; rfl
    have hno : c.exceptionTable.isEmpty = true := B.noHandlers (atoms_spec (ws := ws) B.pre _ (by rw [hw]; exact List.mem_cons_self))
    obtain ⟨t, st, o, b1, b2, b3⟩ := body p e s m args below meth c s₁ B hml (fun pc z hz => covers_of_empty hno pc z hz) hP s₁ hh0 (Stand.of_body B)
    exact ⟨t, o, st, b1, b2, b3⟩
/-- .. of a method with handlers -/
theorem x_ofWH {y : MethodName} {ws ws' : List Cond} {rm : Room} {Pc : Array Value → State → Prop} {Qc : Array Value → State → Outcome → State → Prop} {mc ms : Nat} {free : Addr → Prop} {cc : ByteArray} {maxL : Nat} {ret : Option FieldType} {hs : List (Nat × Nat × Nat × Nat)}
    (hy : plainName y.cls = true) (hw : ws = Cond.codeWith y cc maxL ret hs :: ws')
    (body : ∀ p e s m args below meth c s₁, BodyLoose p l y (headSpec ws rm) cc maxL ret e s m args below meth c s₁ → c.maxLocals = maxL → c.exceptionTable.toList = tableOf hs → Pc args s →
      W p l e (headSpec ws rm).room s m args below meth c s.heap [] 0 0 (x_Q below Qc args s mc ms free) (entryFrame m args maxL)) : x_M l y ws rm Pc Qc mc ms free := by
  refine MetFree.of_bodyS (code := cc) (maxLocals := maxL) (ret := ret) hy ?_ ?_
  · intro a s m h hn
    obtain ⟨m', meth, c, h0, h1, h2, h3, h4, -, h5, h6, -⟩ := Cond.codeWith_spec (atoms_spec (ws := ws) h _ (by rw [hw]; exact List.mem_cons_self))
    cases hn.symm.trans h0
    exact ⟨meth, c, h1, h2, h3, h4, h5, h6⟩
  · intro p e s m args below meth c s₁ B hml hP _
    have hh0 : s₁.heap = s.heap := by rw [B.state]; rfl
    have hX := Stand.of_body B
    obtain ⟨m', meth', c', h0, h1, h2, h3, h4, h7, h5, h6, -⟩ := Cond.codeWith_spec (atoms_spec (ws := ws) B.pre _ (by rw [hw]; exact List.mem_cons_self))
    cases B.named.symm.trans h0
    cases hX.method.symm.trans h1
    cases hX.code.symm.trans h2
    obtain ⟨t, st, o, b1, b2, b3⟩ := body p e s m args below meth c s₁ B hml (by rw [← h7, table_eq]) hP s₁ hh0 hX
    exact ⟨t, o, st, b1, b2, b3⟩
/-- the callee stands in the tables, with code of so many locals -/
def x_Co (s : State) (y : MethodName) (maxL : Nat) : Prop := ∃ (mk : MethodId) (my : Method) (cy : Code), s.methodNamed? y = some mk ∧ s.vm.method? mk = some my ∧ my.code = some cy ∧ cy.maxLocals = maxL ∧ parseMethodDescriptor y.desc = some my.sig
theorem x_Co.code {y : MethodName} {bytes : ByteArray} {maxL : Nat} {ret : Option FieldType} {a : Array Value} (h : (Cond.code y bytes maxL ret).before a s = true) : x_Co s y maxL := by
  obtain ⟨mk, hn⟩ := Cond.code_named h
  obtain ⟨my, cy, h1, h2, -, h3, -, -, -, h4⟩ := Cond.code_spec hn h
  exact ⟨mk, my, cy, hn, h1, h2, h3, h4⟩
theorem x_Co.with {y : MethodName} {bytes : ByteArray} {maxL : Nat} {ret : Option FieldType} {hs : List (Nat × Nat × Nat × Nat)} {a : Array Value} (h : (Cond.codeWith y bytes maxL ret hs).before a s = true) : x_Co s y maxL := by
  obtain ⟨mk, my, cy, hn, h1, h2, -, h3, -, -, -, h4⟩ := Cond.codeWith_spec h
  exact ⟨mk, my, cy, hn, h1, h2, h3, h4⟩
/-- what a call asks, apart from the method's own words -/
abbrev x_CB (R : Room) (s : State) (args : Array Value) (own : String) (index : Nat) (y : MethodName) (maxL : Nat) (ws : List Cond) (rm : Room) (mc ms n : Nat) : Prop :=
  rm.cells = mc ∧ rm.slots = ms ∧ rm.frames + 1 ≤ R.frames ∧ 8 + (maxL + 11) + rm.locals ≤ R.locals ∧ (∀ w ∈ ws, ∀ (a' : Array Value) (U : State), s.WarmedH U.vm → w.before a' U = true) ∧ x_Co s y maxL ∧
  (∀ (a' : Array Value) (U : State), s.WarmedH U.vm → (Cond.initialized y.cls).before a' U = true) ∧ (y.cls ≠ "java/lang/invoke/MethodHandle" ∧ y.cls ≠ "java/lang/invoke/VarHandle") ∧ (∀ sig, parseMethodDescriptor y.desc = some sig → n = sig.parameters.length) ∧ (Cond.methodLink own index y).before args s = true
theorem x_ini {C : String} (h : (Cond.initialized C).before args s = true) : ∀ (a' : Array Value) (U : State), s.WarmedH U.vm → (Cond.initialized C).before a' U = true :=
  fun a' U hW => word_at hW (Or.inl (by first | rfl | simp [Cond.onTables, Cond.keeps, Cond.steady])) h
theorem x_cb {own : String} {index maxL mc ms n : Nat} {y : MethodName} {bytes : ByteArray} {ret : Option FieldType} {ws : List Cond} {rm : Room} (h : CallB R s args own index y bytes maxL ret ws rm mc ms n) : x_CB R s args own index y maxL ws rm mc ms n := by
  obtain ⟨h1, h2, h3, h4, h5, -, h6, h7, h8, h9, h10⟩ := h
  exact ⟨h1, h2, h3, h4, h5, x_Co.code h6, x_ini h7, h8, h9, h10⟩
/-- the heart of every call: both ends of the callee, seen from the caller's frame -/
theorem x_back {y : MethodName} {ws : List Cond} {rm : Room} {Pc : Array Value → State → Prop} {Qc : Array Value → State → Outcome → State → Prop} {mc ms maxL index n : Nat} {own : String} {free : Addr → Prop} {T : State}
    (hM : x_M l y ws rm Pc Qc mc ms free) (cb : x_CB R s args own index y maxL ws rm mc ms n) (X : Stand p l e R s m args below meth c T locs cells slots) {mk : MethodId} (hn : s.methodNamed? y = some mk)
    {g : JFrame} {ig : Instr} {len : Nat} (hg : g.method = m) (hsize : g.locals.size = c.maxLocals) (hdg : decode c.code g.pc = .ok (ig, len)) (hW : 2 * g.monitorRoom + (g.stack.map fun v => v.category).sum ≤ 8)
    (hc : cells + mc ≤ R.cells) (hs : slots + ms ≤ R.slots) {a : Array Value} (hP : Pc a (T.calling g mk a)) :
    ∃ (o : Outcome) (t T' : State) (L : List Loc), Stand p l e R s m args below meth c T' (locs ++ L) (cells + mc) (slots + ms) ∧ T'.heap = t.heap ∧ T'.vm = t.vm ∧ Qc a (T.calling g mk a) o t ∧ (∀ q ∈ L, free q.base) ∧
      (∀ v, o = .returned v → Steps p.tables e below (doInvoke e (T.setTop g) [] mk a).1 (T'.setTop { g with pc := g.pc + len, stack := v.toList ++ g.stack })) ∧
      (∀ q, o = .threw q → Steps p.tables e below (doInvoke e (T.setTop g) [] mk a).1 ((T'.setTop g).pushFrame (.throwing q))) := by
  obtain ⟨c1, c2, c3, c4, c5, ⟨mk', my, cy, n0, n1, n2, n3, -⟩, c7, -⟩ := cb
  obtain rfl : mk = mk' := Option.some.inj (hn.symm.trans n0)
  have hnT : T.methodNamed? y = some mk := X.named hn
  have hmT : T.vm.method? mk = some my := by rw [X.warmed.alike.method?]; exact n1
  obtain ⟨kY, hkY, -⟩ := className_of_methodNamed hnT
  have hinitY : kY.init = .initialized := Cond.initialized_spec (findClass_of_methodNamed hnT) hkY (c7 #[] T X.warmed)
  have h : At T g.method c below := by rw [hg]; exact X.here
  have r1 : cells + (headSpec ws rm).room.cells ≤ R.cells := by rw [show (headSpec ws rm).room.cells = mc from c1]; exact hc
  have r2 : slots + (headSpec ws rm).room.slots ≤ R.slots := by rw [show (headSpec ws rm).room.slots = ms from c2]; exact hs
  have r3 : 2 * g.monitorRoom + (g.stack.map fun v => v.category).sum + (cy.maxLocals + 11) + (headSpec ws rm).room.locals ≤ R.locals := by
    rw [n3]
    have : (headSpec ws rm).room.locals = rm.locals := rfl
    omega
  have happ : (headSpec ws rm).appliesLoose y e.platform (T.calling g mk a) = true :=
    Spec.appliesLoose_calling (g := g) h hdg hnT hkY hinitY (X.room_calling (g := g) (R' := (headSpec ws rm).room) hsize hmT n2 c3 r3 r1 r2) (atoms_intro fun w hw => c5 w hw a T X.warmed)
  obtain ⟨mid, hmid⟩ := h.above
  have hfr : (T.setTop g).frames = (.java g :: mid) ++ below := by rw [State.frames_setTop' g h.top, hmid]; rfl
  obtain ⟨o, t, hsteps, -, hend, hq0⟩ := Steps.callFree hM p X.admits X.cas X.clock (acts := []) hfr happ hP trivial
  have hq : Qc a (T.calling g mk a) o t ∧ x_Fr (T.calling g mk a) t mc ms free := hq0
  obtain ⟨hqc, hwarm, L, hsame0, hL⟩ := hq
  rw [State.frames_setTop' g h.top] at hend
  have hW' : T.WarmedH t.vm := hwarm
  obtain ⟨e2, q2, q3, q4, q5, q6⟩ := id hsame0
  have e3 : t = ({ (T.calling g mk a).setFrames t.frames with heap := t.heap, slotsUsed := t.slotsUsed } : State).setVm t.vm := by
    have z : t = ({ t with vm := (T.calling g mk a).vm } : State).setVm t.vm := rfl
    rw [e2] at z
    exact z
  obtain ⟨g₀, hg0⟩ := Option.isSome_iff_exists.mp h.top
  obtain ⟨r, hr⟩ := State.topJava?_eq_some.mp hg0
  have hr' : (({ T with heap := t.heap, slotsUsed := t.slotsUsed } : State).setVm t.vm).frames = .java g₀ :: r := hr
  have hsame : T.sameButNew ({ T with heap := t.heap, slotsUsed := t.slotsUsed } : State) L mc ms := by
    refine ⟨?_, q2, q3, q4, q5, q6⟩
    obtain ⟨z, hz, -⟩ := State.frames_cons hr
    show ({ T with heap := t.heap, slotsUsed := t.slotsUsed } : State) = { T.setFrames T.frames with heap := t.heap, slotsUsed := t.slotsUsed }
    rw [State.setFrames_self hz]
  subst hg
  refine ⟨o, t, (({ T with heap := t.heap, slotsUsed := t.slotsUsed } : State).setVm t.vm), L,
    ⟨X.admits, X.cas, X.clock, X.frames, X.room, X.hears, X.method, X.code, (X.here.setHeapUsed t.heap t.slotsUsed).setVm hW'.alike, X.tail, State.WarmedH.trans X.warmed hW', X.limits, X.bytes, X.same.trans (hsame.setVm s.vm)⟩,
    rfl, rfl, hqc, hL, ?_, ?_⟩
  · intro v hv
    subst hv
    obtain ⟨c₂, i₂, len₂, hc₂, hd₂, hf₂⟩ := hend
    have hcc : c₂ = c := by
      have z : t.code? g.method = T.code? g.method := by rw [State.code?_eq, State.code?_eq, hW'.alike.method?]
      exact Option.some.inj (hc₂.symm.trans (z.trans h.code))
    subst hcc
    have hlen : len₂ = len := by rw [hdg] at hd₂; cases hd₂; rfl
    subst hlen
    have ht : t = (({ T with heap := t.heap, slotsUsed := t.slotsUsed } : State).setVm t.vm).setTop { g with pc := g.pc + len₂, stack := v.toList ++ g.stack } := by
      refine e3.trans ?_
      rw [hf₂, State.calling_eq h.top, State.setFrames_setFrames, State.setTop_of_frames _ hr', hr]
      rfl
    rw [← ht]
    exact hsteps
  · intro q hv
    subst hv
    have hf₂ : t.frames = .throwing q :: .java g :: T.frames.tail := hend
    have ht : t = ((({ T with heap := t.heap, slotsUsed := t.slotsUsed } : State).setVm t.vm).setTop g).pushFrame (.throwing q) := by
      refine e3.trans ?_
      rw [hf₂, State.calling_eq h.top, State.setFrames_setFrames, State.pushFrame, State.frames_setTop _ hr', State.setTop_of_frames _ hr', State.setFrames_setFrames, hr]
      rfl
    rw [← ht]
    exact hsteps
end XMach
section XCall
variable {p : Program} {l : Launch} {e : Env} {R : Room} {s : State} {m : MethodId} {args : Array Value} {below : List Frame} {meth : Method} {c : Code} {H : Heap} {locs : List Loc} {cells slots : Nat} {Q : State → Prop}
variable {y : MethodName} {ws : List Cond} {rm : Room} {Pc : Array Value → State → Prop} {Qc : Array Value → State → Outcome → State → Prop} {mc ms maxL index n nL pc : Nat} {own : String} {free : Addr → Prop} {Ts : List Cond} {cc : ByteArray} {ls : Array Slot} {As rest st0 : List Value} {A0 A1 : Nat → Prop} {H0 : Heap}
/-- what the caller knows behind a callee, whose writes lie in A1 -/
theorem x_after {st t T' : State} {L : List Loc} (h0 : st.heap = H) (e1 : T'.heap = t.heap) (hS : va_S A0 H0 H locs) (hA : ∀ q, q < H.size → A1 q → A0 q) (hf : ∀ q, free q → A0 q) (hL : ∀ q ∈ L, free q.base) (hF : va_F A1 st t) :
    H.size ≤ T'.heap.size ∧ (∀ q : Nat, q < H.size → ¬ A1 q → T'.heap[q]? = H[q]?) ∧ va_S A0 H0 T'.heap (locs ++ L) := by
  have hz : H.size ≤ T'.heap.size := by rw [e1, ← h0]; exact hF.1
  have hk : ∀ q : Nat, q < H.size → ¬ A1 q → T'.heap[q]? = H[q]? := fun q h1 h2 => by
    rw [e1, ← h0]
    exact hF.2 q (by rw [h0]; exact h1) h2
  refine ⟨hz, hk, Nat.le_trans hS.1 hz, fun q h1 h2 => ?_, fun q hq => ?_⟩
  · have h3 : q < H.size := Nat.lt_of_lt_of_le h1 hS.1
    rw [hk q h3 (fun z => h2 (hA q h3 z))]
    exact hS.2.1 q h1 h2
  · rcases List.mem_append.mp hq with h | h
    · exact hS.2.2 q h
    · exact hf _ (hL q h)
/-- invokestatic of a method that returns or throws -/
theorem x_callS (S : CallFix p m c cc nL s args Ts own) (hM : x_M l y ws rm Pc Qc mc ms free) (cb : x_CB R s args own index y maxL ws rm mc ms n) (hst : (Cond.static y).before args s = true) (hp : PreS s H Pc As)
    (hn : As.length = n) (hsize : ls.size = nL) (hstack : st0 = As.reverse ++ rest) (hW : 2 * (F0 m pc ls rest).monitorRoom + (rest.map fun v => v.category).sum ≤ 8) (hdg : decode cc pc = .ok (.invokestatic index, 3)) (hc : cells + mc ≤ R.cells) (hs : slots + ms ≤ R.slots)
    (hS : va_S A0 H0 H locs) (hA : ∀ q, q < H.size → A1 q → A0 q) (hf : ∀ q, free q → A0 q) (hF : ∀ st o t, Qc As.toArray st o t → va_F A1 st t)
    (kr : ∀ (v : Option Value) (st t : State) (H1 : Heap) (locs1 : List Loc), st.heap = H → t.heap = H1 → s.vm.Alike t.vm → Qc As.toArray st (.returned v) t → H.size ≤ H1.size → (∀ q : Nat, q < H.size → ¬ A1 q → H1[q]? = H[q]?) → va_S A0 H0 H1 locs1 →
      W p l e R s m args below meth c H1 locs1 (cells + mc) (slots + ms) Q (F0 m (pc + 3) ls (v.toList ++ rest)))
    (kt : ∀ (q : Addr) (st t : State) (H1 : Heap) (locs1 : List Loc), st.heap = H → t.heap = H1 → s.vm.Alike t.vm → Qc As.toArray st (.threw q) t → H.size ≤ H1.size → (∀ q : Nat, q < H.size → ¬ A1 q → H1[q]? = H[q]?) → va_S A0 H0 H1 locs1 →
      x_W p l e R s m args below meth c H1 locs1 (cells + mc) (slots + ms) Q (F0 m pc ls rest) q) : W p l e R s m args below meth c H locs cells slots Q (F0 m pc ls st0) := by
  intro T hT X
  obtain ⟨hx, hb, hml, ho, -⟩ := S
  obtain ⟨mk, my, cy, n0, n1, n2, n3, n4⟩ := cb.2.2.2.2.2.1
  have hini := cb.2.2.2.2.2.2.1
  have hy := cb.2.2.2.2.2.2.2.1
  have hlen := cb.2.2.2.2.2.2.2.2.1
  have hl := cb.2.2.2.2.2.2.2.2.2
  have hstatic : my.isStatic = true := Cond.static_spec n0 n1 hst
  obtain ⟨kP, hkP, -⟩ := className_of_methodNamed n0
  have hinitP : kP.init = .initialized := Cond.initialized_spec (findClass_of_methodNamed n0) hkP (hini #[] s (State.WarmedH.refl s))
  obtain ⟨vm₁, X₁, st1⟩ := X.invokestatic hx ho hl n0 n1 hstatic hkP hinitP hy (g := F0 m pc ls st0) rfl (argsL := As) (rest := rest) (hn.trans (hlen _ n4)) hstack (by rw [hb]; exact hdg)
  obtain ⟨o, t, T', L, X', e1, e2, hq, hL, k1, k2⟩ := x_back hM cb X₁ n0 (g := F0 m pc ls rest) (ig := .invokestatic index) (len := 3) rfl (hsize.trans hml.symm) (by rw [hb]; exact hdg) hW hc hs (a := As.toArray)
    (hp.1 _ _ _ _ (hp.2 (T.setVm vm₁) hT X₁.warmed))
  have hh : ((T.setVm vm₁).calling (F0 m pc ls rest) mk As.toArray).heap = H := hT
  obtain ⟨q1, q2, q3⟩ := x_after hh e1 hS hA hf hL (hF _ _ _ hq)
  have hal : s.vm.Alike t.vm := by rw [← e2]; exact X'.warmed.alike
  cases o with
  | returned v =>
    obtain ⟨t2, a1, b1⟩ := kr v _ t T'.heap (locs ++ L) hh e1.symm hal hq q1 q2 q3 T' rfl X'
    exact ⟨t2, st1 _ fun acts => by rw [doInvoke_state]; exact (k1 v rfl).trans a1, b1⟩
  | threw q =>
    obtain ⟨t2, a1, b1⟩ := kt q _ t T'.heap (locs ++ L) hh e1.symm hal hq q1 q2 q3 T' rfl X'
    exact ⟨t2, st1 _ fun acts => by rw [doInvoke_state]; exact (k2 q rfl).trans a1, b1⟩
/-- invokevirtual of a method that returns or throws, on an object of the class C -/
theorem x_callV {C : String} {b : Addr} (S : CallFix p m c cc nL s args Ts own) (hM : x_M l y ws rm Pc Qc mc ms free) (cb : x_CB R s args own index y maxL ws rm mc ms n) (hin : (Cond.instanceMethod y).before args s = true) (hse : (Cond.selects C y y).before args s = true) (hp : PreV s H C b Pc As)
    (hn : As.length = n) (hsize : ls.size = nL) (hstack : st0 = As.reverse ++ .ref b :: rest) (hW : 2 * (F0 m pc ls rest).monitorRoom + (rest.map fun v => v.category).sum ≤ 8) (hdg : decode cc pc = .ok (.invokevirtual index, 3)) (hc : cells + mc ≤ R.cells) (hs : slots + ms ≤ R.slots)
    (hS : va_S A0 H0 H locs) (hA : ∀ q, q < H.size → A1 q → A0 q) (hf : ∀ q, free q → A0 q) (hF : ∀ st o t, Qc (Value.ref b :: As).toArray st o t → va_F A1 st t)
    (kr : ∀ (v : Option Value) (st t : State) (H1 : Heap) (locs1 : List Loc), st.heap = H → t.heap = H1 → s.vm.Alike t.vm → Qc (Value.ref b :: As).toArray st (.returned v) t → H.size ≤ H1.size → (∀ q : Nat, q < H.size → ¬ A1 q → H1[q]? = H[q]?) → va_S A0 H0 H1 locs1 →
      W p l e R s m args below meth c H1 locs1 (cells + mc) (slots + ms) Q (F0 m (pc + 3) ls (v.toList ++ rest)))
    (kt : ∀ (q : Addr) (st t : State) (H1 : Heap) (locs1 : List Loc), st.heap = H → t.heap = H1 → s.vm.Alike t.vm → Qc (Value.ref b :: As).toArray st (.threw q) t → H.size ≤ H1.size → (∀ q : Nat, q < H.size → ¬ A1 q → H1[q]? = H[q]?) → va_S A0 H0 H1 locs1 →
      x_W p l e R s m args below meth c H1 locs1 (cells + mc) (slots + ms) Q (F0 m pc ls rest) q) : W p l e R s m args below meth c H locs cells slots Q (F0 m pc ls st0) := by
  intro T hT X
  obtain ⟨hx, hb, hml, ho, -⟩ := S
  obtain ⟨mk', my', cy, n0', n1', n2, n3, n4⟩ := cb.2.2.2.2.2.1
  have hy := cb.2.2.2.2.2.2.2.1
  have hlen := cb.2.2.2.2.2.2.2.2.1
  have hl := cb.2.2.2.2.2.2.2.2.2
  obtain ⟨mk, my, n0, n1, hns, hna⟩ := Cond.instanceMethod_spec hin
  obtain rfl : mk = mk' := Option.some.inj (n0.symm.trans n0')
  obtain rfl : my = my' := Option.some.inj (n1.symm.trans n1')
  obtain ⟨hbl, ⟨cellB, hcB, hoB, hclB⟩, hPc⟩ := hp
  obtain ⟨cS, rS, mS, q1, q2, q3, q4, kP, hkP, hkPi⟩ := Cond.selects_spec hse
  cases hclB.symm.trans q1
  cases (State.methodFound?_of_named n0 hy).symm.trans q2
  cases n0.symm.trans q3
  have hsel : selectMethod e.platform s.vm cellB.cls mk = .method mk := by rw [Launch.admits_selectMethod X.admits]; exact q4
  obtain ⟨vm₁, X₁, st1⟩ := X.invokevirtual hx ho hl n0 n1 hns hkP hkPi hy (a := b) (cell := cellB) (by rw [hT]; exact hcB) (fun z h => by rw [h] at hoB; cases hoB) hsel n1 hna hkP hkPi
    (g := F0 m pc ls st0) rfl (argsL := As) (rest := rest) (hn.trans (hlen _ n4)) hstack (by rw [hb]; exact hdg)
  obtain ⟨o, t, T', L, X', e1, e2, hq, hL, k1, k2⟩ := x_back hM cb X₁ n0 (g := F0 m pc ls rest) (ig := .invokevirtual index) (len := 3) rfl (hsize.trans hml.symm) (by rw [hb]; exact hdg) hW hc hs (a := (Value.ref b :: As).toArray)
    (hbl _ _ _ _ (hPc (T.setVm vm₁) hT X₁.warmed))
  have hh : ((T.setVm vm₁).calling (F0 m pc ls rest) mk (Value.ref b :: As).toArray).heap = H := hT
  obtain ⟨q1, q2, q3⟩ := x_after hh e1 hS hA hf hL (hF _ _ _ hq)
  have hal : s.vm.Alike t.vm := by rw [← e2]; exact X'.warmed.alike
  cases o with
  | returned v =>
    obtain ⟨t2, a1, b1⟩ := kr v _ t T'.heap (locs ++ L) hh e1.symm hal hq q1 q2 q3 T' rfl X'
    exact ⟨t2, st1 _ fun acts => by rw [doInvoke_state]; exact (k1 v rfl).trans a1, b1⟩
  | threw q =>
    obtain ⟨t2, a1, b1⟩ := kt q _ t T'.heap (locs ++ L) hh e1.symm hal hq q1 q2 q3 T' rfl X'
    exact ⟨t2, st1 _ fun acts => by rw [doInvoke_state]; exact (k2 q rfl).trans a1, b1⟩
/-- nothing catches: the method ends by q -/
theorem x_leave {q : Addr} (hout : ∀ z ∈ c.exceptionTable.toList, covers z pc = false) (hlocks : meth.locks = false) (hq : ∀ t : State, t.heap = H → s.WarmedH t.vm → Qc args s (.threw q) t) (hf : ∀ z ∈ locs, free z.base) :
    x_W p l e R s m args below meth c H locs cells slots (x_Q below Qc args s cells slots free) (F0 m pc ls rest) q := by
  intro T hT X
  obtain ⟨st, h1, h2, h3, h4⟩ := X.leaveThrown q (g := F0 m pc ls rest) rfl rfl rfl hout hlocks
  exact ⟨_, st, .threw q, h1, h2, hq _ hT h3, h3, locs, h4, hf⟩
end XCall
/-! ### the search through a table of handlers whose classes may not have been resolved yet -/
section XCatch
variable {e : Env} {s : State} {f : JFrame} {a : Addr}
/-- one entry that covers the place: its class links to k -/
theorem x_go {z : ExceptionTableEntry} {zs : List ExceptionTableEntry} {k : ClassId} {cell : Cell} {S : State} (hW : s.WarmedH S.vm) (hz : covers z f.pc = true) (h0 : z.catchType ≠ 0) (hl : s.vm.ClassLinks e.platform f.method.cls z.catchType k)
    (hcell : S.heap[a]? = some cell) (hobj : cell.vm = .none) (hk : ∃ k1, s.vm.classes[cell.cls]? = some k1) :
    ∃ vm' : Vm, s.WarmedH vm' ∧ ∀ (Q : Handler → Pre) (E : CtlPost) (d : Bool) (acts : List Action),
      wp (findHandler.go f a (z :: zs)) Q E e d acts S ↔ if s.vm.assignable cell.cls k = true then Q (.found z.handlerPc) d acts (S.setVm vm') else wp (findHandler.go f a zs) Q E e d acts (S.setVm vm') := by
  have hlS := hW.classLinks hl
  obtain ⟨dk, _, _, kt, hd, _, _, _, _, hkt, _, hopen⟩ := hl.here
  obtain ⟨k1, hk1⟩ := hk
  have hal : S.vm.Alike (S.vm.noted f.method.cls z.catchType (.cls k)) := (Vm.Alike.refl S.vm).noted _ _ _
  obtain ⟨k2, hk2, -⟩ := hW.alike.2.2 _ _ hk1
  obtain ⟨k3, hk3, -⟩ := hal.2.2 _ _ hk2
  obtain ⟨k4, hk4, -⟩ := hW.alike.2.2 _ _ hkt
  obtain ⟨k5, hk5, -⟩ := hal.2.2 _ _ hk4
  have hasg : (S.vm.noted f.method.cls z.catchType (.cls k)).assignable cell.cls k = s.vm.assignable cell.cls k := by rw [hal.assignable, hW.alike.assignable]
  obtain ⟨ha, ht⟩ := (resolveClass_links e.toSetting hlS).op (op := VmOp.resolveClass f.method.cls z.catchType) rfl
  refine ⟨_, hW.noted hd hopen (State.rightAt_cls hl), fun Q E d acts => ?_⟩
  simp only [covers] at hz
  cases hfit : s.vm.assignable cell.cls k <;>
    simp [findHandler.go, hz, h0, ha, ht, hcell, hobj, hk3, hk5, hasg, hfit, VmOp.dirties, VmOp.acts]
/-- the entries ahead are passed, the next takes the object -/
theorem x_search {z : ExceptionTableEntry} {suf : List ExceptionTableEntry} {k : ClassId} {cell : Cell} (hz : covers z f.pc = true) (h0 : z.catchType ≠ 0) (hl : s.vm.ClassLinks e.platform f.method.cls z.catchType k) (hfit : s.vm.assignable cell.cls k = true)
    (hobj : cell.vm = .none) (hk : ∃ k1, s.vm.classes[cell.cls]? = some k1) :
    ∀ (pre : List ExceptionTableEntry) (S : State), s.WarmedH S.vm → S.heap[a]? = some cell →
      (∀ w ∈ pre, covers w f.pc = false ∨ (w.catchType ≠ 0 ∧ ∃ k2, s.vm.ClassLinks e.platform f.method.cls w.catchType k2 ∧ s.vm.assignable cell.cls k2 = false)) →
      ∃ vm' : Vm, s.WarmedH vm' ∧ ∀ (Q : Handler → Pre) (E : CtlPost) (d : Bool) (acts : List Action), wp (findHandler.go f a (pre ++ z :: suf)) Q E e d acts S ↔ Q (.found z.handlerPc) d acts (S.setVm vm') := by
  intro pre
  induction pre with
  | nil =>
    intro S hW hcell _
    obtain ⟨vm', h1, h2⟩ := x_go (zs := suf) hW hz h0 hl hcell hobj hk
    refine ⟨vm', h1, fun Q E d acts => ?_⟩
    rw [List.nil_append, h2 Q E d acts, if_pos hfit]
  | cons w ws ih =>
    intro S hW hcell hp
    have hp' := fun v (hv : v ∈ ws) => hp v (List.mem_cons_of_mem _ hv)
    by_cases hc : covers w f.pc = true
    · rcases hp w List.mem_cons_self with h | ⟨g0, k2, gl, gno⟩
      · rw [h] at hc; cases hc
      · obtain ⟨vm1, h1, h2⟩ := x_go (zs := ws ++ z :: suf) hW hc g0 gl hcell hobj hk
        obtain ⟨vm2, h3, h4⟩ := ih (S.setVm vm1) h1 hcell hp'
        refine ⟨vm2, h3, fun Q E d acts => ?_⟩
        rw [List.cons_append, h2 Q E d acts, if_neg (by rw [gno]; decide)]
        exact h4 Q E d acts
    · obtain ⟨vm2, h3, h4⟩ := ih S hW hcell hp'
      refine ⟨vm2, h3, fun Q E d acts => ?_⟩
      rw [List.cons_append, W.findHandler_go_skip (by simpa using hc)]
      exact h4 Q E d acts
theorem x_caughtStep {S : State} {r : List Frame} {pc : Nat} {vm' : Vm} (hfind : ∀ (Q : Handler → Pre) (E : CtlPost) (d : Bool) (acts : List Action), wp (findHandler f a) Q E e d acts S ↔ Q (.found pc) d acts (S.setVm vm')) :
    (stepThrowing e S a (.java f :: r)).Is ((S.setVm vm').setFrames (.java { f with pc := pc, stack := [.ref a] } :: r)) [] := by
  simp only [stepThrowing, searchFrame, vmDo]
  generalize hr : Sem.go _ e false [] S = res
  obtain ⟨as, rfl, ha⟩ := Sem.eq_ok_of hr (a := Handler.found pc) (s' := S.setVm vm') (acts' := []) (by simp [hfind _ _ _ _])
  exact ⟨rfl, ha⟩
end XCatch
section XCatch2
variable {p : Program} {l : Launch} {e : Env} {R : Room} {s : State} {m : MethodId} {args : Array Value} {below : List Frame} {meth : Method} {c : Code} {H : Heap} {locs : List Loc} {cells slots : Nat} {Q : State → Prop}
/-- the method's own handler takes q, of the class E: its entry is the first that names a class above E -/
theorem x_catch {own E name : String} {q : Addr} {ce : Cell} {pc : Nat} {ls : Array Slot} {rest : List Value} (hown : s.vm.findClass own = some m.cls) (pre : List ExceptionTableEntry) (z : ExceptionTableEntry) (suf : List ExceptionTableEntry) (hsplit : c.exceptionTable.toList = pre ++ z :: suf)
    (hpass : ∀ w ∈ pre, covers w pc = false ∨ (w.catchType ≠ 0 ∧ ∃ nm : String, (Cond.classLink own w.catchType nm).before args s = true ∧ va_Nc E nm s)) (hz : covers z pc = true) (h0 : z.catchType ≠ 0)
    (hlink : (Cond.classLink own z.catchType name).before args s = true) (hcast : (Cond.castable E name).before args s = true) (hcell : H[q]? = some ce) (hv : ce.vm = .none) (hcl : s.vm.findClass E = some ce.cls)
    (kk : W p l e R s m args below meth c H locs cells slots Q (F0 m z.handlerPc ls [.ref q])) : x_W p l e R s m args below meth c H locs cells slots Q (F0 m pc ls rest) q := by
  intro T hT X
  have hpl : e.platform.magicAccessors = ({} : Platform).magicAccessors := by rw [X.admits.platform]
  obtain ⟨c3, c4, hc3, hc4, hasg⟩ := Cond.castable_spec hcast
  cases Option.some.inj (hc3.symm.trans hcl)
  obtain ⟨c5, hc5, hcl5⟩ := Cond.classLink_spec hown hlink e.platform hpl
  cases Option.some.inj (hc4.symm.trans hc5)
  have hk : ∃ k1, s.vm.classes[ce.cls]? = some k1 := by obtain ⟨k9, h9, -⟩ := Vm.findClass_spec hcl; exact ⟨k9, h9⟩
  have hTcell : ((T.setTop (F0 m pc ls rest)).pushFrame (.throwing q)).heap[q]? = some ce := by rw [Stand.throwing_heap, hT]; exact hcell
  obtain ⟨vm', hW', hf⟩ := x_search (e := e) (s := s) (f := F0 m pc ls rest) (a := q) (suf := suf) hz h0 hcl5 hasg hv hk pre ((T.setTop (F0 m pc ls rest)).pushFrame (.throwing q)) (by rw [Stand.throwing_vm]; exact X.warmed) hTcell
    (fun w hw => by
      rcases hpass w hw with h | ⟨g0, nm, hl1, hn1⟩
      · exact Or.inl h
      · obtain ⟨c6, hc6, hcl6⟩ := Cond.classLink_spec hown hl1 e.platform hpl
        obtain ⟨a8, b8, h1, h2, h3⟩ := hn1
        cases Option.some.inj (h1.symm.trans hcl)
        cases Option.some.inj (h2.symm.trans hc6)
        exact Or.inr ⟨g0, _, hcl6, h3⟩)
  have hm9 : ((T.setTop (F0 m pc ls rest)).pushFrame (.throwing q)).vm.method? (F0 m pc ls rest).method = some meth := by rw [Stand.throwing_vm]; exact X.method'
  have hfind : ∀ (Q : Handler → Pre) (E : CtlPost) (d : Bool) (acts : List Action), wp (findHandler (F0 m pc ls rest) q) Q E e d acts ((T.setTop (F0 m pc ls rest)).pushFrame (.throwing q)) ↔ Q (.found z.handlerPc) d acts (((T.setTop (F0 m pc ls rest)).pushFrame (.throwing q)).setVm vm') := fun Q E d acts => by
    rw [W.findHandler_eq hm9 X.code, hsplit]
    exact hf Q E d acts
  have X' := X.noted hW'
  obtain ⟨t, a1, b1⟩ := kk (T.setVm vm') hT X'
  refine ⟨t, ?_, b1⟩
  have hA : At T (F0 m pc ls rest).method c below := X.here
  obtain ⟨hgo, hw⟩ := hA.throwing q
  refine Steps.head hgo hw ?_
  rw [stepThread_throwing (frames_entered hA.top _), (x_caughtStep hfind).1]
  obtain ⟨g₀, hg⟩ := Option.isSome_iff_exists.mp hA.top
  obtain ⟨r, hr⟩ := State.topJava?_eq_some.mp hg
  have hr' : (T.setVm vm').frames = .java g₀ :: r := hr
  rw [State.setTop_of_frames _ hr'] at a1
  have e9 : ((((T.setTop (F0 m pc ls rest)).pushFrame (.throwing q)).setVm vm').setFrames (.java { F0 m pc ls rest with pc := z.handlerPc, stack := [.ref q] } :: T.frames.tail)) = (T.setVm vm').setFrames (.java (F0 m z.handlerPc ls [.ref q]) :: r) := by
    rw [hr, List.tail_cons, State.pushFrame, State.setTop_of_frames _ hr]
    rw [State.setFrames_setFrames]
    show (((T.setVm vm').setFrames _).setFrames _) = _
    rw [State.setFrames_setFrames]
  rw [e9]
  exact a1
/-- the walk's own point as the beginning of a walk: what has been written so far is forgotten, the heap is the one that stands -/
theorem x_base {T : State} (X : Stand p l e R s m args below meth c T locs cells slots) {R' : Room} (hf : R'.frames ≤ R.frames) (hl : R'.locals ≤ R.locals) (hc : cells + R'.cells ≤ R.cells) (hs : slots + R'.slots ≤ R.slots) :
    Stand p l e R' ((T.setVm s.vm).setFrames (.invoking m args :: below)) m args below meth c T [] 0 0 := by
  have htop : (T.setVm s.vm).topJava?.isSome := X.here.top
  have hcur : (T.setVm s.vm).cur < (T.setVm s.vm).threads.size := State.cur_lt_of_top htop
  have hF : ((T.setVm s.vm).setFrames (.invoking m args :: below)).frames = .invoking m args :: below := State.frames_setFrames _ hcur
  have hnone : (T.heap.toList.drop T.heap.size) = [] := List.drop_eq_nil_of_le (Nat.le_of_eq Array.length_toList)
  refine { admits := X.admits, cas := X.cas, clock := X.clock, frames := hF, room := ?_, hears := X.hears, method := X.method, code := X.code, here := X.here, tail := X.tail, warmed := X.warmed, limits := ?_, bytes := ?_, same := ?_ }
  · have hloc : ((T.setVm s.vm).setFrames (.invoking m args :: below)).localsInUse = s.localsInUse := by
      rw [State.localsInUse_invoking hF (meth := meth) (c := c) X.method X.code, State.localsInUse_invoking X.frames X.method X.code]
    have hlim : e.platform.stackLimits ((T.setVm s.vm).setFrames (.invoking m args :: below)).me = e.platform.stackLimits s.me := by rw [State.stackLimits_setFrames]; exact X.limits
    have hbyt : ((T.setVm s.vm).setFrames (.invoking m args :: below)).me.stackBytes = s.me.stackBytes := by rw [State.stackBytes_setFrames]; exact X.bytes
    have hroom := X.room
    have q1 := X.heapSize
    have q2 := X.used
    have hfl : s.frames.length = below.length + 1 := by rw [X.frames]; rfl
    simp only [State.hasRoom, Bool.and_eq_true, decide_eq_true_eq] at hroom ⊢
    obtain ⟨⟨⟨⟨r1, r2, r3, r4, r5, r6⟩, r7⟩, r8⟩, -⟩ := hroom
    rw [hfl] at r2 r3
    rw [hF, hloc, hlim, hbyt]
    have g1 : ((T.setVm s.vm).setFrames (.invoking m args :: below)).heap.size = T.heap.size := rfl
    have g2 : ((T.setVm s.vm).setFrames (.invoking m args :: below)).slotsUsed = T.slotsUsed := rfl
    rw [g1, g2]
    simp only [List.length_cons]
    exact ⟨⟨⟨⟨by omega, by omega, by omega, by omega, by omega, r6⟩, by omega⟩, by omega⟩, X.book⟩
  · rw [State.stackLimits_setFrames]; rfl
  · rw [State.stackBytes_setFrames]; rfl
  · refine ⟨?_, Nat.le_refl _, Nat.le_refl _, ?_, ?_, fun a c9 h9 => ⟨c9, h9, rfl, rfl, fun _ _ => rfl⟩⟩
    · obtain ⟨g₀, hg0⟩ := Option.isSome_iff_exists.mp htop
      obtain ⟨r, hr⟩ := State.topJava?_eq_some.mp hg0
      obtain ⟨t, ht, -⟩ := State.frames_cons hr
      show T.setVm s.vm = { ((T.setVm s.vm).setFrames (.invoking m args :: below)).setFrames (T.setVm s.vm).frames with heap := T.heap, slotsUsed := T.slotsUsed }
      rw [State.setFrames_setFrames, State.setFrames_self ht]
      rfl
    · show T.slotsUsed = T.slotsUsed + ((T.heap.toList.drop T.heap.size).map (·.slots.size)).sum
      rw [hnone]; rfl
    · show ((T.heap.toList.drop T.heap.size).map (·.slots.size)).sum ≤ 0
      rw [hnone]; exact Nat.le_refl _
end XCatch2
section XThrow
variable {p : Program} {l : Launch} {e : Env} {R : Room} {s : State} {m : MethodId} {args : Array Value} {below : List Frame} {meth : Method} {c : Code} {H : Heap} {locs : List Loc} {cells slots : Nat} {Q : State → Prop}
/-- a static field that holds null or a reference, in a cell outside A -/
def x_St (C n d : String) (A : Nat → Prop) (U : State) (H : Heap) : Prop := ∃ (k : ClassId) (K : Class) (i : Nat) (f : Field) (a : Nat) (cell : Cell),
  (U.vm.findClass C = some k ∧ U.fieldFound? C n d = some (k, K, i, f) ∧ f.isStatic = true ∧ K.statics = some a ∧ K.staticTypes[f.slot]? = some f.type) ∧
  (H[a]? = some cell ∧ cell.vm.isStatics = true ∧ cell.cls = k ∧ f.slot < cell.slots.size ∧ (cell.slots[f.slot]? = some .null ∨ ∃ t : Nat, cell.slots[f.slot]? = some (.ref t))) ∧ ¬ A a
theorem x_St.of {C n d : String} {A : Nat → Prop} {a0 : Array Value} (h1 : (Cond.laysStatic C n d).before a0 s = true) (h2 : (Cond.isRef (.static C n d)).before a0 s = true) (hA : ∀ q, q < s.heap.size → ¬ A q) : x_St C n d A s s.heap := by
  obtain ⟨k, K, i, f, a, cell, g1, g2, g3, g4, g5, g6, g7, g8, g9⟩ := Cond.laysStatic_spec h1
  obtain ⟨u, hu⟩ := Cond.staticRefV g2 g3 g4 g5 g6 h2
  refine ⟨k, K, i, f, a, cell, ⟨g1, g2, g3, g4, g9⟩, ⟨g5, g6, g7, g8, ?_⟩, hA a (Array.getElem?_eq_some_iff.mp g5).1⟩
  obtain ⟨v, hv⟩ := u
  cases v with
  | null => exact Or.inl hu
  | ref t => exact Or.inr ⟨t, hu⟩
  | _ => simp [Value.isRef] at hv
theorem x_St.to {C n d : String} {A B : Nat → Prop} {U : State} {H0 H1 : Heap} (h : x_St C n d A s H0) (hvm : s.vm.Alike U.vm) (hq : ∀ a : Nat, a < H0.size → ¬ A a → H1[a]? = H0[a]?) (hB : ∀ q, B q → A q) : x_St C n d B U H1 := by
  obtain ⟨k, K, i, f, a, cell, ⟨g1, g2, g3, g4, g9⟩, ⟨g5, g6⟩, g7⟩ := h
  obtain ⟨K', hi', he⟩ := State.fieldFound?_setVm hvm g2
  exact ⟨k, K', i, f, a, cell, ⟨by rw [hvm.findClass]; exact g1, hi', g3, by rw [he]; exact g4, by rw [he]; exact g9⟩, ⟨by rw [hq a (Array.getElem?_eq_some_iff.mp g5).1 g7]; exact g5, g6⟩, fun z => g7 (hB _ z)⟩
theorem x_St.lays {C n d : String} {A : Nat → Prop} (a0 : Array Value) (h : x_St C n d A s s.heap) : (Cond.laysStatic C n d).before a0 s = true := by
  obtain ⟨k, K, i, f, a, cell, ⟨g1, g2, g3, g4, g9⟩, ⟨g5, g6, g7, g8, -⟩, -⟩ := h
  show (Cond.laysStatic C n d).holds a0 s none s [] = true
  exact Cond.laysStatic_of g1 g2 g3 g4 g5 g6 g7 g8 g9
theorem x_St.isRef {C n d : String} {A : Nat → Prop} (a0 : Array Value) (h : x_St C n d A s s.heap) : (Cond.isRef (.static C n d)).before a0 s = true := by
  obtain ⟨k, K, i, f, a, cell, ⟨g1, g2, g3, g4, g9⟩, ⟨g5, g6, g7, g8, g10⟩, -⟩ := h
  have z : (Term.static C n d).eval a0 s none [] s = cell.slots[f.slot]? := by simp [Term.eval, State.fieldNamed?, g2, g3, g4, g5, g6]
  rcases g10 with g | ⟨t, g⟩
  · simp [Cond.before, Cond.holds, Cond.value, z, g]
  · simp [Cond.before, Cond.holds, Cond.value, z, g]
theorem x_same0 {U : State} {k n : Nat} (h : s.sameButNew U [] k n) : s.heap.size ≤ U.heap.size ∧ ∀ a : Nat, a < s.heap.size → U.heap[a]? = s.heap[a]? := by
  obtain ⟨-, h2, -, -, -, h6⟩ := h
  refine ⟨h2, fun a ha => ?_⟩
  obtain ⟨c9, e1, e2, e3, e4⟩ := h6 a _ (Array.getElem?_eq_getElem ha)
  have hs : c9.slots = (s.heap[a]).slots := Array.ext_getElem? fun i => e4 i (fun hm => nomatch hm)
  rw [e1, Array.getElem?_eq_getElem ha, e2, hs]
/-- throw new cls("text"): new; dup; ldc; invokespecial; athrow -/
theorem x_throw {cc : ByteArray} {pc : Nat} {ls : Array Slot} {rest : List Value} {own cls text : String} {names : List String} {ik is ic : Nat} {Qc : Array Value → State → Outcome → State → Prop} {free : Addr → Prop} {A : Nat → Prop}
    (hexec : p.tables.exec = Jvm.exec) (hb : c.code = cc) (hl : l.stackTraces = false) (hown : s.vm.findClass own = some m.cls) (hcls : Bundle.fit cls = true) (hnames : ∀ n ∈ names, Bundle.fit n = true)
    (hk : (Cond.classLink own ik cls).before args s = true) (hini : (Cond.initialized cls).before args s = true) {sa : Nat} (hstr : vk_R own is text sa s)
    (hat : ∀ w ∈ Bundle.ownAtoms own ic cls names, w.onTables = true → w.before args s = true)
    (hnt : ∀ w ∈ Bundle.ownAtoms own ic cls names, w.onTables = true ∨ w = .isRef (.static Bundle.tN "UNASSIGNED_STACK" Bundle.steD) ∨ w = .isRef (.static Bundle.tN "SUPPRESSED_SENTINEL" Bundle.listD) ∨ w = .laysStatic Bundle.tN "UNASSIGNED_STACK" Bundle.steD ∨ w = .laysStatic Bundle.tN "SUPPRESSED_SENTINEL" Bundle.listD)
    (hU : x_St Bundle.tN "UNASSIGNED_STACK" Bundle.steD A s s.heap) (hN : x_St Bundle.tN "SUPPRESSED_SENTINEL" Bundle.listD A s s.heap) (hS : va_S A s.heap H locs) (hsize : ls.size = c.maxLocals)
    (d0 : decode cc pc = .ok (.new ik, 3)) (d3 : decode cc (pc + 3) = .ok (.dup, 1)) (d4 : decode cc (pc + 4) = .ok (.ldc is, 2)) (d6 : decode cc (pc + 6) = .ok (.invokespecial ic, 3)) (d9 : decode cc (pc + 9) = .ok (.athrow, 1))
    (hout : ∀ z ∈ c.exceptionTable.toList, covers z (pc + 9) = false)
    (hRf : names.length + 3 < R.frames) (hRl : (rest.map fun v => v.category).sum + (13 * (names.length + 1) + 43) ≤ R.locals) (hRc : cells + 1 ≤ R.cells) (hRs : slots + 6 ≤ R.slots) (hlocks : meth.locks = false)
    (hq : ∀ (t : State) (q : Addr) (ce : Cell), s.WarmedH t.vm → H.size ≤ t.heap.size → (∀ a : Nat, a < H.size → t.heap[a]? = H[a]?) → t.heap[q]? = some ce → ce.vm = .none → s.vm.findClass cls = some ce.cls → Qc args s (.threw q) t)
    (hf : ∀ z ∈ locs, free z.base) : W p l e R s m args below meth c H locs cells slots (x_Q below Qc args s (cells + 1) (slots + 6) free) (F0 m pc ls rest) := by
  intro T hT X
  have htr : e.platform.stackTraces = false := (show e.platform.stackTraces = l.stackTraces by rw [X.admits.platform]).trans hl
  have Y0 := x_base X (R' := { frames := R.frames, locals := R.locals, cells := 1, slots := 6 }) (Nat.le_refl _) (Nat.le_refl _) hRc hRs
  obtain ⟨b, hbs⟩ : ∃ z, z = (T.setVm s.vm).setFrames (.invoking m args :: below) := ⟨_, rfl⟩
  rw [← hbs] at Y0
  have hvm : b.vm = s.vm := by rw [hbs]; rfl
  have hhp : b.heap = H := by rw [hbs]; exact hT
  have move : ∀ w : Cond, w.onTables = true → w.before args s = true → w.before args b = true := fun w h1 h2 => va_Nw.use h1 (va_Nw.same h1 hvm.symm (va_Nw.of h1 h2))
  have zU : x_St Bundle.tN "UNASSIGNED_STACK" Bundle.steD A b b.heap := by rw [hhp]; exact hU.to (by rw [hvm]; exact Vm.Alike.refl _) hS.2.1 (fun _ h => h)
  have zN : x_St Bundle.tN "SUPPRESSED_SENTINEL" Bundle.listD A b b.heap := by rw [hhp]; exact hN.to (by rw [hvm]; exact Vm.Alike.refl _) hS.2.1 (fun _ h => h)
  have hall : ∀ w ∈ Bundle.ownAtoms own ic cls names, w.before args b = true := fun w hw => by
    rcases hnt w hw with h | rfl | rfl | rfl | rfl
    · exact move w h (hat w hw h)
    · exact zU.isRef args
    · exact zN.isRef args
    · exact zU.lays args
    · exact zN.lays args
  have hown' : b.vm.findClass own = some m.cls := by rw [hvm]; exact hown
  obtain ⟨hstr', hev'⟩ := vk_R.same (u := s) (U := b) hvm hstr
  have hins : (Cond.instantiable cls 6).before args b = true := hall _ (by simp [Bundle.ownAtoms])
  obtain ⟨vm₁, cX, kX, hfX, hkX, -, -, X₁, st1⟩ := Y0.newCold hexec (own := own) (C := cls) (index := ik) (n := 6) hown' (move _ rfl hk) hins (move _ rfl hini)
    (g := F0 m pc ls rest) rfl (by rw [hb]; exact d0) (Nat.le_refl _) (Nat.le_refl _)
  generalize hT1 : (T.setVm vm₁).pushCell { cls := cX, slots := kX.instanceTypes.map defaultValue, vm := .none } = T1 at X₁ st1
  have hnew : T1.heap[T.heap.size]? = some (freshCell cX kX) := by rw [← hT1]; exact State.heap_pushCell_size _ _
  have d3' : decode c.code (pc + 3) = .ok (.dup, 1) := by rw [hb]; exact d3
  have d4' : decode c.code (pc + 4) = .ok (.ldc is, 2) := by rw [hb]; exact d4
  have hcat : (Value.ref T.heap.size).category = 1 := rfl
  obtain ⟨U, hsteps, hrun, hend, hW, hsame, ce, hce, hO⟩ := X₁.ctorThrowS hexec htr (own := own) (cls := cls) (names := names) (ic := ic) hown' hcls hnames hall (fun z hz => nomatch hz) hfX hkX hnew (by rw [hhp, hT]; exact Nat.le_refl _) (msg := .ref sa) rfl
    (g := F0 m (pc + 6) ls (.ref sa :: .ref T.heap.size :: .ref T.heap.size :: rest)) rfl hsize rfl rfl (rest := rest) rfl (by rw [hb]; exact d6) (by rw [hb]; exact d9) hout hRf (by
      have : (F0 m (pc + 6) ls (.ref sa :: .ref T.heap.size :: .ref T.heap.size :: rest)).monitorRoom = 0 := rfl
      simp only [List.map_cons, List.sum_cons, hcat, this]; omega) hlocks
  obtain ⟨f1, f2⟩ := x_same0 hsame
  rw [hhp] at f1 f2
  have hWs : s.WarmedH U.vm := by
    have z : b.WarmedH U.vm := hW
    exact State.WarmedH.trans (show s.WarmedH b.vm by rw [hvm]; exact State.WarmedH.refl s) z
  have hcl : s.vm.findClass cls = some ce.cls := by rw [← hvm]; exact hO.cls
  have hfin : s.sameButNew ({ U with vm := s.vm } : State) locs (cells + 1) (slots + 6) := by
    subst hbs
    obtain ⟨e1, e2⟩ := hsame
    rw [State.setFrames_setFrames] at e1
    have h2 : (T.setVm s.vm).sameButNew ({ U with vm := s.vm } : State) [] (0 + 1) (0 + 6) := ⟨e1, e2⟩
    have h3 := X.same.trans h2
    rw [List.append_nil, Nat.zero_add, Nat.zero_add] at h3
    exact h3
  refine ⟨U, ?_, .threw T.heap.size, hrun, hend, hq U T.heap.size ce hWs f1 f2 hce hO.vm hcl, hWs, locs, hfin, hf⟩
  refine st1 _ ?_
  show Steps p.tables e below (T1.setTop { method := m, pc := pc + 3, locals := ls, stack := .ref T.heap.size :: rest, locked := none }) _
  jvm_step X₁.here [X₁.here.top, hexec, d3', Value.category]
  exact X₁.ldcString hexec (own := own) (text := text) (index := is) (a := sa) hown' hstr' (by
      have z : (Term.string own is).eval args b none [] b = (Term.string own is).eval #[] b none [] b := rfl
      rw [z]; exact hev') (g := F0 m (pc + 4) ls (.ref T.heap.size :: .ref T.heap.size :: rest)) rfl d4' _ hsteps
end XThrow
end
section
/-! Sums over the numbers 1..n that have a property; what can be come to; the work list. -/
section ZMath
noncomputable def z_sum (w : Nat → Nat) (P : Nat → Prop) : Nat → Nat
  | 0 => 0
  | n + 1 => z_sum w P n + @ite Nat (P (n + 1)) (Classical.propDecidable _) (w (n + 1)) 0
theorem z_yes {w : Nat → Nat} {P : Nat → Prop} {n : Nat} (h : P (n + 1)) : z_sum w P (n + 1) = z_sum w P n + w (n + 1) := by
  show z_sum w P n + @ite Nat (P (n + 1)) (Classical.propDecidable _) (w (n + 1)) 0 = _
  rw [if_pos h]
theorem z_no {w : Nat → Nat} {P : Nat → Prop} {n : Nat} (h : ¬ P (n + 1)) : z_sum w P (n + 1) = z_sum w P n := by
  show z_sum w P n + @ite Nat (P (n + 1)) (Classical.propDecidable _) (w (n + 1)) 0 = _
  rw [if_neg h, Nat.add_zero]
theorem z_congr {w w' : Nat → Nat} {P P' : Nat → Prop} : ∀ {n : Nat}, (∀ o, 1 ≤ o → o ≤ n → (P o ↔ P' o)) → (∀ o, 1 ≤ o → o ≤ n → P o → w o = w' o) → z_sum w P n = z_sum w' P' n
  | 0, _, _ => rfl
  | n + 1, h1, h2 => by
    have ih := z_congr (w := w) (w' := w') (P := P) (P' := P') (n := n) (fun o a b => h1 o a (by omega)) (fun o a b => h2 o a (by omega))
    by_cases hp : P (n + 1)
    · rw [z_yes hp, z_yes ((h1 (n + 1) (by omega) (Nat.le_refl _)).mp hp), ih, h2 (n + 1) (by omega) (Nat.le_refl _) hp]
    · rw [z_no hp, z_no (fun h => hp ((h1 (n + 1) (by omega) (Nat.le_refl _)).mpr h)), ih]
theorem z_le {w : Nat → Nat} {P P' : Nat → Prop} : ∀ {n : Nat}, (∀ o, 1 ≤ o → o ≤ n → P o → P' o) → z_sum w P n ≤ z_sum w P' n
  | 0, _ => Nat.le_refl _
  | n + 1, h => by
    have ih := z_le (w := w) (P := P) (P' := P') (n := n) (fun o a b => h o a (by omega))
    by_cases hp : P (n + 1)
    · rw [z_yes hp, z_yes (h (n + 1) (by omega) (Nat.le_refl _) hp)]; omega
    · rw [z_no hp]
      by_cases hq : P' (n + 1)
      · rw [z_yes hq]; omega
      · rw [z_no hq]; exact ih
theorem z_add {w : Nat → Nat} {P : Nat → Prop} {k : Nat} : ∀ {n : Nat}, 1 ≤ k → k ≤ n → ¬ P k → z_sum w (fun o => P o ∨ o = k) n = z_sum w P n + w k
  | 0, h1, h2, _ => absurd h2 (by omega)
  | n + 1, h1, h2, hk => by
    by_cases he : k = n + 1
    · subst he
      rw [z_yes (P := fun o => P o ∨ o = n + 1) (Or.inr rfl), z_no hk]
      have := z_congr (w := w) (w' := w) (P := fun o => P o ∨ o = n + 1) (P' := P) (n := n) (fun o a b => ⟨fun h => h.resolve_right (by omega), Or.inl⟩) (fun _ _ _ _ => rfl)
      rw [this]
    · have ih := z_add (w := w) (P := P) (k := k) (n := n) h1 (by omega) hk
      by_cases hp : P (n + 1)
      · rw [z_yes (P := fun o => P o ∨ o = k) (Or.inl hp), z_yes hp, ih]; omega
      · rw [z_no (P := fun o => P o ∨ o = k) (fun h => h.elim hp (fun h => he h.symm)), z_no hp, ih]
theorem z_none {w : Nat → Nat} {P : Nat → Prop} : ∀ {n : Nat}, (∀ o, 1 ≤ o → o ≤ n → ¬ P o) → z_sum w P n = 0
  | 0, _ => rfl
  | n + 1, h => by rw [z_no (h (n + 1) (by omega) (Nat.le_refl _))]; exact z_none (fun o a b => h o a (by omega))
theorem z_cnt (P : Nat → Prop) : ∀ n : Nat, z_sum (fun _ => 1) P n ≤ n
  | 0 => Nat.le_refl _
  | n + 1 => by
    have ih := z_cnt P n
    by_cases hp : P (n + 1)
    · rw [z_yes hp]; omega
    · rw [z_no hp]; omega
/-- what can be come to -/
def z_R (root : Nat → Prop) (ed : Nat → Nat → Prop) (o : Nat) : Prop := ∀ P : Nat → Prop, (∀ r, root r → P r) → (∀ a b, P a → ed a b → P b) → P o
theorem z_R.root {root : Nat → Prop} {ed : Nat → Nat → Prop} {o : Nat} (h : root o) : z_R root ed o := fun _ h1 _ => h1 o h
theorem z_R.step {root : Nat → Prop} {ed : Nat → Nat → Prop} {a b : Nat} (h : z_R root ed a) (he : ed a b) : z_R root ed b := fun P h1 h2 => h2 a b (h P h1 h2) he
/-- a work list: seen so far, still to be looked into (ps), roots and edges not yet looked at -/
def z_I (root : Nat → Prop) (ed : Nat → Nat → Prop) (n : Nat) (seen : Nat → Prop) (ps : List Nat) (rop : Nat → Prop) (op : Nat → Nat → Prop) : Prop :=
  ps.Nodup ∧ (∀ o, o ∈ ps → seen o) ∧ (∀ o, seen o → 1 ≤ o ∧ o ≤ n ∧ z_R root ed o) ∧ (∀ a b, seen a → a ∉ ps → ed a b → seen b ∨ op a b) ∧ ∀ r, root r → seen r ∨ rop r
theorem z_I.len {root : Nat → Prop} {ed : Nat → Nat → Prop} {n : Nat} {seen : Nat → Prop} (hs : ∀ o, seen o → 1 ≤ o ∧ o ≤ n) : ∀ {ps : List Nat}, ps.Nodup → (∀ o, o ∈ ps → seen o) → ps.length + z_sum (fun _ => 1) (fun o => seen o ∧ o ∉ ps) n = z_sum (fun _ => 1) seen n
  | [], _, _ => by
    rw [List.length_nil, Nat.zero_add]
    exact z_congr (fun o _ _ => ⟨fun h => h.1, fun h => ⟨h, List.not_mem_nil⟩⟩) (fun _ _ _ _ => rfl)
  | k :: ps, hn, hm => by
    have hk := hs k (hm k List.mem_cons_self)
    have hnk : k ∉ ps := (List.nodup_cons.mp hn).1
    have ih := z_I.len (root := root) (ed := ed) hs (List.nodup_cons.mp hn).2 (fun o h => hm o (List.mem_cons_of_mem _ h))
    have h2 := z_add (w := fun _ => 1) (P := fun o => seen o ∧ o ∉ k :: ps) (k := k) (n := n) hk.1 hk.2 (fun h => h.2 List.mem_cons_self)
    have h3 := z_congr (w := fun _ => 1) (w' := fun _ => 1) (P := fun o => (seen o ∧ o ∉ k :: ps) ∨ o = k) (P' := fun o => seen o ∧ o ∉ ps) (n := n) (fun o _ _ => ⟨fun h => h.elim (fun h => ⟨h.1, fun z => h.2 (List.mem_cons_of_mem _ z)⟩) (fun h => by subst h; exact ⟨hm _ List.mem_cons_self, hnk⟩), fun h => by
      by_cases e : o = k
      · exact Or.inr e
      · exact Or.inl ⟨h.1, fun z => (List.mem_cons.mp z).elim e h.2⟩⟩) (fun _ _ _ _ => rfl)
    rw [List.length_cons]
    omega
theorem z_I.room {root : Nat → Prop} {ed : Nat → Nat → Prop} {n : Nat} {seen : Nat → Prop} {ps : List Nat} {rop : Nat → Prop} {op : Nat → Nat → Prop} (h : z_I root ed n seen ps rop op) : ps.length + z_sum (fun _ => 1) (fun o => seen o ∧ o ∉ ps) n ≤ n := by
  rw [z_I.len (root := root) (ed := ed) (fun o z => ⟨(h.2.2.1 o z).1, (h.2.2.1 o z).2.1⟩) h.1 h.2.1]
  exact z_cnt _ n
/-- an object that was not seen yet: it is now, and waits -/
theorem z_I.visit {root : Nat → Prop} {ed : Nat → Nat → Prop} {n k : Nat} {seen : Nat → Prop} {ps : List Nat} {rop : Nat → Prop} {op : Nat → Nat → Prop} (h : z_I root ed n seen ps rop op) (h1 : 1 ≤ k) (h2 : k ≤ n) (hr : z_R root ed k) (hk : ¬ seen k) :
    z_I root ed n (fun o => seen o ∨ o = k) (k :: ps) rop op ∧ ∀ w : Nat → Nat, z_sum w (fun o => (seen o ∨ o = k) ∧ o ∉ k :: ps) n = z_sum w (fun o => seen o ∧ o ∉ ps) n := by
  obtain ⟨a1, a2, a3, a4, a5⟩ := h
  have hnk : k ∉ ps := fun z => hk (a2 k z)
  refine ⟨⟨List.nodup_cons.mpr ⟨hnk, a1⟩, fun o z => ?_, fun o z => ?_, fun a b z1 z2 z3 => ?_, fun r z => (a5 r z).elim (fun q => Or.inl (Or.inl q)) Or.inr⟩, fun w => ?_⟩
  · exact (List.mem_cons.mp z).elim Or.inr (fun q => Or.inl (a2 o q))
  · rcases z with z | rfl
    · exact a3 o z
    · exact ⟨h1, h2, hr⟩
  · have hak : a ≠ k := fun q => z2 (by rw [q]; exact List.mem_cons_self)
    exact (a4 a b (z1.resolve_right hak) (fun q => z2 (List.mem_cons_of_mem _ q)) z3).elim (fun q => Or.inl (Or.inl q)) Or.inr
  · refine z_congr (fun o _ _ => ⟨fun z => ?_, fun z => ?_⟩) (fun _ _ _ _ => rfl)
    · have hak : o ≠ k := fun q => z.2 (by rw [q]; exact List.mem_cons_self)
      exact ⟨z.1.resolve_right hak, fun q => z.2 (List.mem_cons_of_mem _ q)⟩
    · refine ⟨Or.inl z.1, fun q => ?_⟩
      rcases List.mem_cons.mp q with e | e
      · exact hk (by rw [← e]; exact z.1)
      · exact z.2 e
/-- one that waits is taken: its edges are to be looked at -/
theorem z_I.pop {root : Nat → Prop} {ed : Nat → Nat → Prop} {n k : Nat} {seen : Nat → Prop} {ps : List Nat} {rop : Nat → Prop} {op : Nat → Nat → Prop} (h : z_I root ed n seen (k :: ps) rop op) :
    z_I root ed n seen ps rop (fun a b => op a b ∨ a = k) ∧ (∀ w : Nat → Nat, z_sum w (fun o => seen o ∧ o ∉ ps) n = z_sum w (fun o => seen o ∧ o ∉ k :: ps) n + w k) ∧ 1 ≤ k ∧ k ≤ n ∧ z_R root ed k := by
  obtain ⟨a1, a2, a3, a4, a5⟩ := h
  have hnk : k ∉ ps := (List.nodup_cons.mp a1).1
  have hsk := a2 k List.mem_cons_self
  have hk := a3 k hsk
  refine ⟨⟨(List.nodup_cons.mp a1).2, fun o z => a2 o (List.mem_cons_of_mem _ z), a3, fun a b z1 z2 z3 => ?_, a5⟩, fun w => ?_, hk⟩
  · by_cases e : a = k
    · exact Or.inr (Or.inr e)
    · exact (a4 a b z1 (fun q => (List.mem_cons.mp q).elim e z2) z3).elim Or.inl (fun q => Or.inr (Or.inl q))
  · rw [← z_add (w := w) (P := fun o => seen o ∧ o ∉ k :: ps) (k := k) hk.1 hk.2.1 (fun z => z.2 List.mem_cons_self)]
    refine z_congr (fun o _ _ => ⟨fun z => ?_, fun z => ?_⟩) (fun _ _ _ _ => rfl)
    · by_cases e : o = k
      · exact Or.inr e
      · exact Or.inl ⟨z.1, fun q => (List.mem_cons.mp q).elim e z.2⟩
    · rcases z with z | rfl
      · exact ⟨z.1, fun q => z.2 (List.mem_cons_of_mem _ q)⟩
      · exact ⟨hsk, hnk⟩
theorem z_I.mono {root : Nat → Prop} {ed : Nat → Nat → Prop} {n : Nat} {seen : Nat → Prop} {ps : List Nat} {rop rop' : Nat → Prop} {op op' : Nat → Nat → Prop} (h : z_I root ed n seen ps rop op) (h1 : ∀ r, root r → rop r → seen r ∨ rop' r) (h2 : ∀ a b, seen a → a ∉ ps → ed a b → op a b → seen b ∨ op' a b) : z_I root ed n seen ps rop' op' :=
  ⟨h.1, h.2.1, h.2.2.1, fun a b z1 z2 z3 => (h.2.2.2.1 a b z1 z2 z3).elim Or.inl (h2 a b z1 z2 z3), fun r z => (h.2.2.2.2 r z).elim Or.inl (h1 r z)⟩
/-- nothing waits, nothing is left to be looked at: what was seen is what can be come to -/
theorem z_I.done {root : Nat → Prop} {ed : Nat → Nat → Prop} {n : Nat} {seen : Nat → Prop} (h : z_I root ed n seen [] (fun _ => False) (fun _ _ => False)) (o : Nat) : seen o ↔ z_R root ed o :=
  ⟨fun z => (h.2.2.1 o z).2.2, fun z => z seen (fun r q => (h.2.2.2.2 r q).resolve_right id) (fun a b q1 q2 => (h.2.2.2.1 a b q1 List.not_mem_nil q2).resolve_right id)⟩
theorem z_I.start {root : Nat → Prop} {ed : Nat → Nat → Prop} {n : Nat} {seen : Nat → Prop} (h : ∀ o, ¬ seen o) : z_I root ed n seen [] root (fun _ _ => False) :=
  ⟨List.nodup_nil, fun o z => absurd z List.not_mem_nil, fun o z => absurd z (h o), fun a _ z _ _ => absurd z (h a), fun _ z => Or.inr z⟩
end ZMath
end
section
/-! Worlds as maps from addresses to what lies there. -/
section YMap
abbrev y_G : Type := Nat → Option va_E
def y_P (D : va_G) (cl : List vw_C) (g : y_G) (H : Heap) : Prop := ∀ (a : Nat) (e : va_E), g a = some e → va_at D cl (a, e) H
/-- which cells a method may change -/
def y_A (g : y_G) (sz : Nat) : Nat → Prop := fun q => g q ≠ none ∨ sz ≤ q
def y_L (g : y_G) (N : Nat) : va_W := (List.range N).filterMap (fun q => (g q).map (fun e => (q, e)))
theorem y_mem {g : y_G} {N a : Nat} {e : va_E} : (a, e) ∈ y_L g N ↔ a < N ∧ g a = some e := by
  unfold y_L
  rw [List.mem_filterMap]
  constructor
  · rintro ⟨q, hq, h⟩
    cases hg : g q with
    | none => rw [hg] at h; cases h
    | some e' =>
      rw [hg] at h
      cases h
      exact ⟨List.mem_range.mp hq, hg⟩
  · rintro ⟨h1, h2⟩
    exact ⟨a, List.mem_range.mpr h1, by rw [h2]; rfl⟩
theorem y_lt {D : va_G} {cl : List vw_C} {g : y_G} {H : Heap} (h : y_P D cl g H) {a : Nat} {e : va_E} (he : g a = some e) : a < H.size := (h a e he).lt
theorem y_idx {g : y_G} {N a : Nat} {e : va_E} (h1 : a < N) (h2 : g a = some e) : ∃ k : Nat, (y_L g N)[k]? = some (a, e) := List.getElem?_of_mem (y_mem.mpr ⟨h1, h2⟩)
theorem y_toL {D : va_G} {cl : List vw_C} {g : y_G} {H : Heap} (h : y_P D cl g H) (N : Nat) : va_P D cl (y_L g N) H := fun k q hk => h q.1 q.2 (y_mem.mp (List.mem_of_getElem? hk)).2
theorem y_inj (g : y_G) : ∀ (N i j : Nat) (p q : Nat × va_E), (y_L g N)[i]? = some p → (y_L g N)[j]? = some q → p.1 = q.1 → i = j := by
  intro N
  induction N with
  | zero => intro i j p q h; simp [y_L] at h
  | succ N ih =>
    have hs : y_L g (N + 1) = y_L g N ++ ((g N).map (fun e => (N, e))).toList := by
      unfold y_L
      rw [List.range_succ, List.filterMap_append]
      congr 1
    have hlt : ∀ (k : Nat) (r : Nat × va_E), (y_L g N)[k]? = some r → r.1 < N := fun k r h => (y_mem.mp (List.mem_of_getElem? h)).1
    have hlast : ∀ (k : Nat) (r : Nat × va_E), (((g N).map (fun e => (N, e))).toList)[k]? = some r → k = 0 ∧ r.1 = N := fun k r h => by
      cases hg : g N with
      | none => rw [hg] at h; simp at h
      | some e =>
        rw [hg] at h
        cases k with
        | zero => simp at h; exact ⟨rfl, by rw [← h]⟩
        | succ k => simp at h
    intro i j p q h1 h2 h3
    rw [hs] at h1 h2
    by_cases a1 : i < (y_L g N).length
    · rw [List.getElem?_append_left a1] at h1
      by_cases a2 : j < (y_L g N).length
      · rw [List.getElem?_append_left a2] at h2
        exact ih i j p q h1 h2 h3
      · rw [List.getElem?_append_right (by omega)] at h2
        have := hlt _ _ h1
        have := (hlast _ _ h2).2
        omega
    · rw [List.getElem?_append_right (by omega)] at h1
      by_cases a2 : j < (y_L g N).length
      · rw [List.getElem?_append_left a2] at h2
        have := hlt _ _ h2
        have := (hlast _ _ h1).2
        omega
      · rw [List.getElem?_append_right (by omega)] at h2
        have := (hlast _ _ h1).1
        have := (hlast _ _ h2).1
        omega
theorem y_D {A : Nat → Prop} {g : y_G} (hA : ∀ q e, g q = some e → A q) (N : Nat) : va_D A (y_L g N) :=
  ⟨y_inj g N, fun k q hk => hA q.1 q.2 (y_mem.mp (List.mem_of_getElem? hk)).2⟩
theorem y_ofSet {D : va_G} {cl : List vw_C} {g : y_G} {H1 : Heap} {N k a : Nat} {e0 e : va_E} (hN : ∀ q e, g q = some e → q < N) (hk : (y_L g N)[k]? = some (a, e0)) (h : va_P D cl ((y_L g N).set k (a, e)) H1) : y_P D cl (va_up g a (some e)) H1 := by
  intro b eb hb
  have hkl := (List.getElem?_eq_some_iff.mp hk).1
  by_cases hab : b = a
  · subst hab
    rw [va_up_self] at hb
    cases hb
    exact h k _ (List.getElem?_set_self hkl)
  · rw [va_up_ne _ _ hab] at hb
    obtain ⟨j, hj⟩ := y_idx (hN b eb hb) hb
    have hjk : k ≠ j := fun z => by
      subst z
      rw [hk] at hj
      cases hj
      exact hab rfl
    exact h j _ (by rw [List.getElem?_set_ne hjk]; exact hj)
theorem y_ofPush {D : va_G} {cl : List vw_C} {g : y_G} {H1 : Heap} {N q : Nat} {e : va_E} (hN : ∀ q e, g q = some e → q < N) (h : va_P D cl (y_L g N ++ [(q, e)]) H1) : y_P D cl (va_up g q (some e)) H1 := by
  intro b eb hb
  by_cases hab : b = q
  · subst hab
    rw [va_up_self] at hb
    cases hb
    exact h (y_L g N).length _ (by rw [List.getElem?_append_right (Nat.le_refl _), Nat.sub_self]; rfl)
  · rw [va_up_ne _ _ hab] at hb
    obtain ⟨j, hj⟩ := y_idx (hN b eb hb) hb
    exact h j _ (by rw [List.getElem?_append_left (List.getElem?_eq_some_iff.mp hj).1]; exact hj)
theorem y_P.kept {D : va_G} {cl : List vw_C} {g : y_G} {H H1 : Heap} (h : y_P D cl g H) (hq : ∀ a e, g a = some e → H1[a]? = H[a]?) : y_P D cl g H1 := fun a e he => (h a e he).kept (hq a e he)
theorem y_one {D : va_G} {cl : List vw_C} {g : y_G} {H : Heap} (h : y_P D cl g H) {a : Nat} {e : va_E} (he : g a = some e) : va_P D cl [(a, e)] H := fun k q hk => by
  cases k with
  | zero => cases hk; exact h a e he
  | succ k => simp at hk
end YMap
section YRows
variable {p : Program} {l : Launch} {e : Env} {R : Room} {s : State} {m : MethodId} {args : Array Value} {below : List Frame} {meth : Method} {c : Code} {H : Heap} {locs : List Loc} {cells slots : Nat} {Q : State → Prop} {cc : ByteArray} {pc a : Nat} {ls : Array Slot} {rest : List Value} {D : va_G} {cl : List vw_C} {tys : List (ClassId × FieldType)} {g : y_G} {A : Nat → Prop} {H0 : Heap}
theorem y_recv {ci : Nat} {q : vw_C} {fs : List Value} (hK : va_K D cl tys s) (hP : y_P D cl g H) (hc : cl[ci]? = some q) (he : g a = some (.inr (ci, fs))) : ∃ cell : Cell, H[a]? = some cell ∧ cell.vm.isStatics = false ∧ s.vm.findClass q.1 = some cell.cls :=
  va_recv hK (y_one hP he) hc (q0 := 0) rfl
theorem y_get (hexec : p.tables.exec = Jvm.exec) (hb : c.code = cc) {own ref C : String} {T : u_T} {N ci index : Nat} {Ts : List Cond} (hts : ∀ w ∈ Ts, w.before args s = true) (hin : ∀ w ∈ u_ws C T N, w ∈ Ts) (hown : s.vm.findClass own = some m.cls) (hK : va_K D cl tys s) (hP : y_P D cl g H) {fs : List Value} (he : g a = some (.inr (ci, fs))) (hc : cl[ci]? = some (C, T, N)) (k : Nat) (hk : k < N)
    (hlink : (Cond.fieldLink own index ref (T k).2.1 (T k).2.2.1).before args s = true) (hsame : ∀ x, s.fieldFound? (T k).1 (T k).2.1 (T k).2.2.1 = some x → s.fieldFound? ref (T k).2.1 (T k).2.2.1 = some x) {v : Value} (hv : fs[k]? = some v) (hdg : decode cc pc = .ok (.getfield index, 3))
    (kk : W p l e R s m args below meth c H locs cells slots Q (F0 m (pc + 3) ls (v :: rest))) : W p l e R s m args below meth c H locs cells slots Q (F0 m pc ls (.ref a :: rest)) :=
  va_get hexec hb hts hin hown hK (y_one hP he) 0 rfl hc k hk hlink hsame hv hdg kk
theorem y_put (hexec : p.tables.exec = Jvm.exec) (hb : c.code = cc) {own ref C : String} {T : u_T} {N ci index : Nat} {Ts : List Cond} (hts : ∀ w ∈ Ts, w.before args s = true) (hin : ∀ w ∈ u_ws C T N, w ∈ Ts) (ty0 : Nat → FieldType) (hty : ∀ k, k < N → parseFieldDescriptor (T k).2.2.1 = some (ty0 k)) (hnm : ∀ a, a < N → ∀ b, b < N → a ≠ b → (T a).2.1 ≠ (T b).2.1) (hown : s.vm.findClass own = some m.cls)
    (hK : va_K D cl tys s) (hP : y_P D cl g H) (hA : ∀ q e, g q = some e → A q) (hS : va_S A H0 H locs) {fs : List Value} (he : g a = some (.inr (ci, fs))) (hc : cl[ci]? = some (C, T, N)) (k : Nat) (hk : k < N) (hlink : (Cond.fieldLink own index ref (T k).2.1 (T k).2.2.1).before args s = true) (hsame : ∀ x, s.fieldFound? (T k).1 (T k).2.1 (T k).2.2.1 = some x → s.fieldFound? ref (T k).2.1 (T k).2.2.1 = some x)
    (hfin : (T k).2.2.2 = false) {ty : FieldType} {v : Value} (hd : parseFieldDescriptor (T k).2.2.1 = some ty) (hn : narrow ty v = v) (hfit : fits ty v = true) (hl : k < fs.length) (hdg : decode cc pc = .ok (.putfield index, 3))
    (kk : ∀ (H1 : Heap) (locs1 : List Loc), y_P D cl (va_up g a (some (.inr (ci, fs.set k v)))) H1 → (∀ q e, va_up g a (some (.inr (ci, fs.set k v))) q = some e → A q) → va_S A H0 H1 locs1 → W p l e R s m args below meth c H1 locs1 cells slots Q (F0 m (pc + 3) ls rest)) : W p l e R s m args below meth c H locs cells slots Q (F0 m pc ls (v :: .ref a :: rest)) := by
  have hlt : ∀ q e, g q = some e → q < H.size := fun q e h => y_lt hP h
  obtain ⟨j, hj⟩ := y_idx (hlt a _ he) he
  refine va_put hexec hb hts hin ty0 hty hnm hown hK (y_toL hP H.size) (y_D hA H.size) hS j hj hc k hk hlink hsame hfin hd hn hfit hl hdg (fun H1 locs1 h1 _ h3 => ?_)
  refine kk H1 locs1 (y_ofSet hlt hj h1) (fun q e h => ?_) h3
  by_cases hq : q = a
  · rw [hq]; exact hA a _ he
  · rw [va_up_ne _ _ hq] at h; exact hA q e h
theorem y_new {c0 : Code} (hexec : p.tables.exec = Jvm.exec) (hb : c0.code = cc) {own C : String} {T : u_T} {N ci index : Nat} {Ts : List Cond} (hts : ∀ w ∈ Ts, w.before args s = true) (hin : ∀ w ∈ u_ws C T N, w ∈ Ts) (ty : Nat → FieldType) (hty : ∀ k, k < N → parseFieldDescriptor (T k).2.2.1 = some (ty k)) (hown : s.vm.findClass own = some m.cls) (hcl : (Cond.classLink own index C).before args s = true) (hinst : (Cond.instantiable C N).before args s = true) (hini : (Cond.initialized C).before args s = true)
    (hK : va_K D cl tys s) (hP : y_P D cl g H) (hA : ∀ q e, g q = some e → A q) (hS : va_S A H0 H locs) (hA0 : ∀ q, H0.size ≤ q → A q) (hc : cl[ci]? = some (C, T, N)) {fs : List Value} (hfs : ∀ j, j < N → defaultValue (ty j) = vp_V fs j) (hcells : cells + 1 ≤ R.cells) (hslots : slots + N ≤ R.slots) (hdg : decode cc pc = .ok (.new index, 3))
    (kk : ∀ (q : Nat) (H1 : Heap), g q = none → y_P D cl (va_up g q (some (.inr (ci, fs)))) H1 → (∀ z e, va_up g q (some (.inr (ci, fs))) z = some e → A z) → va_S A H0 H1 locs →
      W p l e R s m args below meth c0 H1 locs (cells + 1) (slots + N) Q (F0 m (pc + 3) ls (.ref q :: rest))) : W p l e R s m args below meth c0 H locs cells slots Q (F0 m pc ls rest) := by
  have hlt : ∀ q e, g q = some e → q < H.size := fun q e h => y_lt hP h
  refine va_new hexec hb hts hin ty hty hown hcl hinst hini hK (y_toL hP H.size) (y_D hA H.size) hS hA0 hc hfs hcells hslots hdg (fun q H1 h1 h2 h3 => ?_)
  have hlast : (y_L g H.size ++ [(q, (Sum.inr (ci, fs) : va_E))])[(y_L g H.size).length]? = some (q, .inr (ci, fs)) := by rw [List.getElem?_append_right (Nat.le_refl _), Nat.sub_self]; rfl
  have hq : g q = none := by
    cases hg : g q with
    | none => rfl
    | some e9 =>
      obtain ⟨j, hj⟩ := y_idx (hlt q e9 hg) hg
      have hjl := (List.getElem?_eq_some_iff.mp hj).1
      have := h2.1 j (y_L g H.size).length (q, e9) (q, .inr (ci, fs)) (by rw [List.getElem?_append_left hjl]; exact hj) hlast rfl
      omega
  refine kk q H1 hq (y_ofPush hlt h1) (fun z e h => ?_) h3
  by_cases hz : z = q
  · rw [hz]; exact h2.2 _ _ hlast
  · rw [va_up_ne _ _ hz] at h; exact hA z e h
theorem y_aldq (hexec : p.tables.exec = Jvm.exec) (hb : c.code = cc) (hK : va_K D cl tys s) (hP : y_P D cl g H) (t0 : Nat) {cA : ClassId} {C : String} {n : Nat} {f : Nat → Option Nat} (ha : g a = some (.inl (cA, n, .inr (.inr (.inr (.inr f)))))) (ht : tys[t0]? = some (cA, .object C)) {i : Int32} (hin : vp_in i n) (hdg : decode cc pc = .ok (.aaload, 1))
    (kk : W p l e R s m args below meth c H locs cells slots Q (F0 m (pc + 1) ls (va_rf (f i.toNatClampNeg) :: rest))) : W p l e R s m args below meth c H locs cells slots Q (F0 m pc ls (.int i :: .ref a :: rest)) :=
  va_aldq hexec hb hK (y_one hP ha) 0 t0 rfl ht hin hdg kk
theorem y_astN (hexec : p.tables.exec = Jvm.exec) (hb : c.code = cc) (hK : va_K D cl tys s) (hP : y_P D cl g H) (hA : ∀ q e, g q = some e → A q) (hS : va_S A H0 H locs) (t0 : Nat) {cA : ClassId} {C : String} {n : Nat} {f : Nat → Option Nat} (ha : g a = some (.inl (cA, n, .inr (.inr (.inr (.inr f)))))) (ht : tys[t0]? = some (cA, .object C)) {i : Int32} (hin : vp_in i n) (hdg : decode cc pc = .ok (.aastore, 1))
    (kk : ∀ (H1 : Heap) (locs1 : List Loc), y_P D cl (va_up g a (some (.inl (cA, n, .inr (.inr (.inr (.inr (va_up f i.toNatClampNeg none)))))))) H1 → (∀ q e, va_up g a (some (.inl (cA, n, .inr (.inr (.inr (.inr (va_up f i.toNatClampNeg none))))))) q = some e → A q) → va_S A H0 H1 locs1 → W p l e R s m args below meth c H1 locs1 cells slots Q (F0 m (pc + 1) ls rest)) :
    W p l e R s m args below meth c H locs cells slots Q (F0 m pc ls (.null :: .int i :: .ref a :: rest)) := by
  have hlt : ∀ q e, g q = some e → q < H.size := fun q e h => y_lt hP h
  obtain ⟨j, hj⟩ := y_idx (hlt a _ ha) ha
  refine va_astqN hexec hb hK (y_toL hP H.size) (y_D hA H.size) hS j t0 hj ht hin hdg (fun H1 locs1 h1 _ h3 => ?_)
  refine kk H1 locs1 (y_ofSet hlt hj h1) (fun q e h => ?_) h3
  by_cases hq : q = a
  · rw [hq]; exact hA a _ ha
  · rw [va_up_ne _ _ hq] at h; exact hA q e h
/-- a store of an object of a class that the array's class takes -/
theorem y_astO (hexec : p.tables.exec = Jvm.exec) (hb : c.code = cc) (hK : va_K D cl tys s) (hP : y_P D cl g H) (hA : ∀ q e, g q = some e → A q) (hS : va_S A H0 H locs) (t0 ci : Nat) {E : String} {cA : ClassId} {r : vw_C} {n v : Nat} {vs : List Value} {f : Nat → Option Nat} (ha : g a = some (.inl (cA, n, .inr (.inr (.inr (.inr f)))))) (ht : tys[t0]? = some (cA, .object E)) (hca : va_Nw (.castable r.1 E) s) (hv : g v = some (.inr (ci, vs))) (hc : cl[ci]? = some r) {i : Int32} (hin : vp_in i n) (hdg : decode cc pc = .ok (.aastore, 1))
    (kk : ∀ (H1 : Heap) (locs1 : List Loc), y_P D cl (va_up g a (some (.inl (cA, n, .inr (.inr (.inr (.inr (va_up f i.toNatClampNeg (some v))))))))) H1 → (∀ q e, va_up g a (some (.inl (cA, n, .inr (.inr (.inr (.inr (va_up f i.toNatClampNeg (some v)))))))) q = some e → A q) → va_S A H0 H1 locs1 → W p l e R s m args below meth c H1 locs1 cells slots Q (F0 m (pc + 1) ls rest)) :
    W p l e R s m args below meth c H locs cells slots Q (F0 m pc ls (.ref v :: .int i :: .ref a :: rest)) := by
  have hlt : ∀ q e, g q = some e → q < H.size := fun q e h => y_lt hP h
  obtain ⟨j, hj⟩ := y_idx (hlt a _ ha) ha
  obtain ⟨k, hk⟩ := y_idx (hlt v _ hv) hv
  refine va_astqO hexec hb hK (y_toL hP H.size) (y_D hA H.size) hS j t0 k ci hj ht hca hk hc hin hdg (fun H1 locs1 h1 _ h3 => ?_)
  refine kk H1 locs1 (y_ofSet hlt hj h1) (fun q e h => ?_) h3
  by_cases hq : q = a
  · rw [hq]; exact hA a _ ha
  · rw [va_up_ne _ _ hq] at h; exact hA q e h
end YRows
end
section
/-! The memory as a mathematical value, to which the class and the reference are both tied. -/
section AAbs
/-- a kind: (-1, words, mask) plain; (elements, 0, 0) a row -/
abbrev Kd : Type := Option (Int32 × Int32 × Int32)
abbrev Ab : Type := (Nat → Kd) × Nat × (Nat → Nat) × (Nat → Int32) × (Nat → Nat) × Nat × Nat × (Nat → Int32 → Int64) × (Nat → Nat) × (Nat → Prop) × Nat
/-- kinds; how many objects; an object's kind, size, number; how many numbers; memory; contents; slots; kept; how many keeps -/
abbrev Ab.kd (a : Ab) : Nat → Kd := a.1
abbrev Ab.n (a : Ab) : Nat := a.2.1
abbrev Ab.ok (a : Ab) : Nat → Nat := a.2.2.1
abbrev Ab.sz (a : Ab) : Nat → Int32 := a.2.2.2.1
abbrev Ab.nu (a : Ab) : Nat → Nat := a.2.2.2.2.1
abbrev Ab.nn (a : Ab) : Nat := a.2.2.2.2.2.1
abbrev Ab.mem (a : Ab) : Nat := a.2.2.2.2.2.2.1
abbrev Ab.ct (a : Ab) : Nat → Int32 → Int64 := a.2.2.2.2.2.2.2.1
abbrev Ab.sl (a : Ab) : Nat → Nat := a.2.2.2.2.2.2.2.2.1
abbrev Ab.kp (a : Ab) : Nat → Prop := a.2.2.2.2.2.2.2.2.2.1
abbrev Ab.kc (a : Ab) : Nat := a.2.2.2.2.2.2.2.2.2.2
def a_row (a : Ab) (o : Nat) : Int32 := match a.kd (a.ok o) with
  | some q => q.1
  | none => 0
/-- how many words or elements -/
def a_len (a : Ab) (o : Nat) : Int32 := match a.kd (a.ok o) with
  | some q => if q.1 < 0 then q.2.1 else a.sz o
  | none => 0
def a_refK (q : Int32 × Int32 × Int32) (k : Int32) : Prop := if q.1 < 0 then (q.2.2 >>> (k &&& 31)) &&& 1 = 1 else q.1 = 0
def a_ref (a : Ab) (o : Nat) (k : Int32) : Prop := ∃ q, a.kd (a.ok o) = some q ∧ a_refK q k
def a_tk (r : Int32) (n : Nat) : Nat := if r < 0 then 3 + n else 4 + (if r = 4 then 2 * n else if r = 2 then (n + 1) / 2 else if r = 1 then (n + 3) / 4 else n)
def a_wd (a : Ab) (o : Nat) : Nat := a_tk (a_row a o) (a_len a o).toNatClampNeg
def a_root (a : Ab) (r : Nat) : Prop := (∃ s, s < 32 ∧ a.sl s = r ∧ r ≠ 0) ∨ a.kp r
def a_ed (a : Ab) (x b : Nat) : Prop := 1 ≤ x ∧ x ≤ a.n ∧ 1 ≤ b ∧ b ≤ a.n ∧ ∃ k : Int32, a_ref a x k ∧ a.ct x k = lN b
def a_R (a : Ab) (o : Nat) : Prop := z_R (a_root a) (a_ed a) o
/-- how many words all that can be come to takes -/
noncomputable def a_use (a : Ab) : Nat := z_sum (a_wd a) (a_R a) a.n
def a_kin (q : Int32 × Int32 × Int32) : Prop := (q.1 = -1 ∧ ∃ w m : Nat, w ≤ 16 ∧ m < 2 ^ w ∧ q.2.1 = nI w ∧ q.2.2 = nI m) ∨ (∃ r : Nat, r ≤ 4 ∧ q.1 = nI r ∧ q.2.1 = 0 ∧ q.2.2 = 0)
/-- what holds of every such value that calls have made; c: how many calls -/
def a_W (a : Ab) (c : Nat) : Prop :=
  (∀ k q, k < 16 → a.kd k = some q → a_kin q) ∧ (∀ o, 1 ≤ o → o ≤ a.n → a.ok o < 16 ∧ ∃ q, a.kd (a.ok o) = some q ∧ (¬ q.1 < 0 → ¬ a.sz o < 0)) ∧
  (∀ s, s < 32 → a.sl s ≤ a.n) ∧ (∀ o, a.kp o → 1 ≤ o ∧ o ≤ a.n) ∧ (∀ o k, 1 ≤ o → o ≤ a.n → a_ref a o k → ∃ b, b ≤ a.n ∧ a.ct o k = lN b) ∧
  (∀ o, a.n < o → a.nu o = 0 ∧ ∀ k, a.ct o k = 0) ∧ (∀ o, a.nu o ≤ a.nn) ∧ 16 ≤ a.mem ∧ a.mem ≤ 65536 ∧ a.n ≤ c ∧ a.nn ≤ c ∧ a.kc ≤ c
theorem a_R.in {a : Ab} {c o : Nat} (hw : a_W a c) (h : a_R a o) : 1 ≤ o ∧ o ≤ a.n := by
  refine h (fun o => 1 ≤ o ∧ o ≤ a.n) (fun r hr => ?_) (fun x b _ hb => ?_)
  · rcases hr with ⟨s, h1, h2, h3⟩ | hk
    · have := hw.2.2.1 s h1
      omega
    · exact hw.2.2.2.1 r hk
  · exact ⟨hb.2.2.1, hb.2.2.2.1⟩
end AAbs
end
section
/-! The class's contracts: one world g (a map), the tables' words, what is read of the statics. -/
section WFrame
/-- a method's end: what it answered, or the class of what it threw -/
def x_Is (r : Option Value ⊕ String) (o : Outcome) (t : State) : Prop := match r with
  | .inl v => o = .returned v
  | .inr E => ∃ (q : Addr) (ce : Cell), o = .threw q ∧ t.heap[q]? = some ce ∧ ce.vm = .none ∧ t.vm.findClass E = some ce.cls
/-- words of the tables that no warming takes away, but by rows of their own -/
def x_spc : List Cond := lw_tbl.filter (fun w => match w with | .declares _ | .castable _ _ | .methodLinkNest _ _ _ _ => true | _ => false)
/-- the class's String constants -/
def x_strs : List (Nat × String) := [(156, "the kind is not 0..15"), (158, "the kind is defined already"), (32, "words is not 0..16"), (37, "the mask names words that there are not"), (44, "elements is not 0..4"), (154, "the slot is not 0..31"), (63, "n is below 0"), (67, "the kind is not defined"), (175, "there is no room"), (160, "the slot holds none"), (164, "there is no such word or element"), (172, "a reference is no value, nor a value a reference"), (143, "words is not 16..65536")]
/-- classes that don't fit where a handler asks -/
def x_nos : List (String × String) := [("java/lang/IllegalArgumentException", "java/lang/IllegalStateException"), ("java/lang/IllegalArgumentException", "java/lang/IndexOutOfBoundsException"), ("java/lang/IllegalArgumentException", "java/lang/UnsupportedOperationException"), ("java/lang/IllegalStateException", "java/lang/IllegalArgumentException"), ("java/lang/IllegalStateException", "java/lang/IndexOutOfBoundsException"), ("java/lang/IllegalStateException", "java/lang/UnsupportedOperationException"), ("java/lang/IndexOutOfBoundsException", "java/lang/IllegalArgumentException"), ("java/lang/IndexOutOfBoundsException", "java/lang/IllegalStateException"), ("java/lang/IndexOutOfBoundsException", "java/lang/UnsupportedOperationException"), ("java/lang/UnsupportedOperationException", "java/lang/IllegalArgumentException"), ("java/lang/UnsupportedOperationException", "java/lang/IllegalStateException"), ("java/lang/UnsupportedOperationException", "java/lang/IndexOutOfBoundsException")]
/-- what every method may lean on of the tables -/
def w_V (D : va_G) (tys : List (ClassId × FieldType)) (U : State) : Prop :=
  (∀ w ∈ x_tbl, w.before #[] U = true) ∧ va_K D vwCl tys U ∧ (∀ w ∈ x_spc, va_Nw w U) ∧ (∀ q ∈ x_strs, ∃ sa : Nat, vk_R R_De q.1 q.2 sa U) ∧ (∀ q ∈ x_nos, va_Nc q.1 q.2 U) ∧ va_AO "MemoryDesk$Kind" U ∧ va_AO "MemoryDesk$Item" U
theorem w_V.hts {D : va_G} {tys : List (ClassId × FieldType)} {U : State} (h : w_V D tys U) (args : Array Value) : ∀ w ∈ x_tbl, w.before args U = true :=
  fun w hw => word_at (State.WarmedH.refl U) (tbl_good w hw) (h.1 w hw)
theorem w_V.to {D : va_G} {tys : List (ClassId × FieldType)} {s U : State} (h : w_V D tys s) (hW : s.WarmedH U.vm) : w_V D tys U := by
  obtain ⟨h1, h2, h3, h4, h5, h6, h7⟩ := h
  refine ⟨fun w hw => word_at hW (tbl_good w hw) (h1 w hw), va_K.moved hW.alike h2, fun w hw => ?_, fun q hq => ?_, fun q hq => va_Nc.moved hW.alike (h5 q hq), va_AO.moved hW.alike h6, va_AO.moved hW.alike h7⟩
  · have hm := (List.mem_filter.mp hw).2
    have h0 := h3 w hw
    cases w with
    | declares x => exact va_Nw.warmD hW h0
    | castable a b => exact va_Nw.warmC hW h0
    | methodLinkNest a i x b => exact va_Nw.warmM hW h0
    | _ => cases hm
  · obtain ⟨sa, hq⟩ := h4 q hq
    exact ⟨sa, vk_R.warm hW hq⟩
/-- .. and of the statics, which lie outside A -/
def w_E (D : va_G) (tys : List (ClassId × FieldType)) (A : Nat → Prop) (U : State) (H : Heap) : Prop :=
  w_V D tys U ∧ x_St Bundle.tN "UNASSIGNED_STACK" Bundle.steD A U H ∧ x_St Bundle.tN "SUPPRESSED_SENTINEL" Bundle.listD A U H ∧
    ∃ t : Nat, va_Z R_De "ELEMENT_BITS" "[I" (.ref t) A U H ∧ va_T .int t 5 (fun j => .int ([32, 8, 16, 32, 64].getD j 0)) A U H
theorem w_E.hts {D : va_G} {tys : List (ClassId × FieldType)} {A : Nat → Prop} {U : State} {H : Heap} (h : w_E D tys A U H) (args : Array Value) : ∀ w ∈ x_tbl, w.before args U = true := h.1.hts args
theorem w_E.to {D : va_G} {tys : List (ClassId × FieldType)} {A B : Nat → Prop} {s U : State} {H0 H : Heap} {locs : List Loc} (h : w_E D tys A s H0) (hS : va_S A H0 H locs) (hB : ∀ q, B q → A q) (hW : s.WarmedH U.vm) : w_E D tys B U H := by
  obtain ⟨h1, h2, h3, t, h5, h6⟩ := h
  exact ⟨h1.to hW, h2.to hW.alike hS.2.1 hB, h3.to hW.alike hS.2.1 hB, t, ((h5.kept hS.2.1).narrow hB).moved hW.alike, ((h6.kept hS.2.1).narrow hB).moved hW.alike⟩
def w_Pc (D : va_G) (tys : List (ClassId × FieldType)) (av : List Value) (g : y_G) (sz : Nat) : Array Value → State → Prop := va_Pc av (fun U => U.heap.size = sz ∧ y_P D vwCl g U.heap ∧ w_E D tys (y_A g sz) U U.heap)
def w_Qc (D : va_G) (g : y_G) (sz : Nat) (post : Option Value ⊕ String → y_G → Prop) : Array Value → State → Outcome → State → Prop := fun _ st o t =>
  (∃ (r : Option Value ⊕ String) (g' : y_G), x_Is r o t ∧ post r g' ∧ y_P D vwCl g' t.heap ∧ ∀ q e, g' q = some e → y_A g sz q) ∧ va_F (y_A g sz) st t
theorem w_blind {D : va_G} {tys : List (ClassId × FieldType)} {av : List Value} {g : y_G} {sz : Nat} : FrameBlind (w_Pc D tys av g sz) := by
  intro a U gj mk h
  obtain ⟨h0, h1, h2, h3⟩ := h
  refine ⟨h0, h1, h2, ?_⟩
  have hW : U.WarmedH (U.calling gj mk a).vm := State.WarmedH.refl U
  exact h3.to (H := (U.calling gj mk a).heap) (locs := []) va_S.rf (fun _ h => h) hW
theorem y_AA {A : Nat → Prop} {g : y_G} {H0 H : Heap} {locs : List Loc} (hA : ∀ q e, g q = some e → A q) (hA0 : ∀ q, H0.size ≤ q → A q) (hS : va_S A H0 H locs) : ∀ q, y_A g H.size q → A q := fun q h => by
  rcases h with h | h
  · cases hg : g q with
    | none => exact absurd hg h
    | some e => exact hA q e hg
  · exact hA0 q (Nat.le_trans hS.1 h)
variable {p : Program} {l : Launch} {e : Env} {R : Room} {s : State} {m : MethodId} {args : Array Value} {below : List Frame} {meth : Method} {c : Code} {H : Heap} {locs : List Loc} {cells slots : Nat} {Q : State → Prop}
variable {y : MethodName} {ws : List Cond} {rm : Room} {mc ms maxL index n nL pc : Nat} {own : String} {cc : ByteArray} {ls : Array Slot} {As rest st0 : List Value} {A : Nat → Prop} {D : va_G} {tys : List (ClassId × FieldType)} {g : y_G} {post : Option Value ⊕ String → y_G → Prop}
theorem w_callS (S : CallFix p m c cc nL s args x_tbl own) (hM : x_M l y ws rm (w_Pc D tys As g H.size) (w_Qc D g H.size post) mc ms (y_A g H.size)) (cb : x_CB R s args own index y maxL ws rm mc ms n) (hst : (Cond.static y).before args s = true)
    (hE : w_E D tys A s s.heap) (hP : y_P D vwCl g H) (hA : ∀ q e, g q = some e → A q) (hA0 : ∀ q, s.heap.size ≤ q → A q) (hS : va_S A s.heap H locs)
    (hn : As.length = n) (hsize : ls.size = nL) (hstack : st0 = As.reverse ++ rest) (hW : 2 * (F0 m pc ls rest).monitorRoom + (rest.map fun v => v.category).sum ≤ 8) (hdg : decode cc pc = .ok (.invokestatic index, 3)) (hc : cells + mc ≤ R.cells) (hs : slots + ms ≤ R.slots)
    (kr : ∀ (v : Option Value) (g' : y_G) (H1 : Heap) (locs1 : List Loc), post (.inl v) g' → y_P D vwCl g' H1 → (∀ q e, g' q = some e → A q) → va_S A s.heap H1 locs1 → W p l e R s m args below meth c H1 locs1 (cells + mc) (slots + ms) Q (F0 m (pc + 3) ls (v.toList ++ rest)))
    (kt : ∀ (E : String) (q : Addr) (ce : Cell) (g' : y_G) (H1 : Heap) (locs1 : List Loc), post (.inr E) g' → y_P D vwCl g' H1 → (∀ q e, g' q = some e → A q) → va_S A s.heap H1 locs1 → H1[q]? = some ce → ce.vm = .none → s.vm.findClass E = some ce.cls → x_W p l e R s m args below meth c H1 locs1 (cells + mc) (slots + ms) Q (F0 m pc ls rest) q) :
    W p l e R s m args below meth c H locs cells slots Q (F0 m pc ls st0) := by
  have hAA := y_AA hA hA0 hS
  refine x_callS (A1 := y_A g H.size) S hM cb hst ⟨w_blind, fun U hU hWm => ⟨rfl, by rw [hU], by rw [hU]; exact hP, by rw [hU]; exact hE.to hS hAA hWm⟩⟩ hn hsize hstack hW hdg hc hs hS (fun q _ h => hAA q h) hAA (fun _ _ _ h => h.2) ?_ ?_
  · intro v st t H1 locs1 _ ht hal hq _ _ hS1
    obtain ⟨⟨r, g', h1, h2, h3, h4⟩, -⟩ := hq
    cases r with
    | inl v' => cases h1; exact kr v g' H1 locs1 h2 (by rw [← ht]; exact h3) (fun q e h => hAA q (h4 q e h)) hS1
    | inr E => obtain ⟨q, ce, z, -⟩ := h1; cases z
  · intro q st t H1 locs1 _ ht hal hq _ _ hS1
    obtain ⟨⟨r, g', h1, h2, h3, h4⟩, -⟩ := hq
    cases r with
    | inl v' => cases h1
    | inr E =>
      obtain ⟨q', ce, z, z1, z2, z3⟩ := h1
      cases z
      exact kt E q ce g' H1 locs1 h2 (by rw [← ht]; exact h3) (fun q e h => hAA q (h4 q e h)) hS1 (by rw [← ht]; exact z1) z2 (by rw [← hal.findClass]; exact z3)
theorem w_callV {C : String} {b : Addr} (S : CallFix p m c cc nL s args x_tbl own) (hM : x_M l y ws rm (w_Pc D tys (.ref b :: As) g H.size) (w_Qc D g H.size post) mc ms (y_A g H.size)) (cb : x_CB R s args own index y maxL ws rm mc ms n) (hin : (Cond.instanceMethod y).before args s = true) (hse : (Cond.selects C y y).before args s = true)
    (hrec : ∃ cellB : Cell, H[b]? = some cellB ∧ cellB.vm.isStatics = false ∧ s.vm.findClass C = some cellB.cls)
    (hE : w_E D tys A s s.heap) (hP : y_P D vwCl g H) (hA : ∀ q e, g q = some e → A q) (hA0 : ∀ q, s.heap.size ≤ q → A q) (hS : va_S A s.heap H locs)
    (hn : As.length = n) (hsize : ls.size = nL) (hstack : st0 = As.reverse ++ .ref b :: rest) (hW : 2 * (F0 m pc ls rest).monitorRoom + (rest.map fun v => v.category).sum ≤ 8) (hdg : decode cc pc = .ok (.invokevirtual index, 3)) (hc : cells + mc ≤ R.cells) (hs : slots + ms ≤ R.slots)
    (kr : ∀ (v : Option Value) (g' : y_G) (H1 : Heap) (locs1 : List Loc), post (.inl v) g' → y_P D vwCl g' H1 → (∀ q e, g' q = some e → A q) → va_S A s.heap H1 locs1 → W p l e R s m args below meth c H1 locs1 (cells + mc) (slots + ms) Q (F0 m (pc + 3) ls (v.toList ++ rest)))
    (kt : ∀ (E : String) (q : Addr) (ce : Cell) (g' : y_G) (H1 : Heap) (locs1 : List Loc), post (.inr E) g' → y_P D vwCl g' H1 → (∀ q e, g' q = some e → A q) → va_S A s.heap H1 locs1 → H1[q]? = some ce → ce.vm = .none → s.vm.findClass E = some ce.cls → x_W p l e R s m args below meth c H1 locs1 (cells + mc) (slots + ms) Q (F0 m pc ls rest) q) :
    W p l e R s m args below meth c H locs cells slots Q (F0 m pc ls st0) := by
  have hAA := y_AA hA hA0 hS
  refine x_callV (A1 := y_A g H.size) (C := C) (b := b) S hM cb hin hse ⟨w_blind, hrec, fun U hU hWm => ⟨rfl, by rw [hU], by rw [hU]; exact hP, by rw [hU]; exact hE.to hS hAA hWm⟩⟩ hn hsize hstack hW hdg hc hs hS (fun q _ h => hAA q h) hAA (fun _ _ _ h => h.2) ?_ ?_
  · intro v st t H1 locs1 _ ht hal hq _ _ hS1
    obtain ⟨⟨r, g', h1, h2, h3, h4⟩, -⟩ := hq
    cases r with
    | inl v' => cases h1; exact kr v g' H1 locs1 h2 (by rw [← ht]; exact h3) (fun q e h => hAA q (h4 q e h)) hS1
    | inr E => obtain ⟨q, ce, z, -⟩ := h1; cases z
  · intro q st t H1 locs1 _ ht hal hq _ _ hS1
    obtain ⟨⟨r, g', h1, h2, h3, h4⟩, -⟩ := hq
    cases r with
    | inl v' => cases h1
    | inr E =>
      obtain ⟨q', ce, z, z1, z2, z3⟩ := h1
      cases z
      exact kt E q ce g' H1 locs1 h2 (by rw [← ht]; exact h3) (fun q e h => hAA q (h4 q e h)) hS1 (by rw [← ht]; exact z1) z2 (by rw [← hal.findClass]; exact z3)
/-- the end of a walk: a return, the world as it stands -/
theorem w_fin {A : Nat → Prop} {r : Option Value} {g g' : y_G} {sz : Nat} (hsz : sz = s.heap.size) (hAe : y_A g sz = A) (hpost : post (.inl r) g') (hP : y_P D vwCl g' H) (hA : ∀ q e, g' q = some e → A q) (hS : va_S A s.heap H locs) :
    ∀ t : State, t.heap = H → s.WarmedH t.vm → w_Qc D g sz post args s (.returned r) t := fun t ht _ => by
  subst hAe
  exact ⟨⟨.inl r, g', rfl, hpost, by rw [ht]; exact hP, hA⟩, hS.F ht⟩
end WFrame
end
section
/-! decode rows, laid by program -/
theorem d_De_init_0 : decode b_De_init 0 = .ok (.aload_n 0, 1) := by decide +kernel
theorem d_De_init_1 : decode b_De_init 1 = .ok (.invokespecial 1, 3) := by decide +kernel
theorem d_De_init_4 : decode b_De_init 4 = .ok (.aload_n 0, 1) := by decide +kernel
theorem d_De_init_5 : decode b_De_init 5 = .ok (.bipush 16, 2) := by decide +kernel
theorem d_De_init_7 : decode b_De_init 7 = .ok (.anewarray 9, 3) := by decide +kernel
theorem d_De_init_10 : decode b_De_init 10 = .ok (.putfield 11, 3) := by decide +kernel
theorem d_De_init_13 : decode b_De_init 13 = .ok (.aload_n 0, 1) := by decide +kernel
theorem d_De_init_14 : decode b_De_init 14 = .ok (.bipush 32, 2) := by decide +kernel
theorem d_De_init_16 : decode b_De_init 16 = .ok (.anewarray 15, 3) := by decide +kernel
theorem d_De_init_19 : decode b_De_init 19 = .ok (.putfield 17, 3) := by decide +kernel
theorem d_De_init_22 : decode b_De_init 22 = .ok (.aload_n 0, 1) := by decide +kernel
theorem d_De_init_23 : decode b_De_init 23 = .ok (.ldc 21, 2) := by decide +kernel
theorem d_De_init_25 : decode b_De_init 25 = .ok (.putfield 22, 3) := by decide +kernel
theorem d_De_init_28 : decode b_De_init 28 = .ok (.return_, 1) := by decide +kernel
theorem d_De_collect_0 : decode b_De_collect 0 = .ok (.aload_n 0, 1) := by decide +kernel
theorem d_De_collect_1 : decode b_De_collect 1 = .ok (.invokevirtual 148, 3) := by decide +kernel
theorem d_De_collect_4 : decode b_De_collect 4 = .ok (.aload_n 0, 1) := by decide +kernel
theorem d_De_collect_5 : decode b_De_collect 5 = .ok (.getfield 145, 3) := by decide +kernel
theorem d_De_collect_8 : decode b_De_collect 8 = .ok (.ireturn, 1) := by decide +kernel
theorem d_De_clearAway_0 : decode b_De_clearAway 0 = .ok (.aload_n 0, 1) := by decide +kernel
theorem d_De_clearAway_1 : decode b_De_clearAway 1 = .ok (.dup, 1) := by decide +kernel
theorem d_De_clearAway_2 : decode b_De_clearAway 2 = .ok (.getfield 177, 3) := by decide +kernel
theorem d_De_clearAway_5 : decode b_De_clearAway 5 = .ok (.iconst 1, 1) := by decide +kernel
theorem d_De_clearAway_6 : decode b_De_clearAway 6 = .ok (.iadd, 1) := by decide +kernel
theorem d_De_clearAway_7 : decode b_De_clearAway 7 = .ok (.putfield 177, 3) := by decide +kernel
theorem d_De_clearAway_10 : decode b_De_clearAway 10 = .ok (.iconst 0, 1) := by decide +kernel
theorem d_De_clearAway_11 : decode b_De_clearAway 11 = .ok (.istore_n 1, 1) := by decide +kernel
theorem d_De_clearAway_12 : decode b_De_clearAway 12 = .ok (.iload_n 1, 1) := by decide +kernel
theorem d_De_clearAway_13 : decode b_De_clearAway 13 = .ok (.bipush 32, 2) := by decide +kernel
theorem d_De_clearAway_15 : decode b_De_clearAway 15 = .ok (.if_icmp .ge 19, 3) := by decide +kernel
theorem d_De_clearAway_18 : decode b_De_clearAway 18 = .ok (.aload_n 0, 1) := by decide +kernel
theorem d_De_clearAway_19 : decode b_De_clearAway 19 = .ok (.aload_n 0, 1) := by decide +kernel
theorem d_De_clearAway_20 : decode b_De_clearAway 20 = .ok (.getfield 17, 3) := by decide +kernel
theorem d_De_clearAway_23 : decode b_De_clearAway 23 = .ok (.iload_n 1, 1) := by decide +kernel
theorem d_De_clearAway_24 : decode b_De_clearAway 24 = .ok (.aaload, 1) := by decide +kernel
theorem d_De_clearAway_25 : decode b_De_clearAway 25 = .ok (.invokevirtual 180, 3) := by decide +kernel
theorem d_De_clearAway_28 : decode b_De_clearAway 28 = .ok (.iinc 1 1, 3) := by decide +kernel
theorem d_De_clearAway_31 : decode b_De_clearAway 31 = .ok (.goto (-19), 3) := by decide +kernel
theorem d_De_clearAway_34 : decode b_De_clearAway 34 = .ok (.aload_n 0, 1) := by decide +kernel
theorem d_De_clearAway_35 : decode b_De_clearAway 35 = .ok (.getfield 125, 3) := by decide +kernel
theorem d_De_clearAway_38 : decode b_De_clearAway 38 = .ok (.astore_n 1, 1) := by decide +kernel
theorem d_De_clearAway_39 : decode b_De_clearAway 39 = .ok (.aload_n 1, 1) := by decide +kernel
theorem d_De_clearAway_40 : decode b_De_clearAway 40 = .ok (.ifnull 16, 3) := by decide +kernel
theorem d_De_clearAway_43 : decode b_De_clearAway 43 = .ok (.aload_n 0, 1) := by decide +kernel
theorem d_De_clearAway_44 : decode b_De_clearAway 44 = .ok (.aload_n 1, 1) := by decide +kernel
theorem d_De_clearAway_45 : decode b_De_clearAway 45 = .ok (.invokevirtual 180, 3) := by decide +kernel
theorem d_De_clearAway_48 : decode b_De_clearAway 48 = .ok (.aload_n 1, 1) := by decide +kernel
theorem d_De_clearAway_49 : decode b_De_clearAway 49 = .ok (.getfield 128, 3) := by decide +kernel
theorem d_De_clearAway_52 : decode b_De_clearAway 52 = .ok (.astore_n 1, 1) := by decide +kernel
theorem d_De_clearAway_53 : decode b_De_clearAway 53 = .ok (.goto (-14), 3) := by decide +kernel
theorem d_De_clearAway_56 : decode b_De_clearAway 56 = .ok (.aload_n 0, 1) := by decide +kernel
theorem d_De_clearAway_57 : decode b_De_clearAway 57 = .ok (.iconst 0, 1) := by decide +kernel
theorem d_De_clearAway_58 : decode b_De_clearAway 58 = .ok (.putfield 145, 3) := by decide +kernel
theorem d_De_clearAway_61 : decode b_De_clearAway 61 = .ok (.iconst 0, 1) := by decide +kernel
theorem d_De_clearAway_62 : decode b_De_clearAway 62 = .ok (.istore_n 1, 1) := by decide +kernel
theorem d_De_clearAway_63 : decode b_De_clearAway 63 = .ok (.iload_n 1, 1) := by decide +kernel
theorem d_De_clearAway_64 : decode b_De_clearAway 64 = .ok (.aload_n 0, 1) := by decide +kernel
theorem d_De_clearAway_65 : decode b_De_clearAway 65 = .ok (.getfield 85, 3) := by decide +kernel
theorem d_De_clearAway_68 : decode b_De_clearAway 68 = .ok (.if_icmp .ge 72, 3) := by decide +kernel
theorem d_De_clearAway_71 : decode b_De_clearAway 71 = .ok (.aload_n 0, 1) := by decide +kernel
theorem d_De_clearAway_72 : decode b_De_clearAway 72 = .ok (.getfield 184, 3) := by decide +kernel
theorem d_De_clearAway_75 : decode b_De_clearAway 75 = .ok (.ifnull 65, 3) := by decide +kernel
theorem d_De_clearAway_78 : decode b_De_clearAway 78 = .ok (.aload_n 0, 1) := by decide +kernel
theorem d_De_clearAway_79 : decode b_De_clearAway 79 = .ok (.getfield 184, 3) := by decide +kernel
theorem d_De_clearAway_82 : decode b_De_clearAway 82 = .ok (.astore_n 2, 1) := by decide +kernel
theorem d_De_clearAway_83 : decode b_De_clearAway 83 = .ok (.aload_n 0, 1) := by decide +kernel
theorem d_De_clearAway_84 : decode b_De_clearAway 84 = .ok (.aload_n 2, 1) := by decide +kernel
theorem d_De_clearAway_85 : decode b_De_clearAway 85 = .ok (.getfield 187, 3) := by decide +kernel
theorem d_De_clearAway_88 : decode b_De_clearAway 88 = .ok (.putfield 184, 3) := by decide +kernel
theorem d_De_clearAway_91 : decode b_De_clearAway 91 = .ok (.aload_n 2, 1) := by decide +kernel
theorem d_De_clearAway_92 : decode b_De_clearAway 92 = .ok (.aconst_null, 1) := by decide +kernel
theorem d_De_clearAway_93 : decode b_De_clearAway 93 = .ok (.putfield 187, 3) := by decide +kernel
theorem d_De_clearAway_96 : decode b_De_clearAway 96 = .ok (.aload_n 0, 1) := by decide +kernel
theorem d_De_clearAway_97 : decode b_De_clearAway 97 = .ok (.dup, 1) := by decide +kernel
theorem d_De_clearAway_98 : decode b_De_clearAway 98 = .ok (.getfield 145, 3) := by decide +kernel
theorem d_De_clearAway_101 : decode b_De_clearAway 101 = .ok (.aload_n 2, 1) := by decide +kernel
theorem d_De_clearAway_102 : decode b_De_clearAway 102 = .ok (.getfield 190, 3) := by decide +kernel
theorem d_De_clearAway_105 : decode b_De_clearAway 105 = .ok (.iadd, 1) := by decide +kernel
theorem d_De_clearAway_106 : decode b_De_clearAway 106 = .ok (.putfield 145, 3) := by decide +kernel
theorem d_De_clearAway_109 : decode b_De_clearAway 109 = .ok (.aload_n 2, 1) := by decide +kernel
theorem d_De_clearAway_110 : decode b_De_clearAway 110 = .ok (.getfield 193, 3) := by decide +kernel
theorem d_De_clearAway_113 : decode b_De_clearAway 113 = .ok (.astore_n 3, 1) := by decide +kernel
theorem d_De_clearAway_114 : decode b_De_clearAway 114 = .ok (.aload_n 3, 1) := by decide +kernel
theorem d_De_clearAway_115 : decode b_De_clearAway 115 = .ok (.ifnull 19, 3) := by decide +kernel
theorem d_De_clearAway_118 : decode b_De_clearAway 118 = .ok (.aload_n 0, 1) := by decide +kernel
theorem d_De_clearAway_119 : decode b_De_clearAway 119 = .ok (.aload_n 3, 1) := by decide +kernel
theorem d_De_clearAway_120 : decode b_De_clearAway 120 = .ok (.getfield 113, 3) := by decide +kernel
theorem d_De_clearAway_123 : decode b_De_clearAway 123 = .ok (.invokevirtual 180, 3) := by decide +kernel
theorem d_De_clearAway_126 : decode b_De_clearAway 126 = .ok (.aload_n 3, 1) := by decide +kernel
theorem d_De_clearAway_127 : decode b_De_clearAway 127 = .ok (.getfield 197, 3) := by decide +kernel
theorem d_De_clearAway_130 : decode b_De_clearAway 130 = .ok (.astore_n 3, 1) := by decide +kernel
theorem d_De_clearAway_131 : decode b_De_clearAway 131 = .ok (.goto (-17), 3) := by decide +kernel
theorem d_De_clearAway_134 : decode b_De_clearAway 134 = .ok (.iinc 1 1, 3) := by decide +kernel
theorem d_De_clearAway_137 : decode b_De_clearAway 137 = .ok (.goto (-74), 3) := by decide +kernel
theorem d_De_clearAway_140 : decode b_De_clearAway 140 = .ok (.return_, 1) := by decide +kernel
theorem d_De_comeTo_0 : decode b_De_comeTo 0 = .ok (.aload_n 1, 1) := by decide +kernel
theorem d_De_comeTo_1 : decode b_De_comeTo 1 = .ok (.ifnull 35, 3) := by decide +kernel
theorem d_De_comeTo_4 : decode b_De_comeTo 4 = .ok (.aload_n 1, 1) := by decide +kernel
theorem d_De_comeTo_5 : decode b_De_comeTo 5 = .ok (.getfield 200, 3) := by decide +kernel
theorem d_De_comeTo_8 : decode b_De_comeTo 8 = .ok (.aload_n 0, 1) := by decide +kernel
theorem d_De_comeTo_9 : decode b_De_comeTo 9 = .ok (.getfield 177, 3) := by decide +kernel
theorem d_De_comeTo_12 : decode b_De_comeTo 12 = .ok (.if_icmp .eq 24, 3) := by decide +kernel
theorem d_De_comeTo_15 : decode b_De_comeTo 15 = .ok (.aload_n 1, 1) := by decide +kernel
theorem d_De_comeTo_16 : decode b_De_comeTo 16 = .ok (.aload_n 0, 1) := by decide +kernel
theorem d_De_comeTo_17 : decode b_De_comeTo 17 = .ok (.getfield 177, 3) := by decide +kernel
theorem d_De_comeTo_20 : decode b_De_comeTo 20 = .ok (.putfield 200, 3) := by decide +kernel
theorem d_De_comeTo_23 : decode b_De_comeTo 23 = .ok (.aload_n 1, 1) := by decide +kernel
theorem d_De_comeTo_24 : decode b_De_comeTo 24 = .ok (.aload_n 0, 1) := by decide +kernel
theorem d_De_comeTo_25 : decode b_De_comeTo 25 = .ok (.getfield 184, 3) := by decide +kernel
theorem d_De_comeTo_28 : decode b_De_comeTo 28 = .ok (.putfield 187, 3) := by decide +kernel
theorem d_De_comeTo_31 : decode b_De_comeTo 31 = .ok (.aload_n 0, 1) := by decide +kernel
theorem d_De_comeTo_32 : decode b_De_comeTo 32 = .ok (.aload_n 1, 1) := by decide +kernel
theorem d_De_comeTo_33 : decode b_De_comeTo 33 = .ok (.putfield 184, 3) := by decide +kernel
theorem d_De_comeTo_36 : decode b_De_comeTo 36 = .ok (.return_, 1) := by decide +kernel
theorem d_De_plain_0 : decode b_De_plain 0 = .ok (.aload_n 0, 1) := by decide +kernel
theorem d_De_plain_1 : decode b_De_plain 1 = .ok (.iload_n 1, 1) := by decide +kernel
theorem d_De_plain_2 : decode b_De_plain 2 = .ok (.invokevirtual 26, 3) := by decide +kernel
theorem d_De_plain_5 : decode b_De_plain 5 = .ok (.iload_n 2, 1) := by decide +kernel
theorem d_De_plain_6 : decode b_De_plain 6 = .ok (.ifCond .lt 9, 3) := by decide +kernel
theorem d_De_plain_9 : decode b_De_plain 9 = .ok (.iload_n 2, 1) := by decide +kernel
theorem d_De_plain_10 : decode b_De_plain 10 = .ok (.bipush 16, 2) := by decide +kernel
theorem d_De_plain_12 : decode b_De_plain 12 = .ok (.if_icmp .le 13, 3) := by decide +kernel
theorem d_De_plain_15 : decode b_De_plain 15 = .ok (.new 30, 3) := by decide +kernel
theorem d_De_plain_18 : decode b_De_plain 18 = .ok (.dup, 1) := by decide +kernel
theorem d_De_plain_19 : decode b_De_plain 19 = .ok (.ldc 32, 2) := by decide +kernel
theorem d_De_plain_21 : decode b_De_plain 21 = .ok (.invokespecial 34, 3) := by decide +kernel
theorem d_De_plain_24 : decode b_De_plain 24 = .ok (.athrow, 1) := by decide +kernel
theorem d_De_plain_25 : decode b_De_plain 25 = .ok (.iload_n 3, 1) := by decide +kernel
theorem d_De_plain_26 : decode b_De_plain 26 = .ok (.iload_n 2, 1) := by decide +kernel
theorem d_De_plain_27 : decode b_De_plain 27 = .ok (.iushr, 1) := by decide +kernel
theorem d_De_plain_28 : decode b_De_plain 28 = .ok (.ifCond .eq 13, 3) := by decide +kernel
theorem d_De_plain_31 : decode b_De_plain 31 = .ok (.new 30, 3) := by decide +kernel
theorem d_De_plain_34 : decode b_De_plain 34 = .ok (.dup, 1) := by decide +kernel
theorem d_De_plain_35 : decode b_De_plain 35 = .ok (.ldc 37, 2) := by decide +kernel
theorem d_De_plain_37 : decode b_De_plain 37 = .ok (.invokespecial 34, 3) := by decide +kernel
theorem d_De_plain_40 : decode b_De_plain 40 = .ok (.athrow, 1) := by decide +kernel
theorem d_De_plain_41 : decode b_De_plain 41 = .ok (.aload_n 0, 1) := by decide +kernel
theorem d_De_plain_42 : decode b_De_plain 42 = .ok (.getfield 11, 3) := by decide +kernel
theorem d_De_plain_45 : decode b_De_plain 45 = .ok (.iload_n 1, 1) := by decide +kernel
theorem d_De_plain_46 : decode b_De_plain 46 = .ok (.new 39, 3) := by decide +kernel
theorem d_De_plain_49 : decode b_De_plain 49 = .ok (.dup, 1) := by decide +kernel
theorem d_De_plain_50 : decode b_De_plain 50 = .ok (.iload_n 2, 1) := by decide +kernel
theorem d_De_plain_51 : decode b_De_plain 51 = .ok (.iload_n 3, 1) := by decide +kernel
theorem d_De_plain_52 : decode b_De_plain 52 = .ok (.invokespecial 41, 3) := by decide +kernel
theorem d_De_plain_55 : decode b_De_plain 55 = .ok (.aastore, 1) := by decide +kernel
theorem d_De_plain_56 : decode b_De_plain 56 = .ok (.return_, 1) := by decide +kernel
theorem d_De_checkUndefined_0 : decode b_De_checkUndefined 0 = .ok (.iload_n 1, 1) := by decide +kernel
theorem d_De_checkUndefined_1 : decode b_De_checkUndefined 1 = .ok (.invokestatic 56, 3) := by decide +kernel
theorem d_De_checkUndefined_4 : decode b_De_checkUndefined 4 = .ok (.aload_n 0, 1) := by decide +kernel
theorem d_De_checkUndefined_5 : decode b_De_checkUndefined 5 = .ok (.getfield 11, 3) := by decide +kernel
theorem d_De_checkUndefined_8 : decode b_De_checkUndefined 8 = .ok (.iload_n 1, 1) := by decide +kernel
theorem d_De_checkUndefined_9 : decode b_De_checkUndefined 9 = .ok (.aaload, 1) := by decide +kernel
theorem d_De_checkUndefined_10 : decode b_De_checkUndefined 10 = .ok (.ifnull 13, 3) := by decide +kernel
theorem d_De_checkUndefined_13 : decode b_De_checkUndefined 13 = .ok (.new 30, 3) := by decide +kernel
theorem d_De_checkUndefined_16 : decode b_De_checkUndefined 16 = .ok (.dup, 1) := by decide +kernel
theorem d_De_checkUndefined_17 : decode b_De_checkUndefined 17 = .ok (.ldc 158, 2) := by decide +kernel
theorem d_De_checkUndefined_19 : decode b_De_checkUndefined 19 = .ok (.invokespecial 34, 3) := by decide +kernel
theorem d_De_checkUndefined_22 : decode b_De_checkUndefined 22 = .ok (.athrow, 1) := by decide +kernel
theorem d_De_checkUndefined_23 : decode b_De_checkUndefined 23 = .ok (.return_, 1) := by decide +kernel
theorem d_De_checkKind_0 : decode b_De_checkKind 0 = .ok (.iload_n 0, 1) := by decide +kernel
theorem d_De_checkKind_1 : decode b_De_checkKind 1 = .ok (.ifCond .lt 9, 3) := by decide +kernel
theorem d_De_checkKind_4 : decode b_De_checkKind 4 = .ok (.iload_n 0, 1) := by decide +kernel
theorem d_De_checkKind_5 : decode b_De_checkKind 5 = .ok (.bipush 16, 2) := by decide +kernel
theorem d_De_checkKind_7 : decode b_De_checkKind 7 = .ok (.if_icmp .lt 13, 3) := by decide +kernel
theorem d_De_checkKind_10 : decode b_De_checkKind 10 = .ok (.new 30, 3) := by decide +kernel
theorem d_De_checkKind_13 : decode b_De_checkKind 13 = .ok (.dup, 1) := by decide +kernel
theorem d_De_checkKind_14 : decode b_De_checkKind 14 = .ok (.ldc 156, 2) := by decide +kernel
theorem d_De_checkKind_16 : decode b_De_checkKind 16 = .ok (.invokespecial 34, 3) := by decide +kernel
theorem d_De_checkKind_19 : decode b_De_checkKind 19 = .ok (.athrow, 1) := by decide +kernel
theorem d_De_checkKind_20 : decode b_De_checkKind 20 = .ok (.return_, 1) := by decide +kernel
theorem d_Pk_init_0 : decode b_Pk_init 0 = .ok (.aload_n 0, 1) := by decide +kernel
theorem d_Pk_init_1 : decode b_Pk_init 1 = .ok (.invokespecial 3, 3) := by decide +kernel
theorem d_Pk_init_4 : decode b_Pk_init 4 = .ok (.aload_n 0, 1) := by decide +kernel
theorem d_Pk_init_5 : decode b_Pk_init 5 = .ok (.iload_n 1, 1) := by decide +kernel
theorem d_Pk_init_6 : decode b_Pk_init 6 = .ok (.putfield 9, 3) := by decide +kernel
theorem d_Pk_init_9 : decode b_Pk_init 9 = .ok (.aload_n 0, 1) := by decide +kernel
theorem d_Pk_init_10 : decode b_Pk_init 10 = .ok (.iload_n 2, 1) := by decide +kernel
theorem d_Pk_init_11 : decode b_Pk_init 11 = .ok (.putfield 15, 3) := by decide +kernel
theorem d_Pk_init_14 : decode b_Pk_init 14 = .ok (.return_, 1) := by decide +kernel
theorem d_Ki_init_0 : decode b_Ki_init 0 = .ok (.aload_n 0, 1) := by decide +kernel
theorem d_Ki_init_1 : decode b_Ki_init 1 = .ok (.invokespecial 1, 3) := by decide +kernel
theorem d_Ki_init_4 : decode b_Ki_init 4 = .ok (.return_, 1) := by decide +kernel
theorem d_De_row_0 : decode b_De_row 0 = .ok (.aload_n 0, 1) := by decide +kernel
theorem d_De_row_1 : decode b_De_row 1 = .ok (.iload_n 1, 1) := by decide +kernel
theorem d_De_row_2 : decode b_De_row 2 = .ok (.invokevirtual 26, 3) := by decide +kernel
theorem d_De_row_5 : decode b_De_row 5 = .ok (.iload_n 2, 1) := by decide +kernel
theorem d_De_row_6 : decode b_De_row 6 = .ok (.ifCond .lt 8, 3) := by decide +kernel
theorem d_De_row_9 : decode b_De_row 9 = .ok (.iload_n 2, 1) := by decide +kernel
theorem d_De_row_10 : decode b_De_row 10 = .ok (.iconst 4, 1) := by decide +kernel
theorem d_De_row_11 : decode b_De_row 11 = .ok (.if_icmp .le 13, 3) := by decide +kernel
theorem d_De_row_14 : decode b_De_row 14 = .ok (.new 30, 3) := by decide +kernel
theorem d_De_row_17 : decode b_De_row 17 = .ok (.dup, 1) := by decide +kernel
theorem d_De_row_18 : decode b_De_row 18 = .ok (.ldc 44, 2) := by decide +kernel
theorem d_De_row_20 : decode b_De_row 20 = .ok (.invokespecial 34, 3) := by decide +kernel
theorem d_De_row_23 : decode b_De_row 23 = .ok (.athrow, 1) := by decide +kernel
theorem d_De_row_24 : decode b_De_row 24 = .ok (.aload_n 0, 1) := by decide +kernel
theorem d_De_row_25 : decode b_De_row 25 = .ok (.getfield 11, 3) := by decide +kernel
theorem d_De_row_28 : decode b_De_row 28 = .ok (.iload_n 1, 1) := by decide +kernel
theorem d_De_row_29 : decode b_De_row 29 = .ok (.new 46, 3) := by decide +kernel
theorem d_De_row_32 : decode b_De_row 32 = .ok (.dup, 1) := by decide +kernel
theorem d_De_row_33 : decode b_De_row 33 = .ok (.iload_n 2, 1) := by decide +kernel
theorem d_De_row_34 : decode b_De_row 34 = .ok (.getstatic 48, 3) := by decide +kernel
theorem d_De_row_37 : decode b_De_row 37 = .ok (.iload_n 2, 1) := by decide +kernel
theorem d_De_row_38 : decode b_De_row 38 = .ok (.iaload, 1) := by decide +kernel
theorem d_De_row_39 : decode b_De_row 39 = .ok (.invokespecial 52, 3) := by decide +kernel
theorem d_De_row_42 : decode b_De_row 42 = .ok (.aastore, 1) := by decide +kernel
theorem d_De_row_43 : decode b_De_row 43 = .ok (.return_, 1) := by decide +kernel
theorem d_Rk_init_0 : decode b_Rk_init 0 = .ok (.aload_n 0, 1) := by decide +kernel
theorem d_Rk_init_1 : decode b_Rk_init 1 = .ok (.invokespecial 3, 3) := by decide +kernel
theorem d_Rk_init_4 : decode b_Rk_init 4 = .ok (.aload_n 0, 1) := by decide +kernel
theorem d_Rk_init_5 : decode b_Rk_init 5 = .ok (.iload_n 1, 1) := by decide +kernel
theorem d_Rk_init_6 : decode b_Rk_init 6 = .ok (.putfield 9, 3) := by decide +kernel
theorem d_Rk_init_9 : decode b_Rk_init 9 = .ok (.aload_n 0, 1) := by decide +kernel
theorem d_Rk_init_10 : decode b_Rk_init 10 = .ok (.iload_n 2, 1) := by decide +kernel
theorem d_Rk_init_11 : decode b_Rk_init 11 = .ok (.putfield 15, 3) := by decide +kernel
theorem d_Rk_init_14 : decode b_Rk_init 14 = .ok (.return_, 1) := by decide +kernel
theorem d_De_make_0 : decode b_De_make 0 = .ok (.iload_n 1, 1) := by decide +kernel
theorem d_De_make_1 : decode b_De_make 1 = .ok (.invokestatic 53, 3) := by decide +kernel
theorem d_De_make_4 : decode b_De_make 4 = .ok (.iload_n 2, 1) := by decide +kernel
theorem d_De_make_5 : decode b_De_make 5 = .ok (.invokestatic 56, 3) := by decide +kernel
theorem d_De_make_8 : decode b_De_make 8 = .ok (.aload_n 0, 1) := by decide +kernel
theorem d_De_make_9 : decode b_De_make 9 = .ok (.getfield 11, 3) := by decide +kernel
theorem d_De_make_12 : decode b_De_make 12 = .ok (.iload_n 2, 1) := by decide +kernel
theorem d_De_make_13 : decode b_De_make 13 = .ok (.aaload, 1) := by decide +kernel
theorem d_De_make_14 : decode b_De_make 14 = .ok (.astore 4, 2) := by decide +kernel
theorem d_De_make_16 : decode b_De_make 16 = .ok (.aload 4, 2) := by decide +kernel
theorem d_De_make_18 : decode b_De_make 18 = .ok (.ifnull 22, 3) := by decide +kernel
theorem d_De_make_21 : decode b_De_make 21 = .ok (.aload 4, 2) := by decide +kernel
theorem d_De_make_23 : decode b_De_make 23 = .ok (.iload_n 3, 1) := by decide +kernel
theorem d_De_make_24 : decode b_De_make 24 = .ok (.invokevirtual 59, 3) := by decide +kernel
theorem d_De_make_27 : decode b_De_make 27 = .ok (.ifCond .ne 13, 3) := by decide +kernel
theorem d_De_make_30 : decode b_De_make 30 = .ok (.new 30, 3) := by decide +kernel
theorem d_De_make_33 : decode b_De_make 33 = .ok (.dup, 1) := by decide +kernel
theorem d_De_make_34 : decode b_De_make 34 = .ok (.ldc 63, 2) := by decide +kernel
theorem d_De_make_36 : decode b_De_make 36 = .ok (.invokespecial 34, 3) := by decide +kernel
theorem d_De_make_39 : decode b_De_make 39 = .ok (.athrow, 1) := by decide +kernel
theorem d_De_make_40 : decode b_De_make 40 = .ok (.aload 4, 2) := by decide +kernel
theorem d_De_make_42 : decode b_De_make 42 = .ok (.ifnonnull 13, 3) := by decide +kernel
theorem d_De_make_45 : decode b_De_make 45 = .ok (.new 65, 3) := by decide +kernel
theorem d_De_make_48 : decode b_De_make 48 = .ok (.dup, 1) := by decide +kernel
theorem d_De_make_49 : decode b_De_make 49 = .ok (.ldc 67, 2) := by decide +kernel
theorem d_De_make_51 : decode b_De_make 51 = .ok (.invokespecial 69, 3) := by decide +kernel
theorem d_De_make_54 : decode b_De_make 54 = .ok (.athrow, 1) := by decide +kernel
theorem d_De_make_55 : decode b_De_make 55 = .ok (.aload_n 0, 1) := by decide +kernel
theorem d_De_make_56 : decode b_De_make 56 = .ok (.aload 4, 2) := by decide +kernel
theorem d_De_make_58 : decode b_De_make 58 = .ok (.iload_n 3, 1) := by decide +kernel
theorem d_De_make_59 : decode b_De_make 59 = .ok (.invokevirtual 70, 3) := by decide +kernel
theorem d_De_make_62 : decode b_De_make 62 = .ok (.invokevirtual 74, 3) := by decide +kernel
theorem d_De_make_65 : decode b_De_make 65 = .ok (.istore 5, 2) := by decide +kernel
theorem d_De_make_67 : decode b_De_make 67 = .ok (.aload_n 0, 1) := by decide +kernel
theorem d_De_make_68 : decode b_De_make 68 = .ok (.getfield 17, 3) := by decide +kernel
theorem d_De_make_71 : decode b_De_make 71 = .ok (.iload_n 1, 1) := by decide +kernel
theorem d_De_make_72 : decode b_De_make 72 = .ok (.new 15, 3) := by decide +kernel
theorem d_De_make_75 : decode b_De_make 75 = .ok (.dup, 1) := by decide +kernel
theorem d_De_make_76 : decode b_De_make 76 = .ok (.aload 4, 2) := by decide +kernel
theorem d_De_make_78 : decode b_De_make 78 = .ok (.aload 4, 2) := by decide +kernel
theorem d_De_make_80 : decode b_De_make 80 = .ok (.iload_n 3, 1) := by decide +kernel
theorem d_De_make_81 : decode b_De_make 81 = .ok (.invokevirtual 78, 3) := by decide +kernel
theorem d_De_make_84 : decode b_De_make 84 = .ok (.iload 5, 2) := by decide +kernel
theorem d_De_make_86 : decode b_De_make 86 = .ok (.invokespecial 82, 3) := by decide +kernel
theorem d_De_make_89 : decode b_De_make 89 = .ok (.aastore, 1) := by decide +kernel
theorem d_De_make_90 : decode b_De_make 90 = .ok (.aload_n 0, 1) := by decide +kernel
theorem d_De_make_91 : decode b_De_make 91 = .ok (.dup, 1) := by decide +kernel
theorem d_De_make_92 : decode b_De_make 92 = .ok (.getfield 85, 3) := by decide +kernel
theorem d_De_make_95 : decode b_De_make 95 = .ok (.iconst 1, 1) := by decide +kernel
theorem d_De_make_96 : decode b_De_make 96 = .ok (.iadd, 1) := by decide +kernel
theorem d_De_make_97 : decode b_De_make 97 = .ok (.putfield 85, 3) := by decide +kernel
theorem d_De_make_100 : decode b_De_make 100 = .ok (.aload_n 0, 1) := by decide +kernel
theorem d_De_make_101 : decode b_De_make 101 = .ok (.getfield 85, 3) := by decide +kernel
theorem d_De_make_104 : decode b_De_make 104 = .ok (.ireturn, 1) := by decide +kernel
theorem d_De_checkSlot_0 : decode b_De_checkSlot 0 = .ok (.iload_n 0, 1) := by decide +kernel
theorem d_De_checkSlot_1 : decode b_De_checkSlot 1 = .ok (.ifCond .lt 9, 3) := by decide +kernel
theorem d_De_checkSlot_4 : decode b_De_checkSlot 4 = .ok (.iload_n 0, 1) := by decide +kernel
theorem d_De_checkSlot_5 : decode b_De_checkSlot 5 = .ok (.bipush 32, 2) := by decide +kernel
theorem d_De_checkSlot_7 : decode b_De_checkSlot 7 = .ok (.if_icmp .lt 13, 3) := by decide +kernel
theorem d_De_checkSlot_10 : decode b_De_checkSlot 10 = .ok (.new 30, 3) := by decide +kernel
theorem d_De_checkSlot_13 : decode b_De_checkSlot 13 = .ok (.dup, 1) := by decide +kernel
theorem d_De_checkSlot_14 : decode b_De_checkSlot 14 = .ok (.ldc 154, 2) := by decide +kernel
theorem d_De_checkSlot_16 : decode b_De_checkSlot 16 = .ok (.invokespecial 34, 3) := by decide +kernel
theorem d_De_checkSlot_19 : decode b_De_checkSlot 19 = .ok (.athrow, 1) := by decide +kernel
theorem d_De_checkSlot_20 : decode b_De_checkSlot 20 = .ok (.return_, 1) := by decide +kernel
theorem d_Pk_allows_0 : decode b_Pk_allows 0 = .ok (.iconst 1, 1) := by decide +kernel
theorem d_Pk_allows_1 : decode b_Pk_allows 1 = .ok (.ireturn, 1) := by decide +kernel
theorem d_Rk_allows_0 : decode b_Rk_allows 0 = .ok (.iload_n 1, 1) := by decide +kernel
theorem d_Rk_allows_1 : decode b_Rk_allows 1 = .ok (.ifCond .lt 7, 3) := by decide +kernel
theorem d_Rk_allows_4 : decode b_Rk_allows 4 = .ok (.iconst 1, 1) := by decide +kernel
theorem d_Rk_allows_5 : decode b_Rk_allows 5 = .ok (.goto 4, 3) := by decide +kernel
theorem d_Rk_allows_8 : decode b_Rk_allows 8 = .ok (.iconst 0, 1) := by decide +kernel
theorem d_Rk_allows_9 : decode b_Rk_allows 9 = .ok (.ireturn, 1) := by decide +kernel
theorem d_Pk_wordsFor_0 : decode b_Pk_wordsFor 0 = .ok (.iconst 3, 1) := by decide +kernel
theorem d_Pk_wordsFor_1 : decode b_Pk_wordsFor 1 = .ok (.aload_n 0, 1) := by decide +kernel
theorem d_Pk_wordsFor_2 : decode b_Pk_wordsFor 2 = .ok (.getfield 9, 3) := by decide +kernel
theorem d_Pk_wordsFor_5 : decode b_Pk_wordsFor 5 = .ok (.iadd, 1) := by decide +kernel
theorem d_Pk_wordsFor_6 : decode b_Pk_wordsFor 6 = .ok (.i2l, 1) := by decide +kernel
theorem d_Pk_wordsFor_7 : decode b_Pk_wordsFor 7 = .ok (.lreturn, 1) := by decide +kernel
theorem d_Rk_wordsFor_0 : decode b_Rk_wordsFor 0 = .ok (.ldc2_w 18, 3) := by decide +kernel
theorem d_Rk_wordsFor_3 : decode b_Rk_wordsFor 3 = .ok (.iload_n 1, 1) := by decide +kernel
theorem d_Rk_wordsFor_4 : decode b_Rk_wordsFor 4 = .ok (.i2l, 1) := by decide +kernel
theorem d_Rk_wordsFor_5 : decode b_Rk_wordsFor 5 = .ok (.aload_n 0, 1) := by decide +kernel
theorem d_Rk_wordsFor_6 : decode b_Rk_wordsFor 6 = .ok (.getfield 15, 3) := by decide +kernel
theorem d_Rk_wordsFor_9 : decode b_Rk_wordsFor 9 = .ok (.i2l, 1) := by decide +kernel
theorem d_Rk_wordsFor_10 : decode b_Rk_wordsFor 10 = .ok (.lmul, 1) := by decide +kernel
theorem d_Rk_wordsFor_11 : decode b_Rk_wordsFor 11 = .ok (.ldc2_w 20, 3) := by decide +kernel
theorem d_Rk_wordsFor_14 : decode b_Rk_wordsFor 14 = .ok (.ladd, 1) := by decide +kernel
theorem d_Rk_wordsFor_15 : decode b_Rk_wordsFor 15 = .ok (.lconst 1, 1) := by decide +kernel
theorem d_Rk_wordsFor_16 : decode b_Rk_wordsFor 16 = .ok (.lsub, 1) := by decide +kernel
theorem d_Rk_wordsFor_17 : decode b_Rk_wordsFor 17 = .ok (.ldc2_w 20, 3) := by decide +kernel
theorem d_Rk_wordsFor_20 : decode b_Rk_wordsFor 20 = .ok (.ldiv, 1) := by decide +kernel
theorem d_Rk_wordsFor_21 : decode b_Rk_wordsFor 21 = .ok (.ladd, 1) := by decide +kernel
theorem d_Rk_wordsFor_22 : decode b_Rk_wordsFor 22 = .ok (.lreturn, 1) := by decide +kernel
theorem d_De_takeRoom_0 : decode b_De_takeRoom 0 = .ok (.aload_n 0, 1) := by decide +kernel
theorem d_De_takeRoom_1 : decode b_De_takeRoom 1 = .ok (.getfield 151, 3) := by decide +kernel
theorem d_De_takeRoom_4 : decode b_De_takeRoom 4 = .ok (.ifCond .le 21, 3) := by decide +kernel
theorem d_De_takeRoom_7 : decode b_De_takeRoom 7 = .ok (.aload_n 0, 1) := by decide +kernel
theorem d_De_takeRoom_8 : decode b_De_takeRoom 8 = .ok (.getfield 85, 3) := by decide +kernel
theorem d_De_takeRoom_11 : decode b_De_takeRoom 11 = .ok (.iconst 1, 1) := by decide +kernel
theorem d_De_takeRoom_12 : decode b_De_takeRoom 12 = .ok (.iadd, 1) := by decide +kernel
theorem d_De_takeRoom_13 : decode b_De_takeRoom 13 = .ok (.aload_n 0, 1) := by decide +kernel
theorem d_De_takeRoom_14 : decode b_De_takeRoom 14 = .ok (.getfield 151, 3) := by decide +kernel
theorem d_De_takeRoom_17 : decode b_De_takeRoom 17 = .ok (.irem, 1) := by decide +kernel
theorem d_De_takeRoom_18 : decode b_De_takeRoom 18 = .ok (.ifCond .ne 7, 3) := by decide +kernel
theorem d_De_takeRoom_21 : decode b_De_takeRoom 21 = .ok (.iconst 1, 1) := by decide +kernel
theorem d_De_takeRoom_22 : decode b_De_takeRoom 22 = .ok (.goto 4, 3) := by decide +kernel
theorem d_De_takeRoom_25 : decode b_De_takeRoom 25 = .ok (.iconst 0, 1) := by decide +kernel
theorem d_De_takeRoom_26 : decode b_De_takeRoom 26 = .ok (.istore_n 3, 1) := by decide +kernel
theorem d_De_takeRoom_27 : decode b_De_takeRoom 27 = .ok (.iload_n 3, 1) := by decide +kernel
theorem d_De_takeRoom_28 : decode b_De_takeRoom 28 = .ok (.ifCond .ne 19, 3) := by decide +kernel
theorem d_De_takeRoom_31 : decode b_De_takeRoom 31 = .ok (.aload_n 0, 1) := by decide +kernel
theorem d_De_takeRoom_32 : decode b_De_takeRoom 32 = .ok (.getfield 145, 3) := by decide +kernel
theorem d_De_takeRoom_35 : decode b_De_takeRoom 35 = .ok (.i2l, 1) := by decide +kernel
theorem d_De_takeRoom_36 : decode b_De_takeRoom 36 = .ok (.lload_n 1, 1) := by decide +kernel
theorem d_De_takeRoom_37 : decode b_De_takeRoom 37 = .ok (.ladd, 1) := by decide +kernel
theorem d_De_takeRoom_38 : decode b_De_takeRoom 38 = .ok (.aload_n 0, 1) := by decide +kernel
theorem d_De_takeRoom_39 : decode b_De_takeRoom 39 = .ok (.getfield 22, 3) := by decide +kernel
theorem d_De_takeRoom_42 : decode b_De_takeRoom 42 = .ok (.i2l, 1) := by decide +kernel
theorem d_De_takeRoom_43 : decode b_De_takeRoom 43 = .ok (.lcmp, 1) := by decide +kernel
theorem d_De_takeRoom_44 : decode b_De_takeRoom 44 = .ok (.ifCond .le 7, 3) := by decide +kernel
theorem d_De_takeRoom_47 : decode b_De_takeRoom 47 = .ok (.aload_n 0, 1) := by decide +kernel
theorem d_De_takeRoom_48 : decode b_De_takeRoom 48 = .ok (.invokevirtual 148, 3) := by decide +kernel
theorem d_De_takeRoom_51 : decode b_De_takeRoom 51 = .ok (.aload_n 0, 1) := by decide +kernel
theorem d_De_takeRoom_52 : decode b_De_takeRoom 52 = .ok (.getfield 145, 3) := by decide +kernel
theorem d_De_takeRoom_55 : decode b_De_takeRoom 55 = .ok (.i2l, 1) := by decide +kernel
theorem d_De_takeRoom_56 : decode b_De_takeRoom 56 = .ok (.lload_n 1, 1) := by decide +kernel
theorem d_De_takeRoom_57 : decode b_De_takeRoom 57 = .ok (.ladd, 1) := by decide +kernel
theorem d_De_takeRoom_58 : decode b_De_takeRoom 58 = .ok (.aload_n 0, 1) := by decide +kernel
theorem d_De_takeRoom_59 : decode b_De_takeRoom 59 = .ok (.getfield 22, 3) := by decide +kernel
theorem d_De_takeRoom_62 : decode b_De_takeRoom 62 = .ok (.i2l, 1) := by decide +kernel
theorem d_De_takeRoom_63 : decode b_De_takeRoom 63 = .ok (.lcmp, 1) := by decide +kernel
theorem d_De_takeRoom_64 : decode b_De_takeRoom 64 = .ok (.ifCond .le 13, 3) := by decide +kernel
theorem d_De_takeRoom_67 : decode b_De_takeRoom 67 = .ok (.new 170, 3) := by decide +kernel
theorem d_De_takeRoom_70 : decode b_De_takeRoom 70 = .ok (.dup, 1) := by decide +kernel
theorem d_De_takeRoom_71 : decode b_De_takeRoom 71 = .ok (.ldc 175, 2) := by decide +kernel
theorem d_De_takeRoom_73 : decode b_De_takeRoom 73 = .ok (.invokespecial 174, 3) := by decide +kernel
theorem d_De_takeRoom_76 : decode b_De_takeRoom 76 = .ok (.athrow, 1) := by decide +kernel
theorem d_De_takeRoom_77 : decode b_De_takeRoom 77 = .ok (.aload_n 0, 1) := by decide +kernel
theorem d_De_takeRoom_78 : decode b_De_takeRoom 78 = .ok (.dup, 1) := by decide +kernel
theorem d_De_takeRoom_79 : decode b_De_takeRoom 79 = .ok (.getfield 145, 3) := by decide +kernel
theorem d_De_takeRoom_82 : decode b_De_takeRoom 82 = .ok (.lload_n 1, 1) := by decide +kernel
theorem d_De_takeRoom_83 : decode b_De_takeRoom 83 = .ok (.l2i, 1) := by decide +kernel
theorem d_De_takeRoom_84 : decode b_De_takeRoom 84 = .ok (.iadd, 1) := by decide +kernel
theorem d_De_takeRoom_85 : decode b_De_takeRoom 85 = .ok (.putfield 145, 3) := by decide +kernel
theorem d_De_takeRoom_88 : decode b_De_takeRoom 88 = .ok (.lload_n 1, 1) := by decide +kernel
theorem d_De_takeRoom_89 : decode b_De_takeRoom 89 = .ok (.l2i, 1) := by decide +kernel
theorem d_De_takeRoom_90 : decode b_De_takeRoom 90 = .ok (.ireturn, 1) := by decide +kernel
theorem d_Pk_lengthFor_0 : decode b_Pk_lengthFor 0 = .ok (.aload_n 0, 1) := by decide +kernel
theorem d_Pk_lengthFor_1 : decode b_Pk_lengthFor 1 = .ok (.getfield 9, 3) := by decide +kernel
theorem d_Pk_lengthFor_4 : decode b_Pk_lengthFor 4 = .ok (.ireturn, 1) := by decide +kernel
theorem d_Rk_lengthFor_0 : decode b_Rk_lengthFor 0 = .ok (.iload_n 1, 1) := by decide +kernel
theorem d_Rk_lengthFor_1 : decode b_Rk_lengthFor 1 = .ok (.ireturn, 1) := by decide +kernel
theorem d_It_init_0 : decode b_It_init 0 = .ok (.aload_n 0, 1) := by decide +kernel
theorem d_It_init_1 : decode b_It_init 1 = .ok (.invokespecial 1, 3) := by decide +kernel
theorem d_It_init_4 : decode b_It_init 4 = .ok (.aload_n 0, 1) := by decide +kernel
theorem d_It_init_5 : decode b_It_init 5 = .ok (.aload_n 1, 1) := by decide +kernel
theorem d_It_init_6 : decode b_It_init 6 = .ok (.putfield 7, 3) := by decide +kernel
theorem d_It_init_9 : decode b_It_init 9 = .ok (.aload_n 0, 1) := by decide +kernel
theorem d_It_init_10 : decode b_It_init 10 = .ok (.iload_n 2, 1) := by decide +kernel
theorem d_It_init_11 : decode b_It_init 11 = .ok (.putfield 13, 3) := by decide +kernel
theorem d_It_init_14 : decode b_It_init 14 = .ok (.aload_n 0, 1) := by decide +kernel
theorem d_It_init_15 : decode b_It_init 15 = .ok (.iload_n 3, 1) := by decide +kernel
theorem d_It_init_16 : decode b_It_init 16 = .ok (.putfield 17, 3) := by decide +kernel
theorem d_It_init_19 : decode b_It_init 19 = .ok (.return_, 1) := by decide +kernel
theorem d_De_copy_0 : decode b_De_copy 0 = .ok (.iload_n 1, 1) := by decide +kernel
theorem d_De_copy_1 : decode b_De_copy 1 = .ok (.invokestatic 53, 3) := by decide +kernel
theorem d_De_copy_4 : decode b_De_copy 4 = .ok (.iload_n 2, 1) := by decide +kernel
theorem d_De_copy_5 : decode b_De_copy 5 = .ok (.invokestatic 53, 3) := by decide +kernel
theorem d_De_copy_8 : decode b_De_copy 8 = .ok (.aload_n 0, 1) := by decide +kernel
theorem d_De_copy_9 : decode b_De_copy 9 = .ok (.getfield 17, 3) := by decide +kernel
theorem d_De_copy_12 : decode b_De_copy 12 = .ok (.iload_n 1, 1) := by decide +kernel
theorem d_De_copy_13 : decode b_De_copy 13 = .ok (.aload_n 0, 1) := by decide +kernel
theorem d_De_copy_14 : decode b_De_copy 14 = .ok (.getfield 17, 3) := by decide +kernel
theorem d_De_copy_17 : decode b_De_copy 17 = .ok (.iload_n 2, 1) := by decide +kernel
theorem d_De_copy_18 : decode b_De_copy 18 = .ok (.aaload, 1) := by decide +kernel
theorem d_De_copy_19 : decode b_De_copy 19 = .ok (.aastore, 1) := by decide +kernel
theorem d_De_copy_20 : decode b_De_copy 20 = .ok (.aload_n 0, 1) := by decide +kernel
theorem d_De_copy_21 : decode b_De_copy 21 = .ok (.getfield 17, 3) := by decide +kernel
theorem d_De_copy_24 : decode b_De_copy 24 = .ok (.iload_n 1, 1) := by decide +kernel
theorem d_De_copy_25 : decode b_De_copy 25 = .ok (.aaload, 1) := by decide +kernel
theorem d_De_copy_26 : decode b_De_copy 26 = .ok (.ifnull 7, 3) := by decide +kernel
theorem d_De_copy_29 : decode b_De_copy 29 = .ok (.iconst 1, 1) := by decide +kernel
theorem d_De_copy_30 : decode b_De_copy 30 = .ok (.goto 4, 3) := by decide +kernel
theorem d_De_copy_33 : decode b_De_copy 33 = .ok (.iconst 0, 1) := by decide +kernel
theorem d_De_copy_34 : decode b_De_copy 34 = .ok (.ireturn, 1) := by decide +kernel
theorem d_De_drop_0 : decode b_De_drop 0 = .ok (.iload_n 1, 1) := by decide +kernel
theorem d_De_drop_1 : decode b_De_drop 1 = .ok (.invokestatic 53, 3) := by decide +kernel
theorem d_De_drop_4 : decode b_De_drop 4 = .ok (.aload_n 0, 1) := by decide +kernel
theorem d_De_drop_5 : decode b_De_drop 5 = .ok (.getfield 17, 3) := by decide +kernel
theorem d_De_drop_8 : decode b_De_drop 8 = .ok (.iload_n 1, 1) := by decide +kernel
theorem d_De_drop_9 : decode b_De_drop 9 = .ok (.aaload, 1) := by decide +kernel
theorem d_De_drop_10 : decode b_De_drop 10 = .ok (.ifnull 7, 3) := by decide +kernel
theorem d_De_drop_13 : decode b_De_drop 13 = .ok (.iconst 1, 1) := by decide +kernel
theorem d_De_drop_14 : decode b_De_drop 14 = .ok (.goto 4, 3) := by decide +kernel
theorem d_De_drop_17 : decode b_De_drop 17 = .ok (.iconst 0, 1) := by decide +kernel
theorem d_De_drop_18 : decode b_De_drop 18 = .ok (.istore_n 2, 1) := by decide +kernel
theorem d_De_drop_19 : decode b_De_drop 19 = .ok (.aload_n 0, 1) := by decide +kernel
theorem d_De_drop_20 : decode b_De_drop 20 = .ok (.getfield 17, 3) := by decide +kernel
theorem d_De_drop_23 : decode b_De_drop 23 = .ok (.iload_n 1, 1) := by decide +kernel
theorem d_De_drop_24 : decode b_De_drop 24 = .ok (.aconst_null, 1) := by decide +kernel
theorem d_De_drop_25 : decode b_De_drop 25 = .ok (.aastore, 1) := by decide +kernel
theorem d_De_drop_26 : decode b_De_drop 26 = .ok (.iload_n 2, 1) := by decide +kernel
theorem d_De_drop_27 : decode b_De_drop 27 = .ok (.ireturn, 1) := by decide +kernel
theorem d_De_same_0 : decode b_De_same 0 = .ok (.iload_n 1, 1) := by decide +kernel
theorem d_De_same_1 : decode b_De_same 1 = .ok (.invokestatic 53, 3) := by decide +kernel
theorem d_De_same_4 : decode b_De_same 4 = .ok (.iload_n 2, 1) := by decide +kernel
theorem d_De_same_5 : decode b_De_same 5 = .ok (.invokestatic 53, 3) := by decide +kernel
theorem d_De_same_8 : decode b_De_same 8 = .ok (.aload_n 0, 1) := by decide +kernel
theorem d_De_same_9 : decode b_De_same 9 = .ok (.getfield 17, 3) := by decide +kernel
theorem d_De_same_12 : decode b_De_same 12 = .ok (.iload_n 1, 1) := by decide +kernel
theorem d_De_same_13 : decode b_De_same 13 = .ok (.aaload, 1) := by decide +kernel
theorem d_De_same_14 : decode b_De_same 14 = .ok (.aload_n 0, 1) := by decide +kernel
theorem d_De_same_15 : decode b_De_same 15 = .ok (.getfield 17, 3) := by decide +kernel
theorem d_De_same_18 : decode b_De_same 18 = .ok (.iload_n 2, 1) := by decide +kernel
theorem d_De_same_19 : decode b_De_same 19 = .ok (.aaload, 1) := by decide +kernel
theorem d_De_same_20 : decode b_De_same 20 = .ok (.if_acmp .ne 7, 3) := by decide +kernel
theorem d_De_same_23 : decode b_De_same 23 = .ok (.iconst 1, 1) := by decide +kernel
theorem d_De_same_24 : decode b_De_same 24 = .ok (.goto 4, 3) := by decide +kernel
theorem d_De_same_27 : decode b_De_same 27 = .ok (.iconst 0, 1) := by decide +kernel
theorem d_De_same_28 : decode b_De_same 28 = .ok (.ireturn, 1) := by decide +kernel
theorem d_De_get_0 : decode b_De_get 0 = .ok (.iload_n 1, 1) := by decide +kernel
theorem d_De_get_1 : decode b_De_get 1 = .ok (.invokestatic 53, 3) := by decide +kernel
theorem d_De_get_4 : decode b_De_get 4 = .ok (.aload_n 0, 1) := by decide +kernel
theorem d_De_get_5 : decode b_De_get 5 = .ok (.iload_n 1, 1) := by decide +kernel
theorem d_De_get_6 : decode b_De_get 6 = .ok (.iload_n 2, 1) := by decide +kernel
theorem d_De_get_7 : decode b_De_get 7 = .ok (.iconst 0, 1) := by decide +kernel
theorem d_De_get_8 : decode b_De_get 8 = .ok (.invokevirtual 88, 3) := by decide +kernel
theorem d_De_get_11 : decode b_De_get 11 = .ok (.iload_n 2, 1) := by decide +kernel
theorem d_De_get_12 : decode b_De_get 12 = .ok (.invokevirtual 92, 3) := by decide +kernel
theorem d_De_get_15 : decode b_De_get 15 = .ok (.astore_n 3, 1) := by decide +kernel
theorem d_De_get_16 : decode b_De_get 16 = .ok (.aload_n 3, 1) := by decide +kernel
theorem d_De_get_17 : decode b_De_get 17 = .ok (.ifnonnull 7, 3) := by decide +kernel
theorem d_De_get_20 : decode b_De_get 20 = .ok (.lconst 0, 1) := by decide +kernel
theorem d_De_get_21 : decode b_De_get 21 = .ok (.goto 7, 3) := by decide +kernel
theorem d_De_get_24 : decode b_De_get 24 = .ok (.aload_n 3, 1) := by decide +kernel
theorem d_De_get_25 : decode b_De_get 25 = .ok (.getfield 96, 3) := by decide +kernel
theorem d_De_get_28 : decode b_De_get 28 = .ok (.lreturn, 1) := by decide +kernel
theorem d_De_heldWithPlace_0 : decode b_De_heldWithPlace 0 = .ok (.aload_n 0, 1) := by decide +kernel
theorem d_De_heldWithPlace_1 : decode b_De_heldWithPlace 1 = .ok (.iload_n 1, 1) := by decide +kernel
theorem d_De_heldWithPlace_2 : decode b_De_heldWithPlace 2 = .ok (.invokevirtual 117, 3) := by decide +kernel
theorem d_De_heldWithPlace_5 : decode b_De_heldWithPlace 5 = .ok (.astore 4, 2) := by decide +kernel
theorem d_De_heldWithPlace_7 : decode b_De_heldWithPlace 7 = .ok (.iload_n 2, 1) := by decide +kernel
theorem d_De_heldWithPlace_8 : decode b_De_heldWithPlace 8 = .ok (.ifCond .lt 12, 3) := by decide +kernel
theorem d_De_heldWithPlace_11 : decode b_De_heldWithPlace 11 = .ok (.iload_n 2, 1) := by decide +kernel
theorem d_De_heldWithPlace_12 : decode b_De_heldWithPlace 12 = .ok (.aload 4, 2) := by decide +kernel
theorem d_De_heldWithPlace_14 : decode b_De_heldWithPlace 14 = .ok (.getfield 140, 3) := by decide +kernel
theorem d_De_heldWithPlace_17 : decode b_De_heldWithPlace 17 = .ok (.if_icmp .lt 13, 3) := by decide +kernel
theorem d_De_heldWithPlace_20 : decode b_De_heldWithPlace 20 = .ok (.new 162, 3) := by decide +kernel
theorem d_De_heldWithPlace_23 : decode b_De_heldWithPlace 23 = .ok (.dup, 1) := by decide +kernel
theorem d_De_heldWithPlace_24 : decode b_De_heldWithPlace 24 = .ok (.ldc 164, 2) := by decide +kernel
theorem d_De_heldWithPlace_26 : decode b_De_heldWithPlace 26 = .ok (.invokespecial 166, 3) := by decide +kernel
theorem d_De_heldWithPlace_29 : decode b_De_heldWithPlace 29 = .ok (.athrow, 1) := by decide +kernel
theorem d_De_heldWithPlace_30 : decode b_De_heldWithPlace 30 = .ok (.aload 4, 2) := by decide +kernel
theorem d_De_heldWithPlace_32 : decode b_De_heldWithPlace 32 = .ok (.getfield 105, 3) := by decide +kernel
theorem d_De_heldWithPlace_35 : decode b_De_heldWithPlace 35 = .ok (.iload_n 2, 1) := by decide +kernel
theorem d_De_heldWithPlace_36 : decode b_De_heldWithPlace 36 = .ok (.invokevirtual 167, 3) := by decide +kernel
theorem d_De_heldWithPlace_39 : decode b_De_heldWithPlace 39 = .ok (.iload_n 3, 1) := by decide +kernel
theorem d_De_heldWithPlace_40 : decode b_De_heldWithPlace 40 = .ok (.if_icmp .eq 13, 3) := by decide +kernel
theorem d_De_heldWithPlace_43 : decode b_De_heldWithPlace 43 = .ok (.new 170, 3) := by decide +kernel
theorem d_De_heldWithPlace_46 : decode b_De_heldWithPlace 46 = .ok (.dup, 1) := by decide +kernel
theorem d_De_heldWithPlace_47 : decode b_De_heldWithPlace 47 = .ok (.ldc 172, 2) := by decide +kernel
theorem d_De_heldWithPlace_49 : decode b_De_heldWithPlace 49 = .ok (.invokespecial 174, 3) := by decide +kernel
theorem d_De_heldWithPlace_52 : decode b_De_heldWithPlace 52 = .ok (.athrow, 1) := by decide +kernel
theorem d_De_heldWithPlace_53 : decode b_De_heldWithPlace 53 = .ok (.aload 4, 2) := by decide +kernel
theorem d_De_heldWithPlace_55 : decode b_De_heldWithPlace 55 = .ok (.areturn, 1) := by decide +kernel
theorem d_De_held_0 : decode b_De_held 0 = .ok (.aload_n 0, 1) := by decide +kernel
theorem d_De_held_1 : decode b_De_held 1 = .ok (.getfield 17, 3) := by decide +kernel
theorem d_De_held_4 : decode b_De_held 4 = .ok (.iload_n 1, 1) := by decide +kernel
theorem d_De_held_5 : decode b_De_held 5 = .ok (.aaload, 1) := by decide +kernel
theorem d_De_held_6 : decode b_De_held 6 = .ok (.astore_n 2, 1) := by decide +kernel
theorem d_De_held_7 : decode b_De_held 7 = .ok (.aload_n 2, 1) := by decide +kernel
theorem d_De_held_8 : decode b_De_held 8 = .ok (.ifnonnull 13, 3) := by decide +kernel
theorem d_De_held_11 : decode b_De_held 11 = .ok (.new 65, 3) := by decide +kernel
theorem d_De_held_14 : decode b_De_held 14 = .ok (.dup, 1) := by decide +kernel
theorem d_De_held_15 : decode b_De_held 15 = .ok (.ldc 160, 2) := by decide +kernel
theorem d_De_held_17 : decode b_De_held 17 = .ok (.invokespecial 69, 3) := by decide +kernel
theorem d_De_held_20 : decode b_De_held 20 = .ok (.athrow, 1) := by decide +kernel
theorem d_De_held_21 : decode b_De_held 21 = .ok (.aload_n 2, 1) := by decide +kernel
theorem d_De_held_22 : decode b_De_held 22 = .ok (.areturn, 1) := by decide +kernel
theorem d_Pk_isReference_0 : decode b_Pk_isReference 0 = .ok (.aload_n 0, 1) := by decide +kernel
theorem d_Pk_isReference_1 : decode b_Pk_isReference 1 = .ok (.getfield 15, 3) := by decide +kernel
theorem d_Pk_isReference_4 : decode b_Pk_isReference 4 = .ok (.iload_n 1, 1) := by decide +kernel
theorem d_Pk_isReference_5 : decode b_Pk_isReference 5 = .ok (.iushr, 1) := by decide +kernel
theorem d_Pk_isReference_6 : decode b_Pk_isReference 6 = .ok (.iconst 1, 1) := by decide +kernel
theorem d_Pk_isReference_7 : decode b_Pk_isReference 7 = .ok (.iand, 1) := by decide +kernel
theorem d_Pk_isReference_8 : decode b_Pk_isReference 8 = .ok (.ifCond .eq 7, 3) := by decide +kernel
theorem d_Pk_isReference_11 : decode b_Pk_isReference 11 = .ok (.iconst 1, 1) := by decide +kernel
theorem d_Pk_isReference_12 : decode b_Pk_isReference 12 = .ok (.goto 4, 3) := by decide +kernel
theorem d_Pk_isReference_15 : decode b_Pk_isReference 15 = .ok (.iconst 0, 1) := by decide +kernel
theorem d_Pk_isReference_16 : decode b_Pk_isReference 16 = .ok (.ireturn, 1) := by decide +kernel
theorem d_Rk_isReference_0 : decode b_Rk_isReference 0 = .ok (.aload_n 0, 1) := by decide +kernel
theorem d_Rk_isReference_1 : decode b_Rk_isReference 1 = .ok (.getfield 9, 3) := by decide +kernel
theorem d_Rk_isReference_4 : decode b_Rk_isReference 4 = .ok (.ifCond .ne 7, 3) := by decide +kernel
theorem d_Rk_isReference_7 : decode b_Rk_isReference 7 = .ok (.iconst 1, 1) := by decide +kernel
theorem d_Rk_isReference_8 : decode b_Rk_isReference 8 = .ok (.goto 4, 3) := by decide +kernel
theorem d_Rk_isReference_11 : decode b_Rk_isReference 11 = .ok (.iconst 0, 1) := by decide +kernel
theorem d_Rk_isReference_12 : decode b_Rk_isReference 12 = .ok (.ireturn, 1) := by decide +kernel
theorem d_It_find_0 : decode b_It_find 0 = .ok (.aload_n 0, 1) := by decide +kernel
theorem d_It_find_1 : decode b_It_find 1 = .ok (.getfield 20, 3) := by decide +kernel
theorem d_It_find_4 : decode b_It_find 4 = .ok (.astore_n 2, 1) := by decide +kernel
theorem d_It_find_5 : decode b_It_find 5 = .ok (.aload_n 2, 1) := by decide +kernel
theorem d_It_find_6 : decode b_It_find 6 = .ok (.ifnull 21, 3) := by decide +kernel
theorem d_It_find_9 : decode b_It_find 9 = .ok (.aload_n 2, 1) := by decide +kernel
theorem d_It_find_10 : decode b_It_find 10 = .ok (.getfield 24, 3) := by decide +kernel
theorem d_It_find_13 : decode b_It_find 13 = .ok (.iload_n 1, 1) := by decide +kernel
theorem d_It_find_14 : decode b_It_find 14 = .ok (.if_icmp .ne 5, 3) := by decide +kernel
theorem d_It_find_17 : decode b_It_find 17 = .ok (.aload_n 2, 1) := by decide +kernel
theorem d_It_find_18 : decode b_It_find 18 = .ok (.areturn, 1) := by decide +kernel
theorem d_It_find_19 : decode b_It_find 19 = .ok (.aload_n 2, 1) := by decide +kernel
theorem d_It_find_20 : decode b_It_find 20 = .ok (.getfield 29, 3) := by decide +kernel
theorem d_It_find_23 : decode b_It_find 23 = .ok (.astore_n 2, 1) := by decide +kernel
theorem d_It_find_24 : decode b_It_find 24 = .ok (.goto (-19), 3) := by decide +kernel
theorem d_It_find_27 : decode b_It_find 27 = .ok (.aconst_null, 1) := by decide +kernel
theorem d_It_find_28 : decode b_It_find 28 = .ok (.areturn, 1) := by decide +kernel
theorem d_De_put_0 : decode b_De_put 0 = .ok (.iload_n 1, 1) := by decide +kernel
theorem d_De_put_1 : decode b_De_put 1 = .ok (.invokestatic 53, 3) := by decide +kernel
theorem d_De_put_4 : decode b_De_put 4 = .ok (.aload_n 0, 1) := by decide +kernel
theorem d_De_put_5 : decode b_De_put 5 = .ok (.iload_n 1, 1) := by decide +kernel
theorem d_De_put_6 : decode b_De_put 6 = .ok (.iload_n 2, 1) := by decide +kernel
theorem d_De_put_7 : decode b_De_put 7 = .ok (.iconst 0, 1) := by decide +kernel
theorem d_De_put_8 : decode b_De_put 8 = .ok (.invokevirtual 88, 3) := by decide +kernel
theorem d_De_put_11 : decode b_De_put 11 = .ok (.astore 5, 2) := by decide +kernel
theorem d_De_put_13 : decode b_De_put 13 = .ok (.aload 5, 2) := by decide +kernel
theorem d_De_put_15 : decode b_De_put 15 = .ok (.iload_n 2, 1) := by decide +kernel
theorem d_De_put_16 : decode b_De_put 16 = .ok (.invokevirtual 102, 3) := by decide +kernel
theorem d_De_put_19 : decode b_De_put 19 = .ok (.aload 5, 2) := by decide +kernel
theorem d_De_put_21 : decode b_De_put 21 = .ok (.getfield 105, 3) := by decide +kernel
theorem d_De_put_24 : decode b_De_put 24 = .ok (.lload_n 3, 1) := by decide +kernel
theorem d_De_put_25 : decode b_De_put 25 = .ok (.invokevirtual 109, 3) := by decide +kernel
theorem d_De_put_28 : decode b_De_put 28 = .ok (.putfield 96, 3) := by decide +kernel
theorem d_De_put_31 : decode b_De_put 31 = .ok (.return_, 1) := by decide +kernel
theorem d_It_findOrAdd_0 : decode b_It_findOrAdd 0 = .ok (.aload_n 0, 1) := by decide +kernel
theorem d_It_findOrAdd_1 : decode b_It_findOrAdd 1 = .ok (.iload_n 1, 1) := by decide +kernel
theorem d_It_findOrAdd_2 : decode b_It_findOrAdd 2 = .ok (.invokevirtual 32, 3) := by decide +kernel
theorem d_It_findOrAdd_5 : decode b_It_findOrAdd 5 = .ok (.astore_n 2, 1) := by decide +kernel
theorem d_It_findOrAdd_6 : decode b_It_findOrAdd 6 = .ok (.aload_n 2, 1) := by decide +kernel
theorem d_It_findOrAdd_7 : decode b_It_findOrAdd 7 = .ok (.ifnonnull 21, 3) := by decide +kernel
theorem d_It_findOrAdd_10 : decode b_It_findOrAdd 10 = .ok (.new 25, 3) := by decide +kernel
theorem d_It_findOrAdd_13 : decode b_It_findOrAdd 13 = .ok (.dup, 1) := by decide +kernel
theorem d_It_findOrAdd_14 : decode b_It_findOrAdd 14 = .ok (.iload_n 1, 1) := by decide +kernel
theorem d_It_findOrAdd_15 : decode b_It_findOrAdd 15 = .ok (.aload_n 0, 1) := by decide +kernel
theorem d_It_findOrAdd_16 : decode b_It_findOrAdd 16 = .ok (.getfield 20, 3) := by decide +kernel
theorem d_It_findOrAdd_19 : decode b_It_findOrAdd 19 = .ok (.invokespecial 36, 3) := by decide +kernel
theorem d_It_findOrAdd_22 : decode b_It_findOrAdd 22 = .ok (.astore_n 2, 1) := by decide +kernel
theorem d_It_findOrAdd_23 : decode b_It_findOrAdd 23 = .ok (.aload_n 0, 1) := by decide +kernel
theorem d_It_findOrAdd_24 : decode b_It_findOrAdd 24 = .ok (.aload_n 2, 1) := by decide +kernel
theorem d_It_findOrAdd_25 : decode b_It_findOrAdd 25 = .ok (.putfield 20, 3) := by decide +kernel
theorem d_It_findOrAdd_28 : decode b_It_findOrAdd 28 = .ok (.aload_n 2, 1) := by decide +kernel
theorem d_It_findOrAdd_29 : decode b_It_findOrAdd 29 = .ok (.areturn, 1) := by decide +kernel
theorem d_Ce_init_0 : decode b_Ce_init 0 = .ok (.aload_n 0, 1) := by decide +kernel
theorem d_Ce_init_1 : decode b_Ce_init 1 = .ok (.invokespecial 1, 3) := by decide +kernel
theorem d_Ce_init_4 : decode b_Ce_init 4 = .ok (.aload_n 0, 1) := by decide +kernel
theorem d_Ce_init_5 : decode b_Ce_init 5 = .ok (.iload_n 1, 1) := by decide +kernel
theorem d_Ce_init_6 : decode b_Ce_init 6 = .ok (.putfield 7, 3) := by decide +kernel
theorem d_Ce_init_9 : decode b_Ce_init 9 = .ok (.aload_n 0, 1) := by decide +kernel
theorem d_Ce_init_10 : decode b_Ce_init 10 = .ok (.aload_n 2, 1) := by decide +kernel
theorem d_Ce_init_11 : decode b_Ce_init 11 = .ok (.putfield 13, 3) := by decide +kernel
theorem d_Ce_init_14 : decode b_Ce_init 14 = .ok (.return_, 1) := by decide +kernel
theorem d_Pk_cut_0 : decode b_Pk_cut 0 = .ok (.lload_n 1, 1) := by decide +kernel
theorem d_Pk_cut_1 : decode b_Pk_cut 1 = .ok (.l2i, 1) := by decide +kernel
theorem d_Pk_cut_2 : decode b_Pk_cut 2 = .ok (.i2l, 1) := by decide +kernel
theorem d_Pk_cut_3 : decode b_Pk_cut 3 = .ok (.lreturn, 1) := by decide +kernel
theorem d_Rk_cut_0 : decode b_Rk_cut 0 = .ok (.bipush 64, 2) := by decide +kernel
theorem d_Rk_cut_2 : decode b_Rk_cut 2 = .ok (.aload_n 0, 1) := by decide +kernel
theorem d_Rk_cut_3 : decode b_Rk_cut 3 = .ok (.getfield 15, 3) := by decide +kernel
theorem d_Rk_cut_6 : decode b_Rk_cut 6 = .ok (.isub, 1) := by decide +kernel
theorem d_Rk_cut_7 : decode b_Rk_cut 7 = .ok (.istore_n 3, 1) := by decide +kernel
theorem d_Rk_cut_8 : decode b_Rk_cut 8 = .ok (.aload_n 0, 1) := by decide +kernel
theorem d_Rk_cut_9 : decode b_Rk_cut 9 = .ok (.getfield 9, 3) := by decide +kernel
theorem d_Rk_cut_12 : decode b_Rk_cut 12 = .ok (.iconst 2, 1) := by decide +kernel
theorem d_Rk_cut_13 : decode b_Rk_cut 13 = .ok (.if_icmp .ne 11, 3) := by decide +kernel
theorem d_Rk_cut_16 : decode b_Rk_cut 16 = .ok (.lload_n 1, 1) := by decide +kernel
theorem d_Rk_cut_17 : decode b_Rk_cut 17 = .ok (.iload_n 3, 1) := by decide +kernel
theorem d_Rk_cut_18 : decode b_Rk_cut 18 = .ok (.lshl, 1) := by decide +kernel
theorem d_Rk_cut_19 : decode b_Rk_cut 19 = .ok (.iload_n 3, 1) := by decide +kernel
theorem d_Rk_cut_20 : decode b_Rk_cut 20 = .ok (.lushr, 1) := by decide +kernel
theorem d_Rk_cut_21 : decode b_Rk_cut 21 = .ok (.goto 8, 3) := by decide +kernel
theorem d_Rk_cut_24 : decode b_Rk_cut 24 = .ok (.lload_n 1, 1) := by decide +kernel
theorem d_Rk_cut_25 : decode b_Rk_cut 25 = .ok (.iload_n 3, 1) := by decide +kernel
theorem d_Rk_cut_26 : decode b_Rk_cut 26 = .ok (.lshl, 1) := by decide +kernel
theorem d_Rk_cut_27 : decode b_Rk_cut 27 = .ok (.iload_n 3, 1) := by decide +kernel
theorem d_Rk_cut_28 : decode b_Rk_cut 28 = .ok (.lshr, 1) := by decide +kernel
theorem d_Rk_cut_29 : decode b_Rk_cut 29 = .ok (.lreturn, 1) := by decide +kernel
theorem d_De_link_0 : decode b_De_link 0 = .ok (.iload_n 1, 1) := by decide +kernel
theorem d_De_link_1 : decode b_De_link 1 = .ok (.invokestatic 53, 3) := by decide +kernel
theorem d_De_link_4 : decode b_De_link 4 = .ok (.iload_n 3, 1) := by decide +kernel
theorem d_De_link_5 : decode b_De_link 5 = .ok (.invokestatic 53, 3) := by decide +kernel
theorem d_De_link_8 : decode b_De_link 8 = .ok (.aload_n 0, 1) := by decide +kernel
theorem d_De_link_9 : decode b_De_link 9 = .ok (.iload_n 1, 1) := by decide +kernel
theorem d_De_link_10 : decode b_De_link 10 = .ok (.iload_n 2, 1) := by decide +kernel
theorem d_De_link_11 : decode b_De_link 11 = .ok (.iconst 1, 1) := by decide +kernel
theorem d_De_link_12 : decode b_De_link 12 = .ok (.invokevirtual 88, 3) := by decide +kernel
theorem d_De_link_15 : decode b_De_link 15 = .ok (.iload_n 2, 1) := by decide +kernel
theorem d_De_link_16 : decode b_De_link 16 = .ok (.invokevirtual 102, 3) := by decide +kernel
theorem d_De_link_19 : decode b_De_link 19 = .ok (.astore 4, 2) := by decide +kernel
theorem d_De_link_21 : decode b_De_link 21 = .ok (.aload 4, 2) := by decide +kernel
theorem d_De_link_23 : decode b_De_link 23 = .ok (.getfield 113, 3) := by decide +kernel
theorem d_De_link_26 : decode b_De_link 26 = .ok (.ifnull 7, 3) := by decide +kernel
theorem d_De_link_29 : decode b_De_link 29 = .ok (.iconst 1, 1) := by decide +kernel
theorem d_De_link_30 : decode b_De_link 30 = .ok (.goto 4, 3) := by decide +kernel
theorem d_De_link_33 : decode b_De_link 33 = .ok (.iconst 0, 1) := by decide +kernel
theorem d_De_link_34 : decode b_De_link 34 = .ok (.istore 5, 2) := by decide +kernel
theorem d_De_link_36 : decode b_De_link 36 = .ok (.aload 4, 2) := by decide +kernel
theorem d_De_link_38 : decode b_De_link 38 = .ok (.aload_n 0, 1) := by decide +kernel
theorem d_De_link_39 : decode b_De_link 39 = .ok (.getfield 17, 3) := by decide +kernel
theorem d_De_link_42 : decode b_De_link 42 = .ok (.iload_n 3, 1) := by decide +kernel
theorem d_De_link_43 : decode b_De_link 43 = .ok (.aaload, 1) := by decide +kernel
theorem d_De_link_44 : decode b_De_link 44 = .ok (.putfield 113, 3) := by decide +kernel
theorem d_De_link_47 : decode b_De_link 47 = .ok (.iload 5, 2) := by decide +kernel
theorem d_De_link_49 : decode b_De_link 49 = .ok (.ireturn, 1) := by decide +kernel
theorem d_De_follow_0 : decode b_De_follow 0 = .ok (.iload_n 1, 1) := by decide +kernel
theorem d_De_follow_1 : decode b_De_follow 1 = .ok (.invokestatic 53, 3) := by decide +kernel
theorem d_De_follow_4 : decode b_De_follow 4 = .ok (.iload_n 3, 1) := by decide +kernel
theorem d_De_follow_5 : decode b_De_follow 5 = .ok (.invokestatic 53, 3) := by decide +kernel
theorem d_De_follow_8 : decode b_De_follow 8 = .ok (.aload_n 0, 1) := by decide +kernel
theorem d_De_follow_9 : decode b_De_follow 9 = .ok (.iload_n 1, 1) := by decide +kernel
theorem d_De_follow_10 : decode b_De_follow 10 = .ok (.iload_n 2, 1) := by decide +kernel
theorem d_De_follow_11 : decode b_De_follow 11 = .ok (.iconst 1, 1) := by decide +kernel
theorem d_De_follow_12 : decode b_De_follow 12 = .ok (.invokevirtual 88, 3) := by decide +kernel
theorem d_De_follow_15 : decode b_De_follow 15 = .ok (.iload_n 2, 1) := by decide +kernel
theorem d_De_follow_16 : decode b_De_follow 16 = .ok (.invokevirtual 92, 3) := by decide +kernel
theorem d_De_follow_19 : decode b_De_follow 19 = .ok (.astore 4, 2) := by decide +kernel
theorem d_De_follow_21 : decode b_De_follow 21 = .ok (.aload_n 0, 1) := by decide +kernel
theorem d_De_follow_22 : decode b_De_follow 22 = .ok (.getfield 17, 3) := by decide +kernel
theorem d_De_follow_25 : decode b_De_follow 25 = .ok (.iload_n 3, 1) := by decide +kernel
theorem d_De_follow_26 : decode b_De_follow 26 = .ok (.aload 4, 2) := by decide +kernel
theorem d_De_follow_28 : decode b_De_follow 28 = .ok (.ifnonnull 7, 3) := by decide +kernel
theorem d_De_follow_31 : decode b_De_follow 31 = .ok (.aconst_null, 1) := by decide +kernel
theorem d_De_follow_32 : decode b_De_follow 32 = .ok (.goto 8, 3) := by decide +kernel
theorem d_De_follow_35 : decode b_De_follow 35 = .ok (.aload 4, 2) := by decide +kernel
theorem d_De_follow_37 : decode b_De_follow 37 = .ok (.getfield 113, 3) := by decide +kernel
theorem d_De_follow_40 : decode b_De_follow 40 = .ok (.aastore, 1) := by decide +kernel
theorem d_De_follow_41 : decode b_De_follow 41 = .ok (.aload_n 0, 1) := by decide +kernel
theorem d_De_follow_42 : decode b_De_follow 42 = .ok (.getfield 17, 3) := by decide +kernel
theorem d_De_follow_45 : decode b_De_follow 45 = .ok (.iload_n 3, 1) := by decide +kernel
theorem d_De_follow_46 : decode b_De_follow 46 = .ok (.aaload, 1) := by decide +kernel
theorem d_De_follow_47 : decode b_De_follow 47 = .ok (.ifnull 7, 3) := by decide +kernel
theorem d_De_follow_50 : decode b_De_follow 50 = .ok (.iconst 1, 1) := by decide +kernel
theorem d_De_follow_51 : decode b_De_follow 51 = .ok (.goto 4, 3) := by decide +kernel
theorem d_De_follow_54 : decode b_De_follow 54 = .ok (.iconst 0, 1) := by decide +kernel
theorem d_De_follow_55 : decode b_De_follow 55 = .ok (.ireturn, 1) := by decide +kernel
theorem d_De_keep_0 : decode b_De_keep 0 = .ok (.iload_n 1, 1) := by decide +kernel
theorem d_De_keep_1 : decode b_De_keep 1 = .ok (.invokestatic 53, 3) := by decide +kernel
theorem d_De_keep_4 : decode b_De_keep 4 = .ok (.aload_n 0, 1) := by decide +kernel
theorem d_De_keep_5 : decode b_De_keep 5 = .ok (.iload_n 1, 1) := by decide +kernel
theorem d_De_keep_6 : decode b_De_keep 6 = .ok (.invokevirtual 117, 3) := by decide +kernel
theorem d_De_keep_9 : decode b_De_keep 9 = .ok (.astore_n 2, 1) := by decide +kernel
theorem d_De_keep_10 : decode b_De_keep 10 = .ok (.aload_n 2, 1) := by decide +kernel
theorem d_De_keep_11 : decode b_De_keep 11 = .ok (.getfield 121, 3) := by decide +kernel
theorem d_De_keep_14 : decode b_De_keep 14 = .ok (.ifCond .ne 21, 3) := by decide +kernel
theorem d_De_keep_17 : decode b_De_keep 17 = .ok (.aload_n 2, 1) := by decide +kernel
theorem d_De_keep_18 : decode b_De_keep 18 = .ok (.iconst 1, 1) := by decide +kernel
theorem d_De_keep_19 : decode b_De_keep 19 = .ok (.putfield 121, 3) := by decide +kernel
theorem d_De_keep_22 : decode b_De_keep 22 = .ok (.aload_n 2, 1) := by decide +kernel
theorem d_De_keep_23 : decode b_De_keep 23 = .ok (.aload_n 0, 1) := by decide +kernel
theorem d_De_keep_24 : decode b_De_keep 24 = .ok (.getfield 125, 3) := by decide +kernel
theorem d_De_keep_27 : decode b_De_keep 27 = .ok (.putfield 128, 3) := by decide +kernel
theorem d_De_keep_30 : decode b_De_keep 30 = .ok (.aload_n 0, 1) := by decide +kernel
theorem d_De_keep_31 : decode b_De_keep 31 = .ok (.aload_n 2, 1) := by decide +kernel
theorem d_De_keep_32 : decode b_De_keep 32 = .ok (.putfield 125, 3) := by decide +kernel
theorem d_De_keep_35 : decode b_De_keep 35 = .ok (.aload_n 0, 1) := by decide +kernel
theorem d_De_keep_36 : decode b_De_keep 36 = .ok (.dup, 1) := by decide +kernel
theorem d_De_keep_37 : decode b_De_keep 37 = .ok (.getfield 131, 3) := by decide +kernel
theorem d_De_keep_40 : decode b_De_keep 40 = .ok (.iconst 1, 1) := by decide +kernel
theorem d_De_keep_41 : decode b_De_keep 41 = .ok (.iadd, 1) := by decide +kernel
theorem d_De_keep_42 : decode b_De_keep 42 = .ok (.putfield 131, 3) := by decide +kernel
theorem d_De_keep_45 : decode b_De_keep 45 = .ok (.aload_n 0, 1) := by decide +kernel
theorem d_De_keep_46 : decode b_De_keep 46 = .ok (.getfield 131, 3) := by decide +kernel
theorem d_De_keep_49 : decode b_De_keep 49 = .ok (.ireturn, 1) := by decide +kernel
theorem d_De_number_0 : decode b_De_number 0 = .ok (.iload_n 1, 1) := by decide +kernel
theorem d_De_number_1 : decode b_De_number 1 = .ok (.invokestatic 53, 3) := by decide +kernel
theorem d_De_number_4 : decode b_De_number 4 = .ok (.aload_n 0, 1) := by decide +kernel
theorem d_De_number_5 : decode b_De_number 5 = .ok (.iload_n 1, 1) := by decide +kernel
theorem d_De_number_6 : decode b_De_number 6 = .ok (.invokevirtual 117, 3) := by decide +kernel
theorem d_De_number_9 : decode b_De_number 9 = .ok (.astore_n 2, 1) := by decide +kernel
theorem d_De_number_10 : decode b_De_number 10 = .ok (.aload_n 2, 1) := by decide +kernel
theorem d_De_number_11 : decode b_De_number 11 = .ok (.getfield 134, 3) := by decide +kernel
theorem d_De_number_14 : decode b_De_number 14 = .ok (.ifCond .ne 21, 3) := by decide +kernel
theorem d_De_number_17 : decode b_De_number 17 = .ok (.aload_n 0, 1) := by decide +kernel
theorem d_De_number_18 : decode b_De_number 18 = .ok (.dup, 1) := by decide +kernel
theorem d_De_number_19 : decode b_De_number 19 = .ok (.getfield 137, 3) := by decide +kernel
theorem d_De_number_22 : decode b_De_number 22 = .ok (.iconst 1, 1) := by decide +kernel
theorem d_De_number_23 : decode b_De_number 23 = .ok (.iadd, 1) := by decide +kernel
theorem d_De_number_24 : decode b_De_number 24 = .ok (.putfield 137, 3) := by decide +kernel
theorem d_De_number_27 : decode b_De_number 27 = .ok (.aload_n 2, 1) := by decide +kernel
theorem d_De_number_28 : decode b_De_number 28 = .ok (.aload_n 0, 1) := by decide +kernel
theorem d_De_number_29 : decode b_De_number 29 = .ok (.getfield 137, 3) := by decide +kernel
theorem d_De_number_32 : decode b_De_number 32 = .ok (.putfield 134, 3) := by decide +kernel
theorem d_De_number_35 : decode b_De_number 35 = .ok (.aload_n 2, 1) := by decide +kernel
theorem d_De_number_36 : decode b_De_number 36 = .ok (.getfield 134, 3) := by decide +kernel
theorem d_De_number_39 : decode b_De_number 39 = .ok (.ireturn, 1) := by decide +kernel
theorem d_De_size_0 : decode b_De_size 0 = .ok (.iload_n 1, 1) := by decide +kernel
theorem d_De_size_1 : decode b_De_size 1 = .ok (.invokestatic 53, 3) := by decide +kernel
theorem d_De_size_4 : decode b_De_size 4 = .ok (.aload_n 0, 1) := by decide +kernel
theorem d_De_size_5 : decode b_De_size 5 = .ok (.iload_n 1, 1) := by decide +kernel
theorem d_De_size_6 : decode b_De_size 6 = .ok (.invokevirtual 117, 3) := by decide +kernel
theorem d_De_size_9 : decode b_De_size 9 = .ok (.getfield 140, 3) := by decide +kernel
theorem d_De_size_12 : decode b_De_size 12 = .ok (.ireturn, 1) := by decide +kernel
theorem d_De_memory_0 : decode b_De_memory 0 = .ok (.iload_n 1, 1) := by decide +kernel
theorem d_De_memory_1 : decode b_De_memory 1 = .ok (.bipush 16, 2) := by decide +kernel
theorem d_De_memory_3 : decode b_De_memory 3 = .ok (.if_icmp .lt 9, 3) := by decide +kernel
theorem d_De_memory_6 : decode b_De_memory 6 = .ok (.iload_n 1, 1) := by decide +kernel
theorem d_De_memory_7 : decode b_De_memory 7 = .ok (.ldc 21, 2) := by decide +kernel
theorem d_De_memory_9 : decode b_De_memory 9 = .ok (.if_icmp .le 13, 3) := by decide +kernel
theorem d_De_memory_12 : decode b_De_memory 12 = .ok (.new 30, 3) := by decide +kernel
theorem d_De_memory_15 : decode b_De_memory 15 = .ok (.dup, 1) := by decide +kernel
theorem d_De_memory_16 : decode b_De_memory 16 = .ok (.ldc 143, 2) := by decide +kernel
theorem d_De_memory_18 : decode b_De_memory 18 = .ok (.invokespecial 34, 3) := by decide +kernel
theorem d_De_memory_21 : decode b_De_memory 21 = .ok (.athrow, 1) := by decide +kernel
theorem d_De_memory_22 : decode b_De_memory 22 = .ok (.aload_n 0, 1) := by decide +kernel
theorem d_De_memory_23 : decode b_De_memory 23 = .ok (.getfield 145, 3) := by decide +kernel
theorem d_De_memory_26 : decode b_De_memory 26 = .ok (.iload_n 1, 1) := by decide +kernel
theorem d_De_memory_27 : decode b_De_memory 27 = .ok (.if_icmp .le 7, 3) := by decide +kernel
theorem d_De_memory_30 : decode b_De_memory 30 = .ok (.aload_n 0, 1) := by decide +kernel
theorem d_De_memory_31 : decode b_De_memory 31 = .ok (.invokevirtual 148, 3) := by decide +kernel
theorem d_De_memory_34 : decode b_De_memory 34 = .ok (.aload_n 0, 1) := by decide +kernel
theorem d_De_memory_35 : decode b_De_memory 35 = .ok (.getfield 145, 3) := by decide +kernel
theorem d_De_memory_38 : decode b_De_memory 38 = .ok (.iload_n 1, 1) := by decide +kernel
theorem d_De_memory_39 : decode b_De_memory 39 = .ok (.if_icmp .le 5, 3) := by decide +kernel
theorem d_De_memory_42 : decode b_De_memory 42 = .ok (.iconst 0, 1) := by decide +kernel
theorem d_De_memory_43 : decode b_De_memory 43 = .ok (.ireturn, 1) := by decide +kernel
theorem d_De_memory_44 : decode b_De_memory 44 = .ok (.aload_n 0, 1) := by decide +kernel
theorem d_De_memory_45 : decode b_De_memory 45 = .ok (.iload_n 1, 1) := by decide +kernel
theorem d_De_memory_46 : decode b_De_memory 46 = .ok (.putfield 22, 3) := by decide +kernel
theorem d_De_memory_49 : decode b_De_memory 49 = .ok (.iconst 1, 1) := by decide +kernel
theorem d_De_memory_50 : decode b_De_memory 50 = .ok (.ireturn, 1) := by decide +kernel
theorem d_De_every_0 : decode b_De_every 0 = .ok (.iload_n 1, 1) := by decide +kernel
theorem d_De_every_1 : decode b_De_every 1 = .ok (.ifCond .ge 13, 3) := by decide +kernel
theorem d_De_every_4 : decode b_De_every 4 = .ok (.new 30, 3) := by decide +kernel
theorem d_De_every_7 : decode b_De_every 7 = .ok (.dup, 1) := by decide +kernel
theorem d_De_every_8 : decode b_De_every 8 = .ok (.ldc 63, 2) := by decide +kernel
theorem d_De_every_10 : decode b_De_every 10 = .ok (.invokespecial 34, 3) := by decide +kernel
theorem d_De_every_13 : decode b_De_every 13 = .ok (.athrow, 1) := by decide +kernel
theorem d_De_every_14 : decode b_De_every 14 = .ok (.aload_n 0, 1) := by decide +kernel
theorem d_De_every_15 : decode b_De_every 15 = .ok (.iload_n 1, 1) := by decide +kernel
theorem d_De_every_16 : decode b_De_every 16 = .ok (.putfield 151, 3) := by decide +kernel
theorem d_De_every_19 : decode b_De_every 19 = .ok (.return_, 1) := by decide +kernel
end
section
/-! decode rows, laid by program -/
theorem d_Mo_init_0 : decode b_Mo_init 0 = .ok (.aload_n 0, 1) := by decide +kernel
theorem d_Mo_init_1 : decode b_Mo_init 1 = .ok (.invokespecial 1, 3) := by decide +kernel
theorem d_Mo_init_4 : decode b_Mo_init 4 = .ok (.aload_n 0, 1) := by decide +kernel
theorem d_Mo_init_5 : decode b_Mo_init 5 = .ok (.bipush 16, 2) := by decide +kernel
theorem d_Mo_init_7 : decode b_Mo_init 7 = .ok (.newarray .int, 2) := by decide +kernel
theorem d_Mo_init_9 : decode b_Mo_init 9 = .ok (.putfield 7, 3) := by decide +kernel
theorem d_Mo_init_12 : decode b_Mo_init 12 = .ok (.aload_n 0, 1) := by decide +kernel
theorem d_Mo_init_13 : decode b_Mo_init 13 = .ok (.bipush 16, 2) := by decide +kernel
theorem d_Mo_init_15 : decode b_Mo_init 15 = .ok (.newarray .int, 2) := by decide +kernel
theorem d_Mo_init_17 : decode b_Mo_init 17 = .ok (.putfield 13, 3) := by decide +kernel
theorem d_Mo_init_20 : decode b_Mo_init 20 = .ok (.aload_n 0, 1) := by decide +kernel
theorem d_Mo_init_21 : decode b_Mo_init 21 = .ok (.bipush 16, 2) := by decide +kernel
theorem d_Mo_init_23 : decode b_Mo_init 23 = .ok (.newarray .int, 2) := by decide +kernel
theorem d_Mo_init_25 : decode b_Mo_init 25 = .ok (.putfield 16, 3) := by decide +kernel
theorem d_Mo_init_28 : decode b_Mo_init 28 = .ok (.aload_n 0, 1) := by decide +kernel
theorem d_Mo_init_29 : decode b_Mo_init 29 = .ok (.bipush 16, 2) := by decide +kernel
theorem d_Mo_init_31 : decode b_Mo_init 31 = .ok (.newarray .boolean, 2) := by decide +kernel
theorem d_Mo_init_33 : decode b_Mo_init 33 = .ok (.putfield 19, 3) := by decide +kernel
theorem d_Mo_init_36 : decode b_Mo_init 36 = .ok (.aload_n 0, 1) := by decide +kernel
theorem d_Mo_init_37 : decode b_Mo_init 37 = .ok (.sipush 514, 3) := by decide +kernel
theorem d_Mo_init_40 : decode b_Mo_init 40 = .ok (.newarray .int, 2) := by decide +kernel
theorem d_Mo_init_42 : decode b_Mo_init 42 = .ok (.putfield 23, 3) := by decide +kernel
theorem d_Mo_init_45 : decode b_Mo_init 45 = .ok (.aload_n 0, 1) := by decide +kernel
theorem d_Mo_init_46 : decode b_Mo_init 46 = .ok (.sipush 514, 3) := by decide +kernel
theorem d_Mo_init_49 : decode b_Mo_init 49 = .ok (.newarray .int, 2) := by decide +kernel
theorem d_Mo_init_51 : decode b_Mo_init 51 = .ok (.putfield 26, 3) := by decide +kernel
theorem d_Mo_init_54 : decode b_Mo_init 54 = .ok (.aload_n 0, 1) := by decide +kernel
theorem d_Mo_init_55 : decode b_Mo_init 55 = .ok (.sipush 514, 3) := by decide +kernel
theorem d_Mo_init_58 : decode b_Mo_init 58 = .ok (.newarray .int, 2) := by decide +kernel
theorem d_Mo_init_60 : decode b_Mo_init 60 = .ok (.putfield 29, 3) := by decide +kernel
theorem d_Mo_init_63 : decode b_Mo_init 63 = .ok (.aload_n 0, 1) := by decide +kernel
theorem d_Mo_init_64 : decode b_Mo_init 64 = .ok (.ldc 32, 2) := by decide +kernel
theorem d_Mo_init_66 : decode b_Mo_init 66 = .ok (.putfield 33, 3) := by decide +kernel
theorem d_Mo_init_69 : decode b_Mo_init 69 = .ok (.aload_n 0, 1) := by decide +kernel
theorem d_Mo_init_70 : decode b_Mo_init 70 = .ok (.sipush 514, 3) := by decide +kernel
theorem d_Mo_init_73 : decode b_Mo_init 73 = .ok (.newarray .int, 2) := by decide +kernel
theorem d_Mo_init_75 : decode b_Mo_init 75 = .ok (.putfield 37, 3) := by decide +kernel
theorem d_Mo_init_78 : decode b_Mo_init 78 = .ok (.aload_n 0, 1) := by decide +kernel
theorem d_Mo_init_79 : decode b_Mo_init 79 = .ok (.sipush 514, 3) := by decide +kernel
theorem d_Mo_init_82 : decode b_Mo_init 82 = .ok (.newarray .int, 2) := by decide +kernel
theorem d_Mo_init_84 : decode b_Mo_init 84 = .ok (.putfield 40, 3) := by decide +kernel
theorem d_Mo_init_87 : decode b_Mo_init 87 = .ok (.aload_n 0, 1) := by decide +kernel
theorem d_Mo_init_88 : decode b_Mo_init 88 = .ok (.sipush 514, 3) := by decide +kernel
theorem d_Mo_init_91 : decode b_Mo_init 91 = .ok (.newarray .long, 2) := by decide +kernel
theorem d_Mo_init_93 : decode b_Mo_init 93 = .ok (.putfield 43, 3) := by decide +kernel
theorem d_Mo_init_96 : decode b_Mo_init 96 = .ok (.aload_n 0, 1) := by decide +kernel
theorem d_Mo_init_97 : decode b_Mo_init 97 = .ok (.bipush 32, 2) := by decide +kernel
theorem d_Mo_init_99 : decode b_Mo_init 99 = .ok (.newarray .int, 2) := by decide +kernel
theorem d_Mo_init_101 : decode b_Mo_init 101 = .ok (.putfield 47, 3) := by decide +kernel
theorem d_Mo_init_104 : decode b_Mo_init 104 = .ok (.aload_n 0, 1) := by decide +kernel
theorem d_Mo_init_105 : decode b_Mo_init 105 = .ok (.sipush 514, 3) := by decide +kernel
theorem d_Mo_init_108 : decode b_Mo_init 108 = .ok (.newarray .int, 2) := by decide +kernel
theorem d_Mo_init_110 : decode b_Mo_init 110 = .ok (.putfield 50, 3) := by decide +kernel
theorem d_Mo_init_113 : decode b_Mo_init 113 = .ok (.aload_n 0, 1) := by decide +kernel
theorem d_Mo_init_114 : decode b_Mo_init 114 = .ok (.sipush 514, 3) := by decide +kernel
theorem d_Mo_init_117 : decode b_Mo_init 117 = .ok (.newarray .int, 2) := by decide +kernel
theorem d_Mo_init_119 : decode b_Mo_init 119 = .ok (.putfield 53, 3) := by decide +kernel
theorem d_Mo_init_122 : decode b_Mo_init 122 = .ok (.aload_n 0, 1) := by decide +kernel
theorem d_Mo_init_123 : decode b_Mo_init 123 = .ok (.sipush 514, 3) := by decide +kernel
theorem d_Mo_init_126 : decode b_Mo_init 126 = .ok (.newarray .boolean, 2) := by decide +kernel
theorem d_Mo_init_128 : decode b_Mo_init 128 = .ok (.putfield 56, 3) := by decide +kernel
theorem d_Mo_init_131 : decode b_Mo_init 131 = .ok (.return_, 1) := by decide +kernel
theorem d_Mo_thrown_0 : decode b_Mo_thrown 0 = .ok (.aload_n 0, 1) := by decide +kernel
theorem d_Mo_thrown_1 : decode b_Mo_thrown 1 = .ok (.getfield 59, 3) := by decide +kernel
theorem d_Mo_thrown_4 : decode b_Mo_thrown 4 = .ok (.ireturn, 1) := by decide +kernel
theorem d_Mo_plain_0 : decode b_Mo_plain 0 = .ok (.aload_n 0, 1) := by decide +kernel
theorem d_Mo_plain_1 : decode b_Mo_plain 1 = .ok (.iconst 0, 1) := by decide +kernel
theorem d_Mo_plain_2 : decode b_Mo_plain 2 = .ok (.putfield 59, 3) := by decide +kernel
theorem d_Mo_plain_5 : decode b_Mo_plain 5 = .ok (.aload_n 0, 1) := by decide +kernel
theorem d_Mo_plain_6 : decode b_Mo_plain 6 = .ok (.iload_n 1, 1) := by decide +kernel
theorem d_Mo_plain_7 : decode b_Mo_plain 7 = .ok (.bipush 15, 2) := by decide +kernel
theorem d_Mo_plain_9 : decode b_Mo_plain 9 = .ok (.invokestatic 93, 3) := by decide +kernel
theorem d_Mo_plain_12 : decode b_Mo_plain 12 = .ok (.ifCond .eq 12, 3) := by decide +kernel
theorem d_Mo_plain_15 : decode b_Mo_plain 15 = .ok (.iload_n 2, 1) := by decide +kernel
theorem d_Mo_plain_16 : decode b_Mo_plain 16 = .ok (.bipush 16, 2) := by decide +kernel
theorem d_Mo_plain_18 : decode b_Mo_plain 18 = .ok (.invokestatic 93, 3) := by decide +kernel
theorem d_Mo_plain_21 : decode b_Mo_plain 21 = .ok (.ifCond .ne 7, 3) := by decide +kernel
theorem d_Mo_plain_24 : decode b_Mo_plain 24 = .ok (.iconst 1, 1) := by decide +kernel
theorem d_Mo_plain_25 : decode b_Mo_plain 25 = .ok (.goto 4, 3) := by decide +kernel
theorem d_Mo_plain_28 : decode b_Mo_plain 28 = .ok (.iconst 0, 1) := by decide +kernel
theorem d_Mo_plain_29 : decode b_Mo_plain 29 = .ok (.iconst 1, 1) := by decide +kernel
theorem d_Mo_plain_30 : decode b_Mo_plain 30 = .ok (.invokevirtual 96, 3) := by decide +kernel
theorem d_Mo_plain_33 : decode b_Mo_plain 33 = .ok (.ifCond .ne 31, 3) := by decide +kernel
theorem d_Mo_plain_36 : decode b_Mo_plain 36 = .ok (.aload_n 0, 1) := by decide +kernel
theorem d_Mo_plain_37 : decode b_Mo_plain 37 = .ok (.iload_n 3, 1) := by decide +kernel
theorem d_Mo_plain_38 : decode b_Mo_plain 38 = .ok (.iload_n 2, 1) := by decide +kernel
theorem d_Mo_plain_39 : decode b_Mo_plain 39 = .ok (.iushr, 1) := by decide +kernel
theorem d_Mo_plain_40 : decode b_Mo_plain 40 = .ok (.ifCond .ne 12, 3) := by decide +kernel
theorem d_Mo_plain_43 : decode b_Mo_plain 43 = .ok (.aload_n 0, 1) := by decide +kernel
theorem d_Mo_plain_44 : decode b_Mo_plain 44 = .ok (.getfield 19, 3) := by decide +kernel
theorem d_Mo_plain_47 : decode b_Mo_plain 47 = .ok (.iload_n 1, 1) := by decide +kernel
theorem d_Mo_plain_48 : decode b_Mo_plain 48 = .ok (.baload, 1) := by decide +kernel
theorem d_Mo_plain_49 : decode b_Mo_plain 49 = .ok (.ifCond .eq 7, 3) := by decide +kernel
theorem d_Mo_plain_52 : decode b_Mo_plain 52 = .ok (.iconst 1, 1) := by decide +kernel
theorem d_Mo_plain_53 : decode b_Mo_plain 53 = .ok (.goto 4, 3) := by decide +kernel
theorem d_Mo_plain_56 : decode b_Mo_plain 56 = .ok (.iconst 0, 1) := by decide +kernel
theorem d_Mo_plain_57 : decode b_Mo_plain 57 = .ok (.iconst 1, 1) := by decide +kernel
theorem d_Mo_plain_58 : decode b_Mo_plain 58 = .ok (.invokevirtual 96, 3) := by decide +kernel
theorem d_Mo_plain_61 : decode b_Mo_plain 61 = .ok (.ifCond .eq 4, 3) := by decide +kernel
theorem d_Mo_plain_64 : decode b_Mo_plain 64 = .ok (.return_, 1) := by decide +kernel
theorem d_Mo_plain_65 : decode b_Mo_plain 65 = .ok (.aload_n 0, 1) := by decide +kernel
theorem d_Mo_plain_66 : decode b_Mo_plain 66 = .ok (.getfield 19, 3) := by decide +kernel
theorem d_Mo_plain_69 : decode b_Mo_plain 69 = .ok (.iload_n 1, 1) := by decide +kernel
theorem d_Mo_plain_70 : decode b_Mo_plain 70 = .ok (.iconst 1, 1) := by decide +kernel
theorem d_Mo_plain_71 : decode b_Mo_plain 71 = .ok (.bastore, 1) := by decide +kernel
theorem d_Mo_plain_72 : decode b_Mo_plain 72 = .ok (.aload_n 0, 1) := by decide +kernel
theorem d_Mo_plain_73 : decode b_Mo_plain 73 = .ok (.getfield 16, 3) := by decide +kernel
theorem d_Mo_plain_76 : decode b_Mo_plain 76 = .ok (.iload_n 1, 1) := by decide +kernel
theorem d_Mo_plain_77 : decode b_Mo_plain 77 = .ok (.iconst (-1), 1) := by decide +kernel
theorem d_Mo_plain_78 : decode b_Mo_plain 78 = .ok (.iastore, 1) := by decide +kernel
theorem d_Mo_plain_79 : decode b_Mo_plain 79 = .ok (.aload_n 0, 1) := by decide +kernel
theorem d_Mo_plain_80 : decode b_Mo_plain 80 = .ok (.getfield 7, 3) := by decide +kernel
theorem d_Mo_plain_83 : decode b_Mo_plain 83 = .ok (.iload_n 1, 1) := by decide +kernel
theorem d_Mo_plain_84 : decode b_Mo_plain 84 = .ok (.iload_n 2, 1) := by decide +kernel
theorem d_Mo_plain_85 : decode b_Mo_plain 85 = .ok (.iastore, 1) := by decide +kernel
theorem d_Mo_plain_86 : decode b_Mo_plain 86 = .ok (.aload_n 0, 1) := by decide +kernel
theorem d_Mo_plain_87 : decode b_Mo_plain 87 = .ok (.getfield 13, 3) := by decide +kernel
theorem d_Mo_plain_90 : decode b_Mo_plain 90 = .ok (.iload_n 1, 1) := by decide +kernel
theorem d_Mo_plain_91 : decode b_Mo_plain 91 = .ok (.iload_n 3, 1) := by decide +kernel
theorem d_Mo_plain_92 : decode b_Mo_plain 92 = .ok (.iastore, 1) := by decide +kernel
theorem d_Mo_plain_93 : decode b_Mo_plain 93 = .ok (.return_, 1) := by decide +kernel
theorem d_Mo_in_0 : decode b_Mo_in 0 = .ok (.iload_n 0, 1) := by decide +kernel
theorem d_Mo_in_1 : decode b_Mo_in 1 = .ok (.ifCond .lt 12, 3) := by decide +kernel
theorem d_Mo_in_4 : decode b_Mo_in 4 = .ok (.iload_n 0, 1) := by decide +kernel
theorem d_Mo_in_5 : decode b_Mo_in 5 = .ok (.iload_n 1, 1) := by decide +kernel
theorem d_Mo_in_6 : decode b_Mo_in 6 = .ok (.if_icmp .gt 7, 3) := by decide +kernel
theorem d_Mo_in_9 : decode b_Mo_in 9 = .ok (.iconst 1, 1) := by decide +kernel
theorem d_Mo_in_10 : decode b_Mo_in 10 = .ok (.goto 4, 3) := by decide +kernel
theorem d_Mo_in_13 : decode b_Mo_in 13 = .ok (.iconst 0, 1) := by decide +kernel
theorem d_Mo_in_14 : decode b_Mo_in 14 = .ok (.ireturn, 1) := by decide +kernel
theorem d_Mo_fails_0 : decode b_Mo_fails 0 = .ok (.iload_n 1, 1) := by decide +kernel
theorem d_Mo_fails_1 : decode b_Mo_fails 1 = .ok (.ifCond .eq 15, 3) := by decide +kernel
theorem d_Mo_fails_4 : decode b_Mo_fails 4 = .ok (.aload_n 0, 1) := by decide +kernel
theorem d_Mo_fails_5 : decode b_Mo_fails 5 = .ok (.getfield 59, 3) := by decide +kernel
theorem d_Mo_fails_8 : decode b_Mo_fails 8 = .ok (.ifCond .ne 8, 3) := by decide +kernel
theorem d_Mo_fails_11 : decode b_Mo_fails 11 = .ok (.aload_n 0, 1) := by decide +kernel
theorem d_Mo_fails_12 : decode b_Mo_fails 12 = .ok (.iload_n 2, 1) := by decide +kernel
theorem d_Mo_fails_13 : decode b_Mo_fails 13 = .ok (.putfield 59, 3) := by decide +kernel
theorem d_Mo_fails_16 : decode b_Mo_fails 16 = .ok (.aload_n 0, 1) := by decide +kernel
theorem d_Mo_fails_17 : decode b_Mo_fails 17 = .ok (.getfield 59, 3) := by decide +kernel
theorem d_Mo_fails_20 : decode b_Mo_fails 20 = .ok (.ifCond .eq 7, 3) := by decide +kernel
theorem d_Mo_fails_23 : decode b_Mo_fails 23 = .ok (.iconst 1, 1) := by decide +kernel
theorem d_Mo_fails_24 : decode b_Mo_fails 24 = .ok (.goto 4, 3) := by decide +kernel
theorem d_Mo_fails_27 : decode b_Mo_fails 27 = .ok (.iconst 0, 1) := by decide +kernel
theorem d_Mo_fails_28 : decode b_Mo_fails 28 = .ok (.ireturn, 1) := by decide +kernel
theorem d_Mo_row_0 : decode b_Mo_row 0 = .ok (.aload_n 0, 1) := by decide +kernel
theorem d_Mo_row_1 : decode b_Mo_row 1 = .ok (.iconst 0, 1) := by decide +kernel
theorem d_Mo_row_2 : decode b_Mo_row 2 = .ok (.putfield 59, 3) := by decide +kernel
theorem d_Mo_row_5 : decode b_Mo_row 5 = .ok (.aload_n 0, 1) := by decide +kernel
theorem d_Mo_row_6 : decode b_Mo_row 6 = .ok (.iload_n 1, 1) := by decide +kernel
theorem d_Mo_row_7 : decode b_Mo_row 7 = .ok (.bipush 15, 2) := by decide +kernel
theorem d_Mo_row_9 : decode b_Mo_row 9 = .ok (.invokestatic 93, 3) := by decide +kernel
theorem d_Mo_row_12 : decode b_Mo_row 12 = .ok (.ifCond .eq 11, 3) := by decide +kernel
theorem d_Mo_row_15 : decode b_Mo_row 15 = .ok (.iload_n 2, 1) := by decide +kernel
theorem d_Mo_row_16 : decode b_Mo_row 16 = .ok (.iconst 4, 1) := by decide +kernel
theorem d_Mo_row_17 : decode b_Mo_row 17 = .ok (.invokestatic 93, 3) := by decide +kernel
theorem d_Mo_row_20 : decode b_Mo_row 20 = .ok (.ifCond .ne 7, 3) := by decide +kernel
theorem d_Mo_row_23 : decode b_Mo_row 23 = .ok (.iconst 1, 1) := by decide +kernel
theorem d_Mo_row_24 : decode b_Mo_row 24 = .ok (.goto 4, 3) := by decide +kernel
theorem d_Mo_row_27 : decode b_Mo_row 27 = .ok (.iconst 0, 1) := by decide +kernel
theorem d_Mo_row_28 : decode b_Mo_row 28 = .ok (.iconst 1, 1) := by decide +kernel
theorem d_Mo_row_29 : decode b_Mo_row 29 = .ok (.invokevirtual 96, 3) := by decide +kernel
theorem d_Mo_row_32 : decode b_Mo_row 32 = .ok (.ifCond .ne 17, 3) := by decide +kernel
theorem d_Mo_row_35 : decode b_Mo_row 35 = .ok (.aload_n 0, 1) := by decide +kernel
theorem d_Mo_row_36 : decode b_Mo_row 36 = .ok (.aload_n 0, 1) := by decide +kernel
theorem d_Mo_row_37 : decode b_Mo_row 37 = .ok (.getfield 19, 3) := by decide +kernel
theorem d_Mo_row_40 : decode b_Mo_row 40 = .ok (.iload_n 1, 1) := by decide +kernel
theorem d_Mo_row_41 : decode b_Mo_row 41 = .ok (.baload, 1) := by decide +kernel
theorem d_Mo_row_42 : decode b_Mo_row 42 = .ok (.iconst 1, 1) := by decide +kernel
theorem d_Mo_row_43 : decode b_Mo_row 43 = .ok (.invokevirtual 96, 3) := by decide +kernel
theorem d_Mo_row_46 : decode b_Mo_row 46 = .ok (.ifCond .eq 4, 3) := by decide +kernel
theorem d_Mo_row_49 : decode b_Mo_row 49 = .ok (.return_, 1) := by decide +kernel
theorem d_Mo_row_50 : decode b_Mo_row 50 = .ok (.aload_n 0, 1) := by decide +kernel
theorem d_Mo_row_51 : decode b_Mo_row 51 = .ok (.getfield 19, 3) := by decide +kernel
theorem d_Mo_row_54 : decode b_Mo_row 54 = .ok (.iload_n 1, 1) := by decide +kernel
theorem d_Mo_row_55 : decode b_Mo_row 55 = .ok (.iconst 1, 1) := by decide +kernel
theorem d_Mo_row_56 : decode b_Mo_row 56 = .ok (.bastore, 1) := by decide +kernel
theorem d_Mo_row_57 : decode b_Mo_row 57 = .ok (.aload_n 0, 1) := by decide +kernel
theorem d_Mo_row_58 : decode b_Mo_row 58 = .ok (.getfield 16, 3) := by decide +kernel
theorem d_Mo_row_61 : decode b_Mo_row 61 = .ok (.iload_n 1, 1) := by decide +kernel
theorem d_Mo_row_62 : decode b_Mo_row 62 = .ok (.iload_n 2, 1) := by decide +kernel
theorem d_Mo_row_63 : decode b_Mo_row 63 = .ok (.iastore, 1) := by decide +kernel
theorem d_Mo_row_64 : decode b_Mo_row 64 = .ok (.return_, 1) := by decide +kernel
theorem d_Mo_make_0 : decode b_Mo_make 0 = .ok (.aload_n 0, 1) := by decide +kernel
theorem d_Mo_make_1 : decode b_Mo_make 1 = .ok (.iconst 0, 1) := by decide +kernel
theorem d_Mo_make_2 : decode b_Mo_make 2 = .ok (.putfield 59, 3) := by decide +kernel
theorem d_Mo_make_5 : decode b_Mo_make 5 = .ok (.aload_n 0, 1) := by decide +kernel
theorem d_Mo_make_6 : decode b_Mo_make 6 = .ok (.iload_n 1, 1) := by decide +kernel
theorem d_Mo_make_7 : decode b_Mo_make 7 = .ok (.bipush 31, 2) := by decide +kernel
theorem d_Mo_make_9 : decode b_Mo_make 9 = .ok (.invokestatic 93, 3) := by decide +kernel
theorem d_Mo_make_12 : decode b_Mo_make 12 = .ok (.ifCond .eq 34, 3) := by decide +kernel
theorem d_Mo_make_15 : decode b_Mo_make 15 = .ok (.iload_n 2, 1) := by decide +kernel
theorem d_Mo_make_16 : decode b_Mo_make 16 = .ok (.bipush 15, 2) := by decide +kernel
theorem d_Mo_make_18 : decode b_Mo_make 18 = .ok (.invokestatic 93, 3) := by decide +kernel
theorem d_Mo_make_21 : decode b_Mo_make 21 = .ok (.ifCond .eq 25, 3) := by decide +kernel
theorem d_Mo_make_24 : decode b_Mo_make 24 = .ok (.aload_n 0, 1) := by decide +kernel
theorem d_Mo_make_25 : decode b_Mo_make 25 = .ok (.getfield 19, 3) := by decide +kernel
theorem d_Mo_make_28 : decode b_Mo_make 28 = .ok (.iload_n 2, 1) := by decide +kernel
theorem d_Mo_make_29 : decode b_Mo_make 29 = .ok (.baload, 1) := by decide +kernel
theorem d_Mo_make_30 : decode b_Mo_make 30 = .ok (.ifCond .eq 20, 3) := by decide +kernel
theorem d_Mo_make_33 : decode b_Mo_make 33 = .ok (.aload_n 0, 1) := by decide +kernel
theorem d_Mo_make_34 : decode b_Mo_make 34 = .ok (.getfield 16, 3) := by decide +kernel
theorem d_Mo_make_37 : decode b_Mo_make 37 = .ok (.iload_n 2, 1) := by decide +kernel
theorem d_Mo_make_38 : decode b_Mo_make 38 = .ok (.iaload, 1) := by decide +kernel
theorem d_Mo_make_39 : decode b_Mo_make 39 = .ok (.ifCond .lt 11, 3) := by decide +kernel
theorem d_Mo_make_42 : decode b_Mo_make 42 = .ok (.iload_n 3, 1) := by decide +kernel
theorem d_Mo_make_43 : decode b_Mo_make 43 = .ok (.ifCond .ge 7, 3) := by decide +kernel
theorem d_Mo_make_46 : decode b_Mo_make 46 = .ok (.iconst 1, 1) := by decide +kernel
theorem d_Mo_make_47 : decode b_Mo_make 47 = .ok (.goto 4, 3) := by decide +kernel
theorem d_Mo_make_50 : decode b_Mo_make 50 = .ok (.iconst 0, 1) := by decide +kernel
theorem d_Mo_make_51 : decode b_Mo_make 51 = .ok (.iconst 1, 1) := by decide +kernel
theorem d_Mo_make_52 : decode b_Mo_make 52 = .ok (.invokevirtual 96, 3) := by decide +kernel
theorem d_Mo_make_55 : decode b_Mo_make 55 = .ok (.ifCond .ne 25, 3) := by decide +kernel
theorem d_Mo_make_58 : decode b_Mo_make 58 = .ok (.aload_n 0, 1) := by decide +kernel
theorem d_Mo_make_59 : decode b_Mo_make 59 = .ok (.aload_n 0, 1) := by decide +kernel
theorem d_Mo_make_60 : decode b_Mo_make 60 = .ok (.getfield 19, 3) := by decide +kernel
theorem d_Mo_make_63 : decode b_Mo_make 63 = .ok (.iload_n 2, 1) := by decide +kernel
theorem d_Mo_make_64 : decode b_Mo_make 64 = .ok (.baload, 1) := by decide +kernel
theorem d_Mo_make_65 : decode b_Mo_make 65 = .ok (.ifCond .ne 7, 3) := by decide +kernel
theorem d_Mo_make_68 : decode b_Mo_make 68 = .ok (.iconst 1, 1) := by decide +kernel
theorem d_Mo_make_69 : decode b_Mo_make 69 = .ok (.goto 4, 3) := by decide +kernel
theorem d_Mo_make_72 : decode b_Mo_make 72 = .ok (.iconst 0, 1) := by decide +kernel
theorem d_Mo_make_73 : decode b_Mo_make 73 = .ok (.iconst 2, 1) := by decide +kernel
theorem d_Mo_make_74 : decode b_Mo_make 74 = .ok (.invokevirtual 96, 3) := by decide +kernel
theorem d_Mo_make_77 : decode b_Mo_make 77 = .ok (.ifCond .eq 5, 3) := by decide +kernel
theorem d_Mo_make_80 : decode b_Mo_make 80 = .ok (.iconst 0, 1) := by decide +kernel
theorem d_Mo_make_81 : decode b_Mo_make 81 = .ok (.ireturn, 1) := by decide +kernel
theorem d_Mo_make_82 : decode b_Mo_make 82 = .ok (.aload_n 0, 1) := by decide +kernel
theorem d_Mo_make_83 : decode b_Mo_make 83 = .ok (.getfield 16, 3) := by decide +kernel
theorem d_Mo_make_86 : decode b_Mo_make 86 = .ok (.iload_n 2, 1) := by decide +kernel
theorem d_Mo_make_87 : decode b_Mo_make 87 = .ok (.iaload, 1) := by decide +kernel
theorem d_Mo_make_88 : decode b_Mo_make 88 = .ok (.aload_n 0, 1) := by decide +kernel
theorem d_Mo_make_89 : decode b_Mo_make 89 = .ok (.getfield 16, 3) := by decide +kernel
theorem d_Mo_make_92 : decode b_Mo_make 92 = .ok (.iload_n 2, 1) := by decide +kernel
theorem d_Mo_make_93 : decode b_Mo_make 93 = .ok (.iaload, 1) := by decide +kernel
theorem d_Mo_make_94 : decode b_Mo_make 94 = .ok (.ifCond .ge 13, 3) := by decide +kernel
theorem d_Mo_make_97 : decode b_Mo_make 97 = .ok (.aload_n 0, 1) := by decide +kernel
theorem d_Mo_make_98 : decode b_Mo_make 98 = .ok (.getfield 7, 3) := by decide +kernel
theorem d_Mo_make_101 : decode b_Mo_make 101 = .ok (.iload_n 2, 1) := by decide +kernel
theorem d_Mo_make_102 : decode b_Mo_make 102 = .ok (.iaload, 1) := by decide +kernel
theorem d_Mo_make_103 : decode b_Mo_make 103 = .ok (.i2l, 1) := by decide +kernel
theorem d_Mo_make_104 : decode b_Mo_make 104 = .ok (.goto 5, 3) := by decide +kernel
theorem d_Mo_make_107 : decode b_Mo_make 107 = .ok (.iload_n 3, 1) := by decide +kernel
theorem d_Mo_make_108 : decode b_Mo_make 108 = .ok (.i2l, 1) := by decide +kernel
theorem d_Mo_make_109 : decode b_Mo_make 109 = .ok (.invokestatic 81, 3) := by decide +kernel
theorem d_Mo_make_112 : decode b_Mo_make 112 = .ok (.lstore 4, 2) := by decide +kernel
theorem d_Mo_make_114 : decode b_Mo_make 114 = .ok (.aload_n 0, 1) := by decide +kernel
theorem d_Mo_make_115 : decode b_Mo_make 115 = .ok (.aload_n 0, 1) := by decide +kernel
theorem d_Mo_make_116 : decode b_Mo_make 116 = .ok (.invokevirtual 100, 3) := by decide +kernel
theorem d_Mo_make_119 : decode b_Mo_make 119 = .ok (.lload 4, 2) := by decide +kernel
theorem d_Mo_make_121 : decode b_Mo_make 121 = .ok (.ladd, 1) := by decide +kernel
theorem d_Mo_make_122 : decode b_Mo_make 122 = .ok (.aload_n 0, 1) := by decide +kernel
theorem d_Mo_make_123 : decode b_Mo_make 123 = .ok (.getfield 33, 3) := by decide +kernel
theorem d_Mo_make_126 : decode b_Mo_make 126 = .ok (.i2l, 1) := by decide +kernel
theorem d_Mo_make_127 : decode b_Mo_make 127 = .ok (.lcmp, 1) := by decide +kernel
theorem d_Mo_make_128 : decode b_Mo_make 128 = .ok (.ifCond .le 7, 3) := by decide +kernel
theorem d_Mo_make_131 : decode b_Mo_make 131 = .ok (.iconst 1, 1) := by decide +kernel
theorem d_Mo_make_132 : decode b_Mo_make 132 = .ok (.goto 4, 3) := by decide +kernel
theorem d_Mo_make_135 : decode b_Mo_make 135 = .ok (.iconst 0, 1) := by decide +kernel
theorem d_Mo_make_136 : decode b_Mo_make 136 = .ok (.iconst 3, 1) := by decide +kernel
theorem d_Mo_make_137 : decode b_Mo_make 137 = .ok (.invokevirtual 96, 3) := by decide +kernel
theorem d_Mo_make_140 : decode b_Mo_make 140 = .ok (.ifCond .eq 5, 3) := by decide +kernel
theorem d_Mo_make_143 : decode b_Mo_make 143 = .ok (.iconst 0, 1) := by decide +kernel
theorem d_Mo_make_144 : decode b_Mo_make 144 = .ok (.ireturn, 1) := by decide +kernel
theorem d_Mo_make_145 : decode b_Mo_make 145 = .ok (.aload_n 0, 1) := by decide +kernel
theorem d_Mo_make_146 : decode b_Mo_make 146 = .ok (.dup, 1) := by decide +kernel
theorem d_Mo_make_147 : decode b_Mo_make 147 = .ok (.getfield 71, 3) := by decide +kernel
theorem d_Mo_make_150 : decode b_Mo_make 150 = .ok (.iconst 1, 1) := by decide +kernel
theorem d_Mo_make_151 : decode b_Mo_make 151 = .ok (.iadd, 1) := by decide +kernel
theorem d_Mo_make_152 : decode b_Mo_make 152 = .ok (.putfield 71, 3) := by decide +kernel
theorem d_Mo_make_155 : decode b_Mo_make 155 = .ok (.aload_n 0, 1) := by decide +kernel
theorem d_Mo_make_156 : decode b_Mo_make 156 = .ok (.getfield 23, 3) := by decide +kernel
theorem d_Mo_make_159 : decode b_Mo_make 159 = .ok (.aload_n 0, 1) := by decide +kernel
theorem d_Mo_make_160 : decode b_Mo_make 160 = .ok (.getfield 71, 3) := by decide +kernel
theorem d_Mo_make_163 : decode b_Mo_make 163 = .ok (.iload_n 2, 1) := by decide +kernel
theorem d_Mo_make_164 : decode b_Mo_make 164 = .ok (.iastore, 1) := by decide +kernel
theorem d_Mo_make_165 : decode b_Mo_make 165 = .ok (.aload_n 0, 1) := by decide +kernel
theorem d_Mo_make_166 : decode b_Mo_make 166 = .ok (.getfield 26, 3) := by decide +kernel
theorem d_Mo_make_169 : decode b_Mo_make 169 = .ok (.aload_n 0, 1) := by decide +kernel
theorem d_Mo_make_170 : decode b_Mo_make 170 = .ok (.getfield 71, 3) := by decide +kernel
theorem d_Mo_make_173 : decode b_Mo_make 173 = .ok (.iload_n 3, 1) := by decide +kernel
theorem d_Mo_make_174 : decode b_Mo_make 174 = .ok (.iastore, 1) := by decide +kernel
theorem d_Mo_make_175 : decode b_Mo_make 175 = .ok (.aload_n 0, 1) := by decide +kernel
theorem d_Mo_make_176 : decode b_Mo_make 176 = .ok (.getfield 47, 3) := by decide +kernel
theorem d_Mo_make_179 : decode b_Mo_make 179 = .ok (.iload_n 1, 1) := by decide +kernel
theorem d_Mo_make_180 : decode b_Mo_make 180 = .ok (.aload_n 0, 1) := by decide +kernel
theorem d_Mo_make_181 : decode b_Mo_make 181 = .ok (.getfield 71, 3) := by decide +kernel
theorem d_Mo_make_184 : decode b_Mo_make 184 = .ok (.iastore, 1) := by decide +kernel
theorem d_Mo_make_185 : decode b_Mo_make 185 = .ok (.aload_n 0, 1) := by decide +kernel
theorem d_Mo_make_186 : decode b_Mo_make 186 = .ok (.getfield 71, 3) := by decide +kernel
theorem d_Mo_make_189 : decode b_Mo_make 189 = .ok (.ireturn, 1) := by decide +kernel
theorem d_Mo_takes_0 : decode b_Mo_takes 0 = .ok (.iload_n 0, 1) := by decide +kernel
theorem d_Mo_takes_1 : decode b_Mo_takes 1 = .ok (.ifCond .ge 9, 3) := by decide +kernel
theorem d_Mo_takes_4 : decode b_Mo_takes 4 = .ok (.ldc2_w 62, 3) := by decide +kernel
theorem d_Mo_takes_7 : decode b_Mo_takes 7 = .ok (.lload_n 1, 1) := by decide +kernel
theorem d_Mo_takes_8 : decode b_Mo_takes 8 = .ok (.ladd, 1) := by decide +kernel
theorem d_Mo_takes_9 : decode b_Mo_takes 9 = .ok (.lreturn, 1) := by decide +kernel
theorem d_Mo_takes_10 : decode b_Mo_takes 10 = .ok (.ldc2_w 64, 3) := by decide +kernel
theorem d_Mo_takes_13 : decode b_Mo_takes 13 = .ok (.iload_n 0, 1) := by decide +kernel
theorem d_Mo_takes_14 : decode b_Mo_takes 14 = .ok (.iconst 4, 1) := by decide +kernel
theorem d_Mo_takes_15 : decode b_Mo_takes 15 = .ok (.if_icmp .ne 11, 3) := by decide +kernel
theorem d_Mo_takes_18 : decode b_Mo_takes 18 = .ok (.ldc2_w 66, 3) := by decide +kernel
theorem d_Mo_takes_21 : decode b_Mo_takes 21 = .ok (.lload_n 1, 1) := by decide +kernel
theorem d_Mo_takes_22 : decode b_Mo_takes 22 = .ok (.lmul, 1) := by decide +kernel
theorem d_Mo_takes_23 : decode b_Mo_takes 23 = .ok (.goto 36, 3) := by decide +kernel
theorem d_Mo_takes_26 : decode b_Mo_takes 26 = .ok (.iload_n 0, 1) := by decide +kernel
theorem d_Mo_takes_27 : decode b_Mo_takes 27 = .ok (.iconst 2, 1) := by decide +kernel
theorem d_Mo_takes_28 : decode b_Mo_takes 28 = .ok (.if_icmp .ne 13, 3) := by decide +kernel
theorem d_Mo_takes_31 : decode b_Mo_takes 31 = .ok (.lload_n 1, 1) := by decide +kernel
theorem d_Mo_takes_32 : decode b_Mo_takes 32 = .ok (.lconst 1, 1) := by decide +kernel
theorem d_Mo_takes_33 : decode b_Mo_takes 33 = .ok (.ladd, 1) := by decide +kernel
theorem d_Mo_takes_34 : decode b_Mo_takes 34 = .ok (.ldc2_w 66, 3) := by decide +kernel
theorem d_Mo_takes_37 : decode b_Mo_takes 37 = .ok (.ldiv, 1) := by decide +kernel
theorem d_Mo_takes_38 : decode b_Mo_takes 38 = .ok (.goto 21, 3) := by decide +kernel
theorem d_Mo_takes_41 : decode b_Mo_takes 41 = .ok (.iload_n 0, 1) := by decide +kernel
theorem d_Mo_takes_42 : decode b_Mo_takes 42 = .ok (.iconst 1, 1) := by decide +kernel
theorem d_Mo_takes_43 : decode b_Mo_takes 43 = .ok (.if_icmp .ne 15, 3) := by decide +kernel
theorem d_Mo_takes_46 : decode b_Mo_takes 46 = .ok (.lload_n 1, 1) := by decide +kernel
theorem d_Mo_takes_47 : decode b_Mo_takes 47 = .ok (.ldc2_w 62, 3) := by decide +kernel
theorem d_Mo_takes_50 : decode b_Mo_takes 50 = .ok (.ladd, 1) := by decide +kernel
theorem d_Mo_takes_51 : decode b_Mo_takes 51 = .ok (.ldc2_w 64, 3) := by decide +kernel
theorem d_Mo_takes_54 : decode b_Mo_takes 54 = .ok (.ldiv, 1) := by decide +kernel
theorem d_Mo_takes_55 : decode b_Mo_takes 55 = .ok (.goto 4, 3) := by decide +kernel
theorem d_Mo_takes_58 : decode b_Mo_takes 58 = .ok (.lload_n 1, 1) := by decide +kernel
theorem d_Mo_takes_59 : decode b_Mo_takes 59 = .ok (.ladd, 1) := by decide +kernel
theorem d_Mo_takes_60 : decode b_Mo_takes 60 = .ok (.lreturn, 1) := by decide +kernel
theorem d_Mo_reachable_0 : decode b_Mo_reachable 0 = .ok (.iconst 0, 1) := by decide +kernel
theorem d_Mo_reachable_1 : decode b_Mo_reachable 1 = .ok (.istore_n 1, 1) := by decide +kernel
theorem d_Mo_reachable_2 : decode b_Mo_reachable 2 = .ok (.lconst 0, 1) := by decide +kernel
theorem d_Mo_reachable_3 : decode b_Mo_reachable 3 = .ok (.lstore_n 2, 1) := by decide +kernel
theorem d_Mo_reachable_4 : decode b_Mo_reachable 4 = .ok (.iconst 1, 1) := by decide +kernel
theorem d_Mo_reachable_5 : decode b_Mo_reachable 5 = .ok (.istore 4, 2) := by decide +kernel
theorem d_Mo_reachable_7 : decode b_Mo_reachable 7 = .ok (.iload 4, 2) := by decide +kernel
theorem d_Mo_reachable_9 : decode b_Mo_reachable 9 = .ok (.aload_n 0, 1) := by decide +kernel
theorem d_Mo_reachable_10 : decode b_Mo_reachable 10 = .ok (.getfield 71, 3) := by decide +kernel
theorem d_Mo_reachable_13 : decode b_Mo_reachable 13 = .ok (.if_icmp .gt 17, 3) := by decide +kernel
theorem d_Mo_reachable_16 : decode b_Mo_reachable 16 = .ok (.aload_n 0, 1) := by decide +kernel
theorem d_Mo_reachable_17 : decode b_Mo_reachable 17 = .ok (.getfield 56, 3) := by decide +kernel
theorem d_Mo_reachable_20 : decode b_Mo_reachable 20 = .ok (.iload 4, 2) := by decide +kernel
theorem d_Mo_reachable_22 : decode b_Mo_reachable 22 = .ok (.iconst 0, 1) := by decide +kernel
theorem d_Mo_reachable_23 : decode b_Mo_reachable 23 = .ok (.bastore, 1) := by decide +kernel
theorem d_Mo_reachable_24 : decode b_Mo_reachable 24 = .ok (.iinc 4 1, 3) := by decide +kernel
theorem d_Mo_reachable_27 : decode b_Mo_reachable 27 = .ok (.goto (-20), 3) := by decide +kernel
theorem d_Mo_reachable_30 : decode b_Mo_reachable 30 = .ok (.iconst 0, 1) := by decide +kernel
theorem d_Mo_reachable_31 : decode b_Mo_reachable 31 = .ok (.istore 4, 2) := by decide +kernel
theorem d_Mo_reachable_33 : decode b_Mo_reachable 33 = .ok (.iload 4, 2) := by decide +kernel
theorem d_Mo_reachable_35 : decode b_Mo_reachable 35 = .ok (.bipush 32, 2) := by decide +kernel
theorem d_Mo_reachable_37 : decode b_Mo_reachable 37 = .ok (.if_icmp .ge 63, 3) := by decide +kernel
theorem d_Mo_reachable_40 : decode b_Mo_reachable 40 = .ok (.aload_n 0, 1) := by decide +kernel
theorem d_Mo_reachable_41 : decode b_Mo_reachable 41 = .ok (.getfield 47, 3) := by decide +kernel
theorem d_Mo_reachable_44 : decode b_Mo_reachable 44 = .ok (.iload 4, 2) := by decide +kernel
theorem d_Mo_reachable_46 : decode b_Mo_reachable 46 = .ok (.iaload, 1) := by decide +kernel
theorem d_Mo_reachable_47 : decode b_Mo_reachable 47 = .ok (.ifCond .eq 47, 3) := by decide +kernel
theorem d_Mo_reachable_50 : decode b_Mo_reachable 50 = .ok (.aload_n 0, 1) := by decide +kernel
theorem d_Mo_reachable_51 : decode b_Mo_reachable 51 = .ok (.getfield 56, 3) := by decide +kernel
theorem d_Mo_reachable_54 : decode b_Mo_reachable 54 = .ok (.aload_n 0, 1) := by decide +kernel
theorem d_Mo_reachable_55 : decode b_Mo_reachable 55 = .ok (.getfield 47, 3) := by decide +kernel
theorem d_Mo_reachable_58 : decode b_Mo_reachable 58 = .ok (.iload 4, 2) := by decide +kernel
theorem d_Mo_reachable_60 : decode b_Mo_reachable 60 = .ok (.iaload, 1) := by decide +kernel
theorem d_Mo_reachable_61 : decode b_Mo_reachable 61 = .ok (.baload, 1) := by decide +kernel
theorem d_Mo_reachable_62 : decode b_Mo_reachable 62 = .ok (.ifCond .ne 32, 3) := by decide +kernel
theorem d_Mo_reachable_65 : decode b_Mo_reachable 65 = .ok (.aload_n 0, 1) := by decide +kernel
theorem d_Mo_reachable_66 : decode b_Mo_reachable 66 = .ok (.getfield 56, 3) := by decide +kernel
theorem d_Mo_reachable_69 : decode b_Mo_reachable 69 = .ok (.aload_n 0, 1) := by decide +kernel
theorem d_Mo_reachable_70 : decode b_Mo_reachable 70 = .ok (.getfield 47, 3) := by decide +kernel
theorem d_Mo_reachable_73 : decode b_Mo_reachable 73 = .ok (.iload 4, 2) := by decide +kernel
theorem d_Mo_reachable_75 : decode b_Mo_reachable 75 = .ok (.iaload, 1) := by decide +kernel
theorem d_Mo_reachable_76 : decode b_Mo_reachable 76 = .ok (.iconst 1, 1) := by decide +kernel
theorem d_Mo_reachable_77 : decode b_Mo_reachable 77 = .ok (.bastore, 1) := by decide +kernel
theorem d_Mo_reachable_78 : decode b_Mo_reachable 78 = .ok (.aload_n 0, 1) := by decide +kernel
theorem d_Mo_reachable_79 : decode b_Mo_reachable 79 = .ok (.getfield 53, 3) := by decide +kernel
theorem d_Mo_reachable_82 : decode b_Mo_reachable 82 = .ok (.iload_n 1, 1) := by decide +kernel
theorem d_Mo_reachable_83 : decode b_Mo_reachable 83 = .ok (.iinc 1 1, 3) := by decide +kernel
theorem d_Mo_reachable_86 : decode b_Mo_reachable 86 = .ok (.aload_n 0, 1) := by decide +kernel
theorem d_Mo_reachable_87 : decode b_Mo_reachable 87 = .ok (.getfield 47, 3) := by decide +kernel
theorem d_Mo_reachable_90 : decode b_Mo_reachable 90 = .ok (.iload 4, 2) := by decide +kernel
theorem d_Mo_reachable_92 : decode b_Mo_reachable 92 = .ok (.iaload, 1) := by decide +kernel
theorem d_Mo_reachable_93 : decode b_Mo_reachable 93 = .ok (.iastore, 1) := by decide +kernel
theorem d_Mo_reachable_94 : decode b_Mo_reachable 94 = .ok (.iinc 4 1, 3) := by decide +kernel
theorem d_Mo_reachable_97 : decode b_Mo_reachable 97 = .ok (.goto (-64), 3) := by decide +kernel
theorem d_Mo_reachable_100 : decode b_Mo_reachable 100 = .ok (.iconst 0, 1) := by decide +kernel
theorem d_Mo_reachable_101 : decode b_Mo_reachable 101 = .ok (.istore 4, 2) := by decide +kernel
theorem d_Mo_reachable_103 : decode b_Mo_reachable 103 = .ok (.iload 4, 2) := by decide +kernel
theorem d_Mo_reachable_105 : decode b_Mo_reachable 105 = .ok (.aload_n 0, 1) := by decide +kernel
theorem d_Mo_reachable_106 : decode b_Mo_reachable 106 = .ok (.getfield 74, 3) := by decide +kernel
theorem d_Mo_reachable_109 : decode b_Mo_reachable 109 = .ok (.if_icmp .ge 53, 3) := by decide +kernel
theorem d_Mo_reachable_112 : decode b_Mo_reachable 112 = .ok (.aload_n 0, 1) := by decide +kernel
theorem d_Mo_reachable_113 : decode b_Mo_reachable 113 = .ok (.getfield 56, 3) := by decide +kernel
theorem d_Mo_reachable_116 : decode b_Mo_reachable 116 = .ok (.aload_n 0, 1) := by decide +kernel
theorem d_Mo_reachable_117 : decode b_Mo_reachable 117 = .ok (.getfield 50, 3) := by decide +kernel
theorem d_Mo_reachable_120 : decode b_Mo_reachable 120 = .ok (.iload 4, 2) := by decide +kernel
theorem d_Mo_reachable_122 : decode b_Mo_reachable 122 = .ok (.iaload, 1) := by decide +kernel
theorem d_Mo_reachable_123 : decode b_Mo_reachable 123 = .ok (.baload, 1) := by decide +kernel
theorem d_Mo_reachable_124 : decode b_Mo_reachable 124 = .ok (.ifCond .ne 32, 3) := by decide +kernel
theorem d_Mo_reachable_127 : decode b_Mo_reachable 127 = .ok (.aload_n 0, 1) := by decide +kernel
theorem d_Mo_reachable_128 : decode b_Mo_reachable 128 = .ok (.getfield 56, 3) := by decide +kernel
theorem d_Mo_reachable_131 : decode b_Mo_reachable 131 = .ok (.aload_n 0, 1) := by decide +kernel
theorem d_Mo_reachable_132 : decode b_Mo_reachable 132 = .ok (.getfield 50, 3) := by decide +kernel
theorem d_Mo_reachable_135 : decode b_Mo_reachable 135 = .ok (.iload 4, 2) := by decide +kernel
theorem d_Mo_reachable_137 : decode b_Mo_reachable 137 = .ok (.iaload, 1) := by decide +kernel
theorem d_Mo_reachable_138 : decode b_Mo_reachable 138 = .ok (.iconst 1, 1) := by decide +kernel
theorem d_Mo_reachable_139 : decode b_Mo_reachable 139 = .ok (.bastore, 1) := by decide +kernel
theorem d_Mo_reachable_140 : decode b_Mo_reachable 140 = .ok (.aload_n 0, 1) := by decide +kernel
theorem d_Mo_reachable_141 : decode b_Mo_reachable 141 = .ok (.getfield 53, 3) := by decide +kernel
theorem d_Mo_reachable_144 : decode b_Mo_reachable 144 = .ok (.iload_n 1, 1) := by decide +kernel
theorem d_Mo_reachable_145 : decode b_Mo_reachable 145 = .ok (.iinc 1 1, 3) := by decide +kernel
theorem d_Mo_reachable_148 : decode b_Mo_reachable 148 = .ok (.aload_n 0, 1) := by decide +kernel
theorem d_Mo_reachable_149 : decode b_Mo_reachable 149 = .ok (.getfield 50, 3) := by decide +kernel
theorem d_Mo_reachable_152 : decode b_Mo_reachable 152 = .ok (.iload 4, 2) := by decide +kernel
theorem d_Mo_reachable_154 : decode b_Mo_reachable 154 = .ok (.iaload, 1) := by decide +kernel
theorem d_Mo_reachable_155 : decode b_Mo_reachable 155 = .ok (.iastore, 1) := by decide +kernel
theorem d_Mo_reachable_156 : decode b_Mo_reachable 156 = .ok (.iinc 4 1, 3) := by decide +kernel
theorem d_Mo_reachable_159 : decode b_Mo_reachable 159 = .ok (.goto (-56), 3) := by decide +kernel
theorem d_Mo_reachable_162 : decode b_Mo_reachable 162 = .ok (.iload_n 1, 1) := by decide +kernel
theorem d_Mo_reachable_163 : decode b_Mo_reachable 163 = .ok (.ifCond .le 141, 3) := by decide +kernel
theorem d_Mo_reachable_166 : decode b_Mo_reachable 166 = .ok (.aload_n 0, 1) := by decide +kernel
theorem d_Mo_reachable_167 : decode b_Mo_reachable 167 = .ok (.getfield 53, 3) := by decide +kernel
theorem d_Mo_reachable_170 : decode b_Mo_reachable 170 = .ok (.iinc 1 (-1), 3) := by decide +kernel
theorem d_Mo_reachable_173 : decode b_Mo_reachable 173 = .ok (.iload_n 1, 1) := by decide +kernel
theorem d_Mo_reachable_174 : decode b_Mo_reachable 174 = .ok (.iaload, 1) := by decide +kernel
theorem d_Mo_reachable_175 : decode b_Mo_reachable 175 = .ok (.istore 4, 2) := by decide +kernel
theorem d_Mo_reachable_177 : decode b_Mo_reachable 177 = .ok (.lload_n 2, 1) := by decide +kernel
theorem d_Mo_reachable_178 : decode b_Mo_reachable 178 = .ok (.aload_n 0, 1) := by decide +kernel
theorem d_Mo_reachable_179 : decode b_Mo_reachable 179 = .ok (.getfield 16, 3) := by decide +kernel
theorem d_Mo_reachable_182 : decode b_Mo_reachable 182 = .ok (.aload_n 0, 1) := by decide +kernel
theorem d_Mo_reachable_183 : decode b_Mo_reachable 183 = .ok (.getfield 23, 3) := by decide +kernel
theorem d_Mo_reachable_186 : decode b_Mo_reachable 186 = .ok (.iload 4, 2) := by decide +kernel
theorem d_Mo_reachable_188 : decode b_Mo_reachable 188 = .ok (.iaload, 1) := by decide +kernel
theorem d_Mo_reachable_189 : decode b_Mo_reachable 189 = .ok (.iaload, 1) := by decide +kernel
theorem d_Mo_reachable_190 : decode b_Mo_reachable 190 = .ok (.aload_n 0, 1) := by decide +kernel
theorem d_Mo_reachable_191 : decode b_Mo_reachable 191 = .ok (.iload 4, 2) := by decide +kernel
theorem d_Mo_reachable_193 : decode b_Mo_reachable 193 = .ok (.invokevirtual 77, 3) := by decide +kernel
theorem d_Mo_reachable_196 : decode b_Mo_reachable 196 = .ok (.i2l, 1) := by decide +kernel
theorem d_Mo_reachable_197 : decode b_Mo_reachable 197 = .ok (.invokestatic 81, 3) := by decide +kernel
theorem d_Mo_reachable_200 : decode b_Mo_reachable 200 = .ok (.ladd, 1) := by decide +kernel
theorem d_Mo_reachable_201 : decode b_Mo_reachable 201 = .ok (.lstore_n 2, 1) := by decide +kernel
theorem d_Mo_reachable_202 : decode b_Mo_reachable 202 = .ok (.iconst 0, 1) := by decide +kernel
theorem d_Mo_reachable_203 : decode b_Mo_reachable 203 = .ok (.istore 5, 2) := by decide +kernel
theorem d_Mo_reachable_205 : decode b_Mo_reachable 205 = .ok (.iload 5, 2) := by decide +kernel
theorem d_Mo_reachable_207 : decode b_Mo_reachable 207 = .ok (.aload_n 0, 1) := by decide +kernel
theorem d_Mo_reachable_208 : decode b_Mo_reachable 208 = .ok (.getfield 68, 3) := by decide +kernel
theorem d_Mo_reachable_211 : decode b_Mo_reachable 211 = .ok (.if_icmp .ge 90, 3) := by decide +kernel
theorem d_Mo_reachable_214 : decode b_Mo_reachable 214 = .ok (.aload_n 0, 1) := by decide +kernel
theorem d_Mo_reachable_215 : decode b_Mo_reachable 215 = .ok (.getfield 37, 3) := by decide +kernel
theorem d_Mo_reachable_218 : decode b_Mo_reachable 218 = .ok (.iload 5, 2) := by decide +kernel
theorem d_Mo_reachable_220 : decode b_Mo_reachable 220 = .ok (.iaload, 1) := by decide +kernel
theorem d_Mo_reachable_221 : decode b_Mo_reachable 221 = .ok (.iload 4, 2) := by decide +kernel
theorem d_Mo_reachable_223 : decode b_Mo_reachable 223 = .ok (.if_icmp .ne 72, 3) := by decide +kernel
theorem d_Mo_reachable_226 : decode b_Mo_reachable 226 = .ok (.aload_n 0, 1) := by decide +kernel
theorem d_Mo_reachable_227 : decode b_Mo_reachable 227 = .ok (.iload 4, 2) := by decide +kernel
theorem d_Mo_reachable_229 : decode b_Mo_reachable 229 = .ok (.aload_n 0, 1) := by decide +kernel
theorem d_Mo_reachable_230 : decode b_Mo_reachable 230 = .ok (.getfield 40, 3) := by decide +kernel
theorem d_Mo_reachable_233 : decode b_Mo_reachable 233 = .ok (.iload 5, 2) := by decide +kernel
theorem d_Mo_reachable_235 : decode b_Mo_reachable 235 = .ok (.iaload, 1) := by decide +kernel
theorem d_Mo_reachable_236 : decode b_Mo_reachable 236 = .ok (.invokevirtual 85, 3) := by decide +kernel
theorem d_Mo_reachable_239 : decode b_Mo_reachable 239 = .ok (.ifCond .ne 6, 3) := by decide +kernel
theorem d_Mo_reachable_242 : decode b_Mo_reachable 242 = .ok (.goto 53, 3) := by decide +kernel
theorem d_Mo_reachable_245 : decode b_Mo_reachable 245 = .ok (.aload_n 0, 1) := by decide +kernel
theorem d_Mo_reachable_246 : decode b_Mo_reachable 246 = .ok (.iload 4, 2) := by decide +kernel
theorem d_Mo_reachable_248 : decode b_Mo_reachable 248 = .ok (.aload_n 0, 1) := by decide +kernel
theorem d_Mo_reachable_249 : decode b_Mo_reachable 249 = .ok (.getfield 40, 3) := by decide +kernel
theorem d_Mo_reachable_252 : decode b_Mo_reachable 252 = .ok (.iload 5, 2) := by decide +kernel
theorem d_Mo_reachable_254 : decode b_Mo_reachable 254 = .ok (.iaload, 1) := by decide +kernel
theorem d_Mo_reachable_255 : decode b_Mo_reachable 255 = .ok (.invokevirtual 89, 3) := by decide +kernel
theorem d_Mo_reachable_258 : decode b_Mo_reachable 258 = .ok (.l2i, 1) := by decide +kernel
theorem d_Mo_reachable_259 : decode b_Mo_reachable 259 = .ok (.istore 6, 2) := by decide +kernel
theorem d_Mo_reachable_261 : decode b_Mo_reachable 261 = .ok (.iload 6, 2) := by decide +kernel
theorem d_Mo_reachable_263 : decode b_Mo_reachable 263 = .ok (.ifCond .eq 32, 3) := by decide +kernel
theorem d_Mo_reachable_266 : decode b_Mo_reachable 266 = .ok (.aload_n 0, 1) := by decide +kernel
theorem d_Mo_reachable_267 : decode b_Mo_reachable 267 = .ok (.getfield 56, 3) := by decide +kernel
theorem d_Mo_reachable_270 : decode b_Mo_reachable 270 = .ok (.iload 6, 2) := by decide +kernel
theorem d_Mo_reachable_272 : decode b_Mo_reachable 272 = .ok (.baload, 1) := by decide +kernel
theorem d_Mo_reachable_273 : decode b_Mo_reachable 273 = .ok (.ifCond .ne 22, 3) := by decide +kernel
theorem d_Mo_reachable_276 : decode b_Mo_reachable 276 = .ok (.aload_n 0, 1) := by decide +kernel
theorem d_Mo_reachable_277 : decode b_Mo_reachable 277 = .ok (.getfield 56, 3) := by decide +kernel
theorem d_Mo_reachable_280 : decode b_Mo_reachable 280 = .ok (.iload 6, 2) := by decide +kernel
theorem d_Mo_reachable_282 : decode b_Mo_reachable 282 = .ok (.iconst 1, 1) := by decide +kernel
theorem d_Mo_reachable_283 : decode b_Mo_reachable 283 = .ok (.bastore, 1) := by decide +kernel
theorem d_Mo_reachable_284 : decode b_Mo_reachable 284 = .ok (.aload_n 0, 1) := by decide +kernel
theorem d_Mo_reachable_285 : decode b_Mo_reachable 285 = .ok (.getfield 53, 3) := by decide +kernel
theorem d_Mo_reachable_288 : decode b_Mo_reachable 288 = .ok (.iload_n 1, 1) := by decide +kernel
theorem d_Mo_reachable_289 : decode b_Mo_reachable 289 = .ok (.iinc 1 1, 3) := by decide +kernel
theorem d_Mo_reachable_292 : decode b_Mo_reachable 292 = .ok (.iload 6, 2) := by decide +kernel
theorem d_Mo_reachable_294 : decode b_Mo_reachable 294 = .ok (.iastore, 1) := by decide +kernel
theorem d_Mo_reachable_295 : decode b_Mo_reachable 295 = .ok (.iinc 5 1, 3) := by decide +kernel
theorem d_Mo_reachable_298 : decode b_Mo_reachable 298 = .ok (.goto (-93), 3) := by decide +kernel
theorem d_Mo_reachable_301 : decode b_Mo_reachable 301 = .ok (.goto (-139), 3) := by decide +kernel
theorem d_Mo_reachable_304 : decode b_Mo_reachable 304 = .ok (.lload_n 2, 1) := by decide +kernel
theorem d_Mo_reachable_305 : decode b_Mo_reachable 305 = .ok (.lreturn, 1) := by decide +kernel
theorem d_Mo_many_0 : decode b_Mo_many 0 = .ok (.aload_n 0, 1) := by decide +kernel
theorem d_Mo_many_1 : decode b_Mo_many 1 = .ok (.getfield 16, 3) := by decide +kernel
theorem d_Mo_many_4 : decode b_Mo_many 4 = .ok (.aload_n 0, 1) := by decide +kernel
theorem d_Mo_many_5 : decode b_Mo_many 5 = .ok (.getfield 23, 3) := by decide +kernel
theorem d_Mo_many_8 : decode b_Mo_many 8 = .ok (.iload_n 1, 1) := by decide +kernel
theorem d_Mo_many_9 : decode b_Mo_many 9 = .ok (.iaload, 1) := by decide +kernel
theorem d_Mo_many_10 : decode b_Mo_many 10 = .ok (.iaload, 1) := by decide +kernel
theorem d_Mo_many_11 : decode b_Mo_many 11 = .ok (.ifCond .ge 17, 3) := by decide +kernel
theorem d_Mo_many_14 : decode b_Mo_many 14 = .ok (.aload_n 0, 1) := by decide +kernel
theorem d_Mo_many_15 : decode b_Mo_many 15 = .ok (.getfield 7, 3) := by decide +kernel
theorem d_Mo_many_18 : decode b_Mo_many 18 = .ok (.aload_n 0, 1) := by decide +kernel
theorem d_Mo_many_19 : decode b_Mo_many 19 = .ok (.getfield 23, 3) := by decide +kernel
theorem d_Mo_many_22 : decode b_Mo_many 22 = .ok (.iload_n 1, 1) := by decide +kernel
theorem d_Mo_many_23 : decode b_Mo_many 23 = .ok (.iaload, 1) := by decide +kernel
theorem d_Mo_many_24 : decode b_Mo_many 24 = .ok (.iaload, 1) := by decide +kernel
theorem d_Mo_many_25 : decode b_Mo_many 25 = .ok (.goto 9, 3) := by decide +kernel
theorem d_Mo_many_28 : decode b_Mo_many 28 = .ok (.aload_n 0, 1) := by decide +kernel
theorem d_Mo_many_29 : decode b_Mo_many 29 = .ok (.getfield 26, 3) := by decide +kernel
theorem d_Mo_many_32 : decode b_Mo_many 32 = .ok (.iload_n 1, 1) := by decide +kernel
theorem d_Mo_many_33 : decode b_Mo_many 33 = .ok (.iaload, 1) := by decide +kernel
theorem d_Mo_many_34 : decode b_Mo_many 34 = .ok (.ireturn, 1) := by decide +kernel
theorem d_Mo_isReference_0 : decode b_Mo_isReference 0 = .ok (.aload_n 0, 1) := by decide +kernel
theorem d_Mo_isReference_1 : decode b_Mo_isReference 1 = .ok (.getfield 16, 3) := by decide +kernel
theorem d_Mo_isReference_4 : decode b_Mo_isReference 4 = .ok (.aload_n 0, 1) := by decide +kernel
theorem d_Mo_isReference_5 : decode b_Mo_isReference 5 = .ok (.getfield 23, 3) := by decide +kernel
theorem d_Mo_isReference_8 : decode b_Mo_isReference 8 = .ok (.iload_n 1, 1) := by decide +kernel
theorem d_Mo_isReference_9 : decode b_Mo_isReference 9 = .ok (.iaload, 1) := by decide +kernel
theorem d_Mo_isReference_10 : decode b_Mo_isReference 10 = .ok (.iaload, 1) := by decide +kernel
theorem d_Mo_isReference_11 : decode b_Mo_isReference 11 = .ok (.ifCond .ge 30, 3) := by decide +kernel
theorem d_Mo_isReference_14 : decode b_Mo_isReference 14 = .ok (.aload_n 0, 1) := by decide +kernel
theorem d_Mo_isReference_15 : decode b_Mo_isReference 15 = .ok (.getfield 13, 3) := by decide +kernel
theorem d_Mo_isReference_18 : decode b_Mo_isReference 18 = .ok (.aload_n 0, 1) := by decide +kernel
theorem d_Mo_isReference_19 : decode b_Mo_isReference 19 = .ok (.getfield 23, 3) := by decide +kernel
theorem d_Mo_isReference_22 : decode b_Mo_isReference 22 = .ok (.iload_n 1, 1) := by decide +kernel
theorem d_Mo_isReference_23 : decode b_Mo_isReference 23 = .ok (.iaload, 1) := by decide +kernel
theorem d_Mo_isReference_24 : decode b_Mo_isReference 24 = .ok (.iaload, 1) := by decide +kernel
theorem d_Mo_isReference_25 : decode b_Mo_isReference 25 = .ok (.iload_n 2, 1) := by decide +kernel
theorem d_Mo_isReference_26 : decode b_Mo_isReference 26 = .ok (.ishr, 1) := by decide +kernel
theorem d_Mo_isReference_27 : decode b_Mo_isReference 27 = .ok (.iconst 1, 1) := by decide +kernel
theorem d_Mo_isReference_28 : decode b_Mo_isReference 28 = .ok (.iand, 1) := by decide +kernel
theorem d_Mo_isReference_29 : decode b_Mo_isReference 29 = .ok (.iconst 1, 1) := by decide +kernel
theorem d_Mo_isReference_30 : decode b_Mo_isReference 30 = .ok (.if_icmp .ne 7, 3) := by decide +kernel
theorem d_Mo_isReference_33 : decode b_Mo_isReference 33 = .ok (.iconst 1, 1) := by decide +kernel
theorem d_Mo_isReference_34 : decode b_Mo_isReference 34 = .ok (.goto 26, 3) := by decide +kernel
theorem d_Mo_isReference_37 : decode b_Mo_isReference 37 = .ok (.iconst 0, 1) := by decide +kernel
theorem d_Mo_isReference_38 : decode b_Mo_isReference 38 = .ok (.goto 22, 3) := by decide +kernel
theorem d_Mo_isReference_41 : decode b_Mo_isReference 41 = .ok (.aload_n 0, 1) := by decide +kernel
theorem d_Mo_isReference_42 : decode b_Mo_isReference 42 = .ok (.getfield 16, 3) := by decide +kernel
theorem d_Mo_isReference_45 : decode b_Mo_isReference 45 = .ok (.aload_n 0, 1) := by decide +kernel
theorem d_Mo_isReference_46 : decode b_Mo_isReference 46 = .ok (.getfield 23, 3) := by decide +kernel
theorem d_Mo_isReference_49 : decode b_Mo_isReference 49 = .ok (.iload_n 1, 1) := by decide +kernel
theorem d_Mo_isReference_50 : decode b_Mo_isReference 50 = .ok (.iaload, 1) := by decide +kernel
theorem d_Mo_isReference_51 : decode b_Mo_isReference 51 = .ok (.iaload, 1) := by decide +kernel
theorem d_Mo_isReference_52 : decode b_Mo_isReference 52 = .ok (.ifCond .ne 7, 3) := by decide +kernel
theorem d_Mo_isReference_55 : decode b_Mo_isReference 55 = .ok (.iconst 1, 1) := by decide +kernel
theorem d_Mo_isReference_56 : decode b_Mo_isReference 56 = .ok (.goto 4, 3) := by decide +kernel
theorem d_Mo_isReference_59 : decode b_Mo_isReference 59 = .ok (.iconst 0, 1) := by decide +kernel
theorem d_Mo_isReference_60 : decode b_Mo_isReference 60 = .ok (.ireturn, 1) := by decide +kernel
theorem d_Mo_latest_0 : decode b_Mo_latest 0 = .ok (.aload_n 0, 1) := by decide +kernel
theorem d_Mo_latest_1 : decode b_Mo_latest 1 = .ok (.getfield 68, 3) := by decide +kernel
theorem d_Mo_latest_4 : decode b_Mo_latest 4 = .ok (.iconst 1, 1) := by decide +kernel
theorem d_Mo_latest_5 : decode b_Mo_latest 5 = .ok (.isub, 1) := by decide +kernel
theorem d_Mo_latest_6 : decode b_Mo_latest 6 = .ok (.istore_n 3, 1) := by decide +kernel
theorem d_Mo_latest_7 : decode b_Mo_latest 7 = .ok (.iload_n 3, 1) := by decide +kernel
theorem d_Mo_latest_8 : decode b_Mo_latest 8 = .ok (.ifCond .lt 36, 3) := by decide +kernel
theorem d_Mo_latest_11 : decode b_Mo_latest 11 = .ok (.aload_n 0, 1) := by decide +kernel
theorem d_Mo_latest_12 : decode b_Mo_latest 12 = .ok (.getfield 37, 3) := by decide +kernel
theorem d_Mo_latest_15 : decode b_Mo_latest 15 = .ok (.iload_n 3, 1) := by decide +kernel
theorem d_Mo_latest_16 : decode b_Mo_latest 16 = .ok (.iaload, 1) := by decide +kernel
theorem d_Mo_latest_17 : decode b_Mo_latest 17 = .ok (.iload_n 1, 1) := by decide +kernel
theorem d_Mo_latest_18 : decode b_Mo_latest 18 = .ok (.if_icmp .ne 20, 3) := by decide +kernel
theorem d_Mo_latest_21 : decode b_Mo_latest 21 = .ok (.aload_n 0, 1) := by decide +kernel
theorem d_Mo_latest_22 : decode b_Mo_latest 22 = .ok (.getfield 40, 3) := by decide +kernel
theorem d_Mo_latest_25 : decode b_Mo_latest 25 = .ok (.iload_n 3, 1) := by decide +kernel
theorem d_Mo_latest_26 : decode b_Mo_latest 26 = .ok (.iaload, 1) := by decide +kernel
theorem d_Mo_latest_27 : decode b_Mo_latest 27 = .ok (.iload_n 2, 1) := by decide +kernel
theorem d_Mo_latest_28 : decode b_Mo_latest 28 = .ok (.if_icmp .ne 10, 3) := by decide +kernel
theorem d_Mo_latest_31 : decode b_Mo_latest 31 = .ok (.aload_n 0, 1) := by decide +kernel
theorem d_Mo_latest_32 : decode b_Mo_latest 32 = .ok (.getfield 43, 3) := by decide +kernel
theorem d_Mo_latest_35 : decode b_Mo_latest 35 = .ok (.iload_n 3, 1) := by decide +kernel
theorem d_Mo_latest_36 : decode b_Mo_latest 36 = .ok (.laload, 1) := by decide +kernel
theorem d_Mo_latest_37 : decode b_Mo_latest 37 = .ok (.lreturn, 1) := by decide +kernel
theorem d_Mo_latest_38 : decode b_Mo_latest 38 = .ok (.iinc 3 (-1), 3) := by decide +kernel
theorem d_Mo_latest_41 : decode b_Mo_latest 41 = .ok (.goto (-34), 3) := by decide +kernel
theorem d_Mo_latest_44 : decode b_Mo_latest 44 = .ok (.lconst 0, 1) := by decide +kernel
theorem d_Mo_latest_45 : decode b_Mo_latest 45 = .ok (.lreturn, 1) := by decide +kernel
theorem d_Mo_copy_0 : decode b_Mo_copy 0 = .ok (.aload_n 0, 1) := by decide +kernel
theorem d_Mo_copy_1 : decode b_Mo_copy 1 = .ok (.iconst 0, 1) := by decide +kernel
theorem d_Mo_copy_2 : decode b_Mo_copy 2 = .ok (.putfield 59, 3) := by decide +kernel
theorem d_Mo_copy_5 : decode b_Mo_copy 5 = .ok (.aload_n 0, 1) := by decide +kernel
theorem d_Mo_copy_6 : decode b_Mo_copy 6 = .ok (.iload_n 1, 1) := by decide +kernel
theorem d_Mo_copy_7 : decode b_Mo_copy 7 = .ok (.bipush 31, 2) := by decide +kernel
theorem d_Mo_copy_9 : decode b_Mo_copy 9 = .ok (.invokestatic 93, 3) := by decide +kernel
theorem d_Mo_copy_12 : decode b_Mo_copy 12 = .ok (.ifCond .eq 12, 3) := by decide +kernel
theorem d_Mo_copy_15 : decode b_Mo_copy 15 = .ok (.iload_n 2, 1) := by decide +kernel
theorem d_Mo_copy_16 : decode b_Mo_copy 16 = .ok (.bipush 31, 2) := by decide +kernel
theorem d_Mo_copy_18 : decode b_Mo_copy 18 = .ok (.invokestatic 93, 3) := by decide +kernel
theorem d_Mo_copy_21 : decode b_Mo_copy 21 = .ok (.ifCond .ne 7, 3) := by decide +kernel
theorem d_Mo_copy_24 : decode b_Mo_copy 24 = .ok (.iconst 1, 1) := by decide +kernel
theorem d_Mo_copy_25 : decode b_Mo_copy 25 = .ok (.goto 4, 3) := by decide +kernel
theorem d_Mo_copy_28 : decode b_Mo_copy 28 = .ok (.iconst 0, 1) := by decide +kernel
theorem d_Mo_copy_29 : decode b_Mo_copy 29 = .ok (.iconst 1, 1) := by decide +kernel
theorem d_Mo_copy_30 : decode b_Mo_copy 30 = .ok (.invokevirtual 96, 3) := by decide +kernel
theorem d_Mo_copy_33 : decode b_Mo_copy 33 = .ok (.ifCond .eq 5, 3) := by decide +kernel
theorem d_Mo_copy_36 : decode b_Mo_copy 36 = .ok (.iconst 0, 1) := by decide +kernel
theorem d_Mo_copy_37 : decode b_Mo_copy 37 = .ok (.ireturn, 1) := by decide +kernel
theorem d_Mo_copy_38 : decode b_Mo_copy 38 = .ok (.aload_n 0, 1) := by decide +kernel
theorem d_Mo_copy_39 : decode b_Mo_copy 39 = .ok (.getfield 47, 3) := by decide +kernel
theorem d_Mo_copy_42 : decode b_Mo_copy 42 = .ok (.iload_n 1, 1) := by decide +kernel
theorem d_Mo_copy_43 : decode b_Mo_copy 43 = .ok (.aload_n 0, 1) := by decide +kernel
theorem d_Mo_copy_44 : decode b_Mo_copy 44 = .ok (.getfield 47, 3) := by decide +kernel
theorem d_Mo_copy_47 : decode b_Mo_copy 47 = .ok (.iload_n 2, 1) := by decide +kernel
theorem d_Mo_copy_48 : decode b_Mo_copy 48 = .ok (.iaload, 1) := by decide +kernel
theorem d_Mo_copy_49 : decode b_Mo_copy 49 = .ok (.iastore, 1) := by decide +kernel
theorem d_Mo_copy_50 : decode b_Mo_copy 50 = .ok (.aload_n 0, 1) := by decide +kernel
theorem d_Mo_copy_51 : decode b_Mo_copy 51 = .ok (.getfield 47, 3) := by decide +kernel
theorem d_Mo_copy_54 : decode b_Mo_copy 54 = .ok (.iload_n 1, 1) := by decide +kernel
theorem d_Mo_copy_55 : decode b_Mo_copy 55 = .ok (.iaload, 1) := by decide +kernel
theorem d_Mo_copy_56 : decode b_Mo_copy 56 = .ok (.ifCond .eq 7, 3) := by decide +kernel
theorem d_Mo_copy_59 : decode b_Mo_copy 59 = .ok (.iconst 1, 1) := by decide +kernel
theorem d_Mo_copy_60 : decode b_Mo_copy 60 = .ok (.goto 4, 3) := by decide +kernel
theorem d_Mo_copy_63 : decode b_Mo_copy 63 = .ok (.iconst 0, 1) := by decide +kernel
theorem d_Mo_copy_64 : decode b_Mo_copy 64 = .ok (.ireturn, 1) := by decide +kernel
theorem d_Mo_drop_0 : decode b_Mo_drop 0 = .ok (.aload_n 0, 1) := by decide +kernel
theorem d_Mo_drop_1 : decode b_Mo_drop 1 = .ok (.iconst 0, 1) := by decide +kernel
theorem d_Mo_drop_2 : decode b_Mo_drop 2 = .ok (.putfield 59, 3) := by decide +kernel
theorem d_Mo_drop_5 : decode b_Mo_drop 5 = .ok (.aload_n 0, 1) := by decide +kernel
theorem d_Mo_drop_6 : decode b_Mo_drop 6 = .ok (.iload_n 1, 1) := by decide +kernel
theorem d_Mo_drop_7 : decode b_Mo_drop 7 = .ok (.bipush 31, 2) := by decide +kernel
theorem d_Mo_drop_9 : decode b_Mo_drop 9 = .ok (.invokestatic 93, 3) := by decide +kernel
theorem d_Mo_drop_12 : decode b_Mo_drop 12 = .ok (.ifCond .ne 7, 3) := by decide +kernel
theorem d_Mo_drop_15 : decode b_Mo_drop 15 = .ok (.iconst 1, 1) := by decide +kernel
theorem d_Mo_drop_16 : decode b_Mo_drop 16 = .ok (.goto 4, 3) := by decide +kernel
theorem d_Mo_drop_19 : decode b_Mo_drop 19 = .ok (.iconst 0, 1) := by decide +kernel
theorem d_Mo_drop_20 : decode b_Mo_drop 20 = .ok (.iconst 1, 1) := by decide +kernel
theorem d_Mo_drop_21 : decode b_Mo_drop 21 = .ok (.invokevirtual 96, 3) := by decide +kernel
theorem d_Mo_drop_24 : decode b_Mo_drop 24 = .ok (.ifCond .eq 5, 3) := by decide +kernel
theorem d_Mo_drop_27 : decode b_Mo_drop 27 = .ok (.iconst 0, 1) := by decide +kernel
theorem d_Mo_drop_28 : decode b_Mo_drop 28 = .ok (.ireturn, 1) := by decide +kernel
theorem d_Mo_drop_29 : decode b_Mo_drop 29 = .ok (.aload_n 0, 1) := by decide +kernel
theorem d_Mo_drop_30 : decode b_Mo_drop 30 = .ok (.getfield 47, 3) := by decide +kernel
theorem d_Mo_drop_33 : decode b_Mo_drop 33 = .ok (.iload_n 1, 1) := by decide +kernel
theorem d_Mo_drop_34 : decode b_Mo_drop 34 = .ok (.iaload, 1) := by decide +kernel
theorem d_Mo_drop_35 : decode b_Mo_drop 35 = .ok (.ifCond .eq 7, 3) := by decide +kernel
theorem d_Mo_drop_38 : decode b_Mo_drop 38 = .ok (.iconst 1, 1) := by decide +kernel
theorem d_Mo_drop_39 : decode b_Mo_drop 39 = .ok (.goto 4, 3) := by decide +kernel
theorem d_Mo_drop_42 : decode b_Mo_drop 42 = .ok (.iconst 0, 1) := by decide +kernel
theorem d_Mo_drop_43 : decode b_Mo_drop 43 = .ok (.istore_n 2, 1) := by decide +kernel
theorem d_Mo_drop_44 : decode b_Mo_drop 44 = .ok (.aload_n 0, 1) := by decide +kernel
theorem d_Mo_drop_45 : decode b_Mo_drop 45 = .ok (.getfield 47, 3) := by decide +kernel
theorem d_Mo_drop_48 : decode b_Mo_drop 48 = .ok (.iload_n 1, 1) := by decide +kernel
theorem d_Mo_drop_49 : decode b_Mo_drop 49 = .ok (.iconst 0, 1) := by decide +kernel
theorem d_Mo_drop_50 : decode b_Mo_drop 50 = .ok (.iastore, 1) := by decide +kernel
theorem d_Mo_drop_51 : decode b_Mo_drop 51 = .ok (.iload_n 2, 1) := by decide +kernel
theorem d_Mo_drop_52 : decode b_Mo_drop 52 = .ok (.ireturn, 1) := by decide +kernel
theorem d_Mo_same_0 : decode b_Mo_same 0 = .ok (.aload_n 0, 1) := by decide +kernel
theorem d_Mo_same_1 : decode b_Mo_same 1 = .ok (.iconst 0, 1) := by decide +kernel
theorem d_Mo_same_2 : decode b_Mo_same 2 = .ok (.putfield 59, 3) := by decide +kernel
theorem d_Mo_same_5 : decode b_Mo_same 5 = .ok (.aload_n 0, 1) := by decide +kernel
theorem d_Mo_same_6 : decode b_Mo_same 6 = .ok (.iload_n 1, 1) := by decide +kernel
theorem d_Mo_same_7 : decode b_Mo_same 7 = .ok (.bipush 31, 2) := by decide +kernel
theorem d_Mo_same_9 : decode b_Mo_same 9 = .ok (.invokestatic 93, 3) := by decide +kernel
theorem d_Mo_same_12 : decode b_Mo_same 12 = .ok (.ifCond .eq 12, 3) := by decide +kernel
theorem d_Mo_same_15 : decode b_Mo_same 15 = .ok (.iload_n 2, 1) := by decide +kernel
theorem d_Mo_same_16 : decode b_Mo_same 16 = .ok (.bipush 31, 2) := by decide +kernel
theorem d_Mo_same_18 : decode b_Mo_same 18 = .ok (.invokestatic 93, 3) := by decide +kernel
theorem d_Mo_same_21 : decode b_Mo_same 21 = .ok (.ifCond .ne 7, 3) := by decide +kernel
theorem d_Mo_same_24 : decode b_Mo_same 24 = .ok (.iconst 1, 1) := by decide +kernel
theorem d_Mo_same_25 : decode b_Mo_same 25 = .ok (.goto 4, 3) := by decide +kernel
theorem d_Mo_same_28 : decode b_Mo_same 28 = .ok (.iconst 0, 1) := by decide +kernel
theorem d_Mo_same_29 : decode b_Mo_same 29 = .ok (.iconst 1, 1) := by decide +kernel
theorem d_Mo_same_30 : decode b_Mo_same 30 = .ok (.invokevirtual 96, 3) := by decide +kernel
theorem d_Mo_same_33 : decode b_Mo_same 33 = .ok (.ifCond .ne 22, 3) := by decide +kernel
theorem d_Mo_same_36 : decode b_Mo_same 36 = .ok (.aload_n 0, 1) := by decide +kernel
theorem d_Mo_same_37 : decode b_Mo_same 37 = .ok (.getfield 47, 3) := by decide +kernel
theorem d_Mo_same_40 : decode b_Mo_same 40 = .ok (.iload_n 1, 1) := by decide +kernel
theorem d_Mo_same_41 : decode b_Mo_same 41 = .ok (.iaload, 1) := by decide +kernel
theorem d_Mo_same_42 : decode b_Mo_same 42 = .ok (.aload_n 0, 1) := by decide +kernel
theorem d_Mo_same_43 : decode b_Mo_same 43 = .ok (.getfield 47, 3) := by decide +kernel
theorem d_Mo_same_46 : decode b_Mo_same 46 = .ok (.iload_n 2, 1) := by decide +kernel
theorem d_Mo_same_47 : decode b_Mo_same 47 = .ok (.iaload, 1) := by decide +kernel
theorem d_Mo_same_48 : decode b_Mo_same 48 = .ok (.if_icmp .ne 7, 3) := by decide +kernel
theorem d_Mo_same_51 : decode b_Mo_same 51 = .ok (.iconst 1, 1) := by decide +kernel
theorem d_Mo_same_52 : decode b_Mo_same 52 = .ok (.goto 4, 3) := by decide +kernel
theorem d_Mo_same_55 : decode b_Mo_same 55 = .ok (.iconst 0, 1) := by decide +kernel
theorem d_Mo_same_56 : decode b_Mo_same 56 = .ok (.ireturn, 1) := by decide +kernel
theorem d_Mo_get_0 : decode b_Mo_get 0 = .ok (.aload_n 0, 1) := by decide +kernel
theorem d_Mo_get_1 : decode b_Mo_get 1 = .ok (.iload_n 1, 1) := by decide +kernel
theorem d_Mo_get_2 : decode b_Mo_get 2 = .ok (.iload_n 2, 1) := by decide +kernel
theorem d_Mo_get_3 : decode b_Mo_get 3 = .ok (.iconst 0, 1) := by decide +kernel
theorem d_Mo_get_4 : decode b_Mo_get 4 = .ok (.invokevirtual 104, 3) := by decide +kernel
theorem d_Mo_get_7 : decode b_Mo_get 7 = .ok (.istore_n 3, 1) := by decide +kernel
theorem d_Mo_get_8 : decode b_Mo_get 8 = .ok (.iload_n 3, 1) := by decide +kernel
theorem d_Mo_get_9 : decode b_Mo_get 9 = .ok (.ifCond .ne 7, 3) := by decide +kernel
theorem d_Mo_get_12 : decode b_Mo_get 12 = .ok (.lconst 0, 1) := by decide +kernel
theorem d_Mo_get_13 : decode b_Mo_get 13 = .ok (.goto 9, 3) := by decide +kernel
theorem d_Mo_get_16 : decode b_Mo_get 16 = .ok (.aload_n 0, 1) := by decide +kernel
theorem d_Mo_get_17 : decode b_Mo_get 17 = .ok (.iload_n 3, 1) := by decide +kernel
theorem d_Mo_get_18 : decode b_Mo_get 18 = .ok (.iload_n 2, 1) := by decide +kernel
theorem d_Mo_get_19 : decode b_Mo_get 19 = .ok (.invokevirtual 89, 3) := by decide +kernel
theorem d_Mo_get_22 : decode b_Mo_get 22 = .ok (.lreturn, 1) := by decide +kernel
theorem d_Mo_placed_0 : decode b_Mo_placed 0 = .ok (.aload_n 0, 1) := by decide +kernel
theorem d_Mo_placed_1 : decode b_Mo_placed 1 = .ok (.iconst 0, 1) := by decide +kernel
theorem d_Mo_placed_2 : decode b_Mo_placed 2 = .ok (.putfield 59, 3) := by decide +kernel
theorem d_Mo_placed_5 : decode b_Mo_placed 5 = .ok (.aload_n 0, 1) := by decide +kernel
theorem d_Mo_placed_6 : decode b_Mo_placed 6 = .ok (.iload_n 1, 1) := by decide +kernel
theorem d_Mo_placed_7 : decode b_Mo_placed 7 = .ok (.bipush 31, 2) := by decide +kernel
theorem d_Mo_placed_9 : decode b_Mo_placed 9 = .ok (.invokestatic 93, 3) := by decide +kernel
theorem d_Mo_placed_12 : decode b_Mo_placed 12 = .ok (.ifCond .ne 7, 3) := by decide +kernel
theorem d_Mo_placed_15 : decode b_Mo_placed 15 = .ok (.iconst 1, 1) := by decide +kernel
theorem d_Mo_placed_16 : decode b_Mo_placed 16 = .ok (.goto 4, 3) := by decide +kernel
theorem d_Mo_placed_19 : decode b_Mo_placed 19 = .ok (.iconst 0, 1) := by decide +kernel
theorem d_Mo_placed_20 : decode b_Mo_placed 20 = .ok (.iconst 1, 1) := by decide +kernel
theorem d_Mo_placed_21 : decode b_Mo_placed 21 = .ok (.invokevirtual 96, 3) := by decide +kernel
theorem d_Mo_placed_24 : decode b_Mo_placed 24 = .ok (.ifCond .ne 25, 3) := by decide +kernel
theorem d_Mo_placed_27 : decode b_Mo_placed 27 = .ok (.aload_n 0, 1) := by decide +kernel
theorem d_Mo_placed_28 : decode b_Mo_placed 28 = .ok (.aload_n 0, 1) := by decide +kernel
theorem d_Mo_placed_29 : decode b_Mo_placed 29 = .ok (.getfield 47, 3) := by decide +kernel
theorem d_Mo_placed_32 : decode b_Mo_placed 32 = .ok (.iload_n 1, 1) := by decide +kernel
theorem d_Mo_placed_33 : decode b_Mo_placed 33 = .ok (.iaload, 1) := by decide +kernel
theorem d_Mo_placed_34 : decode b_Mo_placed 34 = .ok (.ifCond .ne 7, 3) := by decide +kernel
theorem d_Mo_placed_37 : decode b_Mo_placed 37 = .ok (.iconst 1, 1) := by decide +kernel
theorem d_Mo_placed_38 : decode b_Mo_placed 38 = .ok (.goto 4, 3) := by decide +kernel
theorem d_Mo_placed_41 : decode b_Mo_placed 41 = .ok (.iconst 0, 1) := by decide +kernel
theorem d_Mo_placed_42 : decode b_Mo_placed 42 = .ok (.iconst 2, 1) := by decide +kernel
theorem d_Mo_placed_43 : decode b_Mo_placed 43 = .ok (.invokevirtual 96, 3) := by decide +kernel
theorem d_Mo_placed_46 : decode b_Mo_placed 46 = .ok (.ifCond .eq 5, 3) := by decide +kernel
theorem d_Mo_placed_49 : decode b_Mo_placed 49 = .ok (.iconst 0, 1) := by decide +kernel
theorem d_Mo_placed_50 : decode b_Mo_placed 50 = .ok (.ireturn, 1) := by decide +kernel
theorem d_Mo_placed_51 : decode b_Mo_placed 51 = .ok (.aload_n 0, 1) := by decide +kernel
theorem d_Mo_placed_52 : decode b_Mo_placed 52 = .ok (.getfield 47, 3) := by decide +kernel
theorem d_Mo_placed_55 : decode b_Mo_placed 55 = .ok (.iload_n 1, 1) := by decide +kernel
theorem d_Mo_placed_56 : decode b_Mo_placed 56 = .ok (.iaload, 1) := by decide +kernel
theorem d_Mo_placed_57 : decode b_Mo_placed 57 = .ok (.istore 4, 2) := by decide +kernel
theorem d_Mo_placed_59 : decode b_Mo_placed 59 = .ok (.aload_n 0, 1) := by decide +kernel
theorem d_Mo_placed_60 : decode b_Mo_placed 60 = .ok (.iload_n 2, 1) := by decide +kernel
theorem d_Mo_placed_61 : decode b_Mo_placed 61 = .ok (.ifCond .lt 13, 3) := by decide +kernel
theorem d_Mo_placed_64 : decode b_Mo_placed 64 = .ok (.iload_n 2, 1) := by decide +kernel
theorem d_Mo_placed_65 : decode b_Mo_placed 65 = .ok (.aload_n 0, 1) := by decide +kernel
theorem d_Mo_placed_66 : decode b_Mo_placed 66 = .ok (.iload 4, 2) := by decide +kernel
theorem d_Mo_placed_68 : decode b_Mo_placed 68 = .ok (.invokevirtual 77, 3) := by decide +kernel
theorem d_Mo_placed_71 : decode b_Mo_placed 71 = .ok (.if_icmp .lt 7, 3) := by decide +kernel
theorem d_Mo_placed_74 : decode b_Mo_placed 74 = .ok (.iconst 1, 1) := by decide +kernel
theorem d_Mo_placed_75 : decode b_Mo_placed 75 = .ok (.goto 4, 3) := by decide +kernel
theorem d_Mo_placed_78 : decode b_Mo_placed 78 = .ok (.iconst 0, 1) := by decide +kernel
theorem d_Mo_placed_79 : decode b_Mo_placed 79 = .ok (.iconst 3, 1) := by decide +kernel
theorem d_Mo_placed_80 : decode b_Mo_placed 80 = .ok (.invokevirtual 96, 3) := by decide +kernel
theorem d_Mo_placed_83 : decode b_Mo_placed 83 = .ok (.ifCond .ne 27, 3) := by decide +kernel
theorem d_Mo_placed_86 : decode b_Mo_placed 86 = .ok (.aload_n 0, 1) := by decide +kernel
theorem d_Mo_placed_87 : decode b_Mo_placed 87 = .ok (.aload_n 0, 1) := by decide +kernel
theorem d_Mo_placed_88 : decode b_Mo_placed 88 = .ok (.iload 4, 2) := by decide +kernel
theorem d_Mo_placed_90 : decode b_Mo_placed 90 = .ok (.iload_n 2, 1) := by decide +kernel
theorem d_Mo_placed_91 : decode b_Mo_placed 91 = .ok (.invokevirtual 85, 3) := by decide +kernel
theorem d_Mo_placed_94 : decode b_Mo_placed 94 = .ok (.iload_n 3, 1) := by decide +kernel
theorem d_Mo_placed_95 : decode b_Mo_placed 95 = .ok (.if_icmp .eq 7, 3) := by decide +kernel
theorem d_Mo_placed_98 : decode b_Mo_placed 98 = .ok (.iconst 1, 1) := by decide +kernel
theorem d_Mo_placed_99 : decode b_Mo_placed 99 = .ok (.goto 4, 3) := by decide +kernel
theorem d_Mo_placed_102 : decode b_Mo_placed 102 = .ok (.iconst 0, 1) := by decide +kernel
theorem d_Mo_placed_103 : decode b_Mo_placed 103 = .ok (.iconst 4, 1) := by decide +kernel
theorem d_Mo_placed_104 : decode b_Mo_placed 104 = .ok (.invokevirtual 96, 3) := by decide +kernel
theorem d_Mo_placed_107 : decode b_Mo_placed 107 = .ok (.ifCond .eq 5, 3) := by decide +kernel
theorem d_Mo_placed_110 : decode b_Mo_placed 110 = .ok (.iconst 0, 1) := by decide +kernel
theorem d_Mo_placed_111 : decode b_Mo_placed 111 = .ok (.ireturn, 1) := by decide +kernel
theorem d_Mo_placed_112 : decode b_Mo_placed 112 = .ok (.iload 4, 2) := by decide +kernel
theorem d_Mo_placed_114 : decode b_Mo_placed 114 = .ok (.ireturn, 1) := by decide +kernel
theorem d_Mo_put_0 : decode b_Mo_put 0 = .ok (.aload_n 0, 1) := by decide +kernel
theorem d_Mo_put_1 : decode b_Mo_put 1 = .ok (.iload_n 1, 1) := by decide +kernel
theorem d_Mo_put_2 : decode b_Mo_put 2 = .ok (.iload_n 2, 1) := by decide +kernel
theorem d_Mo_put_3 : decode b_Mo_put 3 = .ok (.iconst 0, 1) := by decide +kernel
theorem d_Mo_put_4 : decode b_Mo_put 4 = .ok (.invokevirtual 104, 3) := by decide +kernel
theorem d_Mo_put_7 : decode b_Mo_put 7 = .ok (.istore 5, 2) := by decide +kernel
theorem d_Mo_put_9 : decode b_Mo_put 9 = .ok (.iload 5, 2) := by decide +kernel
theorem d_Mo_put_11 : decode b_Mo_put 11 = .ok (.ifCond .eq 17, 3) := by decide +kernel
theorem d_Mo_put_14 : decode b_Mo_put 14 = .ok (.aload_n 0, 1) := by decide +kernel
theorem d_Mo_put_15 : decode b_Mo_put 15 = .ok (.iload 5, 2) := by decide +kernel
theorem d_Mo_put_17 : decode b_Mo_put 17 = .ok (.iload_n 2, 1) := by decide +kernel
theorem d_Mo_put_18 : decode b_Mo_put 18 = .ok (.aload_n 0, 1) := by decide +kernel
theorem d_Mo_put_19 : decode b_Mo_put 19 = .ok (.iload 5, 2) := by decide +kernel
theorem d_Mo_put_21 : decode b_Mo_put 21 = .ok (.lload_n 3, 1) := by decide +kernel
theorem d_Mo_put_22 : decode b_Mo_put 22 = .ok (.invokevirtual 108, 3) := by decide +kernel
theorem d_Mo_put_25 : decode b_Mo_put 25 = .ok (.invokevirtual 111, 3) := by decide +kernel
theorem d_Mo_put_28 : decode b_Mo_put 28 = .ok (.return_, 1) := by decide +kernel
theorem d_Mo_cut_0 : decode b_Mo_cut 0 = .ok (.aload_n 0, 1) := by decide +kernel
theorem d_Mo_cut_1 : decode b_Mo_cut 1 = .ok (.getfield 16, 3) := by decide +kernel
theorem d_Mo_cut_4 : decode b_Mo_cut 4 = .ok (.aload_n 0, 1) := by decide +kernel
theorem d_Mo_cut_5 : decode b_Mo_cut 5 = .ok (.getfield 23, 3) := by decide +kernel
theorem d_Mo_cut_8 : decode b_Mo_cut 8 = .ok (.iload_n 1, 1) := by decide +kernel
theorem d_Mo_cut_9 : decode b_Mo_cut 9 = .ok (.iaload, 1) := by decide +kernel
theorem d_Mo_cut_10 : decode b_Mo_cut 10 = .ok (.iaload, 1) := by decide +kernel
theorem d_Mo_cut_11 : decode b_Mo_cut 11 = .ok (.istore 4, 2) := by decide +kernel
theorem d_Mo_cut_13 : decode b_Mo_cut 13 = .ok (.iload 4, 2) := by decide +kernel
theorem d_Mo_cut_15 : decode b_Mo_cut 15 = .ok (.iconst 1, 1) := by decide +kernel
theorem d_Mo_cut_16 : decode b_Mo_cut 16 = .ok (.if_icmp .ne 10, 3) := by decide +kernel
theorem d_Mo_cut_19 : decode b_Mo_cut 19 = .ok (.lload_n 2, 1) := by decide +kernel
theorem d_Mo_cut_20 : decode b_Mo_cut 20 = .ok (.l2i, 1) := by decide +kernel
theorem d_Mo_cut_21 : decode b_Mo_cut 21 = .ok (.i2b, 1) := by decide +kernel
theorem d_Mo_cut_22 : decode b_Mo_cut 22 = .ok (.i2l, 1) := by decide +kernel
theorem d_Mo_cut_23 : decode b_Mo_cut 23 = .ok (.goto 29, 3) := by decide +kernel
theorem d_Mo_cut_26 : decode b_Mo_cut 26 = .ok (.iload 4, 2) := by decide +kernel
theorem d_Mo_cut_28 : decode b_Mo_cut 28 = .ok (.iconst 2, 1) := by decide +kernel
theorem d_Mo_cut_29 : decode b_Mo_cut 29 = .ok (.if_icmp .ne 10, 3) := by decide +kernel
theorem d_Mo_cut_32 : decode b_Mo_cut 32 = .ok (.lload_n 2, 1) := by decide +kernel
theorem d_Mo_cut_33 : decode b_Mo_cut 33 = .ok (.l2i, 1) := by decide +kernel
theorem d_Mo_cut_34 : decode b_Mo_cut 34 = .ok (.i2c, 1) := by decide +kernel
theorem d_Mo_cut_35 : decode b_Mo_cut 35 = .ok (.i2l, 1) := by decide +kernel
theorem d_Mo_cut_36 : decode b_Mo_cut 36 = .ok (.goto 16, 3) := by decide +kernel
theorem d_Mo_cut_39 : decode b_Mo_cut 39 = .ok (.iload 4, 2) := by decide +kernel
theorem d_Mo_cut_41 : decode b_Mo_cut 41 = .ok (.iconst 4, 1) := by decide +kernel
theorem d_Mo_cut_42 : decode b_Mo_cut 42 = .ok (.if_icmp .ne 7, 3) := by decide +kernel
theorem d_Mo_cut_45 : decode b_Mo_cut 45 = .ok (.lload_n 2, 1) := by decide +kernel
theorem d_Mo_cut_46 : decode b_Mo_cut 46 = .ok (.goto 6, 3) := by decide +kernel
theorem d_Mo_cut_49 : decode b_Mo_cut 49 = .ok (.lload_n 2, 1) := by decide +kernel
theorem d_Mo_cut_50 : decode b_Mo_cut 50 = .ok (.l2i, 1) := by decide +kernel
theorem d_Mo_cut_51 : decode b_Mo_cut 51 = .ok (.i2l, 1) := by decide +kernel
theorem d_Mo_cut_52 : decode b_Mo_cut 52 = .ok (.lreturn, 1) := by decide +kernel
theorem d_Mo_enter_0 : decode b_Mo_enter 0 = .ok (.aload_n 0, 1) := by decide +kernel
theorem d_Mo_enter_1 : decode b_Mo_enter 1 = .ok (.getfield 37, 3) := by decide +kernel
theorem d_Mo_enter_4 : decode b_Mo_enter 4 = .ok (.aload_n 0, 1) := by decide +kernel
theorem d_Mo_enter_5 : decode b_Mo_enter 5 = .ok (.getfield 68, 3) := by decide +kernel
theorem d_Mo_enter_8 : decode b_Mo_enter 8 = .ok (.iload_n 1, 1) := by decide +kernel
theorem d_Mo_enter_9 : decode b_Mo_enter 9 = .ok (.iastore, 1) := by decide +kernel
theorem d_Mo_enter_10 : decode b_Mo_enter 10 = .ok (.aload_n 0, 1) := by decide +kernel
theorem d_Mo_enter_11 : decode b_Mo_enter 11 = .ok (.getfield 40, 3) := by decide +kernel
theorem d_Mo_enter_14 : decode b_Mo_enter 14 = .ok (.aload_n 0, 1) := by decide +kernel
theorem d_Mo_enter_15 : decode b_Mo_enter 15 = .ok (.getfield 68, 3) := by decide +kernel
theorem d_Mo_enter_18 : decode b_Mo_enter 18 = .ok (.iload_n 2, 1) := by decide +kernel
theorem d_Mo_enter_19 : decode b_Mo_enter 19 = .ok (.iastore, 1) := by decide +kernel
theorem d_Mo_enter_20 : decode b_Mo_enter 20 = .ok (.aload_n 0, 1) := by decide +kernel
theorem d_Mo_enter_21 : decode b_Mo_enter 21 = .ok (.getfield 43, 3) := by decide +kernel
theorem d_Mo_enter_24 : decode b_Mo_enter 24 = .ok (.aload_n 0, 1) := by decide +kernel
theorem d_Mo_enter_25 : decode b_Mo_enter 25 = .ok (.dup, 1) := by decide +kernel
theorem d_Mo_enter_26 : decode b_Mo_enter 26 = .ok (.getfield 68, 3) := by decide +kernel
theorem d_Mo_enter_29 : decode b_Mo_enter 29 = .ok (.dup_x1, 1) := by decide +kernel
theorem d_Mo_enter_30 : decode b_Mo_enter 30 = .ok (.iconst 1, 1) := by decide +kernel
theorem d_Mo_enter_31 : decode b_Mo_enter 31 = .ok (.iadd, 1) := by decide +kernel
theorem d_Mo_enter_32 : decode b_Mo_enter 32 = .ok (.putfield 68, 3) := by decide +kernel
theorem d_Mo_enter_35 : decode b_Mo_enter 35 = .ok (.lload_n 3, 1) := by decide +kernel
theorem d_Mo_enter_36 : decode b_Mo_enter 36 = .ok (.lastore, 1) := by decide +kernel
theorem d_Mo_enter_37 : decode b_Mo_enter 37 = .ok (.return_, 1) := by decide +kernel
theorem d_Mo_link_0 : decode b_Mo_link 0 = .ok (.aload_n 0, 1) := by decide +kernel
theorem d_Mo_link_1 : decode b_Mo_link 1 = .ok (.iconst 0, 1) := by decide +kernel
theorem d_Mo_link_2 : decode b_Mo_link 2 = .ok (.putfield 59, 3) := by decide +kernel
theorem d_Mo_link_5 : decode b_Mo_link 5 = .ok (.aload_n 0, 1) := by decide +kernel
theorem d_Mo_link_6 : decode b_Mo_link 6 = .ok (.iload_n 1, 1) := by decide +kernel
theorem d_Mo_link_7 : decode b_Mo_link 7 = .ok (.bipush 31, 2) := by decide +kernel
theorem d_Mo_link_9 : decode b_Mo_link 9 = .ok (.invokestatic 93, 3) := by decide +kernel
theorem d_Mo_link_12 : decode b_Mo_link 12 = .ok (.ifCond .eq 12, 3) := by decide +kernel
theorem d_Mo_link_15 : decode b_Mo_link 15 = .ok (.iload_n 3, 1) := by decide +kernel
theorem d_Mo_link_16 : decode b_Mo_link 16 = .ok (.bipush 31, 2) := by decide +kernel
theorem d_Mo_link_18 : decode b_Mo_link 18 = .ok (.invokestatic 93, 3) := by decide +kernel
theorem d_Mo_link_21 : decode b_Mo_link 21 = .ok (.ifCond .ne 7, 3) := by decide +kernel
theorem d_Mo_link_24 : decode b_Mo_link 24 = .ok (.iconst 1, 1) := by decide +kernel
theorem d_Mo_link_25 : decode b_Mo_link 25 = .ok (.goto 4, 3) := by decide +kernel
theorem d_Mo_link_28 : decode b_Mo_link 28 = .ok (.iconst 0, 1) := by decide +kernel
theorem d_Mo_link_29 : decode b_Mo_link 29 = .ok (.iconst 1, 1) := by decide +kernel
theorem d_Mo_link_30 : decode b_Mo_link 30 = .ok (.invokevirtual 96, 3) := by decide +kernel
theorem d_Mo_link_33 : decode b_Mo_link 33 = .ok (.ifCond .eq 5, 3) := by decide +kernel
theorem d_Mo_link_36 : decode b_Mo_link 36 = .ok (.iconst 0, 1) := by decide +kernel
theorem d_Mo_link_37 : decode b_Mo_link 37 = .ok (.ireturn, 1) := by decide +kernel
theorem d_Mo_link_38 : decode b_Mo_link 38 = .ok (.aload_n 0, 1) := by decide +kernel
theorem d_Mo_link_39 : decode b_Mo_link 39 = .ok (.iload_n 1, 1) := by decide +kernel
theorem d_Mo_link_40 : decode b_Mo_link 40 = .ok (.iload_n 2, 1) := by decide +kernel
theorem d_Mo_link_41 : decode b_Mo_link 41 = .ok (.iconst 1, 1) := by decide +kernel
theorem d_Mo_link_42 : decode b_Mo_link 42 = .ok (.invokevirtual 104, 3) := by decide +kernel
theorem d_Mo_link_45 : decode b_Mo_link 45 = .ok (.istore 4, 2) := by decide +kernel
theorem d_Mo_link_47 : decode b_Mo_link 47 = .ok (.iload 4, 2) := by decide +kernel
theorem d_Mo_link_49 : decode b_Mo_link 49 = .ok (.ifCond .ne 5, 3) := by decide +kernel
theorem d_Mo_link_52 : decode b_Mo_link 52 = .ok (.iconst 0, 1) := by decide +kernel
theorem d_Mo_link_53 : decode b_Mo_link 53 = .ok (.ireturn, 1) := by decide +kernel
theorem d_Mo_link_54 : decode b_Mo_link 54 = .ok (.aload_n 0, 1) := by decide +kernel
theorem d_Mo_link_55 : decode b_Mo_link 55 = .ok (.iload 4, 2) := by decide +kernel
theorem d_Mo_link_57 : decode b_Mo_link 57 = .ok (.iload_n 2, 1) := by decide +kernel
theorem d_Mo_link_58 : decode b_Mo_link 58 = .ok (.invokevirtual 89, 3) := by decide +kernel
theorem d_Mo_link_61 : decode b_Mo_link 61 = .ok (.lconst 0, 1) := by decide +kernel
theorem d_Mo_link_62 : decode b_Mo_link 62 = .ok (.lcmp, 1) := by decide +kernel
theorem d_Mo_link_63 : decode b_Mo_link 63 = .ok (.ifCond .eq 7, 3) := by decide +kernel
theorem d_Mo_link_66 : decode b_Mo_link 66 = .ok (.iconst 1, 1) := by decide +kernel
theorem d_Mo_link_67 : decode b_Mo_link 67 = .ok (.goto 4, 3) := by decide +kernel
theorem d_Mo_link_70 : decode b_Mo_link 70 = .ok (.iconst 0, 1) := by decide +kernel
theorem d_Mo_link_71 : decode b_Mo_link 71 = .ok (.istore 5, 2) := by decide +kernel
theorem d_Mo_link_73 : decode b_Mo_link 73 = .ok (.aload_n 0, 1) := by decide +kernel
theorem d_Mo_link_74 : decode b_Mo_link 74 = .ok (.iload 4, 2) := by decide +kernel
theorem d_Mo_link_76 : decode b_Mo_link 76 = .ok (.iload_n 2, 1) := by decide +kernel
theorem d_Mo_link_77 : decode b_Mo_link 77 = .ok (.aload_n 0, 1) := by decide +kernel
theorem d_Mo_link_78 : decode b_Mo_link 78 = .ok (.getfield 47, 3) := by decide +kernel
theorem d_Mo_link_81 : decode b_Mo_link 81 = .ok (.iload_n 3, 1) := by decide +kernel
theorem d_Mo_link_82 : decode b_Mo_link 82 = .ok (.iaload, 1) := by decide +kernel
theorem d_Mo_link_83 : decode b_Mo_link 83 = .ok (.i2l, 1) := by decide +kernel
theorem d_Mo_link_84 : decode b_Mo_link 84 = .ok (.invokevirtual 111, 3) := by decide +kernel
theorem d_Mo_link_87 : decode b_Mo_link 87 = .ok (.iload 5, 2) := by decide +kernel
theorem d_Mo_link_89 : decode b_Mo_link 89 = .ok (.ireturn, 1) := by decide +kernel
theorem d_Mo_follow_0 : decode b_Mo_follow 0 = .ok (.aload_n 0, 1) := by decide +kernel
theorem d_Mo_follow_1 : decode b_Mo_follow 1 = .ok (.iconst 0, 1) := by decide +kernel
theorem d_Mo_follow_2 : decode b_Mo_follow 2 = .ok (.putfield 59, 3) := by decide +kernel
theorem d_Mo_follow_5 : decode b_Mo_follow 5 = .ok (.aload_n 0, 1) := by decide +kernel
theorem d_Mo_follow_6 : decode b_Mo_follow 6 = .ok (.iload_n 1, 1) := by decide +kernel
theorem d_Mo_follow_7 : decode b_Mo_follow 7 = .ok (.bipush 31, 2) := by decide +kernel
theorem d_Mo_follow_9 : decode b_Mo_follow 9 = .ok (.invokestatic 93, 3) := by decide +kernel
theorem d_Mo_follow_12 : decode b_Mo_follow 12 = .ok (.ifCond .eq 12, 3) := by decide +kernel
theorem d_Mo_follow_15 : decode b_Mo_follow 15 = .ok (.iload_n 3, 1) := by decide +kernel
theorem d_Mo_follow_16 : decode b_Mo_follow 16 = .ok (.bipush 31, 2) := by decide +kernel
theorem d_Mo_follow_18 : decode b_Mo_follow 18 = .ok (.invokestatic 93, 3) := by decide +kernel
theorem d_Mo_follow_21 : decode b_Mo_follow 21 = .ok (.ifCond .ne 7, 3) := by decide +kernel
theorem d_Mo_follow_24 : decode b_Mo_follow 24 = .ok (.iconst 1, 1) := by decide +kernel
theorem d_Mo_follow_25 : decode b_Mo_follow 25 = .ok (.goto 4, 3) := by decide +kernel
theorem d_Mo_follow_28 : decode b_Mo_follow 28 = .ok (.iconst 0, 1) := by decide +kernel
theorem d_Mo_follow_29 : decode b_Mo_follow 29 = .ok (.iconst 1, 1) := by decide +kernel
theorem d_Mo_follow_30 : decode b_Mo_follow 30 = .ok (.invokevirtual 96, 3) := by decide +kernel
theorem d_Mo_follow_33 : decode b_Mo_follow 33 = .ok (.ifCond .eq 5, 3) := by decide +kernel
theorem d_Mo_follow_36 : decode b_Mo_follow 36 = .ok (.iconst 0, 1) := by decide +kernel
theorem d_Mo_follow_37 : decode b_Mo_follow 37 = .ok (.ireturn, 1) := by decide +kernel
theorem d_Mo_follow_38 : decode b_Mo_follow 38 = .ok (.aload_n 0, 1) := by decide +kernel
theorem d_Mo_follow_39 : decode b_Mo_follow 39 = .ok (.iload_n 1, 1) := by decide +kernel
theorem d_Mo_follow_40 : decode b_Mo_follow 40 = .ok (.iload_n 2, 1) := by decide +kernel
theorem d_Mo_follow_41 : decode b_Mo_follow 41 = .ok (.iconst 1, 1) := by decide +kernel
theorem d_Mo_follow_42 : decode b_Mo_follow 42 = .ok (.invokevirtual 104, 3) := by decide +kernel
theorem d_Mo_follow_45 : decode b_Mo_follow 45 = .ok (.istore 4, 2) := by decide +kernel
theorem d_Mo_follow_47 : decode b_Mo_follow 47 = .ok (.iload 4, 2) := by decide +kernel
theorem d_Mo_follow_49 : decode b_Mo_follow 49 = .ok (.ifCond .ne 5, 3) := by decide +kernel
theorem d_Mo_follow_52 : decode b_Mo_follow 52 = .ok (.iconst 0, 1) := by decide +kernel
theorem d_Mo_follow_53 : decode b_Mo_follow 53 = .ok (.ireturn, 1) := by decide +kernel
theorem d_Mo_follow_54 : decode b_Mo_follow 54 = .ok (.aload_n 0, 1) := by decide +kernel
theorem d_Mo_follow_55 : decode b_Mo_follow 55 = .ok (.getfield 47, 3) := by decide +kernel
theorem d_Mo_follow_58 : decode b_Mo_follow 58 = .ok (.iload_n 3, 1) := by decide +kernel
theorem d_Mo_follow_59 : decode b_Mo_follow 59 = .ok (.aload_n 0, 1) := by decide +kernel
theorem d_Mo_follow_60 : decode b_Mo_follow 60 = .ok (.iload 4, 2) := by decide +kernel
theorem d_Mo_follow_62 : decode b_Mo_follow 62 = .ok (.iload_n 2, 1) := by decide +kernel
theorem d_Mo_follow_63 : decode b_Mo_follow 63 = .ok (.invokevirtual 89, 3) := by decide +kernel
theorem d_Mo_follow_66 : decode b_Mo_follow 66 = .ok (.l2i, 1) := by decide +kernel
theorem d_Mo_follow_67 : decode b_Mo_follow 67 = .ok (.iastore, 1) := by decide +kernel
theorem d_Mo_follow_68 : decode b_Mo_follow 68 = .ok (.aload_n 0, 1) := by decide +kernel
theorem d_Mo_follow_69 : decode b_Mo_follow 69 = .ok (.getfield 47, 3) := by decide +kernel
theorem d_Mo_follow_72 : decode b_Mo_follow 72 = .ok (.iload_n 3, 1) := by decide +kernel
theorem d_Mo_follow_73 : decode b_Mo_follow 73 = .ok (.iaload, 1) := by decide +kernel
theorem d_Mo_follow_74 : decode b_Mo_follow 74 = .ok (.ifCond .eq 7, 3) := by decide +kernel
theorem d_Mo_follow_77 : decode b_Mo_follow 77 = .ok (.iconst 1, 1) := by decide +kernel
theorem d_Mo_follow_78 : decode b_Mo_follow 78 = .ok (.goto 4, 3) := by decide +kernel
theorem d_Mo_follow_81 : decode b_Mo_follow 81 = .ok (.iconst 0, 1) := by decide +kernel
theorem d_Mo_follow_82 : decode b_Mo_follow 82 = .ok (.ireturn, 1) := by decide +kernel
theorem d_Mo_keep_0 : decode b_Mo_keep 0 = .ok (.aload_n 0, 1) := by decide +kernel
theorem d_Mo_keep_1 : decode b_Mo_keep 1 = .ok (.iconst 0, 1) := by decide +kernel
theorem d_Mo_keep_2 : decode b_Mo_keep 2 = .ok (.putfield 59, 3) := by decide +kernel
theorem d_Mo_keep_5 : decode b_Mo_keep 5 = .ok (.aload_n 0, 1) := by decide +kernel
theorem d_Mo_keep_6 : decode b_Mo_keep 6 = .ok (.iload_n 1, 1) := by decide +kernel
theorem d_Mo_keep_7 : decode b_Mo_keep 7 = .ok (.bipush 31, 2) := by decide +kernel
theorem d_Mo_keep_9 : decode b_Mo_keep 9 = .ok (.invokestatic 93, 3) := by decide +kernel
theorem d_Mo_keep_12 : decode b_Mo_keep 12 = .ok (.ifCond .ne 7, 3) := by decide +kernel
theorem d_Mo_keep_15 : decode b_Mo_keep 15 = .ok (.iconst 1, 1) := by decide +kernel
theorem d_Mo_keep_16 : decode b_Mo_keep 16 = .ok (.goto 4, 3) := by decide +kernel
theorem d_Mo_keep_19 : decode b_Mo_keep 19 = .ok (.iconst 0, 1) := by decide +kernel
theorem d_Mo_keep_20 : decode b_Mo_keep 20 = .ok (.iconst 1, 1) := by decide +kernel
theorem d_Mo_keep_21 : decode b_Mo_keep 21 = .ok (.invokevirtual 96, 3) := by decide +kernel
theorem d_Mo_keep_24 : decode b_Mo_keep 24 = .ok (.ifCond .ne 25, 3) := by decide +kernel
theorem d_Mo_keep_27 : decode b_Mo_keep 27 = .ok (.aload_n 0, 1) := by decide +kernel
theorem d_Mo_keep_28 : decode b_Mo_keep 28 = .ok (.aload_n 0, 1) := by decide +kernel
theorem d_Mo_keep_29 : decode b_Mo_keep 29 = .ok (.getfield 47, 3) := by decide +kernel
theorem d_Mo_keep_32 : decode b_Mo_keep 32 = .ok (.iload_n 1, 1) := by decide +kernel
theorem d_Mo_keep_33 : decode b_Mo_keep 33 = .ok (.iaload, 1) := by decide +kernel
theorem d_Mo_keep_34 : decode b_Mo_keep 34 = .ok (.ifCond .ne 7, 3) := by decide +kernel
theorem d_Mo_keep_37 : decode b_Mo_keep 37 = .ok (.iconst 1, 1) := by decide +kernel
theorem d_Mo_keep_38 : decode b_Mo_keep 38 = .ok (.goto 4, 3) := by decide +kernel
theorem d_Mo_keep_41 : decode b_Mo_keep 41 = .ok (.iconst 0, 1) := by decide +kernel
theorem d_Mo_keep_42 : decode b_Mo_keep 42 = .ok (.iconst 2, 1) := by decide +kernel
theorem d_Mo_keep_43 : decode b_Mo_keep 43 = .ok (.invokevirtual 96, 3) := by decide +kernel
theorem d_Mo_keep_46 : decode b_Mo_keep 46 = .ok (.ifCond .eq 5, 3) := by decide +kernel
theorem d_Mo_keep_49 : decode b_Mo_keep 49 = .ok (.iconst 0, 1) := by decide +kernel
theorem d_Mo_keep_50 : decode b_Mo_keep 50 = .ok (.ireturn, 1) := by decide +kernel
theorem d_Mo_keep_51 : decode b_Mo_keep 51 = .ok (.aload_n 0, 1) := by decide +kernel
theorem d_Mo_keep_52 : decode b_Mo_keep 52 = .ok (.getfield 50, 3) := by decide +kernel
theorem d_Mo_keep_55 : decode b_Mo_keep 55 = .ok (.aload_n 0, 1) := by decide +kernel
theorem d_Mo_keep_56 : decode b_Mo_keep 56 = .ok (.dup, 1) := by decide +kernel
theorem d_Mo_keep_57 : decode b_Mo_keep 57 = .ok (.getfield 74, 3) := by decide +kernel
theorem d_Mo_keep_60 : decode b_Mo_keep 60 = .ok (.dup_x1, 1) := by decide +kernel
theorem d_Mo_keep_61 : decode b_Mo_keep 61 = .ok (.iconst 1, 1) := by decide +kernel
theorem d_Mo_keep_62 : decode b_Mo_keep 62 = .ok (.iadd, 1) := by decide +kernel
theorem d_Mo_keep_63 : decode b_Mo_keep 63 = .ok (.putfield 74, 3) := by decide +kernel
theorem d_Mo_keep_66 : decode b_Mo_keep 66 = .ok (.aload_n 0, 1) := by decide +kernel
theorem d_Mo_keep_67 : decode b_Mo_keep 67 = .ok (.getfield 47, 3) := by decide +kernel
theorem d_Mo_keep_70 : decode b_Mo_keep 70 = .ok (.iload_n 1, 1) := by decide +kernel
theorem d_Mo_keep_71 : decode b_Mo_keep 71 = .ok (.iaload, 1) := by decide +kernel
theorem d_Mo_keep_72 : decode b_Mo_keep 72 = .ok (.iastore, 1) := by decide +kernel
theorem d_Mo_keep_73 : decode b_Mo_keep 73 = .ok (.aload_n 0, 1) := by decide +kernel
theorem d_Mo_keep_74 : decode b_Mo_keep 74 = .ok (.getfield 74, 3) := by decide +kernel
theorem d_Mo_keep_77 : decode b_Mo_keep 77 = .ok (.ireturn, 1) := by decide +kernel
theorem d_Mo_number_0 : decode b_Mo_number 0 = .ok (.aload_n 0, 1) := by decide +kernel
theorem d_Mo_number_1 : decode b_Mo_number 1 = .ok (.iconst 0, 1) := by decide +kernel
theorem d_Mo_number_2 : decode b_Mo_number 2 = .ok (.putfield 59, 3) := by decide +kernel
theorem d_Mo_number_5 : decode b_Mo_number 5 = .ok (.aload_n 0, 1) := by decide +kernel
theorem d_Mo_number_6 : decode b_Mo_number 6 = .ok (.iload_n 1, 1) := by decide +kernel
theorem d_Mo_number_7 : decode b_Mo_number 7 = .ok (.bipush 31, 2) := by decide +kernel
theorem d_Mo_number_9 : decode b_Mo_number 9 = .ok (.invokestatic 93, 3) := by decide +kernel
theorem d_Mo_number_12 : decode b_Mo_number 12 = .ok (.ifCond .ne 7, 3) := by decide +kernel
theorem d_Mo_number_15 : decode b_Mo_number 15 = .ok (.iconst 1, 1) := by decide +kernel
theorem d_Mo_number_16 : decode b_Mo_number 16 = .ok (.goto 4, 3) := by decide +kernel
theorem d_Mo_number_19 : decode b_Mo_number 19 = .ok (.iconst 0, 1) := by decide +kernel
theorem d_Mo_number_20 : decode b_Mo_number 20 = .ok (.iconst 1, 1) := by decide +kernel
theorem d_Mo_number_21 : decode b_Mo_number 21 = .ok (.invokevirtual 96, 3) := by decide +kernel
theorem d_Mo_number_24 : decode b_Mo_number 24 = .ok (.ifCond .ne 25, 3) := by decide +kernel
theorem d_Mo_number_27 : decode b_Mo_number 27 = .ok (.aload_n 0, 1) := by decide +kernel
theorem d_Mo_number_28 : decode b_Mo_number 28 = .ok (.aload_n 0, 1) := by decide +kernel
theorem d_Mo_number_29 : decode b_Mo_number 29 = .ok (.getfield 47, 3) := by decide +kernel
theorem d_Mo_number_32 : decode b_Mo_number 32 = .ok (.iload_n 1, 1) := by decide +kernel
theorem d_Mo_number_33 : decode b_Mo_number 33 = .ok (.iaload, 1) := by decide +kernel
theorem d_Mo_number_34 : decode b_Mo_number 34 = .ok (.ifCond .ne 7, 3) := by decide +kernel
theorem d_Mo_number_37 : decode b_Mo_number 37 = .ok (.iconst 1, 1) := by decide +kernel
theorem d_Mo_number_38 : decode b_Mo_number 38 = .ok (.goto 4, 3) := by decide +kernel
theorem d_Mo_number_41 : decode b_Mo_number 41 = .ok (.iconst 0, 1) := by decide +kernel
theorem d_Mo_number_42 : decode b_Mo_number 42 = .ok (.iconst 2, 1) := by decide +kernel
theorem d_Mo_number_43 : decode b_Mo_number 43 = .ok (.invokevirtual 96, 3) := by decide +kernel
theorem d_Mo_number_46 : decode b_Mo_number 46 = .ok (.ifCond .eq 5, 3) := by decide +kernel
theorem d_Mo_number_49 : decode b_Mo_number 49 = .ok (.iconst 0, 1) := by decide +kernel
theorem d_Mo_number_50 : decode b_Mo_number 50 = .ok (.ireturn, 1) := by decide +kernel
theorem d_Mo_number_51 : decode b_Mo_number 51 = .ok (.aload_n 0, 1) := by decide +kernel
theorem d_Mo_number_52 : decode b_Mo_number 52 = .ok (.getfield 29, 3) := by decide +kernel
theorem d_Mo_number_55 : decode b_Mo_number 55 = .ok (.aload_n 0, 1) := by decide +kernel
theorem d_Mo_number_56 : decode b_Mo_number 56 = .ok (.getfield 47, 3) := by decide +kernel
theorem d_Mo_number_59 : decode b_Mo_number 59 = .ok (.iload_n 1, 1) := by decide +kernel
theorem d_Mo_number_60 : decode b_Mo_number 60 = .ok (.iaload, 1) := by decide +kernel
theorem d_Mo_number_61 : decode b_Mo_number 61 = .ok (.iaload, 1) := by decide +kernel
theorem d_Mo_number_62 : decode b_Mo_number 62 = .ok (.ifCond .ne 25, 3) := by decide +kernel
theorem d_Mo_number_65 : decode b_Mo_number 65 = .ok (.aload_n 0, 1) := by decide +kernel
theorem d_Mo_number_66 : decode b_Mo_number 66 = .ok (.getfield 29, 3) := by decide +kernel
theorem d_Mo_number_69 : decode b_Mo_number 69 = .ok (.aload_n 0, 1) := by decide +kernel
theorem d_Mo_number_70 : decode b_Mo_number 70 = .ok (.getfield 47, 3) := by decide +kernel
theorem d_Mo_number_73 : decode b_Mo_number 73 = .ok (.iload_n 1, 1) := by decide +kernel
theorem d_Mo_number_74 : decode b_Mo_number 74 = .ok (.iaload, 1) := by decide +kernel
theorem d_Mo_number_75 : decode b_Mo_number 75 = .ok (.aload_n 0, 1) := by decide +kernel
theorem d_Mo_number_76 : decode b_Mo_number 76 = .ok (.dup, 1) := by decide +kernel
theorem d_Mo_number_77 : decode b_Mo_number 77 = .ok (.getfield 115, 3) := by decide +kernel
theorem d_Mo_number_80 : decode b_Mo_number 80 = .ok (.iconst 1, 1) := by decide +kernel
theorem d_Mo_number_81 : decode b_Mo_number 81 = .ok (.iadd, 1) := by decide +kernel
theorem d_Mo_number_82 : decode b_Mo_number 82 = .ok (.dup_x1, 1) := by decide +kernel
theorem d_Mo_number_83 : decode b_Mo_number 83 = .ok (.putfield 115, 3) := by decide +kernel
theorem d_Mo_number_86 : decode b_Mo_number 86 = .ok (.iastore, 1) := by decide +kernel
theorem d_Mo_number_87 : decode b_Mo_number 87 = .ok (.aload_n 0, 1) := by decide +kernel
theorem d_Mo_number_88 : decode b_Mo_number 88 = .ok (.getfield 29, 3) := by decide +kernel
theorem d_Mo_number_91 : decode b_Mo_number 91 = .ok (.aload_n 0, 1) := by decide +kernel
theorem d_Mo_number_92 : decode b_Mo_number 92 = .ok (.getfield 47, 3) := by decide +kernel
theorem d_Mo_number_95 : decode b_Mo_number 95 = .ok (.iload_n 1, 1) := by decide +kernel
theorem d_Mo_number_96 : decode b_Mo_number 96 = .ok (.iaload, 1) := by decide +kernel
theorem d_Mo_number_97 : decode b_Mo_number 97 = .ok (.iaload, 1) := by decide +kernel
theorem d_Mo_number_98 : decode b_Mo_number 98 = .ok (.ireturn, 1) := by decide +kernel
theorem d_Mo_size_0 : decode b_Mo_size 0 = .ok (.aload_n 0, 1) := by decide +kernel
theorem d_Mo_size_1 : decode b_Mo_size 1 = .ok (.iconst 0, 1) := by decide +kernel
theorem d_Mo_size_2 : decode b_Mo_size 2 = .ok (.putfield 59, 3) := by decide +kernel
theorem d_Mo_size_5 : decode b_Mo_size 5 = .ok (.aload_n 0, 1) := by decide +kernel
theorem d_Mo_size_6 : decode b_Mo_size 6 = .ok (.iload_n 1, 1) := by decide +kernel
theorem d_Mo_size_7 : decode b_Mo_size 7 = .ok (.bipush 31, 2) := by decide +kernel
theorem d_Mo_size_9 : decode b_Mo_size 9 = .ok (.invokestatic 93, 3) := by decide +kernel
theorem d_Mo_size_12 : decode b_Mo_size 12 = .ok (.ifCond .ne 7, 3) := by decide +kernel
theorem d_Mo_size_15 : decode b_Mo_size 15 = .ok (.iconst 1, 1) := by decide +kernel
theorem d_Mo_size_16 : decode b_Mo_size 16 = .ok (.goto 4, 3) := by decide +kernel
theorem d_Mo_size_19 : decode b_Mo_size 19 = .ok (.iconst 0, 1) := by decide +kernel
theorem d_Mo_size_20 : decode b_Mo_size 20 = .ok (.iconst 1, 1) := by decide +kernel
theorem d_Mo_size_21 : decode b_Mo_size 21 = .ok (.invokevirtual 96, 3) := by decide +kernel
theorem d_Mo_size_24 : decode b_Mo_size 24 = .ok (.ifCond .ne 25, 3) := by decide +kernel
theorem d_Mo_size_27 : decode b_Mo_size 27 = .ok (.aload_n 0, 1) := by decide +kernel
theorem d_Mo_size_28 : decode b_Mo_size 28 = .ok (.aload_n 0, 1) := by decide +kernel
theorem d_Mo_size_29 : decode b_Mo_size 29 = .ok (.getfield 47, 3) := by decide +kernel
theorem d_Mo_size_32 : decode b_Mo_size 32 = .ok (.iload_n 1, 1) := by decide +kernel
theorem d_Mo_size_33 : decode b_Mo_size 33 = .ok (.iaload, 1) := by decide +kernel
theorem d_Mo_size_34 : decode b_Mo_size 34 = .ok (.ifCond .ne 7, 3) := by decide +kernel
theorem d_Mo_size_37 : decode b_Mo_size 37 = .ok (.iconst 1, 1) := by decide +kernel
theorem d_Mo_size_38 : decode b_Mo_size 38 = .ok (.goto 4, 3) := by decide +kernel
theorem d_Mo_size_41 : decode b_Mo_size 41 = .ok (.iconst 0, 1) := by decide +kernel
theorem d_Mo_size_42 : decode b_Mo_size 42 = .ok (.iconst 2, 1) := by decide +kernel
theorem d_Mo_size_43 : decode b_Mo_size 43 = .ok (.invokevirtual 96, 3) := by decide +kernel
theorem d_Mo_size_46 : decode b_Mo_size 46 = .ok (.ifCond .eq 5, 3) := by decide +kernel
theorem d_Mo_size_49 : decode b_Mo_size 49 = .ok (.iconst 0, 1) := by decide +kernel
theorem d_Mo_size_50 : decode b_Mo_size 50 = .ok (.ireturn, 1) := by decide +kernel
theorem d_Mo_size_51 : decode b_Mo_size 51 = .ok (.aload_n 0, 1) := by decide +kernel
theorem d_Mo_size_52 : decode b_Mo_size 52 = .ok (.aload_n 0, 1) := by decide +kernel
theorem d_Mo_size_53 : decode b_Mo_size 53 = .ok (.getfield 47, 3) := by decide +kernel
theorem d_Mo_size_56 : decode b_Mo_size 56 = .ok (.iload_n 1, 1) := by decide +kernel
theorem d_Mo_size_57 : decode b_Mo_size 57 = .ok (.iaload, 1) := by decide +kernel
theorem d_Mo_size_58 : decode b_Mo_size 58 = .ok (.invokevirtual 77, 3) := by decide +kernel
theorem d_Mo_size_61 : decode b_Mo_size 61 = .ok (.ireturn, 1) := by decide +kernel
theorem d_Mo_memory_0 : decode b_Mo_memory 0 = .ok (.aload_n 0, 1) := by decide +kernel
theorem d_Mo_memory_1 : decode b_Mo_memory 1 = .ok (.iconst 0, 1) := by decide +kernel
theorem d_Mo_memory_2 : decode b_Mo_memory 2 = .ok (.putfield 59, 3) := by decide +kernel
theorem d_Mo_memory_5 : decode b_Mo_memory 5 = .ok (.aload_n 0, 1) := by decide +kernel
theorem d_Mo_memory_6 : decode b_Mo_memory 6 = .ok (.iload_n 1, 1) := by decide +kernel
theorem d_Mo_memory_7 : decode b_Mo_memory 7 = .ok (.bipush 16, 2) := by decide +kernel
theorem d_Mo_memory_9 : decode b_Mo_memory 9 = .ok (.if_icmp .lt 9, 3) := by decide +kernel
theorem d_Mo_memory_12 : decode b_Mo_memory 12 = .ok (.iload_n 1, 1) := by decide +kernel
theorem d_Mo_memory_13 : decode b_Mo_memory 13 = .ok (.ldc 32, 2) := by decide +kernel
theorem d_Mo_memory_15 : decode b_Mo_memory 15 = .ok (.if_icmp .le 7, 3) := by decide +kernel
theorem d_Mo_memory_18 : decode b_Mo_memory 18 = .ok (.iconst 1, 1) := by decide +kernel
theorem d_Mo_memory_19 : decode b_Mo_memory 19 = .ok (.goto 4, 3) := by decide +kernel
theorem d_Mo_memory_22 : decode b_Mo_memory 22 = .ok (.iconst 0, 1) := by decide +kernel
theorem d_Mo_memory_23 : decode b_Mo_memory 23 = .ok (.iconst 1, 1) := by decide +kernel
theorem d_Mo_memory_24 : decode b_Mo_memory 24 = .ok (.invokevirtual 96, 3) := by decide +kernel
theorem d_Mo_memory_27 : decode b_Mo_memory 27 = .ok (.ifCond .eq 5, 3) := by decide +kernel
theorem d_Mo_memory_30 : decode b_Mo_memory 30 = .ok (.iconst 0, 1) := by decide +kernel
theorem d_Mo_memory_31 : decode b_Mo_memory 31 = .ok (.ireturn, 1) := by decide +kernel
theorem d_Mo_memory_32 : decode b_Mo_memory 32 = .ok (.aload_n 0, 1) := by decide +kernel
theorem d_Mo_memory_33 : decode b_Mo_memory 33 = .ok (.invokevirtual 100, 3) := by decide +kernel
theorem d_Mo_memory_36 : decode b_Mo_memory 36 = .ok (.iload_n 1, 1) := by decide +kernel
theorem d_Mo_memory_37 : decode b_Mo_memory 37 = .ok (.i2l, 1) := by decide +kernel
theorem d_Mo_memory_38 : decode b_Mo_memory 38 = .ok (.lcmp, 1) := by decide +kernel
theorem d_Mo_memory_39 : decode b_Mo_memory 39 = .ok (.ifCond .gt 7, 3) := by decide +kernel
theorem d_Mo_memory_42 : decode b_Mo_memory 42 = .ok (.iconst 1, 1) := by decide +kernel
theorem d_Mo_memory_43 : decode b_Mo_memory 43 = .ok (.goto 4, 3) := by decide +kernel
theorem d_Mo_memory_46 : decode b_Mo_memory 46 = .ok (.iconst 0, 1) := by decide +kernel
theorem d_Mo_memory_47 : decode b_Mo_memory 47 = .ok (.istore_n 2, 1) := by decide +kernel
theorem d_Mo_memory_48 : decode b_Mo_memory 48 = .ok (.iload_n 2, 1) := by decide +kernel
theorem d_Mo_memory_49 : decode b_Mo_memory 49 = .ok (.ifCond .eq 8, 3) := by decide +kernel
theorem d_Mo_memory_52 : decode b_Mo_memory 52 = .ok (.aload_n 0, 1) := by decide +kernel
theorem d_Mo_memory_53 : decode b_Mo_memory 53 = .ok (.iload_n 1, 1) := by decide +kernel
theorem d_Mo_memory_54 : decode b_Mo_memory 54 = .ok (.putfield 33, 3) := by decide +kernel
theorem d_Mo_memory_57 : decode b_Mo_memory 57 = .ok (.iload_n 2, 1) := by decide +kernel
theorem d_Mo_memory_58 : decode b_Mo_memory 58 = .ok (.ireturn, 1) := by decide +kernel
theorem d_Mo_every_0 : decode b_Mo_every 0 = .ok (.aload_n 0, 1) := by decide +kernel
theorem d_Mo_every_1 : decode b_Mo_every 1 = .ok (.iconst 0, 1) := by decide +kernel
theorem d_Mo_every_2 : decode b_Mo_every 2 = .ok (.putfield 59, 3) := by decide +kernel
theorem d_Mo_every_5 : decode b_Mo_every 5 = .ok (.aload_n 0, 1) := by decide +kernel
theorem d_Mo_every_6 : decode b_Mo_every 6 = .ok (.iload_n 1, 1) := by decide +kernel
theorem d_Mo_every_7 : decode b_Mo_every 7 = .ok (.ifCond .ge 7, 3) := by decide +kernel
theorem d_Mo_every_10 : decode b_Mo_every 10 = .ok (.iconst 1, 1) := by decide +kernel
theorem d_Mo_every_11 : decode b_Mo_every 11 = .ok (.goto 4, 3) := by decide +kernel
theorem d_Mo_every_14 : decode b_Mo_every 14 = .ok (.iconst 0, 1) := by decide +kernel
theorem d_Mo_every_15 : decode b_Mo_every 15 = .ok (.iconst 1, 1) := by decide +kernel
theorem d_Mo_every_16 : decode b_Mo_every 16 = .ok (.invokevirtual 96, 3) := by decide +kernel
theorem d_Mo_every_19 : decode b_Mo_every 19 = .ok (.pop, 1) := by decide +kernel
theorem d_Mo_every_20 : decode b_Mo_every 20 = .ok (.return_, 1) := by decide +kernel
theorem d_Mo_collect_0 : decode b_Mo_collect 0 = .ok (.aload_n 0, 1) := by decide +kernel
theorem d_Mo_collect_1 : decode b_Mo_collect 1 = .ok (.iconst 0, 1) := by decide +kernel
theorem d_Mo_collect_2 : decode b_Mo_collect 2 = .ok (.putfield 59, 3) := by decide +kernel
theorem d_Mo_collect_5 : decode b_Mo_collect 5 = .ok (.aload_n 0, 1) := by decide +kernel
theorem d_Mo_collect_6 : decode b_Mo_collect 6 = .ok (.invokevirtual 100, 3) := by decide +kernel
theorem d_Mo_collect_9 : decode b_Mo_collect 9 = .ok (.l2i, 1) := by decide +kernel
theorem d_Mo_collect_10 : decode b_Mo_collect 10 = .ok (.ireturn, 1) := by decide +kernel
end
section
/-! decode rows, laid by program -/
theorem d_La_plain_0 : decode b_La_plain 0 = .ok (.aload_n 0, 1) := by decide +kernel
theorem d_La_plain_1 : decode b_La_plain 1 = .ok (.iload_n 1, 1) := by decide +kernel
theorem d_La_plain_2 : decode b_La_plain 2 = .ok (.iload_n 2, 1) := by decide +kernel
theorem d_La_plain_3 : decode b_La_plain 3 = .ok (.iload_n 3, 1) := by decide +kernel
theorem d_La_plain_4 : decode b_La_plain 4 = .ok (.invokevirtual 7, 3) := by decide +kernel
theorem d_La_plain_7 : decode b_La_plain 7 = .ok (.goto 7, 3) := by decide +kernel
theorem d_La_plain_10 : decode b_La_plain 10 = .ok (.astore 4, 2) := by decide +kernel
theorem d_La_plain_12 : decode b_La_plain 12 = .ok (.iconst 1, 1) := by decide +kernel
theorem d_La_plain_13 : decode b_La_plain 13 = .ok (.ireturn, 1) := by decide +kernel
theorem d_La_plain_14 : decode b_La_plain 14 = .ok (.iconst 0, 1) := by decide +kernel
theorem d_La_plain_15 : decode b_La_plain 15 = .ok (.ireturn, 1) := by decide +kernel
theorem d_La_row_0 : decode b_La_row 0 = .ok (.aload_n 0, 1) := by decide +kernel
theorem d_La_row_1 : decode b_La_row 1 = .ok (.iload_n 1, 1) := by decide +kernel
theorem d_La_row_2 : decode b_La_row 2 = .ok (.iload_n 2, 1) := by decide +kernel
theorem d_La_row_3 : decode b_La_row 3 = .ok (.invokevirtual 15, 3) := by decide +kernel
theorem d_La_row_6 : decode b_La_row 6 = .ok (.goto 6, 3) := by decide +kernel
theorem d_La_row_9 : decode b_La_row 9 = .ok (.astore_n 3, 1) := by decide +kernel
theorem d_La_row_10 : decode b_La_row 10 = .ok (.iconst 1, 1) := by decide +kernel
theorem d_La_row_11 : decode b_La_row 11 = .ok (.ireturn, 1) := by decide +kernel
theorem d_La_row_12 : decode b_La_row 12 = .ok (.iconst 0, 1) := by decide +kernel
theorem d_La_row_13 : decode b_La_row 13 = .ok (.ireturn, 1) := by decide +kernel
theorem d_La_make_0 : decode b_La_make 0 = .ok (.aload 4, 2) := by decide +kernel
theorem d_La_make_2 : decode b_La_make 2 = .ok (.iconst 0, 1) := by decide +kernel
theorem d_La_make_3 : decode b_La_make 3 = .ok (.aload_n 0, 1) := by decide +kernel
theorem d_La_make_4 : decode b_La_make 4 = .ok (.iload_n 1, 1) := by decide +kernel
theorem d_La_make_5 : decode b_La_make 5 = .ok (.iload_n 2, 1) := by decide +kernel
theorem d_La_make_6 : decode b_La_make 6 = .ok (.iload_n 3, 1) := by decide +kernel
theorem d_La_make_7 : decode b_La_make 7 = .ok (.invokevirtual 19, 3) := by decide +kernel
theorem d_La_make_10 : decode b_La_make 10 = .ok (.i2l, 1) := by decide +kernel
theorem d_La_make_11 : decode b_La_make 11 = .ok (.lastore, 1) := by decide +kernel
theorem d_La_make_12 : decode b_La_make 12 = .ok (.goto 15, 3) := by decide +kernel
theorem d_La_make_15 : decode b_La_make 15 = .ok (.astore 5, 2) := by decide +kernel
theorem d_La_make_17 : decode b_La_make 17 = .ok (.iconst 1, 1) := by decide +kernel
theorem d_La_make_18 : decode b_La_make 18 = .ok (.ireturn, 1) := by decide +kernel
theorem d_La_make_19 : decode b_La_make 19 = .ok (.astore 5, 2) := by decide +kernel
theorem d_La_make_21 : decode b_La_make 21 = .ok (.iconst 2, 1) := by decide +kernel
theorem d_La_make_22 : decode b_La_make 22 = .ok (.ireturn, 1) := by decide +kernel
theorem d_La_make_23 : decode b_La_make 23 = .ok (.astore 5, 2) := by decide +kernel
theorem d_La_make_25 : decode b_La_make 25 = .ok (.iconst 3, 1) := by decide +kernel
theorem d_La_make_26 : decode b_La_make 26 = .ok (.ireturn, 1) := by decide +kernel
theorem d_La_make_27 : decode b_La_make 27 = .ok (.iconst 0, 1) := by decide +kernel
theorem d_La_make_28 : decode b_La_make 28 = .ok (.ireturn, 1) := by decide +kernel
theorem d_La_copy_0 : decode b_La_copy 0 = .ok (.aload_n 3, 1) := by decide +kernel
theorem d_La_copy_1 : decode b_La_copy 1 = .ok (.iconst 0, 1) := by decide +kernel
theorem d_La_copy_2 : decode b_La_copy 2 = .ok (.aload_n 0, 1) := by decide +kernel
theorem d_La_copy_3 : decode b_La_copy 3 = .ok (.iload_n 1, 1) := by decide +kernel
theorem d_La_copy_4 : decode b_La_copy 4 = .ok (.iload_n 2, 1) := by decide +kernel
theorem d_La_copy_5 : decode b_La_copy 5 = .ok (.invokevirtual 27, 3) := by decide +kernel
theorem d_La_copy_8 : decode b_La_copy 8 = .ok (.ifCond .eq 7, 3) := by decide +kernel
theorem d_La_copy_11 : decode b_La_copy 11 = .ok (.lconst 1, 1) := by decide +kernel
theorem d_La_copy_12 : decode b_La_copy 12 = .ok (.goto 4, 3) := by decide +kernel
theorem d_La_copy_15 : decode b_La_copy 15 = .ok (.lconst 0, 1) := by decide +kernel
theorem d_La_copy_16 : decode b_La_copy 16 = .ok (.lastore, 1) := by decide +kernel
theorem d_La_copy_17 : decode b_La_copy 17 = .ok (.goto 7, 3) := by decide +kernel
theorem d_La_copy_20 : decode b_La_copy 20 = .ok (.astore 4, 2) := by decide +kernel
theorem d_La_copy_22 : decode b_La_copy 22 = .ok (.iconst 1, 1) := by decide +kernel
theorem d_La_copy_23 : decode b_La_copy 23 = .ok (.ireturn, 1) := by decide +kernel
theorem d_La_copy_24 : decode b_La_copy 24 = .ok (.iconst 0, 1) := by decide +kernel
theorem d_La_copy_25 : decode b_La_copy 25 = .ok (.ireturn, 1) := by decide +kernel
theorem d_La_drop_0 : decode b_La_drop 0 = .ok (.aload_n 2, 1) := by decide +kernel
theorem d_La_drop_1 : decode b_La_drop 1 = .ok (.iconst 0, 1) := by decide +kernel
theorem d_La_drop_2 : decode b_La_drop 2 = .ok (.aload_n 0, 1) := by decide +kernel
theorem d_La_drop_3 : decode b_La_drop 3 = .ok (.iload_n 1, 1) := by decide +kernel
theorem d_La_drop_4 : decode b_La_drop 4 = .ok (.invokevirtual 31, 3) := by decide +kernel
theorem d_La_drop_7 : decode b_La_drop 7 = .ok (.ifCond .eq 7, 3) := by decide +kernel
theorem d_La_drop_10 : decode b_La_drop 10 = .ok (.lconst 1, 1) := by decide +kernel
theorem d_La_drop_11 : decode b_La_drop 11 = .ok (.goto 4, 3) := by decide +kernel
theorem d_La_drop_14 : decode b_La_drop 14 = .ok (.lconst 0, 1) := by decide +kernel
theorem d_La_drop_15 : decode b_La_drop 15 = .ok (.lastore, 1) := by decide +kernel
theorem d_La_drop_16 : decode b_La_drop 16 = .ok (.goto 6, 3) := by decide +kernel
theorem d_La_drop_19 : decode b_La_drop 19 = .ok (.astore_n 3, 1) := by decide +kernel
theorem d_La_drop_20 : decode b_La_drop 20 = .ok (.iconst 1, 1) := by decide +kernel
theorem d_La_drop_21 : decode b_La_drop 21 = .ok (.ireturn, 1) := by decide +kernel
theorem d_La_drop_22 : decode b_La_drop 22 = .ok (.iconst 0, 1) := by decide +kernel
theorem d_La_drop_23 : decode b_La_drop 23 = .ok (.ireturn, 1) := by decide +kernel
theorem d_La_same_0 : decode b_La_same 0 = .ok (.aload_n 3, 1) := by decide +kernel
theorem d_La_same_1 : decode b_La_same 1 = .ok (.iconst 0, 1) := by decide +kernel
theorem d_La_same_2 : decode b_La_same 2 = .ok (.aload_n 0, 1) := by decide +kernel
theorem d_La_same_3 : decode b_La_same 3 = .ok (.iload_n 1, 1) := by decide +kernel
theorem d_La_same_4 : decode b_La_same 4 = .ok (.iload_n 2, 1) := by decide +kernel
theorem d_La_same_5 : decode b_La_same 5 = .ok (.invokevirtual 35, 3) := by decide +kernel
theorem d_La_same_8 : decode b_La_same 8 = .ok (.ifCond .eq 7, 3) := by decide +kernel
theorem d_La_same_11 : decode b_La_same 11 = .ok (.lconst 1, 1) := by decide +kernel
theorem d_La_same_12 : decode b_La_same 12 = .ok (.goto 4, 3) := by decide +kernel
theorem d_La_same_15 : decode b_La_same 15 = .ok (.lconst 0, 1) := by decide +kernel
theorem d_La_same_16 : decode b_La_same 16 = .ok (.lastore, 1) := by decide +kernel
theorem d_La_same_17 : decode b_La_same 17 = .ok (.goto 7, 3) := by decide +kernel
theorem d_La_same_20 : decode b_La_same 20 = .ok (.astore 4, 2) := by decide +kernel
theorem d_La_same_22 : decode b_La_same 22 = .ok (.iconst 1, 1) := by decide +kernel
theorem d_La_same_23 : decode b_La_same 23 = .ok (.ireturn, 1) := by decide +kernel
theorem d_La_same_24 : decode b_La_same 24 = .ok (.iconst 0, 1) := by decide +kernel
theorem d_La_same_25 : decode b_La_same 25 = .ok (.ireturn, 1) := by decide +kernel
theorem d_La_get_0 : decode b_La_get 0 = .ok (.aload_n 3, 1) := by decide +kernel
theorem d_La_get_1 : decode b_La_get 1 = .ok (.iconst 0, 1) := by decide +kernel
theorem d_La_get_2 : decode b_La_get 2 = .ok (.aload_n 0, 1) := by decide +kernel
theorem d_La_get_3 : decode b_La_get 3 = .ok (.iload_n 1, 1) := by decide +kernel
theorem d_La_get_4 : decode b_La_get 4 = .ok (.iload_n 2, 1) := by decide +kernel
theorem d_La_get_5 : decode b_La_get 5 = .ok (.invokevirtual 38, 3) := by decide +kernel
theorem d_La_get_8 : decode b_La_get 8 = .ok (.lastore, 1) := by decide +kernel
theorem d_La_get_9 : decode b_La_get 9 = .ok (.goto 19, 3) := by decide +kernel
theorem d_La_get_12 : decode b_La_get 12 = .ok (.astore 4, 2) := by decide +kernel
theorem d_La_get_14 : decode b_La_get 14 = .ok (.iconst 1, 1) := by decide +kernel
theorem d_La_get_15 : decode b_La_get 15 = .ok (.ireturn, 1) := by decide +kernel
theorem d_La_get_16 : decode b_La_get 16 = .ok (.astore 4, 2) := by decide +kernel
theorem d_La_get_18 : decode b_La_get 18 = .ok (.iconst 2, 1) := by decide +kernel
theorem d_La_get_19 : decode b_La_get 19 = .ok (.ireturn, 1) := by decide +kernel
theorem d_La_get_20 : decode b_La_get 20 = .ok (.astore 4, 2) := by decide +kernel
theorem d_La_get_22 : decode b_La_get 22 = .ok (.iconst 3, 1) := by decide +kernel
theorem d_La_get_23 : decode b_La_get 23 = .ok (.ireturn, 1) := by decide +kernel
theorem d_La_get_24 : decode b_La_get 24 = .ok (.astore 4, 2) := by decide +kernel
theorem d_La_get_26 : decode b_La_get 26 = .ok (.iconst 4, 1) := by decide +kernel
theorem d_La_get_27 : decode b_La_get 27 = .ok (.ireturn, 1) := by decide +kernel
theorem d_La_get_28 : decode b_La_get 28 = .ok (.iconst 0, 1) := by decide +kernel
theorem d_La_get_29 : decode b_La_get 29 = .ok (.ireturn, 1) := by decide +kernel
theorem d_La_put_0 : decode b_La_put 0 = .ok (.aload_n 0, 1) := by decide +kernel
theorem d_La_put_1 : decode b_La_put 1 = .ok (.iload_n 1, 1) := by decide +kernel
theorem d_La_put_2 : decode b_La_put 2 = .ok (.iload_n 2, 1) := by decide +kernel
theorem d_La_put_3 : decode b_La_put 3 = .ok (.lload_n 3, 1) := by decide +kernel
theorem d_La_put_4 : decode b_La_put 4 = .ok (.invokevirtual 44, 3) := by decide +kernel
theorem d_La_put_7 : decode b_La_put 7 = .ok (.goto 19, 3) := by decide +kernel
theorem d_La_put_10 : decode b_La_put 10 = .ok (.astore 5, 2) := by decide +kernel
theorem d_La_put_12 : decode b_La_put 12 = .ok (.iconst 1, 1) := by decide +kernel
theorem d_La_put_13 : decode b_La_put 13 = .ok (.ireturn, 1) := by decide +kernel
theorem d_La_put_14 : decode b_La_put 14 = .ok (.astore 5, 2) := by decide +kernel
theorem d_La_put_16 : decode b_La_put 16 = .ok (.iconst 2, 1) := by decide +kernel
theorem d_La_put_17 : decode b_La_put 17 = .ok (.ireturn, 1) := by decide +kernel
theorem d_La_put_18 : decode b_La_put 18 = .ok (.astore 5, 2) := by decide +kernel
theorem d_La_put_20 : decode b_La_put 20 = .ok (.iconst 3, 1) := by decide +kernel
theorem d_La_put_21 : decode b_La_put 21 = .ok (.ireturn, 1) := by decide +kernel
theorem d_La_put_22 : decode b_La_put 22 = .ok (.astore 5, 2) := by decide +kernel
theorem d_La_put_24 : decode b_La_put 24 = .ok (.iconst 4, 1) := by decide +kernel
theorem d_La_put_25 : decode b_La_put 25 = .ok (.ireturn, 1) := by decide +kernel
theorem d_La_put_26 : decode b_La_put 26 = .ok (.iconst 0, 1) := by decide +kernel
theorem d_La_put_27 : decode b_La_put 27 = .ok (.ireturn, 1) := by decide +kernel
theorem d_La_link_0 : decode b_La_link 0 = .ok (.aload 4, 2) := by decide +kernel
theorem d_La_link_2 : decode b_La_link 2 = .ok (.iconst 0, 1) := by decide +kernel
theorem d_La_link_3 : decode b_La_link 3 = .ok (.aload_n 0, 1) := by decide +kernel
theorem d_La_link_4 : decode b_La_link 4 = .ok (.iload_n 1, 1) := by decide +kernel
theorem d_La_link_5 : decode b_La_link 5 = .ok (.iload_n 2, 1) := by decide +kernel
theorem d_La_link_6 : decode b_La_link 6 = .ok (.iload_n 3, 1) := by decide +kernel
theorem d_La_link_7 : decode b_La_link 7 = .ok (.invokevirtual 48, 3) := by decide +kernel
theorem d_La_link_10 : decode b_La_link 10 = .ok (.ifCond .eq 7, 3) := by decide +kernel
theorem d_La_link_13 : decode b_La_link 13 = .ok (.lconst 1, 1) := by decide +kernel
theorem d_La_link_14 : decode b_La_link 14 = .ok (.goto 4, 3) := by decide +kernel
theorem d_La_link_17 : decode b_La_link 17 = .ok (.lconst 0, 1) := by decide +kernel
theorem d_La_link_18 : decode b_La_link 18 = .ok (.lastore, 1) := by decide +kernel
theorem d_La_link_19 : decode b_La_link 19 = .ok (.goto 19, 3) := by decide +kernel
theorem d_La_link_22 : decode b_La_link 22 = .ok (.astore 5, 2) := by decide +kernel
theorem d_La_link_24 : decode b_La_link 24 = .ok (.iconst 1, 1) := by decide +kernel
theorem d_La_link_25 : decode b_La_link 25 = .ok (.ireturn, 1) := by decide +kernel
theorem d_La_link_26 : decode b_La_link 26 = .ok (.astore 5, 2) := by decide +kernel
theorem d_La_link_28 : decode b_La_link 28 = .ok (.iconst 2, 1) := by decide +kernel
theorem d_La_link_29 : decode b_La_link 29 = .ok (.ireturn, 1) := by decide +kernel
theorem d_La_link_30 : decode b_La_link 30 = .ok (.astore 5, 2) := by decide +kernel
theorem d_La_link_32 : decode b_La_link 32 = .ok (.iconst 3, 1) := by decide +kernel
theorem d_La_link_33 : decode b_La_link 33 = .ok (.ireturn, 1) := by decide +kernel
theorem d_La_link_34 : decode b_La_link 34 = .ok (.astore 5, 2) := by decide +kernel
theorem d_La_link_36 : decode b_La_link 36 = .ok (.iconst 4, 1) := by decide +kernel
theorem d_La_link_37 : decode b_La_link 37 = .ok (.ireturn, 1) := by decide +kernel
theorem d_La_link_38 : decode b_La_link 38 = .ok (.iconst 0, 1) := by decide +kernel
theorem d_La_link_39 : decode b_La_link 39 = .ok (.ireturn, 1) := by decide +kernel
theorem d_La_follow_0 : decode b_La_follow 0 = .ok (.aload 4, 2) := by decide +kernel
theorem d_La_follow_2 : decode b_La_follow 2 = .ok (.iconst 0, 1) := by decide +kernel
theorem d_La_follow_3 : decode b_La_follow 3 = .ok (.aload_n 0, 1) := by decide +kernel
theorem d_La_follow_4 : decode b_La_follow 4 = .ok (.iload_n 1, 1) := by decide +kernel
theorem d_La_follow_5 : decode b_La_follow 5 = .ok (.iload_n 2, 1) := by decide +kernel
theorem d_La_follow_6 : decode b_La_follow 6 = .ok (.iload_n 3, 1) := by decide +kernel
theorem d_La_follow_7 : decode b_La_follow 7 = .ok (.invokevirtual 52, 3) := by decide +kernel
theorem d_La_follow_10 : decode b_La_follow 10 = .ok (.ifCond .eq 7, 3) := by decide +kernel
theorem d_La_follow_13 : decode b_La_follow 13 = .ok (.lconst 1, 1) := by decide +kernel
theorem d_La_follow_14 : decode b_La_follow 14 = .ok (.goto 4, 3) := by decide +kernel
theorem d_La_follow_17 : decode b_La_follow 17 = .ok (.lconst 0, 1) := by decide +kernel
theorem d_La_follow_18 : decode b_La_follow 18 = .ok (.lastore, 1) := by decide +kernel
theorem d_La_follow_19 : decode b_La_follow 19 = .ok (.goto 19, 3) := by decide +kernel
theorem d_La_follow_22 : decode b_La_follow 22 = .ok (.astore 5, 2) := by decide +kernel
theorem d_La_follow_24 : decode b_La_follow 24 = .ok (.iconst 1, 1) := by decide +kernel
theorem d_La_follow_25 : decode b_La_follow 25 = .ok (.ireturn, 1) := by decide +kernel
theorem d_La_follow_26 : decode b_La_follow 26 = .ok (.astore 5, 2) := by decide +kernel
theorem d_La_follow_28 : decode b_La_follow 28 = .ok (.iconst 2, 1) := by decide +kernel
theorem d_La_follow_29 : decode b_La_follow 29 = .ok (.ireturn, 1) := by decide +kernel
theorem d_La_follow_30 : decode b_La_follow 30 = .ok (.astore 5, 2) := by decide +kernel
theorem d_La_follow_32 : decode b_La_follow 32 = .ok (.iconst 3, 1) := by decide +kernel
theorem d_La_follow_33 : decode b_La_follow 33 = .ok (.ireturn, 1) := by decide +kernel
theorem d_La_follow_34 : decode b_La_follow 34 = .ok (.astore 5, 2) := by decide +kernel
theorem d_La_follow_36 : decode b_La_follow 36 = .ok (.iconst 4, 1) := by decide +kernel
theorem d_La_follow_37 : decode b_La_follow 37 = .ok (.ireturn, 1) := by decide +kernel
theorem d_La_follow_38 : decode b_La_follow 38 = .ok (.iconst 0, 1) := by decide +kernel
theorem d_La_follow_39 : decode b_La_follow 39 = .ok (.ireturn, 1) := by decide +kernel
theorem d_La_keep_0 : decode b_La_keep 0 = .ok (.aload_n 2, 1) := by decide +kernel
theorem d_La_keep_1 : decode b_La_keep 1 = .ok (.iconst 0, 1) := by decide +kernel
theorem d_La_keep_2 : decode b_La_keep 2 = .ok (.aload_n 0, 1) := by decide +kernel
theorem d_La_keep_3 : decode b_La_keep 3 = .ok (.iload_n 1, 1) := by decide +kernel
theorem d_La_keep_4 : decode b_La_keep 4 = .ok (.invokevirtual 55, 3) := by decide +kernel
theorem d_La_keep_7 : decode b_La_keep 7 = .ok (.i2l, 1) := by decide +kernel
theorem d_La_keep_8 : decode b_La_keep 8 = .ok (.lastore, 1) := by decide +kernel
theorem d_La_keep_9 : decode b_La_keep 9 = .ok (.goto 9, 3) := by decide +kernel
theorem d_La_keep_12 : decode b_La_keep 12 = .ok (.astore_n 3, 1) := by decide +kernel
theorem d_La_keep_13 : decode b_La_keep 13 = .ok (.iconst 1, 1) := by decide +kernel
theorem d_La_keep_14 : decode b_La_keep 14 = .ok (.ireturn, 1) := by decide +kernel
theorem d_La_keep_15 : decode b_La_keep 15 = .ok (.astore_n 3, 1) := by decide +kernel
theorem d_La_keep_16 : decode b_La_keep 16 = .ok (.iconst 2, 1) := by decide +kernel
theorem d_La_keep_17 : decode b_La_keep 17 = .ok (.ireturn, 1) := by decide +kernel
theorem d_La_keep_18 : decode b_La_keep 18 = .ok (.iconst 0, 1) := by decide +kernel
theorem d_La_keep_19 : decode b_La_keep 19 = .ok (.ireturn, 1) := by decide +kernel
theorem d_La_number_0 : decode b_La_number 0 = .ok (.aload_n 2, 1) := by decide +kernel
theorem d_La_number_1 : decode b_La_number 1 = .ok (.iconst 0, 1) := by decide +kernel
theorem d_La_number_2 : decode b_La_number 2 = .ok (.aload_n 0, 1) := by decide +kernel
theorem d_La_number_3 : decode b_La_number 3 = .ok (.iload_n 1, 1) := by decide +kernel
theorem d_La_number_4 : decode b_La_number 4 = .ok (.invokevirtual 59, 3) := by decide +kernel
theorem d_La_number_7 : decode b_La_number 7 = .ok (.i2l, 1) := by decide +kernel
theorem d_La_number_8 : decode b_La_number 8 = .ok (.lastore, 1) := by decide +kernel
theorem d_La_number_9 : decode b_La_number 9 = .ok (.goto 9, 3) := by decide +kernel
theorem d_La_number_12 : decode b_La_number 12 = .ok (.astore_n 3, 1) := by decide +kernel
theorem d_La_number_13 : decode b_La_number 13 = .ok (.iconst 1, 1) := by decide +kernel
theorem d_La_number_14 : decode b_La_number 14 = .ok (.ireturn, 1) := by decide +kernel
theorem d_La_number_15 : decode b_La_number 15 = .ok (.astore_n 3, 1) := by decide +kernel
theorem d_La_number_16 : decode b_La_number 16 = .ok (.iconst 2, 1) := by decide +kernel
theorem d_La_number_17 : decode b_La_number 17 = .ok (.ireturn, 1) := by decide +kernel
theorem d_La_number_18 : decode b_La_number 18 = .ok (.iconst 0, 1) := by decide +kernel
theorem d_La_number_19 : decode b_La_number 19 = .ok (.ireturn, 1) := by decide +kernel
theorem d_La_size_0 : decode b_La_size 0 = .ok (.aload_n 2, 1) := by decide +kernel
theorem d_La_size_1 : decode b_La_size 1 = .ok (.iconst 0, 1) := by decide +kernel
theorem d_La_size_2 : decode b_La_size 2 = .ok (.aload_n 0, 1) := by decide +kernel
theorem d_La_size_3 : decode b_La_size 3 = .ok (.iload_n 1, 1) := by decide +kernel
theorem d_La_size_4 : decode b_La_size 4 = .ok (.invokevirtual 62, 3) := by decide +kernel
theorem d_La_size_7 : decode b_La_size 7 = .ok (.i2l, 1) := by decide +kernel
theorem d_La_size_8 : decode b_La_size 8 = .ok (.lastore, 1) := by decide +kernel
theorem d_La_size_9 : decode b_La_size 9 = .ok (.goto 9, 3) := by decide +kernel
theorem d_La_size_12 : decode b_La_size 12 = .ok (.astore_n 3, 1) := by decide +kernel
theorem d_La_size_13 : decode b_La_size 13 = .ok (.iconst 1, 1) := by decide +kernel
theorem d_La_size_14 : decode b_La_size 14 = .ok (.ireturn, 1) := by decide +kernel
theorem d_La_size_15 : decode b_La_size 15 = .ok (.astore_n 3, 1) := by decide +kernel
theorem d_La_size_16 : decode b_La_size 16 = .ok (.iconst 2, 1) := by decide +kernel
theorem d_La_size_17 : decode b_La_size 17 = .ok (.ireturn, 1) := by decide +kernel
theorem d_La_size_18 : decode b_La_size 18 = .ok (.iconst 0, 1) := by decide +kernel
theorem d_La_size_19 : decode b_La_size 19 = .ok (.ireturn, 1) := by decide +kernel
theorem d_La_memory_0 : decode b_La_memory 0 = .ok (.aload_n 2, 1) := by decide +kernel
theorem d_La_memory_1 : decode b_La_memory 1 = .ok (.iconst 0, 1) := by decide +kernel
theorem d_La_memory_2 : decode b_La_memory 2 = .ok (.aload_n 0, 1) := by decide +kernel
theorem d_La_memory_3 : decode b_La_memory 3 = .ok (.iload_n 1, 1) := by decide +kernel
theorem d_La_memory_4 : decode b_La_memory 4 = .ok (.invokevirtual 65, 3) := by decide +kernel
theorem d_La_memory_7 : decode b_La_memory 7 = .ok (.ifCond .eq 7, 3) := by decide +kernel
theorem d_La_memory_10 : decode b_La_memory 10 = .ok (.lconst 1, 1) := by decide +kernel
theorem d_La_memory_11 : decode b_La_memory 11 = .ok (.goto 4, 3) := by decide +kernel
theorem d_La_memory_14 : decode b_La_memory 14 = .ok (.lconst 0, 1) := by decide +kernel
theorem d_La_memory_15 : decode b_La_memory 15 = .ok (.lastore, 1) := by decide +kernel
theorem d_La_memory_16 : decode b_La_memory 16 = .ok (.goto 6, 3) := by decide +kernel
theorem d_La_memory_19 : decode b_La_memory 19 = .ok (.astore_n 3, 1) := by decide +kernel
theorem d_La_memory_20 : decode b_La_memory 20 = .ok (.iconst 1, 1) := by decide +kernel
theorem d_La_memory_21 : decode b_La_memory 21 = .ok (.ireturn, 1) := by decide +kernel
theorem d_La_memory_22 : decode b_La_memory 22 = .ok (.iconst 0, 1) := by decide +kernel
theorem d_La_memory_23 : decode b_La_memory 23 = .ok (.ireturn, 1) := by decide +kernel
theorem d_La_every_0 : decode b_La_every 0 = .ok (.aload_n 0, 1) := by decide +kernel
theorem d_La_every_1 : decode b_La_every 1 = .ok (.iload_n 1, 1) := by decide +kernel
theorem d_La_every_2 : decode b_La_every 2 = .ok (.invokevirtual 68, 3) := by decide +kernel
theorem d_La_every_5 : decode b_La_every 5 = .ok (.goto 6, 3) := by decide +kernel
theorem d_La_every_8 : decode b_La_every 8 = .ok (.astore_n 2, 1) := by decide +kernel
theorem d_La_every_9 : decode b_La_every 9 = .ok (.iconst 1, 1) := by decide +kernel
theorem d_La_every_10 : decode b_La_every 10 = .ok (.ireturn, 1) := by decide +kernel
theorem d_La_every_11 : decode b_La_every 11 = .ok (.iconst 0, 1) := by decide +kernel
theorem d_La_every_12 : decode b_La_every 12 = .ok (.ireturn, 1) := by decide +kernel
end
section
/-! what lies at an address; contracts of methods that only read -/
section EEnt
abbrev e_cell (k : Int32) (nx : Option Nat) (v : Int64) (nm : Option Nat) : va_E := .inr (0, [.int k, va_rf nx, .long v, va_rf nm])
abbrev e_item (kx : Nat) (len wd : Int32) (cs : Option Nat) (tg kp : Int32) (nk : Option Nat) (sn : Int32) (np : Option Nat) : va_E := .inr (1, [.ref kx, .int len, .int wd, va_rf cs, .int tg, .int kp, va_rf nk, .int sn, va_rf np])
abbrev e_plain (w m : Int32) : va_E := .inr (2, [.int w, .int m])
abbrev e_row (el bi : Int32) : va_E := .inr (3, [.int el, .int bi])
abbrev e_desk (ka sa : Nat) (lim mad kps tgs itv : Int32) (fk : Option Nat) (us wk : Int32) (pe : Option Nat) : va_E := .inr (4, [.ref ka, .ref sa, .int lim, .int mad, .int kps, .int tgs, .int itv, va_rf fk, .int us, .int wk, va_rf pe])
abbrev e_refs (cA : ClassId) (n : Nat) (f : Nat → Option Nat) : va_E := .inl (cA, n, .inr (.inr (.inr (.inr f))))
abbrev rmZ : Room := { frames := 0, cells := 0, slots := 0, locals := 0 }
def w_Pp (D : va_G) (tys : List (ClassId × FieldType)) (av : List Value) (g : y_G) : Array Value → State → Prop := va_Pc av (fun U => y_P D vwCl g U.heap ∧ w_V D tys U)
theorem w_Pp.blind {D : va_G} {tys : List (ClassId × FieldType)} {av : List Value} {g : y_G} : FrameBlind (w_Pp D tys av g) := fun a U gj mk h => ⟨h.1, h.2.1, h.2.2.to (State.WarmedH.refl U)⟩
end EEnt
set_option maxHeartbeats 4000000 in
set_option maxRecDepth 100000 in
/-- plain: n is not looked at -/
theorem c_Pk_allows (l : Launch) (D : va_G) (tys : List (ClassId × FieldType)) (g : y_G) (x : Nat) (n : Int32) : Met l y_Pk_allows [.code y_Pk_allows b_Pk_allows 2 (some .boolean)] rmZ (w_Pp D tys [.ref x, .int n] g) (vp_Si (fun r => r = 1)) 0 0 (fun _ => False) := by
  refine Met.ofW (cc := b_Pk_allows) (maxL := 2) (ret := (some .boolean)) (by decide) rfl ?_
  intro p e s m args below meth c s₁ B hml hv
  obtain ⟨rfl, hP, hV⟩ := hv
  have hts := hV.hts ([.ref x, .int n] : List Value).toArray
  have hK := hV.2.1
  have hx := B.exec
  have hb := B.bytes
  have hr := B.returns
  have hlocks := B.notSynchronized
  have hown : s.vm.findClass R_Pk = some m.cls := findClass_of_methodNamed B.named
  have hl := lv_entry ([.ref x, .int n]) (n := 2) (Nat.le_of_ble_eq_true rfl)
  rw [lg_entry_eq]
  generalize (lg_sl ([.ref x, .int n]) ++ List.replicate (2 - (lg_sl ([.ref x, .int n])).length) Slot.unset).toArray = ls at hl ⊢
  have hl : lv_has ls 2 [(0, .ref x), (1, .int n)] := hl
  refine lv_iconst (v := 1) hx hb d_Pk_allows_0 (by decide) ?_
  exact W.zret (v := 1) hx hb hr rfl (fun t ht _ => ⟨_, rfl, rfl, ht⟩) (fun q h => nomatch h) d_Pk_allows_1
set_option maxHeartbeats 4000000 in
set_option maxRecDepth 100000 in
/-- plain: its words -/
theorem c_Pk_lengthFor (l : Launch) (D : va_G) (tys : List (ClassId × FieldType)) (g : y_G) (x : Nat) (n w mk : Int32) (hk : g x = some (e_plain w mk)) : Met l y_Pk_lengthFor [.code y_Pk_lengthFor b_Pk_lengthFor 2 (some .int)] rmZ (w_Pp D tys [.ref x, .int n] g) (vp_Si (fun r => r = w)) 0 0 (fun _ => False) := by
  refine Met.ofW (cc := b_Pk_lengthFor) (maxL := 2) (ret := (some .int)) (by decide) rfl ?_
  intro p e s m args below meth c s₁ B hml hv
  obtain ⟨rfl, hP, hV⟩ := hv
  have hts := hV.hts ([.ref x, .int n] : List Value).toArray
  have hK := hV.2.1
  have hx := B.exec
  have hb := B.bytes
  have hr := B.returns
  have hlocks := B.notSynchronized
  have hown : s.vm.findClass R_Pk = some m.cls := findClass_of_methodNamed B.named
  have hl := lv_entry ([.ref x, .int n]) (n := 2) (Nat.le_of_ble_eq_true rfl)
  rw [lg_entry_eq]
  generalize (lg_sl ([.ref x, .int n]) ++ List.replicate (2 - (lg_sl ([.ref x, .int n])).length) Slot.unset).toArray = ls at hl ⊢
  have hl : lv_has ls 2 [(0, .ref x), (1, .int n)] := hl
  refine lv_aload_n hx hb d_Pk_lengthFor_0 rfl (lv_at hl 0 rfl) ?_
  refine y_get (D := D) (ci := 2) (v := .int w) (C := R_Pk) (T := F_Pk) (N := 2) hx hb hts in_Pk hown hK hP hk rfl 0 (by decide) (hts (.fieldLink R_Pk 9 "MemoryDesk$PlainKind" "words" "I") (by decide +kernel)) (fun _ h9 => h9) rfl d_Pk_lengthFor_1 ?_
  exact W.iret (v := w) hx hb hr (fun t ht _ => ⟨_, rfl, rfl, ht⟩) (fun q h => nomatch h) d_Pk_lengthFor_4
set_option maxHeartbeats 4000000 in
set_option maxRecDepth 100000 in
/-- plain: three words and its own -/
theorem c_Pk_wordsFor (l : Launch) (D : va_G) (tys : List (ClassId × FieldType)) (g : y_G) (x : Nat) (n w mk : Int32) (hk : g x = some (e_plain w mk)) : Met l y_Pk_wordsFor [.code y_Pk_wordsFor b_Pk_wordsFor 2 (some .long)] rmZ (w_Pp D tys [.ref x, .int n] g) (vp_Sl (fun r => r = (3 + w).toInt64)) 0 0 (fun _ => False) := by
  refine Met.ofW (cc := b_Pk_wordsFor) (maxL := 2) (ret := (some .long)) (by decide) rfl ?_
  intro p e s m args below meth c s₁ B hml hv
  obtain ⟨rfl, hP, hV⟩ := hv
  have hts := hV.hts ([.ref x, .int n] : List Value).toArray
  have hK := hV.2.1
  have hx := B.exec
  have hb := B.bytes
  have hr := B.returns
  have hlocks := B.notSynchronized
  have hown : s.vm.findClass R_Pk = some m.cls := findClass_of_methodNamed B.named
  have hl := lv_entry ([.ref x, .int n]) (n := 2) (Nat.le_of_ble_eq_true rfl)
  rw [lg_entry_eq]
  generalize (lg_sl ([.ref x, .int n]) ++ List.replicate (2 - (lg_sl ([.ref x, .int n])).length) Slot.unset).toArray = ls at hl ⊢
  have hl : lv_has ls 2 [(0, .ref x), (1, .int n)] := hl
  refine lv_iconst (v := 3) hx hb d_Pk_wordsFor_0 (by decide) ?_
  refine lv_aload_n hx hb d_Pk_wordsFor_1 rfl (lv_at hl 0 rfl) ?_
  refine y_get (D := D) (ci := 2) (v := .int w) (C := R_Pk) (T := F_Pk) (N := 2) hx hb hts in_Pk hown hK hP hk rfl 0 (by decide) (hts (.fieldLink R_Pk 9 "MemoryDesk$PlainKind" "words" "I") (by decide +kernel)) (fun _ h9 => h9) rfl d_Pk_wordsFor_2 ?_
  refine lv_iadd hx hb d_Pk_wordsFor_5 ?_
  refine lv_i2l hx hb d_Pk_wordsFor_6 rfl ?_
  exact W.lret (v := (3 + w).toInt64) hx hb hr (fun t ht _ => ⟨_, rfl, rfl, ht⟩) (fun q h => nomatch h) d_Pk_wordsFor_7
set_option maxHeartbeats 4000000 in
set_option maxRecDepth 100000 in
/-- plain: the mask's bit -/
theorem c_Pk_isReference (l : Launch) (D : va_G) (tys : List (ClassId × FieldType)) (g : y_G) (x : Nat) (k w mk : Int32) (hk : g x = some (e_plain w mk)) : Met l y_Pk_isReference [.code y_Pk_isReference b_Pk_isReference 2 (some .boolean)] rmZ (w_Pp D tys [.ref x, .int k] g) (vp_Si (fun r => (r = 1 ∧ ¬ ((mk.toUInt32 >>> (k.toUInt32 &&& Int32.toUInt32 31)).toInt32 &&& 1) = 0) ∨ (r = 0 ∧ ((mk.toUInt32 >>> (k.toUInt32 &&& Int32.toUInt32 31)).toInt32 &&& 1) = 0))) 0 0 (fun _ => False) := by
  refine Met.ofW (cc := b_Pk_isReference) (maxL := 2) (ret := (some .boolean)) (by decide) rfl ?_
  intro p e s m args below meth c s₁ B hml hv
  obtain ⟨rfl, hP, hV⟩ := hv
  have hts := hV.hts ([.ref x, .int k] : List Value).toArray
  have hK := hV.2.1
  have hx := B.exec
  have hb := B.bytes
  have hr := B.returns
  have hlocks := B.notSynchronized
  have hown : s.vm.findClass R_Pk = some m.cls := findClass_of_methodNamed B.named
  have hl := lv_entry ([.ref x, .int k]) (n := 2) (Nat.le_of_ble_eq_true rfl)
  rw [lg_entry_eq]
  generalize (lg_sl ([.ref x, .int k]) ++ List.replicate (2 - (lg_sl ([.ref x, .int k])).length) Slot.unset).toArray = ls at hl ⊢
  have hl : lv_has ls 2 [(0, .ref x), (1, .int k)] := hl
  refine lv_aload_n hx hb d_Pk_isReference_0 rfl (lv_at hl 0 rfl) ?_
  refine y_get (D := D) (ci := 2) (v := .int mk) (C := R_Pk) (T := F_Pk) (N := 2) hx hb hts in_Pk hown hK hP hk rfl 1 (by decide) (hts (.fieldLink R_Pk 15 "MemoryDesk$PlainKind" "mask" "I") (by decide +kernel)) (fun _ h9 => h9) rfl d_Pk_isReference_1 ?_
  refine lv_iload_n hx hb d_Pk_isReference_4 rfl (lv_at hl 1 rfl) ?_
  refine lv_iushr hx hb d_Pk_isReference_5 rfl ?_
  refine lv_iconst (v := 1) hx hb d_Pk_isReference_6 (by decide) ?_
  refine lv_iand hx hb d_Pk_isReference_7 ?_
  refine lv_if_eq hx hb d_Pk_isReference_8 rfl (fun h1 => ?_) (fun h1 => ?_)
  · -- ifeq at 8: to 15
    refine lv_iconst (v := 0) hx hb d_Pk_isReference_15 (by decide) ?_
    exact W.zret (v := 0) hx hb hr rfl (fun t ht _ => ⟨_, rfl, Or.inr ⟨rfl, h1⟩, ht⟩) (fun q h => nomatch h) d_Pk_isReference_16
  · -- ifeq at 8: to 11
    refine lv_iconst (v := 1) hx hb d_Pk_isReference_11 (by decide) ?_
    refine lv_goto hx hb d_Pk_isReference_12 rfl ?_
    exact W.zret (v := 1) hx hb hr rfl (fun t ht _ => ⟨_, rfl, Or.inl ⟨rfl, h1⟩, ht⟩) (fun q h => nomatch h) d_Pk_isReference_16
set_option maxHeartbeats 4000000 in
set_option maxRecDepth 100000 in
/-- plain: 32 bits with sign -/
theorem c_Pk_cut (l : Launch) (D : va_G) (tys : List (ClassId × FieldType)) (g : y_G) (x : Nat) (v : Int64) : Met l y_Pk_cut [.code y_Pk_cut b_Pk_cut 3 (some .long)] rmZ (w_Pp D tys [.ref x, .long v] g) (vp_Sl (fun r => r = v.toInt32.toInt64)) 0 0 (fun _ => False) := by
  refine Met.ofW (cc := b_Pk_cut) (maxL := 3) (ret := (some .long)) (by decide) rfl ?_
  intro p e s m args below meth c s₁ B hml hv
  obtain ⟨rfl, hP, hV⟩ := hv
  have hts := hV.hts ([.ref x, .long v] : List Value).toArray
  have hK := hV.2.1
  have hx := B.exec
  have hb := B.bytes
  have hr := B.returns
  have hlocks := B.notSynchronized
  have hown : s.vm.findClass R_Pk = some m.cls := findClass_of_methodNamed B.named
  have hl := lv_entry ([.ref x, .long v]) (n := 3) (Nat.le_of_ble_eq_true rfl)
  rw [lg_entry_eq]
  generalize (lg_sl ([.ref x, .long v]) ++ List.replicate (3 - (lg_sl ([.ref x, .long v])).length) Slot.unset).toArray = ls at hl ⊢
  have hl : lv_has ls 3 [(0, .ref x), (1, .long v)] := hl
  refine lv_lload_n hx hb d_Pk_cut_0 rfl (lv_at hl 1 rfl) ?_
  refine lv_l2i hx hb d_Pk_cut_1 rfl ?_
  refine lv_i2l hx hb d_Pk_cut_2 rfl ?_
  exact W.lret (v := v.toInt32.toInt64) hx hb hr (fun t ht _ => ⟨_, rfl, rfl, ht⟩) (fun q h => nomatch h) d_Pk_cut_3
set_option maxHeartbeats 4000000 in
set_option maxRecDepth 100000 in
/-- a row: n is not below 0 -/
theorem c_Rk_allows (l : Launch) (D : va_G) (tys : List (ClassId × FieldType)) (g : y_G) (x : Nat) (n : Int32) : Met l y_Rk_allows [.code y_Rk_allows b_Rk_allows 2 (some .boolean)] rmZ (w_Pp D tys [.ref x, .int n] g) (vp_Si (fun r => (r = 1 ∧ ¬ n < 0) ∨ (r = 0 ∧ n < 0))) 0 0 (fun _ => False) := by
  refine Met.ofW (cc := b_Rk_allows) (maxL := 2) (ret := (some .boolean)) (by decide) rfl ?_
  intro p e s m args below meth c s₁ B hml hv
  obtain ⟨rfl, hP, hV⟩ := hv
  have hts := hV.hts ([.ref x, .int n] : List Value).toArray
  have hK := hV.2.1
  have hx := B.exec
  have hb := B.bytes
  have hr := B.returns
  have hlocks := B.notSynchronized
  have hown : s.vm.findClass R_Rk = some m.cls := findClass_of_methodNamed B.named
  have hl := lv_entry ([.ref x, .int n]) (n := 2) (Nat.le_of_ble_eq_true rfl)
  rw [lg_entry_eq]
  generalize (lg_sl ([.ref x, .int n]) ++ List.replicate (2 - (lg_sl ([.ref x, .int n])).length) Slot.unset).toArray = ls at hl ⊢
  have hl : lv_has ls 2 [(0, .ref x), (1, .int n)] := hl
  refine lv_iload_n hx hb d_Rk_allows_0 rfl (lv_at hl 1 rfl) ?_
  refine lv_if_lt hx hb d_Rk_allows_1 rfl (fun h1 => ?_) (fun h1 => ?_)
  · -- iflt at 1: to 8
    refine lv_iconst (v := 0) hx hb d_Rk_allows_8 (by decide) ?_
    exact W.zret (v := 0) hx hb hr rfl (fun t ht _ => ⟨_, rfl, Or.inr ⟨rfl, h1⟩, ht⟩) (fun q h => nomatch h) d_Rk_allows_9
  · -- iflt at 1: to 4
    refine lv_iconst (v := 1) hx hb d_Rk_allows_4 (by decide) ?_
    refine lv_goto hx hb d_Rk_allows_5 rfl ?_
    exact W.zret (v := 1) hx hb hr rfl (fun t ht _ => ⟨_, rfl, Or.inl ⟨rfl, h1⟩, ht⟩) (fun q h => nomatch h) d_Rk_allows_9
set_option maxHeartbeats 4000000 in
set_option maxRecDepth 100000 in
/-- a row: n -/
theorem c_Rk_lengthFor (l : Launch) (D : va_G) (tys : List (ClassId × FieldType)) (g : y_G) (x : Nat) (n : Int32) : Met l y_Rk_lengthFor [.code y_Rk_lengthFor b_Rk_lengthFor 2 (some .int)] rmZ (w_Pp D tys [.ref x, .int n] g) (vp_Si (fun r => r = n)) 0 0 (fun _ => False) := by
  refine Met.ofW (cc := b_Rk_lengthFor) (maxL := 2) (ret := (some .int)) (by decide) rfl ?_
  intro p e s m args below meth c s₁ B hml hv
  obtain ⟨rfl, hP, hV⟩ := hv
  have hts := hV.hts ([.ref x, .int n] : List Value).toArray
  have hK := hV.2.1
  have hx := B.exec
  have hb := B.bytes
  have hr := B.returns
  have hlocks := B.notSynchronized
  have hown : s.vm.findClass R_Rk = some m.cls := findClass_of_methodNamed B.named
  have hl := lv_entry ([.ref x, .int n]) (n := 2) (Nat.le_of_ble_eq_true rfl)
  rw [lg_entry_eq]
  generalize (lg_sl ([.ref x, .int n]) ++ List.replicate (2 - (lg_sl ([.ref x, .int n])).length) Slot.unset).toArray = ls at hl ⊢
  have hl : lv_has ls 2 [(0, .ref x), (1, .int n)] := hl
  refine lv_iload_n hx hb d_Rk_lengthFor_0 rfl (lv_at hl 1 rfl) ?_
  exact W.iret (v := n) hx hb hr (fun t ht _ => ⟨_, rfl, rfl, ht⟩) (fun q h => nomatch h) d_Rk_lengthFor_1
set_option maxHeartbeats 4000000 in
set_option maxRecDepth 100000 in
/-- a row: four words and its elements -/
theorem c_Rk_wordsFor (l : Launch) (D : va_G) (tys : List (ClassId × FieldType)) (g : y_G) (x : Nat) (n el bi : Int32) (hk : g x = some (e_row el bi)) : Met l y_Rk_wordsFor [.code y_Rk_wordsFor b_Rk_wordsFor 2 (some .long)] rmZ (w_Pp D tys [.ref x, .int n] g) (vp_Sl (fun r => r = 4 + (n.toInt64 * bi.toInt64 + 32 - 1) / 32)) 0 0 (fun _ => False) := by
  refine Met.ofW (cc := b_Rk_wordsFor) (maxL := 2) (ret := (some .long)) (by decide) rfl ?_
  intro p e s m args below meth c s₁ B hml hv
  obtain ⟨rfl, hP, hV⟩ := hv
  have hts := hV.hts ([.ref x, .int n] : List Value).toArray
  have hK := hV.2.1
  have hx := B.exec
  have hb := B.bytes
  have hr := B.returns
  have hlocks := B.notSynchronized
  have hown : s.vm.findClass R_Rk = some m.cls := findClass_of_methodNamed B.named
  have hl := lv_entry ([.ref x, .int n]) (n := 2) (Nat.le_of_ble_eq_true rfl)
  rw [lg_entry_eq]
  generalize (lg_sl ([.ref x, .int n]) ++ List.replicate (2 - (lg_sl ([.ref x, .int n])).length) Slot.unset).toArray = ls at hl ⊢
  have hl : lv_has ls 2 [(0, .ref x), (1, .int n)] := hl
  refine lv_ldc2 (v := 4) hx hb hown (hts (.constantLong R_Rk 18 4) (by decide +kernel)) d_Rk_wordsFor_0 ?_
  refine lv_iload_n hx hb d_Rk_wordsFor_3 rfl (lv_at hl 1 rfl) ?_
  refine lv_i2l hx hb d_Rk_wordsFor_4 rfl ?_
  refine lv_aload_n hx hb d_Rk_wordsFor_5 rfl (lv_at hl 0 rfl) ?_
  refine y_get (D := D) (ci := 3) (v := .int bi) (C := R_Rk) (T := F_Rk) (N := 2) hx hb hts in_Rk hown hK hP hk rfl 1 (by decide) (hts (.fieldLink R_Rk 15 "MemoryDesk$RowKind" "bits" "I") (by decide +kernel)) (fun _ h9 => h9) rfl d_Rk_wordsFor_6 ?_
  refine lv_i2l hx hb d_Rk_wordsFor_9 rfl ?_
  refine lv_lmul hx hb d_Rk_wordsFor_10 ?_
  refine lv_ldc2 (v := 32) hx hb hown (hts (.constantLong R_Rk 20 32) (by decide +kernel)) d_Rk_wordsFor_11 ?_
  refine lv_ladd hx hb d_Rk_wordsFor_14 ?_
  refine lv_lconst (v := 1) hx hb d_Rk_wordsFor_15 (by decide) ?_
  refine lv_lsub hx hb d_Rk_wordsFor_16 ?_
  refine lv_ldc2 (v := 32) hx hb hown (hts (.constantLong R_Rk 20 32) (by decide +kernel)) d_Rk_wordsFor_17 ?_
  refine lv_ldiv hx hb d_Rk_wordsFor_20 (by decide) ?_
  refine lv_ladd hx hb d_Rk_wordsFor_21 ?_
  exact W.lret (v := (4 + ((((n.toInt64 * bi.toInt64) + 32) - 1) / 32))) hx hb hr (fun t ht _ => ⟨_, rfl, rfl, ht⟩) (fun q h => nomatch h) d_Rk_wordsFor_22
set_option maxHeartbeats 4000000 in
set_option maxRecDepth 100000 in
/-- a row: of references -/
theorem c_Rk_isReference (l : Launch) (D : va_G) (tys : List (ClassId × FieldType)) (g : y_G) (x : Nat) (k el bi : Int32) (hk : g x = some (e_row el bi)) : Met l y_Rk_isReference [.code y_Rk_isReference b_Rk_isReference 2 (some .boolean)] rmZ (w_Pp D tys [.ref x, .int k] g) (vp_Si (fun r => (r = 1 ∧ el = 0) ∨ (r = 0 ∧ ¬ el = 0))) 0 0 (fun _ => False) := by
  refine Met.ofW (cc := b_Rk_isReference) (maxL := 2) (ret := (some .boolean)) (by decide) rfl ?_
  intro p e s m args below meth c s₁ B hml hv
  obtain ⟨rfl, hP, hV⟩ := hv
  have hts := hV.hts ([.ref x, .int k] : List Value).toArray
  have hK := hV.2.1
  have hx := B.exec
  have hb := B.bytes
  have hr := B.returns
  have hlocks := B.notSynchronized
  have hown : s.vm.findClass R_Rk = some m.cls := findClass_of_methodNamed B.named
  have hl := lv_entry ([.ref x, .int k]) (n := 2) (Nat.le_of_ble_eq_true rfl)
  rw [lg_entry_eq]
  generalize (lg_sl ([.ref x, .int k]) ++ List.replicate (2 - (lg_sl ([.ref x, .int k])).length) Slot.unset).toArray = ls at hl ⊢
  have hl : lv_has ls 2 [(0, .ref x), (1, .int k)] := hl
  refine lv_aload_n hx hb d_Rk_isReference_0 rfl (lv_at hl 0 rfl) ?_
  refine y_get (D := D) (ci := 3) (v := .int el) (C := R_Rk) (T := F_Rk) (N := 2) hx hb hts in_Rk hown hK hP hk rfl 0 (by decide) (hts (.fieldLink R_Rk 9 "MemoryDesk$RowKind" "elements" "I") (by decide +kernel)) (fun _ h9 => h9) rfl d_Rk_isReference_1 ?_
  refine lv_if_ne hx hb d_Rk_isReference_4 rfl (fun h1 => ?_) (fun h1 => ?_)
  · -- ifne at 4: to 11
    refine lv_iconst (v := 0) hx hb d_Rk_isReference_11 (by decide) ?_
    exact W.zret (v := 0) hx hb hr rfl (fun t ht _ => ⟨_, rfl, Or.inr ⟨rfl, h1⟩, ht⟩) (fun q h => nomatch h) d_Rk_isReference_12
  · -- ifne at 4: to 7
    refine lv_iconst (v := 1) hx hb d_Rk_isReference_7 (by decide) ?_
    refine lv_goto hx hb d_Rk_isReference_8 rfl ?_
    exact W.zret (v := 1) hx hb hr rfl (fun t ht _ => ⟨_, rfl, Or.inl ⟨rfl, h1⟩, ht⟩) (fun q h => nomatch h) d_Rk_isReference_12
set_option maxHeartbeats 4000000 in
set_option maxRecDepth 100000 in
/-- a row: as many bits as an element has -/
theorem c_Rk_cut (l : Launch) (D : va_G) (tys : List (ClassId × FieldType)) (g : y_G) (x : Nat) (v : Int64) (el bi : Int32) (hk : g x = some (e_row el bi)) : Met l y_Rk_cut [.code y_Rk_cut b_Rk_cut 4 (some .long)] rmZ (w_Pp D tys [.ref x, .long v] g) (vp_Sl (fun r => (r = ((v <<< ((64 - bi).toInt64 &&& 63)).toUInt64 >>> ((64 - bi).toInt64.toUInt64 &&& Int64.toUInt64 63)).toInt64 ∧ el = 2) ∨ (r = (v <<< ((64 - bi).toInt64 &&& 63)) >>> ((64 - bi).toInt64 &&& 63) ∧ ¬ el = 2))) 0 0 (fun _ => False) := by
  refine Met.ofW (cc := b_Rk_cut) (maxL := 4) (ret := (some .long)) (by decide) rfl ?_
  intro p e s m args below meth c s₁ B hml hv
  obtain ⟨rfl, hP, hV⟩ := hv
  have hts := hV.hts ([.ref x, .long v] : List Value).toArray
  have hK := hV.2.1
  have hx := B.exec
  have hb := B.bytes
  have hr := B.returns
  have hlocks := B.notSynchronized
  have hown : s.vm.findClass R_Rk = some m.cls := findClass_of_methodNamed B.named
  have hl := lv_entry ([.ref x, .long v]) (n := 4) (Nat.le_of_ble_eq_true rfl)
  rw [lg_entry_eq]
  generalize (lg_sl ([.ref x, .long v]) ++ List.replicate (4 - (lg_sl ([.ref x, .long v])).length) Slot.unset).toArray = ls at hl ⊢
  have hl : lv_has ls 4 [(0, .ref x), (1, .long v)] := hl
  refine lv_bipush (v := 64) hx hb d_Rk_cut_0 (by decide) ?_
  refine lv_aload_n hx hb d_Rk_cut_2 rfl (lv_at hl 0 rfl) ?_
  refine y_get (D := D) (ci := 3) (v := .int bi) (C := R_Rk) (T := F_Rk) (N := 2) hx hb hts in_Rk hown hK hP hk rfl 1 (by decide) (hts (.fieldLink R_Rk 15 "MemoryDesk$RowKind" "bits" "I") (by decide +kernel)) (fun _ h9 => h9) rfl d_Rk_cut_3 ?_
  refine lv_isub hx hb d_Rk_cut_6 ?_
  refine lv_istore_n hx hb d_Rk_cut_7 rfl hl (by decide) rfl (fun ls hl => ?_)
  have hl : lv_has ls 4 [(3, .int (64 - bi)), (0, .ref x), (1, .long v)] := hl
  refine lv_aload_n hx hb d_Rk_cut_8 rfl (lv_at hl 1 rfl) ?_
  refine y_get (D := D) (ci := 3) (v := .int el) (C := R_Rk) (T := F_Rk) (N := 2) hx hb hts in_Rk hown hK hP hk rfl 0 (by decide) (hts (.fieldLink R_Rk 9 "MemoryDesk$RowKind" "elements" "I") (by decide +kernel)) (fun _ h9 => h9) rfl d_Rk_cut_9 ?_
  refine lv_iconst (v := 2) hx hb d_Rk_cut_12 (by decide) ?_
  refine lv_icmp_ne hx hb d_Rk_cut_13 rfl (fun h1 => ?_) (fun h1 => ?_)
  · -- if_icmpne at 13: to 24
    refine lv_lload_n hx hb d_Rk_cut_24 rfl (lv_at hl 2 rfl) ?_
    refine lv_iload_n hx hb d_Rk_cut_25 rfl (lv_at hl 0 rfl) ?_
    refine lv_lshl hx hb d_Rk_cut_26 rfl ?_
    refine lv_iload_n hx hb d_Rk_cut_27 rfl (lv_at hl 0 rfl) ?_
    refine lv_lshr hx hb d_Rk_cut_28 rfl ?_
    exact W.lret (v := ((v <<< ((64 - bi).toInt64 &&& 63)) >>> ((64 - bi).toInt64 &&& 63))) hx hb hr (fun t ht _ => ⟨_, rfl, Or.inr ⟨rfl, h1⟩, ht⟩) (fun q h => nomatch h) d_Rk_cut_29
  · -- if_icmpne at 13: to 16
    refine lv_lload_n hx hb d_Rk_cut_16 rfl (lv_at hl 2 rfl) ?_
    refine lv_iload_n hx hb d_Rk_cut_17 rfl (lv_at hl 0 rfl) ?_
    refine lv_lshl hx hb d_Rk_cut_18 rfl ?_
    refine lv_iload_n hx hb d_Rk_cut_19 rfl (lv_at hl 0 rfl) ?_
    refine lv_lushr hx hb d_Rk_cut_20 rfl ?_
    refine lv_goto hx hb d_Rk_cut_21 rfl ?_
    exact W.lret (v := ((v <<< ((64 - bi).toInt64 &&& 63)).toUInt64 >>> ((64 - bi).toInt64.toUInt64 &&& Int64.toUInt64 63)).toInt64) hx hb hr (fun t ht _ => ⟨_, rfl, Or.inl ⟨rfl, h1⟩, ht⟩) (fun q h => nomatch h) d_Rk_cut_29
end
section
/-! the checks: methods that throw -/
section WChk
abbrev xIAE : String := "java/lang/IllegalArgumentException"
abbrev xISE : String := "java/lang/IllegalStateException"
abbrev xIOO : String := "java/lang/IndexOutOfBoundsException"
abbrev xUOE : String := "java/lang/UnsupportedOperationException"
theorem x_gi {ws : List Cond} (h : ∀ w ∈ ws, w ∈ x_tbl) : GoodIn x_tbl ws := fun w hw => ⟨h w hw, tbl_good w (h w hw)⟩
theorem w_V.at {D : va_G} {tys : List (ClassId × FieldType)} {U : State} (h : w_V D tys U) (args : Array Value) {w : Cond} (ho : w.onTables = true) (hw : w ∈ x_tbl ∨ w ∈ x_spc) : w.before args U = true :=
  hw.elim (h.hts args w) (fun z => va_Nw.use ho (h.2.2.1 w z))
set_option maxRecDepth 100000 in
theorem at_IAE : ∀ w ∈ Bundle.ownAtoms R_De 34 "java/lang/IllegalArgumentException" ["java/lang/RuntimeException", "java/lang/Exception"], w.onTables = true → w ∈ x_tbl ∨ w ∈ x_spc := by decide +kernel
set_option maxRecDepth 100000 in
theorem nt_IAE : ∀ w ∈ Bundle.ownAtoms R_De 34 "java/lang/IllegalArgumentException" ["java/lang/RuntimeException", "java/lang/Exception"], w.onTables = true ∨ w = .isRef (.static Bundle.tN "UNASSIGNED_STACK" Bundle.steD) ∨ w = .isRef (.static Bundle.tN "SUPPRESSED_SENTINEL" Bundle.listD) ∨ w = .laysStatic Bundle.tN "UNASSIGNED_STACK" Bundle.steD ∨ w = .laysStatic Bundle.tN "SUPPRESSED_SENTINEL" Bundle.listD := by decide +kernel
set_option maxRecDepth 100000 in
theorem at_ISE : ∀ w ∈ Bundle.ownAtoms R_De 69 "java/lang/IllegalStateException" ["java/lang/RuntimeException", "java/lang/Exception"], w.onTables = true → w ∈ x_tbl ∨ w ∈ x_spc := by decide +kernel
set_option maxRecDepth 100000 in
theorem nt_ISE : ∀ w ∈ Bundle.ownAtoms R_De 69 "java/lang/IllegalStateException" ["java/lang/RuntimeException", "java/lang/Exception"], w.onTables = true ∨ w = .isRef (.static Bundle.tN "UNASSIGNED_STACK" Bundle.steD) ∨ w = .isRef (.static Bundle.tN "SUPPRESSED_SENTINEL" Bundle.listD) ∨ w = .laysStatic Bundle.tN "UNASSIGNED_STACK" Bundle.steD ∨ w = .laysStatic Bundle.tN "SUPPRESSED_SENTINEL" Bundle.listD := by decide +kernel
set_option maxRecDepth 100000 in
theorem at_IOO : ∀ w ∈ Bundle.ownAtoms R_De 166 "java/lang/IndexOutOfBoundsException" ["java/lang/RuntimeException", "java/lang/Exception"], w.onTables = true → w ∈ x_tbl ∨ w ∈ x_spc := by decide +kernel
set_option maxRecDepth 100000 in
theorem nt_IOO : ∀ w ∈ Bundle.ownAtoms R_De 166 "java/lang/IndexOutOfBoundsException" ["java/lang/RuntimeException", "java/lang/Exception"], w.onTables = true ∨ w = .isRef (.static Bundle.tN "UNASSIGNED_STACK" Bundle.steD) ∨ w = .isRef (.static Bundle.tN "SUPPRESSED_SENTINEL" Bundle.listD) ∨ w = .laysStatic Bundle.tN "UNASSIGNED_STACK" Bundle.steD ∨ w = .laysStatic Bundle.tN "SUPPRESSED_SENTINEL" Bundle.listD := by decide +kernel
set_option maxRecDepth 100000 in
theorem at_UOE : ∀ w ∈ Bundle.ownAtoms R_De 174 "java/lang/UnsupportedOperationException" ["java/lang/RuntimeException", "java/lang/Exception"], w.onTables = true → w ∈ x_tbl ∨ w ∈ x_spc := by decide +kernel
set_option maxRecDepth 100000 in
theorem nt_UOE : ∀ w ∈ Bundle.ownAtoms R_De 174 "java/lang/UnsupportedOperationException" ["java/lang/RuntimeException", "java/lang/Exception"], w.onTables = true ∨ w = .isRef (.static Bundle.tN "UNASSIGNED_STACK" Bundle.steD) ∨ w = .isRef (.static Bundle.tN "SUPPRESSED_SENTINEL" Bundle.listD) ∨ w = .laysStatic Bundle.tN "UNASSIGNED_STACK" Bundle.steD ∨ w = .laysStatic Bundle.tN "SUPPRESSED_SENTINEL" Bundle.listD := by decide +kernel
variable {s : State} {args : Array Value} {H : Heap} {locs : List Loc} {D : va_G} {post : Option Value ⊕ String → y_G → Prop}
/-- the end by a throw, of what was just made -/
theorem w_thr {A : Nat → Prop} {E : String} {g g' : y_G} {sz : Nat} (hsz : sz = s.heap.size) (hAe : y_A g sz = A) (hpost : post (.inr E) g') (hP : y_P D vwCl g' H) (hA : ∀ q e, g' q = some e → A q) (hS : va_S A s.heap H locs) :
    ∀ (t : State) (q : Addr) (ce : Cell), s.WarmedH t.vm → H.size ≤ t.heap.size → (∀ a : Nat, a < H.size → t.heap[a]? = H[a]?) → t.heap[q]? = some ce → ce.vm = .none → s.vm.findClass E = some ce.cls → w_Qc D g sz post args s (.threw q) t := by
  intro t q ce h1 h2 h3 h4 h5 h6
  subst hAe
  exact ⟨⟨.inr E, g', ⟨q, ce, rfl, h4, h5, by rw [h1.alike.findClass]; exact h6⟩, hpost, hP.kept (fun a e he => h3 a (y_lt hP he)), hA⟩,
    Nat.le_trans hS.1 h2, fun a ha hn => (h3 a (Nat.lt_of_lt_of_le ha hS.1)).trans (hS.2.1 a ha hn)⟩
/-- .. of what a callee threw -/
theorem w_lea {A : Nat → Prop} {E : String} {g g' : y_G} {sz : Nat} {q : Addr} {ce : Cell} (hsz : sz = s.heap.size) (hAe : y_A g sz = A) (hpost : post (.inr E) g') (hP : y_P D vwCl g' H) (hA : ∀ q e, g' q = some e → A q) (hS : va_S A s.heap H locs) (h4 : H[q]? = some ce) (h5 : ce.vm = .none) (h6 : s.vm.findClass E = some ce.cls) :
    ∀ t : State, t.heap = H → s.WarmedH t.vm → w_Qc D g sz post args s (.threw q) t := by
  intro t ht h1
  subst hAe
  exact ⟨⟨.inr E, g', ⟨q, ce, rfl, by rw [ht]; exact h4, h5, by rw [h1.alike.findClass]; exact h6⟩, hpost, by rw [ht]; exact hP, hA⟩, hS.F ht⟩
abbrev rmT : Room := { frames := 6, cells := 1, slots := 6, locals := 100 }
/-- 0..n-1 -/
def b_in (x : Int32) (n : Int32) : Prop := ¬ x < 0 ∧ x < n
end WChk
set_option maxHeartbeats 4000000 in
set_option maxRecDepth 100000 in
/-- a slot is 0..31 -/
theorem c_De_checkSlot (l : Launch) (hst : l.stackTraces = false) (D : va_G) (tys : List (ClassId × FieldType)) (g : y_G) (sz : Nat) (sv : Int32) : x_M l y_De_checkSlot [.code y_De_checkSlot b_De_checkSlot 1 none] rmT (w_Pc D tys [.int sv] g sz) (w_Qc D g sz (fun r g9 => g9 = g ∧ ((r = .inl none ∧ b_in sv 32) ∨ (r = .inr xIAE ∧ ¬ b_in sv 32)))) 1 6 (y_A g sz) := by
  refine x_ofW (cc := b_De_checkSlot) (maxL := 1) (ret := none) (by decide) rfl ?_
  intro p e s m args below meth c s₁ B hml hno hv
  obtain ⟨rfl, hsz, hP, hE⟩ := hv
  subst hsz
  have hts := hE.hts ([.int sv] : List Value).toArray
  have hK := hE.1.2.1
  have hA0 : ∀ q, s.heap.size ≤ q → y_A g s.heap.size q := fun q h => Or.inr h
  have hA : ∀ q e, g q = some e → y_A g s.heap.size q := fun q e h => Or.inl (by rw [h]; exact fun z => nomatch z)
  have hS : va_S (y_A g s.heap.size) s.heap s.heap [] := va_S.rf
  generalize hAe : y_A g s.heap.size = A at hE hA0 hA hS ⊢
  have hx := B.exec
  have hb := B.bytes
  have hr := B.returns
  have hlocks := B.notSynchronized
  have hown : s.vm.findClass R_De = some m.cls := findClass_of_methodNamed B.named
  have hl := lv_entry ([.int sv]) (n := 1) (Nat.le_of_ble_eq_true rfl)
  rw [lg_entry_eq]
  generalize (lg_sl ([.int sv]) ++ List.replicate (1 - (lg_sl ([.int sv])).length) Slot.unset).toArray = ls at hl ⊢
  have hl : lv_has ls 1 [(0, .int sv)] := hl
  refine lv_iload_n hx hb d_De_checkSlot_0 rfl (lv_at hl 0 rfl) ?_
  refine lv_if_lt hx hb d_De_checkSlot_1 rfl (fun h1 => ?_) (fun h1 => ?_)
  · -- iflt at 1: to 10
    obtain ⟨sa, hstr⟩ := hE.1.2.2.2.1 (154, "the slot is not 0..31") (by decide)
    refine W.widen (k := 1 - 1) (n := 6 - 6) (by first | decide | omega) (by first | decide | omega) ?_
    exact x_throw (A := A) (cls := "java/lang/IllegalArgumentException") (names := ["java/lang/RuntimeException", "java/lang/Exception"]) hx hb hst hown (by decide) (by decide) (hts (.classLink R_De 30 "java/lang/IllegalArgumentException") (by decide +kernel)) (hts (.initialized "java/lang/IllegalArgumentException") (by decide +kernel)) hstr (fun w hw ho => hE.1.at _ ho (at_IAE w hw ho)) nt_IAE hE.2.1 hE.2.2.1 hS (hl.1.trans hml.symm) d_De_checkSlot_10 d_De_checkSlot_13 d_De_checkSlot_14 d_De_checkSlot_16 d_De_checkSlot_19 (hno 19) (by decide) (by decide) (by decide) (by decide) hlocks (w_thr rfl hAe ⟨rfl, Or.inr ⟨rfl, fun z => z.1 h1⟩⟩ hP hA hS) hS.2.2
  · -- iflt at 1: to 4
    refine lv_iload_n hx hb d_De_checkSlot_4 rfl (lv_at hl 0 rfl) ?_
    refine lv_bipush (v := 32) hx hb d_De_checkSlot_5 (by decide) ?_
    refine lv_icmp_lt hx hb d_De_checkSlot_7 rfl (fun h2 => ?_) (fun h2 => ?_)
    · -- if_icmplt at 7: to 20
      refine W.widen (k := 1) (n := 6) (by first | decide | omega) (by first | decide | omega) ?_
      exact x_ret (W.vret hx hb hr (w_fin rfl hAe ⟨rfl, Or.inl ⟨rfl, h1, h2⟩⟩ hP hA hS) hS.2.2 d_De_checkSlot_20)
    · -- if_icmplt at 7: to 10
      obtain ⟨sa, hstr⟩ := hE.1.2.2.2.1 (154, "the slot is not 0..31") (by decide)
      refine W.widen (k := 1 - 1) (n := 6 - 6) (by first | decide | omega) (by first | decide | omega) ?_
      exact x_throw (A := A) (cls := "java/lang/IllegalArgumentException") (names := ["java/lang/RuntimeException", "java/lang/Exception"]) hx hb hst hown (by decide) (by decide) (hts (.classLink R_De 30 "java/lang/IllegalArgumentException") (by decide +kernel)) (hts (.initialized "java/lang/IllegalArgumentException") (by decide +kernel)) hstr (fun w hw ho => hE.1.at _ ho (at_IAE w hw ho)) nt_IAE hE.2.1 hE.2.2.1 hS (hl.1.trans hml.symm) d_De_checkSlot_10 d_De_checkSlot_13 d_De_checkSlot_14 d_De_checkSlot_16 d_De_checkSlot_19 (hno 19) (by decide) (by decide) (by decide) (by decide) hlocks (w_thr rfl hAe ⟨rfl, Or.inr ⟨rfl, fun z => h2 z.2⟩⟩ hP hA hS) hS.2.2
set_option maxHeartbeats 4000000 in
set_option maxRecDepth 100000 in
/-- a kind is 0..15 -/
theorem c_De_checkKind (l : Launch) (hst : l.stackTraces = false) (D : va_G) (tys : List (ClassId × FieldType)) (g : y_G) (sz : Nat) (sv : Int32) : x_M l y_De_checkKind [.code y_De_checkKind b_De_checkKind 1 none] rmT (w_Pc D tys [.int sv] g sz) (w_Qc D g sz (fun r g9 => g9 = g ∧ ((r = .inl none ∧ b_in sv 16) ∨ (r = .inr xIAE ∧ ¬ b_in sv 16)))) 1 6 (y_A g sz) := by
  refine x_ofW (cc := b_De_checkKind) (maxL := 1) (ret := none) (by decide) rfl ?_
  intro p e s m args below meth c s₁ B hml hno hv
  obtain ⟨rfl, hsz, hP, hE⟩ := hv
  subst hsz
  have hts := hE.hts ([.int sv] : List Value).toArray
  have hK := hE.1.2.1
  have hA0 : ∀ q, s.heap.size ≤ q → y_A g s.heap.size q := fun q h => Or.inr h
  have hA : ∀ q e, g q = some e → y_A g s.heap.size q := fun q e h => Or.inl (by rw [h]; exact fun z => nomatch z)
  have hS : va_S (y_A g s.heap.size) s.heap s.heap [] := va_S.rf
  generalize hAe : y_A g s.heap.size = A at hE hA0 hA hS ⊢
  have hx := B.exec
  have hb := B.bytes
  have hr := B.returns
  have hlocks := B.notSynchronized
  have hown : s.vm.findClass R_De = some m.cls := findClass_of_methodNamed B.named
  have hl := lv_entry ([.int sv]) (n := 1) (Nat.le_of_ble_eq_true rfl)
  rw [lg_entry_eq]
  generalize (lg_sl ([.int sv]) ++ List.replicate (1 - (lg_sl ([.int sv])).length) Slot.unset).toArray = ls at hl ⊢
  have hl : lv_has ls 1 [(0, .int sv)] := hl
  refine lv_iload_n hx hb d_De_checkKind_0 rfl (lv_at hl 0 rfl) ?_
  refine lv_if_lt hx hb d_De_checkKind_1 rfl (fun h1 => ?_) (fun h1 => ?_)
  · -- iflt at 1: to 10
    obtain ⟨sa, hstr⟩ := hE.1.2.2.2.1 (156, "the kind is not 0..15") (by decide)
    refine W.widen (k := 1 - 1) (n := 6 - 6) (by first | decide | omega) (by first | decide | omega) ?_
    exact x_throw (A := A) (cls := "java/lang/IllegalArgumentException") (names := ["java/lang/RuntimeException", "java/lang/Exception"]) hx hb hst hown (by decide) (by decide) (hts (.classLink R_De 30 "java/lang/IllegalArgumentException") (by decide +kernel)) (hts (.initialized "java/lang/IllegalArgumentException") (by decide +kernel)) hstr (fun w hw ho => hE.1.at _ ho (at_IAE w hw ho)) nt_IAE hE.2.1 hE.2.2.1 hS (hl.1.trans hml.symm) d_De_checkKind_10 d_De_checkKind_13 d_De_checkKind_14 d_De_checkKind_16 d_De_checkKind_19 (hno 19) (by decide) (by decide) (by decide) (by decide) hlocks (w_thr rfl hAe ⟨rfl, Or.inr ⟨rfl, fun z => z.1 h1⟩⟩ hP hA hS) hS.2.2
  · -- iflt at 1: to 4
    refine lv_iload_n hx hb d_De_checkKind_4 rfl (lv_at hl 0 rfl) ?_
    refine lv_bipush (v := 16) hx hb d_De_checkKind_5 (by decide) ?_
    refine lv_icmp_lt hx hb d_De_checkKind_7 rfl (fun h2 => ?_) (fun h2 => ?_)
    · -- if_icmplt at 7: to 20
      refine W.widen (k := 1) (n := 6) (by first | decide | omega) (by first | decide | omega) ?_
      exact x_ret (W.vret hx hb hr (w_fin rfl hAe ⟨rfl, Or.inl ⟨rfl, h1, h2⟩⟩ hP hA hS) hS.2.2 d_De_checkKind_20)
    · -- if_icmplt at 7: to 10
      obtain ⟨sa, hstr⟩ := hE.1.2.2.2.1 (156, "the kind is not 0..15") (by decide)
      refine W.widen (k := 1 - 1) (n := 6 - 6) (by first | decide | omega) (by first | decide | omega) ?_
      exact x_throw (A := A) (cls := "java/lang/IllegalArgumentException") (names := ["java/lang/RuntimeException", "java/lang/Exception"]) hx hb hst hown (by decide) (by decide) (hts (.classLink R_De 30 "java/lang/IllegalArgumentException") (by decide +kernel)) (hts (.initialized "java/lang/IllegalArgumentException") (by decide +kernel)) hstr (fun w hw ho => hE.1.at _ ho (at_IAE w hw ho)) nt_IAE hE.2.1 hE.2.2.1 hS (hl.1.trans hml.symm) d_De_checkKind_10 d_De_checkKind_13 d_De_checkKind_14 d_De_checkKind_16 d_De_checkKind_19 (hno 19) (by decide) (by decide) (by decide) (by decide) hlocks (w_thr rfl hAe ⟨rfl, Or.inr ⟨rfl, fun z => h2 z.2⟩⟩ hP hA hS) hS.2.2
end
section
/-! constructors in a map's world -/
section YCtor
variable {p : Program} {l : Launch} {e : Env} {R : Room} {s : State} {m : MethodId} {args : Array Value} {below : List Frame} {meth : Method} {c : Code} {H : Heap} {locs : List Loc} {cells slots : Nat} {Q : State → Prop} {cc : ByteArray} {pc a : Nat} {ls : Array Slot} {rest : List Value} {D : va_G} {cl : List vw_C} {tys : List (ClassId × FieldType)} {g : y_G} {A : Nat → Prop} {H0 : Heap}
theorem y_putF (hexec : p.tables.exec = Jvm.exec) (hb : c.code = cc) {own ref C : String} {T : u_T} {N ci index : Nat} {Ts : List Cond} (hts : ∀ w ∈ Ts, w.before args s = true) (hin : ∀ w ∈ u_ws C T N, w ∈ Ts) (ty0 : Nat → FieldType) (hty : ∀ k, k < N → parseFieldDescriptor (T k).2.2.1 = some (ty0 k)) (hnm : ∀ a, a < N → ∀ b, b < N → a ≠ b → (T a).2.1 ≠ (T b).2.1) (hown : s.vm.findClass own = some m.cls)
    (hK : va_K D cl tys s) (hP : y_P D cl g H) (hA : ∀ q e, g q = some e → A q) (hS : va_S A H0 H locs) {fs : List Value} (he : g a = some (.inr (ci, fs))) (hc : cl[ci]? = some (C, T, N)) (k : Nat) (hk : k < N) (hlink : (Cond.fieldLink own index ref (T k).2.1 (T k).2.2.1).before args s = true) (hsame : ∀ x, s.fieldFound? (T k).1 (T k).2.1 (T k).2.2.1 = some x → s.fieldFound? ref (T k).2.1 (T k).2.2.1 = some x)
    (hfin : (T k).2.2.2 = true) (hin2 : meth.name = "<init>") (hdecl : (T k).1 = own) {ty : FieldType} {v : Value} (hd : parseFieldDescriptor (T k).2.2.1 = some ty) (hn : narrow ty v = v) (hfit : fits ty v = true) (hl : k < fs.length) (hdg : decode cc pc = .ok (.putfield index, 3))
    (kk : ∀ (H1 : Heap) (locs1 : List Loc), y_P D cl (va_up g a (some (.inr (ci, fs.set k v)))) H1 → (∀ q e, va_up g a (some (.inr (ci, fs.set k v))) q = some e → A q) → va_S A H0 H1 locs1 → W p l e R s m args below meth c H1 locs1 cells slots Q (F0 m (pc + 3) ls rest)) : W p l e R s m args below meth c H locs cells slots Q (F0 m pc ls (v :: .ref a :: rest)) := by
  have hlt : ∀ q e, g q = some e → q < H.size := fun q e h => y_lt hP h
  obtain ⟨j, hj⟩ := y_idx (hlt a _ he) he
  refine va_putF hexec hb hts hin ty0 hty hnm hown hK (y_toL hP H.size) (y_D hA H.size) hS j hj hc k hk hlink hsame hfin hin2 hdecl hd hn hfit hl hdg (fun H1 locs1 h1 _ h3 => ?_)
  refine kk H1 locs1 (y_ofSet hlt hj h1) (fun q e h => ?_) h3
  by_cases hq : q = a
  · rw [hq]; exact hA a _ he
  · rw [va_up_ne _ _ hq] at h; exact hA q e h
end YCtor
section XCallI
variable {p : Program} {l : Launch} {e : Env} {R : Room} {s : State} {m : MethodId} {args : Array Value} {below : List Frame} {meth : Method} {c : Code} {H : Heap} {locs : List Loc} {cells slots : Nat} {Q : State → Prop}
variable {y : MethodName} {ws : List Cond} {rm : Room} {Pc : Array Value → State → Prop} {Qc : Array Value → State → Outcome → State → Prop} {mc ms maxL index n nL pc : Nat} {own : String} {free : Addr → Prop} {Ts : List Cond} {cc bytes : ByteArray} {ls : Array Slot} {As rest st0 : List Value} {A0 A1 : Nat → Prop} {H0 : Heap}
/-- invokespecial of a constructor -/
theorem x_callI {b : Addr} (S : CallFix p m c cc nL s args Ts own) (hM : x_M l y ws rm Pc Qc mc ms free) (cb : x_CB R s args own index y maxL ws rm mc ms n) (hy1 : y.name = "<init>") (hin : (Cond.instanceMethod y).before args s = true) (hcode : (Cond.code y bytes maxL none).before args s = true) (hp : PreS s H Pc (.ref b :: As))
    (hn : As.length = n) (hsize : ls.size = nL) (hstack : st0 = As.reverse ++ .ref b :: rest) (hW : 2 * (F0 m pc ls rest).monitorRoom + (rest.map fun v => v.category).sum ≤ 8) (hdg : decode cc pc = .ok (.invokespecial index, 3)) (hc : cells + mc ≤ R.cells) (hs : slots + ms ≤ R.slots)
    (hS : va_S A0 H0 H locs) (hA : ∀ q, q < H.size → A1 q → A0 q) (hf : ∀ q, free q → A0 q) (hF : ∀ st o t, Qc (Value.ref b :: As).toArray st o t → va_F A1 st t)
    (kr : ∀ (v : Option Value) (st t : State) (H1 : Heap) (locs1 : List Loc), st.heap = H → t.heap = H1 → s.vm.Alike t.vm → Qc (Value.ref b :: As).toArray st (.returned v) t → H.size ≤ H1.size → (∀ q : Nat, q < H.size → ¬ A1 q → H1[q]? = H[q]?) → va_S A0 H0 H1 locs1 →
      W p l e R s m args below meth c H1 locs1 (cells + mc) (slots + ms) Q (F0 m (pc + 3) ls (v.toList ++ rest)))
    (kt : ∀ (q : Addr) (st t : State) (H1 : Heap) (locs1 : List Loc), st.heap = H → t.heap = H1 → s.vm.Alike t.vm → Qc (Value.ref b :: As).toArray st (.threw q) t → H.size ≤ H1.size → (∀ q : Nat, q < H.size → ¬ A1 q → H1[q]? = H[q]?) → va_S A0 H0 H1 locs1 →
      x_W p l e R s m args below meth c H1 locs1 (cells + mc) (slots + ms) Q (F0 m pc ls rest) q) : W p l e R s m args below meth c H locs cells slots Q (F0 m pc ls st0) := by
  intro T hT X
  obtain ⟨hx, hb, hml, ho, -⟩ := S
  have hy := cb.2.2.2.2.2.2.2.1
  have hlen := cb.2.2.2.2.2.2.2.2.1
  have hl := cb.2.2.2.2.2.2.2.2.2
  have hpl : e.platform.magicAccessors = ({} : Platform).magicAccessors := by rw [X.admits.platform]
  obtain ⟨mk, mM, cM, kP, vm₁, n0, -, -, -, -, -, -, -, hW₁, st1⟩ := Steps.initColdArgs (e := e) X.here hx X.warmed hpl ho hy1 hy hl hin hcode (f := F0 m pc ls st0) rfl (fun sig h => hn.trans (hlen sig h)) hstack (by rw [hb]; exact hdg)
  have X₁ := X.noted hW₁
  obtain ⟨o, t, T', L, X', e1, e2, hq, hL, k1, k2⟩ := x_back hM cb X₁ n0 (g := F0 m pc ls rest) (ig := .invokespecial index) (len := 3) rfl (hsize.trans hml.symm) (by rw [hb]; exact hdg) hW hc hs (a := (Value.ref b :: As).toArray)
    (hp.1 _ _ _ _ (hp.2 (T.setVm vm₁) hT X₁.warmed))
  have hh : ((T.setVm vm₁).calling (F0 m pc ls rest) mk (Value.ref b :: As).toArray).heap = H := hT
  obtain ⟨q1, q2, q3⟩ := x_after hh e1 hS hA hf hL (hF _ _ _ hq)
  have hal : s.vm.Alike t.vm := by rw [← e2]; exact X'.warmed.alike
  cases o with
  | returned v =>
    obtain ⟨t2, a1, b1⟩ := kr v _ t T'.heap (locs ++ L) hh e1.symm hal hq q1 q2 q3 T' rfl X'
    exact ⟨t2, st1 _ fun acts => by rw [doInvoke_state]; exact (k1 v rfl).trans a1, b1⟩
  | threw q =>
    obtain ⟨t2, a1, b1⟩ := kt q _ t T'.heap (locs ++ L) hh e1.symm hal hq q1 q2 q3 T' rfl X'
    exact ⟨t2, st1 _ fun acts => by rw [doInvoke_state]; exact (k2 q rfl).trans a1, b1⟩
end XCallI
section WCallI
variable {p : Program} {l : Launch} {e : Env} {R : Room} {s : State} {m : MethodId} {args : Array Value} {below : List Frame} {meth : Method} {c : Code} {H : Heap} {locs : List Loc} {cells slots : Nat} {Q : State → Prop}
variable {y : MethodName} {ws : List Cond} {rm : Room} {mc ms maxL index n nL pc : Nat} {own : String} {cc bytes : ByteArray} {ls : Array Slot} {As rest st0 : List Value} {A : Nat → Prop} {D : va_G} {tys : List (ClassId × FieldType)} {g : y_G} {post : Option Value ⊕ String → y_G → Prop}
theorem w_callI {b : Addr} (S : CallFix p m c cc nL s args x_tbl own) (hM : x_M l y ws rm (w_Pc D tys (.ref b :: As) g H.size) (w_Qc D g H.size post) mc ms (y_A g H.size)) (cb : x_CB R s args own index y maxL ws rm mc ms n) (hy1 : y.name = "<init>") (hin : (Cond.instanceMethod y).before args s = true) (hcode : (Cond.code y bytes maxL none).before args s = true)
    (hE : w_E D tys A s s.heap) (hP : y_P D vwCl g H) (hA : ∀ q e, g q = some e → A q) (hA0 : ∀ q, s.heap.size ≤ q → A q) (hS : va_S A s.heap H locs) (hnt : ∀ E g', ¬ post (.inr E) g')
    (hn : As.length = n) (hsize : ls.size = nL) (hstack : st0 = As.reverse ++ .ref b :: rest) (hW : 2 * (F0 m pc ls rest).monitorRoom + (rest.map fun v => v.category).sum ≤ 8) (hdg : decode cc pc = .ok (.invokespecial index, 3)) (hc : cells + mc ≤ R.cells) (hs : slots + ms ≤ R.slots)
    (kr : ∀ (v : Option Value) (g' : y_G) (H1 : Heap) (locs1 : List Loc), post (.inl v) g' → y_P D vwCl g' H1 → (∀ q e, g' q = some e → A q) → va_S A s.heap H1 locs1 → W p l e R s m args below meth c H1 locs1 (cells + mc) (slots + ms) Q (F0 m (pc + 3) ls (v.toList ++ rest))) :
    W p l e R s m args below meth c H locs cells slots Q (F0 m pc ls st0) := by
  have hAA := y_AA hA hA0 hS
  refine x_callI (A1 := y_A g H.size) (b := b) S hM cb hy1 hin hcode ⟨w_blind, fun U hU hWm => ⟨rfl, by rw [hU], by rw [hU]; exact hP, by rw [hU]; exact hE.to hS hAA hWm⟩⟩ hn hsize hstack hW hdg hc hs hS (fun q _ h => hAA q h) hAA (fun _ _ _ h => h.2) ?_ ?_
  · intro v st t H1 locs1 _ ht hal hq _ _ hS1
    obtain ⟨⟨r, g', h1, h2, h3, h4⟩, -⟩ := hq
    cases r with
    | inl v' => cases h1; exact kr v g' H1 locs1 h2 (by rw [← ht]; exact h3) (fun q e h => hAA q (h4 q e h)) hS1
    | inr E => obtain ⟨q, ce, z, -⟩ := h1; cases z
  · intro q st t H1 locs1 _ ht hal hq _ _ hS1
    obtain ⟨⟨r, g', h1, h2, h3, h4⟩, -⟩ := hq
    cases r with
    | inl v' => cases h1
    | inr E => exact absurd h2 (hnt E g')
abbrev rmK : Room := { frames := 1, cells := 0, slots := 0, locals := 20 }
abbrev rmC : Room := { frames := 2, cells := 0, slots := 0, locals := 44 }
end WCallI
theorem x_obj : Cond.code objectInit ⟨#[0xb1]⟩ 1 none ∈ x_tbl := x_good (List.mem_append_right _ (List.mem_of_getElem? (i := 22) rfl)) rfl
set_option maxHeartbeats 4000000 in
set_option maxRecDepth 100000 in
/-- Kind(): nothing -/
theorem c_Ki_init (l : Launch) (D : va_G) (tys : List (ClassId × FieldType)) (g : y_G) (x : Nat) : Met l y_Ki_init [.code y_Ki_init b_Ki_init 1 none] rmK (w_Pp D tys [.ref x] g) (va_Sv (fun _ => True)) 0 0 (fun _ => False) := by
  refine Met.ofW (cc := b_Ki_init) (maxL := 1) (ret := none) (by decide) rfl ?_
  intro p e s m args below meth c s₁ B hml hv
  obtain ⟨rfl, hP, hV⟩ := hv
  have hts := hV.hts ([.ref x] : List Value).toArray
  have hx := B.exec
  have hb := B.bytes
  have hr := B.returns
  have hlocks := B.notSynchronized
  have hown : s.vm.findClass R_Ki = some m.cls := findClass_of_methodNamed B.named
  have hl := lv_entry ([.ref x]) (n := 1) (Nat.le_of_ble_eq_true rfl)
  rw [lg_entry_eq]
  generalize (lg_sl ([.ref x]) ++ List.replicate (1 - (lg_sl ([.ref x])).length) Slot.unset).toArray = ls at hl ⊢
  have hl : lv_has ls 1 [(0, .ref x)] := hl
  refine lv_aload_n hx hb d_Ki_init_0 rfl (lv_at hl 0 rfl) ?_
  refine W.objInit hx hb hown (hts (.methodLink R_Ki 1 objectInit) (by decide +kernel)) (hts (.instanceMethod objectInit) (by decide +kernel)) (hts _ x_obj) rfl (by rw [hml]; exact hl.1) rfl d_Ki_init_1 (Nat.le_of_ble_eq_true rfl) (Nat.le_of_ble_eq_true rfl) ?_
  refine W.eq (g2 := F0 m 4 ls []) rfl ?_
  exact W.vret hx hb hr (fun t ht _ => ⟨rfl, trivial, ht⟩) (fun q h => nomatch h) d_Ki_init_4
set_option maxHeartbeats 4000000 in
set_option maxRecDepth 100000 in
/-- Cell(place, null) -/
theorem c_Ce_initN (l : Launch) (D : va_G) (tys : List (ClassId × FieldType)) (g : y_G) (sz : Nat) (x : Nat) (k : Int32) (h0 : g x = some (.inr (0, [.int 0, .null, .long 0, .null]))) : x_M l y_Ce_init [.code y_Ce_init b_Ce_init 3 none] rmK (w_Pc D tys [.ref x, .int k, .null] g sz) (w_Qc D g sz (fun r g9 => r = .inl none ∧ g9 = va_up g x (some (.inr (0, [.int k, .null, .long 0, .null]))))) 0 0 (y_A g sz) := by
  refine x_ofW (cc := b_Ce_init) (maxL := 3) (ret := none) (by decide) rfl ?_
  intro p e s m args below meth c s₁ B hml hno hv
  obtain ⟨rfl, hsz, hP, hE⟩ := hv
  subst hsz
  have hts := hE.hts ([.ref x, .int k, .null] : List Value).toArray
  have hK := hE.1.2.1
  have hA0 : ∀ q, s.heap.size ≤ q → y_A g s.heap.size q := fun q h => Or.inr h
  have hA : ∀ q e, g q = some e → y_A g s.heap.size q := fun q e h => Or.inl (by rw [h]; exact fun z => nomatch z)
  have hS : va_S (y_A g s.heap.size) s.heap s.heap [] := va_S.rf
  generalize hAe : y_A g s.heap.size = A at hE hA0 hA hS ⊢
  have hx := B.exec
  have hb := B.bytes
  have hr := B.returns
  have hlocks := B.notSynchronized
  have hown : s.vm.findClass R_Ce = some m.cls := findClass_of_methodNamed B.named
  have hl := lv_entry ([.ref x, .int k, .null]) (n := 3) (Nat.le_of_ble_eq_true rfl)
  rw [lg_entry_eq]
  generalize (lg_sl ([.ref x, .int k, .null]) ++ List.replicate (3 - (lg_sl ([.ref x, .int k, .null])).length) Slot.unset).toArray = ls at hl ⊢
  have hl : lv_has ls 3 [(0, .ref x), (1, .int k), (2, .null)] := hl
  have hnm : meth.name = "<init>" := (name_of_methodNamed B.named B.method).1
  refine lv_aload_n hx hb d_Ce_init_0 rfl (lv_at hl 0 rfl) ?_
  refine W.objInit hx hb hown (hts (.methodLink R_Ce 1 objectInit) (by decide +kernel)) (hts (.instanceMethod objectInit) (by decide +kernel)) (hts _ x_obj) rfl (by rw [hml]; exact hl.1) rfl d_Ce_init_1 (Nat.le_of_ble_eq_true rfl) (Nat.le_of_ble_eq_true rfl) ?_
  refine W.eq (g2 := F0 m 4 ls []) rfl ?_
  refine lv_aload_n hx hb d_Ce_init_4 rfl (lv_at hl 0 rfl) ?_
  refine lv_iload_n hx hb d_Ce_init_5 rfl (lv_at hl 1 rfl) ?_
  refine y_putF (D := D) (ci := 0) (v := .int k) (ty := .int) (C := R_Ce) (T := F_Ce) (N := 4) hx hb hts in_Ce t_Ce t_Ce_ok n_Ce hown hK hP hA hS h0 rfl 0 (by decide) (hts (.fieldLink R_Ce 7 "MemoryDesk$Cell" "place" "I") (by decide +kernel)) (fun _ h9 => h9) rfl hnm rfl (by decide +kernel) rfl rfl (Nat.le_of_ble_eq_true rfl) d_Ce_init_6 (fun H locs hP hA hS => ?_)
  have hP : y_P D vwCl (va_up g x (some (.inr (0, [.int k, .null, .long 0, .null])))) H := hP
  have hA : ∀ q e, va_up g x (some (.inr (0, [.int k, .null, .long 0, .null]))) q = some e → A q := hA
  refine lv_aload_n hx hb d_Ce_init_9 rfl (lv_at hl 0 rfl) ?_
  refine lv_aload_nN hx hb d_Ce_init_10 rfl (lv_at hl 2 rfl) ?_
  refine y_putF (D := D) (ci := 0) (v := .null) (ty := .object "MemoryDesk$Cell") (C := R_Ce) (T := F_Ce) (N := 4) hx hb hts in_Ce t_Ce t_Ce_ok n_Ce hown hK hP hA hS (va_up_self _ _ _) rfl 1 (by decide) (hts (.fieldLink R_Ce 13 "MemoryDesk$Cell" "next" "LMemoryDesk$Cell;") (by decide +kernel)) (fun _ h9 => h9) rfl hnm rfl (by decide +kernel) rfl rfl (Nat.le_of_ble_eq_true rfl) d_Ce_init_11 (fun H locs hP hA hS => ?_)
  rw [bx_uu] at hP hA
  have hP : y_P D vwCl (va_up g x (some (.inr (0, [.int k, .null, .long 0, .null])))) H := hP
  have hA : ∀ q e, va_up g x (some (.inr (0, [.int k, .null, .long 0, .null]))) q = some e → A q := hA
  refine W.widen (k := 0) (n := 0) (by first | decide | omega) (by first | decide | omega) ?_
  exact x_ret (W.vret hx hb hr (w_fin rfl hAe ⟨rfl, rfl⟩ hP hA hS) hS.2.2 d_Ce_init_14)
set_option maxHeartbeats 4000000 in
set_option maxRecDepth 100000 in
/-- Cell(place, next) -/
theorem c_Ce_initR (l : Launch) (D : va_G) (tys : List (ClassId × FieldType)) (g : y_G) (sz : Nat) (x : Nat) (k : Int32) (nx : Nat) (h0 : g x = some (.inr (0, [.int 0, .null, .long 0, .null]))) : x_M l y_Ce_init [.code y_Ce_init b_Ce_init 3 none] rmK (w_Pc D tys [.ref x, .int k, .ref nx] g sz) (w_Qc D g sz (fun r g9 => r = .inl none ∧ g9 = va_up g x (some (.inr (0, [.int k, .ref nx, .long 0, .null]))))) 0 0 (y_A g sz) := by
  refine x_ofW (cc := b_Ce_init) (maxL := 3) (ret := none) (by decide) rfl ?_
  intro p e s m args below meth c s₁ B hml hno hv
  obtain ⟨rfl, hsz, hP, hE⟩ := hv
  subst hsz
  have hts := hE.hts ([.ref x, .int k, .ref nx] : List Value).toArray
  have hK := hE.1.2.1
  have hA0 : ∀ q, s.heap.size ≤ q → y_A g s.heap.size q := fun q h => Or.inr h
  have hA : ∀ q e, g q = some e → y_A g s.heap.size q := fun q e h => Or.inl (by rw [h]; exact fun z => nomatch z)
  have hS : va_S (y_A g s.heap.size) s.heap s.heap [] := va_S.rf
  generalize hAe : y_A g s.heap.size = A at hE hA0 hA hS ⊢
  have hx := B.exec
  have hb := B.bytes
  have hr := B.returns
  have hlocks := B.notSynchronized
  have hown : s.vm.findClass R_Ce = some m.cls := findClass_of_methodNamed B.named
  have hl := lv_entry ([.ref x, .int k, .ref nx]) (n := 3) (Nat.le_of_ble_eq_true rfl)
  rw [lg_entry_eq]
  generalize (lg_sl ([.ref x, .int k, .ref nx]) ++ List.replicate (3 - (lg_sl ([.ref x, .int k, .ref nx])).length) Slot.unset).toArray = ls at hl ⊢
  have hl : lv_has ls 3 [(0, .ref x), (1, .int k), (2, .ref nx)] := hl
  have hnm : meth.name = "<init>" := (name_of_methodNamed B.named B.method).1
  refine lv_aload_n hx hb d_Ce_init_0 rfl (lv_at hl 0 rfl) ?_
  refine W.objInit hx hb hown (hts (.methodLink R_Ce 1 objectInit) (by decide +kernel)) (hts (.instanceMethod objectInit) (by decide +kernel)) (hts _ x_obj) rfl (by rw [hml]; exact hl.1) rfl d_Ce_init_1 (Nat.le_of_ble_eq_true rfl) (Nat.le_of_ble_eq_true rfl) ?_
  refine W.eq (g2 := F0 m 4 ls []) rfl ?_
  refine lv_aload_n hx hb d_Ce_init_4 rfl (lv_at hl 0 rfl) ?_
  refine lv_iload_n hx hb d_Ce_init_5 rfl (lv_at hl 1 rfl) ?_
  refine y_putF (D := D) (ci := 0) (v := .int k) (ty := .int) (C := R_Ce) (T := F_Ce) (N := 4) hx hb hts in_Ce t_Ce t_Ce_ok n_Ce hown hK hP hA hS h0 rfl 0 (by decide) (hts (.fieldLink R_Ce 7 "MemoryDesk$Cell" "place" "I") (by decide +kernel)) (fun _ h9 => h9) rfl hnm rfl (by decide +kernel) rfl rfl (Nat.le_of_ble_eq_true rfl) d_Ce_init_6 (fun H locs hP hA hS => ?_)
  have hP : y_P D vwCl (va_up g x (some (.inr (0, [.int k, .null, .long 0, .null])))) H := hP
  have hA : ∀ q e, va_up g x (some (.inr (0, [.int k, .null, .long 0, .null]))) q = some e → A q := hA
  refine lv_aload_n hx hb d_Ce_init_9 rfl (lv_at hl 0 rfl) ?_
  refine lv_aload_n hx hb d_Ce_init_10 rfl (lv_at hl 2 rfl) ?_
  refine y_putF (D := D) (ci := 0) (v := .ref nx) (ty := .object "MemoryDesk$Cell") (C := R_Ce) (T := F_Ce) (N := 4) hx hb hts in_Ce t_Ce t_Ce_ok n_Ce hown hK hP hA hS (va_up_self _ _ _) rfl 1 (by decide) (hts (.fieldLink R_Ce 13 "MemoryDesk$Cell" "next" "LMemoryDesk$Cell;") (by decide +kernel)) (fun _ h9 => h9) rfl hnm rfl (by decide +kernel) rfl rfl (Nat.le_of_ble_eq_true rfl) d_Ce_init_11 (fun H locs hP hA hS => ?_)
  rw [bx_uu] at hP hA
  have hP : y_P D vwCl (va_up g x (some (.inr (0, [.int k, .ref nx, .long 0, .null])))) H := hP
  have hA : ∀ q e, va_up g x (some (.inr (0, [.int k, .ref nx, .long 0, .null]))) q = some e → A q := hA
  refine W.widen (k := 0) (n := 0) (by first | decide | omega) (by first | decide | omega) ?_
  exact x_ret (W.vret hx hb hr (w_fin rfl hAe ⟨rfl, rfl⟩ hP hA hS) hS.2.2 d_Ce_init_14)
set_option maxHeartbeats 4000000 in
set_option maxRecDepth 100000 in
/-- Item(kind, length, words) -/
theorem c_It_init (l : Launch) (D : va_G) (tys : List (ClassId × FieldType)) (g : y_G) (sz : Nat) (x : Nat) (kx : Nat) (len wd : Int32) (h0 : g x = some (.inr (1, [.null, .int 0, .int 0, .null, .int 0, .int 0, .null, .int 0, .null]))) : x_M l y_It_init [.code y_It_init b_It_init 4 none] rmK (w_Pc D tys [.ref x, .ref kx, .int len, .int wd] g sz) (w_Qc D g sz (fun r g9 => r = .inl none ∧ g9 = va_up g x (some (.inr (1, [.ref kx, .int len, .int wd, .null, .int 0, .int 0, .null, .int 0, .null]))))) 0 0 (y_A g sz) := by
  refine x_ofW (cc := b_It_init) (maxL := 4) (ret := none) (by decide) rfl ?_
  intro p e s m args below meth c s₁ B hml hno hv
  obtain ⟨rfl, hsz, hP, hE⟩ := hv
  subst hsz
  have hts := hE.hts ([.ref x, .ref kx, .int len, .int wd] : List Value).toArray
  have hK := hE.1.2.1
  have hA0 : ∀ q, s.heap.size ≤ q → y_A g s.heap.size q := fun q h => Or.inr h
  have hA : ∀ q e, g q = some e → y_A g s.heap.size q := fun q e h => Or.inl (by rw [h]; exact fun z => nomatch z)
  have hS : va_S (y_A g s.heap.size) s.heap s.heap [] := va_S.rf
  generalize hAe : y_A g s.heap.size = A at hE hA0 hA hS ⊢
  have hx := B.exec
  have hb := B.bytes
  have hr := B.returns
  have hlocks := B.notSynchronized
  have hown : s.vm.findClass R_It = some m.cls := findClass_of_methodNamed B.named
  have hl := lv_entry ([.ref x, .ref kx, .int len, .int wd]) (n := 4) (Nat.le_of_ble_eq_true rfl)
  rw [lg_entry_eq]
  generalize (lg_sl ([.ref x, .ref kx, .int len, .int wd]) ++ List.replicate (4 - (lg_sl ([.ref x, .ref kx, .int len, .int wd])).length) Slot.unset).toArray = ls at hl ⊢
  have hl : lv_has ls 4 [(0, .ref x), (1, .ref kx), (2, .int len), (3, .int wd)] := hl
  have hnm : meth.name = "<init>" := (name_of_methodNamed B.named B.method).1
  refine lv_aload_n hx hb d_It_init_0 rfl (lv_at hl 0 rfl) ?_
  refine W.objInit hx hb hown (hts (.methodLink R_It 1 objectInit) (by decide +kernel)) (hts (.instanceMethod objectInit) (by decide +kernel)) (hts _ x_obj) rfl (by rw [hml]; exact hl.1) rfl d_It_init_1 (Nat.le_of_ble_eq_true rfl) (Nat.le_of_ble_eq_true rfl) ?_
  refine W.eq (g2 := F0 m 4 ls []) rfl ?_
  refine lv_aload_n hx hb d_It_init_4 rfl (lv_at hl 0 rfl) ?_
  refine lv_aload_n hx hb d_It_init_5 rfl (lv_at hl 1 rfl) ?_
  refine y_putF (D := D) (ci := 1) (v := .ref kx) (ty := .object "MemoryDesk$Kind") (C := R_It) (T := F_It) (N := 9) hx hb hts in_It t_It t_It_ok n_It hown hK hP hA hS h0 rfl 0 (by decide) (hts (.fieldLink R_It 7 "MemoryDesk$Item" "kind" "LMemoryDesk$Kind;") (by decide +kernel)) (fun _ h9 => h9) rfl hnm rfl (by decide +kernel) rfl rfl (Nat.le_of_ble_eq_true rfl) d_It_init_6 (fun H locs hP hA hS => ?_)
  have hP : y_P D vwCl (va_up g x (some (.inr (1, [.ref kx, .int 0, .int 0, .null, .int 0, .int 0, .null, .int 0, .null])))) H := hP
  have hA : ∀ q e, va_up g x (some (.inr (1, [.ref kx, .int 0, .int 0, .null, .int 0, .int 0, .null, .int 0, .null]))) q = some e → A q := hA
  refine lv_aload_n hx hb d_It_init_9 rfl (lv_at hl 0 rfl) ?_
  refine lv_iload_n hx hb d_It_init_10 rfl (lv_at hl 2 rfl) ?_
  refine y_putF (D := D) (ci := 1) (v := .int len) (ty := .int) (C := R_It) (T := F_It) (N := 9) hx hb hts in_It t_It t_It_ok n_It hown hK hP hA hS (va_up_self _ _ _) rfl 1 (by decide) (hts (.fieldLink R_It 13 "MemoryDesk$Item" "length" "I") (by decide +kernel)) (fun _ h9 => h9) rfl hnm rfl (by decide +kernel) rfl rfl (Nat.le_of_ble_eq_true rfl) d_It_init_11 (fun H locs hP hA hS => ?_)
  rw [bx_uu] at hP hA
  have hP : y_P D vwCl (va_up g x (some (.inr (1, [.ref kx, .int len, .int 0, .null, .int 0, .int 0, .null, .int 0, .null])))) H := hP
  have hA : ∀ q e, va_up g x (some (.inr (1, [.ref kx, .int len, .int 0, .null, .int 0, .int 0, .null, .int 0, .null]))) q = some e → A q := hA
  refine lv_aload_n hx hb d_It_init_14 rfl (lv_at hl 0 rfl) ?_
  refine lv_iload_n hx hb d_It_init_15 rfl (lv_at hl 3 rfl) ?_
  refine y_putF (D := D) (ci := 1) (v := .int wd) (ty := .int) (C := R_It) (T := F_It) (N := 9) hx hb hts in_It t_It t_It_ok n_It hown hK hP hA hS (va_up_self _ _ _) rfl 2 (by decide) (hts (.fieldLink R_It 17 "MemoryDesk$Item" "words" "I") (by decide +kernel)) (fun _ h9 => h9) rfl hnm rfl (by decide +kernel) rfl rfl (Nat.le_of_ble_eq_true rfl) d_It_init_16 (fun H locs hP hA hS => ?_)
  rw [bx_uu] at hP hA
  have hP : y_P D vwCl (va_up g x (some (.inr (1, [.ref kx, .int len, .int wd, .null, .int 0, .int 0, .null, .int 0, .null])))) H := hP
  have hA : ∀ q e, va_up g x (some (.inr (1, [.ref kx, .int len, .int wd, .null, .int 0, .int 0, .null, .int 0, .null]))) q = some e → A q := hA
  refine W.widen (k := 0) (n := 0) (by first | decide | omega) (by first | decide | omega) ?_
  exact x_ret (W.vret hx hb hr (w_fin rfl hAe ⟨rfl, rfl⟩ hP hA hS) hS.2.2 d_It_init_19)
set_option maxHeartbeats 4000000 in
set_option maxRecDepth 100000 in
/-- PlainKind(words, mask) -/
theorem c_Pk_init (l : Launch) (D : va_G) (tys : List (ClassId × FieldType)) (g : y_G) (sz : Nat) (x : Nat) (w mk : Int32) (h0 : g x = some (.inr (2, [.int 0, .int 0]))) : x_M l y_Pk_init [.code y_Pk_init b_Pk_init 3 none] rmC (w_Pc D tys [.ref x, .int w, .int mk] g sz) (w_Qc D g sz (fun r g9 => r = .inl none ∧ g9 = va_up g x (some (.inr (2, [.int w, .int mk]))))) 0 0 (y_A g sz) := by
  refine x_ofW (cc := b_Pk_init) (maxL := 3) (ret := none) (by decide) rfl ?_
  intro p e s m args below meth c s₁ B hml hno hv
  obtain ⟨rfl, hsz, hP, hE⟩ := hv
  subst hsz
  have hts := hE.hts ([.ref x, .int w, .int mk] : List Value).toArray
  have hK := hE.1.2.1
  have hA0 : ∀ q, s.heap.size ≤ q → y_A g s.heap.size q := fun q h => Or.inr h
  have hA : ∀ q e, g q = some e → y_A g s.heap.size q := fun q e h => Or.inl (by rw [h]; exact fun z => nomatch z)
  have hS : va_S (y_A g s.heap.size) s.heap s.heap [] := va_S.rf
  generalize hAe : y_A g s.heap.size = A at hE hA0 hA hS ⊢
  have hx := B.exec
  have hb := B.bytes
  have hr := B.returns
  have hlocks := B.notSynchronized
  have hown : s.vm.findClass R_Pk = some m.cls := findClass_of_methodNamed B.named
  have hl := lv_entry ([.ref x, .int w, .int mk]) (n := 3) (Nat.le_of_ble_eq_true rfl)
  rw [lg_entry_eq]
  generalize (lg_sl ([.ref x, .int w, .int mk]) ++ List.replicate (3 - (lg_sl ([.ref x, .int w, .int mk])).length) Slot.unset).toArray = ls at hl ⊢
  have hl : lv_has ls 3 [(0, .ref x), (1, .int w), (2, .int mk)] := hl
  have hnm : meth.name = "<init>" := (name_of_methodNamed B.named B.method).1
  refine lv_aload_n hx hb d_Pk_init_0 rfl (lv_at hl 0 rfl) ?_
  refine va_csv (va_Run.run (va_runIN (As := []) (host := "MemoryDesk") ⟨hx, hb, hml, hown, hts⟩ (c_Ki_init l D tys g x) ⟨va_cnB 0 hts (x_gi (by decide +kernel)) rfl rfl rfl (hE.1.2.2.1 (.methodLinkNest R_Pk 3 y_Ki_init "MemoryDesk") (by decide +kernel)) (hts (.initialized R_Ki) (by decide +kernel)) (by decide +kernel) ⟨by decide, by decide⟩, rfl, (hts (.instanceMethod y_Ki_init) (by decide +kernel))⟩ ⟨w_Pp.blind, fun U hU hW => ⟨rfl, by rw [hU]; exact hP, hE.1.to hW⟩⟩ rfl rfl hl.1 rfl (lv_room (Nat.le_of_ble_eq_true rfl)) d_Pk_init_1 ⟨by decide, by decide⟩)) (fun _ => ?_)
  refine lv_aload_n hx hb d_Pk_init_4 rfl (lv_at hl 0 rfl) ?_
  refine lv_iload_n hx hb d_Pk_init_5 rfl (lv_at hl 1 rfl) ?_
  refine y_putF (D := D) (ci := 2) (v := .int w) (ty := .int) (C := R_Pk) (T := F_Pk) (N := 2) hx hb hts in_Pk t_Pk t_Pk_ok n_Pk hown hK hP hA hS h0 rfl 0 (by decide) (hts (.fieldLink R_Pk 9 "MemoryDesk$PlainKind" "words" "I") (by decide +kernel)) (fun _ h9 => h9) rfl hnm rfl (by decide +kernel) rfl rfl (Nat.le_of_ble_eq_true rfl) d_Pk_init_6 (fun H locs hP hA hS => ?_)
  have hP : y_P D vwCl (va_up g x (some (.inr (2, [.int w, .int 0])))) H := hP
  have hA : ∀ q e, va_up g x (some (.inr (2, [.int w, .int 0]))) q = some e → A q := hA
  refine lv_aload_n hx hb d_Pk_init_9 rfl (lv_at hl 0 rfl) ?_
  refine lv_iload_n hx hb d_Pk_init_10 rfl (lv_at hl 2 rfl) ?_
  refine y_putF (D := D) (ci := 2) (v := .int mk) (ty := .int) (C := R_Pk) (T := F_Pk) (N := 2) hx hb hts in_Pk t_Pk t_Pk_ok n_Pk hown hK hP hA hS (va_up_self _ _ _) rfl 1 (by decide) (hts (.fieldLink R_Pk 15 "MemoryDesk$PlainKind" "mask" "I") (by decide +kernel)) (fun _ h9 => h9) rfl hnm rfl (by decide +kernel) rfl rfl (Nat.le_of_ble_eq_true rfl) d_Pk_init_11 (fun H locs hP hA hS => ?_)
  rw [bx_uu] at hP hA
  have hP : y_P D vwCl (va_up g x (some (.inr (2, [.int w, .int mk])))) H := hP
  have hA : ∀ q e, va_up g x (some (.inr (2, [.int w, .int mk]))) q = some e → A q := hA
  refine W.widen (k := 0) (n := 0) (by first | decide | omega) (by first | decide | omega) ?_
  exact x_ret (W.vret hx hb hr (w_fin rfl hAe ⟨rfl, rfl⟩ hP hA hS) hS.2.2 d_Pk_init_14)
set_option maxHeartbeats 4000000 in
set_option maxRecDepth 100000 in
/-- RowKind(elements, bits) -/
theorem c_Rk_init (l : Launch) (D : va_G) (tys : List (ClassId × FieldType)) (g : y_G) (sz : Nat) (x : Nat) (el bi : Int32) (h0 : g x = some (.inr (3, [.int 0, .int 0]))) : x_M l y_Rk_init [.code y_Rk_init b_Rk_init 3 none] rmC (w_Pc D tys [.ref x, .int el, .int bi] g sz) (w_Qc D g sz (fun r g9 => r = .inl none ∧ g9 = va_up g x (some (.inr (3, [.int el, .int bi]))))) 0 0 (y_A g sz) := by
  refine x_ofW (cc := b_Rk_init) (maxL := 3) (ret := none) (by decide) rfl ?_
  intro p e s m args below meth c s₁ B hml hno hv
  obtain ⟨rfl, hsz, hP, hE⟩ := hv
  subst hsz
  have hts := hE.hts ([.ref x, .int el, .int bi] : List Value).toArray
  have hK := hE.1.2.1
  have hA0 : ∀ q, s.heap.size ≤ q → y_A g s.heap.size q := fun q h => Or.inr h
  have hA : ∀ q e, g q = some e → y_A g s.heap.size q := fun q e h => Or.inl (by rw [h]; exact fun z => nomatch z)
  have hS : va_S (y_A g s.heap.size) s.heap s.heap [] := va_S.rf
  generalize hAe : y_A g s.heap.size = A at hE hA0 hA hS ⊢
  have hx := B.exec
  have hb := B.bytes
  have hr := B.returns
  have hlocks := B.notSynchronized
  have hown : s.vm.findClass R_Rk = some m.cls := findClass_of_methodNamed B.named
  have hl := lv_entry ([.ref x, .int el, .int bi]) (n := 3) (Nat.le_of_ble_eq_true rfl)
  rw [lg_entry_eq]
  generalize (lg_sl ([.ref x, .int el, .int bi]) ++ List.replicate (3 - (lg_sl ([.ref x, .int el, .int bi])).length) Slot.unset).toArray = ls at hl ⊢
  have hl : lv_has ls 3 [(0, .ref x), (1, .int el), (2, .int bi)] := hl
  have hnm : meth.name = "<init>" := (name_of_methodNamed B.named B.method).1
  refine lv_aload_n hx hb d_Rk_init_0 rfl (lv_at hl 0 rfl) ?_
  refine va_csv (va_Run.run (va_runIN (As := []) (host := "MemoryDesk") ⟨hx, hb, hml, hown, hts⟩ (c_Ki_init l D tys g x) ⟨va_cnB 0 hts (x_gi (by decide +kernel)) rfl rfl rfl (hE.1.2.2.1 (.methodLinkNest R_Rk 3 y_Ki_init "MemoryDesk") (by decide +kernel)) (hts (.initialized R_Ki) (by decide +kernel)) (by decide +kernel) ⟨by decide, by decide⟩, rfl, (hts (.instanceMethod y_Ki_init) (by decide +kernel))⟩ ⟨w_Pp.blind, fun U hU hW => ⟨rfl, by rw [hU]; exact hP, hE.1.to hW⟩⟩ rfl rfl hl.1 rfl (lv_room (Nat.le_of_ble_eq_true rfl)) d_Rk_init_1 ⟨by decide, by decide⟩)) (fun _ => ?_)
  refine lv_aload_n hx hb d_Rk_init_4 rfl (lv_at hl 0 rfl) ?_
  refine lv_iload_n hx hb d_Rk_init_5 rfl (lv_at hl 1 rfl) ?_
  refine y_putF (D := D) (ci := 3) (v := .int el) (ty := .int) (C := R_Rk) (T := F_Rk) (N := 2) hx hb hts in_Rk t_Rk t_Rk_ok n_Rk hown hK hP hA hS h0 rfl 0 (by decide) (hts (.fieldLink R_Rk 9 "MemoryDesk$RowKind" "elements" "I") (by decide +kernel)) (fun _ h9 => h9) rfl hnm rfl (by decide +kernel) rfl rfl (Nat.le_of_ble_eq_true rfl) d_Rk_init_6 (fun H locs hP hA hS => ?_)
  have hP : y_P D vwCl (va_up g x (some (.inr (3, [.int el, .int 0])))) H := hP
  have hA : ∀ q e, va_up g x (some (.inr (3, [.int el, .int 0]))) q = some e → A q := hA
  refine lv_aload_n hx hb d_Rk_init_9 rfl (lv_at hl 0 rfl) ?_
  refine lv_iload_n hx hb d_Rk_init_10 rfl (lv_at hl 2 rfl) ?_
  refine y_putF (D := D) (ci := 3) (v := .int bi) (ty := .int) (C := R_Rk) (T := F_Rk) (N := 2) hx hb hts in_Rk t_Rk t_Rk_ok n_Rk hown hK hP hA hS (va_up_self _ _ _) rfl 1 (by decide) (hts (.fieldLink R_Rk 15 "MemoryDesk$RowKind" "bits" "I") (by decide +kernel)) (fun _ h9 => h9) rfl hnm rfl (by decide +kernel) rfl rfl (Nat.le_of_ble_eq_true rfl) d_Rk_init_11 (fun H locs hP hA hS => ?_)
  rw [bx_uu] at hP hA
  have hP : y_P D vwCl (va_up g x (some (.inr (3, [.int el, .int bi])))) H := hP
  have hA : ∀ q e, va_up g x (some (.inr (3, [.int el, .int bi]))) q = some e → A q := hA
  refine W.widen (k := 0) (n := 0) (by first | decide | omega) (by first | decide | omega) ?_
  exact x_ret (W.vret hx hb hr (w_fin rfl hAe ⟨rfl, rfl⟩ hP hA hS) hS.2.2 d_Rk_init_14)
end
section
/-! an object's cells; what a slot holds -/
section CCells
/-- a cell: its address, place, value, what it names -/
abbrev CL : Type := Nat × Int32 × Int64 × Option Nat
def c_hd : List CL → Option Nat
  | [] => none
  | q :: _ => some q.1
def c_ch (g : y_G) : List CL → Prop
  | [] => True
  | q :: r => g q.1 = some (e_cell q.2.1 (c_hd r) q.2.2.1 q.2.2.2) ∧ c_ch g r
def c_fd (k : Int32) : List CL → Option Nat
  | [] => none
  | q :: r => if q.2.1 = k then some q.1 else c_fd k r
abbrev x_tys (cK cI cN cZ cL : ClassId) : List (ClassId × FieldType) := [(cK, .object "MemoryDesk$Kind"), (cI, .object "MemoryDesk$Item"), (cN, .int), (cZ, .boolean), (cL, .long)]
theorem b_in.v32 {x : Int32} (h : b_in x 32) : vp_in x 32 := by
  rw [vp_in_iff]
  obtain ⟨h1, h2⟩ := h
  rw [Int32.lt_iff_toInt_lt] at h1 h2
  have e0 : (0 : Int32).toInt = 0 := rfl
  have e1 : (32 : Int32).toInt = 32 := rfl
  omega
theorem b_in.v16 {x : Int32} (h : b_in x 16) : vp_in x 16 := by
  rw [vp_in_iff]
  obtain ⟨h1, h2⟩ := h
  rw [Int32.lt_iff_toInt_lt] at h1 h2
  have e0 : (0 : Int32).toInt = 0 := rfl
  have e1 : (16 : Int32).toInt = 16 := rfl
  omega
end CCells
set_option maxHeartbeats 4000000 in
set_option maxRecDepth 100000 in
/-- find(place): the first cell of that place -/
theorem c_It_find (l : Launch) (D : va_G) (tys : List (ClassId × FieldType)) (g : y_G) (x : Nat) (k : Int32) (kx : Nat) (len wd tg kp : Int32) (nk : Option Nat) (sn : Int32) (np : Option Nat) (L : List CL) (h0 : g x = some (e_item kx len wd (c_hd L) tg kp nk sn np)) (hc : c_ch g L) : Met l y_It_find [.code y_It_find b_It_find 3 (some (.object "MemoryDesk$Cell"))] rmZ (w_Pp D tys [.ref x, .int k] g) (va_Sq (fun r => r = c_fd k L)) 0 0 (fun _ => False) := by
  refine Met.ofW (cc := b_It_find) (maxL := 3) (ret := (some (.object "MemoryDesk$Cell"))) (by decide) rfl ?_
  intro p e s m args below meth c s₁ B hml hv
  obtain ⟨rfl, hP, hV⟩ := hv
  have hts := hV.hts ([.ref x, .int k] : List Value).toArray
  have hK := hV.2.1
  have hx := B.exec
  have hb := B.bytes
  have hr := B.returns
  have hlocks := B.notSynchronized
  have hown : s.vm.findClass R_It = some m.cls := findClass_of_methodNamed B.named
  have hl := lv_entry ([.ref x, .int k]) (n := 3) (Nat.le_of_ble_eq_true rfl)
  rw [lg_entry_eq]
  generalize (lg_sl ([.ref x, .int k]) ++ List.replicate (3 - (lg_sl ([.ref x, .int k])).length) Slot.unset).toArray = ls at hl ⊢
  have hl : lv_has ls 3 [(0, .ref x), (1, .int k)] := hl
  generalize hQ : MQ below (va_Sq (fun r => r = c_fd k L)) ([.ref x, .int k] : List Value).toArray s 0 0 (fun _ => False) = QQ
  have loop : ∀ (L1 : List CL) (ls : Array Slot), lv_has ls 3 [(2, va_rf (c_hd L1)), (1, .int k), (0, .ref x)] → c_ch g L1 → c_fd k L = c_fd k L1 → W p l e rmZ s m ([.ref x, .int k] : List Value).toArray below meth c s.heap [] 0 0 QQ (F0 m 5 ls []) := by
    intro L1
    induction L1 with
    | nil =>
      intro ls hl _ hf
      have hl : lv_has ls 3 [(2, .null), (1, .int k), (0, .ref x)] := hl
      refine lv_aload_nN hx hb d_It_find_5 rfl (lv_at hl 0 rfl) ?_
      refine lv_ifnullN hx hb d_It_find_6 rfl ?_
      refine lv_null hx hb d_It_find_27 ?_
      rw [← hQ]
      exact W.aret (v := .null) hx hb hr (Or.inl ⟨_, rfl⟩) (Or.inl rfl) (fun t ht _ => ⟨none, rfl, hf.symm, ht⟩) (fun q h => nomatch h) d_It_find_28
    | cons q r ih =>
      obtain ⟨y, k1, v1, nm1⟩ := q
      intro ls hl hch hf
      obtain ⟨hy, hch⟩ := hch
      have hy : g y = some (e_cell k1 (c_hd r) v1 nm1) := hy
      have hl : lv_has ls 3 [(2, .ref y), (1, .int k), (0, .ref x)] := hl
      refine lv_aload_n hx hb d_It_find_5 rfl (lv_at hl 0 rfl) ?_
      refine lv_ifnull hx hb d_It_find_6 ?_
      refine lv_aload_n hx hb d_It_find_9 rfl (lv_at hl 0 rfl) ?_
      refine y_get (D := D) (ci := 0) (v := .int k1) (C := R_Ce) (T := F_Ce) (N := 4) hx hb hts in_Ce hown hK hP hy rfl 0 (by decide) (hts (.fieldLink R_It 24 "MemoryDesk$Cell" "place" "I") (by decide +kernel)) (fun _ h9 => h9) rfl d_It_find_10 ?_
      refine lv_iload_n hx hb d_It_find_13 rfl (lv_at hl 1 rfl) ?_
      refine lv_icmp_ne hx hb d_It_find_14 rfl (fun h1 => ?_) (fun h1 => ?_)
      · -- if_icmpne at 14: to 19
        refine lv_aload_n hx hb d_It_find_19 rfl (lv_at hl 0 rfl) ?_
        refine y_get (D := D) (ci := 0) (v := va_rf (c_hd r)) (C := R_Ce) (T := F_Ce) (N := 4) hx hb hts in_Ce hown hK hP hy rfl 1 (by decide) (hts (.fieldLink R_It 29 "MemoryDesk$Cell" "next" "LMemoryDesk$Cell;") (by decide +kernel)) (fun _ h9 => h9) rfl d_It_find_20 ?_
        have hf : c_fd k L = c_fd k r := hf.trans (if_neg h1)
        cases r with
        | nil =>
          refine lv_astore_nN hx hb d_It_find_23 rfl hl (by decide) rfl (fun ls hl => ?_)
          have hl : lv_has ls 3 [(2, .null), (1, .int k), (0, .ref x)] := hl
          refine lv_goto hx hb d_It_find_24 rfl ?_
          exact ih ls hl hch hf
        | cons q2 r2 =>
          refine lv_astore_n hx hb d_It_find_23 rfl hl (by decide) rfl (fun ls hl => ?_)
          have hl : lv_has ls 3 [(2, .ref q2.1), (1, .int k), (0, .ref x)] := hl
          refine lv_goto hx hb d_It_find_24 rfl ?_
          exact ih ls hl hch hf
      · -- if_icmpne at 14: to 17
        refine lv_aload_n hx hb d_It_find_17 rfl (lv_at hl 0 rfl) ?_
        rw [← hQ]
        exact W.aret (v := .ref y) hx hb hr (Or.inl ⟨_, rfl⟩) (Or.inr ⟨_, rfl⟩) (fun t ht _ => ⟨some y, rfl, (hf.trans (if_pos h1)).symm, ht⟩) (fun q h => nomatch h) d_It_find_18
  refine lv_aload_n hx hb d_It_find_0 rfl (lv_at hl 0 rfl) ?_
  refine y_get (D := D) (ci := 1) (v := va_rf (c_hd L)) (C := R_It) (T := F_It) (N := 9) hx hb hts in_It hown hK hP h0 rfl 3 (by decide) (hts (.fieldLink R_It 20 "MemoryDesk$Item" "cells" "LMemoryDesk$Cell;") (by decide +kernel)) (fun _ h9 => h9) rfl d_It_find_1 ?_
  cases L with
  | nil =>
    refine lv_astore_nN hx hb d_It_find_4 rfl hl (by decide) rfl (fun ls hl => ?_)
    have hl : lv_has ls 3 [(2, .null), (0, .ref x), (1, .int k)] := hl
    have hl : lv_has ls 3 [(2, .null), (1, .int k), (0, .ref x)] := lv_sub hl [0, 2, 1] rfl
    exact loop [] ls hl hc rfl
  | cons q r =>
    refine lv_astore_n hx hb d_It_find_4 rfl hl (by decide) rfl (fun ls hl => ?_)
    have hl : lv_has ls 3 [(2, .ref q.1), (0, .ref x), (1, .int k)] := hl
    have hl : lv_has ls 3 [(2, .ref q.1), (1, .int k), (0, .ref x)] := lv_sub hl [0, 2, 1] rfl
    exact loop (q :: r) ls hl hc rfl
set_option maxHeartbeats 4000000 in
set_option maxRecDepth 100000 in
/-- held(s): what the slot holds -/
theorem c_De_held (l : Launch) (hst : l.stackTraces = false) (D : va_G) (cK cI cN cZ cL : ClassId) (g : y_G) (sz : Nat) (d ka sa : Nat) (lim mad kps tgs itv : Int32) (fk0 : Option Nat) (us wk : Int32) (pe : Option Nat) (sv : Int32) (fs : Nat → Option Nat) (hd : g d = some (e_desk ka sa lim mad kps tgs itv fk0 us wk pe)) (hsa : g sa = some (e_refs cI 32 fs)) (hin : b_in sv 32) : x_M l y_De_held [.code y_De_held b_De_held 3 (some (.object "MemoryDesk$Item"))] rmT (w_Pc D (x_tys cK cI cN cZ cL) [.ref d, .int sv] g sz) (w_Qc D g sz (fun r g9 => g9 = g ∧ ((∃ q, fs sv.toNatClampNeg = some q ∧ r = .inl (some (.ref q))) ∨ (fs sv.toNatClampNeg = none ∧ r = .inr xISE)))) 1 6 (y_A g sz) := by
  refine x_ofW (cc := b_De_held) (maxL := 3) (ret := (some (.object "MemoryDesk$Item"))) (by decide) rfl ?_
  intro p e s m args below meth c s₁ B hml hno hv
  obtain ⟨rfl, hsz, hP, hE⟩ := hv
  subst hsz
  have hts := hE.hts ([.ref d, .int sv] : List Value).toArray
  have hK := hE.1.2.1
  have hA0 : ∀ q, s.heap.size ≤ q → y_A g s.heap.size q := fun q h => Or.inr h
  have hA : ∀ q e, g q = some e → y_A g s.heap.size q := fun q e h => Or.inl (by rw [h]; exact fun z => nomatch z)
  have hS : va_S (y_A g s.heap.size) s.heap s.heap [] := va_S.rf
  generalize hAe : y_A g s.heap.size = A at hE hA0 hA hS ⊢
  have hx := B.exec
  have hb := B.bytes
  have hr := B.returns
  have hlocks := B.notSynchronized
  have hown : s.vm.findClass R_De = some m.cls := findClass_of_methodNamed B.named
  have hl := lv_entry ([.ref d, .int sv]) (n := 3) (Nat.le_of_ble_eq_true rfl)
  rw [lg_entry_eq]
  generalize (lg_sl ([.ref d, .int sv]) ++ List.replicate (3 - (lg_sl ([.ref d, .int sv])).length) Slot.unset).toArray = ls at hl ⊢
  have hl : lv_has ls 3 [(0, .ref d), (1, .int sv)] := hl
  refine lv_aload_n hx hb d_De_held_0 rfl (lv_at hl 0 rfl) ?_
  refine y_get (D := D) (ci := 4) (v := .ref sa) (C := R_De) (T := F_De) (N := 11) hx hb hts in_De hown hK hP hd rfl 1 (by decide) (hts (.fieldLink R_De 17 "MemoryDesk" "slots" "[LMemoryDesk$Item;") (by decide +kernel)) (fun _ h9 => h9) rfl d_De_held_1 ?_
  refine lv_iload_n hx hb d_De_held_4 rfl (lv_at hl 1 rfl) ?_
  refine y_aldq hx hb hK hP 1 hsa rfl hin.v32 d_De_held_5 ?_
  obtain ⟨o_q, hq⟩ : ∃ z, (fs sv.toNatClampNeg) = z := ⟨_, rfl⟩
  refine W.eq (g2 := F0 m 6 ls [va_rf o_q]) (congrArg (fun z => F0 m 6 ls [va_rf z]) hq) ?_
  cases o_q with
  | none =>
    refine lv_astore_nN hx hb d_De_held_6 rfl hl (by decide) rfl (fun ls hl => ?_)
    have hl : lv_has ls 3 [(2, .null), (0, .ref d), (1, .int sv)] := hl
    refine lv_aload_nN hx hb d_De_held_7 rfl (lv_at hl 0 rfl) ?_
    refine lv_ifnonnullN hx hb d_De_held_8 ?_
    obtain ⟨sa, hstr⟩ := hE.1.2.2.2.1 (160, "the slot holds none") (by decide)
    refine W.widen (k := 1 - 1) (n := 6 - 6) (by first | decide | omega) (by first | decide | omega) ?_
    exact x_throw (A := A) (cls := "java/lang/IllegalStateException") (names := ["java/lang/RuntimeException", "java/lang/Exception"]) hx hb hst hown (by decide) (by decide) (hts (.classLink R_De 65 "java/lang/IllegalStateException") (by decide +kernel)) (hts (.initialized "java/lang/IllegalStateException") (by decide +kernel)) hstr (fun w hw ho => hE.1.at _ ho (at_ISE w hw ho)) nt_ISE hE.2.1 hE.2.2.1 hS (hl.1.trans hml.symm) d_De_held_11 d_De_held_14 d_De_held_15 d_De_held_17 d_De_held_20 (hno 20) (by decide) (by decide) (by decide) (by decide) hlocks (w_thr rfl hAe ⟨rfl, Or.inr ⟨hq, rfl⟩⟩ hP hA hS) hS.2.2
  | some q =>
    refine lv_astore_n hx hb d_De_held_6 rfl hl (by decide) rfl (fun ls hl => ?_)
    have hl : lv_has ls 3 [(2, .ref q), (0, .ref d), (1, .int sv)] := hl
    refine lv_aload_n hx hb d_De_held_7 rfl (lv_at hl 0 rfl) ?_
    refine lv_ifnonnull hx hb d_De_held_8 rfl ?_
    refine lv_aload_n hx hb d_De_held_21 rfl (lv_at hl 0 rfl) ?_
    refine W.widen (k := 1) (n := 6) (by first | decide | omega) (by first | decide | omega) ?_
    exact x_ret (W.aret (v := .ref q) hx hb hr (Or.inl ⟨_, rfl⟩) (Or.inr ⟨_, rfl⟩) (w_fin rfl hAe ⟨rfl, Or.inl ⟨q, hq, rfl⟩⟩ hP hA hS) hS.2.2 d_De_held_22)
abbrev rmU : Room := { frames := 7, cells := 2, slots := 12, locals := 130 }
set_option maxHeartbeats 4000000 in
set_option maxRecDepth 100000 in
/-- checkUndefined(k) -/
theorem c_De_checkUndefined (l : Launch) (hst : l.stackTraces = false) (D : va_G) (cK cI cN cZ cL : ClassId) (g : y_G) (sz : Nat) (d ka sa : Nat) (lim mad kps tgs itv : Int32) (fk0 : Option Nat) (us wk : Int32) (pe : Option Nat) (sv : Int32) (fk : Nat → Option Nat) (hd : g d = some (e_desk ka sa lim mad kps tgs itv fk0 us wk pe)) (hka : g ka = some (e_refs cK 16 fk)) : x_M l y_De_checkUndefined [.code y_De_checkUndefined b_De_checkUndefined 2 none] rmU (w_Pc D (x_tys cK cI cN cZ cL) [.ref d, .int sv] g sz) (w_Qc D g sz (fun r g9 => g9 = g ∧ ((r = .inl none ∧ b_in sv 16 ∧ fk sv.toNatClampNeg = none) ∨ (r = .inr xIAE ∧ ¬ (b_in sv 16 ∧ fk sv.toNatClampNeg = none))))) 2 12 (y_A g sz) := by
  refine x_ofW (cc := b_De_checkUndefined) (maxL := 2) (ret := none) (by decide) rfl ?_
  intro p e s m args below meth c s₁ B hml hno hv
  obtain ⟨rfl, hsz, hP, hE⟩ := hv
  subst hsz
  have hts := hE.hts ([.ref d, .int sv] : List Value).toArray
  have hK := hE.1.2.1
  have hA0 : ∀ q, s.heap.size ≤ q → y_A g s.heap.size q := fun q h => Or.inr h
  have hA : ∀ q e, g q = some e → y_A g s.heap.size q := fun q e h => Or.inl (by rw [h]; exact fun z => nomatch z)
  have hS : va_S (y_A g s.heap.size) s.heap s.heap [] := va_S.rf
  generalize hAe : y_A g s.heap.size = A at hE hA0 hA hS ⊢
  have hx := B.exec
  have hb := B.bytes
  have hr := B.returns
  have hlocks := B.notSynchronized
  have hown : s.vm.findClass R_De = some m.cls := findClass_of_methodNamed B.named
  have hl := lv_entry ([.ref d, .int sv]) (n := 2) (Nat.le_of_ble_eq_true rfl)
  rw [lg_entry_eq]
  generalize (lg_sl ([.ref d, .int sv]) ++ List.replicate (2 - (lg_sl ([.ref d, .int sv])).length) Slot.unset).toArray = ls at hl ⊢
  have hl : lv_has ls 2 [(0, .ref d), (1, .int sv)] := hl
  refine lv_iload_n hx hb d_De_checkUndefined_0 rfl (lv_at hl 1 rfl) ?_
  refine w_callS (As := [.int sv]) ⟨hx, hb, hml, hown, hts⟩ (c_De_checkKind l hst D _ g s.heap.size sv) (x_cb (va_cwS (own := R_De) (index := 56) 1 hts (x_gi (by decide +kernel)) rfl rfl rfl (by decide +kernel) ⟨by decide, by decide⟩).1) (hts (.static y_De_checkKind) (by decide +kernel)) hE hP hA hA0 hS rfl hl.1 rfl (lv_room (Nat.le_of_ble_eq_true rfl)) d_De_checkUndefined_1 (by first | decide | omega) (by first | decide | omega) (fun v9 g9 H locs hq9 hP hA hS => ?_) (fun E9 q9 ce9 g9 H locs hq9 hP hA hS z1 z2 z3 => ?_)
  · skip
    obtain ⟨hg9, hq9⟩ := hq9
    rw [hg9] at hP hA
    rcases hq9 with ⟨hv9, hin⟩ | ⟨hv9, -⟩
    · cases hv9
      refine W.eq (g2 := F0 m 4 ls []) rfl ?_
      refine lv_aload_n hx hb d_De_checkUndefined_4 rfl (lv_at hl 0 rfl) ?_
      refine y_get (D := D) (ci := 4) (v := .ref ka) (C := R_De) (T := F_De) (N := 11) hx hb hts in_De hown hK hP hd rfl 0 (by decide) (hts (.fieldLink R_De 11 "MemoryDesk" "kinds" "[LMemoryDesk$Kind;") (by decide +kernel)) (fun _ h9 => h9) rfl d_De_checkUndefined_5 ?_
      refine lv_iload_n hx hb d_De_checkUndefined_8 rfl (lv_at hl 1 rfl) ?_
      refine y_aldq hx hb hK hP 0 hka rfl hin.v16 d_De_checkUndefined_9 ?_
      obtain ⟨o_q, hq⟩ : ∃ z, (fk sv.toNatClampNeg) = z := ⟨_, rfl⟩
      refine W.eq (g2 := F0 m 10 ls [va_rf o_q]) (congrArg (fun z => F0 m 10 ls [va_rf z]) hq) ?_
      cases o_q with
      | none =>
        refine lv_ifnullN hx hb d_De_checkUndefined_10 rfl ?_
        refine W.widen (k := 2) (n := 12) (by first | decide | omega) (by first | decide | omega) ?_
        exact x_ret (W.vret hx hb hr (w_fin rfl hAe ⟨rfl, Or.inl ⟨rfl, hin, hq⟩⟩ hP hA hS) hS.2.2 d_De_checkUndefined_23)
      | some q =>
        refine lv_ifnull hx hb d_De_checkUndefined_10 ?_
        obtain ⟨sa, hstr⟩ := hE.1.2.2.2.1 (158, "the kind is defined already") (by decide)
        refine W.widen (k := 2 - 1) (n := 12 - 6) (by first | decide | omega) (by first | decide | omega) ?_
        exact x_throw (A := A) (cls := "java/lang/IllegalArgumentException") (names := ["java/lang/RuntimeException", "java/lang/Exception"]) hx hb hst hown (by decide) (by decide) (hts (.classLink R_De 30 "java/lang/IllegalArgumentException") (by decide +kernel)) (hts (.initialized "java/lang/IllegalArgumentException") (by decide +kernel)) hstr (fun w hw ho => hE.1.at _ ho (at_IAE w hw ho)) nt_IAE hE.2.1 hE.2.2.1 hS (hl.1.trans hml.symm) d_De_checkUndefined_13 d_De_checkUndefined_16 d_De_checkUndefined_17 d_De_checkUndefined_19 d_De_checkUndefined_22 (hno 22) (by decide) (by decide) (by decide) (by decide) hlocks (w_thr rfl hAe ⟨rfl, Or.inr ⟨rfl, fun z => by rw [hq] at z; exact nomatch z.2⟩⟩ hP hA hS) hS.2.2
    · cases hv9
  · skip
    obtain ⟨hg9, hq9⟩ := hq9
    rw [hg9] at hP hA
    rcases hq9 with ⟨hv9, -⟩ | ⟨hv9, hin⟩
    · cases hv9
    · cases hv9
      refine x_W.widen (k := 2) (n := 12) (by first | decide | omega) (by first | decide | omega) ?_
      exact x_leave (hno 1) hlocks (w_lea rfl hAe ⟨rfl, Or.inr ⟨rfl, fun z => hin z.1⟩⟩ hP hA hS z1 z2 z3) hS.2.2
end
section
/-! heldWithPlace, findOrAdd, comeTo -/
section CPlace
def c_kd (g : y_G) (kx : Nat) : Prop := (∃ w mk, g kx = some (e_plain w mk)) ∨ ∃ el bi, g kx = some (e_row el bi)
/-- is place k of an object of this kind a reference? -/
def c_rf (g : y_G) (kx : Nat) (k : Int32) : Prop := (∃ w mk, g kx = some (e_plain w mk) ∧ ¬ ((mk.toUInt32 >>> (k.toUInt32 &&& Int32.toUInt32 31)).toInt32 &&& 1) = 0) ∨ ∃ el bi, g kx = some (e_row el bi) ∧ el = 0
theorem c_rfP {g : y_G} {kx : Nat} {k w mk r : Int32} (hk : g kx = some (e_plain w mk)) (h : (r = 1 ∧ ¬ ((mk.toUInt32 >>> (k.toUInt32 &&& Int32.toUInt32 31)).toInt32 &&& 1) = 0) ∨ (r = 0 ∧ ((mk.toUInt32 >>> (k.toUInt32 &&& Int32.toUInt32 31)).toInt32 &&& 1) = 0)) : (c_rf g kx k ↔ r = 1) ∧ (r = 0 ∨ r = 1) := by
  rcases h with ⟨rfl, h⟩ | ⟨rfl, h⟩
  · exact ⟨⟨fun _ => rfl, fun _ => Or.inl ⟨w, mk, hk, h⟩⟩, Or.inr rfl⟩
  · refine ⟨⟨fun z => ?_, fun z => by cases z⟩, Or.inl rfl⟩
    rcases z with ⟨w', mk', h1, h2⟩ | ⟨el, bi, h1, -⟩
    · rw [hk] at h1; cases h1; exact absurd h h2
    · rw [hk] at h1; cases h1
theorem c_rfR {g : y_G} {kx : Nat} {k el bi r : Int32} (hk : g kx = some (e_row el bi)) (h : (r = 1 ∧ el = 0) ∨ (r = 0 ∧ ¬ el = 0)) : (c_rf g kx k ↔ r = 1) ∧ (r = 0 ∨ r = 1) := by
  rcases h with ⟨rfl, h⟩ | ⟨rfl, h⟩
  · exact ⟨⟨fun _ => rfl, fun _ => Or.inr ⟨el, bi, hk, h⟩⟩, Or.inr rfl⟩
  · refine ⟨⟨fun z => ?_, fun z => by cases z⟩, Or.inl rfl⟩
    rcases z with ⟨w', mk', h1, h2⟩ | ⟨el', bi', h1, h2⟩
    · rw [hk] at h1; cases h1
    · rw [hk] at h1; cases h1; exact absurd h2 h
theorem c_rfN {X : Prop} {r rf : Int32} (h : X ↔ r = 1) (hr : r = 0 ∨ r = 1) (hrf : rf = 0 ∨ rf = 1) (hne : ¬ r = rf) : ¬ (X ↔ rf = 1) := by
  intro z
  rcases hr with rfl | rfl <;> rcases hrf with rfl | rfl
  · exact hne rfl
  · exact absurd (h.mp (z.mpr rfl)) (by decide)
  · exact absurd (z.mp (h.mpr rfl)) (by decide)
  · exact hne rfl
theorem c_ne {g : y_G} {a b : Nat} {e1 e2 : va_E} (h1 : g a = some e1) (h2 : g b = some e2) (h : e1 ≠ e2) : a ≠ b := fun z => h (by rw [z, h2] at h1; exact (Option.some.inj h1).symm)
abbrev rmF : Room := { frames := 2, cells := 1, slots := 4, locals := 50 }
end CPlace
set_option maxHeartbeats 4000000 in
set_option maxRecDepth 100000 in
/-- heldWithPlace(s, k, reference) -/
theorem c_De_heldWithPlace (l : Launch) (hst : l.stackTraces = false) (D : va_G) (cK cI cN cZ cL : ClassId) (g : y_G) (sz : Nat) (d ka sa : Nat) (lim mad kps tgs itv : Int32) (fk0 : Option Nat) (us wk : Int32) (pe : Option Nat) (sv k rf : Int32) (fs : Nat → Option Nat) (hd : g d = some (e_desk ka sa lim mad kps tgs itv fk0 us wk pe)) (hsa : g sa = some (e_refs cI 32 fs)) (hin : b_in sv 32) (hrf : rf = 0 ∨ rf = 1) (hit : ∀ q, fs sv.toNatClampNeg = some q → ∃ kx len wd cs tg kp nk sn np, g q = some (e_item kx len wd cs tg kp nk sn np) ∧ c_kd g kx) : x_M l y_De_heldWithPlace [.code y_De_heldWithPlace b_De_heldWithPlace 5 (some (.object "MemoryDesk$Item"))] rmU (w_Pc D (x_tys cK cI cN cZ cL) [.ref d, .int sv, .int k, .int rf] g sz) (w_Qc D g sz (fun r g9 => g9 = g ∧ ((fs sv.toNatClampNeg = none ∧ r = .inr xISE) ∨ ∃ q kx len wd cs tg kp nk sn np, fs sv.toNatClampNeg = some q ∧ g q = some (e_item kx len wd cs tg kp nk sn np) ∧ ((¬ b_in k len ∧ r = .inr xIOO) ∨ (b_in k len ∧ ¬ (c_rf g kx k ↔ rf = 1) ∧ r = .inr xUOE) ∨ (b_in k len ∧ (c_rf g kx k ↔ rf = 1) ∧ r = .inl (some (.ref q))))))) 2 12 (y_A g sz) := by
  refine x_ofW (cc := b_De_heldWithPlace) (maxL := 5) (ret := (some (.object "MemoryDesk$Item"))) (by decide) rfl ?_
  intro p e s m args below meth c s₁ B hml hno hv
  obtain ⟨rfl, hsz, hP, hE⟩ := hv
  subst hsz
  have hts := hE.hts ([.ref d, .int sv, .int k, .int rf] : List Value).toArray
  have hK := hE.1.2.1
  have hA0 : ∀ q, s.heap.size ≤ q → y_A g s.heap.size q := fun q h => Or.inr h
  have hA : ∀ q e, g q = some e → y_A g s.heap.size q := fun q e h => Or.inl (by rw [h]; exact fun z => nomatch z)
  have hS : va_S (y_A g s.heap.size) s.heap s.heap [] := va_S.rf
  generalize hAe : y_A g s.heap.size = A at hE hA0 hA hS ⊢
  have hx := B.exec
  have hb := B.bytes
  have hr := B.returns
  have hlocks := B.notSynchronized
  have hown : s.vm.findClass R_De = some m.cls := findClass_of_methodNamed B.named
  have hl := lv_entry ([.ref d, .int sv, .int k, .int rf]) (n := 5) (Nat.le_of_ble_eq_true rfl)
  rw [lg_entry_eq]
  generalize (lg_sl ([.ref d, .int sv, .int k, .int rf]) ++ List.replicate (5 - (lg_sl ([.ref d, .int sv, .int k, .int rf])).length) Slot.unset).toArray = ls at hl ⊢
  have hl : lv_has ls 5 [(0, .ref d), (1, .int sv), (2, .int k), (3, .int rf)] := hl
  refine lv_aload_n hx hb d_De_heldWithPlace_0 rfl (lv_at hl 0 rfl) ?_
  refine lv_iload_n hx hb d_De_heldWithPlace_1 rfl (lv_at hl 1 rfl) ?_
  refine w_callV (As := [.int sv]) (C := R_De) ⟨hx, hb, hml, hown, hts⟩ (c_De_held l hst D cK cI cN cZ cL g s.heap.size d ka sa lim mad kps tgs itv fk0 us wk pe sv fs hd hsa hin) (x_cb (cwV (own := R_De) (index := 117) (C := R_De) 1 hts (x_gi (by decide +kernel)) rfl rfl rfl (by decide +kernel) ⟨by decide, by decide⟩).1) (hts (.instanceMethod y_De_held) (by decide +kernel)) (hts (.selects R_De y_De_held y_De_held) (by decide +kernel)) (y_recv (ci := 4) (q := (R_De, F_De, 11)) hK hP rfl hd) hE hP hA hA0 hS rfl hl.1 rfl (lv_room (Nat.le_of_ble_eq_true rfl)) d_De_heldWithPlace_2 (by first | decide | omega) (by first | decide | omega) (fun v9 g9 H locs hq9 hP hA hS => ?_) (fun E9 q9 ce9 g9 H locs hq9 hP hA hS z1 z2 z3 => ?_)
  · skip
    obtain ⟨hg9, hq9⟩ := hq9
    rw [hg9] at hP hA
    rcases hq9 with ⟨q, hfq, hv9⟩ | ⟨-, hv9⟩
    · cases hv9
      refine W.eq (g2 := F0 m 5 ls [.ref q]) rfl ?_
      obtain ⟨kx, len, wd, cs, tg, kp, nk, sn, np, hq, hkd⟩ := hit q hfq
      refine lv_astore hx hb d_De_heldWithPlace_5 hl (by decide) rfl (fun ls hl => ?_)
      have hl : lv_has ls 5 [(4, .ref q), (0, .ref d), (1, .int sv), (2, .int k), (3, .int rf)] := hl
      refine lv_iload_n hx hb d_De_heldWithPlace_7 rfl (lv_at hl 3 rfl) ?_
      refine lv_if_lt hx hb d_De_heldWithPlace_8 rfl (fun h1 => ?_) (fun h1 => ?_)
      · -- iflt at 8: to 20
        obtain ⟨sa, hstr⟩ := hE.1.2.2.2.1 (164, "there is no such word or element") (by decide)
        refine W.widen (k := 2 - 1) (n := 12 - 6) (by first | decide | omega) (by first | decide | omega) ?_
        exact x_throw (A := A) (cls := "java/lang/IndexOutOfBoundsException") (names := ["java/lang/RuntimeException", "java/lang/Exception"]) hx hb hst hown (by decide) (by decide) (hts (.classLink R_De 162 "java/lang/IndexOutOfBoundsException") (by decide +kernel)) (hts (.initialized "java/lang/IndexOutOfBoundsException") (by decide +kernel)) hstr (fun w hw ho => hE.1.at _ ho (at_IOO w hw ho)) nt_IOO hE.2.1 hE.2.2.1 hS (hl.1.trans hml.symm) d_De_heldWithPlace_20 d_De_heldWithPlace_23 d_De_heldWithPlace_24 d_De_heldWithPlace_26 d_De_heldWithPlace_29 (hno 29) (by decide) (by decide) (by decide) (by decide) hlocks (w_thr rfl hAe ⟨rfl, Or.inr ⟨q, kx, len, wd, cs, tg, kp, nk, sn, np, hfq, hq, Or.inl ⟨fun z => z.1 h1, rfl⟩⟩⟩ hP hA hS) hS.2.2
      · -- iflt at 8: to 11
        refine lv_iload_n hx hb d_De_heldWithPlace_11 rfl (lv_at hl 3 rfl) ?_
        refine lv_aload hx hb d_De_heldWithPlace_12 (lv_at hl 0 rfl) ?_
        refine y_get (D := D) (ci := 1) (v := .int len) (C := R_It) (T := F_It) (N := 9) hx hb hts in_It hown hK hP hq rfl 1 (by decide) (hts (.fieldLink R_De 140 "MemoryDesk$Item" "length" "I") (by decide +kernel)) (fun _ h9 => h9) rfl d_De_heldWithPlace_14 ?_
        refine lv_icmp_lt hx hb d_De_heldWithPlace_17 rfl (fun h2 => ?_) (fun h2 => ?_)
        · -- if_icmplt at 17: to 30
          refine lv_aload hx hb d_De_heldWithPlace_30 (lv_at hl 0 rfl) ?_
          refine y_get (D := D) (ci := 1) (v := .ref kx) (C := R_It) (T := F_It) (N := 9) hx hb hts in_It hown hK hP hq rfl 0 (by decide) (hts (.fieldLink R_De 105 "MemoryDesk$Item" "kind" "LMemoryDesk$Kind;") (by decide +kernel)) (fun _ h9 => h9) rfl d_De_heldWithPlace_32 ?_
          refine lv_iload_n hx hb d_De_heldWithPlace_35 rfl (lv_at hl 3 rfl) ?_
          rcases hkd with ⟨w, mk, hk⟩ | ⟨el, bi, hk⟩
          · skip
            refine vp_callSi (va_Run.run (va_runU (C := R_Pk) (owner := R_Ki) (x := ⟨R_Ki, "isReference", "(I)Z"⟩) (As := [.int k]) ⟨hx, hb, hml, hown, hts⟩ (c_Pk_isReference l D _ g kx k w mk hk) (va_cwA (own := R_De) (index := 167) 1 hts (x_gi (by decide +kernel)) rfl rfl rfl (hE.1.2.2.1 (.declares ⟨R_Ki, "isReference", "(I)Z"⟩) (by decide +kernel)) (by decide +kernel) ⟨by decide, by decide⟩) ⟨w_Pp.blind, y_recv (ci := 2) (q := (R_Pk, F_Pk, 2)) hK hP rfl hk, fun U hU hW => ⟨rfl, by rw [hU]; exact hP, hE.1.to hW⟩⟩ rfl rfl hl.1 rfl (lv_room (Nat.le_of_ble_eq_true rfl)) d_De_heldWithPlace_36 ⟨by first | decide | omega, by first | decide | omega⟩)) (fun r9 hr9 => ?_)
            refine lv_iload_n hx hb d_De_heldWithPlace_39 rfl (lv_at hl 4 rfl) ?_
            obtain ⟨hc9, hz9⟩ := c_rfP hk hr9
            refine lv_icmp_eq hx hb d_De_heldWithPlace_40 rfl (fun h3 => ?_) (fun h3 => ?_)
            · -- if_icmpeq at 40: to 53
              refine lv_aload hx hb d_De_heldWithPlace_53 (lv_at hl 0 rfl) ?_
              rw [h3] at hc9
              refine W.widen (k := 2) (n := 12) (by first | decide | omega) (by first | decide | omega) ?_
              exact x_ret (W.aret (v := .ref q) hx hb hr (Or.inl ⟨_, rfl⟩) (Or.inr ⟨_, rfl⟩) (w_fin rfl hAe ⟨rfl, Or.inr ⟨q, kx, len, wd, cs, tg, kp, nk, sn, np, hfq, hq, Or.inr (Or.inr ⟨⟨h1, h2⟩, hc9, rfl⟩)⟩⟩ hP hA hS) hS.2.2 d_De_heldWithPlace_55)
            · -- if_icmpeq at 40: to 43
              obtain ⟨sa, hstr⟩ := hE.1.2.2.2.1 (172, "a reference is no value, nor a value a reference") (by decide)
              refine W.widen (k := 2 - 1) (n := 12 - 6) (by first | decide | omega) (by first | decide | omega) ?_
              exact x_throw (A := A) (cls := "java/lang/UnsupportedOperationException") (names := ["java/lang/RuntimeException", "java/lang/Exception"]) hx hb hst hown (by decide) (by decide) (hts (.classLink R_De 170 "java/lang/UnsupportedOperationException") (by decide +kernel)) (hts (.initialized "java/lang/UnsupportedOperationException") (by decide +kernel)) hstr (fun w hw ho => hE.1.at _ ho (at_UOE w hw ho)) nt_UOE hE.2.1 hE.2.2.1 hS (hl.1.trans hml.symm) d_De_heldWithPlace_43 d_De_heldWithPlace_46 d_De_heldWithPlace_47 d_De_heldWithPlace_49 d_De_heldWithPlace_52 (hno 52) (by decide) (by decide) (by decide) (by decide) hlocks (w_thr rfl hAe ⟨rfl, Or.inr ⟨q, kx, len, wd, cs, tg, kp, nk, sn, np, hfq, hq, Or.inr (Or.inl ⟨⟨h1, h2⟩, c_rfN hc9 hz9 hrf h3, rfl⟩)⟩⟩ hP hA hS) hS.2.2
          · skip
            refine vp_callSi (va_Run.run (va_runU (C := R_Rk) (owner := R_Ki) (x := ⟨R_Ki, "isReference", "(I)Z"⟩) (As := [.int k]) ⟨hx, hb, hml, hown, hts⟩ (c_Rk_isReference l D _ g kx k el bi hk) (va_cwA (own := R_De) (index := 167) 1 hts (x_gi (by decide +kernel)) rfl rfl rfl (hE.1.2.2.1 (.declares ⟨R_Ki, "isReference", "(I)Z"⟩) (by decide +kernel)) (by decide +kernel) ⟨by decide, by decide⟩) ⟨w_Pp.blind, y_recv (ci := 3) (q := (R_Rk, F_Rk, 2)) hK hP rfl hk, fun U hU hW => ⟨rfl, by rw [hU]; exact hP, hE.1.to hW⟩⟩ rfl rfl hl.1 rfl (lv_room (Nat.le_of_ble_eq_true rfl)) d_De_heldWithPlace_36 ⟨by first | decide | omega, by first | decide | omega⟩)) (fun r9 hr9 => ?_)
            refine lv_iload_n hx hb d_De_heldWithPlace_39 rfl (lv_at hl 4 rfl) ?_
            obtain ⟨hc9, hz9⟩ := c_rfR hk hr9
            refine lv_icmp_eq hx hb d_De_heldWithPlace_40 rfl (fun h4 => ?_) (fun h4 => ?_)
            · -- if_icmpeq at 40: to 53
              refine lv_aload hx hb d_De_heldWithPlace_53 (lv_at hl 0 rfl) ?_
              rw [h4] at hc9
              refine W.widen (k := 2) (n := 12) (by first | decide | omega) (by first | decide | omega) ?_
              exact x_ret (W.aret (v := .ref q) hx hb hr (Or.inl ⟨_, rfl⟩) (Or.inr ⟨_, rfl⟩) (w_fin rfl hAe ⟨rfl, Or.inr ⟨q, kx, len, wd, cs, tg, kp, nk, sn, np, hfq, hq, Or.inr (Or.inr ⟨⟨h1, h2⟩, hc9, rfl⟩)⟩⟩ hP hA hS) hS.2.2 d_De_heldWithPlace_55)
            · -- if_icmpeq at 40: to 43
              obtain ⟨sa, hstr⟩ := hE.1.2.2.2.1 (172, "a reference is no value, nor a value a reference") (by decide)
              refine W.widen (k := 2 - 1) (n := 12 - 6) (by first | decide | omega) (by first | decide | omega) ?_
              exact x_throw (A := A) (cls := "java/lang/UnsupportedOperationException") (names := ["java/lang/RuntimeException", "java/lang/Exception"]) hx hb hst hown (by decide) (by decide) (hts (.classLink R_De 170 "java/lang/UnsupportedOperationException") (by decide +kernel)) (hts (.initialized "java/lang/UnsupportedOperationException") (by decide +kernel)) hstr (fun w hw ho => hE.1.at _ ho (at_UOE w hw ho)) nt_UOE hE.2.1 hE.2.2.1 hS (hl.1.trans hml.symm) d_De_heldWithPlace_43 d_De_heldWithPlace_46 d_De_heldWithPlace_47 d_De_heldWithPlace_49 d_De_heldWithPlace_52 (hno 52) (by decide) (by decide) (by decide) (by decide) hlocks (w_thr rfl hAe ⟨rfl, Or.inr ⟨q, kx, len, wd, cs, tg, kp, nk, sn, np, hfq, hq, Or.inr (Or.inl ⟨⟨h1, h2⟩, c_rfN hc9 hz9 hrf h4, rfl⟩)⟩⟩ hP hA hS) hS.2.2
        · -- if_icmplt at 17: to 20
          obtain ⟨sa, hstr⟩ := hE.1.2.2.2.1 (164, "there is no such word or element") (by decide)
          refine W.widen (k := 2 - 1) (n := 12 - 6) (by first | decide | omega) (by first | decide | omega) ?_
          exact x_throw (A := A) (cls := "java/lang/IndexOutOfBoundsException") (names := ["java/lang/RuntimeException", "java/lang/Exception"]) hx hb hst hown (by decide) (by decide) (hts (.classLink R_De 162 "java/lang/IndexOutOfBoundsException") (by decide +kernel)) (hts (.initialized "java/lang/IndexOutOfBoundsException") (by decide +kernel)) hstr (fun w hw ho => hE.1.at _ ho (at_IOO w hw ho)) nt_IOO hE.2.1 hE.2.2.1 hS (hl.1.trans hml.symm) d_De_heldWithPlace_20 d_De_heldWithPlace_23 d_De_heldWithPlace_24 d_De_heldWithPlace_26 d_De_heldWithPlace_29 (hno 29) (by decide) (by decide) (by decide) (by decide) hlocks (w_thr rfl hAe ⟨rfl, Or.inr ⟨q, kx, len, wd, cs, tg, kp, nk, sn, np, hfq, hq, Or.inl ⟨fun z => h2 z.2, rfl⟩⟩⟩ hP hA hS) hS.2.2
    · cases hv9
  · skip
    obtain ⟨hg9, hq9⟩ := hq9
    rw [hg9] at hP hA
    rcases hq9 with ⟨q, -, hv9⟩ | ⟨hn, hv9⟩
    · cases hv9
    · cases hv9
      refine x_W.widen (k := 2) (n := 12) (by first | decide | omega) (by first | decide | omega) ?_
      exact x_leave (hno 2) hlocks (w_lea rfl hAe ⟨rfl, Or.inl ⟨hn, rfl⟩⟩ hP hA hS z1 z2 z3) hS.2.2
set_option maxHeartbeats 4000000 in
set_option maxRecDepth 100000 in
/-- findOrAdd(place): the cell of that place, or a new one ahead of all -/
theorem c_It_findOrAdd (l : Launch) (D : va_G) (tys : List (ClassId × FieldType)) (g : y_G) (sz : Nat) (x : Nat) (k : Int32) (kx : Nat) (len wd tg kp : Int32) (nk : Option Nat) (sn : Int32) (np : Option Nat) (L : List CL) (h0 : g x = some (e_item kx len wd (c_hd L) tg kp nk sn np)) (hc : c_ch g L) :
    x_M l y_It_findOrAdd [.code y_It_findOrAdd b_It_findOrAdd 3 (some (.object "MemoryDesk$Cell"))] rmF (w_Pc D tys [.ref x, .int k] g sz) (w_Qc D g sz (fun r g9 => (∃ y, c_fd k L = some y ∧ r = .inl (some (.ref y)) ∧ g9 = g) ∨ (c_fd k L = none ∧ ∃ q, g q = none ∧ r = .inl (some (.ref q)) ∧ g9 = va_up (va_up g q (some (e_cell k (c_hd L) 0 none))) x (some (e_item kx len wd (some q) tg kp nk sn np))))) 1 4 (y_A g sz) := by
  refine x_ofW (cc := b_It_findOrAdd) (maxL := 3) (ret := (some (.object "MemoryDesk$Cell"))) (by decide) rfl ?_
  intro p e s m args below meth c s₁ B hml hno hv
  obtain ⟨rfl, hsz, hP, hE⟩ := hv
  subst hsz
  have hts := hE.hts ([.ref x, .int k] : List Value).toArray
  have hK := hE.1.2.1
  have hA0 : ∀ q, s.heap.size ≤ q → y_A g s.heap.size q := fun q h => Or.inr h
  have hA : ∀ q e, g q = some e → y_A g s.heap.size q := fun q e h => Or.inl (by rw [h]; exact fun z => nomatch z)
  have hS : va_S (y_A g s.heap.size) s.heap s.heap [] := va_S.rf
  generalize hAe : y_A g s.heap.size = A at hE hA0 hA hS ⊢
  have hx := B.exec
  have hb := B.bytes
  have hr := B.returns
  have hlocks := B.notSynchronized
  have hown : s.vm.findClass R_It = some m.cls := findClass_of_methodNamed B.named
  have hl := lv_entry ([.ref x, .int k]) (n := 3) (Nat.le_of_ble_eq_true rfl)
  rw [lg_entry_eq]
  generalize (lg_sl ([.ref x, .int k]) ++ List.replicate (3 - (lg_sl ([.ref x, .int k])).length) Slot.unset).toArray = ls at hl ⊢
  have hl : lv_has ls 3 [(0, .ref x), (1, .int k)] := hl
  refine lv_aload_n hx hb d_It_findOrAdd_0 rfl (lv_at hl 0 rfl) ?_
  refine lv_iload_n hx hb d_It_findOrAdd_1 rfl (lv_at hl 1 rfl) ?_
  refine va_csq (W.runV (As := [.int k]) (C := R_It) ⟨hx, hb, hml, hown, hts⟩ (c_It_find l D tys g x k kx len wd tg kp nk sn np L h0 hc) (cwV (own := R_It) (index := 32) 1 hts (x_gi (by decide +kernel)) rfl rfl rfl (by decide +kernel) ⟨by decide, by decide⟩) ⟨w_Pp.blind, y_recv (ci := 1) (q := (R_It, F_It, 9)) hK hP rfl h0, fun U hU hW => ⟨rfl, by rw [hU]; exact hP, hE.1.to hW⟩⟩ rfl rfl hl.1 rfl (lv_room (Nat.le_of_ble_eq_true rfl)) d_It_findOrAdd_2 ⟨by decide, by decide⟩) (fun r9 hr9 => ?_)
  cases r9 with
  | some y =>
    refine lv_astore_n hx hb d_It_findOrAdd_5 rfl hl (by decide) rfl (fun ls hl => ?_)
    have hl : lv_has ls 3 [(2, .ref y), (0, .ref x), (1, .int k)] := hl
    refine lv_aload_n hx hb d_It_findOrAdd_6 rfl (lv_at hl 0 rfl) ?_
    refine lv_ifnonnull hx hb d_It_findOrAdd_7 rfl ?_
    refine lv_aload_n hx hb d_It_findOrAdd_28 rfl (lv_at hl 0 rfl) ?_
    refine W.widen (k := 1) (n := 4) (by first | decide | omega) (by first | decide | omega) ?_
    exact x_ret (W.aret (v := .ref y) hx hb hr (Or.inl ⟨_, rfl⟩) (Or.inr ⟨_, rfl⟩) (w_fin rfl hAe (Or.inl ⟨y, hr9.symm, rfl, rfl⟩) hP hA hS) hS.2.2 d_It_findOrAdd_29)
  | none =>
    refine lv_astore_nN hx hb d_It_findOrAdd_5 rfl hl (by decide) rfl (fun ls hl => ?_)
    have hl : lv_has ls 3 [(2, .null), (0, .ref x), (1, .int k)] := hl
    refine lv_aload_nN hx hb d_It_findOrAdd_6 rfl (lv_at hl 0 rfl) ?_
    refine lv_ifnonnullN hx hb d_It_findOrAdd_7 ?_
    refine y_new (ci := 0) (fs := [.int 0, .null, .long 0, .null]) (C := R_Ce) (T := F_Ce) (N := 4) hx hb hts in_Ce t_Ce t_Ce_ok hown (hts (.classLink R_It 25 R_Ce) (by decide +kernel)) (hts (.instantiable R_Ce 4) (by decide +kernel)) (hts (.initialized R_Ce) (by decide +kernel)) hK hP hA hS hA0 rfl (fun j hj => by rcases (show j = 0 ∨ j = 1 ∨ j = 2 ∨ j = 3 by omega) with rfl | rfl | rfl | rfl <;> rfl) (by first | decide | omega) (by first | decide | omega) d_It_findOrAdd_10 (fun q H hg_q hP hA hS => ?_)
    refine lv_dup hx hb d_It_findOrAdd_13 rfl ?_
    refine lv_iload_n hx hb d_It_findOrAdd_14 rfl (lv_at hl 2 rfl) ?_
    refine lv_aload_n hx hb d_It_findOrAdd_15 rfl (lv_at hl 1 rfl) ?_
    have hne : x ≠ q := fun z => by rw [z, hg_q] at h0; cases h0
    have h1 : va_up g q (some (.inr (0, [.int 0, .null, .long 0, .null]))) x = some (e_item kx len wd (c_hd L) tg kp nk sn np) := by rw [va_up_ne _ _ hne]; exact h0
    refine y_get (D := D) (ci := 1) (v := va_rf (c_hd L)) (C := R_It) (T := F_It) (N := 9) hx hb hts in_It hown hK hP h1 rfl 3 (by decide) (hts (.fieldLink R_It 20 "MemoryDesk$Item" "cells" "LMemoryDesk$Cell;") (by decide +kernel)) (fun _ h9 => h9) rfl d_It_findOrAdd_16 ?_
    cases L with
    | nil =>
      refine w_callI (As := [.int k, .null]) (bytes := b_Ce_init) ⟨hx, hb, hml, hown, hts⟩ (c_Ce_initN l D tys _ _ q k (va_up_self _ _ _)) (x_cb (cwI (own := R_It) (index := 36) 2 hts (x_gi (by decide +kernel)) rfl rfl rfl (hts (.initialized R_Ce) (by decide +kernel)) (hts (.methodLink R_It 36 y_Ce_init) (by decide +kernel)) (hts (.instanceMethod y_Ce_init) (by decide +kernel)) rfl (by decide +kernel) ⟨by decide, by decide⟩).1) rfl (hts (.instanceMethod y_Ce_init) (by decide +kernel)) (hts (.code y_Ce_init b_Ce_init 3 none) (by decide +kernel)) hE hP hA hA0 hS (fun _ _ z => nomatch z.1) rfl hl.1 rfl (lv_room (Nat.le_of_ble_eq_true rfl)) d_It_findOrAdd_19 (by first | decide | omega) (by first | decide | omega) (fun v9 g9 H locs hq9 hP hA hS => ?_)
      obtain ⟨hv9, hg9⟩ := hq9
      cases hv9
      rw [hg9] at hP hA
      refine W.eq (g2 := F0 m 22 ls [.ref q]) rfl ?_
      rw [bx_uu] at hP hA
      have hP : y_P D vwCl (va_up g q (some (e_cell k (c_hd []) 0 none))) H := hP
      have hA : ∀ q99 e99, (va_up g q (some (e_cell k (c_hd []) 0 none))) q99 = some e99 → A q99 := hA
      have h2 : va_up g q (some (e_cell k (c_hd []) 0 none)) x = some (e_item kx len wd (c_hd []) tg kp nk sn np) := by rw [va_up_ne _ _ hne]; exact h0
      refine lv_astore_n hx hb d_It_findOrAdd_22 rfl hl (by decide) rfl (fun ls hl => ?_)
      have hl : lv_has ls 3 [(2, .ref q), (0, .ref x), (1, .int k)] := hl
      refine lv_aload_n hx hb d_It_findOrAdd_23 rfl (lv_at hl 1 rfl) ?_
      refine lv_aload_n hx hb d_It_findOrAdd_24 rfl (lv_at hl 0 rfl) ?_
      refine y_put (D := D) (ci := 1) (v := .ref q) (ty := .object "MemoryDesk$Cell") (C := R_It) (T := F_It) (N := 9) hx hb hts in_It t_It t_It_ok n_It hown hK hP hA hS h2 rfl 3 (by decide) (hts (.fieldLink R_It 20 "MemoryDesk$Item" "cells" "LMemoryDesk$Cell;") (by decide +kernel)) (fun _ h9 => h9) rfl (by decide +kernel) rfl rfl (Nat.le_of_ble_eq_true rfl) d_It_findOrAdd_25 (fun H locs hP hA hS => ?_)
      have hP : y_P D vwCl (va_up (va_up g q (some (e_cell k (c_hd []) 0 none))) x (some (e_item kx len wd (some q) tg kp nk sn np))) H := hP
      have hA : ∀ q99 e99, (va_up (va_up g q (some (e_cell k (c_hd []) 0 none))) x (some (e_item kx len wd (some q) tg kp nk sn np))) q99 = some e99 → A q99 := hA
      refine lv_aload_n hx hb d_It_findOrAdd_28 rfl (lv_at hl 0 rfl) ?_
      refine W.widen (k := 1) (n := 4) (by first | decide | omega) (by first | decide | omega) ?_
      exact x_ret (W.aret (v := .ref q) hx hb hr (Or.inl ⟨_, rfl⟩) (Or.inr ⟨_, rfl⟩) (w_fin rfl hAe (Or.inr ⟨hr9.symm, q, hg_q, rfl, rfl⟩) hP hA hS) hS.2.2 d_It_findOrAdd_29)
    | cons q1 r1 =>
      refine w_callI (As := [.int k, .ref q1.1]) (bytes := b_Ce_init) ⟨hx, hb, hml, hown, hts⟩ (c_Ce_initR l D tys _ _ q k q1.1 (va_up_self _ _ _)) (x_cb (cwI (own := R_It) (index := 36) 2 hts (x_gi (by decide +kernel)) rfl rfl rfl (hts (.initialized R_Ce) (by decide +kernel)) (hts (.methodLink R_It 36 y_Ce_init) (by decide +kernel)) (hts (.instanceMethod y_Ce_init) (by decide +kernel)) rfl (by decide +kernel) ⟨by decide, by decide⟩).1) rfl (hts (.instanceMethod y_Ce_init) (by decide +kernel)) (hts (.code y_Ce_init b_Ce_init 3 none) (by decide +kernel)) hE hP hA hA0 hS (fun _ _ z => nomatch z.1) rfl hl.1 rfl (lv_room (Nat.le_of_ble_eq_true rfl)) d_It_findOrAdd_19 (by first | decide | omega) (by first | decide | omega) (fun v9 g9 H locs hq9 hP hA hS => ?_)
      obtain ⟨hv9, hg9⟩ := hq9
      cases hv9
      rw [hg9] at hP hA
      refine W.eq (g2 := F0 m 22 ls [.ref q]) rfl ?_
      rw [bx_uu] at hP hA
      have hP : y_P D vwCl (va_up g q (some (e_cell k (c_hd (q1 :: r1)) 0 none))) H := hP
      have hA : ∀ q99 e99, (va_up g q (some (e_cell k (c_hd (q1 :: r1)) 0 none))) q99 = some e99 → A q99 := hA
      have h2 : va_up g q (some (e_cell k (c_hd (q1 :: r1)) 0 none)) x = some (e_item kx len wd (c_hd (q1 :: r1)) tg kp nk sn np) := by rw [va_up_ne _ _ hne]; exact h0
      refine lv_astore_n hx hb d_It_findOrAdd_22 rfl hl (by decide) rfl (fun ls hl => ?_)
      have hl : lv_has ls 3 [(2, .ref q), (0, .ref x), (1, .int k)] := hl
      refine lv_aload_n hx hb d_It_findOrAdd_23 rfl (lv_at hl 1 rfl) ?_
      refine lv_aload_n hx hb d_It_findOrAdd_24 rfl (lv_at hl 0 rfl) ?_
      refine y_put (D := D) (ci := 1) (v := .ref q) (ty := .object "MemoryDesk$Cell") (C := R_It) (T := F_It) (N := 9) hx hb hts in_It t_It t_It_ok n_It hown hK hP hA hS h2 rfl 3 (by decide) (hts (.fieldLink R_It 20 "MemoryDesk$Item" "cells" "LMemoryDesk$Cell;") (by decide +kernel)) (fun _ h9 => h9) rfl (by decide +kernel) rfl rfl (Nat.le_of_ble_eq_true rfl) d_It_findOrAdd_25 (fun H locs hP hA hS => ?_)
      have hP : y_P D vwCl (va_up (va_up g q (some (e_cell k (c_hd (q1 :: r1)) 0 none))) x (some (e_item kx len wd (some q) tg kp nk sn np))) H := hP
      have hA : ∀ q99 e99, (va_up (va_up g q (some (e_cell k (c_hd (q1 :: r1)) 0 none))) x (some (e_item kx len wd (some q) tg kp nk sn np))) q99 = some e99 → A q99 := hA
      refine lv_aload_n hx hb d_It_findOrAdd_28 rfl (lv_at hl 0 rfl) ?_
      refine W.widen (k := 1) (n := 4) (by first | decide | omega) (by first | decide | omega) ?_
      exact x_ret (W.aret (v := .ref q) hx hb hr (Or.inl ⟨_, rfl⟩) (Or.inr ⟨_, rfl⟩) (w_fin rfl hAe (Or.inr ⟨hr9.symm, q, hg_q, rfl, rfl⟩) hP hA hS) hS.2.2 d_It_findOrAdd_29)
set_option maxHeartbeats 4000000 in
set_option maxRecDepth 100000 in
/-- comeTo(null): nothing -/
theorem c_De_comeToN (l : Launch) (D : va_G) (tys : List (ClassId × FieldType)) (g : y_G) (sz : Nat) (d : Nat) : x_M l y_De_comeTo [.code y_De_comeTo b_De_comeTo 2 none] rmZ (w_Pc D tys [.ref d, .null] g sz) (w_Qc D g sz (fun r g9 => r = .inl none ∧ g9 = g)) 0 0 (y_A g sz) := by
  refine x_ofW (cc := b_De_comeTo) (maxL := 2) (ret := none) (by decide) rfl ?_
  intro p e s m args below meth c s₁ B hml hno hv
  obtain ⟨rfl, hsz, hP, hE⟩ := hv
  subst hsz
  have hts := hE.hts ([.ref d, .null] : List Value).toArray
  have hK := hE.1.2.1
  have hA0 : ∀ q, s.heap.size ≤ q → y_A g s.heap.size q := fun q h => Or.inr h
  have hA : ∀ q e, g q = some e → y_A g s.heap.size q := fun q e h => Or.inl (by rw [h]; exact fun z => nomatch z)
  have hS : va_S (y_A g s.heap.size) s.heap s.heap [] := va_S.rf
  generalize hAe : y_A g s.heap.size = A at hE hA0 hA hS ⊢
  have hx := B.exec
  have hb := B.bytes
  have hr := B.returns
  have hlocks := B.notSynchronized
  have hown : s.vm.findClass R_De = some m.cls := findClass_of_methodNamed B.named
  have hl := lv_entry ([.ref d, .null]) (n := 2) (Nat.le_of_ble_eq_true rfl)
  rw [lg_entry_eq]
  generalize (lg_sl ([.ref d, .null]) ++ List.replicate (2 - (lg_sl ([.ref d, .null])).length) Slot.unset).toArray = ls at hl ⊢
  have hl : lv_has ls 2 [(0, .ref d), (1, .null)] := hl
  refine lv_aload_nN hx hb d_De_comeTo_0 rfl (lv_at hl 1 rfl) ?_
  refine lv_ifnullN hx hb d_De_comeTo_1 rfl ?_
  refine W.widen (k := 0) (n := 0) (by first | decide | omega) (by first | decide | omega) ?_
  exact x_ret (W.vret hx hb hr (w_fin rfl hAe ⟨rfl, rfl⟩ hP hA hS) hS.2.2 d_De_comeTo_36)
set_option maxHeartbeats 4000000 in
set_option maxRecDepth 100000 in
/-- comeTo(item): seen already, or it is pending now -/
theorem c_De_comeToR (l : Launch) (D : va_G) (tys : List (ClassId × FieldType)) (g : y_G) (sz : Nat) (d ka sa : Nat) (lim mad kps tgs itv : Int32) (fk0 : Option Nat) (us wk : Int32) (pe : Option Nat) (y : Nat) (kx : Nat) (len wd tg kp : Int32) (nk : Option Nat) (sn : Int32) (np : Option Nat) (cs : Option Nat) (hd : g d = some (e_desk ka sa lim mad kps tgs itv fk0 us wk pe)) (hy : g y = some (e_item kx len wd cs tg kp nk sn np)) : x_M l y_De_comeTo [.code y_De_comeTo b_De_comeTo 2 none] rmZ (w_Pc D tys [.ref d, .ref y] g sz)
    (w_Qc D g sz (fun r g9 => r = .inl none ∧ ((sn = wk ∧ g9 = g) ∨ (¬ sn = wk ∧ g9 = va_up (va_up g y (some (e_item kx len wd cs tg kp nk wk pe))) d (some (e_desk ka sa lim mad kps tgs itv fk0 us wk (some y))))))) 0 0 (y_A g sz) := by
  refine x_ofW (cc := b_De_comeTo) (maxL := 2) (ret := none) (by decide) rfl ?_
  intro p e s m args below meth c s₁ B hml hno hv
  obtain ⟨rfl, hsz, hP, hE⟩ := hv
  subst hsz
  have hts := hE.hts ([.ref d, .ref y] : List Value).toArray
  have hK := hE.1.2.1
  have hA0 : ∀ q, s.heap.size ≤ q → y_A g s.heap.size q := fun q h => Or.inr h
  have hA : ∀ q e, g q = some e → y_A g s.heap.size q := fun q e h => Or.inl (by rw [h]; exact fun z => nomatch z)
  have hS : va_S (y_A g s.heap.size) s.heap s.heap [] := va_S.rf
  generalize hAe : y_A g s.heap.size = A at hE hA0 hA hS ⊢
  have hx := B.exec
  have hb := B.bytes
  have hr := B.returns
  have hlocks := B.notSynchronized
  have hown : s.vm.findClass R_De = some m.cls := findClass_of_methodNamed B.named
  have hl := lv_entry ([.ref d, .ref y]) (n := 2) (Nat.le_of_ble_eq_true rfl)
  rw [lg_entry_eq]
  generalize (lg_sl ([.ref d, .ref y]) ++ List.replicate (2 - (lg_sl ([.ref d, .ref y])).length) Slot.unset).toArray = ls at hl ⊢
  have hl : lv_has ls 2 [(0, .ref d), (1, .ref y)] := hl
  have hne : d ≠ y := c_ne hd hy (by intro z; cases z)
  refine lv_aload_n hx hb d_De_comeTo_0 rfl (lv_at hl 1 rfl) ?_
  refine lv_ifnull hx hb d_De_comeTo_1 ?_
  refine lv_aload_n hx hb d_De_comeTo_4 rfl (lv_at hl 1 rfl) ?_
  refine y_get (D := D) (ci := 1) (v := .int sn) (C := R_It) (T := F_It) (N := 9) hx hb hts in_It hown hK hP hy rfl 7 (by decide) (hts (.fieldLink R_De 200 "MemoryDesk$Item" "walkSeen" "I") (by decide +kernel)) (fun _ h9 => h9) rfl d_De_comeTo_5 ?_
  refine lv_aload_n hx hb d_De_comeTo_8 rfl (lv_at hl 0 rfl) ?_
  refine y_get (D := D) (ci := 4) (v := .int wk) (C := R_De) (T := F_De) (N := 11) hx hb hts in_De hown hK hP hd rfl 9 (by decide) (hts (.fieldLink R_De 177 "MemoryDesk" "walk" "I") (by decide +kernel)) (fun _ h9 => h9) rfl d_De_comeTo_9 ?_
  refine lv_icmp_eq hx hb d_De_comeTo_12 rfl (fun h1 => ?_) (fun h1 => ?_)
  · -- if_icmpeq at 12: to 36
    refine W.widen (k := 0) (n := 0) (by first | decide | omega) (by first | decide | omega) ?_
    exact x_ret (W.vret hx hb hr (w_fin rfl hAe ⟨rfl, Or.inl ⟨h1, rfl⟩⟩ hP hA hS) hS.2.2 d_De_comeTo_36)
  · -- if_icmpeq at 12: to 15
    refine lv_aload_n hx hb d_De_comeTo_15 rfl (lv_at hl 1 rfl) ?_
    refine lv_aload_n hx hb d_De_comeTo_16 rfl (lv_at hl 0 rfl) ?_
    refine y_get (D := D) (ci := 4) (v := .int wk) (C := R_De) (T := F_De) (N := 11) hx hb hts in_De hown hK hP hd rfl 9 (by decide) (hts (.fieldLink R_De 177 "MemoryDesk" "walk" "I") (by decide +kernel)) (fun _ h9 => h9) rfl d_De_comeTo_17 ?_
    refine y_put (D := D) (ci := 1) (v := .int wk) (ty := .int) (C := R_It) (T := F_It) (N := 9) hx hb hts in_It t_It t_It_ok n_It hown hK hP hA hS hy rfl 7 (by decide) (hts (.fieldLink R_De 200 "MemoryDesk$Item" "walkSeen" "I") (by decide +kernel)) (fun _ h9 => h9) rfl (by decide +kernel) rfl rfl (Nat.le_of_ble_eq_true rfl) d_De_comeTo_20 (fun H locs hP hA hS => ?_)
    have hP : y_P D vwCl (va_up g y (some (e_item kx len wd cs tg kp nk wk np))) H := hP
    have hA : ∀ q99 e99, (va_up g y (some (e_item kx len wd cs tg kp nk wk np))) q99 = some e99 → A q99 := hA
    have hd1 : va_up g y (some (e_item kx len wd cs tg kp nk wk np)) d = some (e_desk ka sa lim mad kps tgs itv fk0 us wk pe) := by rw [va_up_ne _ _ hne]; exact hd
    refine lv_aload_n hx hb d_De_comeTo_23 rfl (lv_at hl 1 rfl) ?_
    refine lv_aload_n hx hb d_De_comeTo_24 rfl (lv_at hl 0 rfl) ?_
    refine y_get (D := D) (ci := 4) (v := va_rf pe) (C := R_De) (T := F_De) (N := 11) hx hb hts in_De hown hK hP hd1 rfl 10 (by decide) (hts (.fieldLink R_De 184 "MemoryDesk" "pending" "LMemoryDesk$Item;") (by decide +kernel)) (fun _ h9 => h9) rfl d_De_comeTo_25 ?_
    refine y_put (D := D) (ci := 1) (v := va_rf pe) (ty := .object "MemoryDesk$Item") (C := R_It) (T := F_It) (N := 9) hx hb hts in_It t_It t_It_ok n_It hown hK hP hA hS (va_up_self _ _ _) rfl 8 (by decide) (hts (.fieldLink R_De 187 "MemoryDesk$Item" "nextPending" "LMemoryDesk$Item;") (by decide +kernel)) (fun _ h9 => h9) rfl (by decide +kernel) (by rcases va_rf_or pe with h | ⟨z, h⟩ <;> rw [h] <;> rfl) (by rcases va_rf_or pe with h | ⟨z, h⟩ <;> rw [h] <;> rfl) (Nat.le_of_ble_eq_true rfl) d_De_comeTo_28 (fun H locs hP hA hS => ?_)
    rw [bx_uu] at hP hA
    have hP : y_P D vwCl (va_up g y (some (e_item kx len wd cs tg kp nk wk pe))) H := hP
    have hA : ∀ q99 e99, (va_up g y (some (e_item kx len wd cs tg kp nk wk pe))) q99 = some e99 → A q99 := hA
    have hd2 : va_up g y (some (e_item kx len wd cs tg kp nk wk pe)) d = some (e_desk ka sa lim mad kps tgs itv fk0 us wk pe) := by rw [va_up_ne _ _ hne]; exact hd
    refine lv_aload_n hx hb d_De_comeTo_31 rfl (lv_at hl 0 rfl) ?_
    refine lv_aload_n hx hb d_De_comeTo_32 rfl (lv_at hl 1 rfl) ?_
    refine y_put (D := D) (ci := 4) (v := .ref y) (ty := .object "MemoryDesk$Item") (C := R_De) (T := F_De) (N := 11) hx hb hts in_De t_De t_De_ok n_De hown hK hP hA hS hd2 rfl 10 (by decide) (hts (.fieldLink R_De 184 "MemoryDesk" "pending" "LMemoryDesk$Item;") (by decide +kernel)) (fun _ h9 => h9) rfl (by decide +kernel) rfl rfl (Nat.le_of_ble_eq_true rfl) d_De_comeTo_33 (fun H locs hP hA hS => ?_)
    have hP : y_P D vwCl (va_up (va_up g y (some (e_item kx len wd cs tg kp nk wk pe))) d (some (e_desk ka sa lim mad kps tgs itv fk0 us wk (some y)))) H := hP
    have hA : ∀ q99 e99, (va_up (va_up g y (some (e_item kx len wd cs tg kp nk wk pe))) d (some (e_desk ka sa lim mad kps tgs itv fk0 us wk (some y)))) q99 = some e99 → A q99 := hA
    refine W.widen (k := 0) (n := 0) (by first | decide | omega) (by first | decide | omega) ?_
    exact x_ret (W.vret hx hb hr (w_fin rfl hAe ⟨rfl, Or.inr ⟨h1, rfl⟩⟩ hP hA hS) hS.2.2 d_De_comeTo_36)
end
section
/-! how the class holds the memory: its objects, slots, kinds, cells; what a walk does to it -/
section CRep
/-- an object's address, none for 0 -/
def c_ob (ad : Nat → Nat) (o : Nat) : Option Nat := if o = 0 then none else some (ad o)
noncomputable def c_bit (X : Prop) : Int32 := @ite _ X (Classical.propDecidable _) 1 0
/-- who comes behind o in a chain -/
def c_nx : List Nat → Nat → Option Nat
  | [], _ => none
  | x :: r, o => if x = o then r.head? else c_nx r o
def c_bits (r : Int32) : Int32 := [32, 8, 16, 32, 64].getD r.toNatClampNeg 0
def c_kq (g : y_G) (x : Nat) (q : Int32 × Int32 × Int32) : Prop := (q.1 < 0 ∧ g x = some (e_plain q.2.1 q.2.2)) ∨ (¬ q.1 < 0 ∧ g x = some (e_row q.1 (c_bits q.1)))
def c_kn (a : Ab) (g : y_G) (fk : Nat → Option Nat) (k : Nat) : Prop := (a.kd k = none ∧ fk k = none) ∨ ∃ q x, a.kd k = some q ∧ fk k = some x ∧ c_kq g x q
/-- a cell holds what it must -/
def c_okc (a : Ab) (ad : Nat → Nat) (o : Nat) (q : CL) : Prop := (¬ a_ref a o q.2.1 → q.2.2.1 = a.ct o q.2.1 ∧ q.2.2.2 = none) ∧ (a_ref a o q.2.1 → (a.ct o q.2.1 = 0 ∧ q.2.2.2 = none) ∨ ∃ b, 1 ≤ b ∧ b ≤ a.n ∧ a.ct o q.2.1 = lN b ∧ q.2.2.2 = some (ad b))
def c_okL (a : Ab) (ad : Nat → Nat) (o : Nat) (L : List CL) : Prop := (∀ q, q ∈ L → c_okc a ad o q) ∧ (L.map (fun q => q.2.1)).Nodup ∧ ∀ k : Int32, (∀ q, q ∈ L → q.2.1 ≠ k) → a.ct o k = 0
noncomputable abbrev c_it (a : Ab) (ad : Nat → Nat) (cs : Nat → List CL) (ks : List Nat) (x : Nat) (sv : Int32) (nv : Option Nat) (o : Nat) : va_E := e_item x (a_len a o) (nI (a_wd a o)) (c_hd (cs o)) (nI (a.nu o)) (c_bit (a.kp o)) ((c_nx ks o).map ad) sv nv
/-- the class's world holds the memory a -/
def c_S (a : Ab) (g : y_G) (d ka sa : Nat) (cK cI : ClassId) (fk fs : Nat → Option Nat) (ad : Nat → Nat) (cs : Nat → List CL) (ks : List Nat) (itv us : Int32) (wk : Nat) (sn : Nat → Nat) (np : Nat → Option Nat) (pe : Option Nat) : Prop :=
  (g d = some (e_desk ka sa (nI a.mem) (nI a.n) (nI a.kc) (nI a.nn) itv (ks.head?.map ad) us (nI wk) pe) ∧ g ka = some (e_refs cK 16 fk) ∧ g sa = some (e_refs cI 32 fs)) ∧
  (∀ k, k < 16 → c_kn a g fk k) ∧ (∀ s, s < 32 → fs s = c_ob ad (a.sl s)) ∧
  (∀ o, 1 ≤ o → o ≤ a.n → ∃ x, fk (a.ok o) = some x ∧ g (ad o) = some (c_it a ad cs ks x (nI (sn o)) (np o) o)) ∧ (∀ o o', 1 ≤ o → o ≤ a.n → 1 ≤ o' → o' ≤ a.n → ad o = ad o' → o = o') ∧
  (∀ o, 1 ≤ o → o ≤ a.n → c_ch g (cs o) ∧ c_okL a ad o (cs o)) ∧ (∀ o o' q q', 1 ≤ o → o ≤ a.n → 1 ≤ o' → o' ≤ a.n → q ∈ cs o → q' ∈ cs o' → q.1 = q'.1 → o = o') ∧
  ks.Nodup ∧ ∀ o, a.kp o ↔ o ∈ ks
theorem c_ch.mono {g g' : y_G} : ∀ {L : List CL}, c_ch g L → (∀ q, q ∈ L → ∀ e, g q.1 = some e → g' q.1 = some e) → c_ch g' L
  | [], _, _ => trivial
  | q :: r, h, hg => ⟨hg q List.mem_cons_self _ h.1, c_ch.mono h.2 (fun z hz => hg z (List.mem_cons_of_mem _ hz))⟩
theorem c_ch.at {g : y_G} : ∀ {L : List CL}, c_ch g L → ∀ q, q ∈ L → ∃ nx, g q.1 = some (e_cell q.2.1 nx q.2.2.1 q.2.2.2)
  | [], _, q, hq => absurd hq List.not_mem_nil
  | z :: r, h, q, hq => (List.mem_cons.mp hq).elim (fun e => by rw [e]; exact ⟨_, h.1⟩) (fun e => c_ch.at h.2 q e)
/-- the world changes at objects and at the desk alone -/
theorem c_S.move {a : Ab} {g g' : y_G} {d ka sa : Nat} {cK cI : ClassId} {fk fs : Nat → Option Nat} {ad : Nat → Nat} {cs : Nat → List CL} {ks : List Nat} {itv us us' : Int32} {wk wk' : Nat} {sn sn' : Nat → Nat} {np np' : Nat → Option Nat} {pe pe' : Option Nat}
    (h : c_S a g d ka sa cK cI fk fs ad cs ks itv us wk sn np pe) (hd : g' d = some (e_desk ka sa (nI a.mem) (nI a.n) (nI a.kc) (nI a.nn) itv (ks.head?.map ad) us' (nI wk') pe'))
    (hit : ∀ o x, 1 ≤ o → o ≤ a.n → fk (a.ok o) = some x → g (ad o) = some (c_it a ad cs ks x (nI (sn o)) (np o) o) → g' (ad o) = some (c_it a ad cs ks x (nI (sn' o)) (np' o) o))
    (hoth : ∀ q e, g q = some e → (∀ fs, e ≠ .inr (1, fs)) → (∀ fs, e ≠ .inr (4, fs)) → g' q = some e) : c_S a g' d ka sa cK cI fk fs ad cs ks itv us' wk' sn' np' pe' := by
  obtain ⟨⟨h1, h2, h3⟩, h4, h5, h6, h7, h8, h9, h10⟩ := h
  refine ⟨⟨hd, hoth _ _ h2 (fun fs z => by cases z) (fun fs z => by cases z), hoth _ _ h3 (fun fs z => by cases z) (fun fs z => by cases z)⟩, fun k hk => ?_, h5, fun o a1 a2 => ?_, h7, fun o a1 a2 => ⟨(h8 o a1 a2).1.mono (fun q hq e he => ?_), (h8 o a1 a2).2⟩, h9, h10⟩
  · rcases h4 k hk with z | ⟨q, x, z1, z2, z3⟩
    · exact Or.inl z
    · refine Or.inr ⟨q, x, z1, z2, ?_⟩
      rcases z3 with ⟨y1, y2⟩ | ⟨y1, y2⟩
      · exact Or.inl ⟨y1, hoth _ _ y2 (fun fs z => by cases z) (fun fs z => by cases z)⟩
      · exact Or.inr ⟨y1, hoth _ _ y2 (fun fs z => by cases z) (fun fs z => by cases z)⟩
  · obtain ⟨x, z1, z2⟩ := h6 o a1 a2
    exact ⟨x, z1, hit o x a1 a2 z1 z2⟩
  · obtain ⟨nx, hn⟩ := (h8 o a1 a2).1.at q hq
    rw [hn] at he
    cases he
    exact hoth _ _ hn (fun fs z => by cases z) (fun fs z => by cases z)
/-- .. at the desk alone -/
theorem c_S.desk {a : Ab} {g : y_G} {d ka sa : Nat} {cK cI : ClassId} {fk fs : Nat → Option Nat} {ad : Nat → Nat} {cs : Nat → List CL} {ks : List Nat} {itv us us' : Int32} {wk wk' : Nat} {sn : Nat → Nat} {np : Nat → Option Nat} {pe pe' : Option Nat}
    (h : c_S a g d ka sa cK cI fk fs ad cs ks itv us wk sn np pe) : c_S a (va_up g d (some (e_desk ka sa (nI a.mem) (nI a.n) (nI a.kc) (nI a.nn) itv (ks.head?.map ad) us' (nI wk') pe'))) d ka sa cK cI fk fs ad cs ks itv us' wk' sn np pe' := by
  refine h.move (va_up_self _ _ _) (fun o x _ _ _ hg => ?_) (fun q e he _ h4 => ?_)
  · rw [va_up_ne _ _ (c_ne hg h.1.1 (fun z => by cases z))]; exact hg
  · rw [va_up_ne _ _ (c_ne he h.1.1 (fun z => h4 _ z))]; exact he
/-- .. at one object and at the desk -/
theorem c_S.item {a : Ab} {g : y_G} {d ka sa : Nat} {cK cI : ClassId} {fk fs : Nat → Option Nat} {ad : Nat → Nat} {cs : Nat → List CL} {ks : List Nat} {itv us us' : Int32} {wk wk' : Nat} {sn : Nat → Nat} {np : Nat → Option Nat} {pe pe' : Option Nat} {o x s' : Nat} {nv : Option Nat}
    (h : c_S a g d ka sa cK cI fk fs ad cs ks itv us wk sn np pe) (h1 : 1 ≤ o) (h2 : o ≤ a.n) (hx : fk (a.ok o) = some x) :
    c_S a (va_up (va_up g (ad o) (some (c_it a ad cs ks x (nI s') nv o))) d (some (e_desk ka sa (nI a.mem) (nI a.n) (nI a.kc) (nI a.nn) itv (ks.head?.map ad) us' (nI wk') pe'))) d ka sa cK cI fk fs ad cs ks itv us' wk' (va_up sn o s') (va_up np o nv) pe' := by
  obtain ⟨x0, hx0, hg0⟩ := h.2.2.2.1 o h1 h2
  have hod : ad o ≠ d := c_ne hg0 h.1.1 (fun z => by cases z)
  refine h.move (va_up_self _ _ _) (fun o1 x1 a1 a2 a3 hg => ?_) (fun q e he h3 h4 => ?_)
  · by_cases e : o1 = o
    · subst e
      rw [hx] at a3
      cases a3
      rw [va_up_ne _ _ hod, va_up_self, va_up_self, va_up_self]
    · have hne : ad o1 ≠ ad o := fun z => e (h.2.2.2.2.1 o1 o a1 a2 h1 h2 z)
      rw [va_up_ne _ _ (c_ne hg h.1.1 (fun z => by cases z)), va_up_ne _ _ hne, va_up_ne _ _ e, va_up_ne _ _ e]; exact hg
  · rw [va_up_ne _ _ (c_ne he h.1.1 (fun z => h4 _ z)), va_up_ne _ _ (c_ne he hg0 (fun z => h3 _ z))]; exact he
/-- a walk is under way: ps are the objects that wait -/
def c_J (a : Ab) (g : y_G) (d ka sa : Nat) (cK cI : ClassId) (fk fs : Nat → Option Nat) (ad : Nat → Nat) (cs : Nat → List CL) (ks : List Nat) (itv us : Int32) (wk : Nat) (sn : Nat → Nat) (np : Nat → Option Nat) (ps : List Nat) : Prop :=
  c_S a g d ka sa cK cI fk fs ad cs ks itv us wk sn np (ps.head?.map ad) ∧ (∀ o, 1 ≤ o → o ≤ a.n → sn o ≤ wk) ∧ ∀ o, o ∈ ps → np o = (c_nx ps o).map ad
/-- seen in this walk -/
def c_sn (a : Ab) (sn : Nat → Nat) (wk : Nat) (o : Nat) : Prop := 1 ≤ o ∧ o ≤ a.n ∧ sn o = wk
theorem c_sn.up {a : Ab} {sn : Nat → Nat} {wk k : Nat} (h1 : 1 ≤ k) (h2 : k ≤ a.n) : c_sn a (va_up sn k wk) wk = fun o => c_sn a sn wk o ∨ o = k := by
  funext o
  apply propext
  constructor
  · rintro ⟨g1, g2, g3⟩
    by_cases e : o = k
    · exact Or.inr e
    · rw [va_up_ne _ _ e] at g3; exact Or.inl ⟨g1, g2, g3⟩
  · rintro (⟨g1, g2, g3⟩ | rfl)
    · by_cases e : o = k
      · subst e; exact ⟨g1, g2, va_up_self _ _ _⟩
      · exact ⟨g1, g2, by rw [va_up_ne _ _ e]; exact g3⟩
    · exact ⟨h1, h2, va_up_self _ _ _⟩
/-- an object is come to for the first time -/
theorem c_J.visit {a : Ab} {g : y_G} {d ka sa : Nat} {cK cI : ClassId} {fk fs : Nat → Option Nat} {ad : Nat → Nat} {cs : Nat → List CL} {ks : List Nat} {itv us : Int32} {wk : Nat} {sn : Nat → Nat} {np : Nat → Option Nat} {ps : List Nat} {o x : Nat}
    (h : c_J a g d ka sa cK cI fk fs ad cs ks itv us wk sn np ps) (h1 : 1 ≤ o) (h2 : o ≤ a.n) (hx : fk (a.ok o) = some x) (ho : o ∉ ps) :
    c_J a (va_up (va_up g (ad o) (some (c_it a ad cs ks x (nI wk) (ps.head?.map ad) o))) d (some (e_desk ka sa (nI a.mem) (nI a.n) (nI a.kc) (nI a.nn) itv (ks.head?.map ad) us (nI wk) (some (ad o))))) d ka sa cK cI fk fs ad cs ks itv us wk (va_up sn o wk) (va_up np o (ps.head?.map ad)) (o :: ps) := by
  refine ⟨h.1.item h1 h2 hx, fun z z1 z2 => ?_, fun z hz => ?_⟩
  · by_cases e : z = o
    · rw [e, va_up_self]; exact Nat.le_refl _
    · rw [va_up_ne _ _ e]; exact h.2.1 z z1 z2
  · rcases List.mem_cons.mp hz with e | e
    · subst e; rw [va_up_self]; simp [c_nx]
    · have hne : z ≠ o := fun w => ho (by rw [← w]; exact e)
      rw [va_up_ne _ _ hne, h.2.2 z e]
      show _ = Option.map ad (if o = z then ps.head? else c_nx ps z)
      rw [if_neg (fun w => hne w.symm)]
theorem c_nx.skip {o k : Nat} {ps : List Nat} (h : o ≠ k) : c_nx (k :: ps) o = c_nx ps o := if_neg (fun z => h z.symm)
theorem c_up3 {g : y_G} {d y : Nat} {e1 e2 e3 : Option va_E} (h : y ≠ d) : va_up (va_up (va_up g d e1) y e2) d e3 = va_up (va_up g y e2) d e3 := by
  funext q
  by_cases h1 : q = d
  · subst h1; rw [va_up_self, va_up_self]
  · rw [va_up_ne _ _ h1, va_up_ne _ _ h1]
    by_cases h2 : q = y
    · subst h2; rw [va_up_self, va_up_self]
    · rw [va_up_ne _ _ h2, va_up_ne _ _ h2, va_up_ne _ _ h1]
end CRep
end
section
/-! clearAway: the walk -/
section CWalk
theorem c_ch.suffix {g : y_G} : ∀ {pre L : List CL}, c_ch g (pre ++ L) → c_ch g L
  | [], _, h => h
  | _ :: r, _, h => c_ch.suffix (pre := r) h.2
theorem c_nx.mid {o : Nat} {r : List Nat} : ∀ {pre : List Nat}, (pre ++ o :: r).Nodup → c_nx (pre ++ o :: r) o = r.head?
  | [], _ => if_pos rfl
  | x :: t, h => by
    have h1 := List.nodup_cons.mp h
    have hne : x ≠ o := fun z => h1.1 (by rw [z]; exact List.mem_append_right _ List.mem_cons_self)
    show (if x = o then _ else c_nx (t ++ o :: r) o) = _
    rw [if_neg hne]
    exact c_nx.mid h1.2
theorem c_eds {a : Ab} {ad : Nat → Nat} {o y : Nat} {L : List CL} {q : CL} (h1 : 1 ≤ o) (h2 : o ≤ a.n) (h : c_okL a ad o L) (hq : q ∈ L) (hy : q.2.2.2 = some y) : ∃ b, 1 ≤ b ∧ b ≤ a.n ∧ y = ad b ∧ a_ed a o b := by
  obtain ⟨g1, g2⟩ := h.1 q hq
  by_cases hr : a_ref a o q.2.1
  · rcases g2 hr with ⟨-, z⟩ | ⟨b, b1, b2, b3, b4⟩
    · rw [z] at hy; cases hy
    · rw [b4] at hy; cases hy
      exact ⟨b, b1, b2, rfl, h1, h2, b1, b2, q.2.1, hr, b3⟩
  · rw [(g1 hr).2] at hy; cases hy
theorem c_edc {a : Ab} {ad : Nat → Nat} {o b cn : Nat} {L : List CL} (hw : a_W a cn) (hcn : cn < 2 ^ 30) (h : c_okL a ad o L) (he : a_ed a o b) : ∃ q, q ∈ L ∧ q.2.2.2 = some (ad b) := by
  obtain ⟨h1, h2, b1, b2, k, hr, hc⟩ := he
  have hn : a.n ≤ cn := hw.2.2.2.2.2.2.2.2.2.1
  by_cases hk : ∀ q, q ∈ L → q.2.1 ≠ k
  · have z := h.2.2 k hk
    rw [hc] at z
    have z0 : b = 0 := (lN_eq (by omega) (by decide)).mp z
    omega
  · obtain ⟨q, hq⟩ : ∃ q, q ∈ L ∧ q.2.1 = k := by
      apply Classical.byContradiction
      intro z
      exact hk (fun q hq e => z ⟨q, hq, e⟩)
    obtain ⟨g1, g2⟩ := h.1 q hq.1
    rw [hq.2] at g2
    rcases g2 hr with ⟨z, -⟩ | ⟨b', c1, c2, c3, c4⟩
    · rw [hc] at z
      have z0 : b = 0 := (lN_eq (by omega) (by decide)).mp z
      omega
    · rw [hc] at c3
      have e : b = b' := (lN_eq (by omega) (by omega)).mp c3
      exact ⟨q, hq.1, by rw [e]; exact c4⟩
theorem c_upS {α : Type} (f : Nat → α) (k : Nat) : va_up f k (f k) = f := by
  funext q
  by_cases h : q = k
  · rw [h, va_up_self]
  · rw [va_up_ne _ _ h]
abbrev rmW : Room := { frames := 1, cells := 0, slots := 0, locals := 30 }
end CWalk
set_option maxHeartbeats 8000000 in
set_option maxRecDepth 100000 in
/-- clearAway(): what is used is what can be come to -/
theorem c_De_clearAway (l : Launch) (D : va_G) (cK cI cN cZ cL : ClassId) (g : y_G) (sz : Nat) (a : Ab) (cn : Nat) (d ka sa : Nat) (fk fs : Nat → Option Nat) (ad : Nat → Nat) (cs : Nat → List CL) (ks : List Nat) (itv us : Int32) (wk : Nat) (sn : Nat → Nat) (np : Nat → Option Nat) (hw : a_W a cn) (hcn : cn < 2 ^ 30)
    (hC : c_S a g d ka sa cK cI fk fs ad cs ks itv us wk sn np none) (hsn : ∀ o, 1 ≤ o → o ≤ a.n → sn o ≤ wk) (hwk : wk < 2 ^ 30) :
    x_M l y_De_clearAway [.code y_De_clearAway b_De_clearAway 4 none] rmW (w_Pc D (x_tys cK cI cN cZ cL) [.ref d] g sz) (w_Qc D g sz (fun r g9 => r = .inl none ∧ ∃ sn1 np1, c_S a g9 d ka sa cK cI fk fs ad cs ks itv (nI (a_use a)) (wk + 1) sn1 np1 none ∧ ∀ o, 1 ≤ o → o ≤ a.n → sn1 o ≤ wk + 1)) 0 0 (y_A g sz) := by
  refine x_ofW (cc := b_De_clearAway) (maxL := 4) (ret := none) (by decide) rfl ?_
  intro p e s m args below meth c s₁ B hml hno hv
  obtain ⟨rfl, hsz, hP, hE⟩ := hv
  subst hsz
  have hts := hE.hts ([.ref d] : List Value).toArray
  have hK := hE.1.2.1
  have hA0 : ∀ q, s.heap.size ≤ q → y_A g s.heap.size q := fun q h => Or.inr h
  have hA : ∀ q e, g q = some e → y_A g s.heap.size q := fun q e h => Or.inl (by rw [h]; exact fun z => nomatch z)
  have hS : va_S (y_A g s.heap.size) s.heap s.heap [] := va_S.rf
  generalize hAe : y_A g s.heap.size = A at hE hA0 hA hS ⊢
  have hx := B.exec
  have hb := B.bytes
  have hr := B.returns
  have hlocks := B.notSynchronized
  have hown : s.vm.findClass R_De = some m.cls := findClass_of_methodNamed B.named
  have hl := lv_entry ([.ref d]) (n := 4) (Nat.le_of_ble_eq_true rfl)
  rw [lg_entry_eq]
  generalize (lg_sl ([.ref d]) ++ List.replicate (4 - (lg_sl ([.ref d])).length) Slot.unset).toArray = ls at hl ⊢
  have hl : lv_has ls 4 [(0, .ref d)] := hl
  obtain ⟨QQ, hQ⟩ : ∃ z, z = x_Q below (w_Qc D g s.heap.size (fun r g9 => r = .inl none ∧ ∃ sn1 np1, c_S a g9 d ka sa cK cI fk fs ad cs ks itv (nI (a_use a)) (wk + 1) sn1 np1 none ∧ ∀ o, 1 ≤ o → o ≤ a.n → sn1 o ≤ wk + 1)) ([.ref d] : List Value).toArray s 0 0 A := ⟨_, rfl⟩
  rw [← hQ]
  have hn : a.n ≤ cn := hw.2.2.2.2.2.2.2.2.2.1
  have visit : ∀ (pc : Nat) (ls : Array Slot) (H : Heap) (locs : List Loc) (g : y_G) (us : Int32) (sn : Nat → Nat) (np : Nat → Option Nat) (ps : List Nat) (o : Nat) (r : Option Nat) (rop : Nat → Prop) (op : Nat → Nat → Prop), decode b_De_clearAway pc = .ok (.invokevirtual 180, 3) → ls.size = 4 → y_P D vwCl g H → (∀ q99 e99, g q99 = some e99 → A q99) → va_S A s.heap H locs → c_J a g d ka sa cK cI fk fs ad cs ks itv us (wk + 1) sn np ps → z_I (a_root a) (a_ed a) a.n (c_sn a sn (wk + 1)) ps rop op → o ≤ a.n → r = c_ob ad o → (o ≠ 0 → a_R a o) →
      (∀ (H : Heap) (locs : List Loc) (g : y_G) (sn1 : Nat → Nat) (np1 : Nat → Option Nat) (ps1 : List Nat), y_P D vwCl g H → (∀ q99 e99, g q99 = some e99 → A q99) → va_S A s.heap H locs → c_J a g d ka sa cK cI fk fs ad cs ks itv us (wk + 1) sn1 np1 ps1 → z_I (a_root a) (a_ed a) a.n (c_sn a sn1 (wk + 1)) ps1 rop op → (o ≠ 0 → c_sn a sn1 (wk + 1) o) → (∀ z, c_sn a sn (wk + 1) z → c_sn a sn1 (wk + 1) z) → (∀ w, z_sum w (fun z => c_sn a sn1 (wk + 1) z ∧ z ∉ ps1) a.n = z_sum w (fun z => c_sn a sn (wk + 1) z ∧ z ∉ ps) a.n) → W p l e rmW s m ([.ref d] : List Value).toArray below meth c H locs 0 0 QQ (F0 m (pc + 3) ls [])) →
      W p l e rmW s m ([.ref d] : List Value).toArray below meth c H locs 0 0 QQ (F0 m pc ls [va_rf r, .ref d]) := by
    intro pc ls H locs g us sn np ps o r rop op hdec hsz hP hA hS hJ hI ho hr hR kk
    by_cases h0 : o = 0
    · subst h0
      rw [hr]
      show W p l e rmW s m ([.ref d] : List Value).toArray below meth c H locs 0 0 QQ (F0 m pc ls [.null, .ref d])
      refine w_callV (As := [.null]) (C := R_De) ⟨hx, hb, hml, hown, hts⟩ (c_De_comeToN l D _ g H.size d) (x_cb (cwV (own := R_De) (index := 180) (C := R_De) 1 hts (x_gi (by decide +kernel)) rfl rfl rfl (by decide +kernel) ⟨by decide, by decide⟩).1) (hts (.instanceMethod y_De_comeTo) (by decide +kernel)) (hts (.selects R_De y_De_comeTo y_De_comeTo) (by decide +kernel)) (y_recv (ci := 4) (q := (R_De, F_De, 11)) hK hP rfl hJ.1.1.1) hE hP hA hA0 hS rfl hsz rfl (lv_room (Nat.le_of_ble_eq_true rfl)) hdec (by decide) (by decide) (fun v9 g9 H locs hq9 hP hA hS => ?_) (fun E9 q9 ce9 g9 H locs hq9 hP hA hS z1 z2 z3 => nomatch hq9.1)
      obtain ⟨hv9, hg9⟩ := hq9
      cases hv9
      rw [hg9] at hP hA
      exact kk H locs g sn np ps hP hA hS hJ hI (fun z => absurd rfl z) (fun _ z => z) (fun _ => rfl)
    · have h1 : 1 ≤ o := by omega
      obtain ⟨x, hx9, hg⟩ := hJ.1.2.2.2.1 o h1 ho
      have hr : r = some (ad o) := hr.trans (if_neg h0)
      rw [hr]
      show W p l e rmW s m ([.ref d] : List Value).toArray below meth c H locs 0 0 QQ (F0 m pc ls [.ref (ad o), .ref d])
      refine w_callV (As := [.ref (ad o)]) (C := R_De) ⟨hx, hb, hml, hown, hts⟩ (c_De_comeToR l D _ g H.size d ka sa _ _ _ _ itv _ us (nI (wk + 1)) _ (ad o) x _ _ _ _ _ (nI (sn o)) (np o) _ hJ.1.1.1 hg) (x_cb (cwV (own := R_De) (index := 180) (C := R_De) 1 hts (x_gi (by decide +kernel)) rfl rfl rfl (by decide +kernel) ⟨by decide, by decide⟩).1) (hts (.instanceMethod y_De_comeTo) (by decide +kernel)) (hts (.selects R_De y_De_comeTo y_De_comeTo) (by decide +kernel)) (y_recv (ci := 4) (q := (R_De, F_De, 11)) hK hP rfl hJ.1.1.1) hE hP hA hA0 hS rfl hsz rfl (lv_room (Nat.le_of_ble_eq_true rfl)) hdec (by decide) (by decide) (fun v9 g9 H locs hq9 hP hA hS => ?_) (fun E9 q9 ce9 g9 H locs hq9 hP hA hS z1 z2 z3 => nomatch hq9.1)
      obtain ⟨hv9, hg9⟩ := hq9
      cases hv9
      have hso := hJ.2.1 o h1 ho
      rcases hg9 with ⟨hs, hg9⟩ | ⟨hs, hg9⟩
      · rw [hg9] at hP hA
        have hs2 : sn o = wk + 1 := (nI_eq (by omega) (by omega)).mp hs
        exact kk H locs g sn np ps hP hA hS hJ hI (fun _ => ⟨h1, ho, hs2⟩) (fun _ z => z) (fun _ => rfl)
      · rw [hg9] at hP hA
        have hs2 : ¬ c_sn a sn (wk + 1) o := fun z => hs (by rw [z.2.2])
        have hop : o ∉ ps := fun z => hs2 (hI.2.1 o z)
        obtain ⟨i1, i2⟩ := hI.visit h1 ho (hR h0) hs2
        have hup : c_sn a (va_up sn o (wk + 1)) (wk + 1) = fun z => c_sn a sn (wk + 1) z ∨ z = o := c_sn.up h1 ho
        refine kk H locs _ (va_up sn o (wk + 1)) _ (o :: ps) hP hA hS (hJ.visit h1 ho hx9 hop) (by rw [hup]; exact i1) (fun _ => by rw [hup]; exact Or.inr rfl) (fun z hz => by rw [hup]; exact Or.inl hz) (fun w => by rw [hup]; exact i2 w)
  have fin : ∀ (ls : Array Slot) (H : Heap) (locs : List Loc) (g : y_G) (us : Int32) (sn : Nat → Nat) (np : Nat → Option Nat), y_P D vwCl g H → (∀ q99 e99, g q99 = some e99 → A q99) → va_S A s.heap H locs → c_J a g d ka sa cK cI fk fs ad cs ks itv us (wk + 1) sn np [] → z_I (a_root a) (a_ed a) a.n (c_sn a sn (wk + 1)) [] (fun _ => False) (fun _ _ => False) → us = nI (z_sum (a_wd a) (fun z => c_sn a sn (wk + 1) z ∧ z ∉ []) a.n) → W p l e rmW s m ([.ref d] : List Value).toArray below meth c H locs 0 0 QQ (F0 m 140 ls []) := by
    intro ls H locs g us sn np hP hA hS hJ hI hus
    have hsum : z_sum (a_wd a) (fun z => c_sn a sn (wk + 1) z ∧ z ∉ []) a.n = a_use a := z_congr (fun o _ _ => ⟨fun z => (hI.done o).mp z.1, fun z => ⟨(hI.done o).mpr z, List.not_mem_nil⟩⟩) (fun _ _ _ _ => rfl)
    rw [hsum] at hus
    subst hus
    rw [hQ]
    exact x_ret (W.vret hx hb hr (w_fin rfl hAe ⟨rfl, sn, np, hJ.1, hJ.2.1⟩ hP hA hS) hS.2.2 d_De_clearAway_140)
  have loopP : ∀ (f i : Nat) (ls : Array Slot) (H : Heap) (locs : List Loc) (g : y_G) (us : Int32) (sn : Nat → Nat) (np : Nat → Option Nat) (ps : List Nat), lv_has ls 4 [(1, .int (nI i)), (0, .ref d)] → y_P D vwCl g H → (∀ q99 e99, g q99 = some e99 → A q99) → va_S A s.heap H locs → c_J a g d ka sa cK cI fk fs ad cs ks itv us (wk + 1) sn np ps → z_I (a_root a) (a_ed a) a.n (c_sn a sn (wk + 1)) ps (fun _ => False) (fun _ _ => False) → us = nI (z_sum (a_wd a) (fun z => c_sn a sn (wk + 1) z ∧ z ∉ ps) a.n) → i = z_sum (fun _ => 1) (fun z => c_sn a sn (wk + 1) z ∧ z ∉ ps) a.n → a.n ≤ i + f → W p l e rmW s m ([.ref d] : List Value).toArray below meth c H locs 0 0 QQ (F0 m 63 ls []) := by
    intro f
    induction f with
    | zero =>
      intro i ls H locs g us sn np ps hl hP hA hS hJ hI hus hi hf
      have hroom := hI.room
      rw [← hi] at hroom
      refine lv_iload_n hx hb d_De_clearAway_63 rfl (lv_at hl 0 rfl) ?_
      refine lv_aload_n hx hb d_De_clearAway_64 rfl (lv_at hl 1 rfl) ?_
      refine y_get (D := D) (ci := 4) (v := .int (nI a.n)) (C := R_De) (T := F_De) (N := 11) hx hb hts in_De hown hK hP hJ.1.1.1 rfl 3 (by decide) (hts (.fieldLink R_De 85 "MemoryDesk" "made" "I") (by decide +kernel)) (fun _ h9 => h9) rfl d_De_clearAway_65 ?_
      refine lv_icmp_ge hx hb d_De_clearAway_68 rfl (fun h1 => ?_) (fun h1 => (absurd ((nI_leI (by omega) (by omega)).mpr (show a.n ≤ i by omega)) h1))
      have h9 : a.n ≤ i := (nI_leI (by omega) (by omega)).mp h1
      have hp0 : ps = [] := List.eq_nil_of_length_eq_zero (by omega)
      subst hp0
      exact fin ls H locs g us sn np hP hA hS hJ hI hus
    | succ f ih =>
      intro i ls H locs g us sn np ps hl hP hA hS hJ hI hus hi hf
      have hroom := hI.room
      rw [← hi] at hroom
      refine lv_iload_n hx hb d_De_clearAway_63 rfl (lv_at hl 0 rfl) ?_
      refine lv_aload_n hx hb d_De_clearAway_64 rfl (lv_at hl 1 rfl) ?_
      refine y_get (D := D) (ci := 4) (v := .int (nI a.n)) (C := R_De) (T := F_De) (N := 11) hx hb hts in_De hown hK hP hJ.1.1.1 rfl 3 (by decide) (hts (.fieldLink R_De 85 "MemoryDesk" "made" "I") (by decide +kernel)) (fun _ h9 => h9) rfl d_De_clearAway_65 ?_
      refine lv_icmp_ge hx hb d_De_clearAway_68 rfl (fun h2 => ?_) (fun h2 => ?_)
      · -- if_icmpge at 68: to 140
        have h9 : a.n ≤ i := (nI_leI (by omega) (by omega)).mp h2
        have hp0 : ps = [] := List.eq_nil_of_length_eq_zero (by omega)
        subst hp0
        exact fin ls H locs g us sn np hP hA hS hJ hI hus
      · -- if_icmpge at 68: to 71
        refine lv_aload_n hx hb d_De_clearAway_71 rfl (lv_at hl 1 rfl) ?_
        refine y_get (D := D) (ci := 4) (v := va_rf (ps.head?.map ad)) (C := R_De) (T := F_De) (N := 11) hx hb hts in_De hown hK hP hJ.1.1.1 rfl 10 (by decide) (hts (.fieldLink R_De 184 "MemoryDesk" "pending" "LMemoryDesk$Item;") (by decide +kernel)) (fun _ h9 => h9) rfl d_De_clearAway_72 ?_
        cases ps with
        | nil =>
          refine lv_ifnullN hx hb d_De_clearAway_75 rfl ?_
          exact fin ls H locs g us sn np hP hA hS hJ hI hus
        | cons o ps =>
          obtain ⟨k1, k2, k3, k4, k5⟩ := hI.pop
          obtain ⟨x, hx9, hg⟩ := hJ.1.2.2.2.1 o k3 k4
          have hod : ad o ≠ d := c_ne hg hJ.1.1.1 (fun z => by cases z)
          have hnpo : np o = ps.head?.map ad := (hJ.2.2 o List.mem_cons_self).trans (congrArg (Option.map ad) (if_pos rfl))
          have hnod : o ∉ ps := (List.nodup_cons.mp hI.1).1
          refine lv_ifnull hx hb d_De_clearAway_75 ?_
          refine lv_aload_n hx hb d_De_clearAway_78 rfl (lv_at hl 1 rfl) ?_
          refine y_get (D := D) (ci := 4) (v := .ref (ad o)) (C := R_De) (T := F_De) (N := 11) hx hb hts in_De hown hK hP hJ.1.1.1 rfl 10 (by decide) (hts (.fieldLink R_De 184 "MemoryDesk" "pending" "LMemoryDesk$Item;") (by decide +kernel)) (fun _ h9 => h9) rfl d_De_clearAway_79 ?_
          refine lv_astore_n hx hb d_De_clearAway_82 rfl hl (by decide) rfl (fun ls hl => ?_)
          have hl : lv_has ls 4 [(2, .ref (ad o)), (1, .int (nI i)), (0, .ref d)] := hl
          refine lv_aload_n hx hb d_De_clearAway_83 rfl (lv_at hl 2 rfl) ?_
          refine lv_aload_n hx hb d_De_clearAway_84 rfl (lv_at hl 0 rfl) ?_
          refine y_get (D := D) (ci := 1) (v := va_rf (np o)) (C := R_It) (T := F_It) (N := 9) hx hb hts in_It hown hK hP hg rfl 8 (by decide) (hts (.fieldLink R_De 187 "MemoryDesk$Item" "nextPending" "LMemoryDesk$Item;") (by decide +kernel)) (fun _ h9 => h9) rfl d_De_clearAway_85 ?_
          rw [hnpo]
          refine y_put (D := D) (ci := 4) (v := va_rf (ps.head?.map ad)) (ty := .object "MemoryDesk$Item") (C := R_De) (T := F_De) (N := 11) hx hb hts in_De t_De t_De_ok n_De hown hK hP hA hS hJ.1.1.1 rfl 10 (by decide) (hts (.fieldLink R_De 184 "MemoryDesk" "pending" "LMemoryDesk$Item;") (by decide +kernel)) (fun _ h9 => h9) rfl (by decide +kernel) (by rcases va_rf_or (ps.head?.map ad) with h | ⟨z, h⟩ <;> rw [h] <;> rfl) (by rcases va_rf_or (ps.head?.map ad) with h | ⟨z, h⟩ <;> rw [h] <;> rfl) (Nat.le_of_ble_eq_true rfl) d_De_clearAway_88 (fun H locs hP hA hS => ?_)
          have hP : y_P D vwCl (va_up g d (some (e_desk ka sa (nI a.mem) (nI a.n) (nI a.kc) (nI a.nn) itv (ks.head?.map ad) us (nI (wk + 1)) (ps.head?.map ad)))) H := hP
          have hA : ∀ q99 e99, (va_up g d (some (e_desk ka sa (nI a.mem) (nI a.n) (nI a.kc) (nI a.nn) itv (ks.head?.map ad) us (nI (wk + 1)) (ps.head?.map ad)))) q99 = some e99 → A q99 := hA
          have hg1 : va_up g d (some (e_desk ka sa (nI a.mem) (nI a.n) (nI a.kc) (nI a.nn) itv (ks.head?.map ad) us (nI (wk + 1)) (ps.head?.map ad))) (ad o) = some (c_it a ad cs ks x (nI (sn o)) (np o) o) := by rw [va_up_ne _ _ hod]; exact hg
          refine lv_aload_n hx hb d_De_clearAway_91 rfl (lv_at hl 0 rfl) ?_
          refine lv_null hx hb d_De_clearAway_92 ?_
          refine y_put (D := D) (ci := 1) (v := .null) (ty := .object "MemoryDesk$Item") (C := R_It) (T := F_It) (N := 9) hx hb hts in_It t_It t_It_ok n_It hown hK hP hA hS hg1 rfl 8 (by decide) (hts (.fieldLink R_De 187 "MemoryDesk$Item" "nextPending" "LMemoryDesk$Item;") (by decide +kernel)) (fun _ h9 => h9) rfl (by decide +kernel) rfl rfl (Nat.le_of_ble_eq_true rfl) d_De_clearAway_93 (fun H locs hP hA hS => ?_)
          have hP : y_P D vwCl (va_up (va_up g d (some (e_desk ka sa (nI a.mem) (nI a.n) (nI a.kc) (nI a.nn) itv (ks.head?.map ad) us (nI (wk + 1)) (ps.head?.map ad)))) (ad o) (some (c_it a ad cs ks x (nI (sn o)) none o))) H := hP
          have hA : ∀ q99 e99, (va_up (va_up g d (some (e_desk ka sa (nI a.mem) (nI a.n) (nI a.kc) (nI a.nn) itv (ks.head?.map ad) us (nI (wk + 1)) (ps.head?.map ad)))) (ad o) (some (c_it a ad cs ks x (nI (sn o)) none o))) q99 = some e99 → A q99 := hA
          have hd2 : va_up (va_up g d (some (e_desk ka sa (nI a.mem) (nI a.n) (nI a.kc) (nI a.nn) itv (ks.head?.map ad) us (nI (wk + 1)) (ps.head?.map ad)))) (ad o) (some (c_it a ad cs ks x (nI (sn o)) none o)) d = some (e_desk ka sa (nI a.mem) (nI a.n) (nI a.kc) (nI a.nn) itv (ks.head?.map ad) us (nI (wk + 1)) (ps.head?.map ad)) := by rw [va_up_ne _ _ (Ne.symm hod), va_up_self]
          have hg2 : va_up (va_up g d (some (e_desk ka sa (nI a.mem) (nI a.n) (nI a.kc) (nI a.nn) itv (ks.head?.map ad) us (nI (wk + 1)) (ps.head?.map ad)))) (ad o) (some (c_it a ad cs ks x (nI (sn o)) none o)) (ad o) = some (c_it a ad cs ks x (nI (sn o)) none o) := va_up_self _ _ _
          refine lv_aload_n hx hb d_De_clearAway_96 rfl (lv_at hl 2 rfl) ?_
          refine lv_dup hx hb d_De_clearAway_97 rfl ?_
          refine y_get (D := D) (ci := 4) (v := .int us) (C := R_De) (T := F_De) (N := 11) hx hb hts in_De hown hK hP hd2 rfl 8 (by decide) (hts (.fieldLink R_De 145 "MemoryDesk" "used" "I") (by decide +kernel)) (fun _ h9 => h9) rfl d_De_clearAway_98 ?_
          refine lv_aload_n hx hb d_De_clearAway_101 rfl (lv_at hl 0 rfl) ?_
          refine y_get (D := D) (ci := 1) (v := .int (nI (a_wd a o))) (C := R_It) (T := F_It) (N := 9) hx hb hts in_It hown hK hP hg2 rfl 2 (by decide) (hts (.fieldLink R_De 190 "MemoryDesk$Item" "words" "I") (by decide +kernel)) (fun _ h9 => h9) rfl d_De_clearAway_102 ?_
          refine lv_iadd hx hb d_De_clearAway_105 ?_
          refine lv_topi (fun us1 e_us1 => ?_)
          refine y_put (D := D) (ci := 4) (v := .int us1) (ty := .int) (C := R_De) (T := F_De) (N := 11) hx hb hts in_De t_De t_De_ok n_De hown hK hP hA hS hd2 rfl 8 (by decide) (hts (.fieldLink R_De 145 "MemoryDesk" "used" "I") (by decide +kernel)) (fun _ h9 => h9) rfl (by decide +kernel) rfl rfl (Nat.le_of_ble_eq_true rfl) d_De_clearAway_106 (fun H locs hP hA hS => ?_)
          rw [c_up3 hod] at hP hA
          have hP : y_P D vwCl (va_up (va_up g (ad o) (some (c_it a ad cs ks x (nI (sn o)) none o))) d (some (e_desk ka sa (nI a.mem) (nI a.n) (nI a.kc) (nI a.nn) itv (ks.head?.map ad) us1 (nI (wk + 1)) (ps.head?.map ad)))) H := hP
          have hA : ∀ q99 e99, (va_up (va_up g (ad o) (some (c_it a ad cs ks x (nI (sn o)) none o))) d (some (e_desk ka sa (nI a.mem) (nI a.n) (nI a.kc) (nI a.nn) itv (ks.head?.map ad) us1 (nI (wk + 1)) (ps.head?.map ad)))) q99 = some e99 → A q99 := hA
          have hJ1 : c_J a (va_up (va_up g (ad o) (some (c_it a ad cs ks x (nI (sn o)) none o))) d (some (e_desk ka sa (nI a.mem) (nI a.n) (nI a.kc) (nI a.nn) itv (ks.head?.map ad) us1 (nI (wk + 1)) (ps.head?.map ad)))) d ka sa cK cI fk fs ad cs ks itv us1 (wk + 1) sn (va_up np o none) ps := by
            refine ⟨?_, hJ.2.1, fun z hz => ?_⟩
            · have h9 := hJ.1.item (us' := us1) (wk' := wk + 1) (pe' := ps.head?.map ad) (s' := sn o) (nv := none) k3 k4 hx9
              rw [c_upS] at h9
              exact h9
            · have hzo : z ≠ o := fun w => hnod (by rw [← w]; exact hz)
              rw [va_up_ne _ _ hzo, hJ.2.2 z (List.mem_cons_of_mem _ hz), c_nx.skip hzo]
          have hg3 : va_up (va_up g (ad o) (some (c_it a ad cs ks x (nI (sn o)) none o))) d (some (e_desk ka sa (nI a.mem) (nI a.n) (nI a.kc) (nI a.nn) itv (ks.head?.map ad) us1 (nI (wk + 1)) (ps.head?.map ad))) (ad o) = some (c_it a ad cs ks x (nI (sn o)) none o) := by rw [va_up_ne _ _ hod, va_up_self]
          have hus1 : us1 = nI (z_sum (a_wd a) (fun z => c_sn a sn (wk + 1) z ∧ z ∉ ps) a.n) := by rw [k2 (a_wd a), ← nI_add, ← hus]; exact e_us1
          have hi1 : i + 1 = z_sum (fun _ => 1) (fun z => c_sn a sn (wk + 1) z ∧ z ∉ ps) a.n := by rw [k2 (fun _ => 1), ← hi]
          have hok := (hJ1.1.2.2.2.2.2.1 o k3 k4).2
          have hI1 : z_I (a_root a) (a_ed a) a.n (c_sn a sn (wk + 1)) ps (fun _ => False) (fun x9 b9 => x9 = o ∧ ∃ q, q ∈ cs o ∧ q.2.2.2 = some (ad b9) ∧ 1 ≤ b9 ∧ b9 ≤ a.n) := k1.mono (fun _ _ z => z.elim) (fun x9 b9 _ _ he z => z.elim (fun q => q.elim) (fun q => by subst q; obtain ⟨q, q1, q2⟩ := c_edc hw hcn hok he; exact Or.inr ⟨rfl, q, q1, q2, he.2.2.1, he.2.2.2.1⟩))
          have loopC : ∀ (L1 : List CL) (ls : Array Slot) (H : Heap) (locs : List Loc) (g : y_G) (sn1 : Nat → Nat) (np1 : Nat → Option Nat) (ps1 : List Nat), lv_has ls 4 [(3, va_rf (c_hd L1)), (2, .ref (ad o)), (1, .int (nI i)), (0, .ref d)] → (∃ pre, cs o = pre ++ L1) → y_P D vwCl g H → (∀ q99 e99, g q99 = some e99 → A q99) → va_S A s.heap H locs → c_J a g d ka sa cK cI fk fs ad cs ks itv us1 (wk + 1) sn1 np1 ps1 → z_I (a_root a) (a_ed a) a.n (c_sn a sn1 (wk + 1)) ps1 (fun _ => False) (fun x9 b9 => x9 = o ∧ ∃ q, q ∈ L1 ∧ q.2.2.2 = some (ad b9) ∧ 1 ≤ b9 ∧ b9 ≤ a.n) → (∀ w, z_sum w (fun z => c_sn a sn1 (wk + 1) z ∧ z ∉ ps1) a.n = z_sum w (fun z => c_sn a sn (wk + 1) z ∧ z ∉ ps) a.n) → W p l e rmW s m ([.ref d] : List Value).toArray below meth c H locs 0 0 QQ (F0 m 114 ls []) := by
            intro L1
            induction L1 with
            | nil =>
              intro ls H locs g sn1 np1 ps1 hl _ hP hA hS hJ hI hF
              have hl : lv_has ls 4 [(3, .null), (2, .ref (ad o)), (1, .int (nI i)), (0, .ref d)] := hl
              refine lv_aload_nN hx hb d_De_clearAway_114 rfl (lv_at hl 0 rfl) ?_
              refine lv_ifnullN hx hb d_De_clearAway_115 rfl ?_
              refine lv_iinc (k := 2) (v := ((nI i) + 1)) hx hb d_De_clearAway_134 hl rfl rfl (by decide) rfl (fun ls hl => ?_)
              have hl : lv_has ls 4 [(1, .int ((nI i) + 1)), (3, .null), (2, .ref (ad o)), (0, .ref d)] := hl
              refine lv_goto hx hb d_De_clearAway_137 rfl ?_
              have hl : lv_has ls 4 [(1, .int (nI (i + 1))), (0, .ref d)] := by rw [← nI_1 i]; exact lv_sub hl [0, 3] rfl
              exact ih (i + 1) ls H locs g us1 sn1 np1 ps1 hl hP hA hS hJ (hI.mono (fun _ _ z => z.elim) (fun _ _ _ _ _ z => by obtain ⟨-, q, z, -⟩ := z; exact absurd z List.not_mem_nil)) (by rw [hF]; exact hus1) (by rw [hF]; exact hi1) (by omega)
            | cons q L1 ihL =>
              obtain ⟨y, k9, v9, nm9⟩ := q
              intro ls H locs g sn1 np1 ps1 hl hsuf hP hA hS hJ hI hF
              obtain ⟨pre, hpre⟩ := hsuf
              have hch := (hJ.1.2.2.2.2.2.1 o k3 k4).1
              rw [hpre] at hch
              have hy : g y = some (e_cell k9 (c_hd L1) v9 nm9) := (c_ch.suffix hch).1
              have hmem : (y, k9, v9, nm9) ∈ cs o := by rw [hpre]; exact List.mem_append_right _ List.mem_cons_self
              obtain ⟨b, hb1, hb2, hb3⟩ : ∃ b, b ≤ a.n ∧ nm9 = c_ob ad b ∧ (b ≠ 0 → a_R a b) := by
                cases nm9 with
                | none => exact ⟨0, Nat.zero_le _, rfl, fun z => absurd rfl z⟩
                | some y9 =>
                  obtain ⟨b, b1, b2, b3, b4⟩ := c_eds k3 k4 hok hmem (y := y9) rfl
                  exact ⟨b, b2, by rw [b3]; exact (if_neg (by omega)).symm, fun _ => z_R.step k5 b4⟩
              have hl : lv_has ls 4 [(3, .ref y), (2, .ref (ad o)), (1, .int (nI i)), (0, .ref d)] := hl
              refine lv_aload_n hx hb d_De_clearAway_114 rfl (lv_at hl 0 rfl) ?_
              refine lv_ifnull hx hb d_De_clearAway_115 ?_
              refine lv_aload_n hx hb d_De_clearAway_118 rfl (lv_at hl 3 rfl) ?_
              refine lv_aload_n hx hb d_De_clearAway_119 rfl (lv_at hl 0 rfl) ?_
              refine y_get (D := D) (ci := 0) (v := va_rf nm9) (C := R_Ce) (T := F_Ce) (N := 4) hx hb hts in_Ce hown hK hP hy rfl 3 (by decide) (hts (.fieldLink R_De 113 "MemoryDesk$Cell" "named" "LMemoryDesk$Item;") (by decide +kernel)) (fun _ h9 => h9) rfl d_De_clearAway_120 ?_
              refine visit 123 ls H locs g us1 sn1 np1 ps1 b nm9 _ _ d_De_clearAway_123 hl.1 hP hA hS hJ hI hb1 hb2 hb3 (fun H locs g sn2 np2 ps2 hP hA hS hJ hI hb4 hsub hF2 => ?_)
              have hch := (hJ.1.2.2.2.2.2.1 o k3 k4).1
              rw [hpre] at hch
              have hy : g y = some (e_cell k9 (c_hd L1) v9 nm9) := (c_ch.suffix hch).1
              refine lv_aload_n hx hb d_De_clearAway_126 rfl (lv_at hl 0 rfl) ?_
              refine y_get (D := D) (ci := 0) (v := va_rf (c_hd L1)) (C := R_Ce) (T := F_Ce) (N := 4) hx hb hts in_Ce hown hK hP hy rfl 1 (by decide) (hts (.fieldLink R_De 197 "MemoryDesk$Cell" "next" "LMemoryDesk$Cell;") (by decide +kernel)) (fun _ h9 => h9) rfl d_De_clearAway_127 ?_
              have hI3 : z_I (a_root a) (a_ed a) a.n (c_sn a sn2 (wk + 1)) ps2 (fun _ => False) (fun x9 b9 => x9 = o ∧ ∃ q, q ∈ L1 ∧ q.2.2.2 = some (ad b9) ∧ 1 ≤ b9 ∧ b9 ≤ a.n) := hI.mono (fun _ _ z => z.elim) (fun x9 b9 _ _ _ z => by
                obtain ⟨z1, q, z2, z3, z4, z5⟩ := z
                rcases List.mem_cons.mp z2 with e9 | e9
                · rw [e9] at z3
                  have z6 : nm9 = some (ad b9) := z3
                  have hb0 : b ≠ 0 := fun w => by rw [hb2, w] at z6; exact nomatch z6
                  have z7 : c_ob ad b = some (ad b) := if_neg hb0
                  rw [hb2, z7] at z6
                  have z8 : b = b9 := hJ.1.2.2.2.2.1 b b9 (by omega) hb1 z4 z5 (Option.some.inj z6)
                  exact Or.inl (by rw [← z8]; exact hb4 hb0)
                · exact Or.inr ⟨z1, q, e9, z3, z4, z5⟩)
              cases L1 with
              | nil =>
                refine lv_astore_nN hx hb d_De_clearAway_130 rfl hl (by decide) rfl (fun ls hl => ?_)
                have hl : lv_has ls 4 [(3, .null), (2, .ref (ad o)), (1, .int (nI i)), (0, .ref d)] := hl
                refine lv_goto hx hb d_De_clearAway_131 rfl ?_
                exact ihL ls H locs g sn2 np2 ps2 hl ⟨pre ++ [(y, k9, v9, nm9)], by rw [hpre, List.append_assoc]; rfl⟩ hP hA hS hJ hI3 (fun w => (hF2 w).trans (hF w))
              | cons q2 r2 =>
                refine lv_astore_n hx hb d_De_clearAway_130 rfl hl (by decide) rfl (fun ls hl => ?_)
                have hl : lv_has ls 4 [(3, .ref q2.1), (2, .ref (ad o)), (1, .int (nI i)), (0, .ref d)] := hl
                refine lv_goto hx hb d_De_clearAway_131 rfl ?_
                exact ihL ls H locs g sn2 np2 ps2 hl ⟨pre ++ [(y, k9, v9, nm9)], by rw [hpre, List.append_assoc]; rfl⟩ hP hA hS hJ hI3 (fun w => (hF2 w).trans (hF w))
          refine lv_aload_n hx hb d_De_clearAway_109 rfl (lv_at hl 0 rfl) ?_
          refine y_get (D := D) (ci := 1) (v := va_rf (c_hd (cs o))) (C := R_It) (T := F_It) (N := 9) hx hb hts in_It hown hK hP hg3 rfl 3 (by decide) (hts (.fieldLink R_De 193 "MemoryDesk$Item" "cells" "LMemoryDesk$Cell;") (by decide +kernel)) (fun _ h9 => h9) rfl d_De_clearAway_110 ?_
          cases hcs : cs o with
          | nil =>
            refine lv_astore_nN hx hb d_De_clearAway_113 rfl hl (by decide) rfl (fun ls hl => ?_)
            have hl : lv_has ls 4 [(3, .null), (2, .ref (ad o)), (1, .int (nI i)), (0, .ref d)] := hl
            have hl : lv_has ls 4 [(3, .null), (2, .ref (ad o)), (1, .int (nI i)), (0, .ref d)] := lv_sub hl [0, 1, 2, 3] rfl
            exact loopC [] ls H locs _ sn (va_up np o none) ps hl ⟨[], hcs⟩ hP hA hS hJ1 (by rw [← hcs]; exact hI1) (fun _ => rfl)
          | cons q2 r2 =>
            refine lv_astore_n hx hb d_De_clearAway_113 rfl hl (by decide) rfl (fun ls hl => ?_)
            have hl : lv_has ls 4 [(3, .ref q2.1), (2, .ref (ad o)), (1, .int (nI i)), (0, .ref d)] := hl
            have hl : lv_has ls 4 [(3, .ref q2.1), (2, .ref (ad o)), (1, .int (nI i)), (0, .ref d)] := lv_sub hl [0, 1, 2, 3] rfl
            exact loopC (q2 :: r2) ls H locs _ sn (va_up np o none) ps hl ⟨[], hcs⟩ hP hA hS hJ1 (by rw [← hcs]; exact hI1) (fun _ => rfl)
  have loopK : ∀ (K1 : List Nat) (ls : Array Slot) (H : Heap) (locs : List Loc) (g : y_G) (sn : Nat → Nat) (np : Nat → Option Nat) (ps : List Nat), lv_has ls 4 [(1, va_rf (K1.head?.map ad)), (0, .ref d)] → (∃ pre, ks = pre ++ K1) → y_P D vwCl g H → (∀ q99 e99, g q99 = some e99 → A q99) → va_S A s.heap H locs → c_J a g d ka sa cK cI fk fs ad cs ks itv us (wk + 1) sn np ps → z_I (a_root a) (a_ed a) a.n (c_sn a sn (wk + 1)) ps (fun r => r ∈ K1) (fun _ _ => False) → (∀ w, z_sum w (fun z => c_sn a sn (wk + 1) z ∧ z ∉ ps) a.n = 0) → W p l e rmW s m ([.ref d] : List Value).toArray below meth c H locs 0 0 QQ (F0 m 39 ls []) := by
    intro K1
    induction K1 with
    | nil =>
      intro ls H locs g sn np ps hl _ hP hA hS hJ hI hF
      have hl : lv_has ls 4 [(1, .null), (0, .ref d)] := hl
      refine lv_aload_nN hx hb d_De_clearAway_39 rfl (lv_at hl 0 rfl) ?_
      refine lv_ifnullN hx hb d_De_clearAway_40 rfl ?_
      refine lv_aload_n hx hb d_De_clearAway_56 rfl (lv_at hl 1 rfl) ?_
      refine lv_iconst (v := 0) hx hb d_De_clearAway_57 (by decide) ?_
      refine y_put (D := D) (ci := 4) (v := .int 0) (ty := .int) (C := R_De) (T := F_De) (N := 11) hx hb hts in_De t_De t_De_ok n_De hown hK hP hA hS hJ.1.1.1 rfl 8 (by decide) (hts (.fieldLink R_De 145 "MemoryDesk" "used" "I") (by decide +kernel)) (fun _ h9 => h9) rfl (by decide +kernel) rfl rfl (Nat.le_of_ble_eq_true rfl) d_De_clearAway_58 (fun H locs hP hA hS => ?_)
      have hP : y_P D vwCl (va_up g d (some (e_desk ka sa (nI a.mem) (nI a.n) (nI a.kc) (nI a.nn) itv (ks.head?.map ad) 0 (nI (wk + 1)) (ps.head?.map ad)))) H := hP
      have hA : ∀ q99 e99, (va_up g d (some (e_desk ka sa (nI a.mem) (nI a.n) (nI a.kc) (nI a.nn) itv (ks.head?.map ad) 0 (nI (wk + 1)) (ps.head?.map ad)))) q99 = some e99 → A q99 := hA
      refine lv_iconst (v := 0) hx hb d_De_clearAway_61 (by decide) ?_
      refine lv_istore_n hx hb d_De_clearAway_62 rfl hl (by decide) rfl (fun ls hl => ?_)
      have hl : lv_has ls 4 [(1, .int 0), (0, .ref d)] := hl
      have hl : lv_has ls 4 [(1, .int 0), (0, .ref d)] := lv_sub hl [0, 1] rfl
      have hJ1 : c_J a (va_up g d (some (e_desk ka sa (nI a.mem) (nI a.n) (nI a.kc) (nI a.nn) itv (ks.head?.map ad) 0 (nI (wk + 1)) (ps.head?.map ad)))) d ka sa cK cI fk fs ad cs ks itv 0 (wk + 1) sn np ps := ⟨hJ.1.desk, hJ.2⟩
      exact loopP a.n 0 ls H locs _ 0 sn np ps hl hP hA hS hJ1 (hI.mono (fun r _ z => absurd z List.not_mem_nil) (fun _ _ _ _ _ z => z.elim)) (by rw [hF]; rfl) (hF _).symm (by omega)
    | cons o K1 ihK =>
      intro ls H locs g sn np ps hl hsuf hP hA hS hJ hI hF
      obtain ⟨pre, hpre⟩ := hsuf
      have hko : a.kp o := (hC.2.2.2.2.2.2.2.2 o).mpr (by rw [hpre]; exact List.mem_append_right _ List.mem_cons_self)
      obtain ⟨k3, k4⟩ := hw.2.2.2.1 o hko
      have hl : lv_has ls 4 [(1, .ref (ad o)), (0, .ref d)] := hl
      refine lv_aload_n hx hb d_De_clearAway_39 rfl (lv_at hl 0 rfl) ?_
      refine lv_ifnull hx hb d_De_clearAway_40 ?_
      refine lv_aload_n hx hb d_De_clearAway_43 rfl (lv_at hl 1 rfl) ?_
      refine lv_aload_n hx hb d_De_clearAway_44 rfl (lv_at hl 0 rfl) ?_
      refine visit 45 ls H locs g us sn np ps o (some (ad o)) _ _ d_De_clearAway_45 hl.1 hP hA hS hJ hI k4 (if_neg (by omega)).symm (fun _ => z_R.root (Or.inr hko)) (fun H locs g sn1 np1 ps1 hP hA hS hJ hI hb4 hsub hF1 => ?_)
      obtain ⟨x, hx9, hg⟩ := hJ.1.2.2.2.1 o k3 k4
      have hnk : (c_nx ks o).map ad = K1.head?.map ad := by have h9 := hC.2.2.2.2.2.2.2.1; rw [hpre] at h9 ⊢; rw [c_nx.mid h9]
      refine lv_aload_n hx hb d_De_clearAway_48 rfl (lv_at hl 0 rfl) ?_
      refine y_get (D := D) (ci := 1) (v := va_rf ((c_nx ks o).map ad)) (C := R_It) (T := F_It) (N := 9) hx hb hts in_It hown hK hP hg rfl 6 (by decide) (hts (.fieldLink R_De 128 "MemoryDesk$Item" "nextKept" "LMemoryDesk$Item;") (by decide +kernel)) (fun _ h9 => h9) rfl d_De_clearAway_49 ?_
      rw [hnk]
      have hI3 : z_I (a_root a) (a_ed a) a.n (c_sn a sn1 (wk + 1)) ps1 (fun r => r ∈ K1) (fun _ _ => False) := hI.mono (fun r _ z => (List.mem_cons.mp z).elim (fun e9 => Or.inl (by rw [e9]; exact hb4 (by omega))) Or.inr) (fun _ _ _ _ _ z => z.elim)
      cases K1 with
      | nil =>
        refine lv_astore_nN hx hb d_De_clearAway_52 rfl hl (by decide) rfl (fun ls hl => ?_)
        have hl : lv_has ls 4 [(1, .null), (0, .ref d)] := hl
        refine lv_goto hx hb d_De_clearAway_53 rfl ?_
        exact ihK ls H locs g sn1 np1 ps1 hl ⟨pre ++ [o], by rw [hpre, List.append_assoc]; rfl⟩ hP hA hS hJ hI3 (fun w => (hF1 w).trans (hF w))
      | cons o2 r2 =>
        refine lv_astore_n hx hb d_De_clearAway_52 rfl hl (by decide) rfl (fun ls hl => ?_)
        have hl : lv_has ls 4 [(1, .ref (ad o2)), (0, .ref d)] := hl
        refine lv_goto hx hb d_De_clearAway_53 rfl ?_
        exact ihK ls H locs g sn1 np1 ps1 hl ⟨pre ++ [o], by rw [hpre, List.append_assoc]; rfl⟩ hP hA hS hJ hI3 (fun w => (hF1 w).trans (hF w))
  have loopS : ∀ (f i : Nat) (ls : Array Slot) (H : Heap) (locs : List Loc) (g : y_G) (sn : Nat → Nat) (np : Nat → Option Nat) (ps : List Nat), i + f = 32 → lv_has ls 4 [(1, .int (nI i)), (0, .ref d)] → y_P D vwCl g H → (∀ q99 e99, g q99 = some e99 → A q99) → va_S A s.heap H locs → c_J a g d ka sa cK cI fk fs ad cs ks itv us (wk + 1) sn np ps → z_I (a_root a) (a_ed a) a.n (c_sn a sn (wk + 1)) ps (fun r => (∃ z, i ≤ z ∧ z < 32 ∧ a.sl z = r ∧ r ≠ 0) ∨ r ∈ ks) (fun _ _ => False) → (∀ w, z_sum w (fun z => c_sn a sn (wk + 1) z ∧ z ∉ ps) a.n = 0) → W p l e rmW s m ([.ref d] : List Value).toArray below meth c H locs 0 0 QQ (F0 m 12 ls []) := by
    intro f
    induction f with
    | zero =>
      intro i ls H locs g sn np ps hif hl hP hA hS hJ hI hF
      refine lv_iload_n hx hb d_De_clearAway_12 rfl (lv_at hl 0 rfl) ?_
      refine lv_bipush (v := 32) hx hb d_De_clearAway_13 (by decide) ?_
      refine lv_icmp_ge hx hb d_De_clearAway_15 rfl (fun h3 => ?_) (fun h3 => (absurd (show (32 : Int32) ≤ nI i from nI_le (a := 32) (b := i) (by omega) (by omega)) h3))
      refine lv_aload_n hx hb d_De_clearAway_34 rfl (lv_at hl 1 rfl) ?_
      refine y_get (D := D) (ci := 4) (v := va_rf (ks.head?.map ad)) (C := R_De) (T := F_De) (N := 11) hx hb hts in_De hown hK hP hJ.1.1.1 rfl 7 (by decide) (hts (.fieldLink R_De 125 "MemoryDesk" "firstKept" "LMemoryDesk$Item;") (by decide +kernel)) (fun _ h9 => h9) rfl d_De_clearAway_35 ?_
      have hI3 : z_I (a_root a) (a_ed a) a.n (c_sn a sn (wk + 1)) ps (fun r => r ∈ ks) (fun _ _ => False) := hI.mono (fun r _ z => z.elim (fun q => by obtain ⟨z, z1, z2, -⟩ := q; omega) Or.inr) (fun _ _ _ _ _ z => z.elim)
      cases hks : ks with
      | nil =>
        refine lv_astore_nN hx hb d_De_clearAway_38 rfl hl (by decide) rfl (fun ls hl => ?_)
        have hl : lv_has ls 4 [(1, .null), (0, .ref d)] := hl
        exact loopK [] ls H locs g sn np ps hl ⟨[], hks⟩ hP hA hS hJ (by rw [← hks]; exact hI3) hF
      | cons o2 r2 =>
        refine lv_astore_n hx hb d_De_clearAway_38 rfl hl (by decide) rfl (fun ls hl => ?_)
        have hl : lv_has ls 4 [(1, .ref (ad o2)), (0, .ref d)] := hl
        exact loopK (o2 :: r2) ls H locs g sn np ps hl ⟨[], hks⟩ hP hA hS hJ (by rw [← hks]; exact hI3) hF
    | succ f ih =>
      intro i ls H locs g sn np ps hif hl hP hA hS hJ hI hF
      refine lv_iload_n hx hb d_De_clearAway_12 rfl (lv_at hl 0 rfl) ?_
      refine lv_bipush (v := 32) hx hb d_De_clearAway_13 (by decide) ?_
      refine lv_icmp_ge hx hb d_De_clearAway_15 rfl (fun h4 => (absurd h4 (nI_ge (a := i) (b := 32) (by omega) (by decide)))) (fun h4 => ?_)
      have hi32 : i < 32 := by omega
      refine lv_aload_n hx hb d_De_clearAway_18 rfl (lv_at hl 1 rfl) ?_
      refine lv_aload_n hx hb d_De_clearAway_19 rfl (lv_at hl 1 rfl) ?_
      refine y_get (D := D) (ci := 4) (v := .ref sa) (C := R_De) (T := F_De) (N := 11) hx hb hts in_De hown hK hP hJ.1.1.1 rfl 1 (by decide) (hts (.fieldLink R_De 17 "MemoryDesk" "slots" "[LMemoryDesk$Item;") (by decide +kernel)) (fun _ h9 => h9) rfl d_De_clearAway_20 ?_
      refine lv_iload_n hx hb d_De_clearAway_23 rfl (lv_at hl 0 rfl) ?_
      refine y_aldq hx hb hK hP 1 hJ.1.1.2.2 rfl (vp_in_nI hi32 (by decide)) d_De_clearAway_24 ?_
      refine visit 25 ls H locs g us sn np ps (a.sl i) (fs (nI i).toNatClampNeg) _ _ d_De_clearAway_25 hl.1 hP hA hS hJ hI (hw.2.2.1 i hi32) (by rw [nI_clamp (by omega)]; exact hJ.1.2.2.1 i hi32) (fun z => z_R.root (Or.inl ⟨i, hi32, rfl, z⟩)) (fun H locs g sn1 np1 ps1 hP hA hS hJ hI hb4 hsub hF1 => ?_)
      refine lv_iinc (k := 0) (v := ((nI i) + 1)) hx hb d_De_clearAway_28 hl rfl rfl (by decide) rfl (fun ls hl => ?_)
      have hl : lv_has ls 4 [(1, .int ((nI i) + 1)), (0, .ref d)] := hl
      refine lv_goto hx hb d_De_clearAway_31 rfl ?_
      have hl : lv_has ls 4 [(1, .int (nI (i + 1))), (0, .ref d)] := by rw [← nI_1 i]; exact hl
      refine ih (i + 1) ls H locs g sn1 np1 ps1 (by omega) hl hP hA hS hJ (hI.mono (fun r _ z => z.elim (fun q => ?_) (fun q => Or.inr (Or.inr q))) (fun _ _ _ _ _ z => z.elim)) (fun w => (hF1 w).trans (hF w))
      obtain ⟨z, z1, z2, z3, z4⟩ := q
      by_cases hz : z = i
      · subst hz; exact Or.inl (by rw [← z3]; exact hb4 (by rw [z3]; exact z4))
      · exact Or.inr (Or.inl ⟨z, by omega, z2, z3, z4⟩)
  refine lv_aload_n hx hb d_De_clearAway_0 rfl (lv_at hl 0 rfl) ?_
  refine lv_dup hx hb d_De_clearAway_1 rfl ?_
  refine y_get (D := D) (ci := 4) (v := .int (nI wk)) (C := R_De) (T := F_De) (N := 11) hx hb hts in_De hown hK hP hC.1.1 rfl 9 (by decide) (hts (.fieldLink R_De 177 "MemoryDesk" "walk" "I") (by decide +kernel)) (fun _ h9 => h9) rfl d_De_clearAway_2 ?_
  refine lv_iconst (v := 1) hx hb d_De_clearAway_5 (by decide) ?_
  refine lv_iadd hx hb d_De_clearAway_6 ?_
  rw [nI_1 wk]
  refine y_put (D := D) (ci := 4) (v := .int (nI (wk + 1))) (ty := .int) (C := R_De) (T := F_De) (N := 11) hx hb hts in_De t_De t_De_ok n_De hown hK hP hA hS hC.1.1 rfl 9 (by decide) (hts (.fieldLink R_De 177 "MemoryDesk" "walk" "I") (by decide +kernel)) (fun _ h9 => h9) rfl (by decide +kernel) rfl rfl (Nat.le_of_ble_eq_true rfl) d_De_clearAway_7 (fun H locs hP hA hS => ?_)
  have hP : y_P D vwCl (va_up g d (some (e_desk ka sa (nI a.mem) (nI a.n) (nI a.kc) (nI a.nn) itv (ks.head?.map ad) us (nI (wk + 1)) none))) H := hP
  have hA : ∀ q99 e99, (va_up g d (some (e_desk ka sa (nI a.mem) (nI a.n) (nI a.kc) (nI a.nn) itv (ks.head?.map ad) us (nI (wk + 1)) none))) q99 = some e99 → A q99 := hA
  have hJ0 : c_J a (va_up g d (some (e_desk ka sa (nI a.mem) (nI a.n) (nI a.kc) (nI a.nn) itv (ks.head?.map ad) us (nI (wk + 1)) none))) d ka sa cK cI fk fs ad cs ks itv us (wk + 1) sn np [] := ⟨hC.desk, fun o z1 z2 => Nat.le_succ_of_le (hsn o z1 z2), fun o z => absurd z List.not_mem_nil⟩
  have hno9 : ∀ o, ¬ c_sn a sn (wk + 1) o := fun o z => by have := hsn o z.1 z.2.1; have := z.2.2; omega
  have hI0 : z_I (a_root a) (a_ed a) a.n (c_sn a sn (wk + 1)) [] (fun r => (∃ z, 0 ≤ z ∧ z < 32 ∧ a.sl z = r ∧ r ≠ 0) ∨ r ∈ ks) (fun _ _ => False) := (z_I.start hno9).mono (fun r _ z => Or.inr (z.elim (fun q => by obtain ⟨z, z1, z2⟩ := q; exact Or.inl ⟨z, Nat.zero_le _, z1, z2⟩) (fun q => Or.inr ((hC.2.2.2.2.2.2.2.2 r).mp q)))) (fun _ _ _ _ _ z => z.elim)
  refine lv_iconst (v := 0) hx hb d_De_clearAway_10 (by decide) ?_
  refine lv_istore_n hx hb d_De_clearAway_11 rfl hl (by decide) rfl (fun ls hl => ?_)
  have hl : lv_has ls 4 [(1, .int 0), (0, .ref d)] := hl
  exact loopS 32 0 ls H locs _ sn np [] rfl hl hP hA hS hJ0 hI0 (fun w => z_none (fun o _ _ z => hno9 o z.1))
end
section
/-! What each call answers and leaves: (code, answer, the memory behind it). Both sides are held against it. -/
section SSpec
noncomputable def q_if {α : Type} (X : Prop) (x y : α) : α := @ite α X (Classical.propDecidable X) x y
theorem q_y {α : Type} {X : Prop} {x y : α} (h : X) : q_if X x y = x := @if_pos _ (Classical.propDecidable X) h _ _ _
theorem q_n {α : Type} {X : Prop} {x y : α} (h : ¬ X) : q_if X x y = y := @if_neg _ (Classical.propDecidable X) h _ _ _
abbrev An : Type := Nat × Option Value × Ab
noncomputable abbrev q_bit (X : Prop) : Option Value := some (.int (c_bit X))
abbrev j_n (x : Int32) : Nat := x.toNatClampNeg
def a_putc (a : Ab) (o : Nat) (k : Int32) (v : Int64) : Ab := (a.kd, a.n, a.ok, a.sz, a.nu, a.nn, a.mem, va_up a.ct o (fun z => if z = k then v else a.ct o z), a.sl, a.kp, a.kc)
def a_puts (a : Ab) (s o : Nat) : Ab := (a.kd, a.n, a.ok, a.sz, a.nu, a.nn, a.mem, a.ct, va_up a.sl s o, a.kp, a.kc)
def a_kind (a : Ab) (k : Nat) (q : Int32 × Int32 × Int32) : Ab := (va_up a.kd k (some q), a.n, a.ok, a.sz, a.nu, a.nn, a.mem, a.ct, a.sl, a.kp, a.kc)
def a_new (a : Ab) (s k : Nat) (n : Int32) : Ab := (a.kd, a.n + 1, va_up a.ok (a.n + 1) k, va_up a.sz (a.n + 1) n, a.nu, a.nn, a.mem, a.ct, va_up a.sl s (a.n + 1), a.kp, a.kc)
def a_keep (a : Ab) (o : Nat) : Ab := (a.kd, a.n, a.ok, a.sz, a.nu, a.nn, a.mem, a.ct, a.sl, (fun z => a.kp z ∨ z = o), a.kc + 1)
def a_numb (a : Ab) (o : Nat) : Ab := (a.kd, a.n, a.ok, a.sz, va_up a.nu o (a.nn + 1), a.nn + 1, a.mem, a.ct, a.sl, a.kp, a.kc)
def a_memo (a : Ab) (m : Nat) : Ab := (a.kd, a.n, a.ok, a.sz, a.nu, a.nn, m, a.ct, a.sl, a.kp, a.kc)
def a_cut (a : Ab) (o : Nat) (v : Int64) : Int64 := if a_row a o = 1 then v.toInt32.toInt8.toInt32.toInt64 else if a_row a o = 2 then (v.toInt32.toUInt32 % 65536).toInt32.toInt64 else if a_row a o = 4 then v else v.toInt32.toInt64
noncomputable def s_plain (a : Ab) (k w mk : Int32) : An := q_if (b_in k 16 ∧ b_in w 17 ∧ (mk.toUInt32 >>> (w.toUInt32 &&& Int32.toUInt32 31)).toInt32 = 0 ∧ a.kd (j_n k) = none) (0, none, a_kind a (j_n k) (-1, w, mk)) (1, none, a)
noncomputable def s_row (a : Ab) (k el : Int32) : An := q_if (b_in k 16 ∧ b_in el 5 ∧ a.kd (j_n k) = none) (0, none, a_kind a (j_n k) (el, 0, 0)) (1, none, a)
/-- how many words a new object takes -/
def a_more (q : Int32 × Int32 × Int32) (n : Int32) : Nat := a_tk q.1 (j_n (if q.1 < 0 then q.2.1 else n))
noncomputable def s_make2 (a : Ab) (s k n : Int32) (q : Int32 × Int32 × Int32) : An := q_if (a_use a + a_more q n ≤ a.mem) (0, some (.int (nI (a.n + 1))), a_new a (j_n s) (j_n k) n) (3, none, a)
noncomputable def s_make (a : Ab) (s k n : Int32) : An := q_if (b_in s 32 ∧ b_in k 16 ∧ ∀ q, a.kd (j_n k) = some q → ¬ q.1 < 0 → ¬ n < 0) (match a.kd (j_n k) with | none => (2, none, a) | some q => s_make2 a s k n q) (1, none, a)
noncomputable def s_copy (a : Ab) (s t : Int32) : An := q_if (b_in s 32 ∧ b_in t 32) (0, q_bit (a.sl (j_n t) ≠ 0), a_puts a (j_n s) (a.sl (j_n t))) (1, none, a)
noncomputable def s_drop (a : Ab) (s : Int32) : An := q_if (b_in s 32) (0, q_bit (a.sl (j_n s) ≠ 0), a_puts a (j_n s) 0) (1, none, a)
noncomputable def s_same (a : Ab) (s t : Int32) : An := q_if (b_in s 32 ∧ b_in t 32) (0, q_bit (a.sl (j_n s) = a.sl (j_n t)), a) (1, none, a)
/-- the object in slot s, with place k; rf: is a reference asked for? -/
noncomputable def s_pl (a : Ab) (s k : Int32) (rf : Prop) (f : Nat → An) : An := q_if (b_in s 32) (q_if (a.sl (j_n s) = 0) (2, none, a) (q_if (b_in k (a_len a (a.sl (j_n s)))) (q_if (a_ref a (a.sl (j_n s)) k ↔ rf) (f (a.sl (j_n s))) (4, none, a)) (3, none, a))) (1, none, a)
noncomputable def s_get (a : Ab) (s k : Int32) : An := s_pl a s k False (fun o => (0, some (.long (a.ct o k)), a))
noncomputable def s_put (a : Ab) (s k : Int32) (v : Int64) : An := s_pl a s k False (fun o => (0, none, a_putc a o k (a_cut a o v)))
noncomputable def s_link (a : Ab) (s k t : Int32) : An := q_if (b_in t 32) (s_pl a s k True (fun o => (0, q_bit (a.ct o k ≠ 0), a_putc a o k (lN (a.sl (j_n t)))))) (1, none, a)
noncomputable def s_follow (a : Ab) (s k t : Int32) : An := q_if (b_in t 32) (s_pl a s k True (fun o => (0, q_bit (a.ct o k ≠ 0), a_puts a (j_n t) (a.ct o k).toInt.toNat))) (1, none, a)
/-- the object in slot s -/
noncomputable def s_in (a : Ab) (s : Int32) (f : Nat → An) : An := q_if (b_in s 32) (q_if (a.sl (j_n s) = 0) (2, none, a) (f (a.sl (j_n s)))) (1, none, a)
noncomputable def s_keep (a : Ab) (s : Int32) : An := s_in a s (fun o => (0, some (.int (nI (a.kc + 1))), a_keep a o))
noncomputable def s_number (a : Ab) (s : Int32) : An := s_in a s (fun o => if a.nu o = 0 then (0, some (.int (nI (a.nn + 1))), a_numb a o) else (0, some (.int (nI (a.nu o))), a))
noncomputable def s_size (a : Ab) (s : Int32) : An := s_in a s (fun o => (0, some (.int (a_len a o)), a))
noncomputable def s_memory (a : Ab) (w : Int32) : An := q_if (¬ w < 16 ∧ w ≤ 65536) (q_if (a_use a ≤ j_n w) (0, q_bit True, a_memo a (j_n w)) (0, q_bit False, a)) (1, none, a)
noncomputable def s_every (a : Ab) (n : Int32) : An := q_if (¬ n < 0) (0, none, a) (1, none, a)
noncomputable def s_collect (a : Ab) : An := (0, some (.int (nI (a_use a))), a)
/-- how the class answers: what it returned, or the class of what it threw -/
def x_out (Es : List String) (s : An) (r : Option Value ⊕ String) : Prop := match s.1 with
  | 0 => r = .inl s.2.1
  | i + 1 => ∃ E, Es[i]? = some E ∧ r = .inr E
theorem b_in.j {x : Int32} {n : Nat} (h : b_in x (nI n)) (hn : n < 2 ^ 31) : j_n x < n ∧ x = nI (j_n x) := by
  obtain ⟨j, hj, rfl⟩ := nI_of h.1
  have := (nI_ltI hj hn).mp h.2
  rw [show j_n (nI j) = j from nI_clamp hj]
  exact ⟨this, rfl⟩
theorem b_in.j32 {x : Int32} (h : b_in x 32) : j_n x < 32 := (b_in.j (n := 32) h (by decide)).1
theorem b_in.j16 {x : Int32} (h : b_in x 16) : j_n x < 16 := (b_in.j (n := 16) h (by decide)).1
/-- what can be come to behind a change, if no way is new -/
theorem a_R.sub {a a' : Ab} {P : Nat → Prop} (h1 : ∀ r, a_root a' r → P r) (h2 : ∀ x b, P x → a_ed a' x b → P b) {o : Nat} (h : a_R a' o) : P o := h P h1 h2
theorem a_R.sl {a : Ab} {s : Nat} (hs : s < 32) (h : a.sl s ≠ 0) : a_R a (a.sl s) := z_R.root (Or.inl ⟨s, hs, rfl, h⟩)
/-- how the class holds the memory: u words are counted as used, of all that is in lv -/
def c_R (cK cI : ClassId) (a : Ab) (g : y_G) (d cn : Nat) : Prop := ∃ (ka sa : Nat) (fk fs : Nat → Option Nat) (ad : Nat → Nat) (cs : Nat → List CL) (ks : List Nat) (itv : Int32) (u wk : Nat) (sn : Nat → Nat) (np : Nat → Option Nat) (lv : Nat → Prop),
  c_S a g d ka sa cK cI fk fs ad cs ks itv (nI u) wk sn np none ∧ (∀ o, 1 ≤ o → o ≤ a.n → sn o ≤ wk) ∧ wk ≤ cn ∧ u = z_sum (a_wd a) lv a.n ∧ u ≤ a.mem ∧ ∀ o, a_R a o → lv o
theorem c_R.up {cK cI : ClassId} {a : Ab} {g : y_G} {d cn cn' : Nat} (h : c_R cK cI a g d cn) (hc : cn ≤ cn') : c_R cK cI a g d cn' := by
  obtain ⟨ka, sa, fk, fs, ad, cs, ks, itv, u, wk, sn, np, lv, h1, h2, h3, h4⟩ := h
  exact ⟨ka, sa, fk, fs, ad, cs, ks, itv, u, wk, sn, np, lv, h1, h2, Nat.le_trans h3 hc, h4⟩
theorem a_wd.eq {a a' : Ab} {o : Nat} (h1 : a'.kd (a'.ok o) = a.kd (a.ok o)) (h2 : a'.sz o = a.sz o) : a_wd a' o = a_wd a o := by
  unfold a_wd a_row a_len
  rw [h1, h2]
theorem a_len.eq {a a' : Ab} {o : Nat} (h1 : a'.kd (a'.ok o) = a.kd (a.ok o)) (h2 : a'.sz o = a.sz o) : a_len a' o = a_len a o := by
  unfold a_len
  rw [h1, h2]
theorem a_ref.eq {a a' : Ab} {o : Nat} {k : Int32} (h1 : a'.kd (a'.ok o) = a.kd (a.ok o)) : a_ref a' o k ↔ a_ref a o k := by
  unfold a_ref
  rw [h1]
end SSpec
end
section
/-! what each change of the world does to what the class holds -/
section CMoves
variable {a : Ab} {g : y_G} {d ka sa : Nat} {cK cI : ClassId} {fk fs : Nat → Option Nat} {ad : Nat → Nat} {cs : Nat → List CL} {ks : List Nat} {itv us : Int32} {wk : Nat} {sn : Nat → Nat} {np : Nat → Option Nat} {pe : Option Nat}
theorem c_kn.mono {a : Ab} {g g' : y_G} {fk : Nat → Option Nat} {k : Nat} (h : c_kn a g fk k) (hp : ∀ x w m, g x = some (e_plain w m) → g' x = some (e_plain w m)) (hr : ∀ x el bi, g x = some (e_row el bi) → g' x = some (e_row el bi)) : c_kn a g' fk k := by
  rcases h with z | ⟨q, x, z1, z2, z3⟩
  · exact Or.inl z
  · refine Or.inr ⟨q, x, z1, z2, ?_⟩
    rcases z3 with ⟨y1, y2⟩ | ⟨y1, y2⟩
    · exact Or.inl ⟨y1, hp _ _ _ y2⟩
    · exact Or.inr ⟨y1, hr _ _ _ y2⟩
theorem c_kq.eq {g g' : y_G} {x : Nat} {q : Int32 × Int32 × Int32} (h : c_kq g x q) (hg : g' x = g x) : c_kq g' x q := by
  rcases h with ⟨y1, y2⟩ | ⟨y1, y2⟩
  · exact Or.inl ⟨y1, hg.trans y2⟩
  · exact Or.inr ⟨y1, hg.trans y2⟩
theorem c_ch.keep {g g' : y_G} {L : List CL} (h : c_ch g L) (hc : ∀ y k nx v nm, g y = some (e_cell k nx v nm) → g' y = some (e_cell k nx v nm)) : c_ch g' L := h.mono (fun q hq e he => by
  obtain ⟨nx, hn⟩ := h.at q hq
  rw [hn] at he
  cases he
  exact hc _ _ _ _ _ hn)
theorem c_it.eq {a a' : Ab} {ad ad' : Nat → Nat} {cs cs' : Nat → List CL} {ks ks' : List Nat} {x : Nat} {sv : Int32} {nv : Option Nat} {o : Nat} (h1 : a_len a' o = a_len a o) (h2 : a_wd a' o = a_wd a o) (h3 : c_hd (cs' o) = c_hd (cs o)) (h4 : a'.nu o = a.nu o) (h5 : a'.kp o ↔ a.kp o) (h6 : (c_nx ks' o).map ad' = (c_nx ks o).map ad) : c_it a' ad' cs' ks' x sv nv o = c_it a ad cs ks x sv nv o := by
  unfold c_it
  rw [h1, h2, h3, h4, h6, propext h5]
theorem c_okL.eq {a a' : Ab} {ad ad' : Nat → Nat} {o : Nat} {L : List CL} (h : c_okL a ad o L) (h1 : ∀ k, a_ref a' o k ↔ a_ref a o k) (h2 : a'.ct o = a.ct o) (h3 : a.n ≤ a'.n) (h4 : ∀ b, 1 ≤ b → b ≤ a.n → ad' b = ad b) : c_okL a' ad' o L := by
  obtain ⟨g1, g2, g3⟩ := h
  refine ⟨fun q hq => ⟨fun z => ?_, fun z => ?_⟩, g2, fun k z => by rw [h2]; exact g3 k z⟩
  · rw [h2]; exact (g1 q hq).1 (fun y => z ((h1 _).mpr y))
  · rw [h2]
    rcases (g1 q hq).2 ((h1 _).mp z) with y | ⟨b, b1, b2, b3, b4⟩
    · exact Or.inl y
    · exact Or.inr ⟨b, b1, by omega, b3, by rw [h4 b b1 b2]; exact b4⟩
theorem c_1632 {x y : ClassId} {f f' : Nat → Option Nat} : e_refs x 16 f ≠ e_refs y 32 f' := fun z => by
  injection z with z
  injection z with z1 z2
  injection z2 with z3 z4
  exact absurd z3 (by decide)
theorem c_S.dne (h : c_S a g d ka sa cK cI fk fs ad cs ks itv us wk sn np pe) : ka ≠ d ∧ sa ≠ d ∧ ka ≠ sa := ⟨c_ne h.1.2.1 h.1.1 (fun z => by cases z), c_ne h.1.2.2 h.1.1 (fun z => by cases z), c_ne h.1.2.1 h.1.2.2 c_1632⟩
/-- a slot holds another -/
theorem c_S.slot (h : c_S a g d ka sa cK cI fk fs ad cs ks itv us wk sn np pe) {s o : Nat} {v : Option Nat} (hv : v = c_ob ad o) : c_S (a_puts a s o) (va_up g sa (some (e_refs cI 32 (va_up fs s v)))) d ka sa cK cI fk (va_up fs s v) ad cs ks itv us wk sn np pe := by
  obtain ⟨n1, n2, n3⟩ := h.dne
  obtain ⟨⟨h1, h2, h3⟩, h4, h5, h6, h7, h8, h9, h10⟩ := h
  have hoth : ∀ q e, g q = some e → (∀ x, e ≠ .inl x) → va_up g sa (some (e_refs cI 32 (va_up fs s v))) q = some e := fun q e he hn => by
    rw [va_up_ne _ _ (c_ne he h3 (fun z => hn _ z))]; exact he
  refine ⟨⟨hoth _ _ h1 (fun x z => by cases z), by rw [va_up_ne _ _ n3]; exact h2, va_up_self _ _ _⟩, fun k hk => (h4 k hk).mono (fun x w m z => hoth _ _ z (fun x z => by cases z)) (fun x w m z => hoth _ _ z (fun x z => by cases z)), fun s' hs' => ?_, fun o' a1 a2 => ?_, h7, fun o' a1 a2 => ⟨(h8 o' a1 a2).1.keep (fun y k nx v nm z => hoth _ _ z (fun x z => by cases z)), (h8 o' a1 a2).2⟩, h9, h10⟩
  · show va_up fs s v s' = c_ob ad (va_up a.sl s o s')
    by_cases e : s' = s
    · rw [e, va_up_self, va_up_self, hv]
    · rw [va_up_ne _ _ e, va_up_ne _ _ e]; exact h5 s' hs'
  · obtain ⟨x, z1, z2⟩ := h6 o' a1 a2
    exact ⟨x, z1, hoth _ _ z2 (fun x z => by cases z)⟩
/-- the desk's own numbers alone change -/
theorem c_S.nums {a' : Ab} (h : c_S a g d ka sa cK cI fk fs ad cs ks itv us wk sn np pe) {itv' us' : Int32} (e1 : a'.kd = a.kd) (e2 : a'.n = a.n) (e3 : a'.ok = a.ok) (e4 : a'.sz = a.sz) (e5 : a'.nu = a.nu) (e6 : a'.ct = a.ct) (e7 : a'.sl = a.sl) (e8 : ∀ o, a'.kp o ↔ a.kp o) :
    c_S a' (va_up g d (some (e_desk ka sa (nI a'.mem) (nI a'.n) (nI a'.kc) (nI a'.nn) itv' (ks.head?.map ad) us' (nI wk) pe))) d ka sa cK cI fk fs ad cs ks itv' us' wk sn np pe := by
  obtain ⟨n1, n2, n3⟩ := h.dne
  obtain ⟨⟨h1, h2, h3⟩, h4, h5, h6, h7, h8, h9, h10, h11⟩ := h
  have hoth : ∀ q e, g q = some e → (∀ x, e ≠ .inr (4, x)) → va_up g d (some (e_desk ka sa (nI a'.mem) (nI a'.n) (nI a'.kc) (nI a'.nn) itv' (ks.head?.map ad) us' (nI wk) pe)) q = some e := fun q e he hn => by
    rw [va_up_ne _ _ (c_ne he h1 (fun z => hn _ z))]; exact he
  refine ⟨⟨va_up_self _ _ _, by rw [va_up_ne _ _ n1]; exact h2, by rw [va_up_ne _ _ n2]; exact h3⟩, fun k hk => ?_, fun s' hs' => by rw [e7]; exact h5 s' hs', fun o' a1 a2 => ?_, fun o o' a1 a2 a3 a4 => h7 o o' a1 (by omega) a3 (by omega), fun o' a1 a2 => ?_, fun o o' q q' a1 a2 a3 a4 => h9 o o' q q' a1 (by omega) a3 (by omega), h10, fun o => (e8 o).trans (h11 o)⟩
  · have := (h4 k hk).mono (g' := va_up g d (some (e_desk ka sa (nI a'.mem) (nI a'.n) (nI a'.kc) (nI a'.nn) itv' (ks.head?.map ad) us' (nI wk) pe))) (fun x w m z => hoth _ _ z (fun x z => by cases z)) (fun x w m z => hoth _ _ z (fun x z => by cases z))
    unfold c_kn at this ⊢
    rw [e1]; exact this
  · rw [e2] at a2
    obtain ⟨x, z1, z2⟩ := h6 o' a1 a2
    refine ⟨x, by rw [e3]; exact z1, ?_⟩
    rw [c_it.eq (a := a) (ad := ad) (cs := cs) (ks := ks) (a_len.eq (by rw [e1, e3]) (by rw [e4])) (a_wd.eq (by rw [e1, e3]) (by rw [e4])) rfl (by rw [e5]) (e8 o') rfl]
    exact hoth _ _ z2 (fun x z => by cases z)
  · rw [e2] at a2
    exact ⟨(h8 o' a1 a2).1.keep (fun y k nx v nm z => hoth _ _ z (fun x z => by cases z)), (h8 o' a1 a2).2.eq (fun k => a_ref.eq (by rw [e1, e3])) (by rw [e6]) (by omega) (fun _ _ _ => rfl)⟩
/-- a kind is defined -/
theorem c_S.kind (h : c_S a g d ka sa cK cI fk fs ad cs ks itv us wk sn np pe) {k x : Nat} {q : Int32 × Int32 × Int32} {e : va_E} (hk : k < 16) (hno : a.kd k = none) (hx : g x = none) (he : c_kq (va_up g x (some e)) x q) :
    c_S (a_kind a k q) (va_up (va_up g x (some e)) ka (some (e_refs cK 16 (va_up fk k (some x))))) d ka sa cK cI (va_up fk k (some x)) fs ad cs ks itv us wk sn np pe := by
  obtain ⟨n1, n2, n3⟩ := h.dne
  obtain ⟨⟨h1, h2, h3⟩, h4, h5, h6, h7, h8, h9, h10⟩ := h
  have hfk : fk k = none := by
    rcases h4 k hk with z | ⟨q, x, z1, -⟩
    · exact z.2
    · rw [hno] at z1; cases z1
  have hnx : ∀ q e, g q = some e → q ≠ x := fun q e z w => by rw [w, hx] at z; cases z
  have hxk : x ≠ ka := fun w => hnx ka _ h2 w.symm
  have hoth : ∀ q e9, g q = some e9 → q ≠ ka → va_up (va_up g x (some e)) ka (some (e_refs cK 16 (va_up fk k (some x)))) q = some e9 := fun q e9 he hn => by
    rw [va_up_ne _ _ hn, va_up_ne _ _ (hnx _ _ he)]; exact he
  have hoth2 : ∀ q e9, g q = some e9 → (∀ x, e9 ≠ .inl x) → va_up (va_up g x (some e)) ka (some (e_refs cK 16 (va_up fk k (some x)))) q = some e9 := fun q e9 he hn => hoth q e9 he (c_ne he h2 (fun z => hn _ z))
  have hok : ∀ o, 1 ≤ o → o ≤ a.n → a.ok o ≠ k := fun o a1 a2 z => by
    obtain ⟨x, z1, -⟩ := h6 o a1 a2
    rw [z, hfk] at z1; cases z1
  have hkd : ∀ o, 1 ≤ o → o ≤ a.n → (a_kind a k q).kd ((a_kind a k q).ok o) = a.kd (a.ok o) := fun o a1 a2 => va_up_ne _ _ (hok o a1 a2)
  refine ⟨⟨hoth2 _ _ h1 (fun x z => by cases z), va_up_self _ _ _, hoth _ _ h3 (fun z => n3 z.symm)⟩, fun k' hk' => ?_, h5, fun o' a1 a2 => ?_, h7, fun o' a1 a2 => ⟨(h8 o' a1 a2).1.keep (fun y k nx v nm z => hoth2 _ _ z (fun x z => by cases z)), (h8 o' a1 a2).2.eq (fun k => a_ref.eq (hkd o' a1 a2)) rfl (Nat.le_refl _) (fun _ _ _ => rfl)⟩, h9, h10⟩
  · by_cases e1 : k' = k
    · subst e1
      exact Or.inr ⟨q, x, va_up_self _ _ _, va_up_self _ _ _, he.eq (va_up_ne _ _ hxk)⟩
    · have := (h4 k' hk').mono (fun x w m z => hoth2 _ _ z (fun x z => by cases z)) (fun x w m z => hoth2 _ _ z (fun x z => by cases z))
      unfold c_kn at this ⊢
      rw [show (a_kind a k q).kd k' = a.kd k' from va_up_ne _ _ e1, show va_up fk k (some x) k' = fk k' from va_up_ne _ _ e1]
      exact this
  · obtain ⟨x', z1, z2⟩ := h6 o' a1 a2
    refine ⟨x', by show va_up fk k (some x) (a.ok o') = _; rw [va_up_ne _ _ (hok o' a1 a2)]; exact z1, ?_⟩
    rw [c_it.eq (a := a) (ad := ad) (cs := cs) (ks := ks) (a_len.eq (hkd o' a1 a2) rfl) (a_wd.eq (hkd o' a1 a2) rfl) rfl rfl Iff.rfl rfl]
    exact hoth2 _ _ z2 (fun x z => by cases z)
/-- an object is numbered -/
theorem c_S.numb (h : c_S a g d ka sa cK cI fk fs ad cs ks itv us wk sn np pe) {o x : Nat} (o1 : 1 ≤ o) (o2 : o ≤ a.n) (hx : fk (a.ok o) = some x) :
    c_S (a_numb a o) (va_up (va_up g d (some (e_desk ka sa (nI a.mem) (nI a.n) (nI a.kc) (nI (a.nn + 1)) itv (ks.head?.map ad) us (nI wk) pe))) (ad o) (some (e_item x (a_len a o) (nI (a_wd a o)) (c_hd (cs o)) (nI (a.nn + 1)) (c_bit (a.kp o)) ((c_nx ks o).map ad) (nI (sn o)) (np o)))) d ka sa cK cI fk fs ad cs ks itv us wk sn np pe := by
  obtain ⟨n1, n2, n3⟩ := h.dne
  obtain ⟨⟨h1, h2, h3⟩, h4, h5, h6, h7, h8, h9, h10⟩ := h
  obtain ⟨x0, y1, y2⟩ := h6 o o1 o2
  have hod : ad o ≠ d := c_ne y2 h1 (fun z => by cases z)
  have hoth : ∀ q e9, g q = some e9 → (∀ x, e9 ≠ .inr (4, x)) → (∀ x, e9 ≠ .inr (1, x)) → va_up (va_up g d (some (e_desk ka sa (nI a.mem) (nI a.n) (nI a.kc) (nI (a.nn + 1)) itv (ks.head?.map ad) us (nI wk) pe))) (ad o) (some (e_item x (a_len a o) (nI (a_wd a o)) (c_hd (cs o)) (nI (a.nn + 1)) (c_bit (a.kp o)) ((c_nx ks o).map ad) (nI (sn o)) (np o))) q = some e9 := fun q e9 he hn hn2 => by
    rw [va_up_ne _ _ (c_ne he y2 (fun z => hn2 _ z)), va_up_ne _ _ (c_ne he h1 (fun z => hn _ z))]; exact he
  refine ⟨⟨by rw [va_up_ne _ _ hod.symm, va_up_self]; rfl, hoth _ _ h2 (fun x z => by cases z) (fun x z => by cases z), hoth _ _ h3 (fun x z => by cases z) (fun x z => by cases z)⟩, fun k hk => (h4 k hk).mono (fun x w m z => hoth _ _ z (fun x z => by cases z) (fun x z => by cases z)) (fun x w m z => hoth _ _ z (fun x z => by cases z) (fun x z => by cases z)), h5, fun o' a1 a2 => ?_, h7, fun o' a1 a2 => ⟨(h8 o' a1 a2).1.keep (fun y k nx v nm z => hoth _ _ z (fun x z => by cases z) (fun x z => by cases z)), (h8 o' a1 a2).2⟩, h9, h10⟩
  by_cases e : o' = o
  · subst e
    refine ⟨x, hx, ?_⟩
    rw [va_up_self]
    show _ = some (e_item x (a_len a o') (nI (a_wd a o')) (c_hd (cs o')) (nI (va_up a.nu o' (a.nn + 1) o')) (c_bit (a.kp o')) ((c_nx ks o').map ad) (nI (sn o')) (np o'))
    rw [va_up_self]
  · obtain ⟨x', z1, z2⟩ := h6 o' a1 a2
    refine ⟨x', z1, ?_⟩
    rw [c_it.eq (a := a) (ad := ad) (cs := cs) (ks := ks) (a' := a_numb a o) rfl rfl rfl (va_up_ne _ _ e) Iff.rfl rfl, va_up_ne _ _ (fun z => e (h7 o' o a1 a2 o1 o2 z)), va_up_ne _ _ (c_ne z2 h1 (fun z => by cases z))]
    exact z2
end CMoves
end
section
/-! .. keep, new objects, cells -/
section CMoves2
variable {a : Ab} {g : y_G} {d ka sa : Nat} {cK cI : ClassId} {fk fs : Nat → Option Nat} {ad : Nat → Nat} {cs : Nat → List CL} {ks : List Nat} {itv us : Int32} {wk : Nat} {sn : Nat → Nat} {np : Nat → Option Nat} {pe : Option Nat}
theorem c_bit.y {X : Prop} (h : X) : c_bit X = 1 := @if_pos _ (Classical.propDecidable X) h _ _ _
theorem c_bit.n {X : Prop} (h : ¬ X) : c_bit X = 0 := @if_neg _ (Classical.propDecidable X) h _ _ _
theorem c_nx.none {o : Nat} : ∀ {ks : List Nat}, o ∉ ks → c_nx ks o = none
  | [], _ => rfl
  | x :: r, h => by
    show (if x = o then _ else c_nx r o) = _
    rw [if_neg (fun z => h (by rw [z]; exact List.mem_cons_self))]
    exact c_nx.none (fun z => h (List.mem_cons_of_mem _ z))
theorem c_nx.mem {o b : Nat} : ∀ {ks : List Nat}, c_nx ks o = some b → b ∈ ks
  | [], h => by cases h
  | x :: r, h => by
    have h : (if x = o then r.head? else c_nx r o) = some b := h
    by_cases e : x = o
    · rw [if_pos e] at h
      cases r with
      | nil => cases h
      | cons y t => cases h; exact List.mem_cons_of_mem _ List.mem_cons_self
    · rw [if_neg e] at h
      exact List.mem_cons_of_mem _ (c_nx.mem h)
/-- an object is kept that was not -/
theorem c_S.keepN (h : c_S a g d ka sa cK cI fk fs ad cs ks itv us wk sn np pe) {o x : Nat} (o1 : 1 ≤ o) (o2 : o ≤ a.n) (hx : fk (a.ok o) = some x) (hk : ¬ a.kp o) :
    c_S (a_keep a o) (va_up (va_up g (ad o) (some (e_item x (a_len a o) (nI (a_wd a o)) (c_hd (cs o)) (nI (a.nu o)) 1 (ks.head?.map ad) (nI (sn o)) (np o)))) d (some (e_desk ka sa (nI a.mem) (nI a.n) (nI (a.kc + 1)) (nI a.nn) itv (some (ad o)) us (nI wk) pe))) d ka sa cK cI fk fs ad cs (o :: ks) itv us wk sn np pe := by
  obtain ⟨n1, n2, n3⟩ := h.dne
  obtain ⟨⟨h1, h2, h3⟩, h4, h5, h6, h7, h8, h9, h10, h11⟩ := h
  obtain ⟨x0, y1, y2⟩ := h6 o o1 o2
  have hod : ad o ≠ d := c_ne y2 h1 (fun z => by cases z)
  have hoth : ∀ q e9, g q = some e9 → (∀ x, e9 ≠ .inr (4, x)) → (∀ x, e9 ≠ .inr (1, x)) → va_up (va_up g (ad o) (some (e_item x (a_len a o) (nI (a_wd a o)) (c_hd (cs o)) (nI (a.nu o)) 1 (ks.head?.map ad) (nI (sn o)) (np o)))) d (some (e_desk ka sa (nI a.mem) (nI a.n) (nI (a.kc + 1)) (nI a.nn) itv (some (ad o)) us (nI wk) pe)) q = some e9 := fun q e9 he hn hn2 => by
    rw [va_up_ne _ _ (c_ne he h1 (fun z => hn _ z)), va_up_ne _ _ (c_ne he y2 (fun z => hn2 _ z))]; exact he
  refine ⟨⟨by rw [va_up_self]; rfl, hoth _ _ h2 (fun x z => by cases z) (fun x z => by cases z), hoth _ _ h3 (fun x z => by cases z) (fun x z => by cases z)⟩, fun k hk => (h4 k hk).mono (fun x w m z => hoth _ _ z (fun x z => by cases z) (fun x z => by cases z)) (fun x w m z => hoth _ _ z (fun x z => by cases z) (fun x z => by cases z)), h5, fun o' a1 a2 => ?_, h7, fun o' a1 a2 => ⟨(h8 o' a1 a2).1.keep (fun y k nx v nm z => hoth _ _ z (fun x z => by cases z) (fun x z => by cases z)), (h8 o' a1 a2).2⟩, h9, List.nodup_cons.mpr ⟨fun z => hk ((h11 o).mpr z), h10⟩, fun z => ?_⟩
  · by_cases e : o' = o
    · subst e
      refine ⟨x, hx, ?_⟩
      rw [va_up_ne _ _ hod, va_up_self]
      show _ = some (e_item x (a_len a o') (nI (a_wd a o')) (c_hd (cs o')) (nI (a.nu o')) (c_bit (a.kp o' ∨ o' = o')) ((c_nx (o' :: ks) o').map ad) (nI (sn o')) (np o'))
      rw [c_bit.y (Or.inr rfl), show c_nx (o' :: ks) o' = ks.head? from if_pos rfl]
    · obtain ⟨x', z1, z2⟩ := h6 o' a1 a2
      refine ⟨x', z1, ?_⟩
      rw [c_it.eq (a := a) (ad := ad) (cs := cs) (ks := ks) (a' := a_keep a o) rfl rfl rfl rfl ⟨fun z => z.resolve_right e, Or.inl⟩ (by rw [c_nx.skip e]), va_up_ne _ _ (c_ne z2 h1 (fun z => by cases z)), va_up_ne _ _ (fun z => e (h7 o' o a1 a2 o1 o2 z))]
      exact z2
  · show (a.kp z ∨ z = o) ↔ _
    rw [List.mem_cons, h11 z]
    exact Or.comm
/-- a new object, in a slot -/
theorem c_S.new {cn : Nat} (hw : a_W a cn) (h : c_S a g d ka sa cK cI fk fs ad cs ks itv us wk sn np pe) {s k q x : Nat} {n us' : Int32} {g1 : y_G} (hq : g q = none) (hx : fk k = some x) (hl : x ≠ q)
    (hq1 : g1 q = some (e_item x (a_len (a_new a s k n) (a.n + 1)) (nI (a_wd (a_new a s k n) (a.n + 1))) none 0 0 none 0 none)) (hs1 : g1 sa = some (e_refs cI 32 (va_up fs s (some q)))) (hd1 : g1 d = some (e_desk ka sa (nI a.mem) (nI (a.n + 1)) (nI a.kc) (nI a.nn) itv (ks.head?.map ad) us' (nI wk) pe)) (ho1 : ∀ z, z ≠ q → z ≠ sa → z ≠ d → g1 z = g z) :
    c_S (a_new a s k n) g1 d ka sa cK cI fk (va_up fs s (some q)) (va_up ad (a.n + 1) q) (va_up cs (a.n + 1) []) ks itv us' wk (va_up sn (a.n + 1) 0) (va_up np (a.n + 1) none) pe := by
  obtain ⟨n1, n2, n3⟩ := h.dne
  obtain ⟨⟨h1, h2, h3⟩, h4, h5, h6, h7, h8, h9, h10, h11⟩ := h
  have hnx : ∀ z e, g z = some e → z ≠ q := fun z e z9 w => by rw [w, hq] at z9; cases z9
  have hoth : ∀ z e9, g z = some e9 → (∀ x, e9 ≠ .inr (4, x)) → (∀ x, e9 ≠ .inl x) → g1 z = some e9 := fun z e9 he hn hn2 => by
    rw [ho1 z (hnx _ _ he) (c_ne he h3 (fun z => hn2 _ z)) (c_ne he h1 (fun z => hn _ z))]; exact he
  have hks : ∀ b, b ∈ ks → b ≤ a.n := fun b hb => (hw.2.2.2.1 b ((h11 b).mpr hb)).2
  have hmap : ∀ r : Option Nat, (∀ b, r = some b → b ∈ ks) → r.map (va_up ad (a.n + 1) q) = r.map ad := fun r hr => by
    cases r with
    | none => rfl
    | some b =>
      have := hks b (hr b rfl)
      show some _ = some _
      rw [va_up_ne _ _ (by omega)]
  have hhd : ks.head?.map (va_up ad (a.n + 1) q) = ks.head?.map ad := hmap _ (fun b hb => by
    cases ks with
    | nil => cases hb
    | cons y t => cases hb; exact List.mem_cons_self)
  have hmid : ∀ o, (c_nx ks o).map (va_up ad (a.n + 1) q) = (c_nx ks o).map ad := fun o => hmap _ (fun b hb => c_nx.mem hb)
  have hob : ∀ o, o ≤ a.n → c_ob (va_up ad (a.n + 1) q) o = c_ob ad o := fun o ho => by
    unfold c_ob
    by_cases e : o = 0
    · rw [if_pos e, if_pos e]
    · rw [if_neg e, if_neg e, va_up_ne _ _ (by omega)]
  have hold : ∀ o, o ≤ a.n → (a_new a s k n).kd ((a_new a s k n).ok o) = a.kd (a.ok o) ∧ (a_new a s k n).sz o = a.sz o := fun o ho => ⟨by show a.kd (va_up a.ok (a.n + 1) k o) = _; rw [va_up_ne _ _ (by omega)], va_up_ne _ _ (by omega)⟩
  have hnk : (a.n + 1) ∉ ks := fun z => by have := hks _ z; omega
  refine ⟨⟨by rw [hhd]; exact hd1, ?_, hs1⟩, fun k hk => (h4 k hk).mono (fun x w m z => hoth _ _ z (fun x z => by cases z) (fun x z => by cases z)) (fun x w m z => hoth _ _ z (fun x z => by cases z) (fun x z => by cases z)), fun s' hs' => ?_, fun o' a1 a2 => ?_, fun o o' a1 a2 a3 a4 e => ?_, fun o' a1 a2 => ?_, fun o o' q1 q2 a1 a2 a3 a4 m1 m2 e => ?_, h10, h11⟩
  · rw [ho1 ka (hnx _ _ h2) n3 n1]; exact h2
  · show va_up fs s (some q) s' = c_ob (va_up ad (a.n + 1) q) (va_up a.sl s (a.n + 1) s')
    by_cases e : s' = s
    · rw [e, va_up_self, va_up_self]
      show _ = if a.n + 1 = 0 then none else some (va_up ad (a.n + 1) q (a.n + 1))
      rw [if_neg (by omega), va_up_self]
    · rw [va_up_ne _ _ e, va_up_ne _ _ e, hob _ (hw.2.2.1 s' hs')]; exact h5 s' hs'
  · by_cases e : o' = a.n + 1
    · subst e
      refine ⟨x, by show fk (va_up a.ok (a.n + 1) k (a.n + 1)) = _; rw [va_up_self]; exact hx, ?_⟩
      rw [va_up_self, hq1]
      show some (e_item x _ _ none 0 0 none 0 none) = some (e_item x _ _ (c_hd (va_up cs (a.n + 1) [] (a.n + 1))) (nI (a.nu (a.n + 1))) (c_bit (a.kp (a.n + 1))) ((c_nx ks (a.n + 1)).map _) (nI (va_up sn (a.n + 1) 0 (a.n + 1))) (va_up np (a.n + 1) none (a.n + 1)))
      rw [va_up_self, va_up_self, va_up_self, c_nx.none hnk, c_bit.n (fun z => hnk ((h11 _).mp z)), (hw.2.2.2.2.2.1 (a.n + 1) (by omega)).1]
      rfl
    · have a2 : o' ≤ a.n := by have : o' ≤ a.n + 1 := a2; omega
      obtain ⟨x', z1, z2⟩ := h6 o' a1 a2
      refine ⟨x', by show fk (va_up a.ok (a.n + 1) k o') = _; rw [va_up_ne _ _ e]; exact z1, ?_⟩
      rw [c_it.eq (a := a) (ad := ad) (cs := cs) (ks := ks) (a_len.eq (hold o' a2).1 (hold o' a2).2) (a_wd.eq (hold o' a2).1 (hold o' a2).2) (by rw [va_up_ne _ _ e]) rfl Iff.rfl (hmid o'), va_up_ne _ _ e, va_up_ne _ _ e, va_up_ne _ _ e]
      exact hoth _ _ z2 (fun x z => by cases z) (fun x z => by cases z)
  · have b2 : o ≤ a.n + 1 := a2
    have b4 : o' ≤ a.n + 1 := a4
    by_cases e1 : o = a.n + 1
    · by_cases e2 : o' = a.n + 1
      · omega
      · rw [e1, va_up_self, va_up_ne _ _ e2] at e
        obtain ⟨x', -, z2⟩ := h6 o' a3 (by omega)
        exact absurd e.symm (hnx _ _ z2)
    · by_cases e2 : o' = a.n + 1
      · rw [e2, va_up_self, va_up_ne _ _ e1] at e
        obtain ⟨x', -, z2⟩ := h6 o a1 (by omega)
        exact absurd e (hnx _ _ z2)
      · rw [va_up_ne _ _ e1, va_up_ne _ _ e2] at e
        exact h7 o o' a1 (by omega) a3 (by omega) e
  · by_cases e : o' = a.n + 1
    · subst e
      rw [va_up_self]
      exact ⟨trivial, fun z hz => absurd hz List.not_mem_nil, List.nodup_nil, fun k9 _ => (hw.2.2.2.2.2.1 (a.n + 1) (by omega)).2 k9⟩
    · have a2 : o' ≤ a.n := by have : o' ≤ a.n + 1 := a2; omega
      rw [va_up_ne _ _ e]
      exact ⟨(h8 o' a1 a2).1.keep (fun y k nx v nm z => hoth _ _ z (fun x z => by cases z) (fun x z => by cases z)), (h8 o' a1 a2).2.eq (fun k => a_ref.eq (hold o' a2).1) rfl (Nat.le_succ _) (fun b _ b2 => va_up_ne _ _ (by omega))⟩
  · have b2 : o ≤ a.n + 1 := a2
    have b4 : o' ≤ a.n + 1 := a4
    by_cases e1 : o = a.n + 1
    · rw [e1, va_up_self] at m1; exact absurd m1 List.not_mem_nil
    · by_cases e2 : o' = a.n + 1
      · rw [e2, va_up_self] at m2; exact absurd m2 List.not_mem_nil
      · rw [va_up_ne _ _ e1] at m1
        rw [va_up_ne _ _ e2] at m2
        exact h9 o o' q1 q2 a1 (by omega) a3 (by omega) m1 m2 e
theorem c_fd_n {k : Int32} : ∀ {L : List CL}, c_fd k L = none → ∀ q, q ∈ L → q.2.1 ≠ k
  | [], _, q, hq => absurd hq List.not_mem_nil
  | z :: r, h, q, hq => by
    have h : (if z.2.1 = k then some z.1 else c_fd k r) = none := h
    by_cases e : z.2.1 = k
    · rw [if_pos e] at h; cases h
    · rw [if_neg e] at h
      rcases List.mem_cons.mp hq with e1 | e1
      · rw [e1]; exact e
      · exact c_fd_n h q e1
theorem c_fd_s {k : Int32} {y : Nat} : ∀ {L : List CL}, c_fd k L = some y → ∃ q, q ∈ L ∧ q.2.1 = k ∧ q.1 = y
  | [], h => by cases h
  | z :: r, h => by
    have h : (if z.2.1 = k then some z.1 else c_fd k r) = some y := h
    by_cases e : z.2.1 = k
    · rw [if_pos e] at h; cases h; exact ⟨z, List.mem_cons_self, e, rfl⟩
    · rw [if_neg e] at h
      obtain ⟨q, q1, q2⟩ := c_fd_s h
      exact ⟨q, List.mem_cons_of_mem _ q1, q2⟩
/-- a cell is added, with nothing in it -/
theorem c_S.add (h : c_S a g d ka sa cK cI fk fs ad cs ks itv us wk sn np pe) {o x q : Nat} {k : Int32} (o1 : 1 ≤ o) (o2 : o ≤ a.n) (hx : fk (a.ok o) = some x) (hq : g q = none) (hf : c_fd k (cs o) = none) :
    c_S a (va_up (va_up g q (some (e_cell k (c_hd (cs o)) 0 none))) (ad o) (some (e_item x (a_len a o) (nI (a_wd a o)) (some q) (nI (a.nu o)) (c_bit (a.kp o)) ((c_nx ks o).map ad) (nI (sn o)) (np o)))) d ka sa cK cI fk fs ad (va_up cs o ((q, k, 0, none) :: cs o)) ks itv us wk sn np pe := by
  obtain ⟨n1, n2, n3⟩ := h.dne
  obtain ⟨⟨h1, h2, h3⟩, h4, h5, h6, h7, h8, h9, h10⟩ := h
  obtain ⟨x0, y1, y2⟩ := h6 o o1 o2
  have hnx : ∀ z e, g z = some e → z ≠ q := fun z e z9 w => by rw [w, hq] at z9; cases z9
  have hqo : q ≠ ad o := fun z => hnx _ _ y2 z.symm
  have hoth : ∀ z e9, g z = some e9 → (∀ x, e9 ≠ .inr (1, x)) → va_up (va_up g q (some (e_cell k (c_hd (cs o)) 0 none))) (ad o) (some (e_item x (a_len a o) (nI (a_wd a o)) (some q) (nI (a.nu o)) (c_bit (a.kp o)) ((c_nx ks o).map ad) (nI (sn o)) (np o))) z = some e9 := fun z e9 he hn => by
    rw [va_up_ne _ _ (c_ne he y2 (fun z => hn _ z)), va_up_ne _ _ (hnx _ _ he)]; exact he
  have h0 : a.ct o k = 0 := (h8 o o1 o2).2.2.2 k (c_fd_n hf)
  have hnew : ∀ o' q', 1 ≤ o' → o' ≤ a.n → q' ∈ cs o' → q'.1 ≠ q := fun o' q' a1 a2 hm => by
    obtain ⟨nx, hn⟩ := (h8 o' a1 a2).1.at q' hm
    exact hnx _ _ hn
  refine ⟨⟨hoth _ _ h1 (fun x z => by cases z), hoth _ _ h2 (fun x z => by cases z), hoth _ _ h3 (fun x z => by cases z)⟩, fun k hk => (h4 k hk).mono (fun x w m z => hoth _ _ z (fun x z => by cases z)) (fun x w m z => hoth _ _ z (fun x z => by cases z)), h5, fun o' a1 a2 => ?_, h7, fun o' a1 a2 => ?_, fun o' o'' q1 q2 a1 a2 a3 a4 m1 m2 e => ?_, h10⟩
  · by_cases e : o' = o
    · subst e
      refine ⟨x, hx, ?_⟩
      rw [va_up_self]
      unfold c_it
      rw [va_up_self]
      rfl
    · obtain ⟨x', z1, z2⟩ := h6 o' a1 a2
      refine ⟨x', z1, ?_⟩
      rw [c_it.eq (a := a) (ad := ad) (cs := cs) (ks := ks) rfl rfl (by rw [va_up_ne _ _ e]) rfl Iff.rfl rfl, va_up_ne _ _ (fun z => e (h7 o' o a1 a2 o1 o2 z)), va_up_ne _ _ (hnx _ _ z2)]
      exact z2
  · by_cases e : o' = o
    · subst e
      rw [va_up_self]
      obtain ⟨g1, g2, g3, g4⟩ := h8 o' a1 a2
      refine ⟨⟨by rw [va_up_ne _ _ hqo, va_up_self], g1.keep (fun y k nx v nm z => hoth _ _ z (fun x z => by cases z))⟩, fun z hz => ?_, ?_, fun k9 hk9 => g4 k9 (fun z hz => hk9 z (List.mem_cons_of_mem _ hz))⟩
      · rcases List.mem_cons.mp hz with e1 | e1
        · subst e1; exact ⟨fun _ => ⟨h0.symm, rfl⟩, fun _ => Or.inl ⟨h0, rfl⟩⟩
        · exact g2 z e1
      · rw [List.map_cons]
        refine List.nodup_cons.mpr ⟨fun z => ?_, g3⟩
        obtain ⟨q9, m1, m2⟩ := List.mem_map.mp z
        exact c_fd_n hf q9 m1 m2
    · rw [va_up_ne _ _ e]
      exact ⟨(h8 o' a1 a2).1.keep (fun y k nx v nm z => hoth _ _ z (fun x z => by cases z)), (h8 o' a1 a2).2⟩
  · by_cases e1 : o' = o
    · by_cases e2 : o'' = o
      · omega
      · subst e1
        rw [va_up_self] at m1
        rw [va_up_ne _ _ e2] at m2
        rcases List.mem_cons.mp m1 with e3 | e3
        · subst e3; exact absurd e.symm (hnew o'' q2 a3 a4 m2)
        · exact h9 o' o'' q1 q2 a1 a2 a3 a4 e3 m2 e
    · rw [va_up_ne _ _ e1] at m1
      by_cases e2 : o'' = o
      · subst e2
        rw [va_up_self] at m2
        rcases List.mem_cons.mp m2 with e3 | e3
        · subst e3; exact absurd e (hnew o' q1 a1 a2 m1)
        · exact h9 o' o'' q1 q2 a1 a2 a3 a4 m1 e3 e
      · rw [va_up_ne _ _ e2] at m2
        exact h9 o' o'' q1 q2 a1 a2 a3 a4 m1 m2 e
/-- what a write does to a list of cells -/
def c_set (k : Int32) (v : Int64) (nm : Option Nat) (z : CL) : CL := if z.2.1 = k then (z.1, z.2.1, v, nm) else z
theorem c_set_1 (k : Int32) (v : Int64) (nm : Option Nat) (z : CL) : (c_set k v nm z).1 = z.1 ∧ (c_set k v nm z).2.1 = z.2.1 := by
  unfold c_set
  by_cases e : z.2.1 = k
  · rw [if_pos e]; exact ⟨rfl, rfl⟩
  · rw [if_neg e]; exact ⟨rfl, rfl⟩
theorem c_set_hd {k : Int32} {v : Int64} {nm : Option Nat} : ∀ L : List CL, c_hd (L.map (c_set k v nm)) = c_hd L
  | [] => rfl
  | z :: r => congrArg some (c_set_1 k v nm z).1
theorem c_set_ch {g : y_G} {k : Int32} {v : Int64} {nm nx : Option Nat} {q : CL} (hk : q.2.1 = k) (hg : g q.1 = some (e_cell k nx q.2.2.1 q.2.2.2)) : ∀ {L : List CL}, c_ch g L → (∀ z, z ∈ L → z.2.1 = k → z = q) → c_ch (va_up g q.1 (some (e_cell k nx v nm))) (L.map (c_set k v nm))
  | [], _, _ => trivial
  | z :: r, h, hz => by
    refine ⟨?_, c_set_ch hk hg h.2 (fun y hy => hz y (List.mem_cons_of_mem _ hy))⟩
    rw [c_set_hd]
    unfold c_set
    by_cases e : z.2.1 = k
    · have e1 := hz z List.mem_cons_self e
      rw [if_pos e]
      subst e1
      have h1 := h.1
      rw [hg] at h1
      injection h1 with h1
      injection h1 with h1
      injection h1 with h0 h1
      injection h1 with h2 h3
      injection h3 with h4 h5
      have h6 : nx = c_hd r := by
        cases nx with
        | none =>
          cases hh : c_hd r with
          | none => rfl
          | some y => rw [hh] at h4; cases h4
        | some x =>
          cases hh : c_hd r with
          | none => rw [hh] at h4; cases h4
          | some y => rw [hh] at h4; cases h4; rfl
      rw [va_up_self, h6, e]
    · rw [if_neg e, va_up_ne _ _ (fun w => e ?_)]
      · exact h.1
      · have h1 := h.1
        rw [w, hg] at h1
        injection h1 with h1
        injection h1 with h1
        injection h1 with h0 h1
        injection h1 with h2 h3
        injection h2 with h2
        exact h2.symm
theorem c_uniq : ∀ {L : List CL}, (L.map (fun q : CL => q.2.1)).Nodup → ∀ q z, q ∈ L → z ∈ L → z.2.1 = q.2.1 → z = q
  | [], _, q, _, hq, _, _ => absurd hq List.not_mem_nil
  | y :: r, h, q, z, hq, hz, e => by
    rw [List.map_cons] at h
    obtain ⟨h1, h2⟩ := List.nodup_cons.mp h
    rcases List.mem_cons.mp hq with e1 | e1 <;> rcases List.mem_cons.mp hz with e2 | e2
    · rw [e1, e2]
    · exact absurd (List.mem_map.mpr ⟨z, e2, by rw [e, e1]⟩) h1
    · exact absurd (List.mem_map.mpr ⟨q, e1, by rw [← e, e2]⟩) h1
    · exact c_uniq h2 q z e1 e2 e
/-- a cell is written -/
theorem c_S.putc (h : c_S a g d ka sa cK cI fk fs ad cs ks itv us wk sn np pe) {o : Nat} {k : Int32} {v w : Int64} {nm nx : Option Nat} {q : CL} (o1 : 1 ≤ o) (o2 : o ≤ a.n) (hq : q ∈ cs o) (hk : q.2.1 = k) (hg : g q.1 = some (e_cell k nx q.2.2.1 q.2.2.2)) (hok : ∀ y, c_okc (a_putc a o k w) ad o (y, k, v, nm)) :
    c_S (a_putc a o k w) (va_up g q.1 (some (e_cell k nx v nm))) d ka sa cK cI fk fs ad (va_up cs o ((cs o).map (c_set k v nm))) ks itv us wk sn np pe := by
  obtain ⟨n1, n2, n3⟩ := h.dne
  obtain ⟨⟨h1, h2, h3⟩, h4, h5, h6, h7, h8, h9, h10⟩ := h
  have hoth : ∀ z e9, g z = some e9 → (∀ x, e9 ≠ .inr (0, x)) → va_up g q.1 (some (e_cell k nx v nm)) z = some e9 := fun z e9 he hn => by
    rw [va_up_ne _ _ (c_ne he hg (fun z => hn _ z))]; exact he
  refine ⟨⟨hoth _ _ h1 (fun x z => by cases z), hoth _ _ h2 (fun x z => by cases z), hoth _ _ h3 (fun x z => by cases z)⟩, fun k hk => (h4 k hk).mono (fun x w m z => hoth _ _ z (fun x z => by cases z)) (fun x w m z => hoth _ _ z (fun x z => by cases z)), h5, fun o' a1 a2 => ?_, h7, fun o' a1 a2 => ?_, fun o' o'' q1 q2 a1 a2 a3 a4 m1 m2 e => ?_, h10⟩
  · obtain ⟨x', z1, z2⟩ := h6 o' a1 a2
    refine ⟨x', z1, ?_⟩
    rw [c_it.eq (a := a) (ad := ad) (cs := cs) (ks := ks) (a' := a_putc a o k w) rfl rfl (by
      by_cases e : o' = o
      · rw [e, va_up_self, c_set_hd]
      · rw [va_up_ne _ _ e]) rfl Iff.rfl rfl]
    exact hoth _ _ z2 (fun x z => by cases z)
  · by_cases e : o' = o
    · subst e
      rw [va_up_self]
      obtain ⟨g1, g2, g3, g4⟩ := h8 o' a1 a2
      refine ⟨c_set_ch hk hg g1 (fun z hz e => c_uniq g3 q z hq hz (by rw [e, hk])), fun z hz => ?_, ?_, fun k9 hk9 => ?_⟩
      · obtain ⟨y, y1, y2⟩ := List.mem_map.mp hz
        subst y2
        unfold c_set
        by_cases e : y.2.1 = k
        · rw [if_pos e, e]; exact hok y.1
        · rw [if_neg e]
          have hct : (a_putc a o' k w).ct o' y.2.1 = a.ct o' y.2.1 := by
            show va_up a.ct o' (fun z => if z = k then w else a.ct o' z) o' y.2.1 = _
            rw [va_up_self]; exact if_neg e
          unfold c_okc
          rw [hct]
          exact g2 y y1
      · rw [List.map_map, show (fun q : CL => q.2.1) ∘ c_set k v nm = (fun q : CL => q.2.1) from funext (fun z => (c_set_1 k v nm z).2)]
        exact g3
      · have hne : k9 ≠ k := fun z => hk9 (c_set k v nm q) (List.mem_map.mpr ⟨q, hq, rfl⟩) (by rw [(c_set_1 k v nm q).2, hk, z])
        show va_up a.ct o' (fun z => if z = k then w else a.ct o' z) o' k9 = _
        rw [va_up_self, if_neg hne]
        exact g4 k9 (fun z hz e => hk9 (c_set k v nm z) (List.mem_map.mpr ⟨z, hz, rfl⟩) (by rw [(c_set_1 k v nm z).2, e]))
    · rw [va_up_ne _ _ e]
      refine ⟨(h8 o' a1 a2).1.mono (fun z hz e9 he => ?_), (h8 o' a1 a2).2.eq (fun k => Iff.rfl) (va_up_ne _ _ e) (Nat.le_refl _) (fun _ _ _ => rfl)⟩
      rw [va_up_ne _ _ (fun w9 => e (h9 o' o z q a1 a2 o1 o2 hz hq w9))]; exact he
  · have back : ∀ o9 q9, q9 ∈ va_up cs o ((cs o).map (c_set k v nm)) o9 → ∃ z, z ∈ cs o9 ∧ z.1 = q9.1 := fun o9 q9 hm => by
      by_cases e : o9 = o
      · rw [e, va_up_self] at hm
        obtain ⟨y, y1, y2⟩ := List.mem_map.mp hm
        exact ⟨y, by rw [e]; exact y1, by rw [← y2]; exact (c_set_1 k v nm y).1.symm⟩
      · rw [va_up_ne _ _ e] at hm; exact ⟨q9, hm, rfl⟩
    obtain ⟨z1, y1, y2⟩ := back _ _ m1
    obtain ⟨z2, y3, y4⟩ := back _ _ m2
    exact h9 o' o'' z1 z2 a1 a2 a3 a4 y1 y3 (by rw [y2, y4]; exact e)
end CMoves2
end
section
/-! the class's formulas are the memory's -/
section FForms
def bt (x : Int32) (i : Nat) : Bool := x.toBitVec.getLsbD i
theorem b_ext {x y : Int32} (h : ∀ i, i < 32 → bt x i = bt y i) : x = y := Int32.toBitVec_inj.mp (BitVec.eq_of_getLsbD_eq (fun i hi => h i hi))
theorem b_or (x y : Int32) (i : Nat) : bt (x ||| y) i = (bt x i || bt y i) := by unfold bt; rw [Int32.toBitVec_or, BitVec.getLsbD_or]
theorem b_and (x y : Int32) (i : Nat) : bt (x &&& y) i = (bt x i && bt y i) := by unfold bt; rw [Int32.toBitVec_and, BitVec.getLsbD_and]
theorem b_xor (x y : Int32) (i : Nat) : bt (x ^^^ y) i = (bt x i ^^ bt y i) := by unfold bt; rw [Int32.toBitVec_xor, BitVec.getLsbD_xor]
theorem b_big {x : Int32} {i : Nat} (h : 32 ≤ i) : bt x i = false := BitVec.getLsbD_of_ge _ _ h
theorem s_l : ∀ n, n < 32 → ((nI n &&& 31).toBitVec.smod 32).toNat = n := by decide +kernel
theorem s_u : ∀ n, n < 32 → (((nI n).toUInt32 &&& Int32.toUInt32 31).toBitVec % 32).toNat = n := by decide +kernel
theorem b_ushr (n : Nat) (hn : n < 32) (x : Int32) (i : Nat) : bt ((x.toUInt32 >>> ((nI n).toUInt32 &&& Int32.toUInt32 31)).toInt32) i = bt x (n + i) := by
  show (x.toUInt32 >>> ((nI n).toUInt32 &&& Int32.toUInt32 31)).toBitVec.getLsbD i = x.toUInt32.toBitVec.getLsbD (n + i)
  rw [UInt32.toBitVec_shiftRight]
  show (x.toUInt32.toBitVec >>> (((nI n).toUInt32 &&& Int32.toUInt32 31).toBitVec % 32).toNat).getLsbD i = _
  rw [s_u n hn, BitVec.getLsbD_ushiftRight]
theorem b_sshr (n : Nat) (hn : n < 32) (x : Int32) {i : Nat} (hi : i < 32) : bt (x >>> (nI n &&& 31)) i = if n + i < 32 then bt x (n + i) else bt x 31 := by
  unfold bt
  rw [Int32.toBitVec_shiftRight]
  show (x.toBitVec.sshiftRight ((nI n &&& 31).toBitVec.smod 32).toNat).getLsbD i = _
  rw [s_l n hn, BitVec.getLsbD_sshiftRight, BitVec.msb_eq_getLsbD_last]
  simp [hi]
theorem nx_and (a b : Nat) : nI a &&& nI b = nI (a &&& b) := by
  apply Int32.toBitVec_inj.1
  show BitVec.ofNat 32 a &&& BitVec.ofNat 32 b = BitVec.ofNat 32 (a &&& b)
  apply BitVec.eq_of_getLsbD_eq
  intro i hi
  simp [hi]
theorem nx_cnt : ∀ j : Fin 32, (UInt32.ofNat j.val &&& Int32.toUInt32 31).toNat % 32 = j.val := by decide +kernel
theorem nx_ush {k j : Nat} (hk : k < 65536) (hj : j < 32) : ((nI k).toUInt32 >>> ((nI j).toUInt32 &&& Int32.toUInt32 31)).toInt32 = nI (k >>> j) := by
  have hs : k >>> j ≤ k := by
    rw [Nat.shiftRight_eq_div_pow]
    exact Nat.div_le_self _ _
  have e2 : UInt32.ofNat k >>> (UInt32.ofNat j &&& Int32.toUInt32 31) = UInt32.ofNat (k >>> j) := by
    apply UInt32.toNat_inj.1
    have h1 : (UInt32.ofNat k).toNat = k := Nat.mod_eq_of_lt (by omega)
    have h2 : (UInt32.ofNat (k >>> j)).toNat = k >>> j := Nat.mod_eq_of_lt (by omega)
    rw [UInt32.toNat_shiftRight, nx_cnt ⟨j, hj⟩, h1, h2]
  show (UInt32.ofNat k >>> (UInt32.ofNat j &&& Int32.toUInt32 31)).toInt32 = _
  rw [e2]
  rfl
theorem wb_of32 (x : Int32) : ∃ n, n < 2 ^ 32 ∧ x = nI n := ⟨x.toBitVec.toNat, x.toBitVec.isLt, Int32.toBitVec_inj.mp (by show _ = BitVec.ofNat 32 _; simp)⟩
theorem f_and1 (x : Int32) : x &&& 1 = 0 ∨ x &&& 1 = 1 := by
  obtain ⟨n, hn, rfl⟩ := wb_of32 x
  rw [show (nI n &&& 1 : Int32) = nI n &&& nI 1 from rfl, nx_and, Nat.and_one_is_mod]
  rcases Nat.mod_two_eq_zero_or_one n with h | h
  · rw [h]; exact Or.inl rfl
  · rw [h]; exact Or.inr rfl
theorem f_and (x : Int32) : ¬ x &&& 1 = 0 ↔ x &&& 1 = 1 := by
  rcases f_and1 x with h | h
  · rw [h]; decide
  · rw [h]; decide
theorem f_hi {m i : Nat} (hm : m < 65536) (hi : 16 ≤ i) : bt (nI m) i = false := by
  show (BitVec.ofNat 32 m).getLsbD i = false
  rw [BitVec.getLsbD_ofNat, Nat.testBit_lt_two_pow (Nat.lt_of_lt_of_le (show m < 2 ^ 16 by omega) (Nat.pow_le_pow_right (by decide) hi)), Bool.and_false]
theorem f_shr {m j : Nat} (hm : m < 65536) (hj : j < 32) : nI m >>> (nI j &&& 31) = ((nI m).toUInt32 >>> ((nI j).toUInt32 &&& Int32.toUInt32 31)).toInt32 := by
  refine b_ext (fun i hi => ?_)
  rw [b_sshr j hj _ hi, b_ushr j hj]
  by_cases h : j + i < 32
  · rw [if_pos h]
  · rw [if_neg h, f_hi hm (by omega), f_hi hm (by omega)]
theorem a_kin.neg {q : Int32 × Int32 × Int32} (hk : a_kin q) (h : q.1 < 0) : ∃ w m : Nat, w ≤ 16 ∧ m < 2 ^ w ∧ q.2.1 = nI w ∧ q.2.2 = nI m := by
  rcases hk with hk | ⟨r, r1, r2, -⟩
  · exact hk.2
  · rw [r2] at h; exact absurd h (nI_pos (by omega))
theorem a_kin.row {q : Int32 × Int32 × Int32} (hk : a_kin q) (h : ¬ q.1 < 0) : ∃ r : Nat, r ≤ 4 ∧ q.1 = nI r := by
  rcases hk with hk | ⟨r, r1, r2, -⟩
  · rw [hk.1] at h; exact absurd (by decide) h
  · exact ⟨r, r1, r2⟩
theorem f_pw {w m : Nat} (hw : w ≤ 16) (hm : m < 2 ^ w) : m < 65536 := Nat.lt_of_lt_of_le hm (Nat.pow_le_pow_right (n := 2) (by decide) hw)
/-- is it a reference: the class's question is the memory's -/
theorem f_ref {g : y_G} {kx : Nat} {q : Int32 × Int32 × Int32} {k : Int32} (h : c_kq g kx q) (hk : a_kin q) (hin : q.1 < 0 → b_in k q.2.1) : c_rf g kx k ↔ a_refK q k := by
  unfold a_refK
  rcases h with ⟨h0, h1⟩ | ⟨h0, h1⟩
  · rw [if_pos h0]
    obtain ⟨w, m, w1, m1, e1, e2⟩ := hk.neg h0
    have hi := hin h0
    rw [e1] at hi
    obtain ⟨j1, j2⟩ := b_in.j hi (by omega)
    rw [e1, e2] at h1
    rw [e2, j2, f_shr (f_pw w1 m1) (by omega), ← f_and, ← j2]
    constructor
    · rintro (⟨w', mk', z1, z2⟩ | ⟨el, bi, z1, z2⟩)
      · rw [h1] at z1; cases z1; exact z2
      · rw [h1] at z1; cases z1
    · exact fun z => Or.inl ⟨_, _, h1, z⟩
  · rw [if_neg h0]
    constructor
    · rintro (⟨w', mk', z1, z2⟩ | ⟨el, bi, z1, z2⟩)
      · rw [h1] at z1; cases z1
      · rw [h1] at z1; cases z1; exact z2
    · exact fun z => Or.inr ⟨_, _, h1, z⟩
theorem f_div {a : Nat} (h : a < 2 ^ 62) : lN a / 32 = lN (a / 32) := by
  apply Int64.toInt_inj.mp
  have e1 : (lN a).toInt = (a : Int) := lg_ofNat_toInt (by omega)
  have e2 : (lN (a / 32)).toInt = ((a / 32 : Nat) : Int) := lg_ofNat_toInt (by omega)
  have e3 : (32 : Int64).toInt = 32 := by decide
  rw [Int64.toInt_div, e1, e2, e3, Int.tdiv_eq_ediv_of_nonneg (by omega), Int.bmod_eq_of_le (by omega) (by omega)]
  omega
/-- how many words a new object takes: the class's long is the memory's number -/
theorem f_wdP {q : Int32 × Int32 × Int32} {n : Int32} (hk : a_kin q) (h : q.1 < 0) : (3 + q.2.1).toInt64 = lN (a_more q n) ∧ a_more q n < 2 ^ 33 := by
  obtain ⟨w, m, w1, m1, e1, e2⟩ := hk.neg h
  unfold a_more a_tk
  rw [if_pos h, if_pos h, e1, show j_n (nI w) = w from nI_clamp (by omega), show (3 : Int32) = nI 3 from rfl, nI_add, nI_l (by omega)]
  exact ⟨rfl, by omega⟩
theorem f_wdR {q : Int32 × Int32 × Int32} {n : Int32} (hk : a_kin q) (h : ¬ q.1 < 0) (hn : ¬ n < 0) : 4 + (n.toInt64 * (c_bits q.1).toInt64 + 32 - 1) / 32 = lN (a_more q n) ∧ a_more q n < 2 ^ 33 := by
  obtain ⟨r, r1, e1⟩ := hk.row h
  obtain ⟨j, hj, rfl⟩ := nI_of hn
  unfold a_more a_tk
  rw [if_neg h, if_neg h, show j_n (nI j) = j from nI_clamp hj, e1, nI_l hj, show (32 : Int64) = lN 32 from rfl, show (1 : Int64) = lN 1 from rfl, show (4 : Int64) = lN 4 from rfl]
  rcases (show r = 0 ∨ r = 1 ∨ r = 2 ∨ r = 3 ∨ r = 4 by omega) with rfl | rfl | rfl | rfl | rfl
  · rw [show (c_bits (nI 0)).toInt64 = lN 32 by decide +kernel, lN_mul, lN_add, lN_sub (by omega), show lN 32 = (32 : Int64) from rfl, f_div (by omega), lN_add, if_neg (by decide +kernel), if_neg (by decide +kernel), if_neg (by decide +kernel)]
    exact ⟨congrArg lN (by omega), by omega⟩
  · rw [show (c_bits (nI 1)).toInt64 = lN 8 by decide +kernel, lN_mul, lN_add, lN_sub (by omega), show lN 32 = (32 : Int64) from rfl, f_div (by omega), lN_add, if_neg (by decide +kernel), if_neg (by decide +kernel), if_pos (by decide +kernel)]
    exact ⟨congrArg lN (by omega), by omega⟩
  · rw [show (c_bits (nI 2)).toInt64 = lN 16 by decide +kernel, lN_mul, lN_add, lN_sub (by omega), show lN 32 = (32 : Int64) from rfl, f_div (by omega), lN_add, if_neg (by decide +kernel), if_pos (by decide +kernel)]
    exact ⟨congrArg lN (by omega), by omega⟩
  · rw [show (c_bits (nI 3)).toInt64 = lN 32 by decide +kernel, lN_mul, lN_add, lN_sub (by omega), show lN 32 = (32 : Int64) from rfl, f_div (by omega), lN_add, if_neg (by decide +kernel), if_neg (by decide +kernel), if_neg (by decide +kernel)]
    exact ⟨congrArg lN (by omega), by omega⟩
  · rw [show (c_bits (nI 4)).toInt64 = lN 64 by decide +kernel, lN_mul, lN_add, lN_sub (by omega), show lN 32 = (32 : Int64) from rfl, f_div (by omega), lN_add, if_pos (by decide +kernel)]
    exact ⟨congrArg lN (by omega), by omega⟩
theorem f_sh (v : Int64) (n : Nat) (hn : n < 64) : ((v <<< lN n) >>> lN n).toBitVec = (v.toBitVec <<< n).sshiftRight n := by
  have e : (∀ n, n < 64 → ((lN n).toBitVec.smod 64).toNat = n) := by decide +kernel
  rw [Int64.toBitVec_shiftRight, Int64.toBitVec_shiftLeft]
  show ((v.toBitVec <<< ((lN n).toBitVec.smod 64).toNat).sshiftRight ((lN n).toBitVec.smod 64).toNat) = _
  rw [e n hn]
theorem f_8 (v : Int64) : (v <<< lN 56) >>> lN 56 = v.toInt32.toInt8.toInt32.toInt64 := by
  apply Int64.toBitVec_inj.mp
  rw [f_sh v 56 (by decide)]
  show _ = (((v.toBitVec.signExtend 32).signExtend 8).signExtend 32).signExtend 64
  apply BitVec.eq_of_getLsbD_eq
  intro i hi
  rw [BitVec.getLsbD_sshiftRight, BitVec.msb_eq_getLsbD_last]
  simp [BitVec.getElem_signExtend, BitVec.getLsbD_signExtend, BitVec.msb_signExtend, BitVec.msb_eq_getLsbD_last, hi]
  by_cases h : i < 8
  · simp [h, show i < 32 by omega, show 56 + i < 64 by omega, show i < 64 by omega, show ¬ 56 + i < 56 by omega, BitVec.getElem_signExtend, BitVec.getLsbD_signExtend, BitVec.msb_signExtend, BitVec.msb_eq_getLsbD_last, show ¬ 64 ≤ i by omega]
  · simp [h, show ¬ 56 + i < 64 by omega, BitVec.getElem_signExtend, BitVec.getLsbD_signExtend, BitVec.msb_signExtend, BitVec.msb_eq_getLsbD_last, show ¬ 64 ≤ i by omega]
    try (by_cases h2 : i < 32 <;> simp [h, h2, BitVec.getElem_signExtend, BitVec.getLsbD_signExtend, BitVec.msb_signExtend, BitVec.msb_eq_getLsbD_last, show ¬ 64 ≤ i by omega])
theorem f_32 (v : Int64) : (v <<< lN 32) >>> lN 32 = v.toInt32.toInt64 := by
  apply Int64.toBitVec_inj.mp
  rw [f_sh v 32 (by decide)]
  show _ = (v.toBitVec.signExtend 32).signExtend 64
  apply BitVec.eq_of_getLsbD_eq
  intro i hi
  rw [BitVec.getLsbD_sshiftRight, BitVec.msb_eq_getLsbD_last]
  simp [BitVec.getElem_signExtend, BitVec.getLsbD_signExtend, BitVec.msb_signExtend, BitVec.msb_eq_getLsbD_last, hi]
  by_cases h : i < 32
  · simp [h, show 32 + i < 64 by omega, show i < 64 by omega, show ¬ 32 + i < 32 by omega, BitVec.getElem_signExtend, BitVec.getLsbD_signExtend, BitVec.msb_signExtend, BitVec.msb_eq_getLsbD_last, show ¬ 64 ≤ i by omega]
  · simp [h, show ¬ 32 + i < 64 by omega, BitVec.getElem_signExtend, BitVec.getLsbD_signExtend, BitVec.msb_signExtend, BitVec.msb_eq_getLsbD_last, show ¬ 64 ≤ i by omega]
theorem b_65535 (i : Nat) : bt 65535 i = decide (i < 16) := by
  rcases Nat.lt_or_ge i 32 with h | h
  · exact (by decide +kernel : ∀ i, i < 32 → bt 65535 i = decide (i < 16)) i h
  · rw [b_big h, decide_eq_false (by omega)]
theorem f_0 (v : Int64) : (v <<< lN 0) >>> lN 0 = v := by
  apply Int64.toBitVec_inj.mp
  rw [f_sh v 0 (by decide)]
  simp
theorem f_16 (v : Int64) : ((v <<< lN 48).toUInt64 >>> UInt64.ofNat 48).toInt64 = (v.toInt32.toUInt32 % 65536).toInt32.toInt64 := by
  rw [lg_i2c_nf, lg_i2c_mask]
  apply Int64.toBitVec_inj.mp
  show ((v <<< lN 48).toBitVec >>> 48) = (v.toInt32 &&& 65535).toBitVec.signExtend 64
  have e : (v <<< lN 48).toBitVec = v.toBitVec <<< 48 := by
    rw [Int64.toBitVec_shiftLeft]
    show v.toBitVec <<< ((lN 48).toBitVec.smod 64).toNat = _
    rw [show ((lN 48).toBitVec.smod 64).toNat = 48 by decide +kernel]
  rw [e]
  have hb : ∀ i, i < 32 → (v.toInt32 &&& 65535).toBitVec.getLsbD i = (v.toBitVec.getLsbD i && decide (i < 16)) := fun i hi => by
    have := b_and v.toInt32 65535 i
    rw [b_65535] at this
    have h2 : bt v.toInt32 i = v.toBitVec.getLsbD i := by
      show (v.toBitVec.signExtend 32).getLsbD i = _
      rw [BitVec.getLsbD_signExtend]
      simp [hi, show i < 64 by omega]
    rw [h2] at this
    exact this
  apply BitVec.eq_of_getLsbD_eq
  intro i hi
  rw [BitVec.getLsbD_ushiftRight, BitVec.getLsbD_shiftLeft, BitVec.getLsbD_signExtend, BitVec.msb_eq_getLsbD_last, hb (32 - 1) (by decide)]
  by_cases h : i < 32
  · rw [if_pos h, hb i h]
    by_cases h2 : i < 16
    · simp [h2, hi, show 48 + i < 64 by omega, show ¬ 48 + i < 48 by omega]
    · simp [h2, show ¬ 48 + i < 64 by omega]
  · rw [if_neg h]
    simp [show ¬ 48 + i < 64 by omega]
/-- what is left of a value -/
theorem f_cutP {a : Ab} {o : Nat} (v : Int64) (h : a_row a o < 0) : v.toInt32.toInt64 = a_cut a o v := by
  unfold a_cut
  rw [if_neg (fun z => by rw [z] at h; exact absurd h (by decide)), if_neg (fun z => by rw [z] at h; exact absurd h (by decide)), if_neg (fun z => by rw [z] at h; exact absurd h (by decide))]
theorem f_cutR {a : Ab} {o r : Nat} {x : Int32} (v y : Int64) (hx : x = a_row a o) (h : a_row a o = nI r) (hr : r ≤ 4) (hy : (y = ((v <<< ((64 - c_bits x).toInt64 &&& 63)).toUInt64 >>> ((64 - c_bits x).toInt64.toUInt64 &&& Int64.toUInt64 63)).toInt64 ∧ x = 2) ∨ (y = (v <<< ((64 - c_bits x).toInt64 &&& 63)) >>> ((64 - c_bits x).toInt64 &&& 63) ∧ ¬ x = 2)) : y = a_cut a o v := by
  unfold a_cut
  rw [h] at hx ⊢
  subst hx
  rcases (show r = 0 ∨ r = 1 ∨ r = 2 ∨ r = 3 ∨ r = 4 by omega) with rfl | rfl | rfl | rfl | rfl
  · rcases hy with ⟨-, z⟩ | ⟨e, -⟩
    · exact absurd z (by decide +kernel)
    · rw [e, show ((64 - c_bits (nI 0)).toInt64 &&& 63) = lN 32 by decide +kernel, if_neg (by decide +kernel), if_neg (by decide +kernel), if_neg (by decide +kernel)]; exact f_32 v
  · rcases hy with ⟨-, z⟩ | ⟨e, -⟩
    · exact absurd z (by decide +kernel)
    · rw [e, show ((64 - c_bits (nI 1)).toInt64 &&& 63) = lN 56 by decide +kernel, if_pos (by decide +kernel)]; exact f_8 v
  · rcases hy with ⟨e, -⟩ | ⟨-, z⟩
    · rw [e, show ((64 - c_bits (nI 2)).toInt64 &&& 63) = lN 48 by decide +kernel, show ((64 - c_bits (nI 2)).toInt64.toUInt64 &&& Int64.toUInt64 63) = UInt64.ofNat 48 by decide +kernel, if_neg (by decide +kernel), if_pos (by decide +kernel)]; exact f_16 v
    · exact absurd (by decide +kernel) z
  · rcases hy with ⟨-, z⟩ | ⟨e, -⟩
    · exact absurd z (by decide +kernel)
    · rw [e, show ((64 - c_bits (nI 3)).toInt64 &&& 63) = lN 32 by decide +kernel, if_neg (by decide +kernel), if_neg (by decide +kernel), if_neg (by decide +kernel)]; exact f_32 v
  · rcases hy with ⟨-, z⟩ | ⟨e, -⟩
    · exact absurd z (by decide +kernel)
    · rw [e, show ((64 - c_bits (nI 4)).toInt64 &&& 63) = lN 0 by decide +kernel, if_neg (by decide +kernel), if_neg (by decide +kernel), if_pos (by decide +kernel)]; exact f_0 v
end FForms
end
section
/-! takeRoom -/
section CRoom
theorem f_cmp {u wd mm : Nat} (h1 : u < 2 ^ 31) (h2 : wd < 2 ^ 33) (h3 : mm < 2 ^ 31) : lg_cmp ((nI u).toInt64 + lN wd) (nI mm).toInt64 ≤ 0 ↔ u + wd ≤ mm := by
  rw [lg_cmp_le, nI_l h1, nI_l h3, lN_add, Int64.le_iff_toInt_le, show (lN (u + wd)).toInt = ((u + wd : Nat) : Int) from lg_ofNat_toInt (by omega), show (lN mm).toInt = (mm : Int) from lg_ofNat_toInt (by omega)]
  omega
/-- the class holds a; u words are counted as used -/
def c_T (cK cI : ClassId) (a : Ab) (g : y_G) (d ka sa : Nat) (fk fs : Nat → Option Nat) (ad : Nat → Nat) (cs : Nat → List CL) (ks : List Nat) (itv : Int32) (w u us : Nat) : Prop := ∃ (wk : Nat) (sn : Nat → Nat) (np : Nat → Option Nat) (lv : Nat → Prop),
  c_S a g d ka sa cK cI fk fs ad cs ks itv (nI us) wk sn np none ∧ (∀ o, 1 ≤ o → o ≤ a.n → sn o ≤ wk) ∧ wk ≤ w ∧ u = z_sum (a_wd a) lv a.n ∧ u ≤ a.mem ∧ ∀ o, a_R a o → lv o
theorem c_T.le {cK cI : ClassId} {a : Ab} {g : y_G} {d ka sa : Nat} {fk fs : Nat → Option Nat} {ad : Nat → Nat} {cs : Nat → List CL} {ks : List Nat} {itv : Int32} {w u us : Nat} (h : c_T cK cI a g d ka sa fk fs ad cs ks itv w u us) : a_use a ≤ u := by
  obtain ⟨wk, sn, np, lv, -, -, -, h4, -, h6⟩ := h
  rw [h4]
  exact z_le (fun o _ _ z => h6 o z)
theorem c_T.R {cK cI : ClassId} {a : Ab} {g : y_G} {d ka sa : Nat} {fk fs : Nat → Option Nat} {ad : Nat → Nat} {cs : Nat → List CL} {ks : List Nat} {itv : Int32} {w u : Nat} (h : c_T cK cI a g d ka sa fk fs ad cs ks itv w u u) : c_R cK cI a g d w := by
  obtain ⟨wk, sn, np, lv, h⟩ := h
  exact ⟨ka, sa, fk, fs, ad, cs, ks, itv, u, wk, sn, np, lv, h⟩
theorem c_R.T {cK cI : ClassId} {a : Ab} {g : y_G} {d w : Nat} (h : c_R cK cI a g d w) : ∃ ka sa fk fs ad cs ks itv u, c_T cK cI a g d ka sa fk fs ad cs ks itv w u u := by
  obtain ⟨ka, sa, fk, fs, ad, cs, ks, itv, u, wk, sn, np, lv, h⟩ := h
  exact ⟨ka, sa, fk, fs, ad, cs, ks, itv, u, wk, sn, np, lv, h⟩
end CRoom
set_option maxHeartbeats 4000000 in
set_option maxRecDepth 100000 in
/-- takeRoom(words): there is room, or it throws -/
theorem c_De_takeRoom (l : Launch) (hst : l.stackTraces = false) (D : va_G) (cK cI cN cZ cL : ClassId) (g : y_G) (sz : Nat) (a : Ab) (cn : Nat) (d ka sa : Nat) (fk fs : Nat → Option Nat) (ad : Nat → Nat) (cs : Nat → List CL) (ks : List Nat) (itv : Int32) (w u wd : Nat) (hw : a_W a cn) (hcn : cn < 2 ^ 30) (hwd : wd < 2 ^ 33) (hwk : w < 2 ^ 30)
    (hT : c_T cK cI a g d ka sa fk fs ad cs ks itv w u u) :
    x_M l y_De_takeRoom [.code y_De_takeRoom b_De_takeRoom 4 (some .int)] rmT (w_Pc D (x_tys cK cI cN cZ cL) [.ref d, .long (lN wd)] g sz) (w_Qc D g sz (fun r g9 => (r = .inr xUOE ∧ ¬ (a_use a + wd ≤ a.mem) ∧ c_T cK cI a g9 d ka sa fk fs ad cs ks itv (w + 1) (a_use a) (a_use a)) ∨ (r = .inl (some (.int (nI wd))) ∧ a_use a + wd ≤ a.mem ∧ ∃ u1, u1 + wd ≤ a.mem ∧ c_T cK cI a g9 d ka sa fk fs ad cs ks itv (w + 1) u1 (u1 + wd)))) 1 6 (y_A g sz) := by
  refine x_ofW (cc := b_De_takeRoom) (maxL := 4) (ret := (some .int)) (by decide) rfl ?_
  intro p e s m args below meth c s₁ B hml hno hv
  obtain ⟨rfl, hsz, hP, hE⟩ := hv
  subst hsz
  have hts := hE.hts ([.ref d, .long (lN wd)] : List Value).toArray
  have hK := hE.1.2.1
  have hA0 : ∀ q, s.heap.size ≤ q → y_A g s.heap.size q := fun q h => Or.inr h
  have hA : ∀ q e, g q = some e → y_A g s.heap.size q := fun q e h => Or.inl (by rw [h]; exact fun z => nomatch z)
  have hS : va_S (y_A g s.heap.size) s.heap s.heap [] := va_S.rf
  generalize hAe : y_A g s.heap.size = A at hE hA0 hA hS ⊢
  have hx := B.exec
  have hb := B.bytes
  have hr := B.returns
  have hlocks := B.notSynchronized
  have hown : s.vm.findClass R_De = some m.cls := findClass_of_methodNamed B.named
  have hl := lv_entry ([.ref d, .long (lN wd)]) (n := 4) (Nat.le_of_ble_eq_true rfl)
  rw [lg_entry_eq]
  generalize (lg_sl ([.ref d, .long (lN wd)]) ++ List.replicate (4 - (lg_sl ([.ref d, .long (lN wd)])).length) Slot.unset).toArray = ls at hl ⊢
  have hl : lv_has ls 4 [(0, .ref d), (1, .long (lN wd))] := hl
  obtain ⟨QQ, hQ⟩ : ∃ z, z = x_Q below (w_Qc D g s.heap.size (fun r g9 => (r = .inr xUOE ∧ ¬ (a_use a + wd ≤ a.mem) ∧ c_T cK cI a g9 d ka sa fk fs ad cs ks itv (w + 1) (a_use a) (a_use a)) ∨ (r = .inl (some (.int (nI wd))) ∧ a_use a + wd ≤ a.mem ∧ ∃ u1, u1 + wd ≤ a.mem ∧ c_T cK cI a g9 d ka sa fk fs ad cs ks itv (w + 1) u1 (u1 + wd)))) ([.ref d, .long (lN wd)] : List Value).toArray s 1 6 A := ⟨_, rfl⟩
  rw [← hQ]
  have hn : a.n ≤ cn := hw.2.2.2.2.2.2.2.2.2.1
  have hmm : a.mem ≤ 65536 := hw.2.2.2.2.2.2.2.2.1
  have tail : ∀ (ls : Array Slot) (H : Heap) (locs : List Loc) (g : y_G) (u1 : Nat), lv_has ls 4 [(1, .long (lN wd)), (0, .ref d)] → y_P D vwCl g H → (∀ q99 e99, g q99 = some e99 → A q99) → va_S A s.heap H locs → c_T cK cI a g d ka sa fk fs ad cs ks itv (w + 1) u1 u1 → (u1 + wd ≤ a.mem ∨ u1 = a_use a) → W p l e rmT s m ([.ref d, .long (lN wd)] : List Value).toArray below meth c H locs 0 0 QQ (F0 m 51 ls []) := by
    intro ls H locs g u1 hl hP hA hS hT hor
    have hle := hT.le
    have hT0 := hT
    obtain ⟨wk1, sn1, np1, lv1, hC, hsn, hwk1, hu, hum, hlv⟩ := hT
    refine lv_aload_n hx hb d_De_takeRoom_51 rfl (lv_at hl 1 rfl) ?_
    refine y_get (D := D) (ci := 4) (v := .int (nI u1)) (C := R_De) (T := F_De) (N := 11) hx hb hts in_De hown hK hP hC.1.1 rfl 8 (by decide) (hts (.fieldLink R_De 145 "MemoryDesk" "used" "I") (by decide +kernel)) (fun _ h9 => h9) rfl d_De_takeRoom_52 ?_
    refine lv_i2l hx hb d_De_takeRoom_55 rfl ?_
    refine lv_lload_n hx hb d_De_takeRoom_56 rfl (lv_at hl 0 rfl) ?_
    refine lv_ladd hx hb d_De_takeRoom_57 ?_
    refine lv_aload_n hx hb d_De_takeRoom_58 rfl (lv_at hl 1 rfl) ?_
    refine y_get (D := D) (ci := 4) (v := .int (nI a.mem)) (C := R_De) (T := F_De) (N := 11) hx hb hts in_De hown hK hP hC.1.1 rfl 2 (by decide) (hts (.fieldLink R_De 22 "MemoryDesk" "limit" "I") (by decide +kernel)) (fun _ h9 => h9) rfl d_De_takeRoom_59 ?_
    refine lv_i2l hx hb d_De_takeRoom_62 rfl ?_
    refine W.lcmp hx hb d_De_takeRoom_63 ?_
    refine lv_if_le hx hb d_De_takeRoom_64 rfl (fun h1 => ?_) (fun h1 => ?_)
    · -- ifle at 64: to 77
      have hfit : u1 + wd ≤ a.mem := (f_cmp (by omega) hwd (by omega)).mp h1
      refine lv_aload_n hx hb d_De_takeRoom_77 rfl (lv_at hl 1 rfl) ?_
      refine lv_dup hx hb d_De_takeRoom_78 rfl ?_
      refine y_get (D := D) (ci := 4) (v := .int (nI u1)) (C := R_De) (T := F_De) (N := 11) hx hb hts in_De hown hK hP hC.1.1 rfl 8 (by decide) (hts (.fieldLink R_De 145 "MemoryDesk" "used" "I") (by decide +kernel)) (fun _ h9 => h9) rfl d_De_takeRoom_79 ?_
      refine lv_lload_n hx hb d_De_takeRoom_82 rfl (lv_at hl 0 rfl) ?_
      refine lv_l2i hx hb d_De_takeRoom_83 rfl ?_
      refine lv_iadd hx hb d_De_takeRoom_84 ?_
      rw [lN_i, nI_add]
      refine y_put (D := D) (ci := 4) (v := .int (nI (u1 + wd))) (ty := .int) (C := R_De) (T := F_De) (N := 11) hx hb hts in_De t_De t_De_ok n_De hown hK hP hA hS hC.1.1 rfl 8 (by decide) (hts (.fieldLink R_De 145 "MemoryDesk" "used" "I") (by decide +kernel)) (fun _ h9 => h9) rfl (by decide +kernel) rfl rfl (Nat.le_of_ble_eq_true rfl) d_De_takeRoom_85 (fun H locs hP hA hS => ?_)
      have hP : y_P D vwCl (va_up g d (some (e_desk ka sa (nI a.mem) (nI a.n) (nI a.kc) (nI a.nn) itv (ks.head?.map ad) (nI (u1 + wd)) (nI wk1) none))) H := hP
      have hA : ∀ q99 e99, (va_up g d (some (e_desk ka sa (nI a.mem) (nI a.n) (nI a.kc) (nI a.nn) itv (ks.head?.map ad) (nI (u1 + wd)) (nI wk1) none))) q99 = some e99 → A q99 := hA
      refine lv_lload_n hx hb d_De_takeRoom_88 rfl (lv_at hl 0 rfl) ?_
      refine lv_l2i hx hb d_De_takeRoom_89 rfl ?_
      rw [lN_i]
      rw [hQ]
      refine W.widen (k := 1) (n := 6) (by first | decide | omega) (by first | decide | omega) ?_
      exact x_ret (W.iret (v := (nI wd)) hx hb hr (w_fin rfl hAe (Or.inr ⟨rfl, by omega, u1, hfit, wk1, sn1, np1, lv1, hC.desk, hsn, hwk1, hu, hum, hlv⟩) hP hA hS) hS.2.2 d_De_takeRoom_90)
    · -- ifle at 64: to 67
      have hfit : ¬ u1 + wd ≤ a.mem := fun z => h1 ((f_cmp (by omega) hwd (by omega)).mpr z)
      have he := hor.resolve_left hfit
      subst he
      rw [hQ]
      obtain ⟨sa, hstr⟩ := hE.1.2.2.2.1 (175, "there is no room") (by decide)
      refine W.widen (k := 1 - 1) (n := 6 - 6) (by first | decide | omega) (by first | decide | omega) ?_
      exact x_throw (A := A) (cls := "java/lang/UnsupportedOperationException") (names := ["java/lang/RuntimeException", "java/lang/Exception"]) hx hb hst hown (by decide) (by decide) (hts (.classLink R_De 170 "java/lang/UnsupportedOperationException") (by decide +kernel)) (hts (.initialized "java/lang/UnsupportedOperationException") (by decide +kernel)) hstr (fun w hw ho => hE.1.at _ ho (at_UOE w hw ho)) nt_UOE hE.2.1 hE.2.2.1 hS (hl.1.trans hml.symm) d_De_takeRoom_67 d_De_takeRoom_70 d_De_takeRoom_71 d_De_takeRoom_73 d_De_takeRoom_76 (hno 76) (by decide) (by decide) (by decide) (by decide) hlocks (w_thr rfl hAe (Or.inl ⟨rfl, hfit, hT0⟩) hP hA hS) hS.2.2
  have mid : ∀ (ls : Array Slot) (H : Heap) (locs : List Loc) (g : y_G), lv_has ls 4 [(1, .long (lN wd)), (0, .ref d)] → y_P D vwCl g H → (∀ q99 e99, g q99 = some e99 → A q99) → va_S A s.heap H locs → c_T cK cI a g d ka sa fk fs ad cs ks itv w u u → W p l e rmT s m ([.ref d, .long (lN wd)] : List Value).toArray below meth c H locs 0 0 QQ (F0 m 47 ls []) := by
    intro ls H locs g hl hP hA hS hT
    obtain ⟨wk1, sn1, np1, lv1, hC, hsn, hwk1, hu, hum, hlv⟩ := hT
    have hle : a_use a ≤ u := by rw [hu]; exact z_le (fun o _ _ z => hlv o z)
    refine lv_aload_n hx hb d_De_takeRoom_47 rfl (lv_at hl 1 rfl) ?_
    refine w_callV (As := []) (C := R_De) ⟨hx, hb, hml, hown, hts⟩ (c_De_clearAway l D cK cI cN cZ cL g H.size a cn d ka sa fk fs ad cs ks itv (nI u) wk1 sn1 np1 hw hcn hC hsn (by omega)) (x_cb (cwV (own := R_De) (index := 148) (C := R_De) 0 hts (x_gi (by decide +kernel)) rfl rfl rfl (by decide +kernel) ⟨by decide, by decide⟩).1) (hts (.instanceMethod y_De_clearAway) (by decide +kernel)) (hts (.selects R_De y_De_clearAway y_De_clearAway) (by decide +kernel)) (y_recv (ci := 4) (q := (R_De, F_De, 11)) hK hP rfl hC.1.1) hE hP hA hA0 hS rfl hl.1 rfl (lv_room (Nat.le_of_ble_eq_true rfl)) d_De_takeRoom_48 (by first | decide | omega) (by first | decide | omega) (fun v9 g9 H locs hq9 hP hA hS => ?_) (fun E9 q9 ce9 g9 H locs hq9 hP hA hS z1 z2 z3 => ?_)
    · skip
      obtain ⟨hv9, sn2, np2, hC2, hsn2⟩ := hq9
      cases hv9
      exact tail ls H locs g9 (a_use a) hl hP hA hS ⟨wk1 + 1, sn2, np2, a_R a, hC2, hsn2, by omega, rfl, by omega, fun _ z => z⟩ (Or.inr rfl)
    · skip
      exact nomatch hq9.1
  have turn : ∀ (ls : Array Slot) (t : Int32), lv_has ls 4 [(3, .int t), (1, .long (lN wd)), (0, .ref d)] → W p l e rmT s m ([.ref d, .long (lN wd)] : List Value).toArray below meth c s.heap [] 0 0 QQ (F0 m 27 ls []) := by
    intro ls t hl
    have hT0 := hT
    obtain ⟨wk1, sn1, np1, lv1, hC, hsn, hwk1, hu, hum, hlv⟩ := hT
    refine lv_iload_n hx hb d_De_takeRoom_27 rfl (lv_at hl 0 rfl) ?_
    refine lv_if_ne hx hb d_De_takeRoom_28 rfl (fun h2 => ?_) (fun h2 => ?_)
    · -- ifne at 28: to 47
      have hl : lv_has ls 4 [(1, .long (lN wd)), (0, .ref d)] := lv_sub hl [1, 2] rfl
      exact mid ls s.heap [] g hl hP hA hS hT0
    · -- ifne at 28: to 31
      refine lv_aload_n hx hb d_De_takeRoom_31 rfl (lv_at hl 2 rfl) ?_
      refine y_get (D := D) (ci := 4) (v := .int (nI u)) (C := R_De) (T := F_De) (N := 11) hx hb hts in_De hown hK hP hC.1.1 rfl 8 (by decide) (hts (.fieldLink R_De 145 "MemoryDesk" "used" "I") (by decide +kernel)) (fun _ h9 => h9) rfl d_De_takeRoom_32 ?_
      refine lv_i2l hx hb d_De_takeRoom_35 rfl ?_
      refine lv_lload_n hx hb d_De_takeRoom_36 rfl (lv_at hl 1 rfl) ?_
      refine lv_ladd hx hb d_De_takeRoom_37 ?_
      refine lv_aload_n hx hb d_De_takeRoom_38 rfl (lv_at hl 2 rfl) ?_
      refine y_get (D := D) (ci := 4) (v := .int (nI a.mem)) (C := R_De) (T := F_De) (N := 11) hx hb hts in_De hown hK hP hC.1.1 rfl 2 (by decide) (hts (.fieldLink R_De 22 "MemoryDesk" "limit" "I") (by decide +kernel)) (fun _ h9 => h9) rfl d_De_takeRoom_39 ?_
      refine lv_i2l hx hb d_De_takeRoom_42 rfl ?_
      refine W.lcmp hx hb d_De_takeRoom_43 ?_
      refine lv_if_le hx hb d_De_takeRoom_44 rfl (fun h3 => ?_) (fun h3 => ?_)
      · -- ifle at 44: to 51
        have hl : lv_has ls 4 [(1, .long (lN wd)), (0, .ref d)] := lv_sub hl [1, 2] rfl
        exact tail ls s.heap [] g u hl hP hA hS ⟨wk1, sn1, np1, lv1, hC, hsn, by omega, hu, hum, hlv⟩ (Or.inl ((f_cmp (by omega) hwd (by omega)).mp h3))
      · -- ifle at 44: to 47
        have hl : lv_has ls 4 [(1, .long (lN wd)), (0, .ref d)] := lv_sub hl [1, 2] rfl
        exact mid ls s.heap [] g hl hP hA hS hT0
  obtain ⟨wk1, sn1, np1, lv1, hC, hsn, hwk1, hu, hum, hlv⟩ := hT
  refine lv_aload_n hx hb d_De_takeRoom_0 rfl (lv_at hl 0 rfl) ?_
  refine y_get (D := D) (ci := 4) (v := .int itv) (C := R_De) (T := F_De) (N := 11) hx hb hts in_De hown hK hP hC.1.1 rfl 6 (by decide) (hts (.fieldLink R_De 151 "MemoryDesk" "interval" "I") (by decide +kernel)) (fun _ h9 => h9) rfl d_De_takeRoom_1 ?_
  refine lv_if_le hx hb d_De_takeRoom_4 rfl (fun h4 => ?_) (fun h4 => ?_)
  · -- ifle at 4: to 25
    refine lv_iconst (v := 0) hx hb d_De_takeRoom_25 (by decide) ?_
    refine lv_istore_n hx hb d_De_takeRoom_26 rfl hl (by decide) rfl (fun ls hl => ?_)
    have hl : lv_has ls 4 [(3, .int 0), (0, .ref d), (1, .long (lN wd))] := hl
    have hl : lv_has ls 4 [(3, .int 0), (1, .long (lN wd)), (0, .ref d)] := lv_sub hl [0, 2, 1] rfl
    exact turn ls 0 hl
  · -- ifle at 4: to 7
    refine lv_aload_n hx hb d_De_takeRoom_7 rfl (lv_at hl 0 rfl) ?_
    refine y_get (D := D) (ci := 4) (v := .int (nI a.n)) (C := R_De) (T := F_De) (N := 11) hx hb hts in_De hown hK hP hC.1.1 rfl 3 (by decide) (hts (.fieldLink R_De 85 "MemoryDesk" "made" "I") (by decide +kernel)) (fun _ h9 => h9) rfl d_De_takeRoom_8 ?_
    refine lv_iconst (v := 1) hx hb d_De_takeRoom_11 (by decide) ?_
    refine lv_iadd hx hb d_De_takeRoom_12 ?_
    refine lv_aload_n hx hb d_De_takeRoom_13 rfl (lv_at hl 0 rfl) ?_
    refine y_get (D := D) (ci := 4) (v := .int itv) (C := R_De) (T := F_De) (N := 11) hx hb hts in_De hown hK hP hC.1.1 rfl 6 (by decide) (hts (.fieldLink R_De 151 "MemoryDesk" "interval" "I") (by decide +kernel)) (fun _ h9 => h9) rfl d_De_takeRoom_14 ?_
    refine lv_irem hx hb d_De_takeRoom_17 (fun z => h4 (by rw [z]; decide)) ?_
    refine lv_if_ne hx hb d_De_takeRoom_18 rfl (fun h5 => ?_) (fun h5 => ?_)
    · -- ifne at 18: to 25
      refine lv_iconst (v := 0) hx hb d_De_takeRoom_25 (by decide) ?_
      refine lv_istore_n hx hb d_De_takeRoom_26 rfl hl (by decide) rfl (fun ls hl => ?_)
      have hl : lv_has ls 4 [(3, .int 0), (0, .ref d), (1, .long (lN wd))] := hl
      have hl : lv_has ls 4 [(3, .int 0), (1, .long (lN wd)), (0, .ref d)] := lv_sub hl [0, 2, 1] rfl
      exact turn ls 0 hl
    · -- ifne at 18: to 21
      refine lv_iconst (v := 1) hx hb d_De_takeRoom_21 (by decide) ?_
      refine lv_goto hx hb d_De_takeRoom_22 rfl ?_
      refine lv_istore_n hx hb d_De_takeRoom_26 rfl hl (by decide) rfl (fun ls hl => ?_)
      have hl : lv_has ls 4 [(3, .int 1), (0, .ref d), (1, .long (lN wd))] := hl
      have hl : lv_has ls 4 [(3, .int 1), (1, .long (lN wd)), (0, .ref d)] := lv_sub hl [0, 2, 1] rfl
      exact turn ls 1 hl
end
section
/-! what can be come to behind each change; how a method's end is told -/
section CReach
variable {a : Ab} {cn : Nat}
theorem r_puts {s o : Nat} (ho : o = 0 ∨ a_R a o) {z : Nat} (h : a_R (a_puts a s o) z) : a_R a z := by
  refine h (a_R a) (fun r hr => ?_) (fun x b hx he => z_R.step hx he)
  rcases hr with ⟨s', h1, h2, h3⟩ | hk
  · have h2 : va_up a.sl s o s' = r := h2
    by_cases e : s' = s
    · rw [e, va_up_self] at h2
      subst h2
      exact ho.resolve_left h3
    · rw [va_up_ne _ _ e] at h2
      exact z_R.root (Or.inl ⟨s', h1, h2, h3⟩)
  · exact z_R.root (Or.inr hk)
theorem a_kind.old (hw : a_W a cn) {k : Nat} {q : Int32 × Int32 × Int32} (hk : a.kd k = none) {o : Nat} (h1 : 1 ≤ o) (h2 : o ≤ a.n) : (a_kind a k q).kd ((a_kind a k q).ok o) = a.kd (a.ok o) := by
  refine va_up_ne _ _ (fun z => ?_)
  obtain ⟨-, q', hq, -⟩ := hw.2.1 o h1 h2
  have z : a.ok o = k := z
  rw [z, hk] at hq
  cases hq
theorem r_kind (hw : a_W a cn) {k : Nat} {q : Int32 × Int32 × Int32} (hk : a.kd k = none) {z : Nat} (h : a_R (a_kind a k q) z) : a_R a z := by
  refine h (a_R a) (fun r hr => z_R.root hr) (fun x b hx he => z_R.step hx ?_)
  obtain ⟨h1, h2, h3, h4, k', h5, h6⟩ := he
  exact ⟨h1, h2, h3, h4, k', (a_ref.eq (a_kind.old hw hk h1 h2)).mp h5, h6⟩
theorem a_new.old {s k : Nat} {n : Int32} {o : Nat} (h2 : o ≤ a.n) : (a_new a s k n).kd ((a_new a s k n).ok o) = a.kd (a.ok o) ∧ (a_new a s k n).sz o = a.sz o :=
  ⟨by show a.kd (va_up a.ok (a.n + 1) k o) = _; rw [va_up_ne _ _ (by omega)], va_up_ne _ _ (by omega)⟩
theorem r_new (hw : a_W a cn) (hcn : cn < 2 ^ 30) {s k : Nat} {n : Int32} {z : Nat} (h : a_R (a_new a s k n) z) : (a_R a z ∧ z ≤ a.n) ∨ z = a.n + 1 := by
  have hn : a.n ≤ cn := hw.2.2.2.2.2.2.2.2.2.1
  refine h (fun z => (a_R a z ∧ z ≤ a.n) ∨ z = a.n + 1) (fun r hr => ?_) (fun x b hx he => ?_)
  · have hin : ∀ r, a_root a r → (a_R a r ∧ r ≤ a.n) ∨ r = a.n + 1 := fun r hr => Or.inl ⟨z_R.root hr, (a_R.in hw (z_R.root hr)).2⟩
    rcases hr with ⟨s', h1, h2, h3⟩ | hk
    · have h2 : va_up a.sl s (a.n + 1) s' = r := h2
      by_cases e : s' = s
      · rw [e, va_up_self] at h2
        exact Or.inr h2.symm
      · rw [va_up_ne _ _ e] at h2
        exact hin r (Or.inl ⟨s', h1, h2, h3⟩)
    · exact hin r (Or.inr hk)
  · obtain ⟨h1, h2, h3, h4, k', h5, h6⟩ := he
    have h2 : x ≤ a.n + 1 := h2
    have h4 : b ≤ a.n + 1 := h4
    have h6 : a.ct x k' = lN b := h6
    have b0 : ∀ b' : Nat, b' ≤ a.n → a.ct x k' = lN b' → b = b' := fun b' hb z => (lN_eq (by omega) (by omega)).mp (h6.symm.trans z)
    rcases hx with ⟨hx, hx2⟩ | hx
    · have h5 := (a_ref.eq (a_new.old hx2).1).mp h5
      obtain ⟨b', b1, b2⟩ := hw.2.2.2.2.1 x k' h1 hx2 h5
      have e := b0 b' b1 b2
      exact Or.inl ⟨z_R.step hx ⟨h1, hx2, h3, by omega, k', h5, h6⟩, by omega⟩
    · have e := b0 0 (by omega) ((hw.2.2.2.2.2.1 x (by omega)).2 k')
      omega
theorem a_putc.ct {o : Nat} {k : Int32} {v : Int64} {x : Nat} {k' : Int32} (h : ¬ (x = o ∧ k' = k)) : (a_putc a o k v).ct x k' = a.ct x k' := by
  show va_up a.ct o (fun z => if z = k then v else a.ct o z) x k' = _
  by_cases e : x = o
  · rw [e, va_up_self]
    exact if_neg (fun z => h ⟨e, z⟩)
  · rw [va_up_ne _ _ e]
theorem a_putc.self {o : Nat} {k : Int32} {v : Int64} : (a_putc a o k v).ct o k = v := by
  show va_up a.ct o (fun z => if z = k then v else a.ct o z) o k = _
  rw [va_up_self]
  exact if_pos rfl
theorem r_putv {o : Nat} {k : Int32} {v : Int64} (hr : ¬ a_ref a o k) {z : Nat} (h : a_R (a_putc a o k v) z) : a_R a z := by
  refine h (a_R a) (fun r hr => z_R.root hr) (fun x b hx he => z_R.step hx ?_)
  obtain ⟨h1, h2, h3, h4, k', h5, h6⟩ := he
  have h5 : a_ref a x k' := h5
  rw [a_putc.ct (fun z => hr (by rw [← z.1, ← z.2]; exact h5))] at h6
  exact ⟨h1, h2, h3, h4, k', h5, h6⟩
theorem r_putr (hw : a_W a cn) (hcn : cn < 2 ^ 30) {o : Nat} {k : Int32} {t : Nat} (ht : t < 32) {z : Nat} (h : a_R (a_putc a o k (lN (a.sl t))) z) : a_R a z := by
  have hn : a.n ≤ cn := hw.2.2.2.2.2.2.2.2.2.1
  refine h (a_R a) (fun r hr => z_R.root hr) (fun x b hx he => ?_)
  obtain ⟨h1, h2, h3, h4, k', h5, h6⟩ := he
  have h4 : b ≤ a.n := h4
  by_cases e : x = o ∧ k' = k
  · rw [e.1, e.2, a_putc.self] at h6
    have hs := hw.2.2.1 t ht
    have e2 : a.sl t = b := (lN_eq (by omega) (by omega)).mp h6
    rw [← e2]
    exact a_R.sl ht (by omega)
  · rw [a_putc.ct e] at h6
    exact z_R.step hx ⟨h1, h2, h3, h4, k', h5, h6⟩
theorem r_keep {o : Nat} (ho : a_R a o) {z : Nat} (h : a_R (a_keep a o) z) : a_R a z := by
  refine h (a_R a) (fun r hr => ?_) (fun x b hx he => z_R.step hx he)
  rcases hr with hs | hk | hk
  · exact z_R.root (Or.inl hs)
  · exact z_R.root (Or.inr hk)
  · rw [hk]; exact ho
/-- the class holds what it held, or another memory with as many objects -/
theorem c_R.of {cK cI : ClassId} {a a' : Ab} {g : y_G} {d ka sa : Nat} {fk fs : Nat → Option Nat} {ad : Nat → Nat} {cs : Nat → List CL} {ks : List Nat} {itv : Int32} {u wk cn : Nat} {sn : Nat → Nat} {np : Nat → Option Nat} {lv : Nat → Prop}
    (hC : c_S a' g d ka sa cK cI fk fs ad cs ks itv (nI u) wk sn np none) (hsn : ∀ o, 1 ≤ o → o ≤ a.n → sn o ≤ wk) (hwk : wk ≤ cn) (hu : u = z_sum (a_wd a) lv a.n) (hum : u ≤ a'.mem) (hlv : ∀ o, a_R a o → lv o) (hn : a'.n = a.n) (hwd : ∀ o, 1 ≤ o → o ≤ a.n → a_wd a' o = a_wd a o) (hR : ∀ o, a_R a' o → a_R a o) : c_R cK cI a' g d (cn + 1) :=
  ⟨ka, sa, fk, fs, ad, cs, ks, itv, u, wk, sn, np, lv, hC, fun o a1 a2 => hsn o a1 (by omega), by omega, by rw [hu, hn]; exact (z_congr (fun _ _ _ => Iff.rfl) (fun o a1 a2 _ => hwd o a1 a2)).symm, hum, fun o z => hlv o (hR o z)⟩
theorem w_bad {Es : List String} {E : String} {i cn cn' d : Nat} {cK cI : ClassId} {S : An} {g : y_G} (hi : Es[i]? = some E) (h : S = (i + 1, none, a)) (hR : c_R cK cI a g d cn) (hc : cn ≤ cn' + 1) : x_out Es S (.inr E) ∧ c_R cK cI S.2.2 g d (cn' + 1) := by
  subst h
  exact ⟨⟨E, hi, rfl⟩, hR.up hc⟩
theorem w_good {Es : List String} {cn d : Nat} {cK cI : ClassId} {S : An} {v : Option Value} {a' : Ab} {g : y_G} (h : S = (0, v, a')) (hR : c_R cK cI a' g d (cn + 1)) : x_out Es S (.inl v) ∧ c_R cK cI S.2.2 g d (cn + 1) := by
  subst h
  exact ⟨rfl, hR⟩
end CReach
end
section
/-! the face's methods: plain, row, copy, drop, same -/
section CPub
variable {p : Program} {l : Launch} {e : Env} {R : Room} {s : State} {m : MethodId} {args : Array Value} {below : List Frame} {meth : Method} {c : Code} {H : Heap} {locs : List Loc} {cells slots : Nat} {Q : State → Prop} {cc : ByteArray} {pc a : Nat} {ls : Array Slot} {rest : List Value} {D : va_G} {cl : List vw_C} {tys : List (ClassId × FieldType)} {g : y_G} {A : Nat → Prop} {H0 : Heap}
/-- a store of an object of the array's own class -/
theorem y_astS (hexec : p.tables.exec = Jvm.exec) (hb : c.code = cc) (hK : va_K D cl tys s) (hP : y_P D cl g H) (hA : ∀ q e, g q = some e → A q) (hS : va_S A H0 H locs) (t0 ci : Nat) {cA : ClassId} {r : vw_C} {n v : Nat} {vs : List Value} {f : Nat → Option Nat} (ha : g a = some (.inl (cA, n, .inr (.inr (.inr (.inr f)))))) (ht : tys[t0]? = some (cA, .object r.1)) (hv : g v = some (.inr (ci, vs))) (hc : cl[ci]? = some r) {i : Int32} (hin : vp_in i n) (hdg : decode cc pc = .ok (.aastore, 1))
    (kk : ∀ (H1 : Heap) (locs1 : List Loc), y_P D cl (va_up g a (some (.inl (cA, n, .inr (.inr (.inr (.inr (va_up f i.toNatClampNeg (some v))))))))) H1 → (∀ q e, va_up g a (some (.inl (cA, n, .inr (.inr (.inr (.inr (va_up f i.toNatClampNeg (some v)))))))) q = some e → A q) → va_S A H0 H1 locs1 → W p l e R s m args below meth c H1 locs1 cells slots Q (F0 m (pc + 1) ls rest)) :
    W p l e R s m args below meth c H locs cells slots Q (F0 m pc ls (.ref v :: .int i :: .ref a :: rest)) := by
  have hlt : ∀ q e, g q = some e → q < H.size := fun q e h => y_lt hP h
  obtain ⟨j, hj⟩ := y_idx (hlt a _ ha) ha
  obtain ⟨k, hk⟩ := y_idx (hlt v _ hv) hv
  refine va_astq hexec hb hK (y_toL hP H.size) (y_D hA H.size) hS j t0 k ci hj ht hk hc hin hdg (fun H1 locs1 h1 _ h3 => ?_)
  refine kk H1 locs1 (y_ofSet hlt hj h1) (fun q e h => ?_) h3
  by_cases hq : q = a
  · rw [hq]; exact hA a _ ha
  · rw [va_up_ne _ _ hq] at h; exact hA q e h
abbrev rmP : Room := { frames := 8, cells := 6, slots := 60, locals := 200 }
theorem c_ob.none {ad : Nat → Nat} {o : Nat} (h : c_ob ad o = none) : o = 0 := by
  unfold c_ob at h
  by_cases e : o = 0
  · exact e
  · rw [if_neg e] at h; cases h
theorem c_ob.some {ad : Nat → Nat} {o q : Nat} (h : c_ob ad o = some q) : o ≠ 0 ∧ q = ad o := by
  unfold c_ob at h
  by_cases e : o = 0
  · rw [if_pos e] at h; cases h
  · rw [if_neg e] at h; cases h; exact ⟨e, rfl⟩
theorem c_ob.at {ad : Nat → Nat} {o : Nat} (h : o ≠ 0) : c_ob ad o = .some (ad o) := if_neg h
theorem c_ob.inj {a : Ab} {cn : Nat} {g : y_G} {d ka sa : Nat} {cK cI : ClassId} {fk fs : Nat → Option Nat} {ad : Nat → Nat} {cs : Nat → List CL} {ks : List Nat} {itv us : Int32} {wk : Nat} {sn : Nat → Nat} {np : Nat → Option Nat} {pe : Option Nat} (hC : c_S a g d ka sa cK cI fk fs ad cs ks itv us wk sn np pe) {o o' : Nat} (h1 : o ≤ a.n) (h2 : o' ≤ a.n) : c_ob ad o = c_ob ad o' ↔ o = o' := by
  refine ⟨fun h => ?_, fun h => by rw [h]⟩
  by_cases e : o = 0
  · rw [e] at h
    have h : c_ob ad o' = Option.none := h.symm
    rw [c_ob.none h, e]
  · rw [c_ob.at e] at h
    obtain ⟨z1, z2⟩ := c_ob.some h.symm
    exact hC.2.2.2.2.1 o o' (by omega) h1 (by omega) h2 z2
theorem w_b1 {X : Prop} (h : X) : q_bit X = some (.int 1) := congrArg (fun z => some (Value.int z)) (c_bit.y h)
theorem w_b0 {X : Prop} (h : ¬ X) : q_bit X = some (.int 0) := congrArg (fun z => some (Value.int z)) (c_bit.n h)
end CPub
theorem b_lt17 {w : Int32} (h : w ≤ 16) : w < 17 := by
  rw [Int32.le_iff_toInt_le] at h
  rw [Int32.lt_iff_toInt_lt]
  have e1 : (16 : Int32).toInt = 16 := rfl
  have e2 : (17 : Int32).toInt = 17 := rfl
  omega
theorem b_le17 {w : Int32} (h : w < 17) : w ≤ 16 := by
  rw [Int32.lt_iff_toInt_lt] at h
  rw [Int32.le_iff_toInt_le]
  have e1 : (16 : Int32).toInt = 16 := rfl
  have e2 : (17 : Int32).toInt = 17 := rfl
  omega
theorem b_lt5 {w : Int32} (h : w ≤ 4) : w < 5 := by
  rw [Int32.le_iff_toInt_le] at h
  rw [Int32.lt_iff_toInt_lt]
  have e1 : (4 : Int32).toInt = 4 := rfl
  have e2 : (5 : Int32).toInt = 5 := rfl
  omega
theorem b_le5 {w : Int32} (h : w < 5) : w ≤ 4 := by
  rw [Int32.lt_iff_toInt_lt] at h
  rw [Int32.le_iff_toInt_le]
  have e1 : (4 : Int32).toInt = 4 := rfl
  have e2 : (5 : Int32).toInt = 5 := rfl
  omega
set_option maxHeartbeats 4000000 in
set_option maxRecDepth 100000 in
/-- plain(k, words, mask) -/
theorem c_De_plain (l : Launch) (hst : l.stackTraces = false) (D : va_G) (cK cI cN cZ cL : ClassId) (g : y_G) (sz : Nat) (a : Ab) (cn d : Nat) (k w mk : Int32) (hw : a_W a cn) (hcn : cn < 2 ^ 30) (hR : c_R cK cI a g d cn) : x_M l y_De_plain [.code y_De_plain b_De_plain 4 none] rmP (w_Pc D (x_tys cK cI cN cZ cL) [.ref d, .int k, .int w, .int mk] g sz) (w_Qc D g sz (fun r g9 => x_out [xIAE] (s_plain a k w mk) r ∧ c_R cK cI (s_plain a k w mk).2.2 g9 d (cn + 1))) 6 60 (y_A g sz) := by
  refine x_ofW (cc := b_De_plain) (maxL := 4) (ret := none) (by decide) rfl ?_
  intro p e s m args below meth c s₁ B hml hno hv
  obtain ⟨rfl, hsz, hP, hE⟩ := hv
  subst hsz
  have hts := hE.hts ([.ref d, .int k, .int w, .int mk] : List Value).toArray
  have hK := hE.1.2.1
  have hA0 : ∀ q, s.heap.size ≤ q → y_A g s.heap.size q := fun q h => Or.inr h
  have hA : ∀ q e, g q = some e → y_A g s.heap.size q := fun q e h => Or.inl (by rw [h]; exact fun z => nomatch z)
  have hS : va_S (y_A g s.heap.size) s.heap s.heap [] := va_S.rf
  generalize hAe : y_A g s.heap.size = A at hE hA0 hA hS ⊢
  have hx := B.exec
  have hb := B.bytes
  have hr := B.returns
  have hlocks := B.notSynchronized
  have hown : s.vm.findClass R_De = some m.cls := findClass_of_methodNamed B.named
  have hl := lv_entry ([.ref d, .int k, .int w, .int mk]) (n := 4) (Nat.le_of_ble_eq_true rfl)
  rw [lg_entry_eq]
  generalize (lg_sl ([.ref d, .int k, .int w, .int mk]) ++ List.replicate (4 - (lg_sl ([.ref d, .int k, .int w, .int mk])).length) Slot.unset).toArray = ls at hl ⊢
  have hl : lv_has ls 4 [(0, .ref d), (1, .int k), (2, .int w), (3, .int mk)] := hl
  have hR0 := hR
  obtain ⟨ka, sa, fk, fs, ad, cs, ks, itv, u, wk, sn, np, lv, hC, hsn, hwk, hu, hum, hlv⟩ := hR
  have hn9 : a.n ≤ cn := hw.2.2.2.2.2.2.2.2.2.1
  have hmm : a.mem ≤ 65536 := hw.2.2.2.2.2.2.2.2.1
  refine lv_aload_n hx hb d_De_plain_0 rfl (lv_at hl 0 rfl) ?_
  refine lv_iload_n hx hb d_De_plain_1 rfl (lv_at hl 1 rfl) ?_
  refine w_callV (As := [.int k]) (C := R_De) ⟨hx, hb, hml, hown, hts⟩ (c_De_checkUndefined l hst D cK cI cN cZ cL _ _ d ka sa _ _ _ _ _ _ _ _ _ k fk hC.1.1 hC.1.2.1) (x_cb (cwV (own := R_De) (index := 26) (C := R_De) 1 hts (x_gi (by decide +kernel)) rfl rfl rfl (by decide +kernel) ⟨by decide, by decide⟩).1) (hts (.instanceMethod y_De_checkUndefined) (by decide +kernel)) (hts (.selects R_De y_De_checkUndefined y_De_checkUndefined) (by decide +kernel)) (y_recv (ci := 4) (q := (R_De, F_De, 11)) hK hP rfl hC.1.1) hE hP hA hA0 hS rfl hl.1 rfl (lv_room (Nat.le_of_ble_eq_true rfl)) d_De_plain_2 (by first | decide | omega) (by first | decide | omega) (fun v9 g9 H locs hq9 hP hA hS => ?_) (fun E9 q9 ce9 g9 H locs hq9 hP hA hS z1 z2 z3 => ?_)
  · skip
    obtain ⟨hg9, hq9⟩ := hq9
    rw [hg9] at hP hA
    rcases hq9 with ⟨hv9, hki, hfk⟩ | ⟨hv9, -⟩
    · cases hv9
      refine W.eq (g2 := F0 m 5 ls []) rfl ?_
      have hkd : a.kd (j_n k) = none := by
        rcases hC.2.1 (j_n k) hki.j16 with z | ⟨q, x, z1, z2, -⟩
        · exact z.1
        · rw [hfk] at z2; cases z2
      refine lv_iload_n hx hb d_De_plain_5 rfl (lv_at hl 2 rfl) ?_
      refine lv_if_lt hx hb d_De_plain_6 rfl (fun h1 => ?_) (fun h1 => ?_)
      · -- iflt at 6: to 15
        obtain ⟨sa, hstr⟩ := hE.1.2.2.2.1 (32, "words is not 0..16") (by decide)
        refine W.widen (k := 6 - 1) (n := 60 - 6) (by first | decide | omega) (by first | decide | omega) ?_
        exact x_throw (A := A) (cls := "java/lang/IllegalArgumentException") (names := ["java/lang/RuntimeException", "java/lang/Exception"]) hx hb hst hown (by decide) (by decide) (hts (.classLink R_De 30 "java/lang/IllegalArgumentException") (by decide +kernel)) (hts (.initialized "java/lang/IllegalArgumentException") (by decide +kernel)) hstr (fun w hw ho => hE.1.at _ ho (at_IAE w hw ho)) nt_IAE hE.2.1 hE.2.2.1 hS (hl.1.trans hml.symm) d_De_plain_15 d_De_plain_18 d_De_plain_19 d_De_plain_21 d_De_plain_24 (hno 24) (by decide) (by decide) (by decide) (by decide) hlocks (w_thr rfl hAe (w_bad (i := 0) rfl (q_n (fun z => z.2.1.1 h1)) hR0 (Nat.le_succ _)) hP hA hS) hS.2.2
      · -- iflt at 6: to 9
        refine lv_iload_n hx hb d_De_plain_9 rfl (lv_at hl 2 rfl) ?_
        refine lv_bipush (v := 16) hx hb d_De_plain_10 (by decide) ?_
        refine lv_icmp_le hx hb d_De_plain_12 rfl (fun h2 => ?_) (fun h2 => ?_)
        · -- if_icmple at 12: to 25
          refine lv_iload_n hx hb d_De_plain_25 rfl (lv_at hl 3 rfl) ?_
          refine lv_iload_n hx hb d_De_plain_26 rfl (lv_at hl 2 rfl) ?_
          refine lv_iushr hx hb d_De_plain_27 rfl ?_
          refine lv_if_eq hx hb d_De_plain_28 rfl (fun h3 => ?_) (fun h3 => ?_)
          · -- ifeq at 28: to 41
            refine lv_aload_n hx hb d_De_plain_41 rfl (lv_at hl 0 rfl) ?_
            refine y_get (D := D) (ci := 4) (v := .ref ka) (C := R_De) (T := F_De) (N := 11) hx hb hts in_De hown hK hP hC.1.1 rfl 0 (by decide) (hts (.fieldLink R_De 11 "MemoryDesk" "kinds" "[LMemoryDesk$Kind;") (by decide +kernel)) (fun _ h9 => h9) rfl d_De_plain_42 ?_
            refine lv_iload_n hx hb d_De_plain_45 rfl (lv_at hl 1 rfl) ?_
            refine y_new (ci := 2) (fs := [.int 0, .int 0]) (C := R_Pk) (T := F_Pk) (N := 2) hx hb hts in_Pk t_Pk t_Pk_ok hown (hts (.classLink R_De 39 R_Pk) (by decide +kernel)) (hts (.instantiable R_Pk 2) (by decide +kernel)) (hts (.initialized R_Pk) (by decide +kernel)) hK hP hA hS hA0 rfl (fun j hj => by rcases (show j = 0 ∨ j = 1 by omega) with rfl | rfl <;> rfl) (by first | decide | omega) (by first | decide | omega) d_De_plain_46 (fun x H hg_x hP hA hS => ?_)
            refine lv_dup hx hb d_De_plain_49 rfl ?_
            refine lv_iload_n hx hb d_De_plain_50 rfl (lv_at hl 2 rfl) ?_
            refine lv_iload_n hx hb d_De_plain_51 rfl (lv_at hl 3 rfl) ?_
            refine w_callI (As := [.int w, .int mk]) (bytes := b_Pk_init) ⟨hx, hb, hml, hown, hts⟩ (c_Pk_init l D _ _ _ x w mk (va_up_self _ _ _)) (x_cb (cwI (own := R_De) (index := 41) 2 hts (x_gi (by decide +kernel)) rfl rfl rfl (hts (.initialized R_Pk) (by decide +kernel)) (hts (.methodLink R_De 41 y_Pk_init) (by decide +kernel)) (hts (.instanceMethod y_Pk_init) (by decide +kernel)) rfl (by decide +kernel) ⟨by decide, by decide⟩).1) rfl (hts (.instanceMethod y_Pk_init) (by decide +kernel)) (hts (.code y_Pk_init b_Pk_init 3 none) (by decide +kernel)) hE hP hA hA0 hS (fun _ _ z => nomatch z.1) rfl hl.1 rfl (lv_room (Nat.le_of_ble_eq_true rfl)) d_De_plain_52 (by first | decide | omega) (by first | decide | omega) (fun v9 g9 H locs hq9 hP hA hS => ?_)
            obtain ⟨hv9, hg9⟩ := hq9
            cases hv9
            rw [hg9] at hP hA
            refine W.eq (g2 := F0 m 55 ls [.ref x, .int k, .ref ka]) rfl ?_
            rw [bx_uu] at hP hA
            have hP : y_P D vwCl (va_up g x (some (e_plain w mk))) H := hP
            have hA : ∀ q99 e99, (va_up g x (some (e_plain w mk))) q99 = some e99 → A q99 := hA
            have hkx : ka ≠ x := fun z => by rw [← z, hC.1.2.1] at hg_x; cases hg_x
            have hka : (va_up g x (some (e_plain w mk))) ka = some (e_refs cK 16 fk) := by rw [va_up_ne _ _ hkx]; exact hC.1.2.1
            refine y_astO (r := (R_Pk, F_Pk, 2)) hx hb hK hP hA hS 0 2 hka rfl (hE.1.2.2.1 (.castable R_Pk "MemoryDesk$Kind") (by decide +kernel)) (va_up_self _ _ _) rfl hki.v16 d_De_plain_55 (fun H locs hP hA hS => ?_)
            refine W.widen (k := 6) (n := 60) (by first | decide | omega) (by first | decide | omega) ?_
            exact x_ret (W.vret hx hb hr (w_fin rfl hAe (w_good (v := none) (q_y ⟨hki, ⟨h1, b_lt17 h2⟩, h3, hkd⟩) (c_R.of (hC.kind (q := (-1, w, mk)) hki.j16 hkd hg_x (Or.inl ⟨show (-1 : Int32) < 0 by decide, va_up_self _ _ _⟩)) hsn hwk hu hum hlv rfl (fun o a1 a2 => a_wd.eq (a_kind.old hw hkd a1 a2) rfl) (fun o z => r_kind hw hkd z))) hP hA hS) hS.2.2 d_De_plain_56)
          · -- ifeq at 28: to 31
            obtain ⟨sa, hstr⟩ := hE.1.2.2.2.1 (37, "the mask names words that there are not") (by decide)
            refine W.widen (k := 6 - 1) (n := 60 - 6) (by first | decide | omega) (by first | decide | omega) ?_
            exact x_throw (A := A) (cls := "java/lang/IllegalArgumentException") (names := ["java/lang/RuntimeException", "java/lang/Exception"]) hx hb hst hown (by decide) (by decide) (hts (.classLink R_De 30 "java/lang/IllegalArgumentException") (by decide +kernel)) (hts (.initialized "java/lang/IllegalArgumentException") (by decide +kernel)) hstr (fun w hw ho => hE.1.at _ ho (at_IAE w hw ho)) nt_IAE hE.2.1 hE.2.2.1 hS (hl.1.trans hml.symm) d_De_plain_31 d_De_plain_34 d_De_plain_35 d_De_plain_37 d_De_plain_40 (hno 40) (by decide) (by decide) (by decide) (by decide) hlocks (w_thr rfl hAe (w_bad (i := 0) rfl (q_n (fun z => h3 z.2.2.1)) hR0 (Nat.le_succ _)) hP hA hS) hS.2.2
        · -- if_icmple at 12: to 15
          obtain ⟨sa, hstr⟩ := hE.1.2.2.2.1 (32, "words is not 0..16") (by decide)
          refine W.widen (k := 6 - 1) (n := 60 - 6) (by first | decide | omega) (by first | decide | omega) ?_
          exact x_throw (A := A) (cls := "java/lang/IllegalArgumentException") (names := ["java/lang/RuntimeException", "java/lang/Exception"]) hx hb hst hown (by decide) (by decide) (hts (.classLink R_De 30 "java/lang/IllegalArgumentException") (by decide +kernel)) (hts (.initialized "java/lang/IllegalArgumentException") (by decide +kernel)) hstr (fun w hw ho => hE.1.at _ ho (at_IAE w hw ho)) nt_IAE hE.2.1 hE.2.2.1 hS (hl.1.trans hml.symm) d_De_plain_15 d_De_plain_18 d_De_plain_19 d_De_plain_21 d_De_plain_24 (hno 24) (by decide) (by decide) (by decide) (by decide) hlocks (w_thr rfl hAe (w_bad (i := 0) rfl (q_n (fun z => h2 (b_le17 z.2.1.2))) hR0 (Nat.le_succ _)) hP hA hS) hS.2.2
    · cases hv9
  · skip
    obtain ⟨hg9, hq9⟩ := hq9
    rw [hg9] at hP hA
    rcases hq9 with ⟨hv9, -⟩ | ⟨hv9, hno9⟩
    · cases hv9
    · cases hv9
      have hno8 : ¬ (b_in k 16 ∧ a.kd (j_n k) = none) := fun z => hno9 ⟨z.1, by
        rcases hC.2.1 (j_n k) z.1.j16 with y | ⟨q, x, z1, z2, -⟩
        · exact y.2
        · rw [z.2] at z1; cases z1⟩
      refine x_W.widen (k := 6) (n := 60) (by first | decide | omega) (by first | decide | omega) ?_
      exact x_leave (hno 2) hlocks (w_lea rfl hAe (w_bad (i := 0) rfl (q_n (fun z => hno8 ⟨z.1, z.2.2.2⟩)) hR0 (Nat.le_succ _)) hP hA hS z1 z2 z3) hS.2.2
set_option maxHeartbeats 4000000 in
set_option maxRecDepth 100000 in
/-- row(k, elements) -/
theorem c_De_row (l : Launch) (hst : l.stackTraces = false) (D : va_G) (cK cI cN cZ cL : ClassId) (g : y_G) (sz : Nat) (a : Ab) (cn d : Nat) (k el : Int32) (hw : a_W a cn) (hcn : cn < 2 ^ 30) (hR : c_R cK cI a g d cn) : x_M l y_De_row [.code y_De_row b_De_row 3 none] rmP (w_Pc D (x_tys cK cI cN cZ cL) [.ref d, .int k, .int el] g sz) (w_Qc D g sz (fun r g9 => x_out [xIAE] (s_row a k el) r ∧ c_R cK cI (s_row a k el).2.2 g9 d (cn + 1))) 6 60 (y_A g sz) := by
  refine x_ofW (cc := b_De_row) (maxL := 3) (ret := none) (by decide) rfl ?_
  intro p e s m args below meth c s₁ B hml hno hv
  obtain ⟨rfl, hsz, hP, hE⟩ := hv
  subst hsz
  have hts := hE.hts ([.ref d, .int k, .int el] : List Value).toArray
  have hK := hE.1.2.1
  have hA0 : ∀ q, s.heap.size ≤ q → y_A g s.heap.size q := fun q h => Or.inr h
  have hA : ∀ q e, g q = some e → y_A g s.heap.size q := fun q e h => Or.inl (by rw [h]; exact fun z => nomatch z)
  have hS : va_S (y_A g s.heap.size) s.heap s.heap [] := va_S.rf
  generalize hAe : y_A g s.heap.size = A at hE hA0 hA hS ⊢
  have hx := B.exec
  have hb := B.bytes
  have hr := B.returns
  have hlocks := B.notSynchronized
  have hown : s.vm.findClass R_De = some m.cls := findClass_of_methodNamed B.named
  have hl := lv_entry ([.ref d, .int k, .int el]) (n := 3) (Nat.le_of_ble_eq_true rfl)
  rw [lg_entry_eq]
  generalize (lg_sl ([.ref d, .int k, .int el]) ++ List.replicate (3 - (lg_sl ([.ref d, .int k, .int el])).length) Slot.unset).toArray = ls at hl ⊢
  have hl : lv_has ls 3 [(0, .ref d), (1, .int k), (2, .int el)] := hl
  have hR0 := hR
  obtain ⟨ka, sa, fk, fs, ad, cs, ks, itv, u, wk, sn, np, lv, hC, hsn, hwk, hu, hum, hlv⟩ := hR
  have hn9 : a.n ≤ cn := hw.2.2.2.2.2.2.2.2.2.1
  have hmm : a.mem ≤ 65536 := hw.2.2.2.2.2.2.2.2.1
  refine lv_aload_n hx hb d_De_row_0 rfl (lv_at hl 0 rfl) ?_
  refine lv_iload_n hx hb d_De_row_1 rfl (lv_at hl 1 rfl) ?_
  refine w_callV (As := [.int k]) (C := R_De) ⟨hx, hb, hml, hown, hts⟩ (c_De_checkUndefined l hst D cK cI cN cZ cL _ _ d ka sa _ _ _ _ _ _ _ _ _ k fk hC.1.1 hC.1.2.1) (x_cb (cwV (own := R_De) (index := 26) (C := R_De) 1 hts (x_gi (by decide +kernel)) rfl rfl rfl (by decide +kernel) ⟨by decide, by decide⟩).1) (hts (.instanceMethod y_De_checkUndefined) (by decide +kernel)) (hts (.selects R_De y_De_checkUndefined y_De_checkUndefined) (by decide +kernel)) (y_recv (ci := 4) (q := (R_De, F_De, 11)) hK hP rfl hC.1.1) hE hP hA hA0 hS rfl hl.1 rfl (lv_room (Nat.le_of_ble_eq_true rfl)) d_De_row_2 (by first | decide | omega) (by first | decide | omega) (fun v9 g9 H locs hq9 hP hA hS => ?_) (fun E9 q9 ce9 g9 H locs hq9 hP hA hS z1 z2 z3 => ?_)
  · skip
    obtain ⟨hg9, hq9⟩ := hq9
    rw [hg9] at hP hA
    rcases hq9 with ⟨hv9, hki, hfk⟩ | ⟨hv9, -⟩
    · cases hv9
      refine W.eq (g2 := F0 m 5 ls []) rfl ?_
      have hkd : a.kd (j_n k) = none := by
        rcases hC.2.1 (j_n k) hki.j16 with z | ⟨q, x, z1, z2, -⟩
        · exact z.1
        · rw [hfk] at z2; cases z2
      refine lv_iload_n hx hb d_De_row_5 rfl (lv_at hl 2 rfl) ?_
      refine lv_if_lt hx hb d_De_row_6 rfl (fun h1 => ?_) (fun h1 => ?_)
      · -- iflt at 6: to 14
        obtain ⟨sa, hstr⟩ := hE.1.2.2.2.1 (44, "elements is not 0..4") (by decide)
        refine W.widen (k := 6 - 1) (n := 60 - 6) (by first | decide | omega) (by first | decide | omega) ?_
        exact x_throw (A := A) (cls := "java/lang/IllegalArgumentException") (names := ["java/lang/RuntimeException", "java/lang/Exception"]) hx hb hst hown (by decide) (by decide) (hts (.classLink R_De 30 "java/lang/IllegalArgumentException") (by decide +kernel)) (hts (.initialized "java/lang/IllegalArgumentException") (by decide +kernel)) hstr (fun w hw ho => hE.1.at _ ho (at_IAE w hw ho)) nt_IAE hE.2.1 hE.2.2.1 hS (hl.1.trans hml.symm) d_De_row_14 d_De_row_17 d_De_row_18 d_De_row_20 d_De_row_23 (hno 23) (by decide) (by decide) (by decide) (by decide) hlocks (w_thr rfl hAe (w_bad (i := 0) rfl (q_n (fun z => z.2.1.1 h1)) hR0 (Nat.le_succ _)) hP hA hS) hS.2.2
      · -- iflt at 6: to 9
        refine lv_iload_n hx hb d_De_row_9 rfl (lv_at hl 2 rfl) ?_
        refine lv_iconst (v := 4) hx hb d_De_row_10 (by decide) ?_
        refine lv_icmp_le hx hb d_De_row_11 rfl (fun h2 => ?_) (fun h2 => ?_)
        · -- if_icmple at 11: to 24
          have hel : b_in el 5 := ⟨h1, b_lt5 h2⟩
          have vel : vp_in el 5 := by
            obtain ⟨j1, j2⟩ := b_in.j (n := 5) hel (by decide)
            rw [j2]
            exact vp_in_nI j1 (by decide)
          refine lv_aload_n hx hb d_De_row_24 rfl (lv_at hl 0 rfl) ?_
          refine y_get (D := D) (ci := 4) (v := .ref ka) (C := R_De) (T := F_De) (N := 11) hx hb hts in_De hown hK hP hC.1.1 rfl 0 (by decide) (hts (.fieldLink R_De 11 "MemoryDesk" "kinds" "[LMemoryDesk$Kind;") (by decide +kernel)) (fun _ h9 => h9) rfl d_De_row_25 ?_
          refine lv_iload_n hx hb d_De_row_28 rfl (lv_at hl 1 rfl) ?_
          refine y_new (ci := 3) (fs := [.int 0, .int 0]) (C := R_Rk) (T := F_Rk) (N := 2) hx hb hts in_Rk t_Rk t_Rk_ok hown (hts (.classLink R_De 46 R_Rk) (by decide +kernel)) (hts (.instantiable R_Rk 2) (by decide +kernel)) (hts (.initialized R_Rk) (by decide +kernel)) hK hP hA hS hA0 rfl (fun j hj => by rcases (show j = 0 ∨ j = 1 by omega) with rfl | rfl <;> rfl) (by first | decide | omega) (by first | decide | omega) d_De_row_29 (fun x H hg_x hP hA hS => ?_)
          refine lv_dup hx hb d_De_row_32 rfl ?_
          refine lv_iload_n hx hb d_De_row_33 rfl (lv_at hl 2 rfl) ?_
          obtain ⟨t9, hZ9, hT9⟩ := hE.2.2.2
          refine va_gets (C := R_De) (ref := R_De) hx hb hZ9 hS hown (hts (.fieldLink R_De 48 R_De "ELEMENT_BITS" "[I") (by decide +kernel)) (fun _ h9 => h9) d_De_row_34 ?_
          refine lv_iload_n hx hb d_De_row_37 rfl (lv_at hl 2 rfl) ?_
          refine va_ti hx hb hT9 hS (vel) (v := .int (c_bits el)) rfl d_De_row_38 ?_
          refine w_callI (As := [.int el, .int (c_bits el)]) (bytes := b_Rk_init) ⟨hx, hb, hml, hown, hts⟩ (c_Rk_init l D _ _ _ x el (c_bits el) (va_up_self _ _ _)) (x_cb (cwI (own := R_De) (index := 52) 2 hts (x_gi (by decide +kernel)) rfl rfl rfl (hts (.initialized R_Rk) (by decide +kernel)) (hts (.methodLink R_De 52 y_Rk_init) (by decide +kernel)) (hts (.instanceMethod y_Rk_init) (by decide +kernel)) rfl (by decide +kernel) ⟨by decide, by decide⟩).1) rfl (hts (.instanceMethod y_Rk_init) (by decide +kernel)) (hts (.code y_Rk_init b_Rk_init 3 none) (by decide +kernel)) hE hP hA hA0 hS (fun _ _ z => nomatch z.1) rfl hl.1 rfl (lv_room (Nat.le_of_ble_eq_true rfl)) d_De_row_39 (by first | decide | omega) (by first | decide | omega) (fun v9 g9 H locs hq9 hP hA hS => ?_)
          obtain ⟨hv9, hg9⟩ := hq9
          cases hv9
          rw [hg9] at hP hA
          refine W.eq (g2 := F0 m 42 ls [.ref x, .int k, .ref ka]) rfl ?_
          rw [bx_uu] at hP hA
          have hP : y_P D vwCl (va_up g x (some (e_row el (c_bits el)))) H := hP
          have hA : ∀ q99 e99, (va_up g x (some (e_row el (c_bits el)))) q99 = some e99 → A q99 := hA
          have hkx : ka ≠ x := fun z => by rw [← z, hC.1.2.1] at hg_x; cases hg_x
          have hka : (va_up g x (some (e_row el (c_bits el)))) ka = some (e_refs cK 16 fk) := by rw [va_up_ne _ _ hkx]; exact hC.1.2.1
          refine y_astO (r := (R_Rk, F_Rk, 2)) hx hb hK hP hA hS 0 3 hka rfl (hE.1.2.2.1 (.castable R_Rk "MemoryDesk$Kind") (by decide +kernel)) (va_up_self _ _ _) rfl hki.v16 d_De_row_42 (fun H locs hP hA hS => ?_)
          refine W.widen (k := 6) (n := 60) (by first | decide | omega) (by first | decide | omega) ?_
          exact x_ret (W.vret hx hb hr (w_fin rfl hAe (w_good (v := none) (q_y ⟨hki, hel, hkd⟩) (c_R.of (hC.kind (q := (el, 0, 0)) hki.j16 hkd hg_x (Or.inr ⟨hel.1, va_up_self _ _ _⟩)) hsn hwk hu hum hlv rfl (fun o a1 a2 => a_wd.eq (a_kind.old hw hkd a1 a2) rfl) (fun o z => r_kind hw hkd z))) hP hA hS) hS.2.2 d_De_row_43)
        · -- if_icmple at 11: to 14
          obtain ⟨sa, hstr⟩ := hE.1.2.2.2.1 (44, "elements is not 0..4") (by decide)
          refine W.widen (k := 6 - 1) (n := 60 - 6) (by first | decide | omega) (by first | decide | omega) ?_
          exact x_throw (A := A) (cls := "java/lang/IllegalArgumentException") (names := ["java/lang/RuntimeException", "java/lang/Exception"]) hx hb hst hown (by decide) (by decide) (hts (.classLink R_De 30 "java/lang/IllegalArgumentException") (by decide +kernel)) (hts (.initialized "java/lang/IllegalArgumentException") (by decide +kernel)) hstr (fun w hw ho => hE.1.at _ ho (at_IAE w hw ho)) nt_IAE hE.2.1 hE.2.2.1 hS (hl.1.trans hml.symm) d_De_row_14 d_De_row_17 d_De_row_18 d_De_row_20 d_De_row_23 (hno 23) (by decide) (by decide) (by decide) (by decide) hlocks (w_thr rfl hAe (w_bad (i := 0) rfl (q_n (fun z => h2 (b_le5 z.2.1.2))) hR0 (Nat.le_succ _)) hP hA hS) hS.2.2
    · cases hv9
  · skip
    obtain ⟨hg9, hq9⟩ := hq9
    rw [hg9] at hP hA
    rcases hq9 with ⟨hv9, -⟩ | ⟨hv9, hno9⟩
    · cases hv9
    · cases hv9
      have hno8 : ¬ (b_in k 16 ∧ a.kd (j_n k) = none) := fun z => hno9 ⟨z.1, by
        rcases hC.2.1 (j_n k) z.1.j16 with y | ⟨q, x, z1, z2, -⟩
        · exact y.2
        · rw [z.2] at z1; cases z1⟩
      refine x_W.widen (k := 6) (n := 60) (by first | decide | omega) (by first | decide | omega) ?_
      exact x_leave (hno 2) hlocks (w_lea rfl hAe (w_bad (i := 0) rfl (q_n (fun z => hno8 ⟨z.1, z.2.2⟩)) hR0 (Nat.le_succ _)) hP hA hS z1 z2 z3) hS.2.2
set_option maxHeartbeats 4000000 in
set_option maxRecDepth 100000 in
/-- copy(s, t) -/
theorem c_De_copy (l : Launch) (hst : l.stackTraces = false) (D : va_G) (cK cI cN cZ cL : ClassId) (g : y_G) (sz : Nat) (a : Ab) (cn d : Nat) (sv t : Int32) (hw : a_W a cn) (hcn : cn < 2 ^ 30) (hR : c_R cK cI a g d cn) : x_M l y_De_copy [.code y_De_copy b_De_copy 3 (some .boolean)] rmP (w_Pc D (x_tys cK cI cN cZ cL) [.ref d, .int sv, .int t] g sz) (w_Qc D g sz (fun r g9 => x_out [xIAE] (s_copy a sv t) r ∧ c_R cK cI (s_copy a sv t).2.2 g9 d (cn + 1))) 6 60 (y_A g sz) := by
  refine x_ofW (cc := b_De_copy) (maxL := 3) (ret := (some .boolean)) (by decide) rfl ?_
  intro p e s m args below meth c s₁ B hml hno hv
  obtain ⟨rfl, hsz, hP, hE⟩ := hv
  subst hsz
  have hts := hE.hts ([.ref d, .int sv, .int t] : List Value).toArray
  have hK := hE.1.2.1
  have hA0 : ∀ q, s.heap.size ≤ q → y_A g s.heap.size q := fun q h => Or.inr h
  have hA : ∀ q e, g q = some e → y_A g s.heap.size q := fun q e h => Or.inl (by rw [h]; exact fun z => nomatch z)
  have hS : va_S (y_A g s.heap.size) s.heap s.heap [] := va_S.rf
  generalize hAe : y_A g s.heap.size = A at hE hA0 hA hS ⊢
  have hx := B.exec
  have hb := B.bytes
  have hr := B.returns
  have hlocks := B.notSynchronized
  have hown : s.vm.findClass R_De = some m.cls := findClass_of_methodNamed B.named
  have hl := lv_entry ([.ref d, .int sv, .int t]) (n := 3) (Nat.le_of_ble_eq_true rfl)
  rw [lg_entry_eq]
  generalize (lg_sl ([.ref d, .int sv, .int t]) ++ List.replicate (3 - (lg_sl ([.ref d, .int sv, .int t])).length) Slot.unset).toArray = ls at hl ⊢
  have hl : lv_has ls 3 [(0, .ref d), (1, .int sv), (2, .int t)] := hl
  have hR0 := hR
  obtain ⟨ka, sa, fk, fs, ad, cs, ks, itv, u, wk, sn, np, lv, hC, hsn, hwk, hu, hum, hlv⟩ := hR
  have hn9 : a.n ≤ cn := hw.2.2.2.2.2.2.2.2.2.1
  have hmm : a.mem ≤ 65536 := hw.2.2.2.2.2.2.2.2.1
  refine lv_iload_n hx hb d_De_copy_0 rfl (lv_at hl 1 rfl) ?_
  refine w_callS (As := [.int sv]) ⟨hx, hb, hml, hown, hts⟩ (c_De_checkSlot l hst D _ _ _ sv) (x_cb (va_cwS (own := R_De) (index := 53) 1 hts (x_gi (by decide +kernel)) rfl rfl rfl (by decide +kernel) ⟨by decide, by decide⟩).1) (hts (.static y_De_checkSlot) (by decide +kernel)) hE hP hA hA0 hS rfl hl.1 rfl (lv_room (Nat.le_of_ble_eq_true rfl)) d_De_copy_1 (by first | decide | omega) (by first | decide | omega) (fun v9 g9 H locs hq9 hP hA hS => ?_) (fun E9 q9 ce9 g9 H locs hq9 hP hA hS z1 z2 z3 => ?_)
  · skip
    obtain ⟨hg9, hq9⟩ := hq9
    rw [hg9] at hP hA
    rcases hq9 with ⟨hv9, hs⟩ | ⟨hv9, -⟩
    · cases hv9
      refine W.eq (g2 := F0 m 4 ls []) rfl ?_
      refine lv_iload_n hx hb d_De_copy_4 rfl (lv_at hl 2 rfl) ?_
      refine w_callS (As := [.int t]) ⟨hx, hb, hml, hown, hts⟩ (c_De_checkSlot l hst D _ _ _ t) (x_cb (va_cwS (own := R_De) (index := 53) 1 hts (x_gi (by decide +kernel)) rfl rfl rfl (by decide +kernel) ⟨by decide, by decide⟩).1) (hts (.static y_De_checkSlot) (by decide +kernel)) hE hP hA hA0 hS rfl hl.1 rfl (lv_room (Nat.le_of_ble_eq_true rfl)) d_De_copy_5 (by first | decide | omega) (by first | decide | omega) (fun v9 g9 H locs hq9 hP hA hS => ?_) (fun E9 q9 ce9 g9 H locs hq9 hP hA hS z1 z2 z3 => ?_)
      · skip
        obtain ⟨hg9, hq9⟩ := hq9
        rw [hg9] at hP hA
        rcases hq9 with ⟨hv9, ht⟩ | ⟨hv9, -⟩
        · cases hv9
          refine W.eq (g2 := F0 m 8 ls []) rfl ?_
          refine lv_aload_n hx hb d_De_copy_8 rfl (lv_at hl 0 rfl) ?_
          refine y_get (D := D) (ci := 4) (v := .ref sa) (C := R_De) (T := F_De) (N := 11) hx hb hts in_De hown hK hP hC.1.1 rfl 1 (by decide) (hts (.fieldLink R_De 17 "MemoryDesk" "slots" "[LMemoryDesk$Item;") (by decide +kernel)) (fun _ h9 => h9) rfl d_De_copy_9 ?_
          refine lv_iload_n hx hb d_De_copy_12 rfl (lv_at hl 1 rfl) ?_
          refine lv_aload_n hx hb d_De_copy_13 rfl (lv_at hl 0 rfl) ?_
          refine y_get (D := D) (ci := 4) (v := .ref sa) (C := R_De) (T := F_De) (N := 11) hx hb hts in_De hown hK hP hC.1.1 rfl 1 (by decide) (hts (.fieldLink R_De 17 "MemoryDesk" "slots" "[LMemoryDesk$Item;") (by decide +kernel)) (fun _ h9 => h9) rfl d_De_copy_14 ?_
          refine lv_iload_n hx hb d_De_copy_17 rfl (lv_at hl 2 rfl) ?_
          refine y_aldq hx hb hK hP 1 hC.1.2.2 rfl ht.v32 d_De_copy_18 ?_
          have hft := hC.2.2.1 (j_n t) ht.j32
          obtain ⟨o_q, hq⟩ : ∃ z, (fs t.toNatClampNeg) = z := ⟨_, rfl⟩
          refine W.eq (g2 := F0 m 19 ls [va_rf o_q, .int sv, .ref sa]) (congrArg (fun z => F0 m 19 ls [va_rf z, .int sv, .ref sa]) hq) ?_
          cases o_q with
          | none =>
            refine y_astN hx hb hK hP hA hS 1 hC.1.2.2 rfl hs.v32 d_De_copy_19 (fun H locs hP hA hS => ?_)
            have hP : y_P D vwCl (va_up g sa (some (e_refs cI 32 (va_up fs (j_n sv) none)))) H := hP
            have hA : ∀ q99 e99, (va_up g sa (some (e_refs cI 32 (va_up fs (j_n sv) none)))) q99 = some e99 → A q99 := hA
            refine lv_aload_n hx hb d_De_copy_20 rfl (lv_at hl 0 rfl) ?_
            have hd1 : (va_up g sa (some (e_refs cI 32 (va_up fs (j_n sv) none)))) d = some (.inr (4, [.ref ka, .ref sa, .int (nI a.mem), .int (nI a.n), .int (nI a.kc), .int (nI a.nn), .int itv, va_rf (ks.head?.map ad), .int (nI u), .int (nI wk), .null])) := by rw [va_up_ne _ _ hC.dne.2.1.symm]; exact hC.1.1
            refine y_get (D := D) (ci := 4) (v := .ref sa) (C := R_De) (T := F_De) (N := 11) hx hb hts in_De hown hK hP hd1 rfl 1 (by decide) (hts (.fieldLink R_De 17 "MemoryDesk" "slots" "[LMemoryDesk$Item;") (by decide +kernel)) (fun _ h9 => h9) rfl d_De_copy_21 ?_
            refine lv_iload_n hx hb d_De_copy_24 rfl (lv_at hl 1 rfl) ?_
            refine y_aldq hx hb hK hP 1 (va_up_self _ _ _) rfl hs.v32 d_De_copy_25 ?_
            rw [va_up_self]
            refine lv_ifnullN hx hb d_De_copy_26 rfl ?_
            refine lv_iconst (v := 0) hx hb d_De_copy_33 (by decide) ?_
            refine W.widen (k := 6) (n := 60) (by first | decide | omega) (by first | decide | omega) ?_
            exact x_ret (W.zret (v := 0) hx hb hr rfl (w_fin rfl hAe (w_good (v := some (.int 0)) ((q_y ⟨hs, ht⟩).trans (by rw [w_b0 (fun z => z (c_ob.none (hft.symm.trans hq)))])) (c_R.of (hC.slot (s := j_n sv) (o := a.sl (j_n t)) (hq.symm.trans hft)) hsn hwk hu hum hlv rfl (fun _ _ _ => rfl) (fun o z => r_puts (Classical.byCases Or.inl (fun h0 => Or.inr (a_R.sl ht.j32 h0))) z))) hP hA hS) hS.2.2 d_De_copy_34)
          | some q =>
            obtain ⟨hq0, hq1⟩ := c_ob.some (hft.symm.trans hq)
            obtain ⟨x, -, hit⟩ := hC.2.2.2.1 (a.sl (j_n t)) (by omega) (hw.2.2.1 _ ht.j32)
            rw [← hq1] at hit
            refine y_astS (r := (R_It, F_It, 9)) hx hb hK hP hA hS 1 1 hC.1.2.2 rfl hit rfl hs.v32 d_De_copy_19 (fun H locs hP hA hS => ?_)
            have hP : y_P D vwCl (va_up g sa (some (e_refs cI 32 (va_up fs (j_n sv) (some q))))) H := hP
            have hA : ∀ q99 e99, (va_up g sa (some (e_refs cI 32 (va_up fs (j_n sv) (some q))))) q99 = some e99 → A q99 := hA
            refine lv_aload_n hx hb d_De_copy_20 rfl (lv_at hl 0 rfl) ?_
            have hd1 : (va_up g sa (some (e_refs cI 32 (va_up fs (j_n sv) (some q))))) d = some (.inr (4, [.ref ka, .ref sa, .int (nI a.mem), .int (nI a.n), .int (nI a.kc), .int (nI a.nn), .int itv, va_rf (ks.head?.map ad), .int (nI u), .int (nI wk), .null])) := by rw [va_up_ne _ _ hC.dne.2.1.symm]; exact hC.1.1
            refine y_get (D := D) (ci := 4) (v := .ref sa) (C := R_De) (T := F_De) (N := 11) hx hb hts in_De hown hK hP hd1 rfl 1 (by decide) (hts (.fieldLink R_De 17 "MemoryDesk" "slots" "[LMemoryDesk$Item;") (by decide +kernel)) (fun _ h9 => h9) rfl d_De_copy_21 ?_
            refine lv_iload_n hx hb d_De_copy_24 rfl (lv_at hl 1 rfl) ?_
            refine y_aldq hx hb hK hP 1 (va_up_self _ _ _) rfl hs.v32 d_De_copy_25 ?_
            rw [va_up_self]
            refine lv_ifnull hx hb d_De_copy_26 ?_
            refine lv_iconst (v := 1) hx hb d_De_copy_29 (by decide) ?_
            refine lv_goto hx hb d_De_copy_30 rfl ?_
            refine W.widen (k := 6) (n := 60) (by first | decide | omega) (by first | decide | omega) ?_
            exact x_ret (W.zret (v := 1) hx hb hr rfl (w_fin rfl hAe (w_good (v := some (.int 1)) ((q_y ⟨hs, ht⟩).trans (by rw [w_b1 (c_ob.some (hft.symm.trans hq)).1])) (c_R.of (hC.slot (s := j_n sv) (o := a.sl (j_n t)) (hq.symm.trans hft)) hsn hwk hu hum hlv rfl (fun _ _ _ => rfl) (fun o z => r_puts (Classical.byCases Or.inl (fun h0 => Or.inr (a_R.sl ht.j32 h0))) z))) hP hA hS) hS.2.2 d_De_copy_34)
        · cases hv9
      · skip
        obtain ⟨hg9, hq9⟩ := hq9
        rw [hg9] at hP hA
        rcases hq9 with ⟨hv9, -⟩ | ⟨hv9, ht⟩
        · cases hv9
        · cases hv9
          refine x_W.widen (k := 6) (n := 60) (by first | decide | omega) (by first | decide | omega) ?_
          exact x_leave (hno 5) hlocks (w_lea rfl hAe (w_bad (i := 0) rfl (q_n (fun z => ht z.2)) hR0 (Nat.le_succ _)) hP hA hS z1 z2 z3) hS.2.2
    · cases hv9
  · skip
    obtain ⟨hg9, hq9⟩ := hq9
    rw [hg9] at hP hA
    rcases hq9 with ⟨hv9, -⟩ | ⟨hv9, hs⟩
    · cases hv9
    · cases hv9
      refine x_W.widen (k := 6) (n := 60) (by first | decide | omega) (by first | decide | omega) ?_
      exact x_leave (hno 1) hlocks (w_lea rfl hAe (w_bad (i := 0) rfl (q_n (fun z => hs z.1)) hR0 (Nat.le_succ _)) hP hA hS z1 z2 z3) hS.2.2
set_option maxHeartbeats 4000000 in
set_option maxRecDepth 100000 in
/-- drop(s) -/
theorem c_De_drop (l : Launch) (hst : l.stackTraces = false) (D : va_G) (cK cI cN cZ cL : ClassId) (g : y_G) (sz : Nat) (a : Ab) (cn d : Nat) (sv : Int32) (hw : a_W a cn) (hcn : cn < 2 ^ 30) (hR : c_R cK cI a g d cn) : x_M l y_De_drop [.code y_De_drop b_De_drop 3 (some .boolean)] rmP (w_Pc D (x_tys cK cI cN cZ cL) [.ref d, .int sv] g sz) (w_Qc D g sz (fun r g9 => x_out [xIAE] (s_drop a sv) r ∧ c_R cK cI (s_drop a sv).2.2 g9 d (cn + 1))) 6 60 (y_A g sz) := by
  refine x_ofW (cc := b_De_drop) (maxL := 3) (ret := (some .boolean)) (by decide) rfl ?_
  intro p e s m args below meth c s₁ B hml hno hv
  obtain ⟨rfl, hsz, hP, hE⟩ := hv
  subst hsz
  have hts := hE.hts ([.ref d, .int sv] : List Value).toArray
  have hK := hE.1.2.1
  have hA0 : ∀ q, s.heap.size ≤ q → y_A g s.heap.size q := fun q h => Or.inr h
  have hA : ∀ q e, g q = some e → y_A g s.heap.size q := fun q e h => Or.inl (by rw [h]; exact fun z => nomatch z)
  have hS : va_S (y_A g s.heap.size) s.heap s.heap [] := va_S.rf
  generalize hAe : y_A g s.heap.size = A at hE hA0 hA hS ⊢
  have hx := B.exec
  have hb := B.bytes
  have hr := B.returns
  have hlocks := B.notSynchronized
  have hown : s.vm.findClass R_De = some m.cls := findClass_of_methodNamed B.named
  have hl := lv_entry ([.ref d, .int sv]) (n := 3) (Nat.le_of_ble_eq_true rfl)
  rw [lg_entry_eq]
  generalize (lg_sl ([.ref d, .int sv]) ++ List.replicate (3 - (lg_sl ([.ref d, .int sv])).length) Slot.unset).toArray = ls at hl ⊢
  have hl : lv_has ls 3 [(0, .ref d), (1, .int sv)] := hl
  have hR0 := hR
  obtain ⟨ka, sa, fk, fs, ad, cs, ks, itv, u, wk, sn, np, lv, hC, hsn, hwk, hu, hum, hlv⟩ := hR
  have hn9 : a.n ≤ cn := hw.2.2.2.2.2.2.2.2.2.1
  have hmm : a.mem ≤ 65536 := hw.2.2.2.2.2.2.2.2.1
  refine lv_iload_n hx hb d_De_drop_0 rfl (lv_at hl 1 rfl) ?_
  refine w_callS (As := [.int sv]) ⟨hx, hb, hml, hown, hts⟩ (c_De_checkSlot l hst D _ _ _ sv) (x_cb (va_cwS (own := R_De) (index := 53) 1 hts (x_gi (by decide +kernel)) rfl rfl rfl (by decide +kernel) ⟨by decide, by decide⟩).1) (hts (.static y_De_checkSlot) (by decide +kernel)) hE hP hA hA0 hS rfl hl.1 rfl (lv_room (Nat.le_of_ble_eq_true rfl)) d_De_drop_1 (by first | decide | omega) (by first | decide | omega) (fun v9 g9 H locs hq9 hP hA hS => ?_) (fun E9 q9 ce9 g9 H locs hq9 hP hA hS z1 z2 z3 => ?_)
  · skip
    obtain ⟨hg9, hq9⟩ := hq9
    rw [hg9] at hP hA
    rcases hq9 with ⟨hv9, hs⟩ | ⟨hv9, -⟩
    · cases hv9
      refine W.eq (g2 := F0 m 4 ls []) rfl ?_
      refine lv_aload_n hx hb d_De_drop_4 rfl (lv_at hl 0 rfl) ?_
      refine y_get (D := D) (ci := 4) (v := .ref sa) (C := R_De) (T := F_De) (N := 11) hx hb hts in_De hown hK hP hC.1.1 rfl 1 (by decide) (hts (.fieldLink R_De 17 "MemoryDesk" "slots" "[LMemoryDesk$Item;") (by decide +kernel)) (fun _ h9 => h9) rfl d_De_drop_5 ?_
      refine lv_iload_n hx hb d_De_drop_8 rfl (lv_at hl 1 rfl) ?_
      refine y_aldq hx hb hK hP 1 hC.1.2.2 rfl hs.v32 d_De_drop_9 ?_
      have hft := hC.2.2.1 (j_n sv) hs.j32
      obtain ⟨o_q, hq⟩ : ∃ z, (fs sv.toNatClampNeg) = z := ⟨_, rfl⟩
      refine W.eq (g2 := F0 m 10 ls [va_rf o_q]) (congrArg (fun z => F0 m 10 ls [va_rf z]) hq) ?_
      cases o_q with
      | none =>
        refine lv_ifnullN hx hb d_De_drop_10 rfl ?_
        refine lv_iconst (v := 0) hx hb d_De_drop_17 (by decide) ?_
        refine lv_istore_n hx hb d_De_drop_18 rfl hl (by decide) rfl (fun ls hl => ?_)
        have hl : lv_has ls 3 [(2, .int 0), (0, .ref d), (1, .int sv)] := hl
        refine lv_aload_n hx hb d_De_drop_19 rfl (lv_at hl 1 rfl) ?_
        refine y_get (D := D) (ci := 4) (v := .ref sa) (C := R_De) (T := F_De) (N := 11) hx hb hts in_De hown hK hP hC.1.1 rfl 1 (by decide) (hts (.fieldLink R_De 17 "MemoryDesk" "slots" "[LMemoryDesk$Item;") (by decide +kernel)) (fun _ h9 => h9) rfl d_De_drop_20 ?_
        refine lv_iload_n hx hb d_De_drop_23 rfl (lv_at hl 2 rfl) ?_
        refine lv_null hx hb d_De_drop_24 ?_
        refine y_astN hx hb hK hP hA hS 1 hC.1.2.2 rfl hs.v32 d_De_drop_25 (fun H locs hP hA hS => ?_)
        refine lv_iload_n hx hb d_De_drop_26 rfl (lv_at hl 0 rfl) ?_
        refine W.widen (k := 6) (n := 60) (by first | decide | omega) (by first | decide | omega) ?_
        exact x_ret (W.zret (v := 0) hx hb hr rfl (w_fin rfl hAe (w_good (v := some (.int 0)) ((q_y hs).trans (by rw [w_b0 (fun z => z (c_ob.none (hft.symm.trans hq)))])) (c_R.of (hC.slot (s := j_n sv) (o := 0) rfl) hsn hwk hu hum hlv rfl (fun _ _ _ => rfl) (fun o z => r_puts (Or.inl rfl) z))) hP hA hS) hS.2.2 d_De_drop_27)
      | some q =>
        refine lv_ifnull hx hb d_De_drop_10 ?_
        refine lv_iconst (v := 1) hx hb d_De_drop_13 (by decide) ?_
        refine lv_goto hx hb d_De_drop_14 rfl ?_
        refine lv_istore_n hx hb d_De_drop_18 rfl hl (by decide) rfl (fun ls hl => ?_)
        have hl : lv_has ls 3 [(2, .int 1), (0, .ref d), (1, .int sv)] := hl
        refine lv_aload_n hx hb d_De_drop_19 rfl (lv_at hl 1 rfl) ?_
        refine y_get (D := D) (ci := 4) (v := .ref sa) (C := R_De) (T := F_De) (N := 11) hx hb hts in_De hown hK hP hC.1.1 rfl 1 (by decide) (hts (.fieldLink R_De 17 "MemoryDesk" "slots" "[LMemoryDesk$Item;") (by decide +kernel)) (fun _ h9 => h9) rfl d_De_drop_20 ?_
        refine lv_iload_n hx hb d_De_drop_23 rfl (lv_at hl 2 rfl) ?_
        refine lv_null hx hb d_De_drop_24 ?_
        refine y_astN hx hb hK hP hA hS 1 hC.1.2.2 rfl hs.v32 d_De_drop_25 (fun H locs hP hA hS => ?_)
        refine lv_iload_n hx hb d_De_drop_26 rfl (lv_at hl 0 rfl) ?_
        refine W.widen (k := 6) (n := 60) (by first | decide | omega) (by first | decide | omega) ?_
        exact x_ret (W.zret (v := 1) hx hb hr rfl (w_fin rfl hAe (w_good (v := some (.int 1)) ((q_y hs).trans (by rw [w_b1 (c_ob.some (hft.symm.trans hq)).1])) (c_R.of (hC.slot (s := j_n sv) (o := 0) rfl) hsn hwk hu hum hlv rfl (fun _ _ _ => rfl) (fun o z => r_puts (Or.inl rfl) z))) hP hA hS) hS.2.2 d_De_drop_27)
    · cases hv9
  · skip
    obtain ⟨hg9, hq9⟩ := hq9
    rw [hg9] at hP hA
    rcases hq9 with ⟨hv9, -⟩ | ⟨hv9, hs⟩
    · cases hv9
    · cases hv9
      refine x_W.widen (k := 6) (n := 60) (by first | decide | omega) (by first | decide | omega) ?_
      exact x_leave (hno 1) hlocks (w_lea rfl hAe (w_bad (i := 0) rfl (q_n hs) hR0 (Nat.le_succ _)) hP hA hS z1 z2 z3) hS.2.2
set_option maxHeartbeats 4000000 in
set_option maxRecDepth 100000 in
/-- same(s, t) -/
theorem c_De_same (l : Launch) (hst : l.stackTraces = false) (D : va_G) (cK cI cN cZ cL : ClassId) (g : y_G) (sz : Nat) (a : Ab) (cn d : Nat) (sv t : Int32) (hw : a_W a cn) (hcn : cn < 2 ^ 30) (hR : c_R cK cI a g d cn) : x_M l y_De_same [.code y_De_same b_De_same 3 (some .boolean)] rmP (w_Pc D (x_tys cK cI cN cZ cL) [.ref d, .int sv, .int t] g sz) (w_Qc D g sz (fun r g9 => x_out [xIAE] (s_same a sv t) r ∧ c_R cK cI (s_same a sv t).2.2 g9 d (cn + 1))) 6 60 (y_A g sz) := by
  refine x_ofW (cc := b_De_same) (maxL := 3) (ret := (some .boolean)) (by decide) rfl ?_
  intro p e s m args below meth c s₁ B hml hno hv
  obtain ⟨rfl, hsz, hP, hE⟩ := hv
  subst hsz
  have hts := hE.hts ([.ref d, .int sv, .int t] : List Value).toArray
  have hK := hE.1.2.1
  have hA0 : ∀ q, s.heap.size ≤ q → y_A g s.heap.size q := fun q h => Or.inr h
  have hA : ∀ q e, g q = some e → y_A g s.heap.size q := fun q e h => Or.inl (by rw [h]; exact fun z => nomatch z)
  have hS : va_S (y_A g s.heap.size) s.heap s.heap [] := va_S.rf
  generalize hAe : y_A g s.heap.size = A at hE hA0 hA hS ⊢
  have hx := B.exec
  have hb := B.bytes
  have hr := B.returns
  have hlocks := B.notSynchronized
  have hown : s.vm.findClass R_De = some m.cls := findClass_of_methodNamed B.named
  have hl := lv_entry ([.ref d, .int sv, .int t]) (n := 3) (Nat.le_of_ble_eq_true rfl)
  rw [lg_entry_eq]
  generalize (lg_sl ([.ref d, .int sv, .int t]) ++ List.replicate (3 - (lg_sl ([.ref d, .int sv, .int t])).length) Slot.unset).toArray = ls at hl ⊢
  have hl : lv_has ls 3 [(0, .ref d), (1, .int sv), (2, .int t)] := hl
  have hR0 := hR
  obtain ⟨ka, sa, fk, fs, ad, cs, ks, itv, u, wk, sn, np, lv, hC, hsn, hwk, hu, hum, hlv⟩ := hR
  have hn9 : a.n ≤ cn := hw.2.2.2.2.2.2.2.2.2.1
  have hmm : a.mem ≤ 65536 := hw.2.2.2.2.2.2.2.2.1
  refine lv_iload_n hx hb d_De_same_0 rfl (lv_at hl 1 rfl) ?_
  refine w_callS (As := [.int sv]) ⟨hx, hb, hml, hown, hts⟩ (c_De_checkSlot l hst D _ _ _ sv) (x_cb (va_cwS (own := R_De) (index := 53) 1 hts (x_gi (by decide +kernel)) rfl rfl rfl (by decide +kernel) ⟨by decide, by decide⟩).1) (hts (.static y_De_checkSlot) (by decide +kernel)) hE hP hA hA0 hS rfl hl.1 rfl (lv_room (Nat.le_of_ble_eq_true rfl)) d_De_same_1 (by first | decide | omega) (by first | decide | omega) (fun v9 g9 H locs hq9 hP hA hS => ?_) (fun E9 q9 ce9 g9 H locs hq9 hP hA hS z1 z2 z3 => ?_)
  · skip
    obtain ⟨hg9, hq9⟩ := hq9
    rw [hg9] at hP hA
    rcases hq9 with ⟨hv9, hs⟩ | ⟨hv9, -⟩
    · cases hv9
      refine W.eq (g2 := F0 m 4 ls []) rfl ?_
      refine lv_iload_n hx hb d_De_same_4 rfl (lv_at hl 2 rfl) ?_
      refine w_callS (As := [.int t]) ⟨hx, hb, hml, hown, hts⟩ (c_De_checkSlot l hst D _ _ _ t) (x_cb (va_cwS (own := R_De) (index := 53) 1 hts (x_gi (by decide +kernel)) rfl rfl rfl (by decide +kernel) ⟨by decide, by decide⟩).1) (hts (.static y_De_checkSlot) (by decide +kernel)) hE hP hA hA0 hS rfl hl.1 rfl (lv_room (Nat.le_of_ble_eq_true rfl)) d_De_same_5 (by first | decide | omega) (by first | decide | omega) (fun v9 g9 H locs hq9 hP hA hS => ?_) (fun E9 q9 ce9 g9 H locs hq9 hP hA hS z1 z2 z3 => ?_)
      · skip
        obtain ⟨hg9, hq9⟩ := hq9
        rw [hg9] at hP hA
        rcases hq9 with ⟨hv9, ht⟩ | ⟨hv9, -⟩
        · cases hv9
          refine W.eq (g2 := F0 m 8 ls []) rfl ?_
          refine lv_aload_n hx hb d_De_same_8 rfl (lv_at hl 0 rfl) ?_
          refine y_get (D := D) (ci := 4) (v := .ref sa) (C := R_De) (T := F_De) (N := 11) hx hb hts in_De hown hK hP hC.1.1 rfl 1 (by decide) (hts (.fieldLink R_De 17 "MemoryDesk" "slots" "[LMemoryDesk$Item;") (by decide +kernel)) (fun _ h9 => h9) rfl d_De_same_9 ?_
          refine lv_iload_n hx hb d_De_same_12 rfl (lv_at hl 1 rfl) ?_
          refine y_aldq hx hb hK hP 1 hC.1.2.2 rfl hs.v32 d_De_same_13 ?_
          refine lv_aload_n hx hb d_De_same_14 rfl (lv_at hl 0 rfl) ?_
          refine y_get (D := D) (ci := 4) (v := .ref sa) (C := R_De) (T := F_De) (N := 11) hx hb hts in_De hown hK hP hC.1.1 rfl 1 (by decide) (hts (.fieldLink R_De 17 "MemoryDesk" "slots" "[LMemoryDesk$Item;") (by decide +kernel)) (fun _ h9 => h9) rfl d_De_same_15 ?_
          refine lv_iload_n hx hb d_De_same_18 rfl (lv_at hl 2 rfl) ?_
          refine y_aldq hx hb hK hP 1 hC.1.2.2 rfl ht.v32 d_De_same_19 ?_
          have hfs := hC.2.2.1 (j_n sv) hs.j32
          have hft := hC.2.2.1 (j_n t) ht.j32
          have hiff : fs (j_n sv) = fs (j_n t) ↔ a.sl (j_n sv) = a.sl (j_n t) := by rw [hfs, hft]; exact c_ob.inj (cn := cn) hC (hw.2.2.1 _ hs.j32) (hw.2.2.1 _ ht.j32)
          refine lv_acmp_ne hx hb d_De_same_20 rfl (fun h9 => ?_) (fun h9 => ?_)
          · skip
            refine lv_iconst (v := 0) hx hb d_De_same_27 (by decide) ?_
            refine W.widen (k := 6) (n := 60) (by first | decide | omega) (by first | decide | omega) ?_
            exact x_ret (W.zret (v := 0) hx hb hr rfl (w_fin rfl hAe (w_good (v := some (.int 0)) ((q_y ⟨hs, ht⟩).trans (by rw [w_b0 (fun z => h9 (hiff.mpr z))])) (hR0.up (Nat.le_succ _))) hP hA hS) hS.2.2 d_De_same_28)
          · skip
            refine lv_iconst (v := 1) hx hb d_De_same_23 (by decide) ?_
            refine lv_goto hx hb d_De_same_24 rfl ?_
            refine W.widen (k := 6) (n := 60) (by first | decide | omega) (by first | decide | omega) ?_
            exact x_ret (W.zret (v := 1) hx hb hr rfl (w_fin rfl hAe (w_good (v := some (.int 1)) ((q_y ⟨hs, ht⟩).trans (by rw [w_b1 (hiff.mp h9)])) (hR0.up (Nat.le_succ _))) hP hA hS) hS.2.2 d_De_same_28)
        · cases hv9
      · skip
        obtain ⟨hg9, hq9⟩ := hq9
        rw [hg9] at hP hA
        rcases hq9 with ⟨hv9, -⟩ | ⟨hv9, ht⟩
        · cases hv9
        · cases hv9
          refine x_W.widen (k := 6) (n := 60) (by first | decide | omega) (by first | decide | omega) ?_
          exact x_leave (hno 5) hlocks (w_lea rfl hAe (w_bad (i := 0) rfl (q_n (fun z => ht z.2)) hR0 (Nat.le_succ _)) hP hA hS z1 z2 z3) hS.2.2
    · cases hv9
  · skip
    obtain ⟨hg9, hq9⟩ := hq9
    rw [hg9] at hP hA
    rcases hq9 with ⟨hv9, -⟩ | ⟨hv9, hs⟩
    · cases hv9
    · cases hv9
      refine x_W.widen (k := 6) (n := 60) (by first | decide | omega) (by first | decide | omega) ?_
      exact x_leave (hno 1) hlocks (w_lea rfl hAe (w_bad (i := 0) rfl (q_n (fun z => hs z.1)) hR0 (Nat.le_succ _)) hP hA hS z1 z2 z3) hS.2.2
end
section
/-! the face's methods that look into an object: get, put, link, follow, keep, number, size -/
section CPub2
theorem s_pl1 {a : Ab} {s k : Int32} {rf : Prop} {f : Nat → An} (hs : ¬ b_in s 32) : s_pl a s k rf f = (1, none, a) := q_n hs
theorem s_pl2 {a : Ab} {s k : Int32} {rf : Prop} {f : Nat → An} (hs : b_in s 32) (h0 : a.sl (j_n s) = 0) : s_pl a s k rf f = (2, none, a) := (q_y hs).trans (q_y h0)
theorem s_pl3 {a : Ab} {s k : Int32} {rf : Prop} {f : Nat → An} (hs : b_in s 32) (h0 : a.sl (j_n s) ≠ 0) (hk : ¬ b_in k (a_len a (a.sl (j_n s)))) : s_pl a s k rf f = (3, none, a) := (q_y hs).trans ((q_n h0).trans (q_n hk))
theorem s_pl4 {a : Ab} {s k : Int32} {rf : Prop} {f : Nat → An} (hs : b_in s 32) (h0 : a.sl (j_n s) ≠ 0) (hk : b_in k (a_len a (a.sl (j_n s)))) (hr : ¬ (a_ref a (a.sl (j_n s)) k ↔ rf)) : s_pl a s k rf f = (4, none, a) := (q_y hs).trans ((q_n h0).trans ((q_y hk).trans (q_n hr)))
theorem s_pl0 {a : Ab} {s k : Int32} {rf : Prop} {f : Nat → An} (hs : b_in s 32) (h0 : a.sl (j_n s) ≠ 0) (hk : b_in k (a_len a (a.sl (j_n s)))) (hr : a_ref a (a.sl (j_n s)) k ↔ rf) : s_pl a s k rf f = f (a.sl (j_n s)) := (q_y hs).trans ((q_n h0).trans ((q_y hk).trans (q_y hr)))
theorem s_in2 {a : Ab} {s : Int32} {f : Nat → An} (hs : b_in s 32) (h0 : a.sl (j_n s) = 0) : s_in a s f = (2, none, a) := (q_y hs).trans (q_y h0)
theorem s_in0 {a : Ab} {s : Int32} {f : Nat → An} (hs : b_in s 32) (h0 : a.sl (j_n s) ≠ 0) : s_in a s f = f (a.sl (j_n s)) := (q_y hs).trans (q_n h0)
variable {a : Ab} {cn : Nat} {g : y_G} {d ka sa : Nat} {cK cI : ClassId} {fk fs : Nat → Option Nat} {ad : Nat → Nat} {cs : Nat → List CL} {ks : List Nat} {itv us : Int32} {wk : Nat} {sn : Nat → Nat} {np : Nat → Option Nat} {pe : Option Nat}
/-- an object's kind -/
theorem c_S.kq (hC : c_S a g d ka sa cK cI fk fs ad cs ks itv us wk sn np pe) (hw : a_W a cn) {o x : Nat} (o1 : 1 ≤ o) (o2 : o ≤ a.n) (hx : fk (a.ok o) = some x) : ∃ q, a.kd (a.ok o) = some q ∧ a_kin q ∧ c_kq g x q := by
  obtain ⟨k1, q, k2, -⟩ := hw.2.1 o o1 o2
  rcases hC.2.1 (a.ok o) k1 with ⟨-, z⟩ | ⟨q', x', z1, z2, z3⟩
  · rw [hx] at z; cases z
  · rw [hx] at z2; cases z2
    exact ⟨q', z1, hw.1 _ _ k1 z1, z3⟩
theorem c_S.hit (hC : c_S a g d ka sa cK cI fk fs ad cs ks itv us wk sn np pe) (hw : a_W a cn) {s : Int32} (hs : b_in s 32) : ∀ q, fs s.toNatClampNeg = some q → ∃ kx len wd cs tg kp nk sn np, g q = some (e_item kx len wd cs tg kp nk sn np) ∧ c_kd g kx := fun q hq => by
  have h0 := hC.2.2.1 (j_n s) hs.j32
  obtain ⟨z1, z2⟩ := c_ob.some (h0.symm.trans hq)
  have o2 := hw.2.2.1 (j_n s) hs.j32
  obtain ⟨x, z3, z4⟩ := hC.2.2.2.1 _ (by omega) o2
  obtain ⟨qq, -, -, hk⟩ := hC.kq hw (by omega) o2 z3
  rw [z2]
  refine ⟨_, _, _, _, _, _, _, _, _, z4, ?_⟩
  rcases hk with hk | hk
  · exact Or.inl ⟨_, _, hk.2⟩
  · exact Or.inr ⟨_, _, hk.2⟩
/-- what a slot holds -/
theorem c_S.place (hC : c_S a g d ka sa cK cI fk fs ad cs ks itv us wk sn np pe) (hw : a_W a cn) {s : Int32} (hs : b_in s 32) {q kx : Nat} {len wd tg kp sv : Int32} {cs' nk np' : Option Nat} (hfq : fs (j_n s) = some q) (hq : g q = some (e_item kx len wd cs' tg kp nk sv np')) :
    a.sl (j_n s) ≠ 0 ∧ 1 ≤ a.sl (j_n s) ∧ a.sl (j_n s) ≤ a.n ∧ q = ad (a.sl (j_n s)) ∧ len = a_len a (a.sl (j_n s)) ∧ fk (a.ok (a.sl (j_n s))) = some kx ∧ g (ad (a.sl (j_n s))) = some (c_it a ad cs ks kx (nI (sn (a.sl (j_n s)))) (np (a.sl (j_n s))) (a.sl (j_n s))) := by
  have h0 := hC.2.2.1 (j_n s) hs.j32
  obtain ⟨z1, z2⟩ := c_ob.some (h0.symm.trans hfq)
  have o2 := hw.2.2.1 (j_n s) hs.j32
  obtain ⟨x, z3, z4⟩ := hC.2.2.2.1 _ (by omega) o2
  rw [z2] at hq
  have e := hq.symm.trans z4
  injection e with e
  injection e with e
  injection e with e0 e
  injection e with e1 e
  injection e with e2 e
  injection e1 with e1
  injection e2 with e2
  exact ⟨z1, by omega, o2, z2, e2, by rw [z3, e1], by rw [e1]; exact z4⟩
theorem c_S.refs (hC : c_S a g d ka sa cK cI fk fs ad cs ks itv us wk sn np pe) (hw : a_W a cn) {o x : Nat} {k : Int32} (o1 : 1 ≤ o) (o2 : o ≤ a.n) (hx : fk (a.ok o) = some x) (hk : b_in k (a_len a o)) : c_rf g x k ↔ a_ref a o k := by
  obtain ⟨q, z1, z2, z3⟩ := hC.kq hw o1 o2 hx
  rw [f_ref z3 z2 (fun hq => ?_)]
  · constructor
    · exact fun z => ⟨q, z1, z⟩
    · rintro ⟨q', y1, y2⟩
      rw [z1] at y1; cases y1; exact y2
  · unfold a_len at hk
    rw [z1] at hk
    have hk : b_in k (if q.1 < 0 then q.2.1 else a.sz o) := hk
    rw [if_pos hq] at hk
    exact hk
theorem w_rf0 {X : Prop} : (X ↔ (0 : Int32) = 1) ↔ (X ↔ False) := by
  have : ((0 : Int32) = 1) ↔ False := ⟨fun z => absurd z (by decide), False.elim⟩
  rw [this]
theorem w_rf1 {X : Prop} : (X ↔ (1 : Int32) = 1) ↔ (X ↔ True) := by
  have : ((1 : Int32) = 1) ↔ True := ⟨fun _ => trivial, fun _ => rfl⟩
  rw [this]
/-- findOrAdd: a cell is there now -/
theorem c_S.foa (hC : c_S a g d ka sa cK cI fk fs ad cs ks itv us wk sn np pe) {o x : Nat} {k : Int32} (o1 : 1 ≤ o) (o2 : o ≤ a.n) (hx : fk (a.ok o) = some x) {r : Option Value ⊕ String} {g9 : y_G}
    (h : (∃ y, c_fd k (cs o) = some y ∧ r = .inl (some (.ref y)) ∧ g9 = g) ∨ (c_fd k (cs o) = none ∧ ∃ q, g q = none ∧ r = .inl (some (.ref q)) ∧ g9 = va_up (va_up g q (some (e_cell k (c_hd (cs o)) 0 none))) (ad o) (some (e_item x (a_len a o) (nI (a_wd a o)) (some q) (nI (a.nu o)) (c_bit (a.kp o)) ((c_nx ks o).map ad) (nI (sn o)) (np o))))) :
    ∃ (cs1 : Nat → List CL) (q1 : CL) (nx : Option Nat), r = .inl (some (.ref q1.1)) ∧ c_S a g9 d ka sa cK cI fk fs ad cs1 ks itv us wk sn np pe ∧ q1 ∈ cs1 o ∧ q1.2.1 = k ∧ g9 q1.1 = some (e_cell k nx q1.2.2.1 q1.2.2.2) := by
  rcases h with ⟨y, h1, h2, h3⟩ | ⟨h1, q, h2, h3, h4⟩
  · obtain ⟨q1, z1, z2, z3⟩ := c_fd_s h1
    obtain ⟨nx, z4⟩ := (hC.2.2.2.2.2.1 o o1 o2).1.at q1 z1
    refine ⟨cs, q1, nx, by rw [h2, z3], by rw [h3]; exact hC, z1, z2, ?_⟩
    rw [h3, ← z2]; exact z4
  · have hC1 := hC.add o1 o2 hx h2 h1
    rw [← h4] at hC1
    have hm : (q, k, (0 : Int64), (none : Option Nat)) ∈ va_up cs o ((q, k, 0, none) :: cs o) o := by rw [va_up_self]; exact List.mem_cons_self
    obtain ⟨nx, z4⟩ := (hC1.2.2.2.2.2.1 o o1 o2).1.at _ hm
    exact ⟨_, (q, k, 0, none), nx, h3, hC1, hm, rfl, z4⟩
theorem w_lN {b : Nat} (h : b < 2 ^ 31) : (lN b).toInt.toNat = b := by rw [lN_toInt h]; rfl
end CPub2
set_option maxHeartbeats 4000000 in
set_option maxRecDepth 100000 in
/-- get(s, k) -/
theorem c_De_get (l : Launch) (hst : l.stackTraces = false) (D : va_G) (cK cI cN cZ cL : ClassId) (g : y_G) (sz : Nat) (a : Ab) (cn d : Nat) (sv k : Int32) (hw : a_W a cn) (hcn : cn < 2 ^ 30) (hR : c_R cK cI a g d cn) : x_M l y_De_get [.code y_De_get b_De_get 4 (some .long)] rmP (w_Pc D (x_tys cK cI cN cZ cL) [.ref d, .int sv, .int k] g sz) (w_Qc D g sz (fun r g9 => x_out [xIAE, xISE, xIOO, xUOE] (s_get a sv k) r ∧ c_R cK cI (s_get a sv k).2.2 g9 d (cn + 1))) 6 60 (y_A g sz) := by
  refine x_ofW (cc := b_De_get) (maxL := 4) (ret := (some .long)) (by decide) rfl ?_
  intro p e s m args below meth c s₁ B hml hno hv
  obtain ⟨rfl, hsz, hP, hE⟩ := hv
  subst hsz
  have hts := hE.hts ([.ref d, .int sv, .int k] : List Value).toArray
  have hK := hE.1.2.1
  have hA0 : ∀ q, s.heap.size ≤ q → y_A g s.heap.size q := fun q h => Or.inr h
  have hA : ∀ q e, g q = some e → y_A g s.heap.size q := fun q e h => Or.inl (by rw [h]; exact fun z => nomatch z)
  have hS : va_S (y_A g s.heap.size) s.heap s.heap [] := va_S.rf
  generalize hAe : y_A g s.heap.size = A at hE hA0 hA hS ⊢
  have hx := B.exec
  have hb := B.bytes
  have hr := B.returns
  have hlocks := B.notSynchronized
  have hown : s.vm.findClass R_De = some m.cls := findClass_of_methodNamed B.named
  have hl := lv_entry ([.ref d, .int sv, .int k]) (n := 4) (Nat.le_of_ble_eq_true rfl)
  rw [lg_entry_eq]
  generalize (lg_sl ([.ref d, .int sv, .int k]) ++ List.replicate (4 - (lg_sl ([.ref d, .int sv, .int k])).length) Slot.unset).toArray = ls at hl ⊢
  have hl : lv_has ls 4 [(0, .ref d), (1, .int sv), (2, .int k)] := hl
  have hR0 := hR
  obtain ⟨ka, sa, fk, fs, ad, cs, ks, itv, u, wk, sn, np, lv, hC, hsn, hwk, hu, hum, hlv⟩ := hR
  have hn9 : a.n ≤ cn := hw.2.2.2.2.2.2.2.2.2.1
  have hmm : a.mem ≤ 65536 := hw.2.2.2.2.2.2.2.2.1
  refine lv_iload_n hx hb d_De_get_0 rfl (lv_at hl 1 rfl) ?_
  refine w_callS (As := [.int sv]) ⟨hx, hb, hml, hown, hts⟩ (c_De_checkSlot l hst D _ _ _ sv) (x_cb (va_cwS (own := R_De) (index := 53) 1 hts (x_gi (by decide +kernel)) rfl rfl rfl (by decide +kernel) ⟨by decide, by decide⟩).1) (hts (.static y_De_checkSlot) (by decide +kernel)) hE hP hA hA0 hS rfl hl.1 rfl (lv_room (Nat.le_of_ble_eq_true rfl)) d_De_get_1 (by first | decide | omega) (by first | decide | omega) (fun v9 g9 H locs hq9 hP hA hS => ?_) (fun E9 q9 ce9 g9 H locs hq9 hP hA hS z1 z2 z3 => ?_)
  · skip
    obtain ⟨hg9, hq9⟩ := hq9
    rw [hg9] at hP hA
    rcases hq9 with ⟨hv9, hs⟩ | ⟨hv9, -⟩
    · cases hv9
      refine W.eq (g2 := F0 m 4 ls []) rfl ?_
      refine lv_aload_n hx hb d_De_get_4 rfl (lv_at hl 0 rfl) ?_
      refine lv_iload_n hx hb d_De_get_5 rfl (lv_at hl 1 rfl) ?_
      refine lv_iload_n hx hb d_De_get_6 rfl (lv_at hl 2 rfl) ?_
      refine lv_iconst (v := 0) hx hb d_De_get_7 (by decide) ?_
      refine w_callV (As := [.int sv, .int k, .int 0]) (C := R_De) ⟨hx, hb, hml, hown, hts⟩ (c_De_heldWithPlace l hst D cK cI cN cZ cL _ _ d ka sa _ _ _ _ _ _ _ _ _ sv k 0 fs hC.1.1 hC.1.2.2 hs (Or.inl rfl) (hC.hit hw hs)) (x_cb (cwV (own := R_De) (index := 88) (C := R_De) 3 hts (x_gi (by decide +kernel)) rfl rfl rfl (by decide +kernel) ⟨by decide, by decide⟩).1) (hts (.instanceMethod y_De_heldWithPlace) (by decide +kernel)) (hts (.selects R_De y_De_heldWithPlace y_De_heldWithPlace) (by decide +kernel)) (y_recv (ci := 4) (q := (R_De, F_De, 11)) hK hP rfl hC.1.1) hE hP hA hA0 hS rfl hl.1 rfl (lv_room (Nat.le_of_ble_eq_true rfl)) d_De_get_8 (by first | decide | omega) (by first | decide | omega) (fun v9 g9 H locs hq9 hP hA hS => ?_) (fun E9 q9 ce9 g9 H locs hq9 hP hA hS z1 z2 z3 => ?_)
      · skip
        obtain ⟨hg9, hq9⟩ := hq9
        rw [hg9] at hP hA
        rcases hq9 with ⟨-, hv9⟩ | ⟨q9, kx, len9, wd9, cs9, tg9, kp9, nk9, sn9, np9, hfq, hq, ⟨-, hv9⟩ | ⟨-, -, hv9⟩ | ⟨hki, hrf, hv9⟩⟩
        · cases hv9
        · cases hv9
        · cases hv9
        · cases hv9
          obtain ⟨o0, o1, o2, hqo, hlen, hfx, hit⟩ := hC.place hw hs hfq hq
          rw [hlen] at hki
          have hrf := (hC.refs hw o1 o2 hfx hki).symm.trans (w_rf0.mp hrf)
          rw [hqo]
          refine W.eq (g2 := F0 m 11 ls [.ref (ad (a.sl (j_n sv)))]) rfl ?_
          refine lv_iload_n hx hb d_De_get_11 rfl (lv_at hl 2 rfl) ?_
          refine va_csq (W.runV (As := [.int k]) (C := R_It) ⟨hx, hb, hml, hown, hts⟩ (c_It_find l D _ g (ad (a.sl (j_n sv))) k kx _ _ _ _ _ _ _ (cs (a.sl (j_n sv))) hit (hC.2.2.2.2.2.1 _ o1 o2).1) (cwV (own := R_De) (index := 92) 1 hts (x_gi (by decide +kernel)) rfl rfl rfl (by decide +kernel) ⟨by decide, by decide⟩) ⟨w_Pp.blind, y_recv (ci := 1) (q := (R_It, F_It, 9)) hK hP rfl hit, fun U hU hW => ⟨rfl, by rw [hU]; exact hP, hE.1.to hW⟩⟩ rfl rfl hl.1 rfl (lv_room (Nat.le_of_ble_eq_true rfl)) d_De_get_12 ⟨by first | decide | omega, by first | decide | omega⟩) (fun r9 hr9 => ?_)
          have hL := (hC.2.2.2.2.2.1 (a.sl (j_n sv)) o1 o2).2
          cases r9 with
          | none =>
            refine lv_astore_nN hx hb d_De_get_15 rfl hl (by decide) rfl (fun ls hl => ?_)
            have hl : lv_has ls 4 [(3, .null), (0, .ref d), (1, .int sv), (2, .int k)] := hl
            refine lv_aload_nN hx hb d_De_get_16 rfl (lv_at hl 0 rfl) ?_
            refine lv_ifnonnullN hx hb d_De_get_17 ?_
            refine lv_lconst (v := 0) hx hb d_De_get_20 (by decide) ?_
            refine lv_goto hx hb d_De_get_21 rfl ?_
            refine W.widen (k := 6) (n := 60) (by first | decide | omega) (by first | decide | omega) ?_
            exact x_ret (W.lret (v := 0) hx hb hr (w_fin rfl hAe (w_good (v := some (.long 0)) ((s_pl0 hs o0 hki hrf).trans (by rw [hL.2.2 k (c_fd_n hr9.symm)])) (hR0.up (Nat.le_succ _))) hP hA hS) hS.2.2 d_De_get_28)
          | some y =>
            refine lv_astore_n hx hb d_De_get_15 rfl hl (by decide) rfl (fun ls hl => ?_)
            have hl : lv_has ls 4 [(3, .ref y), (0, .ref d), (1, .int sv), (2, .int k)] := hl
            refine lv_aload_n hx hb d_De_get_16 rfl (lv_at hl 0 rfl) ?_
            refine lv_ifnonnull hx hb d_De_get_17 rfl ?_
            refine lv_aload_n hx hb d_De_get_24 rfl (lv_at hl 0 rfl) ?_
            obtain ⟨q1, z1, z2, z3⟩ := c_fd_s hr9.symm
            obtain ⟨nx, z4⟩ := (hC.2.2.2.2.2.1 (a.sl (j_n sv)) o1 o2).1.at q1 z1
            rw [z3] at z4
            have hv1 := ((hL.1 q1 z1).1 (by rw [z2]; exact fun z => hrf.mp z)).1
            rw [z2] at hv1
            refine y_get (D := D) (ci := 0) (v := .long q1.2.2.1) (C := R_Ce) (T := F_Ce) (N := 4) hx hb hts in_Ce hown hK hP z4 rfl 2 (by decide) (hts (.fieldLink R_De 96 "MemoryDesk$Cell" "value" "J") (by decide +kernel)) (fun _ h9 => h9) rfl d_De_get_25 ?_
            refine W.widen (k := 6) (n := 60) (by first | decide | omega) (by first | decide | omega) ?_
            exact x_ret (W.lret (v := q1.2.2.1) hx hb hr (w_fin rfl hAe (w_good (v := some (.long q1.2.2.1)) ((s_pl0 hs o0 hki hrf).trans (by rw [hv1])) (hR0.up (Nat.le_succ _))) hP hA hS) hS.2.2 d_De_get_28)
      · skip
        obtain ⟨hg9, hq9⟩ := hq9
        rw [hg9] at hP hA
        rcases hq9 with ⟨hfn, hv9⟩ | ⟨q9, kx, len9, wd9, cs9, tg9, kp9, nk9, sn9, np9, hfq, hq, ⟨hki, hv9⟩ | ⟨hki, hrf, hv9⟩ | ⟨-, -, hv9⟩⟩
        · cases hv9
          refine x_W.widen (k := 6) (n := 60) (by first | decide | omega) (by first | decide | omega) ?_
          exact x_leave (hno 8) hlocks (w_lea rfl hAe (w_bad (i := 1) rfl (s_pl2 hs (c_ob.none ((hC.2.2.1 _ hs.j32).symm.trans hfn))) hR0 (Nat.le_succ _)) hP hA hS z1 z2 z3) hS.2.2
        · cases hv9
          obtain ⟨o0, o1, o2, hqo, hlen, hfx, hit⟩ := hC.place hw hs hfq hq
          rw [hlen] at hki
          refine x_W.widen (k := 6) (n := 60) (by first | decide | omega) (by first | decide | omega) ?_
          exact x_leave (hno 8) hlocks (w_lea rfl hAe (w_bad (i := 2) rfl (s_pl3 hs o0 hki) hR0 (Nat.le_succ _)) hP hA hS z1 z2 z3) hS.2.2
        · cases hv9
          obtain ⟨o0, o1, o2, hqo, hlen, hfx, hit⟩ := hC.place hw hs hfq hq
          rw [hlen] at hki
          refine x_W.widen (k := 6) (n := 60) (by first | decide | omega) (by first | decide | omega) ?_
          exact x_leave (hno 8) hlocks (w_lea rfl hAe (w_bad (i := 3) rfl (s_pl4 hs o0 hki (fun z => hrf (w_rf0.mpr ((hC.refs hw o1 o2 hfx hki).trans z)))) hR0 (Nat.le_succ _)) hP hA hS z1 z2 z3) hS.2.2
        · cases hv9
    · cases hv9
  · skip
    obtain ⟨hg9, hq9⟩ := hq9
    rw [hg9] at hP hA
    rcases hq9 with ⟨hv9, -⟩ | ⟨hv9, hs⟩
    · cases hv9
    · cases hv9
      refine x_W.widen (k := 6) (n := 60) (by first | decide | omega) (by first | decide | omega) ?_
      exact x_leave (hno 1) hlocks (w_lea rfl hAe (w_bad (i := 0) rfl (s_pl1 hs) hR0 (Nat.le_succ _)) hP hA hS z1 z2 z3) hS.2.2
set_option maxHeartbeats 4000000 in
set_option maxRecDepth 100000 in
/-- put(s, k, v) -/
theorem c_De_put (l : Launch) (hst : l.stackTraces = false) (D : va_G) (cK cI cN cZ cL : ClassId) (g : y_G) (sz : Nat) (a : Ab) (cn d : Nat) (sv k : Int32) (v : Int64) (hw : a_W a cn) (hcn : cn < 2 ^ 30) (hR : c_R cK cI a g d cn) : x_M l y_De_put [.code y_De_put b_De_put 6 none] rmP (w_Pc D (x_tys cK cI cN cZ cL) [.ref d, .int sv, .int k, .long v] g sz) (w_Qc D g sz (fun r g9 => x_out [xIAE, xISE, xIOO, xUOE] (s_put a sv k v) r ∧ c_R cK cI (s_put a sv k v).2.2 g9 d (cn + 1))) 6 60 (y_A g sz) := by
  refine x_ofW (cc := b_De_put) (maxL := 6) (ret := none) (by decide) rfl ?_
  intro p e s m args below meth c s₁ B hml hno hv
  obtain ⟨rfl, hsz, hP, hE⟩ := hv
  subst hsz
  have hts := hE.hts ([.ref d, .int sv, .int k, .long v] : List Value).toArray
  have hK := hE.1.2.1
  have hA0 : ∀ q, s.heap.size ≤ q → y_A g s.heap.size q := fun q h => Or.inr h
  have hA : ∀ q e, g q = some e → y_A g s.heap.size q := fun q e h => Or.inl (by rw [h]; exact fun z => nomatch z)
  have hS : va_S (y_A g s.heap.size) s.heap s.heap [] := va_S.rf
  generalize hAe : y_A g s.heap.size = A at hE hA0 hA hS ⊢
  have hx := B.exec
  have hb := B.bytes
  have hr := B.returns
  have hlocks := B.notSynchronized
  have hown : s.vm.findClass R_De = some m.cls := findClass_of_methodNamed B.named
  have hl := lv_entry ([.ref d, .int sv, .int k, .long v]) (n := 6) (Nat.le_of_ble_eq_true rfl)
  rw [lg_entry_eq]
  generalize (lg_sl ([.ref d, .int sv, .int k, .long v]) ++ List.replicate (6 - (lg_sl ([.ref d, .int sv, .int k, .long v])).length) Slot.unset).toArray = ls at hl ⊢
  have hl : lv_has ls 6 [(0, .ref d), (1, .int sv), (2, .int k), (3, .long v)] := hl
  have hR0 := hR
  obtain ⟨ka, sa, fk, fs, ad, cs, ks, itv, u, wk, sn, np, lv, hC, hsn, hwk, hu, hum, hlv⟩ := hR
  have hn9 : a.n ≤ cn := hw.2.2.2.2.2.2.2.2.2.1
  have hmm : a.mem ≤ 65536 := hw.2.2.2.2.2.2.2.2.1
  refine lv_iload_n hx hb d_De_put_0 rfl (lv_at hl 1 rfl) ?_
  refine w_callS (As := [.int sv]) ⟨hx, hb, hml, hown, hts⟩ (c_De_checkSlot l hst D _ _ _ sv) (x_cb (va_cwS (own := R_De) (index := 53) 1 hts (x_gi (by decide +kernel)) rfl rfl rfl (by decide +kernel) ⟨by decide, by decide⟩).1) (hts (.static y_De_checkSlot) (by decide +kernel)) hE hP hA hA0 hS rfl hl.1 rfl (lv_room (Nat.le_of_ble_eq_true rfl)) d_De_put_1 (by first | decide | omega) (by first | decide | omega) (fun v9 g9 H locs hq9 hP hA hS => ?_) (fun E9 q9 ce9 g9 H locs hq9 hP hA hS z1 z2 z3 => ?_)
  · skip
    obtain ⟨hg9, hq9⟩ := hq9
    rw [hg9] at hP hA
    rcases hq9 with ⟨hv9, hs⟩ | ⟨hv9, -⟩
    · cases hv9
      refine W.eq (g2 := F0 m 4 ls []) rfl ?_
      refine lv_aload_n hx hb d_De_put_4 rfl (lv_at hl 0 rfl) ?_
      refine lv_iload_n hx hb d_De_put_5 rfl (lv_at hl 1 rfl) ?_
      refine lv_iload_n hx hb d_De_put_6 rfl (lv_at hl 2 rfl) ?_
      refine lv_iconst (v := 0) hx hb d_De_put_7 (by decide) ?_
      refine w_callV (As := [.int sv, .int k, .int 0]) (C := R_De) ⟨hx, hb, hml, hown, hts⟩ (c_De_heldWithPlace l hst D cK cI cN cZ cL _ _ d ka sa _ _ _ _ _ _ _ _ _ sv k 0 fs hC.1.1 hC.1.2.2 hs (Or.inl rfl) (hC.hit hw hs)) (x_cb (cwV (own := R_De) (index := 88) (C := R_De) 3 hts (x_gi (by decide +kernel)) rfl rfl rfl (by decide +kernel) ⟨by decide, by decide⟩).1) (hts (.instanceMethod y_De_heldWithPlace) (by decide +kernel)) (hts (.selects R_De y_De_heldWithPlace y_De_heldWithPlace) (by decide +kernel)) (y_recv (ci := 4) (q := (R_De, F_De, 11)) hK hP rfl hC.1.1) hE hP hA hA0 hS rfl hl.1 rfl (lv_room (Nat.le_of_ble_eq_true rfl)) d_De_put_8 (by first | decide | omega) (by first | decide | omega) (fun v9 g9 H locs hq9 hP hA hS => ?_) (fun E9 q9 ce9 g9 H locs hq9 hP hA hS z1 z2 z3 => ?_)
      · skip
        obtain ⟨hg9, hq9⟩ := hq9
        rw [hg9] at hP hA
        rcases hq9 with ⟨-, hv9⟩ | ⟨q9, kx, len9, wd9, cs9, tg9, kp9, nk9, sn9, np9, hfq, hq, ⟨-, hv9⟩ | ⟨-, -, hv9⟩ | ⟨hki, hrf, hv9⟩⟩
        · cases hv9
        · cases hv9
        · cases hv9
        · cases hv9
          obtain ⟨o0, o1, o2, hqo, hlen, hfx, hit⟩ := hC.place hw hs hfq hq
          rw [hlen] at hki
          have hrf := (hC.refs hw o1 o2 hfx hki).symm.trans (w_rf0.mp hrf)
          rw [hqo]
          refine W.eq (g2 := F0 m 11 ls [.ref (ad (a.sl (j_n sv)))]) rfl ?_
          refine lv_astore hx hb d_De_put_11 hl (by decide) rfl (fun ls hl => ?_)
          have hl : lv_has ls 6 [(5, .ref (ad (a.sl (j_n sv)))), (0, .ref d), (1, .int sv), (2, .int k), (3, .long v)] := hl
          refine lv_aload hx hb d_De_put_13 (lv_at hl 0 rfl) ?_
          refine lv_iload_n hx hb d_De_put_15 rfl (lv_at hl 3 rfl) ?_
          refine w_callV (As := [.int k]) (C := R_It) ⟨hx, hb, hml, hown, hts⟩ (c_It_findOrAdd l D _ _ _ (ad (a.sl (j_n sv))) k kx _ _ _ _ _ _ _ (cs (a.sl (j_n sv))) hit (hC.2.2.2.2.2.1 _ o1 o2).1) (x_cb (cwV (own := R_De) (index := 102) (C := R_It) 1 hts (x_gi (by decide +kernel)) rfl rfl rfl (by decide +kernel) ⟨by decide, by decide⟩).1) (hts (.instanceMethod y_It_findOrAdd) (by decide +kernel)) (hts (.selects R_It y_It_findOrAdd y_It_findOrAdd) (by decide +kernel)) (y_recv (ci := 1) (q := (R_It, F_It, 9)) hK hP rfl hit) hE hP hA hA0 hS rfl hl.1 rfl (lv_room (Nat.le_of_ble_eq_true rfl)) d_De_put_16 (by first | decide | omega) (by first | decide | omega) (fun v9 g9 H locs hq9 hP hA hS => ?_) (fun E9 q9 ce9 g9 H locs hq9 hP hA hS z1 z2 z3 => ?_)
          · skip
            obtain ⟨cs1, q1, nx, hr1, hC1, hm1, hk1, hy1⟩ := hC.foa o1 o2 hfx hq9
            cases hr1
            refine W.eq (g2 := F0 m 19 ls [.ref q1.1]) rfl ?_
            refine lv_aload hx hb d_De_put_19 (lv_at hl 0 rfl) ?_
            obtain ⟨x9, hx9, hit9⟩ := hC1.2.2.2.1 (a.sl (j_n sv)) o1 o2
            rw [hfx] at hx9
            cases hx9
            refine y_get (D := D) (ci := 1) (v := .ref kx) (C := R_It) (T := F_It) (N := 9) hx hb hts in_It hown hK hP hit9 rfl 0 (by decide) (hts (.fieldLink R_De 105 "MemoryDesk$Item" "kind" "LMemoryDesk$Kind;") (by decide +kernel)) (fun _ h9 => h9) rfl d_De_put_21 ?_
            refine lv_lload_n hx hb d_De_put_24 rfl (lv_at hl 4 rfl) ?_
            obtain ⟨qk, hqk, hkin, hkq⟩ := hC1.kq hw o1 o2 hfx
            have hrow : a_row a (a.sl (j_n sv)) = qk.1 := by unfold a_row; rw [hqk]
            have hL := (hC1.2.2.2.2.2.1 (a.sl (j_n sv)) o1 o2).2
            have hnr : ¬ a_ref a (a.sl (j_n sv)) k := fun z => hrf.mp z
            have hnn := ((hL.1 q1 hm1).1 (by rw [hk1]; exact hnr)).2
            rcases hkq with ⟨h0, hk⟩ | ⟨h0, hk⟩
            · skip
              refine vp_callSl (va_Run.run (va_runU (C := R_Pk) (owner := R_Ki) (x := ⟨R_Ki, "cut", "(J)J"⟩) (As := [.long v]) ⟨hx, hb, hml, hown, hts⟩ (c_Pk_cut l D _ _ kx v) (va_cwA (own := R_De) (index := 109) 1 hts (x_gi (by decide +kernel)) rfl rfl rfl (hE.1.2.2.1 (.declares ⟨R_Ki, "cut", "(J)J"⟩) (by decide +kernel)) (by decide +kernel) ⟨by decide, by decide⟩) ⟨w_Pp.blind, y_recv (ci := 2) (q := (R_Pk, F_Pk, 2)) hK hP rfl hk, fun U hU hW => ⟨rfl, by rw [hU]; exact hP, hE.1.to hW⟩⟩ rfl rfl hl.1 rfl (lv_room (Nat.le_of_ble_eq_true rfl)) d_De_put_25 ⟨by first | decide | omega, by first | decide | omega⟩)) (fun r9 hr9 => ?_)
              have hcut : r9 = a_cut a (a.sl (j_n sv)) v := hr9.trans (f_cutP v (by rw [hrow]; exact h0))
              refine y_put (D := D) (ci := 0) (v := .long r9) (ty := .long) (C := R_Ce) (T := F_Ce) (N := 4) hx hb hts in_Ce t_Ce t_Ce_ok n_Ce hown hK hP hA hS hy1 rfl 2 (by decide) (hts (.fieldLink R_De 96 "MemoryDesk$Cell" "value" "J") (by decide +kernel)) (fun _ h9 => h9) rfl (by decide +kernel) rfl rfl (Nat.le_of_ble_eq_true rfl) d_De_put_28 (fun H locs hP hA hS => ?_)
              have hP : y_P D vwCl (va_up g9 q1.1 (some (e_cell k nx r9 q1.2.2.2))) H := hP
              have hA : ∀ q99 e99, (va_up g9 q1.1 (some (e_cell k nx r9 q1.2.2.2))) q99 = some e99 → A q99 := hA
              have hok : ∀ y, c_okc (a_putc a (a.sl (j_n sv)) k (a_cut a (a.sl (j_n sv)) v)) ad (a.sl (j_n sv)) (y, k, r9, q1.2.2.2) := fun y => ⟨fun _ => ⟨hcut.trans a_putc.self.symm, hnn⟩, fun z => absurd z hnr⟩
              refine W.widen (k := 6) (n := 60) (by first | decide | omega) (by first | decide | omega) ?_
              exact x_ret (W.vret hx hb hr (w_fin rfl hAe (w_good (v := none) (s_pl0 hs o0 hki hrf) (c_R.of (hC1.putc o1 o2 hm1 hk1 hy1 hok) hsn hwk hu hum hlv rfl (fun _ _ _ => rfl) (fun o z => r_putv hnr z))) hP hA hS) hS.2.2 d_De_put_31)
            · skip
              refine vp_callSl (va_Run.run (va_runU (C := R_Rk) (owner := R_Ki) (x := ⟨R_Ki, "cut", "(J)J"⟩) (As := [.long v]) ⟨hx, hb, hml, hown, hts⟩ (c_Rk_cut l D _ _ kx v _ _ hk) (va_cwA (own := R_De) (index := 109) 1 hts (x_gi (by decide +kernel)) rfl rfl rfl (hE.1.2.2.1 (.declares ⟨R_Ki, "cut", "(J)J"⟩) (by decide +kernel)) (by decide +kernel) ⟨by decide, by decide⟩) ⟨w_Pp.blind, y_recv (ci := 3) (q := (R_Rk, F_Rk, 2)) hK hP rfl hk, fun U hU hW => ⟨rfl, by rw [hU]; exact hP, hE.1.to hW⟩⟩ rfl rfl hl.1 rfl (lv_room (Nat.le_of_ble_eq_true rfl)) d_De_put_25 ⟨by first | decide | omega, by first | decide | omega⟩)) (fun r9 hr9 => ?_)
              have hcut : r9 = a_cut a (a.sl (j_n sv)) v := (by obtain ⟨rr, rr1, rr2⟩ := hkin.row h0; exact f_cutR v r9 hrow.symm (by rw [hrow]; exact rr2) rr1 hr9)
              refine y_put (D := D) (ci := 0) (v := .long r9) (ty := .long) (C := R_Ce) (T := F_Ce) (N := 4) hx hb hts in_Ce t_Ce t_Ce_ok n_Ce hown hK hP hA hS hy1 rfl 2 (by decide) (hts (.fieldLink R_De 96 "MemoryDesk$Cell" "value" "J") (by decide +kernel)) (fun _ h9 => h9) rfl (by decide +kernel) rfl rfl (Nat.le_of_ble_eq_true rfl) d_De_put_28 (fun H locs hP hA hS => ?_)
              have hP : y_P D vwCl (va_up g9 q1.1 (some (e_cell k nx r9 q1.2.2.2))) H := hP
              have hA : ∀ q99 e99, (va_up g9 q1.1 (some (e_cell k nx r9 q1.2.2.2))) q99 = some e99 → A q99 := hA
              have hok : ∀ y, c_okc (a_putc a (a.sl (j_n sv)) k (a_cut a (a.sl (j_n sv)) v)) ad (a.sl (j_n sv)) (y, k, r9, q1.2.2.2) := fun y => ⟨fun _ => ⟨hcut.trans a_putc.self.symm, hnn⟩, fun z => absurd z hnr⟩
              refine W.widen (k := 6) (n := 60) (by first | decide | omega) (by first | decide | omega) ?_
              exact x_ret (W.vret hx hb hr (w_fin rfl hAe (w_good (v := none) (s_pl0 hs o0 hki hrf) (c_R.of (hC1.putc o1 o2 hm1 hk1 hy1 hok) hsn hwk hu hum hlv rfl (fun _ _ _ => rfl) (fun o z => r_putv hnr z))) hP hA hS) hS.2.2 d_De_put_31)
          · skip
            obtain ⟨cs1, q1, nx, hr1, -⟩ := hC.foa o1 o2 hfx hq9
            cases hr1
      · skip
        obtain ⟨hg9, hq9⟩ := hq9
        rw [hg9] at hP hA
        rcases hq9 with ⟨hfn, hv9⟩ | ⟨q9, kx, len9, wd9, cs9, tg9, kp9, nk9, sn9, np9, hfq, hq, ⟨hki, hv9⟩ | ⟨hki, hrf, hv9⟩ | ⟨-, -, hv9⟩⟩
        · cases hv9
          refine x_W.widen (k := 6) (n := 60) (by first | decide | omega) (by first | decide | omega) ?_
          exact x_leave (hno 8) hlocks (w_lea rfl hAe (w_bad (i := 1) rfl (s_pl2 hs (c_ob.none ((hC.2.2.1 _ hs.j32).symm.trans hfn))) hR0 (Nat.le_succ _)) hP hA hS z1 z2 z3) hS.2.2
        · cases hv9
          obtain ⟨o0, o1, o2, hqo, hlen, hfx, hit⟩ := hC.place hw hs hfq hq
          rw [hlen] at hki
          refine x_W.widen (k := 6) (n := 60) (by first | decide | omega) (by first | decide | omega) ?_
          exact x_leave (hno 8) hlocks (w_lea rfl hAe (w_bad (i := 2) rfl (s_pl3 hs o0 hki) hR0 (Nat.le_succ _)) hP hA hS z1 z2 z3) hS.2.2
        · cases hv9
          obtain ⟨o0, o1, o2, hqo, hlen, hfx, hit⟩ := hC.place hw hs hfq hq
          rw [hlen] at hki
          refine x_W.widen (k := 6) (n := 60) (by first | decide | omega) (by first | decide | omega) ?_
          exact x_leave (hno 8) hlocks (w_lea rfl hAe (w_bad (i := 3) rfl (s_pl4 hs o0 hki (fun z => hrf (w_rf0.mpr ((hC.refs hw o1 o2 hfx hki).trans z)))) hR0 (Nat.le_succ _)) hP hA hS z1 z2 z3) hS.2.2
        · cases hv9
    · cases hv9
  · skip
    obtain ⟨hg9, hq9⟩ := hq9
    rw [hg9] at hP hA
    rcases hq9 with ⟨hv9, -⟩ | ⟨hv9, hs⟩
    · cases hv9
    · cases hv9
      refine x_W.widen (k := 6) (n := 60) (by first | decide | omega) (by first | decide | omega) ?_
      exact x_leave (hno 1) hlocks (w_lea rfl hAe (w_bad (i := 0) rfl (s_pl1 hs) hR0 (Nat.le_succ _)) hP hA hS z1 z2 z3) hS.2.2
set_option maxHeartbeats 4000000 in
set_option maxRecDepth 100000 in
/-- link(s, k, t) -/
theorem c_De_link (l : Launch) (hst : l.stackTraces = false) (D : va_G) (cK cI cN cZ cL : ClassId) (g : y_G) (sz : Nat) (a : Ab) (cn d : Nat) (sv k t : Int32) (hw : a_W a cn) (hcn : cn < 2 ^ 30) (hR : c_R cK cI a g d cn) : x_M l y_De_link [.code y_De_link b_De_link 6 (some .boolean)] rmP (w_Pc D (x_tys cK cI cN cZ cL) [.ref d, .int sv, .int k, .int t] g sz) (w_Qc D g sz (fun r g9 => x_out [xIAE, xISE, xIOO, xUOE] (s_link a sv k t) r ∧ c_R cK cI (s_link a sv k t).2.2 g9 d (cn + 1))) 6 60 (y_A g sz) := by
  refine x_ofW (cc := b_De_link) (maxL := 6) (ret := (some .boolean)) (by decide) rfl ?_
  intro p e s m args below meth c s₁ B hml hno hv
  obtain ⟨rfl, hsz, hP, hE⟩ := hv
  subst hsz
  have hts := hE.hts ([.ref d, .int sv, .int k, .int t] : List Value).toArray
  have hK := hE.1.2.1
  have hA0 : ∀ q, s.heap.size ≤ q → y_A g s.heap.size q := fun q h => Or.inr h
  have hA : ∀ q e, g q = some e → y_A g s.heap.size q := fun q e h => Or.inl (by rw [h]; exact fun z => nomatch z)
  have hS : va_S (y_A g s.heap.size) s.heap s.heap [] := va_S.rf
  generalize hAe : y_A g s.heap.size = A at hE hA0 hA hS ⊢
  have hx := B.exec
  have hb := B.bytes
  have hr := B.returns
  have hlocks := B.notSynchronized
  have hown : s.vm.findClass R_De = some m.cls := findClass_of_methodNamed B.named
  have hl := lv_entry ([.ref d, .int sv, .int k, .int t]) (n := 6) (Nat.le_of_ble_eq_true rfl)
  rw [lg_entry_eq]
  generalize (lg_sl ([.ref d, .int sv, .int k, .int t]) ++ List.replicate (6 - (lg_sl ([.ref d, .int sv, .int k, .int t])).length) Slot.unset).toArray = ls at hl ⊢
  have hl : lv_has ls 6 [(0, .ref d), (1, .int sv), (2, .int k), (3, .int t)] := hl
  have hR0 := hR
  obtain ⟨ka, sa, fk, fs, ad, cs, ks, itv, u, wk, sn, np, lv, hC, hsn, hwk, hu, hum, hlv⟩ := hR
  have hn9 : a.n ≤ cn := hw.2.2.2.2.2.2.2.2.2.1
  have hmm : a.mem ≤ 65536 := hw.2.2.2.2.2.2.2.2.1
  refine lv_iload_n hx hb d_De_link_0 rfl (lv_at hl 1 rfl) ?_
  refine w_callS (As := [.int sv]) ⟨hx, hb, hml, hown, hts⟩ (c_De_checkSlot l hst D _ _ _ sv) (x_cb (va_cwS (own := R_De) (index := 53) 1 hts (x_gi (by decide +kernel)) rfl rfl rfl (by decide +kernel) ⟨by decide, by decide⟩).1) (hts (.static y_De_checkSlot) (by decide +kernel)) hE hP hA hA0 hS rfl hl.1 rfl (lv_room (Nat.le_of_ble_eq_true rfl)) d_De_link_1 (by first | decide | omega) (by first | decide | omega) (fun v9 g9 H locs hq9 hP hA hS => ?_) (fun E9 q9 ce9 g9 H locs hq9 hP hA hS z1 z2 z3 => ?_)
  · skip
    obtain ⟨hg9, hq9⟩ := hq9
    rw [hg9] at hP hA
    rcases hq9 with ⟨hv9, hs⟩ | ⟨hv9, -⟩
    · cases hv9
      refine W.eq (g2 := F0 m 4 ls []) rfl ?_
      refine lv_iload_n hx hb d_De_link_4 rfl (lv_at hl 3 rfl) ?_
      refine w_callS (As := [.int t]) ⟨hx, hb, hml, hown, hts⟩ (c_De_checkSlot l hst D _ _ _ t) (x_cb (va_cwS (own := R_De) (index := 53) 1 hts (x_gi (by decide +kernel)) rfl rfl rfl (by decide +kernel) ⟨by decide, by decide⟩).1) (hts (.static y_De_checkSlot) (by decide +kernel)) hE hP hA hA0 hS rfl hl.1 rfl (lv_room (Nat.le_of_ble_eq_true rfl)) d_De_link_5 (by first | decide | omega) (by first | decide | omega) (fun v9 g9 H locs hq9 hP hA hS => ?_) (fun E9 q9 ce9 g9 H locs hq9 hP hA hS z1 z2 z3 => ?_)
      · skip
        obtain ⟨hg9, hq9⟩ := hq9
        rw [hg9] at hP hA
        rcases hq9 with ⟨hv9, ht⟩ | ⟨hv9, -⟩
        · cases hv9
          refine W.eq (g2 := F0 m 8 ls []) rfl ?_
          refine lv_aload_n hx hb d_De_link_8 rfl (lv_at hl 0 rfl) ?_
          refine lv_iload_n hx hb d_De_link_9 rfl (lv_at hl 1 rfl) ?_
          refine lv_iload_n hx hb d_De_link_10 rfl (lv_at hl 2 rfl) ?_
          refine lv_iconst (v := 1) hx hb d_De_link_11 (by decide) ?_
          refine w_callV (As := [.int sv, .int k, .int 1]) (C := R_De) ⟨hx, hb, hml, hown, hts⟩ (c_De_heldWithPlace l hst D cK cI cN cZ cL _ _ d ka sa _ _ _ _ _ _ _ _ _ sv k 1 fs hC.1.1 hC.1.2.2 hs (Or.inr rfl) (hC.hit hw hs)) (x_cb (cwV (own := R_De) (index := 88) (C := R_De) 3 hts (x_gi (by decide +kernel)) rfl rfl rfl (by decide +kernel) ⟨by decide, by decide⟩).1) (hts (.instanceMethod y_De_heldWithPlace) (by decide +kernel)) (hts (.selects R_De y_De_heldWithPlace y_De_heldWithPlace) (by decide +kernel)) (y_recv (ci := 4) (q := (R_De, F_De, 11)) hK hP rfl hC.1.1) hE hP hA hA0 hS rfl hl.1 rfl (lv_room (Nat.le_of_ble_eq_true rfl)) d_De_link_12 (by first | decide | omega) (by first | decide | omega) (fun v9 g9 H locs hq9 hP hA hS => ?_) (fun E9 q9 ce9 g9 H locs hq9 hP hA hS z1 z2 z3 => ?_)
          · skip
            obtain ⟨hg9, hq9⟩ := hq9
            rw [hg9] at hP hA
            rcases hq9 with ⟨-, hv9⟩ | ⟨q9, kx, len9, wd9, cs9, tg9, kp9, nk9, sn9, np9, hfq, hq, ⟨-, hv9⟩ | ⟨-, -, hv9⟩ | ⟨hki, hrf, hv9⟩⟩
            · cases hv9
            · cases hv9
            · cases hv9
            · cases hv9
              obtain ⟨o0, o1, o2, hqo, hlen, hfx, hit⟩ := hC.place hw hs hfq hq
              rw [hlen] at hki
              have hrf := (hC.refs hw o1 o2 hfx hki).symm.trans (w_rf1.mp hrf)
              rw [hqo]
              refine W.eq (g2 := F0 m 15 ls [.ref (ad (a.sl (j_n sv)))]) rfl ?_
              refine lv_iload_n hx hb d_De_link_15 rfl (lv_at hl 2 rfl) ?_
              refine w_callV (As := [.int k]) (C := R_It) ⟨hx, hb, hml, hown, hts⟩ (c_It_findOrAdd l D _ _ _ (ad (a.sl (j_n sv))) k kx _ _ _ _ _ _ _ (cs (a.sl (j_n sv))) hit (hC.2.2.2.2.2.1 _ o1 o2).1) (x_cb (cwV (own := R_De) (index := 102) (C := R_It) 1 hts (x_gi (by decide +kernel)) rfl rfl rfl (by decide +kernel) ⟨by decide, by decide⟩).1) (hts (.instanceMethod y_It_findOrAdd) (by decide +kernel)) (hts (.selects R_It y_It_findOrAdd y_It_findOrAdd) (by decide +kernel)) (y_recv (ci := 1) (q := (R_It, F_It, 9)) hK hP rfl hit) hE hP hA hA0 hS rfl hl.1 rfl (lv_room (Nat.le_of_ble_eq_true rfl)) d_De_link_16 (by first | decide | omega) (by first | decide | omega) (fun v9 g9 H locs hq9 hP hA hS => ?_) (fun E9 q9 ce9 g9 H locs hq9 hP hA hS z1 z2 z3 => ?_)
              · skip
                obtain ⟨cs1, q1, nx, hr1, hC1, hm1, hk1, hy1⟩ := hC.foa o1 o2 hfx hq9
                cases hr1
                refine W.eq (g2 := F0 m 19 ls [.ref q1.1]) rfl ?_
                refine lv_astore hx hb d_De_link_19 hl (by decide) rfl (fun ls hl => ?_)
                have hl : lv_has ls 6 [(4, .ref q1.1), (0, .ref d), (1, .int sv), (2, .int k), (3, .int t)] := hl
                refine lv_aload hx hb d_De_link_21 (lv_at hl 0 rfl) ?_
                refine y_get (D := D) (ci := 0) (v := va_rf q1.2.2.2) (C := R_Ce) (T := F_Ce) (N := 4) hx hb hts in_Ce hown hK hP hy1 rfl 3 (by decide) (hts (.fieldLink R_De 113 "MemoryDesk$Cell" "named" "LMemoryDesk$Item;") (by decide +kernel)) (fun _ h9 => h9) rfl d_De_link_23 ?_
                have hL := (hC1.2.2.2.2.2.1 (a.sl (j_n sv)) o1 o2).2
                have hr1 : a_ref a (a.sl (j_n sv)) k := hrf.mpr trivial
                have hcell := (hL.1 q1 hm1).2 (by rw [hk1]; exact hr1)
                rw [hk1] at hcell
                have hft := hC1.2.2.1 (j_n t) ht.j32
                have hst2 := hw.2.2.1 (j_n t) ht.j32
                have hok : ∀ y, c_okc (a_putc a (a.sl (j_n sv)) k (lN (a.sl (j_n t)))) ad (a.sl (j_n sv)) (y, k, q1.2.2.1, fs (j_n t)) := fun y => by
                  refine ⟨fun z => absurd hr1 z, fun _ => ?_⟩
                  show ((a_putc a _ k _).ct _ k = 0 ∧ _) ∨ ∃ b, _ ∧ _ ∧ (a_putc a _ k _).ct _ k = _ ∧ _
                  rw [a_putc.self]
                  by_cases e0 : a.sl (j_n t) = 0
                  · exact Or.inl ⟨by rw [e0]; rfl, by rw [hft, e0]; rfl⟩
                  · exact Or.inr ⟨_, by omega, hst2, rfl, by rw [hft]; exact c_ob.at e0⟩
                obtain ⟨o_q, hq⟩ : ∃ z, q1.2.2.2 = z := ⟨_, rfl⟩
                refine W.eq (g2 := F0 m 26 ls [va_rf o_q]) (congrArg (fun z => F0 m 26 ls [va_rf z]) hq) ?_
                cases o_q with
                | none =>
                  refine lv_ifnullN hx hb d_De_link_26 rfl ?_
                  refine lv_iconst (v := 0) hx hb d_De_link_33 (by decide) ?_
                  refine lv_istore hx hb d_De_link_34 hl (by decide) rfl (fun ls hl => ?_)
                  have hl : lv_has ls 6 [(5, .int 0), (4, .ref q1.1), (0, .ref d), (1, .int sv), (2, .int k), (3, .int t)] := hl
                  refine lv_aload hx hb d_De_link_36 (lv_at hl 1 rfl) ?_
                  refine lv_aload_n hx hb d_De_link_38 rfl (lv_at hl 2 rfl) ?_
                  refine y_get (D := D) (ci := 4) (v := .ref sa) (C := R_De) (T := F_De) (N := 11) hx hb hts in_De hown hK hP hC1.1.1 rfl 1 (by decide) (hts (.fieldLink R_De 17 "MemoryDesk" "slots" "[LMemoryDesk$Item;") (by decide +kernel)) (fun _ h9 => h9) rfl d_De_link_39 ?_
                  refine lv_iload_n hx hb d_De_link_42 rfl (lv_at hl 5 rfl) ?_
                  refine y_aldq hx hb hK hP 1 hC1.1.2.2 rfl ht.v32 d_De_link_43 ?_
                  refine y_put (D := D) (ci := 0) (v := va_rf (fs t.toNatClampNeg)) (ty := .object "MemoryDesk$Item") (C := R_Ce) (T := F_Ce) (N := 4) hx hb hts in_Ce t_Ce t_Ce_ok n_Ce hown hK hP hA hS hy1 rfl 3 (by decide) (hts (.fieldLink R_De 113 "MemoryDesk$Cell" "named" "LMemoryDesk$Item;") (by decide +kernel)) (fun _ h9 => h9) rfl (by decide +kernel) (by rcases va_rf_or (fs t.toNatClampNeg) with h | ⟨z, h⟩ <;> rw [h] <;> rfl) (by rcases va_rf_or (fs t.toNatClampNeg) with h | ⟨z, h⟩ <;> rw [h] <;> rfl) (Nat.le_of_ble_eq_true rfl) d_De_link_44 (fun H locs hP hA hS => ?_)
                  have hP : y_P D vwCl (va_up g9 q1.1 (some (e_cell k nx q1.2.2.1 (fs (j_n t))))) H := hP
                  have hA : ∀ q99 e99, (va_up g9 q1.1 (some (e_cell k nx q1.2.2.1 (fs (j_n t))))) q99 = some e99 → A q99 := hA
                  refine lv_iload hx hb d_De_link_47 (lv_at hl 0 rfl) ?_
                  have hb9 : ¬ a.ct (a.sl (j_n sv)) k ≠ 0 := by
                    rcases hcell with z | ⟨b, -, -, -, z⟩
                    · exact fun y => y z.1
                    · rw [hq] at z; cases z
                  refine W.widen (k := 6) (n := 60) (by first | decide | omega) (by first | decide | omega) ?_
                  exact x_ret (W.zret (v := 0) hx hb hr rfl (w_fin rfl hAe (w_good (v := some (.int 0)) (((q_y ht).trans (s_pl0 hs o0 hki hrf)).trans (by rw [w_b0 hb9])) (c_R.of (hC1.putc o1 o2 hm1 hk1 hy1 hok) hsn hwk hu hum hlv rfl (fun _ _ _ => rfl) (fun o z => r_putr hw hcn ht.j32 z))) hP hA hS) hS.2.2 d_De_link_49)
                | some q =>
                  refine lv_ifnull hx hb d_De_link_26 ?_
                  refine lv_iconst (v := 1) hx hb d_De_link_29 (by decide) ?_
                  refine lv_goto hx hb d_De_link_30 rfl ?_
                  refine lv_istore hx hb d_De_link_34 hl (by decide) rfl (fun ls hl => ?_)
                  have hl : lv_has ls 6 [(5, .int 1), (4, .ref q1.1), (0, .ref d), (1, .int sv), (2, .int k), (3, .int t)] := hl
                  refine lv_aload hx hb d_De_link_36 (lv_at hl 1 rfl) ?_
                  refine lv_aload_n hx hb d_De_link_38 rfl (lv_at hl 2 rfl) ?_
                  refine y_get (D := D) (ci := 4) (v := .ref sa) (C := R_De) (T := F_De) (N := 11) hx hb hts in_De hown hK hP hC1.1.1 rfl 1 (by decide) (hts (.fieldLink R_De 17 "MemoryDesk" "slots" "[LMemoryDesk$Item;") (by decide +kernel)) (fun _ h9 => h9) rfl d_De_link_39 ?_
                  refine lv_iload_n hx hb d_De_link_42 rfl (lv_at hl 5 rfl) ?_
                  refine y_aldq hx hb hK hP 1 hC1.1.2.2 rfl ht.v32 d_De_link_43 ?_
                  refine y_put (D := D) (ci := 0) (v := va_rf (fs t.toNatClampNeg)) (ty := .object "MemoryDesk$Item") (C := R_Ce) (T := F_Ce) (N := 4) hx hb hts in_Ce t_Ce t_Ce_ok n_Ce hown hK hP hA hS hy1 rfl 3 (by decide) (hts (.fieldLink R_De 113 "MemoryDesk$Cell" "named" "LMemoryDesk$Item;") (by decide +kernel)) (fun _ h9 => h9) rfl (by decide +kernel) (by rcases va_rf_or (fs t.toNatClampNeg) with h | ⟨z, h⟩ <;> rw [h] <;> rfl) (by rcases va_rf_or (fs t.toNatClampNeg) with h | ⟨z, h⟩ <;> rw [h] <;> rfl) (Nat.le_of_ble_eq_true rfl) d_De_link_44 (fun H locs hP hA hS => ?_)
                  have hP : y_P D vwCl (va_up g9 q1.1 (some (e_cell k nx q1.2.2.1 (fs (j_n t))))) H := hP
                  have hA : ∀ q99 e99, (va_up g9 q1.1 (some (e_cell k nx q1.2.2.1 (fs (j_n t))))) q99 = some e99 → A q99 := hA
                  refine lv_iload hx hb d_De_link_47 (lv_at hl 0 rfl) ?_
                  have hb9 : a.ct (a.sl (j_n sv)) k ≠ 0 := by
                    rcases hcell with z | ⟨b, b1, b2, b3, -⟩
                    · rw [hq] at z; cases z.2
                    · rw [b3]; exact fun y => absurd ((lN_eq (b := 0) (by omega) (by omega)).mp y) (by omega)
                  refine W.widen (k := 6) (n := 60) (by first | decide | omega) (by first | decide | omega) ?_
                  exact x_ret (W.zret (v := 1) hx hb hr rfl (w_fin rfl hAe (w_good (v := some (.int 1)) (((q_y ht).trans (s_pl0 hs o0 hki hrf)).trans (by rw [w_b1 hb9])) (c_R.of (hC1.putc o1 o2 hm1 hk1 hy1 hok) hsn hwk hu hum hlv rfl (fun _ _ _ => rfl) (fun o z => r_putr hw hcn ht.j32 z))) hP hA hS) hS.2.2 d_De_link_49)
              · skip
                obtain ⟨cs1, q1, nx, hr1, -⟩ := hC.foa o1 o2 hfx hq9
                cases hr1
          · skip
            obtain ⟨hg9, hq9⟩ := hq9
            rw [hg9] at hP hA
            rcases hq9 with ⟨hfn, hv9⟩ | ⟨q9, kx, len9, wd9, cs9, tg9, kp9, nk9, sn9, np9, hfq, hq, ⟨hki, hv9⟩ | ⟨hki, hrf, hv9⟩ | ⟨-, -, hv9⟩⟩
            · cases hv9
              refine x_W.widen (k := 6) (n := 60) (by first | decide | omega) (by first | decide | omega) ?_
              exact x_leave (hno 12) hlocks (w_lea rfl hAe (w_bad (i := 1) rfl ((q_y ht).trans (s_pl2 hs (c_ob.none ((hC.2.2.1 _ hs.j32).symm.trans hfn)))) hR0 (Nat.le_succ _)) hP hA hS z1 z2 z3) hS.2.2
            · cases hv9
              obtain ⟨o0, o1, o2, hqo, hlen, hfx, hit⟩ := hC.place hw hs hfq hq
              rw [hlen] at hki
              refine x_W.widen (k := 6) (n := 60) (by first | decide | omega) (by first | decide | omega) ?_
              exact x_leave (hno 12) hlocks (w_lea rfl hAe (w_bad (i := 2) rfl ((q_y ht).trans (s_pl3 hs o0 hki)) hR0 (Nat.le_succ _)) hP hA hS z1 z2 z3) hS.2.2
            · cases hv9
              obtain ⟨o0, o1, o2, hqo, hlen, hfx, hit⟩ := hC.place hw hs hfq hq
              rw [hlen] at hki
              refine x_W.widen (k := 6) (n := 60) (by first | decide | omega) (by first | decide | omega) ?_
              exact x_leave (hno 12) hlocks (w_lea rfl hAe (w_bad (i := 3) rfl ((q_y ht).trans (s_pl4 hs o0 hki (fun z => hrf (w_rf1.mpr ((hC.refs hw o1 o2 hfx hki).trans z))))) hR0 (Nat.le_succ _)) hP hA hS z1 z2 z3) hS.2.2
            · cases hv9
        · cases hv9
      · skip
        obtain ⟨hg9, hq9⟩ := hq9
        rw [hg9] at hP hA
        rcases hq9 with ⟨hv9, -⟩ | ⟨hv9, ht⟩
        · cases hv9
        · cases hv9
          refine x_W.widen (k := 6) (n := 60) (by first | decide | omega) (by first | decide | omega) ?_
          exact x_leave (hno 5) hlocks (w_lea rfl hAe (w_bad (i := 0) rfl (q_n ht) hR0 (Nat.le_succ _)) hP hA hS z1 z2 z3) hS.2.2
    · cases hv9
  · skip
    obtain ⟨hg9, hq9⟩ := hq9
    rw [hg9] at hP hA
    rcases hq9 with ⟨hv9, -⟩ | ⟨hv9, hs⟩
    · cases hv9
    · cases hv9
      refine x_W.widen (k := 6) (n := 60) (by first | decide | omega) (by first | decide | omega) ?_
      exact x_leave (hno 1) hlocks (w_lea rfl hAe (w_bad (i := 0) rfl (Classical.byCases (fun ht : b_in t 32 => (q_y ht).trans (s_pl1 hs)) (fun ht => q_n ht)) hR0 (Nat.le_succ _)) hP hA hS z1 z2 z3) hS.2.2
set_option maxHeartbeats 4000000 in
set_option maxRecDepth 100000 in
/-- follow(s, k, t) -/
theorem c_De_follow (l : Launch) (hst : l.stackTraces = false) (D : va_G) (cK cI cN cZ cL : ClassId) (g : y_G) (sz : Nat) (a : Ab) (cn d : Nat) (sv k t : Int32) (hw : a_W a cn) (hcn : cn < 2 ^ 30) (hR : c_R cK cI a g d cn) : x_M l y_De_follow [.code y_De_follow b_De_follow 5 (some .boolean)] rmP (w_Pc D (x_tys cK cI cN cZ cL) [.ref d, .int sv, .int k, .int t] g sz) (w_Qc D g sz (fun r g9 => x_out [xIAE, xISE, xIOO, xUOE] (s_follow a sv k t) r ∧ c_R cK cI (s_follow a sv k t).2.2 g9 d (cn + 1))) 6 60 (y_A g sz) := by
  refine x_ofW (cc := b_De_follow) (maxL := 5) (ret := (some .boolean)) (by decide) rfl ?_
  intro p e s m args below meth c s₁ B hml hno hv
  obtain ⟨rfl, hsz, hP, hE⟩ := hv
  subst hsz
  have hts := hE.hts ([.ref d, .int sv, .int k, .int t] : List Value).toArray
  have hK := hE.1.2.1
  have hA0 : ∀ q, s.heap.size ≤ q → y_A g s.heap.size q := fun q h => Or.inr h
  have hA : ∀ q e, g q = some e → y_A g s.heap.size q := fun q e h => Or.inl (by rw [h]; exact fun z => nomatch z)
  have hS : va_S (y_A g s.heap.size) s.heap s.heap [] := va_S.rf
  generalize hAe : y_A g s.heap.size = A at hE hA0 hA hS ⊢
  have hx := B.exec
  have hb := B.bytes
  have hr := B.returns
  have hlocks := B.notSynchronized
  have hown : s.vm.findClass R_De = some m.cls := findClass_of_methodNamed B.named
  have hl := lv_entry ([.ref d, .int sv, .int k, .int t]) (n := 5) (Nat.le_of_ble_eq_true rfl)
  rw [lg_entry_eq]
  generalize (lg_sl ([.ref d, .int sv, .int k, .int t]) ++ List.replicate (5 - (lg_sl ([.ref d, .int sv, .int k, .int t])).length) Slot.unset).toArray = ls at hl ⊢
  have hl : lv_has ls 5 [(0, .ref d), (1, .int sv), (2, .int k), (3, .int t)] := hl
  have hR0 := hR
  obtain ⟨ka, sa, fk, fs, ad, cs, ks, itv, u, wk, sn, np, lv, hC, hsn, hwk, hu, hum, hlv⟩ := hR
  have hn9 : a.n ≤ cn := hw.2.2.2.2.2.2.2.2.2.1
  have hmm : a.mem ≤ 65536 := hw.2.2.2.2.2.2.2.2.1
  refine lv_iload_n hx hb d_De_follow_0 rfl (lv_at hl 1 rfl) ?_
  refine w_callS (As := [.int sv]) ⟨hx, hb, hml, hown, hts⟩ (c_De_checkSlot l hst D _ _ _ sv) (x_cb (va_cwS (own := R_De) (index := 53) 1 hts (x_gi (by decide +kernel)) rfl rfl rfl (by decide +kernel) ⟨by decide, by decide⟩).1) (hts (.static y_De_checkSlot) (by decide +kernel)) hE hP hA hA0 hS rfl hl.1 rfl (lv_room (Nat.le_of_ble_eq_true rfl)) d_De_follow_1 (by first | decide | omega) (by first | decide | omega) (fun v9 g9 H locs hq9 hP hA hS => ?_) (fun E9 q9 ce9 g9 H locs hq9 hP hA hS z1 z2 z3 => ?_)
  · skip
    obtain ⟨hg9, hq9⟩ := hq9
    rw [hg9] at hP hA
    rcases hq9 with ⟨hv9, hs⟩ | ⟨hv9, -⟩
    · cases hv9
      refine W.eq (g2 := F0 m 4 ls []) rfl ?_
      refine lv_iload_n hx hb d_De_follow_4 rfl (lv_at hl 3 rfl) ?_
      refine w_callS (As := [.int t]) ⟨hx, hb, hml, hown, hts⟩ (c_De_checkSlot l hst D _ _ _ t) (x_cb (va_cwS (own := R_De) (index := 53) 1 hts (x_gi (by decide +kernel)) rfl rfl rfl (by decide +kernel) ⟨by decide, by decide⟩).1) (hts (.static y_De_checkSlot) (by decide +kernel)) hE hP hA hA0 hS rfl hl.1 rfl (lv_room (Nat.le_of_ble_eq_true rfl)) d_De_follow_5 (by first | decide | omega) (by first | decide | omega) (fun v9 g9 H locs hq9 hP hA hS => ?_) (fun E9 q9 ce9 g9 H locs hq9 hP hA hS z1 z2 z3 => ?_)
      · skip
        obtain ⟨hg9, hq9⟩ := hq9
        rw [hg9] at hP hA
        rcases hq9 with ⟨hv9, ht⟩ | ⟨hv9, -⟩
        · cases hv9
          refine W.eq (g2 := F0 m 8 ls []) rfl ?_
          refine lv_aload_n hx hb d_De_follow_8 rfl (lv_at hl 0 rfl) ?_
          refine lv_iload_n hx hb d_De_follow_9 rfl (lv_at hl 1 rfl) ?_
          refine lv_iload_n hx hb d_De_follow_10 rfl (lv_at hl 2 rfl) ?_
          refine lv_iconst (v := 1) hx hb d_De_follow_11 (by decide) ?_
          refine w_callV (As := [.int sv, .int k, .int 1]) (C := R_De) ⟨hx, hb, hml, hown, hts⟩ (c_De_heldWithPlace l hst D cK cI cN cZ cL _ _ d ka sa _ _ _ _ _ _ _ _ _ sv k 1 fs hC.1.1 hC.1.2.2 hs (Or.inr rfl) (hC.hit hw hs)) (x_cb (cwV (own := R_De) (index := 88) (C := R_De) 3 hts (x_gi (by decide +kernel)) rfl rfl rfl (by decide +kernel) ⟨by decide, by decide⟩).1) (hts (.instanceMethod y_De_heldWithPlace) (by decide +kernel)) (hts (.selects R_De y_De_heldWithPlace y_De_heldWithPlace) (by decide +kernel)) (y_recv (ci := 4) (q := (R_De, F_De, 11)) hK hP rfl hC.1.1) hE hP hA hA0 hS rfl hl.1 rfl (lv_room (Nat.le_of_ble_eq_true rfl)) d_De_follow_12 (by first | decide | omega) (by first | decide | omega) (fun v9 g9 H locs hq9 hP hA hS => ?_) (fun E9 q9 ce9 g9 H locs hq9 hP hA hS z1 z2 z3 => ?_)
          · skip
            obtain ⟨hg9, hq9⟩ := hq9
            rw [hg9] at hP hA
            rcases hq9 with ⟨-, hv9⟩ | ⟨q9, kx, len9, wd9, cs9, tg9, kp9, nk9, sn9, np9, hfq, hq, ⟨-, hv9⟩ | ⟨-, -, hv9⟩ | ⟨hki, hrf, hv9⟩⟩
            · cases hv9
            · cases hv9
            · cases hv9
            · cases hv9
              obtain ⟨o0, o1, o2, hqo, hlen, hfx, hit⟩ := hC.place hw hs hfq hq
              rw [hlen] at hki
              have hrf := (hC.refs hw o1 o2 hfx hki).symm.trans (w_rf1.mp hrf)
              rw [hqo]
              refine W.eq (g2 := F0 m 15 ls [.ref (ad (a.sl (j_n sv)))]) rfl ?_
              refine lv_iload_n hx hb d_De_follow_15 rfl (lv_at hl 2 rfl) ?_
              refine va_csq (W.runV (As := [.int k]) (C := R_It) ⟨hx, hb, hml, hown, hts⟩ (c_It_find l D _ g (ad (a.sl (j_n sv))) k kx _ _ _ _ _ _ _ (cs (a.sl (j_n sv))) hit (hC.2.2.2.2.2.1 _ o1 o2).1) (cwV (own := R_De) (index := 92) 1 hts (x_gi (by decide +kernel)) rfl rfl rfl (by decide +kernel) ⟨by decide, by decide⟩) ⟨w_Pp.blind, y_recv (ci := 1) (q := (R_It, F_It, 9)) hK hP rfl hit, fun U hU hW => ⟨rfl, by rw [hU]; exact hP, hE.1.to hW⟩⟩ rfl rfl hl.1 rfl (lv_room (Nat.le_of_ble_eq_true rfl)) d_De_follow_16 ⟨by first | decide | omega, by first | decide | omega⟩) (fun r9 hr9 => ?_)
              have hL := (hC.2.2.2.2.2.1 (a.sl (j_n sv)) o1 o2).2
              have hr1 : a_ref a (a.sl (j_n sv)) k := hrf.mpr trivial
              cases r9 with
              | none =>
                refine lv_astoreN hx hb d_De_follow_19 hl (by decide) rfl (fun ls hl => ?_)
                have hl : lv_has ls 5 [(4, .null), (0, .ref d), (1, .int sv), (2, .int k), (3, .int t)] := hl
                refine lv_aload_n hx hb d_De_follow_21 rfl (lv_at hl 1 rfl) ?_
                refine y_get (D := D) (ci := 4) (v := .ref sa) (C := R_De) (T := F_De) (N := 11) hx hb hts in_De hown hK hP hC.1.1 rfl 1 (by decide) (hts (.fieldLink R_De 17 "MemoryDesk" "slots" "[LMemoryDesk$Item;") (by decide +kernel)) (fun _ h9 => h9) rfl d_De_follow_22 ?_
                refine lv_iload_n hx hb d_De_follow_25 rfl (lv_at hl 4 rfl) ?_
                refine lv_aloadN hx hb d_De_follow_26 (lv_at hl 0 rfl) ?_
                refine lv_ifnonnullN hx hb d_De_follow_28 ?_
                refine lv_null hx hb d_De_follow_31 ?_
                refine lv_goto hx hb d_De_follow_32 rfl ?_
                have hct : a.ct (a.sl (j_n sv)) k = 0 := hL.2.2 k (c_fd_n hr9.symm)
                refine y_astN hx hb hK hP hA hS 1 hC.1.2.2 rfl ht.v32 d_De_follow_40 (fun H locs hP hA hS => ?_)
                have hP : y_P D vwCl (va_up g sa (some (e_refs cI 32 (va_up fs (j_n t) none)))) H := hP
                have hA : ∀ q99 e99, (va_up g sa (some (e_refs cI 32 (va_up fs (j_n t) none)))) q99 = some e99 → A q99 := hA
                refine lv_aload_n hx hb d_De_follow_41 rfl (lv_at hl 1 rfl) ?_
                have hd1 : (va_up g sa (some (e_refs cI 32 (va_up fs (j_n t) none)))) d = some (.inr (4, [.ref ka, .ref sa, .int (nI a.mem), .int (nI a.n), .int (nI a.kc), .int (nI a.nn), .int itv, va_rf (ks.head?.map ad), .int (nI u), .int (nI wk), .null])) := by rw [va_up_ne _ _ hC.dne.2.1.symm]; exact hC.1.1
                refine y_get (D := D) (ci := 4) (v := .ref sa) (C := R_De) (T := F_De) (N := 11) hx hb hts in_De hown hK hP hd1 rfl 1 (by decide) (hts (.fieldLink R_De 17 "MemoryDesk" "slots" "[LMemoryDesk$Item;") (by decide +kernel)) (fun _ h9 => h9) rfl d_De_follow_42 ?_
                refine lv_iload_n hx hb d_De_follow_45 rfl (lv_at hl 4 rfl) ?_
                refine y_aldq hx hb hK hP 1 (va_up_self _ _ _) rfl ht.v32 d_De_follow_46 ?_
                rw [va_up_self]
                refine lv_ifnullN hx hb d_De_follow_47 rfl ?_
                refine lv_iconst (v := 0) hx hb d_De_follow_54 (by decide) ?_
                refine W.widen (k := 6) (n := 60) (by first | decide | omega) (by first | decide | omega) ?_
                exact x_ret (W.zret (v := 0) hx hb hr rfl (w_fin rfl hAe (w_good (v := some (.int 0)) (((q_y ht).trans (s_pl0 hs o0 hki hrf)).trans (by rw [w_b0 (fun z => z hct), hct]; rfl)) (c_R.of (hC.slot (s := j_n t) (o := 0) rfl) hsn hwk hu hum hlv rfl (fun _ _ _ => rfl) (fun o z => r_puts (Or.inl rfl) z))) hP hA hS) hS.2.2 d_De_follow_55)
              | some y =>
                refine lv_astore hx hb d_De_follow_19 hl (by decide) rfl (fun ls hl => ?_)
                have hl : lv_has ls 5 [(4, .ref y), (0, .ref d), (1, .int sv), (2, .int k), (3, .int t)] := hl
                refine lv_aload_n hx hb d_De_follow_21 rfl (lv_at hl 1 rfl) ?_
                refine y_get (D := D) (ci := 4) (v := .ref sa) (C := R_De) (T := F_De) (N := 11) hx hb hts in_De hown hK hP hC.1.1 rfl 1 (by decide) (hts (.fieldLink R_De 17 "MemoryDesk" "slots" "[LMemoryDesk$Item;") (by decide +kernel)) (fun _ h9 => h9) rfl d_De_follow_22 ?_
                refine lv_iload_n hx hb d_De_follow_25 rfl (lv_at hl 4 rfl) ?_
                refine lv_aload hx hb d_De_follow_26 (lv_at hl 0 rfl) ?_
                refine lv_ifnonnull hx hb d_De_follow_28 rfl ?_
                refine lv_aload hx hb d_De_follow_35 (lv_at hl 0 rfl) ?_
                obtain ⟨q1, z1, z2, z3⟩ := c_fd_s hr9.symm
                obtain ⟨nx, z4⟩ := (hC.2.2.2.2.2.1 (a.sl (j_n sv)) o1 o2).1.at q1 z1
                rw [z3] at z4
                have hcell := (hL.1 q1 z1).2 (by rw [z2]; exact hr1)
                rw [z2] at hcell
                refine y_get (D := D) (ci := 0) (v := va_rf q1.2.2.2) (C := R_Ce) (T := F_Ce) (N := 4) hx hb hts in_Ce hown hK hP z4 rfl 3 (by decide) (hts (.fieldLink R_De 113 "MemoryDesk$Cell" "named" "LMemoryDesk$Item;") (by decide +kernel)) (fun _ h9 => h9) rfl d_De_follow_37 ?_
                obtain ⟨o_z, hz⟩ : ∃ z, q1.2.2.2 = z := ⟨_, rfl⟩
                refine W.eq (g2 := F0 m 40 ls [va_rf o_z, .int t, .ref sa]) (congrArg (fun z => F0 m 40 ls [va_rf z, .int t, .ref sa]) hz) ?_
                cases o_z with
                | none =>
                  have hct : a.ct (a.sl (j_n sv)) k = 0 := by
                    rcases hcell with z | ⟨b, -, -, -, z⟩
                    · exact z.1
                    · rw [hz] at z; cases z
                  refine y_astN hx hb hK hP hA hS 1 hC.1.2.2 rfl ht.v32 d_De_follow_40 (fun H locs hP hA hS => ?_)
                  have hP : y_P D vwCl (va_up g sa (some (e_refs cI 32 (va_up fs (j_n t) none)))) H := hP
                  have hA : ∀ q99 e99, (va_up g sa (some (e_refs cI 32 (va_up fs (j_n t) none)))) q99 = some e99 → A q99 := hA
                  refine lv_aload_n hx hb d_De_follow_41 rfl (lv_at hl 1 rfl) ?_
                  have hd1 : (va_up g sa (some (e_refs cI 32 (va_up fs (j_n t) none)))) d = some (.inr (4, [.ref ka, .ref sa, .int (nI a.mem), .int (nI a.n), .int (nI a.kc), .int (nI a.nn), .int itv, va_rf (ks.head?.map ad), .int (nI u), .int (nI wk), .null])) := by rw [va_up_ne _ _ hC.dne.2.1.symm]; exact hC.1.1
                  refine y_get (D := D) (ci := 4) (v := .ref sa) (C := R_De) (T := F_De) (N := 11) hx hb hts in_De hown hK hP hd1 rfl 1 (by decide) (hts (.fieldLink R_De 17 "MemoryDesk" "slots" "[LMemoryDesk$Item;") (by decide +kernel)) (fun _ h9 => h9) rfl d_De_follow_42 ?_
                  refine lv_iload_n hx hb d_De_follow_45 rfl (lv_at hl 4 rfl) ?_
                  refine y_aldq hx hb hK hP 1 (va_up_self _ _ _) rfl ht.v32 d_De_follow_46 ?_
                  rw [va_up_self]
                  refine lv_ifnullN hx hb d_De_follow_47 rfl ?_
                  refine lv_iconst (v := 0) hx hb d_De_follow_54 (by decide) ?_
                  refine W.widen (k := 6) (n := 60) (by first | decide | omega) (by first | decide | omega) ?_
                  exact x_ret (W.zret (v := 0) hx hb hr rfl (w_fin rfl hAe (w_good (v := some (.int 0)) (((q_y ht).trans (s_pl0 hs o0 hki hrf)).trans (by rw [w_b0 (fun z => z hct), hct]; rfl)) (c_R.of (hC.slot (s := j_n t) (o := 0) rfl) hsn hwk hu hum hlv rfl (fun _ _ _ => rfl) (fun o z => r_puts (Or.inl rfl) z))) hP hA hS) hS.2.2 d_De_follow_55)
                | some z =>
                  rcases hcell with y9 | ⟨b, b1, b2, b3, b4⟩
                  · rw [hz] at y9; cases y9.2
                  · rw [hz] at b4
                    injection b4 with b4
                    have hRb : a_R a b := z_R.step (a_R.sl hs.j32 o0) ⟨o1, o2, b1, b2, k, hr1, b3⟩
                    obtain ⟨xb, -, hitb⟩ := hC.2.2.2.1 b b1 b2
                    rw [← b4] at hitb
                    have hb9 : a.ct (a.sl (j_n sv)) k ≠ 0 := by rw [b3]; exact fun y => absurd ((lN_eq (b := 0) (by omega) (by omega)).mp y) (by omega)
                    refine y_astS (r := (R_It, F_It, 9)) hx hb hK hP hA hS 1 1 hC.1.2.2 rfl hitb rfl ht.v32 d_De_follow_40 (fun H locs hP hA hS => ?_)
                    have hP : y_P D vwCl (va_up g sa (some (e_refs cI 32 (va_up fs (j_n t) (some z))))) H := hP
                    have hA : ∀ q99 e99, (va_up g sa (some (e_refs cI 32 (va_up fs (j_n t) (some z))))) q99 = some e99 → A q99 := hA
                    refine lv_aload_n hx hb d_De_follow_41 rfl (lv_at hl 1 rfl) ?_
                    have hd1 : (va_up g sa (some (e_refs cI 32 (va_up fs (j_n t) (some z))))) d = some (.inr (4, [.ref ka, .ref sa, .int (nI a.mem), .int (nI a.n), .int (nI a.kc), .int (nI a.nn), .int itv, va_rf (ks.head?.map ad), .int (nI u), .int (nI wk), .null])) := by rw [va_up_ne _ _ hC.dne.2.1.symm]; exact hC.1.1
                    refine y_get (D := D) (ci := 4) (v := .ref sa) (C := R_De) (T := F_De) (N := 11) hx hb hts in_De hown hK hP hd1 rfl 1 (by decide) (hts (.fieldLink R_De 17 "MemoryDesk" "slots" "[LMemoryDesk$Item;") (by decide +kernel)) (fun _ h9 => h9) rfl d_De_follow_42 ?_
                    refine lv_iload_n hx hb d_De_follow_45 rfl (lv_at hl 4 rfl) ?_
                    refine y_aldq hx hb hK hP 1 (va_up_self _ _ _) rfl ht.v32 d_De_follow_46 ?_
                    rw [va_up_self]
                    refine lv_ifnull hx hb d_De_follow_47 ?_
                    refine lv_iconst (v := 1) hx hb d_De_follow_50 (by decide) ?_
                    refine lv_goto hx hb d_De_follow_51 rfl ?_
                    refine W.widen (k := 6) (n := 60) (by first | decide | omega) (by first | decide | omega) ?_
                    exact x_ret (W.zret (v := 1) hx hb hr rfl (w_fin rfl hAe (w_good (v := some (.int 1)) (((q_y ht).trans (s_pl0 hs o0 hki hrf)).trans (by rw [w_b1 hb9, b3, w_lN (by omega)])) (c_R.of (hC.slot (s := j_n t) (o := b) (by rw [b4]; exact (c_ob.at (by omega)).symm)) hsn hwk hu hum hlv rfl (fun _ _ _ => rfl) (fun o z => r_puts (Or.inr hRb) z))) hP hA hS) hS.2.2 d_De_follow_55)
          · skip
            obtain ⟨hg9, hq9⟩ := hq9
            rw [hg9] at hP hA
            rcases hq9 with ⟨hfn, hv9⟩ | ⟨q9, kx, len9, wd9, cs9, tg9, kp9, nk9, sn9, np9, hfq, hq, ⟨hki, hv9⟩ | ⟨hki, hrf, hv9⟩ | ⟨-, -, hv9⟩⟩
            · cases hv9
              refine x_W.widen (k := 6) (n := 60) (by first | decide | omega) (by first | decide | omega) ?_
              exact x_leave (hno 12) hlocks (w_lea rfl hAe (w_bad (i := 1) rfl ((q_y ht).trans (s_pl2 hs (c_ob.none ((hC.2.2.1 _ hs.j32).symm.trans hfn)))) hR0 (Nat.le_succ _)) hP hA hS z1 z2 z3) hS.2.2
            · cases hv9
              obtain ⟨o0, o1, o2, hqo, hlen, hfx, hit⟩ := hC.place hw hs hfq hq
              rw [hlen] at hki
              refine x_W.widen (k := 6) (n := 60) (by first | decide | omega) (by first | decide | omega) ?_
              exact x_leave (hno 12) hlocks (w_lea rfl hAe (w_bad (i := 2) rfl ((q_y ht).trans (s_pl3 hs o0 hki)) hR0 (Nat.le_succ _)) hP hA hS z1 z2 z3) hS.2.2
            · cases hv9
              obtain ⟨o0, o1, o2, hqo, hlen, hfx, hit⟩ := hC.place hw hs hfq hq
              rw [hlen] at hki
              refine x_W.widen (k := 6) (n := 60) (by first | decide | omega) (by first | decide | omega) ?_
              exact x_leave (hno 12) hlocks (w_lea rfl hAe (w_bad (i := 3) rfl ((q_y ht).trans (s_pl4 hs o0 hki (fun z => hrf (w_rf1.mpr ((hC.refs hw o1 o2 hfx hki).trans z))))) hR0 (Nat.le_succ _)) hP hA hS z1 z2 z3) hS.2.2
            · cases hv9
        · cases hv9
      · skip
        obtain ⟨hg9, hq9⟩ := hq9
        rw [hg9] at hP hA
        rcases hq9 with ⟨hv9, -⟩ | ⟨hv9, ht⟩
        · cases hv9
        · cases hv9
          refine x_W.widen (k := 6) (n := 60) (by first | decide | omega) (by first | decide | omega) ?_
          exact x_leave (hno 5) hlocks (w_lea rfl hAe (w_bad (i := 0) rfl (q_n ht) hR0 (Nat.le_succ _)) hP hA hS z1 z2 z3) hS.2.2
    · cases hv9
  · skip
    obtain ⟨hg9, hq9⟩ := hq9
    rw [hg9] at hP hA
    rcases hq9 with ⟨hv9, -⟩ | ⟨hv9, hs⟩
    · cases hv9
    · cases hv9
      refine x_W.widen (k := 6) (n := 60) (by first | decide | omega) (by first | decide | omega) ?_
      exact x_leave (hno 1) hlocks (w_lea rfl hAe (w_bad (i := 0) rfl (Classical.byCases (fun ht : b_in t 32 => (q_y ht).trans (s_pl1 hs)) (fun ht => q_n ht)) hR0 (Nat.le_succ _)) hP hA hS z1 z2 z3) hS.2.2
set_option maxHeartbeats 4000000 in
set_option maxRecDepth 100000 in
/-- size(s) -/
theorem c_De_size (l : Launch) (hst : l.stackTraces = false) (D : va_G) (cK cI cN cZ cL : ClassId) (g : y_G) (sz : Nat) (a : Ab) (cn d : Nat) (sv : Int32) (hw : a_W a cn) (hcn : cn < 2 ^ 30) (hR : c_R cK cI a g d cn) : x_M l y_De_size [.code y_De_size b_De_size 2 (some .int)] rmP (w_Pc D (x_tys cK cI cN cZ cL) [.ref d, .int sv] g sz) (w_Qc D g sz (fun r g9 => x_out [xIAE, xISE] (s_size a sv) r ∧ c_R cK cI (s_size a sv).2.2 g9 d (cn + 1))) 6 60 (y_A g sz) := by
  refine x_ofW (cc := b_De_size) (maxL := 2) (ret := (some .int)) (by decide) rfl ?_
  intro p e s m args below meth c s₁ B hml hno hv
  obtain ⟨rfl, hsz, hP, hE⟩ := hv
  subst hsz
  have hts := hE.hts ([.ref d, .int sv] : List Value).toArray
  have hK := hE.1.2.1
  have hA0 : ∀ q, s.heap.size ≤ q → y_A g s.heap.size q := fun q h => Or.inr h
  have hA : ∀ q e, g q = some e → y_A g s.heap.size q := fun q e h => Or.inl (by rw [h]; exact fun z => nomatch z)
  have hS : va_S (y_A g s.heap.size) s.heap s.heap [] := va_S.rf
  generalize hAe : y_A g s.heap.size = A at hE hA0 hA hS ⊢
  have hx := B.exec
  have hb := B.bytes
  have hr := B.returns
  have hlocks := B.notSynchronized
  have hown : s.vm.findClass R_De = some m.cls := findClass_of_methodNamed B.named
  have hl := lv_entry ([.ref d, .int sv]) (n := 2) (Nat.le_of_ble_eq_true rfl)
  rw [lg_entry_eq]
  generalize (lg_sl ([.ref d, .int sv]) ++ List.replicate (2 - (lg_sl ([.ref d, .int sv])).length) Slot.unset).toArray = ls at hl ⊢
  have hl : lv_has ls 2 [(0, .ref d), (1, .int sv)] := hl
  have hR0 := hR
  obtain ⟨ka, sa, fk, fs, ad, cs, ks, itv, u, wk, sn, np, lv, hC, hsn, hwk, hu, hum, hlv⟩ := hR
  have hn9 : a.n ≤ cn := hw.2.2.2.2.2.2.2.2.2.1
  have hmm : a.mem ≤ 65536 := hw.2.2.2.2.2.2.2.2.1
  refine lv_iload_n hx hb d_De_size_0 rfl (lv_at hl 1 rfl) ?_
  refine w_callS (As := [.int sv]) ⟨hx, hb, hml, hown, hts⟩ (c_De_checkSlot l hst D _ _ _ sv) (x_cb (va_cwS (own := R_De) (index := 53) 1 hts (x_gi (by decide +kernel)) rfl rfl rfl (by decide +kernel) ⟨by decide, by decide⟩).1) (hts (.static y_De_checkSlot) (by decide +kernel)) hE hP hA hA0 hS rfl hl.1 rfl (lv_room (Nat.le_of_ble_eq_true rfl)) d_De_size_1 (by first | decide | omega) (by first | decide | omega) (fun v9 g9 H locs hq9 hP hA hS => ?_) (fun E9 q9 ce9 g9 H locs hq9 hP hA hS z1 z2 z3 => ?_)
  · skip
    obtain ⟨hg9, hq9⟩ := hq9
    rw [hg9] at hP hA
    rcases hq9 with ⟨hv9, hs⟩ | ⟨hv9, -⟩
    · cases hv9
      refine W.eq (g2 := F0 m 4 ls []) rfl ?_
      refine lv_aload_n hx hb d_De_size_4 rfl (lv_at hl 0 rfl) ?_
      refine lv_iload_n hx hb d_De_size_5 rfl (lv_at hl 1 rfl) ?_
      refine w_callV (As := [.int sv]) (C := R_De) ⟨hx, hb, hml, hown, hts⟩ (c_De_held l hst D cK cI cN cZ cL _ _ d ka sa _ _ _ _ _ _ _ _ _ sv fs hC.1.1 hC.1.2.2 hs) (x_cb (cwV (own := R_De) (index := 117) (C := R_De) 1 hts (x_gi (by decide +kernel)) rfl rfl rfl (by decide +kernel) ⟨by decide, by decide⟩).1) (hts (.instanceMethod y_De_held) (by decide +kernel)) (hts (.selects R_De y_De_held y_De_held) (by decide +kernel)) (y_recv (ci := 4) (q := (R_De, F_De, 11)) hK hP rfl hC.1.1) hE hP hA hA0 hS rfl hl.1 rfl (lv_room (Nat.le_of_ble_eq_true rfl)) d_De_size_6 (by first | decide | omega) (by first | decide | omega) (fun v9 g9 H locs hq9 hP hA hS => ?_) (fun E9 q9 ce9 g9 H locs hq9 hP hA hS z1 z2 z3 => ?_)
      · skip
        obtain ⟨hg9, hq9⟩ := hq9
        rw [hg9] at hP hA
        rcases hq9 with ⟨q9, hfq, hv9⟩ | ⟨-, hv9⟩
        · cases hv9
          obtain ⟨o0, hqo⟩ := c_ob.some ((hC.2.2.1 _ hs.j32).symm.trans hfq)
          have o1 : 1 ≤ a.sl (j_n sv) := by omega
          have o2 := hw.2.2.1 (j_n sv) hs.j32
          obtain ⟨kx, hfx, hit⟩ := hC.2.2.2.1 _ o1 o2
          rw [hqo]
          refine W.eq (g2 := F0 m 9 ls [.ref (ad (a.sl (j_n sv)))]) rfl ?_
          refine y_get (D := D) (ci := 1) (v := .int (a_len a (a.sl (j_n sv)))) (C := R_It) (T := F_It) (N := 9) hx hb hts in_It hown hK hP hit rfl 1 (by decide) (hts (.fieldLink R_De 140 "MemoryDesk$Item" "length" "I") (by decide +kernel)) (fun _ h9 => h9) rfl d_De_size_9 ?_
          refine W.widen (k := 6) (n := 60) (by first | decide | omega) (by first | decide | omega) ?_
          exact x_ret (W.iret (v := (a_len a (a.sl (j_n sv)))) hx hb hr (w_fin rfl hAe (w_good (v := some (.int (a_len a (a.sl (j_n sv))))) (s_in0 hs o0) (hR0.up (Nat.le_succ _))) hP hA hS) hS.2.2 d_De_size_12)
        · cases hv9
      · skip
        obtain ⟨hg9, hq9⟩ := hq9
        rw [hg9] at hP hA
        rcases hq9 with ⟨q9, -, hv9⟩ | ⟨hfn, hv9⟩
        · cases hv9
        · cases hv9
          refine x_W.widen (k := 6) (n := 60) (by first | decide | omega) (by first | decide | omega) ?_
          exact x_leave (hno 6) hlocks (w_lea rfl hAe (w_bad (i := 1) rfl (s_in2 hs (c_ob.none ((hC.2.2.1 _ hs.j32).symm.trans hfn))) hR0 (Nat.le_succ _)) hP hA hS z1 z2 z3) hS.2.2
    · cases hv9
  · skip
    obtain ⟨hg9, hq9⟩ := hq9
    rw [hg9] at hP hA
    rcases hq9 with ⟨hv9, -⟩ | ⟨hv9, hs⟩
    · cases hv9
    · cases hv9
      refine x_W.widen (k := 6) (n := 60) (by first | decide | omega) (by first | decide | omega) ?_
      exact x_leave (hno 1) hlocks (w_lea rfl hAe (w_bad (i := 0) rfl (q_n hs) hR0 (Nat.le_succ _)) hP hA hS z1 z2 z3) hS.2.2
set_option maxHeartbeats 4000000 in
set_option maxRecDepth 100000 in
/-- number(s) -/
theorem c_De_number (l : Launch) (hst : l.stackTraces = false) (D : va_G) (cK cI cN cZ cL : ClassId) (g : y_G) (sz : Nat) (a : Ab) (cn d : Nat) (sv : Int32) (hw : a_W a cn) (hcn : cn < 2 ^ 30) (hR : c_R cK cI a g d cn) : x_M l y_De_number [.code y_De_number b_De_number 3 (some .int)] rmP (w_Pc D (x_tys cK cI cN cZ cL) [.ref d, .int sv] g sz) (w_Qc D g sz (fun r g9 => x_out [xIAE, xISE] (s_number a sv) r ∧ c_R cK cI (s_number a sv).2.2 g9 d (cn + 1))) 6 60 (y_A g sz) := by
  refine x_ofW (cc := b_De_number) (maxL := 3) (ret := (some .int)) (by decide) rfl ?_
  intro p e s m args below meth c s₁ B hml hno hv
  obtain ⟨rfl, hsz, hP, hE⟩ := hv
  subst hsz
  have hts := hE.hts ([.ref d, .int sv] : List Value).toArray
  have hK := hE.1.2.1
  have hA0 : ∀ q, s.heap.size ≤ q → y_A g s.heap.size q := fun q h => Or.inr h
  have hA : ∀ q e, g q = some e → y_A g s.heap.size q := fun q e h => Or.inl (by rw [h]; exact fun z => nomatch z)
  have hS : va_S (y_A g s.heap.size) s.heap s.heap [] := va_S.rf
  generalize hAe : y_A g s.heap.size = A at hE hA0 hA hS ⊢
  have hx := B.exec
  have hb := B.bytes
  have hr := B.returns
  have hlocks := B.notSynchronized
  have hown : s.vm.findClass R_De = some m.cls := findClass_of_methodNamed B.named
  have hl := lv_entry ([.ref d, .int sv]) (n := 3) (Nat.le_of_ble_eq_true rfl)
  rw [lg_entry_eq]
  generalize (lg_sl ([.ref d, .int sv]) ++ List.replicate (3 - (lg_sl ([.ref d, .int sv])).length) Slot.unset).toArray = ls at hl ⊢
  have hl : lv_has ls 3 [(0, .ref d), (1, .int sv)] := hl
  have hR0 := hR
  obtain ⟨ka, sa, fk, fs, ad, cs, ks, itv, u, wk, sn, np, lv, hC, hsn, hwk, hu, hum, hlv⟩ := hR
  have hn9 : a.n ≤ cn := hw.2.2.2.2.2.2.2.2.2.1
  have hmm : a.mem ≤ 65536 := hw.2.2.2.2.2.2.2.2.1
  refine lv_iload_n hx hb d_De_number_0 rfl (lv_at hl 1 rfl) ?_
  refine w_callS (As := [.int sv]) ⟨hx, hb, hml, hown, hts⟩ (c_De_checkSlot l hst D _ _ _ sv) (x_cb (va_cwS (own := R_De) (index := 53) 1 hts (x_gi (by decide +kernel)) rfl rfl rfl (by decide +kernel) ⟨by decide, by decide⟩).1) (hts (.static y_De_checkSlot) (by decide +kernel)) hE hP hA hA0 hS rfl hl.1 rfl (lv_room (Nat.le_of_ble_eq_true rfl)) d_De_number_1 (by first | decide | omega) (by first | decide | omega) (fun v9 g9 H locs hq9 hP hA hS => ?_) (fun E9 q9 ce9 g9 H locs hq9 hP hA hS z1 z2 z3 => ?_)
  · skip
    obtain ⟨hg9, hq9⟩ := hq9
    rw [hg9] at hP hA
    rcases hq9 with ⟨hv9, hs⟩ | ⟨hv9, -⟩
    · cases hv9
      refine W.eq (g2 := F0 m 4 ls []) rfl ?_
      refine lv_aload_n hx hb d_De_number_4 rfl (lv_at hl 0 rfl) ?_
      refine lv_iload_n hx hb d_De_number_5 rfl (lv_at hl 1 rfl) ?_
      refine w_callV (As := [.int sv]) (C := R_De) ⟨hx, hb, hml, hown, hts⟩ (c_De_held l hst D cK cI cN cZ cL _ _ d ka sa _ _ _ _ _ _ _ _ _ sv fs hC.1.1 hC.1.2.2 hs) (x_cb (cwV (own := R_De) (index := 117) (C := R_De) 1 hts (x_gi (by decide +kernel)) rfl rfl rfl (by decide +kernel) ⟨by decide, by decide⟩).1) (hts (.instanceMethod y_De_held) (by decide +kernel)) (hts (.selects R_De y_De_held y_De_held) (by decide +kernel)) (y_recv (ci := 4) (q := (R_De, F_De, 11)) hK hP rfl hC.1.1) hE hP hA hA0 hS rfl hl.1 rfl (lv_room (Nat.le_of_ble_eq_true rfl)) d_De_number_6 (by first | decide | omega) (by first | decide | omega) (fun v9 g9 H locs hq9 hP hA hS => ?_) (fun E9 q9 ce9 g9 H locs hq9 hP hA hS z1 z2 z3 => ?_)
      · skip
        obtain ⟨hg9, hq9⟩ := hq9
        rw [hg9] at hP hA
        rcases hq9 with ⟨q9, hfq, hv9⟩ | ⟨-, hv9⟩
        · cases hv9
          obtain ⟨o0, hqo⟩ := c_ob.some ((hC.2.2.1 _ hs.j32).symm.trans hfq)
          have o1 : 1 ≤ a.sl (j_n sv) := by omega
          have o2 := hw.2.2.1 (j_n sv) hs.j32
          obtain ⟨kx, hfx, hit⟩ := hC.2.2.2.1 _ o1 o2
          rw [hqo]
          refine W.eq (g2 := F0 m 9 ls [.ref (ad (a.sl (j_n sv)))]) rfl ?_
          refine lv_astore_n hx hb d_De_number_9 rfl hl (by decide) rfl (fun ls hl => ?_)
          have hl : lv_has ls 3 [(2, .ref (ad (a.sl (j_n sv)))), (0, .ref d), (1, .int sv)] := hl
          refine lv_aload_n hx hb d_De_number_10 rfl (lv_at hl 0 rfl) ?_
          refine y_get (D := D) (ci := 1) (v := .int (nI (a.nu (a.sl (j_n sv))))) (C := R_It) (T := F_It) (N := 9) hx hb hts in_It hown hK hP hit rfl 4 (by decide) (hts (.fieldLink R_De 134 "MemoryDesk$Item" "tag" "I") (by decide +kernel)) (fun _ h9 => h9) rfl d_De_number_11 ?_
          have hnu : a.nu (a.sl (j_n sv)) ≤ a.nn := hw.2.2.2.2.2.2.1 _
          have hnn : a.nn ≤ cn := hw.2.2.2.2.2.2.2.2.2.2.1
          refine lv_if_ne hx hb d_De_number_14 rfl (fun h1 => ?_) (fun h1 => ?_)
          · -- ifne at 14: to 35
            refine lv_aload_n hx hb d_De_number_35 rfl (lv_at hl 0 rfl) ?_
            refine y_get (D := D) (ci := 1) (v := .int (nI (a.nu (a.sl (j_n sv))))) (C := R_It) (T := F_It) (N := 9) hx hb hts in_It hown hK hP hit rfl 4 (by decide) (hts (.fieldLink R_De 134 "MemoryDesk$Item" "tag" "I") (by decide +kernel)) (fun _ h9 => h9) rfl d_De_number_36 ?_
            refine W.widen (k := 6) (n := 60) (by first | decide | omega) (by first | decide | omega) ?_
            exact x_ret (W.iret (v := (nI (a.nu (a.sl (j_n sv))))) hx hb hr (w_fin rfl hAe (w_good (v := some (.int (nI (a.nu (a.sl (j_n sv)))))) ((s_in0 hs o0).trans (if_neg (fun z => h1 (by rw [z]; rfl)))) (hR0.up (Nat.le_succ _))) hP hA hS) hS.2.2 d_De_number_39)
          · -- ifne at 14: to 17
            have h0 : a.nu (a.sl (j_n sv)) = 0 := (nI_eq (b := 0) (by omega) (by omega)).mp h1
            refine lv_aload_n hx hb d_De_number_17 rfl (lv_at hl 1 rfl) ?_
            refine lv_dup hx hb d_De_number_18 rfl ?_
            refine y_get (D := D) (ci := 4) (v := .int (nI a.nn)) (C := R_De) (T := F_De) (N := 11) hx hb hts in_De hown hK hP hC.1.1 rfl 5 (by decide) (hts (.fieldLink R_De 137 "MemoryDesk" "tags" "I") (by decide +kernel)) (fun _ h9 => h9) rfl d_De_number_19 ?_
            refine lv_iconst (v := 1) hx hb d_De_number_22 (by decide) ?_
            refine lv_iadd hx hb d_De_number_23 ?_
            rw [nI_1]
            refine y_put (D := D) (ci := 4) (v := .int (nI (a.nn + 1))) (ty := .int) (C := R_De) (T := F_De) (N := 11) hx hb hts in_De t_De t_De_ok n_De hown hK hP hA hS hC.1.1 rfl 5 (by decide) (hts (.fieldLink R_De 137 "MemoryDesk" "tags" "I") (by decide +kernel)) (fun _ h9 => h9) rfl (by decide +kernel) rfl rfl (Nat.le_of_ble_eq_true rfl) d_De_number_24 (fun H locs hP hA hS => ?_)
            have hP : y_P D vwCl (va_up g d (some (.inr (4, [.ref ka, .ref sa, .int (nI a.mem), .int (nI a.n), .int (nI a.kc), .int (nI (a.nn + 1)), .int itv, va_rf (ks.head?.map ad), .int (nI u), .int (nI wk), .null])))) H := hP
            have hA : ∀ q99 e99, (va_up g d (some (.inr (4, [.ref ka, .ref sa, .int (nI a.mem), .int (nI a.n), .int (nI a.kc), .int (nI (a.nn + 1)), .int itv, va_rf (ks.head?.map ad), .int (nI u), .int (nI wk), .null])))) q99 = some e99 → A q99 := hA
            have hod : ad (a.sl (j_n sv)) ≠ d := c_ne hit hC.1.1 (fun z => by cases z)
            refine lv_aload_n hx hb d_De_number_27 rfl (lv_at hl 0 rfl) ?_
            refine lv_aload_n hx hb d_De_number_28 rfl (lv_at hl 1 rfl) ?_
            refine y_get (D := D) (ci := 4) (v := .int (nI (a.nn + 1))) (C := R_De) (T := F_De) (N := 11) hx hb hts in_De hown hK hP (va_up_self _ _ _) rfl 5 (by decide) (hts (.fieldLink R_De 137 "MemoryDesk" "tags" "I") (by decide +kernel)) (fun _ h9 => h9) rfl d_De_number_29 ?_
            have hit1 : (va_up g d (some (.inr (4, [.ref ka, .ref sa, .int (nI a.mem), .int (nI a.n), .int (nI a.kc), .int (nI (a.nn + 1)), .int itv, va_rf (ks.head?.map ad), .int (nI u), .int (nI wk), .null])))) (ad (a.sl (j_n sv))) = some (.inr (1, [.ref kx, .int (a_len a (a.sl (j_n sv))), .int (nI (a_wd a (a.sl (j_n sv)))), va_rf (c_hd (cs (a.sl (j_n sv)))), .int (nI (a.nu (a.sl (j_n sv)))), .int (c_bit (a.kp (a.sl (j_n sv)))), va_rf ((c_nx ks (a.sl (j_n sv))).map ad), .int (nI (sn (a.sl (j_n sv)))), va_rf (np (a.sl (j_n sv)))])) := by rw [va_up_ne _ _ hod]; exact hit
            refine y_put (D := D) (ci := 1) (v := .int (nI (a.nn + 1))) (ty := .int) (C := R_It) (T := F_It) (N := 9) hx hb hts in_It t_It t_It_ok n_It hown hK hP hA hS hit1 rfl 4 (by decide) (hts (.fieldLink R_De 134 "MemoryDesk$Item" "tag" "I") (by decide +kernel)) (fun _ h9 => h9) rfl (by decide +kernel) rfl rfl (Nat.le_of_ble_eq_true rfl) d_De_number_32 (fun H locs hP hA hS => ?_)
            have hP : y_P D vwCl (va_up (va_up g d (some (.inr (4, [.ref ka, .ref sa, .int (nI a.mem), .int (nI a.n), .int (nI a.kc), .int (nI (a.nn + 1)), .int itv, va_rf (ks.head?.map ad), .int (nI u), .int (nI wk), .null])))) (ad (a.sl (j_n sv))) (some (.inr (1, [.ref kx, .int (a_len a (a.sl (j_n sv))), .int (nI (a_wd a (a.sl (j_n sv)))), va_rf (c_hd (cs (a.sl (j_n sv)))), .int (nI (a.nn + 1)), .int (c_bit (a.kp (a.sl (j_n sv)))), va_rf ((c_nx ks (a.sl (j_n sv))).map ad), .int (nI (sn (a.sl (j_n sv)))), va_rf (np (a.sl (j_n sv)))])))) H := hP
            have hA : ∀ q99 e99, (va_up (va_up g d (some (.inr (4, [.ref ka, .ref sa, .int (nI a.mem), .int (nI a.n), .int (nI a.kc), .int (nI (a.nn + 1)), .int itv, va_rf (ks.head?.map ad), .int (nI u), .int (nI wk), .null])))) (ad (a.sl (j_n sv))) (some (.inr (1, [.ref kx, .int (a_len a (a.sl (j_n sv))), .int (nI (a_wd a (a.sl (j_n sv)))), va_rf (c_hd (cs (a.sl (j_n sv)))), .int (nI (a.nn + 1)), .int (c_bit (a.kp (a.sl (j_n sv)))), va_rf ((c_nx ks (a.sl (j_n sv))).map ad), .int (nI (sn (a.sl (j_n sv)))), va_rf (np (a.sl (j_n sv)))])))) q99 = some e99 → A q99 := hA
            refine lv_aload_n hx hb d_De_number_35 rfl (lv_at hl 0 rfl) ?_
            refine y_get (D := D) (ci := 1) (v := .int (nI (a.nn + 1))) (C := R_It) (T := F_It) (N := 9) hx hb hts in_It hown hK hP (va_up_self _ _ _) rfl 4 (by decide) (hts (.fieldLink R_De 134 "MemoryDesk$Item" "tag" "I") (by decide +kernel)) (fun _ h9 => h9) rfl d_De_number_36 ?_
            refine W.widen (k := 6) (n := 60) (by first | decide | omega) (by first | decide | omega) ?_
            exact x_ret (W.iret (v := (nI (a.nn + 1))) hx hb hr (w_fin rfl hAe (w_good (v := some (.int (nI (a.nn + 1)))) ((s_in0 hs o0).trans (if_pos h0)) (c_R.of (hC.numb o1 o2 hfx) hsn hwk hu hum hlv rfl (fun _ _ _ => rfl) (fun o z => z))) hP hA hS) hS.2.2 d_De_number_39)
        · cases hv9
      · skip
        obtain ⟨hg9, hq9⟩ := hq9
        rw [hg9] at hP hA
        rcases hq9 with ⟨q9, -, hv9⟩ | ⟨hfn, hv9⟩
        · cases hv9
        · cases hv9
          refine x_W.widen (k := 6) (n := 60) (by first | decide | omega) (by first | decide | omega) ?_
          exact x_leave (hno 6) hlocks (w_lea rfl hAe (w_bad (i := 1) rfl (s_in2 hs (c_ob.none ((hC.2.2.1 _ hs.j32).symm.trans hfn))) hR0 (Nat.le_succ _)) hP hA hS z1 z2 z3) hS.2.2
    · cases hv9
  · skip
    obtain ⟨hg9, hq9⟩ := hq9
    rw [hg9] at hP hA
    rcases hq9 with ⟨hv9, -⟩ | ⟨hv9, hs⟩
    · cases hv9
    · cases hv9
      refine x_W.widen (k := 6) (n := 60) (by first | decide | omega) (by first | decide | omega) ?_
      exact x_leave (hno 1) hlocks (w_lea rfl hAe (w_bad (i := 0) rfl (q_n hs) hR0 (Nat.le_succ _)) hP hA hS z1 z2 z3) hS.2.2
set_option maxHeartbeats 4000000 in
set_option maxRecDepth 100000 in
/-- keep(s) -/
theorem c_De_keep (l : Launch) (hst : l.stackTraces = false) (D : va_G) (cK cI cN cZ cL : ClassId) (g : y_G) (sz : Nat) (a : Ab) (cn d : Nat) (sv : Int32) (hw : a_W a cn) (hcn : cn < 2 ^ 30) (hR : c_R cK cI a g d cn) : x_M l y_De_keep [.code y_De_keep b_De_keep 3 (some .int)] rmP (w_Pc D (x_tys cK cI cN cZ cL) [.ref d, .int sv] g sz) (w_Qc D g sz (fun r g9 => x_out [xIAE, xISE] (s_keep a sv) r ∧ c_R cK cI (s_keep a sv).2.2 g9 d (cn + 1))) 6 60 (y_A g sz) := by
  refine x_ofW (cc := b_De_keep) (maxL := 3) (ret := (some .int)) (by decide) rfl ?_
  intro p e s m args below meth c s₁ B hml hno hv
  obtain ⟨rfl, hsz, hP, hE⟩ := hv
  subst hsz
  have hts := hE.hts ([.ref d, .int sv] : List Value).toArray
  have hK := hE.1.2.1
  have hA0 : ∀ q, s.heap.size ≤ q → y_A g s.heap.size q := fun q h => Or.inr h
  have hA : ∀ q e, g q = some e → y_A g s.heap.size q := fun q e h => Or.inl (by rw [h]; exact fun z => nomatch z)
  have hS : va_S (y_A g s.heap.size) s.heap s.heap [] := va_S.rf
  generalize hAe : y_A g s.heap.size = A at hE hA0 hA hS ⊢
  have hx := B.exec
  have hb := B.bytes
  have hr := B.returns
  have hlocks := B.notSynchronized
  have hown : s.vm.findClass R_De = some m.cls := findClass_of_methodNamed B.named
  have hl := lv_entry ([.ref d, .int sv]) (n := 3) (Nat.le_of_ble_eq_true rfl)
  rw [lg_entry_eq]
  generalize (lg_sl ([.ref d, .int sv]) ++ List.replicate (3 - (lg_sl ([.ref d, .int sv])).length) Slot.unset).toArray = ls at hl ⊢
  have hl : lv_has ls 3 [(0, .ref d), (1, .int sv)] := hl
  have hR0 := hR
  obtain ⟨ka, sa, fk, fs, ad, cs, ks, itv, u, wk, sn, np, lv, hC, hsn, hwk, hu, hum, hlv⟩ := hR
  have hn9 : a.n ≤ cn := hw.2.2.2.2.2.2.2.2.2.1
  have hmm : a.mem ≤ 65536 := hw.2.2.2.2.2.2.2.2.1
  refine lv_iload_n hx hb d_De_keep_0 rfl (lv_at hl 1 rfl) ?_
  refine w_callS (As := [.int sv]) ⟨hx, hb, hml, hown, hts⟩ (c_De_checkSlot l hst D _ _ _ sv) (x_cb (va_cwS (own := R_De) (index := 53) 1 hts (x_gi (by decide +kernel)) rfl rfl rfl (by decide +kernel) ⟨by decide, by decide⟩).1) (hts (.static y_De_checkSlot) (by decide +kernel)) hE hP hA hA0 hS rfl hl.1 rfl (lv_room (Nat.le_of_ble_eq_true rfl)) d_De_keep_1 (by first | decide | omega) (by first | decide | omega) (fun v9 g9 H locs hq9 hP hA hS => ?_) (fun E9 q9 ce9 g9 H locs hq9 hP hA hS z1 z2 z3 => ?_)
  · skip
    obtain ⟨hg9, hq9⟩ := hq9
    rw [hg9] at hP hA
    rcases hq9 with ⟨hv9, hs⟩ | ⟨hv9, -⟩
    · cases hv9
      refine W.eq (g2 := F0 m 4 ls []) rfl ?_
      refine lv_aload_n hx hb d_De_keep_4 rfl (lv_at hl 0 rfl) ?_
      refine lv_iload_n hx hb d_De_keep_5 rfl (lv_at hl 1 rfl) ?_
      refine w_callV (As := [.int sv]) (C := R_De) ⟨hx, hb, hml, hown, hts⟩ (c_De_held l hst D cK cI cN cZ cL _ _ d ka sa _ _ _ _ _ _ _ _ _ sv fs hC.1.1 hC.1.2.2 hs) (x_cb (cwV (own := R_De) (index := 117) (C := R_De) 1 hts (x_gi (by decide +kernel)) rfl rfl rfl (by decide +kernel) ⟨by decide, by decide⟩).1) (hts (.instanceMethod y_De_held) (by decide +kernel)) (hts (.selects R_De y_De_held y_De_held) (by decide +kernel)) (y_recv (ci := 4) (q := (R_De, F_De, 11)) hK hP rfl hC.1.1) hE hP hA hA0 hS rfl hl.1 rfl (lv_room (Nat.le_of_ble_eq_true rfl)) d_De_keep_6 (by first | decide | omega) (by first | decide | omega) (fun v9 g9 H locs hq9 hP hA hS => ?_) (fun E9 q9 ce9 g9 H locs hq9 hP hA hS z1 z2 z3 => ?_)
      · skip
        obtain ⟨hg9, hq9⟩ := hq9
        rw [hg9] at hP hA
        rcases hq9 with ⟨q9, hfq, hv9⟩ | ⟨-, hv9⟩
        · cases hv9
          obtain ⟨o0, hqo⟩ := c_ob.some ((hC.2.2.1 _ hs.j32).symm.trans hfq)
          have o1 : 1 ≤ a.sl (j_n sv) := by omega
          have o2 := hw.2.2.1 (j_n sv) hs.j32
          obtain ⟨kx, hfx, hit⟩ := hC.2.2.2.1 _ o1 o2
          rw [hqo]
          refine W.eq (g2 := F0 m 9 ls [.ref (ad (a.sl (j_n sv)))]) rfl ?_
          refine lv_astore_n hx hb d_De_keep_9 rfl hl (by decide) rfl (fun ls hl => ?_)
          have hl : lv_has ls 3 [(2, .ref (ad (a.sl (j_n sv)))), (0, .ref d), (1, .int sv)] := hl
          refine lv_aload_n hx hb d_De_keep_10 rfl (lv_at hl 0 rfl) ?_
          refine y_get (D := D) (ci := 1) (v := .int (c_bit (a.kp (a.sl (j_n sv))))) (C := R_It) (T := F_It) (N := 9) hx hb hts in_It hown hK hP hit rfl 5 (by decide) (hts (.fieldLink R_De 121 "MemoryDesk$Item" "isKept" "Z") (by decide +kernel)) (fun _ h9 => h9) rfl d_De_keep_11 ?_
          refine lv_if_ne hx hb d_De_keep_14 rfl (fun h1 => ?_) (fun h1 => ?_)
          · -- ifne at 14: to 35
            have hk : a.kp (a.sl (j_n sv)) := Classical.byContradiction (fun z => h1 (c_bit.n z))
            refine lv_aload_n hx hb d_De_keep_35 rfl (lv_at hl 1 rfl) ?_
            refine lv_dup hx hb d_De_keep_36 rfl ?_
            refine y_get (D := D) (ci := 4) (v := .int (nI a.kc)) (C := R_De) (T := F_De) (N := 11) hx hb hts in_De hown hK hP hC.1.1 rfl 4 (by decide) (hts (.fieldLink R_De 131 "MemoryDesk" "keeps" "I") (by decide +kernel)) (fun _ h9 => h9) rfl d_De_keep_37 ?_
            refine lv_iconst (v := 1) hx hb d_De_keep_40 (by decide) ?_
            refine lv_iadd hx hb d_De_keep_41 ?_
            rw [nI_1]
            refine y_put (D := D) (ci := 4) (v := .int (nI (a.kc + 1))) (ty := .int) (C := R_De) (T := F_De) (N := 11) hx hb hts in_De t_De t_De_ok n_De hown hK hP hA hS hC.1.1 rfl 4 (by decide) (hts (.fieldLink R_De 131 "MemoryDesk" "keeps" "I") (by decide +kernel)) (fun _ h9 => h9) rfl (by decide +kernel) rfl rfl (Nat.le_of_ble_eq_true rfl) d_De_keep_42 (fun H locs hP hA hS => ?_)
            have hP : y_P D vwCl (va_up g d (some (.inr (4, [.ref ka, .ref sa, .int (nI a.mem), .int (nI a.n), .int (nI (a.kc + 1)), .int (nI a.nn), .int itv, va_rf (ks.head?.map ad), .int (nI u), .int (nI wk), .null])))) H := hP
            have hA : ∀ q99 e99, (va_up g d (some (.inr (4, [.ref ka, .ref sa, .int (nI a.mem), .int (nI a.n), .int (nI (a.kc + 1)), .int (nI a.nn), .int itv, va_rf (ks.head?.map ad), .int (nI u), .int (nI wk), .null])))) q99 = some e99 → A q99 := hA
            refine lv_aload_n hx hb d_De_keep_45 rfl (lv_at hl 1 rfl) ?_
            refine y_get (D := D) (ci := 4) (v := .int (nI (a.kc + 1))) (C := R_De) (T := F_De) (N := 11) hx hb hts in_De hown hK hP (va_up_self _ _ _) rfl 4 (by decide) (hts (.fieldLink R_De 131 "MemoryDesk" "keeps" "I") (by decide +kernel)) (fun _ h9 => h9) rfl d_De_keep_46 ?_
            refine W.widen (k := 6) (n := 60) (by first | decide | omega) (by first | decide | omega) ?_
            exact x_ret (W.iret (v := (nI (a.kc + 1))) hx hb hr (w_fin rfl hAe (w_good (v := some (.int (nI (a.kc + 1)))) (s_in0 hs o0) (c_R.of (hC.nums (a' := a_keep a (a.sl (j_n sv))) rfl rfl rfl rfl rfl rfl rfl (fun o => ⟨fun z => z.elim id (fun e => by rw [e]; exact hk), Or.inl⟩)) hsn hwk hu hum hlv rfl (fun _ _ _ => rfl) (fun o z => r_keep (a_R.sl hs.j32 o0) z))) hP hA hS) hS.2.2 d_De_keep_49)
          · -- ifne at 14: to 17
            have hk : ¬ a.kp (a.sl (j_n sv)) := fun z => by have h9 := h1; rw [c_bit.y z] at h9; exact absurd h9 (by decide)
            have hod : ad (a.sl (j_n sv)) ≠ d := c_ne hit hC.1.1 (fun z => by cases z)
            refine lv_aload_n hx hb d_De_keep_17 rfl (lv_at hl 0 rfl) ?_
            refine lv_iconst (v := 1) hx hb d_De_keep_18 (by decide) ?_
            refine y_put (D := D) (ci := 1) (v := .int 1) (ty := .boolean) (C := R_It) (T := F_It) (N := 9) hx hb hts in_It t_It t_It_ok n_It hown hK hP hA hS hit rfl 5 (by decide) (hts (.fieldLink R_De 121 "MemoryDesk$Item" "isKept" "Z") (by decide +kernel)) (fun _ h9 => h9) rfl (by decide +kernel) rfl rfl (Nat.le_of_ble_eq_true rfl) d_De_keep_19 (fun H locs hP hA hS => ?_)
            have hP : y_P D vwCl (va_up g (ad (a.sl (j_n sv))) (some (.inr (1, [.ref kx, .int (a_len a (a.sl (j_n sv))), .int (nI (a_wd a (a.sl (j_n sv)))), va_rf (c_hd (cs (a.sl (j_n sv)))), .int (nI (a.nu (a.sl (j_n sv)))), .int 1, va_rf ((c_nx ks (a.sl (j_n sv))).map ad), .int (nI (sn (a.sl (j_n sv)))), va_rf (np (a.sl (j_n sv)))])))) H := hP
            have hA : ∀ q99 e99, (va_up g (ad (a.sl (j_n sv))) (some (.inr (1, [.ref kx, .int (a_len a (a.sl (j_n sv))), .int (nI (a_wd a (a.sl (j_n sv)))), va_rf (c_hd (cs (a.sl (j_n sv)))), .int (nI (a.nu (a.sl (j_n sv)))), .int 1, va_rf ((c_nx ks (a.sl (j_n sv))).map ad), .int (nI (sn (a.sl (j_n sv)))), va_rf (np (a.sl (j_n sv)))])))) q99 = some e99 → A q99 := hA
            have hd1 : (va_up g (ad (a.sl (j_n sv))) (some (.inr (1, [.ref kx, .int (a_len a (a.sl (j_n sv))), .int (nI (a_wd a (a.sl (j_n sv)))), va_rf (c_hd (cs (a.sl (j_n sv)))), .int (nI (a.nu (a.sl (j_n sv)))), .int 1, va_rf ((c_nx ks (a.sl (j_n sv))).map ad), .int (nI (sn (a.sl (j_n sv)))), va_rf (np (a.sl (j_n sv)))])))) d = some (.inr (4, [.ref ka, .ref sa, .int (nI a.mem), .int (nI a.n), .int (nI a.kc), .int (nI a.nn), .int itv, va_rf (ks.head?.map ad), .int (nI u), .int (nI wk), .null])) := by rw [va_up_ne _ _ hod.symm]; exact hC.1.1
            refine lv_aload_n hx hb d_De_keep_22 rfl (lv_at hl 0 rfl) ?_
            refine lv_aload_n hx hb d_De_keep_23 rfl (lv_at hl 1 rfl) ?_
            refine y_get (D := D) (ci := 4) (v := va_rf (ks.head?.map ad)) (C := R_De) (T := F_De) (N := 11) hx hb hts in_De hown hK hP hd1 rfl 7 (by decide) (hts (.fieldLink R_De 125 "MemoryDesk" "firstKept" "LMemoryDesk$Item;") (by decide +kernel)) (fun _ h9 => h9) rfl d_De_keep_24 ?_
            refine y_put (D := D) (ci := 1) (v := va_rf (ks.head?.map ad)) (ty := .object "MemoryDesk$Item") (C := R_It) (T := F_It) (N := 9) hx hb hts in_It t_It t_It_ok n_It hown hK hP hA hS (va_up_self _ _ _) rfl 6 (by decide) (hts (.fieldLink R_De 128 "MemoryDesk$Item" "nextKept" "LMemoryDesk$Item;") (by decide +kernel)) (fun _ h9 => h9) rfl (by decide +kernel) (by rcases va_rf_or (ks.head?.map ad) with h | ⟨z, h⟩ <;> rw [h] <;> rfl) (by rcases va_rf_or (ks.head?.map ad) with h | ⟨z, h⟩ <;> rw [h] <;> rfl) (Nat.le_of_ble_eq_true rfl) d_De_keep_27 (fun H locs hP hA hS => ?_)
            rw [bx_uu] at hP hA
            have hP : y_P D vwCl (va_up g (ad (a.sl (j_n sv))) (some (.inr (1, [.ref kx, .int (a_len a (a.sl (j_n sv))), .int (nI (a_wd a (a.sl (j_n sv)))), va_rf (c_hd (cs (a.sl (j_n sv)))), .int (nI (a.nu (a.sl (j_n sv)))), .int 1, va_rf (ks.head?.map ad), .int (nI (sn (a.sl (j_n sv)))), va_rf (np (a.sl (j_n sv)))])))) H := hP
            have hA : ∀ q99 e99, (va_up g (ad (a.sl (j_n sv))) (some (.inr (1, [.ref kx, .int (a_len a (a.sl (j_n sv))), .int (nI (a_wd a (a.sl (j_n sv)))), va_rf (c_hd (cs (a.sl (j_n sv)))), .int (nI (a.nu (a.sl (j_n sv)))), .int 1, va_rf (ks.head?.map ad), .int (nI (sn (a.sl (j_n sv)))), va_rf (np (a.sl (j_n sv)))])))) q99 = some e99 → A q99 := hA
            have hd2 : (va_up g (ad (a.sl (j_n sv))) (some (.inr (1, [.ref kx, .int (a_len a (a.sl (j_n sv))), .int (nI (a_wd a (a.sl (j_n sv)))), va_rf (c_hd (cs (a.sl (j_n sv)))), .int (nI (a.nu (a.sl (j_n sv)))), .int 1, va_rf (ks.head?.map ad), .int (nI (sn (a.sl (j_n sv)))), va_rf (np (a.sl (j_n sv)))])))) d = some (.inr (4, [.ref ka, .ref sa, .int (nI a.mem), .int (nI a.n), .int (nI a.kc), .int (nI a.nn), .int itv, va_rf (ks.head?.map ad), .int (nI u), .int (nI wk), .null])) := by rw [va_up_ne _ _ hod.symm]; exact hC.1.1
            refine lv_aload_n hx hb d_De_keep_30 rfl (lv_at hl 1 rfl) ?_
            refine lv_aload_n hx hb d_De_keep_31 rfl (lv_at hl 0 rfl) ?_
            refine y_put (D := D) (ci := 4) (v := .ref (ad (a.sl (j_n sv)))) (ty := .object "MemoryDesk$Item") (C := R_De) (T := F_De) (N := 11) hx hb hts in_De t_De t_De_ok n_De hown hK hP hA hS hd2 rfl 7 (by decide) (hts (.fieldLink R_De 125 "MemoryDesk" "firstKept" "LMemoryDesk$Item;") (by decide +kernel)) (fun _ h9 => h9) rfl (by decide +kernel) rfl rfl (Nat.le_of_ble_eq_true rfl) d_De_keep_32 (fun H locs hP hA hS => ?_)
            have hP : y_P D vwCl (va_up (va_up g (ad (a.sl (j_n sv))) (some (.inr (1, [.ref kx, .int (a_len a (a.sl (j_n sv))), .int (nI (a_wd a (a.sl (j_n sv)))), va_rf (c_hd (cs (a.sl (j_n sv)))), .int (nI (a.nu (a.sl (j_n sv)))), .int 1, va_rf (ks.head?.map ad), .int (nI (sn (a.sl (j_n sv)))), va_rf (np (a.sl (j_n sv)))])))) d (some (.inr (4, [.ref ka, .ref sa, .int (nI a.mem), .int (nI a.n), .int (nI a.kc), .int (nI a.nn), .int itv, .ref (ad (a.sl (j_n sv))), .int (nI u), .int (nI wk), .null])))) H := hP
            have hA : ∀ q99 e99, (va_up (va_up g (ad (a.sl (j_n sv))) (some (.inr (1, [.ref kx, .int (a_len a (a.sl (j_n sv))), .int (nI (a_wd a (a.sl (j_n sv)))), va_rf (c_hd (cs (a.sl (j_n sv)))), .int (nI (a.nu (a.sl (j_n sv)))), .int 1, va_rf (ks.head?.map ad), .int (nI (sn (a.sl (j_n sv)))), va_rf (np (a.sl (j_n sv)))])))) d (some (.inr (4, [.ref ka, .ref sa, .int (nI a.mem), .int (nI a.n), .int (nI a.kc), .int (nI a.nn), .int itv, .ref (ad (a.sl (j_n sv))), .int (nI u), .int (nI wk), .null])))) q99 = some e99 → A q99 := hA
            refine lv_aload_n hx hb d_De_keep_35 rfl (lv_at hl 1 rfl) ?_
            refine lv_dup hx hb d_De_keep_36 rfl ?_
            refine y_get (D := D) (ci := 4) (v := .int (nI a.kc)) (C := R_De) (T := F_De) (N := 11) hx hb hts in_De hown hK hP (va_up_self _ _ _) rfl 4 (by decide) (hts (.fieldLink R_De 131 "MemoryDesk" "keeps" "I") (by decide +kernel)) (fun _ h9 => h9) rfl d_De_keep_37 ?_
            refine lv_iconst (v := 1) hx hb d_De_keep_40 (by decide) ?_
            refine lv_iadd hx hb d_De_keep_41 ?_
            rw [nI_1]
            refine y_put (D := D) (ci := 4) (v := .int (nI (a.kc + 1))) (ty := .int) (C := R_De) (T := F_De) (N := 11) hx hb hts in_De t_De t_De_ok n_De hown hK hP hA hS (va_up_self _ _ _) rfl 4 (by decide) (hts (.fieldLink R_De 131 "MemoryDesk" "keeps" "I") (by decide +kernel)) (fun _ h9 => h9) rfl (by decide +kernel) rfl rfl (Nat.le_of_ble_eq_true rfl) d_De_keep_42 (fun H locs hP hA hS => ?_)
            rw [bx_uu] at hP hA
            have hP : y_P D vwCl (va_up (va_up g (ad (a.sl (j_n sv))) (some (.inr (1, [.ref kx, .int (a_len a (a.sl (j_n sv))), .int (nI (a_wd a (a.sl (j_n sv)))), va_rf (c_hd (cs (a.sl (j_n sv)))), .int (nI (a.nu (a.sl (j_n sv)))), .int 1, va_rf (ks.head?.map ad), .int (nI (sn (a.sl (j_n sv)))), va_rf (np (a.sl (j_n sv)))])))) d (some (.inr (4, [.ref ka, .ref sa, .int (nI a.mem), .int (nI a.n), .int (nI (a.kc + 1)), .int (nI a.nn), .int itv, .ref (ad (a.sl (j_n sv))), .int (nI u), .int (nI wk), .null])))) H := hP
            have hA : ∀ q99 e99, (va_up (va_up g (ad (a.sl (j_n sv))) (some (.inr (1, [.ref kx, .int (a_len a (a.sl (j_n sv))), .int (nI (a_wd a (a.sl (j_n sv)))), va_rf (c_hd (cs (a.sl (j_n sv)))), .int (nI (a.nu (a.sl (j_n sv)))), .int 1, va_rf (ks.head?.map ad), .int (nI (sn (a.sl (j_n sv)))), va_rf (np (a.sl (j_n sv)))])))) d (some (.inr (4, [.ref ka, .ref sa, .int (nI a.mem), .int (nI a.n), .int (nI (a.kc + 1)), .int (nI a.nn), .int itv, .ref (ad (a.sl (j_n sv))), .int (nI u), .int (nI wk), .null])))) q99 = some e99 → A q99 := hA
            refine lv_aload_n hx hb d_De_keep_45 rfl (lv_at hl 1 rfl) ?_
            refine y_get (D := D) (ci := 4) (v := .int (nI (a.kc + 1))) (C := R_De) (T := F_De) (N := 11) hx hb hts in_De hown hK hP (va_up_self _ _ _) rfl 4 (by decide) (hts (.fieldLink R_De 131 "MemoryDesk" "keeps" "I") (by decide +kernel)) (fun _ h9 => h9) rfl d_De_keep_46 ?_
            refine W.widen (k := 6) (n := 60) (by first | decide | omega) (by first | decide | omega) ?_
            exact x_ret (W.iret (v := (nI (a.kc + 1))) hx hb hr (w_fin rfl hAe (w_good (v := some (.int (nI (a.kc + 1)))) (s_in0 hs o0) (c_R.of (hC.keepN o1 o2 hfx hk) hsn hwk hu hum hlv rfl (fun _ _ _ => rfl) (fun o z => r_keep (a_R.sl hs.j32 o0) z))) hP hA hS) hS.2.2 d_De_keep_49)
        · cases hv9
      · skip
        obtain ⟨hg9, hq9⟩ := hq9
        rw [hg9] at hP hA
        rcases hq9 with ⟨q9, -, hv9⟩ | ⟨hfn, hv9⟩
        · cases hv9
        · cases hv9
          refine x_W.widen (k := 6) (n := 60) (by first | decide | omega) (by first | decide | omega) ?_
          exact x_leave (hno 6) hlocks (w_lea rfl hAe (w_bad (i := 1) rfl (s_in2 hs (c_ob.none ((hC.2.2.1 _ hs.j32).symm.trans hfn))) hR0 (Nat.le_succ _)) hP hA hS z1 z2 z3) hS.2.2
    · cases hv9
  · skip
    obtain ⟨hg9, hq9⟩ := hq9
    rw [hg9] at hP hA
    rcases hq9 with ⟨hv9, -⟩ | ⟨hv9, hs⟩
    · cases hv9
    · cases hv9
      refine x_W.widen (k := 6) (n := 60) (by first | decide | omega) (by first | decide | omega) ?_
      exact x_leave (hno 1) hlocks (w_lea rfl hAe (w_bad (i := 0) rfl (q_n hs) hR0 (Nat.le_succ _)) hP hA hS z1 z2 z3) hS.2.2
end
section
/-! the face's methods: memory, every, collect, make; the constructor -/
section CPub3
variable {p : Program} {l : Launch} {e : Env} {R : Room} {s : State} {m : MethodId} {args : Array Value} {below : List Frame} {meth : Method} {c : Code} {H : Heap} {locs : List Loc} {cells slots : Nat} {Q : State → Prop} {cc : ByteArray} {pc : Nat} {ls : Array Slot} {rest : List Value} {D : va_G} {cl : List vw_C} {tys : List (ClassId × FieldType)} {g : y_G} {A : Nat → Prop} {H0 : Heap}
/-- a new array of references, of a class that is known -/
theorem y_newq (hexec : p.tables.exec = Jvm.exec) (hb : c.code = cc) {own C : String} {index : Nat} (hown : s.vm.findClass own = some m.cls) (hclink : (Cond.classLink own index C).before args s = true) (hover : va_AO C s) (hK : va_K D cl tys s) (hP : y_P D cl g H) (hA : ∀ q e, g q = some e → A q) (hS : va_S A H0 H locs) (hA0 : ∀ q, H0.size ≤ q → A q) (t0 : Nat) {cA : ClassId} (ht : tys[t0]? = some (cA, .object C))
    {n : Int32} {N' : Nat} (hn : ¬ n < 0) (hN : n.toNatClampNeg = N') (hbytes : N' * 4 ≤ 536870912) (hcells : cells + 1 ≤ R.cells) (hslots : slots + N' ≤ R.slots) (hdg : decode cc pc = .ok (.anewarray index, 3))
    (kk : ∀ (q : Nat) (H1 : Heap), g q = none → y_P D cl (va_up g q (some (e_refs cA N' (fun _ => none)))) H1 → (∀ z e, va_up g q (some (e_refs cA N' (fun _ => none))) z = some e → A z) → va_S A H0 H1 locs →
      W p l e R s m args below meth c H1 locs (cells + 1) (slots + N') Q (F0 m (pc + 3) ls (.ref q :: rest))) : W p l e R s m args below meth c H locs cells slots Q (F0 m pc ls (.int n :: rest)) := by
  have hlt : ∀ q e, g q = some e → q < H.size := fun q e h => y_lt hP h
  refine va_newq hexec hb hown hclink hover hK (y_toL hP H.size) (y_D hA H.size) hS hA0 hn hN hbytes hcells hslots hdg (fun q cA' H1 h0 h1 h2 h3 => ?_)
  obtain ⟨kA, comp, -, -, -, f1⟩ := (h0.2 tys.length (cA', .object C) (by rw [List.getElem?_append_right (Nat.le_refl _), Nat.sub_self]; rfl)).2
  obtain ⟨kA', comp', -, -, -, f2⟩ := (hK.2 t0 _ ht).2
  cases f1.symm.trans f2
  have hlast : (y_L g H.size ++ [(q, e_refs cA N' (fun _ => none))])[(y_L g H.size).length]? = some (q, e_refs cA N' (fun _ => none)) := by rw [List.getElem?_append_right (Nat.le_refl _), Nat.sub_self]; rfl
  have hq : g q = none := by
    cases hg : g q with
    | none => rfl
    | some e9 =>
      obtain ⟨j, hj⟩ := y_idx (hlt q e9 hg) hg
      have hjl := (List.getElem?_eq_some_iff.mp hj).1
      have := h2.1 j (y_L g H.size).length (q, e9) (q, e_refs cA N' (fun _ => none)) (by rw [List.getElem?_append_left hjl]; exact hj) hlast rfl
      omega
  refine kk q H1 hq (y_ofPush hlt h1) (fun z e h => ?_) h3
  by_cases hz : z = q
  · rw [hz]; exact h2.2 _ _ hlast
  · rw [va_up_ne _ _ hz] at h; exact hA z e h
theorem c_R.of2 {cK cI : ClassId} {a a' : Ab} {g : y_G} {d ka sa : Nat} {fk fs : Nat → Option Nat} {ad : Nat → Nat} {cs : Nat → List CL} {ks : List Nat} {itv : Int32} {u wk cn : Nat} {sn : Nat → Nat} {np : Nat → Option Nat} {lv : Nat → Prop}
    (hC : c_S a' g d ka sa cK cI fk fs ad cs ks itv (nI u) wk sn np none) (hsn : ∀ o, 1 ≤ o → o ≤ a.n → sn o ≤ wk) (hwk : wk ≤ cn + 1) (hu : u = z_sum (a_wd a) lv a.n) (hum : u ≤ a'.mem) (hlv : ∀ o, a_R a o → lv o) (hn : a'.n = a.n) (hwd : ∀ o, 1 ≤ o → o ≤ a.n → a_wd a' o = a_wd a o) (hR : ∀ o, a_R a' o → a_R a o) : c_R cK cI a' g d (cn + 1) :=
  ⟨ka, sa, fk, fs, ad, cs, ks, itv, u, wk, sn, np, lv, hC, fun o a1 a2 => hsn o a1 (by omega), hwk, by rw [hu, hn]; exact (z_congr (fun _ _ _ => Iff.rfl) (fun o a1 a2 _ => hwd o a1 a2)).symm, hum, fun o z => hlv o (hR o z)⟩
theorem a_new.self {a : Ab} {s k : Nat} {n : Int32} {q : Int32 × Int32 × Int32} (h : a.kd k = some q) : a_len (a_new a s k n) (a.n + 1) = (if q.1 < 0 then q.2.1 else n) ∧ a_wd (a_new a s k n) (a.n + 1) = a_more q n := by
  have e1 : (a_new a s k n).kd ((a_new a s k n).ok (a.n + 1)) = some q := by show a.kd (va_up a.ok (a.n + 1) k (a.n + 1)) = _; rw [va_up_self]; exact h
  have e2 : (a_new a s k n).sz (a.n + 1) = n := va_up_self _ _ _
  have e3 : a_len (a_new a s k n) (a.n + 1) = (if q.1 < 0 then q.2.1 else n) := by unfold a_len; rw [e1, e2]
  refine ⟨e3, ?_⟩
  unfold a_wd a_more
  rw [e3]
  unfold a_row
  rw [e1]
theorem c_R.new {cK cI : ClassId} {a : Ab} {g g1 : y_G} {d ka sa : Nat} {fk fs : Nat → Option Nat} {ad : Nat → Nat} {cs : Nat → List CL} {ks : List Nat} {itv us : Int32} {u wk cn : Nat} {sn : Nat → Nat} {np : Nat → Option Nat} {lv : Nat → Prop} (hw : a_W a cn) (hcn : cn < 2 ^ 30) {s k q x : Nat} {n len : Int32} {qk : Int32 × Int32 × Int32} (hkd : a.kd k = some qk)
    (hC : c_S a g d ka sa cK cI fk fs ad cs ks itv us wk sn np none) (hsn : ∀ o, 1 ≤ o → o ≤ a.n → sn o ≤ wk) (hwk : wk ≤ cn + 1) (hu : u = z_sum (a_wd a) lv a.n) (hum : u + a_more qk n ≤ a.mem) (hlv : ∀ o, a_R a o → lv o)
    (hq : g q = none) (hx : fk k = some x) (hl : x ≠ q) (hlen : len = if qk.1 < 0 then qk.2.1 else n) (hq1 : g1 q = some (e_item x len (nI (a_more qk n)) none 0 0 none 0 none)) (hs1 : g1 sa = some (e_refs cI 32 (va_up fs s (some q)))) (hd1 : g1 d = some (e_desk ka sa (nI a.mem) (nI (a.n + 1)) (nI a.kc) (nI a.nn) itv (ks.head?.map ad) (nI (u + a_more qk n)) (nI wk) none)) (ho1 : ∀ z, z ≠ q → z ≠ sa → z ≠ d → g1 z = g z) : c_R cK cI (a_new a s k n) g1 d (cn + 1) := by
  obtain ⟨e1, e2⟩ := a_new.self (s := s) (n := n) hkd
  refine ⟨ka, sa, fk, _, _, _, ks, itv, u + a_more qk n, wk, _, _, fun o => (lv o ∧ o ≤ a.n) ∨ o = a.n + 1, c_S.new (q := q) hw hC hq hx hl (by rw [e1, e2, ← hlen]; exact hq1) hs1 hd1 ho1, fun o a1 a2 => ?_, hwk, ?_, hum, fun o z => ?_⟩
  · have a2 : o ≤ a.n + 1 := a2
    by_cases e : o = a.n + 1
    · rw [e, va_up_self]; exact Nat.zero_le _
    · rw [va_up_ne _ _ e]; exact hsn o a1 (by omega)
  · show _ = z_sum _ _ (a.n + 1)
    rw [z_yes (Or.inr rfl), e2, hu]
    congr 1
    refine z_congr (fun o a1 a2 => ⟨fun z => Or.inl ⟨z, a2⟩, fun z => (z.resolve_right (by omega)).1⟩) (fun o a1 a2 _ => (a_wd.eq (a_new.old a2).1 (a_new.old a2).2).symm)
  · rcases r_new hw hcn z with z | z
    · exact Or.inl ⟨hlv o z.1, z.2⟩
    · exact Or.inr z
/-- a memory in which nothing is -/
def a_0 : Ab := ((fun _ => none), 0, (fun _ => 0), (fun _ => 0), (fun _ => 0), 0, 65536, (fun _ _ => 0), (fun _ => 0), (fun _ => False), 0)
theorem a_0.W : a_W a_0 0 := by
  refine ⟨fun k q _ h => (nomatch h), fun o h1 h2 => absurd h2 (by show ¬ o ≤ 0; omega), fun _ _ => Nat.le_refl _, fun o h => h.elim, fun o k h1 h2 => absurd h2 (by show ¬ o ≤ 0; omega), fun o _ => ⟨rfl, fun _ => rfl⟩, fun o => Nat.le_refl _, by decide, by decide, Nat.le_refl _, Nat.le_refl _, Nat.le_refl _⟩
theorem c_R.zero {cK cI : ClassId} {g : y_G} {d ka sa : Nat} (h1 : g d = some (e_desk ka sa 65536 0 0 0 0 none 0 0 none)) (h2 : g ka = some (e_refs cK 16 (fun _ => none))) (h3 : g sa = some (e_refs cI 32 (fun _ => none))) : c_R cK cI a_0 g d 0 := by
  refine ⟨ka, sa, (fun _ => none), (fun _ => none), (fun _ => 0), (fun _ => []), [], 0, 0, 0, (fun _ => 0), (fun _ => none), (fun _ => False), ⟨⟨h1, h2, h3⟩, fun k _ => Or.inl ⟨rfl, rfl⟩, fun s _ => rfl, fun o h1 h2 => absurd h2 (by show ¬ o ≤ 0; omega), fun o o' h1 h2 => absurd h2 (by show ¬ o ≤ 0; omega), fun o h1 h2 => absurd h2 (by show ¬ o ≤ 0; omega), fun o o' q q' h1 h2 => absurd h2 (by show ¬ o ≤ 0; omega), List.nodup_nil, fun o => ⟨fun z => z.elim, fun z => absurd z List.not_mem_nil⟩⟩, fun o h1 h2 => absurd h2 (by show ¬ o ≤ 0; omega), Nat.le_refl _, rfl, Nat.zero_le _, fun o z => ?_⟩
  have := a_R.in a_0.W z
  have h9 : o ≤ 0 := this.2
  omega
theorem s_make_s {a : Ab} {s k n : Int32} {q : Int32 × Int32 × Int32} (hs : b_in s 32) (hk : b_in k 16) (hc : ∀ q, a.kd (j_n k) = some q → ¬ q.1 < 0 → ¬ n < 0) (hkd : a.kd (j_n k) = some q) : s_make a s k n = s_make2 a s k n q := by
  unfold s_make
  rw [q_y ⟨hs, hk, hc⟩, hkd]
abbrev rmI : Room := { frames := 1, cells := 2, slots := 48, locals := 20 }
end CPub3
theorem b_ge0 {w : Int32} (h : 0 ≤ w) : ¬ w < 0 := fun z => by
  rw [Int32.le_iff_toInt_le] at h
  rw [Int32.lt_iff_toInt_lt] at z
  omega
theorem b_nlt0 {w : Int32} (h : ¬ w < 0) : 0 ≤ w := by
  rw [Int32.le_iff_toInt_le]
  rw [Int32.lt_iff_toInt_lt] at h
  omega
set_option maxHeartbeats 4000000 in
set_option maxRecDepth 100000 in
/-- every(n) -/
theorem c_De_every (l : Launch) (hst : l.stackTraces = false) (D : va_G) (cK cI cN cZ cL : ClassId) (g : y_G) (sz : Nat) (a : Ab) (cn d : Nat) (n : Int32) (hw : a_W a cn) (hcn : cn < 2 ^ 30) (hR : c_R cK cI a g d cn) : x_M l y_De_every [.code y_De_every b_De_every 2 none] rmP (w_Pc D (x_tys cK cI cN cZ cL) [.ref d, .int n] g sz) (w_Qc D g sz (fun r g9 => x_out [xIAE] (s_every a n) r ∧ c_R cK cI (s_every a n).2.2 g9 d (cn + 1))) 6 60 (y_A g sz) := by
  refine x_ofW (cc := b_De_every) (maxL := 2) (ret := none) (by decide) rfl ?_
  intro p e s m args below meth c s₁ B hml hno hv
  obtain ⟨rfl, hsz, hP, hE⟩ := hv
  subst hsz
  have hts := hE.hts ([.ref d, .int n] : List Value).toArray
  have hK := hE.1.2.1
  have hA0 : ∀ q, s.heap.size ≤ q → y_A g s.heap.size q := fun q h => Or.inr h
  have hA : ∀ q e, g q = some e → y_A g s.heap.size q := fun q e h => Or.inl (by rw [h]; exact fun z => nomatch z)
  have hS : va_S (y_A g s.heap.size) s.heap s.heap [] := va_S.rf
  generalize hAe : y_A g s.heap.size = A at hE hA0 hA hS ⊢
  have hx := B.exec
  have hb := B.bytes
  have hr := B.returns
  have hlocks := B.notSynchronized
  have hown : s.vm.findClass R_De = some m.cls := findClass_of_methodNamed B.named
  have hl := lv_entry ([.ref d, .int n]) (n := 2) (Nat.le_of_ble_eq_true rfl)
  rw [lg_entry_eq]
  generalize (lg_sl ([.ref d, .int n]) ++ List.replicate (2 - (lg_sl ([.ref d, .int n])).length) Slot.unset).toArray = ls at hl ⊢
  have hl : lv_has ls 2 [(0, .ref d), (1, .int n)] := hl
  have hR0 := hR
  obtain ⟨ka, sa, fk, fs, ad, cs, ks, itv, u, wk, sn, np, lv, hC, hsn, hwk, hu, hum, hlv⟩ := hR
  have hn9 : a.n ≤ cn := hw.2.2.2.2.2.2.2.2.2.1
  have hmm : a.mem ≤ 65536 := hw.2.2.2.2.2.2.2.2.1
  refine lv_iload_n hx hb d_De_every_0 rfl (lv_at hl 1 rfl) ?_
  refine lv_if_ge hx hb d_De_every_1 rfl (fun h1 => ?_) (fun h1 => ?_)
  · -- ifge at 1: to 14
    refine lv_aload_n hx hb d_De_every_14 rfl (lv_at hl 0 rfl) ?_
    refine lv_iload_n hx hb d_De_every_15 rfl (lv_at hl 1 rfl) ?_
    refine y_put (D := D) (ci := 4) (v := .int n) (ty := .int) (C := R_De) (T := F_De) (N := 11) hx hb hts in_De t_De t_De_ok n_De hown hK hP hA hS hC.1.1 rfl 6 (by decide) (hts (.fieldLink R_De 151 "MemoryDesk" "interval" "I") (by decide +kernel)) (fun _ h9 => h9) rfl (by decide +kernel) rfl rfl (Nat.le_of_ble_eq_true rfl) d_De_every_16 (fun H locs hP hA hS => ?_)
    have hP : y_P D vwCl (va_up g d (some (.inr (4, [.ref ka, .ref sa, .int (nI a.mem), .int (nI a.n), .int (nI a.kc), .int (nI a.nn), .int n, va_rf (ks.head?.map ad), .int (nI u), .int (nI wk), .null])))) H := hP
    have hA : ∀ q99 e99, (va_up g d (some (.inr (4, [.ref ka, .ref sa, .int (nI a.mem), .int (nI a.n), .int (nI a.kc), .int (nI a.nn), .int n, va_rf (ks.head?.map ad), .int (nI u), .int (nI wk), .null])))) q99 = some e99 → A q99 := hA
    refine W.widen (k := 6) (n := 60) (by first | decide | omega) (by first | decide | omega) ?_
    exact x_ret (W.vret hx hb hr (w_fin rfl hAe (w_good (v := none) (q_y (b_ge0 h1)) (c_R.of (hC.nums (a' := a) rfl rfl rfl rfl rfl rfl rfl (fun _ => Iff.rfl)) hsn hwk hu hum hlv rfl (fun _ _ _ => rfl) (fun o z => z))) hP hA hS) hS.2.2 d_De_every_19)
  · -- ifge at 1: to 4
    obtain ⟨sa, hstr⟩ := hE.1.2.2.2.1 (63, "n is below 0") (by decide)
    refine W.widen (k := 6 - 1) (n := 60 - 6) (by first | decide | omega) (by first | decide | omega) ?_
    exact x_throw (A := A) (cls := "java/lang/IllegalArgumentException") (names := ["java/lang/RuntimeException", "java/lang/Exception"]) hx hb hst hown (by decide) (by decide) (hts (.classLink R_De 30 "java/lang/IllegalArgumentException") (by decide +kernel)) (hts (.initialized "java/lang/IllegalArgumentException") (by decide +kernel)) hstr (fun w hw ho => hE.1.at _ ho (at_IAE w hw ho)) nt_IAE hE.2.1 hE.2.2.1 hS (hl.1.trans hml.symm) d_De_every_4 d_De_every_7 d_De_every_8 d_De_every_10 d_De_every_13 (hno 13) (by decide) (by decide) (by decide) (by decide) hlocks (w_thr rfl hAe (w_bad (i := 0) rfl (q_n (fun z => h1 (b_nlt0 z))) hR0 (Nat.le_succ _)) hP hA hS) hS.2.2
set_option maxHeartbeats 4000000 in
set_option maxRecDepth 100000 in
/-- collect() -/
theorem c_De_collect (l : Launch) (hst : l.stackTraces = false) (D : va_G) (cK cI cN cZ cL : ClassId) (g : y_G) (sz : Nat) (a : Ab) (cn d : Nat)  (hw : a_W a cn) (hcn : cn < 2 ^ 30) (hR : c_R cK cI a g d cn) : x_M l y_De_collect [.code y_De_collect b_De_collect 1 (some .int)] rmP (w_Pc D (x_tys cK cI cN cZ cL) [.ref d] g sz) (w_Qc D g sz (fun r g9 => x_out [] (s_collect a) r ∧ c_R cK cI (s_collect a).2.2 g9 d (cn + 1))) 6 60 (y_A g sz) := by
  refine x_ofW (cc := b_De_collect) (maxL := 1) (ret := (some .int)) (by decide) rfl ?_
  intro p e s m args below meth c s₁ B hml hno hv
  obtain ⟨rfl, hsz, hP, hE⟩ := hv
  subst hsz
  have hts := hE.hts ([.ref d] : List Value).toArray
  have hK := hE.1.2.1
  have hA0 : ∀ q, s.heap.size ≤ q → y_A g s.heap.size q := fun q h => Or.inr h
  have hA : ∀ q e, g q = some e → y_A g s.heap.size q := fun q e h => Or.inl (by rw [h]; exact fun z => nomatch z)
  have hS : va_S (y_A g s.heap.size) s.heap s.heap [] := va_S.rf
  generalize hAe : y_A g s.heap.size = A at hE hA0 hA hS ⊢
  have hx := B.exec
  have hb := B.bytes
  have hr := B.returns
  have hlocks := B.notSynchronized
  have hown : s.vm.findClass R_De = some m.cls := findClass_of_methodNamed B.named
  have hl := lv_entry ([.ref d]) (n := 1) (Nat.le_of_ble_eq_true rfl)
  rw [lg_entry_eq]
  generalize (lg_sl ([.ref d]) ++ List.replicate (1 - (lg_sl ([.ref d])).length) Slot.unset).toArray = ls at hl ⊢
  have hl : lv_has ls 1 [(0, .ref d)] := hl
  have hR0 := hR
  obtain ⟨ka, sa, fk, fs, ad, cs, ks, itv, u, wk, sn, np, lv, hC, hsn, hwk, hu, hum, hlv⟩ := hR
  have hn9 : a.n ≤ cn := hw.2.2.2.2.2.2.2.2.2.1
  have hmm : a.mem ≤ 65536 := hw.2.2.2.2.2.2.2.2.1
  refine lv_aload_n hx hb d_De_collect_0 rfl (lv_at hl 0 rfl) ?_
  refine w_callV (As := []) (C := R_De) ⟨hx, hb, hml, hown, hts⟩ (c_De_clearAway l D cK cI cN cZ cL _ _ a cn d ka sa fk fs ad cs ks itv (nI u) wk sn np hw hcn hC hsn (by omega)) (x_cb (cwV (own := R_De) (index := 148) (C := R_De) 0 hts (x_gi (by decide +kernel)) rfl rfl rfl (by decide +kernel) ⟨by decide, by decide⟩).1) (hts (.instanceMethod y_De_clearAway) (by decide +kernel)) (hts (.selects R_De y_De_clearAway y_De_clearAway) (by decide +kernel)) (y_recv (ci := 4) (q := (R_De, F_De, 11)) hK hP rfl hC.1.1) hE hP hA hA0 hS rfl hl.1 rfl (lv_room (Nat.le_of_ble_eq_true rfl)) d_De_collect_1 (by first | decide | omega) (by first | decide | omega) (fun v9 g9 H locs hq9 hP hA hS => ?_) (fun E9 q9 ce9 g9 H locs hq9 hP hA hS z1 z2 z3 => ?_)
  · skip
    obtain ⟨hv9, sn2, np2, hC2, hsn2⟩ := hq9
    cases hv9
    refine W.eq (g2 := F0 m 4 ls []) rfl ?_
    have hle : a_use a ≤ u := by rw [hu]; exact z_le (fun o _ _ z => hlv o z)
    refine lv_aload_n hx hb d_De_collect_4 rfl (lv_at hl 0 rfl) ?_
    refine y_get (D := D) (ci := 4) (v := .int (nI (a_use a))) (C := R_De) (T := F_De) (N := 11) hx hb hts in_De hown hK hP hC2.1.1 rfl 8 (by decide) (hts (.fieldLink R_De 145 "MemoryDesk" "used" "I") (by decide +kernel)) (fun _ h9 => h9) rfl d_De_collect_5 ?_
    refine W.widen (k := 6) (n := 60) (by first | decide | omega) (by first | decide | omega) ?_
    exact x_ret (W.iret (v := (nI (a_use a))) hx hb hr (w_fin rfl hAe (w_good (v := some (.int (nI (a_use a)))) rfl (c_R.of2 (lv := a_R a) hC2 hsn2 (by omega) rfl (by omega) (fun _ z => z) rfl (fun _ _ _ => rfl) (fun o z => z))) hP hA hS) hS.2.2 d_De_collect_8)
  · skip
    exact nomatch hq9.1
theorem b_lt16 {w : Int32} (h : w < 0) : w < 16 := by
  rw [Int32.lt_iff_toInt_lt] at h ⊢
  have e1 : (16 : Int32).toInt = 16 := rfl
  have e0 : (0 : Int32).toInt = 0 := rfl
  omega
set_option maxHeartbeats 4000000 in
set_option maxRecDepth 100000 in
/-- memory(words) -/
theorem c_De_memory (l : Launch) (hst : l.stackTraces = false) (D : va_G) (cK cI cN cZ cL : ClassId) (g : y_G) (sz : Nat) (a : Ab) (cn d : Nat) (w : Int32) (hw : a_W a cn) (hcn : cn < 2 ^ 30) (hR : c_R cK cI a g d cn) : x_M l y_De_memory [.code y_De_memory b_De_memory 2 (some .boolean)] rmP (w_Pc D (x_tys cK cI cN cZ cL) [.ref d, .int w] g sz) (w_Qc D g sz (fun r g9 => x_out [xIAE] (s_memory a w) r ∧ c_R cK cI (s_memory a w).2.2 g9 d (cn + 1))) 6 60 (y_A g sz) := by
  refine x_ofW (cc := b_De_memory) (maxL := 2) (ret := (some .boolean)) (by decide) rfl ?_
  intro p e s m args below meth c s₁ B hml hno hv
  obtain ⟨rfl, hsz, hP, hE⟩ := hv
  subst hsz
  have hts := hE.hts ([.ref d, .int w] : List Value).toArray
  have hK := hE.1.2.1
  have hA0 : ∀ q, s.heap.size ≤ q → y_A g s.heap.size q := fun q h => Or.inr h
  have hA : ∀ q e, g q = some e → y_A g s.heap.size q := fun q e h => Or.inl (by rw [h]; exact fun z => nomatch z)
  have hS : va_S (y_A g s.heap.size) s.heap s.heap [] := va_S.rf
  generalize hAe : y_A g s.heap.size = A at hE hA0 hA hS ⊢
  have hx := B.exec
  have hb := B.bytes
  have hr := B.returns
  have hlocks := B.notSynchronized
  have hown : s.vm.findClass R_De = some m.cls := findClass_of_methodNamed B.named
  have hl := lv_entry ([.ref d, .int w]) (n := 2) (Nat.le_of_ble_eq_true rfl)
  rw [lg_entry_eq]
  generalize (lg_sl ([.ref d, .int w]) ++ List.replicate (2 - (lg_sl ([.ref d, .int w])).length) Slot.unset).toArray = ls at hl ⊢
  have hl : lv_has ls 2 [(0, .ref d), (1, .int w)] := hl
  have hR0 := hR
  obtain ⟨ka, sa, fk, fs, ad, cs, ks, itv, u, wk, sn, np, lv, hC, hsn, hwk, hu, hum, hlv⟩ := hR
  have hn9 : a.n ≤ cn := hw.2.2.2.2.2.2.2.2.2.1
  have hmm : a.mem ≤ 65536 := hw.2.2.2.2.2.2.2.2.1
  obtain ⟨QQ, hQ⟩ : ∃ z, z = x_Q below (w_Qc D g s.heap.size (fun r g9 => x_out [xIAE] (s_memory a w) r ∧ c_R cK cI (s_memory a w).2.2 g9 d (cn + 1))) ([.ref d, .int w] : List Value).toArray s 6 60 A := ⟨_, rfl⟩
  rw [← hQ]
  have tail : ∀ (ls : Array Slot) (H : Heap) (locs : List Loc) (g : y_G) (u1 wk1 : Nat) (sn1 : Nat → Nat) (np1 : Nat → Option Nat) (lv1 : Nat → Prop), ¬ w < 16 → w ≤ 65536 → lv_has ls 2 [(1, .int w), (0, .ref d)] → y_P D vwCl g H → (∀ q99 e99, g q99 = some e99 → A q99) → va_S A s.heap H locs → c_S a g d ka sa cK cI fk fs ad cs ks itv (nI u1) wk1 sn1 np1 none → (∀ o, 1 ≤ o → o ≤ a.n → sn1 o ≤ wk1) → wk1 ≤ cn + 1 → u1 = z_sum (a_wd a) lv1 a.n → u1 ≤ a.mem → (∀ o, a_R a o → lv1 o) → (u1 ≤ j_n w ∨ u1 = a_use a) → W p l e rmP s m ([.ref d, .int w] : List Value).toArray below meth c H locs 0 0 QQ (F0 m 34 ls []) := by
    intro ls H locs g u1 wk1 sn1 np1 lv1 hw1 hw2 hl hP hA hS hC hsn hwk hu hum hlv hor
    obtain ⟨jw, jw1, jw2⟩ := nI_of2 (n := 65536) (M := 65536) rfl (fun z => hw1 (b_lt16 z)) hw2
    have hj : j_n w = jw := by rw [jw2]; exact nI_clamp (by omega)
    have hle : a_use a ≤ u1 := by rw [hu]; exact z_le (fun o _ _ z => hlv o z)
    refine lv_aload_n hx hb d_De_memory_34 rfl (lv_at hl 1 rfl) ?_
    refine y_get (D := D) (ci := 4) (v := .int (nI u1)) (C := R_De) (T := F_De) (N := 11) hx hb hts in_De hown hK hP hC.1.1 rfl 8 (by decide) (hts (.fieldLink R_De 145 "MemoryDesk" "used" "I") (by decide +kernel)) (fun _ h9 => h9) rfl d_De_memory_35 ?_
    refine lv_iload_n hx hb d_De_memory_38 rfl (lv_at hl 0 rfl) ?_
    refine lv_icmp_le hx hb d_De_memory_39 rfl (fun h1 => ?_) (fun h1 => ?_)
    · -- if_icmple at 39: to 44
      have hfit : u1 ≤ jw := (nI_leI (by omega) (by omega)).mp (by rw [← jw2]; exact h1)
      refine lv_aload_n hx hb d_De_memory_44 rfl (lv_at hl 1 rfl) ?_
      refine lv_iload_n hx hb d_De_memory_45 rfl (lv_at hl 0 rfl) ?_
      refine y_put (D := D) (ci := 4) (v := .int w) (ty := .int) (C := R_De) (T := F_De) (N := 11) hx hb hts in_De t_De t_De_ok n_De hown hK hP hA hS hC.1.1 rfl 2 (by decide) (hts (.fieldLink R_De 22 "MemoryDesk" "limit" "I") (by decide +kernel)) (fun _ h9 => h9) rfl (by decide +kernel) rfl rfl (Nat.le_of_ble_eq_true rfl) d_De_memory_46 (fun H locs hP hA hS => ?_)
      have hP : y_P D vwCl (va_up g d (some (.inr (4, [.ref ka, .ref sa, .int w, .int (nI a.n), .int (nI a.kc), .int (nI a.nn), .int itv, va_rf (ks.head?.map ad), .int (nI u1), .int (nI wk1), .null])))) H := hP
      have hA : ∀ q99 e99, (va_up g d (some (.inr (4, [.ref ka, .ref sa, .int w, .int (nI a.n), .int (nI a.kc), .int (nI a.nn), .int itv, va_rf (ks.head?.map ad), .int (nI u1), .int (nI wk1), .null])))) q99 = some e99 → A q99 := hA
      refine lv_iconst (v := 1) hx hb d_De_memory_49 (by decide) ?_
      rw [hQ]
      have hC2 : c_S (a_memo a jw) (va_up g d (some (.inr (4, [.ref ka, .ref sa, .int w, .int (nI a.n), .int (nI a.kc), .int (nI a.nn), .int itv, va_rf (ks.head?.map ad), .int (nI u1), .int (nI wk1), .null])))) d ka sa cK cI fk fs ad cs ks itv (nI u1) wk1 sn1 np1 none := by
        have := hC.nums (a' := a_memo a jw) (itv' := itv) (us' := nI u1) rfl rfl rfl rfl rfl rfl rfl (fun _ => Iff.rfl)
        rw [jw2]
        exact this
      refine W.widen (k := 6) (n := 60) (by first | decide | omega) (by first | decide | omega) ?_
      exact x_ret (W.zret (v := 1) hx hb hr rfl (w_fin rfl hAe (w_good (v := some (.int 1)) (((q_y ⟨hw1, hw2⟩).trans (q_y (by rw [hj]; omega))).trans (by rw [w_b1 trivial, hj])) (c_R.of2 hC2 hsn hwk hu hfit hlv rfl (fun _ _ _ => rfl) (fun o z => z))) hP hA hS) hS.2.2 d_De_memory_50)
    · -- if_icmple at 39: to 42
      have hfit : ¬ u1 ≤ jw := fun z => h1 (by rw [jw2]; exact (nI_leI (by omega) (by omega)).mpr z)
      have he := hor.resolve_left (by rw [hj]; exact hfit)
      refine lv_iconst (v := 0) hx hb d_De_memory_42 (by decide) ?_
      rw [hQ]
      refine W.widen (k := 6) (n := 60) (by first | decide | omega) (by first | decide | omega) ?_
      exact x_ret (W.zret (v := 0) hx hb hr rfl (w_fin rfl hAe (w_good (v := some (.int 0)) (((q_y ⟨hw1, hw2⟩).trans (q_n (by rw [hj]; omega))).trans (by rw [w_b0 (fun z => z)])) (c_R.of2 hC hsn hwk hu hum hlv rfl (fun _ _ _ => rfl) (fun o z => z))) hP hA hS) hS.2.2 d_De_memory_43)
  refine lv_iload_n hx hb d_De_memory_0 rfl (lv_at hl 1 rfl) ?_
  refine lv_bipush (v := 16) hx hb d_De_memory_1 (by decide) ?_
  refine lv_icmp_lt hx hb d_De_memory_3 rfl (fun h2 => ?_) (fun h2 => ?_)
  · -- if_icmplt at 3: to 12
    rw [hQ]
    obtain ⟨sa, hstr⟩ := hE.1.2.2.2.1 (143, "words is not 16..65536") (by decide)
    refine W.widen (k := 6 - 1) (n := 60 - 6) (by first | decide | omega) (by first | decide | omega) ?_
    exact x_throw (A := A) (cls := "java/lang/IllegalArgumentException") (names := ["java/lang/RuntimeException", "java/lang/Exception"]) hx hb hst hown (by decide) (by decide) (hts (.classLink R_De 30 "java/lang/IllegalArgumentException") (by decide +kernel)) (hts (.initialized "java/lang/IllegalArgumentException") (by decide +kernel)) hstr (fun w hw ho => hE.1.at _ ho (at_IAE w hw ho)) nt_IAE hE.2.1 hE.2.2.1 hS (hl.1.trans hml.symm) d_De_memory_12 d_De_memory_15 d_De_memory_16 d_De_memory_18 d_De_memory_21 (hno 21) (by decide) (by decide) (by decide) (by decide) hlocks (w_thr rfl hAe (w_bad (i := 0) rfl (q_n (fun z => z.1 h2)) hR0 (Nat.le_succ _)) hP hA hS) hS.2.2
  · -- if_icmplt at 3: to 6
    refine lv_iload_n hx hb d_De_memory_6 rfl (lv_at hl 1 rfl) ?_
    refine lv_ldc (own := R_De) (index := 21) (v := 65536) hx hb hown (hts (.constant R_De 21 65536) (by decide +kernel)) d_De_memory_7 ?_
    refine lv_icmp_le hx hb d_De_memory_9 rfl (fun h3 => ?_) (fun h3 => ?_)
    · -- if_icmple at 9: to 22
      refine lv_aload_n hx hb d_De_memory_22 rfl (lv_at hl 0 rfl) ?_
      refine y_get (D := D) (ci := 4) (v := .int (nI u)) (C := R_De) (T := F_De) (N := 11) hx hb hts in_De hown hK hP hC.1.1 rfl 8 (by decide) (hts (.fieldLink R_De 145 "MemoryDesk" "used" "I") (by decide +kernel)) (fun _ h9 => h9) rfl d_De_memory_23 ?_
      refine lv_iload_n hx hb d_De_memory_26 rfl (lv_at hl 1 rfl) ?_
      obtain ⟨jw, jw1, jw2⟩ := nI_of2 (n := 65536) (M := 65536) rfl (fun z => h2 (b_lt16 z)) h3
      have hj : j_n w = jw := by rw [jw2]; exact nI_clamp (by omega)
      refine lv_icmp_le hx hb d_De_memory_27 rfl (fun h4 => ?_) (fun h4 => ?_)
      · -- if_icmple at 27: to 34
        have hfit : u ≤ jw := (nI_leI (by omega) (by omega)).mp (by rw [← jw2]; exact h4)
        have hl : lv_has ls 2 [(1, .int w), (0, .ref d)] := lv_sub hl [1, 0] rfl
        exact tail ls s.heap [] g u wk sn np lv h2 h3 hl hP hA hS hC hsn (by omega) hu hum hlv (Or.inl (by rw [hj]; exact hfit))
      · -- if_icmple at 27: to 30
        refine lv_aload_n hx hb d_De_memory_30 rfl (lv_at hl 0 rfl) ?_
        refine w_callV (As := []) (C := R_De) ⟨hx, hb, hml, hown, hts⟩ (c_De_clearAway l D cK cI cN cZ cL _ _ a cn d ka sa fk fs ad cs ks itv (nI u) wk sn np hw hcn hC hsn (by omega)) (x_cb (cwV (own := R_De) (index := 148) (C := R_De) 0 hts (x_gi (by decide +kernel)) rfl rfl rfl (by decide +kernel) ⟨by decide, by decide⟩).1) (hts (.instanceMethod y_De_clearAway) (by decide +kernel)) (hts (.selects R_De y_De_clearAway y_De_clearAway) (by decide +kernel)) (y_recv (ci := 4) (q := (R_De, F_De, 11)) hK hP rfl hC.1.1) hE hP hA hA0 hS rfl hl.1 rfl (lv_room (Nat.le_of_ble_eq_true rfl)) d_De_memory_31 (by first | decide | omega) (by first | decide | omega) (fun v9 g9 H locs hq9 hP hA hS => ?_) (fun E9 q9 ce9 g9 H locs hq9 hP hA hS z1 z2 z3 => ?_)
        · skip
          obtain ⟨hv9, sn2, np2, hC2, hsn2⟩ := hq9
          cases hv9
          have hle : a_use a ≤ u := by rw [hu]; exact z_le (fun o _ _ z => hlv o z)
          have hl : lv_has ls 2 [(1, .int w), (0, .ref d)] := lv_sub hl [1, 0] rfl
          exact tail ls H locs g9 (a_use a) (wk + 1) sn2 np2 (a_R a) h2 h3 hl hP hA hS hC2 hsn2 (by omega) rfl (by omega) (fun _ z => z) (Or.inr rfl)
        · skip
          exact nomatch hq9.1
    · -- if_icmple at 9: to 12
      rw [hQ]
      obtain ⟨sa, hstr⟩ := hE.1.2.2.2.1 (143, "words is not 16..65536") (by decide)
      refine W.widen (k := 6 - 1) (n := 60 - 6) (by first | decide | omega) (by first | decide | omega) ?_
      exact x_throw (A := A) (cls := "java/lang/IllegalArgumentException") (names := ["java/lang/RuntimeException", "java/lang/Exception"]) hx hb hst hown (by decide) (by decide) (hts (.classLink R_De 30 "java/lang/IllegalArgumentException") (by decide +kernel)) (hts (.initialized "java/lang/IllegalArgumentException") (by decide +kernel)) hstr (fun w hw ho => hE.1.at _ ho (at_IAE w hw ho)) nt_IAE hE.2.1 hE.2.2.1 hS (hl.1.trans hml.symm) d_De_memory_12 d_De_memory_15 d_De_memory_16 d_De_memory_18 d_De_memory_21 (hno 21) (by decide) (by decide) (by decide) (by decide) hlocks (w_thr rfl hAe (w_bad (i := 0) rfl (q_n (fun z => h3 z.2)) hR0 (Nat.le_succ _)) hP hA hS) hS.2.2
set_option maxHeartbeats 4000000 in
set_option maxRecDepth 100000 in
/-- make(s, k, n) -/
theorem c_De_make (l : Launch) (hst : l.stackTraces = false) (D : va_G) (cK cI cN cZ cL : ClassId) (g : y_G) (sz : Nat) (a : Ab) (cn d : Nat) (sv k n : Int32) (hw : a_W a cn) (hcn : cn < 2 ^ 30) (hR : c_R cK cI a g d cn) : x_M l y_De_make [.code y_De_make b_De_make 6 (some .int)] rmP (w_Pc D (x_tys cK cI cN cZ cL) [.ref d, .int sv, .int k, .int n] g sz) (w_Qc D g sz (fun r g9 => x_out [xIAE, xISE, xUOE] (s_make a sv k n) r ∧ c_R cK cI (s_make a sv k n).2.2 g9 d (cn + 1))) 6 60 (y_A g sz) := by
  refine x_ofW (cc := b_De_make) (maxL := 6) (ret := (some .int)) (by decide) rfl ?_
  intro p e s m args below meth c s₁ B hml hno hv
  obtain ⟨rfl, hsz, hP, hE⟩ := hv
  subst hsz
  have hts := hE.hts ([.ref d, .int sv, .int k, .int n] : List Value).toArray
  have hK := hE.1.2.1
  have hA0 : ∀ q, s.heap.size ≤ q → y_A g s.heap.size q := fun q h => Or.inr h
  have hA : ∀ q e, g q = some e → y_A g s.heap.size q := fun q e h => Or.inl (by rw [h]; exact fun z => nomatch z)
  have hS : va_S (y_A g s.heap.size) s.heap s.heap [] := va_S.rf
  generalize hAe : y_A g s.heap.size = A at hE hA0 hA hS ⊢
  have hx := B.exec
  have hb := B.bytes
  have hr := B.returns
  have hlocks := B.notSynchronized
  have hown : s.vm.findClass R_De = some m.cls := findClass_of_methodNamed B.named
  have hl := lv_entry ([.ref d, .int sv, .int k, .int n]) (n := 6) (Nat.le_of_ble_eq_true rfl)
  rw [lg_entry_eq]
  generalize (lg_sl ([.ref d, .int sv, .int k, .int n]) ++ List.replicate (6 - (lg_sl ([.ref d, .int sv, .int k, .int n])).length) Slot.unset).toArray = ls at hl ⊢
  have hl : lv_has ls 6 [(0, .ref d), (1, .int sv), (2, .int k), (3, .int n)] := hl
  have hR0 := hR
  obtain ⟨ka, sa, fk, fs, ad, cs, ks, itv, u, wk, sn, np, lv, hC, hsn, hwk, hu, hum, hlv⟩ := hR
  have hn9 : a.n ≤ cn := hw.2.2.2.2.2.2.2.2.2.1
  have hmm : a.mem ≤ 65536 := hw.2.2.2.2.2.2.2.2.1
  refine lv_iload_n hx hb d_De_make_0 rfl (lv_at hl 1 rfl) ?_
  refine w_callS (As := [.int sv]) ⟨hx, hb, hml, hown, hts⟩ (c_De_checkSlot l hst D _ _ _ sv) (x_cb (va_cwS (own := R_De) (index := 53) 1 hts (x_gi (by decide +kernel)) rfl rfl rfl (by decide +kernel) ⟨by decide, by decide⟩).1) (hts (.static y_De_checkSlot) (by decide +kernel)) hE hP hA hA0 hS rfl hl.1 rfl (lv_room (Nat.le_of_ble_eq_true rfl)) d_De_make_1 (by first | decide | omega) (by first | decide | omega) (fun v9 g9 H locs hq9 hP hA hS => ?_) (fun E9 q9 ce9 g9 H locs hq9 hP hA hS z1 z2 z3 => ?_)
  · skip
    obtain ⟨hg9, hq9⟩ := hq9
    rw [hg9] at hP hA
    rcases hq9 with ⟨hv9, hs⟩ | ⟨hv9, -⟩
    · cases hv9
      refine W.eq (g2 := F0 m 4 ls []) rfl ?_
      refine lv_iload_n hx hb d_De_make_4 rfl (lv_at hl 2 rfl) ?_
      refine w_callS (As := [.int k]) ⟨hx, hb, hml, hown, hts⟩ (c_De_checkKind l hst D _ _ _ k) (x_cb (va_cwS (own := R_De) (index := 56) 1 hts (x_gi (by decide +kernel)) rfl rfl rfl (by decide +kernel) ⟨by decide, by decide⟩).1) (hts (.static y_De_checkKind) (by decide +kernel)) hE hP hA hA0 hS rfl hl.1 rfl (lv_room (Nat.le_of_ble_eq_true rfl)) d_De_make_5 (by first | decide | omega) (by first | decide | omega) (fun v9 g9 H locs hq9 hP hA hS => ?_) (fun E9 q9 ce9 g9 H locs hq9 hP hA hS z1 z2 z3 => ?_)
      · skip
        obtain ⟨hg9, hq9⟩ := hq9
        rw [hg9] at hP hA
        rcases hq9 with ⟨hv9, hk⟩ | ⟨hv9, -⟩
        · cases hv9
          refine W.eq (g2 := F0 m 8 ls []) rfl ?_
          refine lv_aload_n hx hb d_De_make_8 rfl (lv_at hl 0 rfl) ?_
          refine y_get (D := D) (ci := 4) (v := .ref ka) (C := R_De) (T := F_De) (N := 11) hx hb hts in_De hown hK hP hC.1.1 rfl 0 (by decide) (hts (.fieldLink R_De 11 "MemoryDesk" "kinds" "[LMemoryDesk$Kind;") (by decide +kernel)) (fun _ h9 => h9) rfl d_De_make_9 ?_
          refine lv_iload_n hx hb d_De_make_12 rfl (lv_at hl 2 rfl) ?_
          refine y_aldq hx hb hK hP 0 hC.1.2.1 rfl hk.v16 d_De_make_13 ?_
          have hkn := hC.2.1 (j_n k) hk.j16
          obtain ⟨o_xk, hxk⟩ : ∃ z, (fk k.toNatClampNeg) = z := ⟨_, rfl⟩
          refine W.eq (g2 := F0 m 14 ls [va_rf o_xk]) (congrArg (fun z => F0 m 14 ls [va_rf z]) hxk) ?_
          cases o_xk with
          | none =>
            refine lv_astoreN hx hb d_De_make_14 hl (by decide) rfl (fun ls hl => ?_)
            have hl : lv_has ls 6 [(4, .null), (0, .ref d), (1, .int sv), (2, .int k), (3, .int n)] := hl
            refine lv_aloadN hx hb d_De_make_16 (lv_at hl 0 rfl) ?_
            refine lv_ifnullN hx hb d_De_make_18 rfl ?_
            refine lv_aloadN hx hb d_De_make_40 (lv_at hl 0 rfl) ?_
            refine lv_ifnonnullN hx hb d_De_make_42 ?_
            have hkd : a.kd (j_n k) = none := by
              rcases hkn with z | ⟨q, xk, z1, z2, -⟩
              · exact z.1
              · rw [show fk (j_n k) = none from hxk] at z2; cases z2
            obtain ⟨sa, hstr⟩ := hE.1.2.2.2.1 (67, "the kind is not defined") (by decide)
            refine W.widen (k := 6 - 1) (n := 60 - 6) (by first | decide | omega) (by first | decide | omega) ?_
            exact x_throw (A := A) (cls := "java/lang/IllegalStateException") (names := ["java/lang/RuntimeException", "java/lang/Exception"]) hx hb hst hown (by decide) (by decide) (hts (.classLink R_De 65 "java/lang/IllegalStateException") (by decide +kernel)) (hts (.initialized "java/lang/IllegalStateException") (by decide +kernel)) hstr (fun w hw ho => hE.1.at _ ho (at_ISE w hw ho)) nt_ISE hE.2.1 hE.2.2.1 hS (hl.1.trans hml.symm) d_De_make_45 d_De_make_48 d_De_make_49 d_De_make_51 d_De_make_54 (hno 54) (by decide) (by decide) (by decide) (by decide) hlocks (w_thr rfl hAe (w_bad (i := 1) rfl ((q_y ⟨hs, hk, fun q z => by rw [hkd] at z; cases z⟩).trans (by rw [hkd])) hR0 (Nat.le_succ _)) hP hA hS) hS.2.2
          | some xk =>
            obtain ⟨qk, hkd, hkq⟩ : ∃ qk, a.kd (j_n k) = some qk ∧ c_kq g xk qk := by
              rcases hkn with z | ⟨q, x9, z1, z2, z3⟩
              · rw [show fk (j_n k) = some xk from hxk] at z; cases z.2
              · rw [show fk (j_n k) = some xk from hxk] at z2; cases z2; exact ⟨q, z1, z3⟩
            have hkin := hw.1 _ _ hk.j16 hkd
            have hkq0 := hkq
            rcases hkq with ⟨h0, hkx⟩ | ⟨h0, hkx⟩
            · skip
              refine lv_astore hx hb d_De_make_14 hl (by decide) rfl (fun ls hl => ?_)
              have hl : lv_has ls 6 [(4, .ref xk), (0, .ref d), (1, .int sv), (2, .int k), (3, .int n)] := hl
              refine lv_aload hx hb d_De_make_16 (lv_at hl 0 rfl) ?_
              refine lv_ifnull hx hb d_De_make_18 ?_
              refine lv_aload hx hb d_De_make_21 (lv_at hl 0 rfl) ?_
              refine lv_iload_n hx hb d_De_make_23 rfl (lv_at hl 4 rfl) ?_
              refine vp_callSi (va_Run.run (va_runU (C := R_Pk) (owner := R_Ki) (x := ⟨R_Ki, "allows", "(I)Z"⟩) (As := [.int n]) ⟨hx, hb, hml, hown, hts⟩ (c_Pk_allows l D _ _ xk n) (va_cwA (own := R_De) (index := 59) 1 hts (x_gi (by decide +kernel)) rfl rfl rfl (hE.1.2.2.1 (.declares ⟨R_Ki, "allows", "(I)Z"⟩) (by decide +kernel)) (by decide +kernel) ⟨by decide, by decide⟩) ⟨w_Pp.blind, y_recv (ci := 2) (q := (R_Pk, F_Pk, 2)) hK hP rfl hkx, fun U hU hW => ⟨rfl, by rw [hU]; exact hP, hE.1.to hW⟩⟩ rfl rfl hl.1 rfl (lv_room (Nat.le_of_ble_eq_true rfl)) d_De_make_24 ⟨by first | decide | omega, by first | decide | omega⟩)) (fun r7 hr7 => ?_)
              refine lv_if_ne hx hb d_De_make_27 rfl (fun h1 => ?_) (fun h1 => (absurd hr7 (by rw [show r7 = 0 from h1]; decide)))
              obtain ⟨hmo, hm33⟩ := f_wdP (n := n) hkin h0
              have hcond : ∀ q, a.kd (j_n k) = some q → ¬ q.1 < 0 → ¬ n < 0 := fun q z1 z2 => by rw [hkd] at z1; cases z1; exact absurd h0 z2
              refine lv_aload hx hb d_De_make_40 (lv_at hl 0 rfl) ?_
              refine lv_ifnonnull hx hb d_De_make_42 rfl ?_
              refine lv_aload_n hx hb d_De_make_55 rfl (lv_at hl 1 rfl) ?_
              refine lv_aload hx hb d_De_make_56 (lv_at hl 0 rfl) ?_
              refine lv_iload_n hx hb d_De_make_58 rfl (lv_at hl 4 rfl) ?_
              refine vp_callSl (va_Run.run (va_runU (C := R_Pk) (owner := R_Ki) (x := ⟨R_Ki, "wordsFor", "(I)J"⟩) (As := [.int n]) ⟨hx, hb, hml, hown, hts⟩ (c_Pk_wordsFor l D _ _ xk n _ _ hkx) (va_cwA (own := R_De) (index := 70) 1 hts (x_gi (by decide +kernel)) rfl rfl rfl (hE.1.2.2.1 (.declares ⟨R_Ki, "wordsFor", "(I)J"⟩) (by decide +kernel)) (by decide +kernel) ⟨by decide, by decide⟩) ⟨w_Pp.blind, y_recv (ci := 2) (q := (R_Pk, F_Pk, 2)) hK hP rfl hkx, fun U hU hW => ⟨rfl, by rw [hU]; exact hP, hE.1.to hW⟩⟩ rfl rfl hl.1 rfl (lv_room (Nat.le_of_ble_eq_true rfl)) d_De_make_59 ⟨by first | decide | omega, by first | decide | omega⟩)) (fun r8 hr8 => ?_)
              have hr8 := hr8.trans hmo
              subst hr8
              refine w_callV (As := [.long (lN (a_more qk n))]) (C := R_De) ⟨hx, hb, hml, hown, hts⟩ (c_De_takeRoom l hst D cK cI cN cZ cL _ _ a cn d ka sa fk fs ad cs ks itv cn u (a_more qk n) hw hcn hm33 hcn ⟨wk, sn, np, lv, hC, hsn, hwk, hu, hum, hlv⟩) (x_cb (cwV (own := R_De) (index := 74) (C := R_De) 1 hts (x_gi (by decide +kernel)) rfl rfl rfl (by decide +kernel) ⟨by decide, by decide⟩).1) (hts (.instanceMethod y_De_takeRoom) (by decide +kernel)) (hts (.selects R_De y_De_takeRoom y_De_takeRoom) (by decide +kernel)) (y_recv (ci := 4) (q := (R_De, F_De, 11)) hK hP rfl hC.1.1) hE hP hA hA0 hS rfl hl.1 rfl (lv_room (Nat.le_of_ble_eq_true rfl)) d_De_make_62 (by first | decide | omega) (by first | decide | omega) (fun v9 gt H locs hq9 hP hA hS => ?_) (fun E9 q9 ce9 g9 H locs hq9 hP hA hS z1 z2 z3 => ?_)
              · skip
                rcases hq9 with ⟨hv9, -⟩ | ⟨hv9, hfit, u1, hfit1, wk1, sn1, np1, lv1, hC1, hsn1, hwk1, hu1, hum1, hlv1⟩
                · cases hv9
                · cases hv9
                  refine W.eq (g2 := F0 m 65 ls [.int (nI (a_more qk n))]) rfl ?_
                  refine lv_istore hx hb d_De_make_65 hl (by decide) rfl (fun ls hl => ?_)
                  have hl : lv_has ls 6 [(5, .int (nI (a_more qk n))), (4, .ref xk), (0, .ref d), (1, .int sv), (2, .int k), (3, .int n)] := hl
                  refine lv_aload_n hx hb d_De_make_67 rfl (lv_at hl 2 rfl) ?_
                  refine y_get (D := D) (ci := 4) (v := .ref sa) (C := R_De) (T := F_De) (N := 11) hx hb hts in_De hown hK hP hC1.1.1 rfl 1 (by decide) (hts (.fieldLink R_De 17 "MemoryDesk" "slots" "[LMemoryDesk$Item;") (by decide +kernel)) (fun _ h9 => h9) rfl d_De_make_68 ?_
                  refine lv_iload_n hx hb d_De_make_71 rfl (lv_at hl 3 rfl) ?_
                  refine y_new (ci := 1) (fs := [.null, .int 0, .int 0, .null, .int 0, .int 0, .null, .int 0, .null]) (C := R_It) (T := F_It) (N := 9) hx hb hts in_It t_It t_It_ok hown (hts (.classLink R_De 15 R_It) (by decide +kernel)) (hts (.instantiable R_It 9) (by decide +kernel)) (hts (.initialized R_It) (by decide +kernel)) hK hP hA hS hA0 rfl (fun j hj => by rcases (show j = 0 ∨ j = 1 ∨ j = 2 ∨ j = 3 ∨ j = 4 ∨ j = 5 ∨ j = 6 ∨ j = 7 ∨ j = 8 by omega) with rfl | rfl | rfl | rfl | rfl | rfl | rfl | rfl | rfl <;> rfl) (by first | decide | omega) (by first | decide | omega) d_De_make_72 (fun q H hg_q hP hA hS => ?_)
                  have hkx1 : gt xk = some (e_plain qk.2.1 qk.2.2) := by
                    rcases hC1.2.1 (j_n k) hk.j16 with z | ⟨q2, x9, z1, z2, z3⟩
                    · rw [show fk (j_n k) = some xk from hxk] at z; cases z.2
                    · rw [show fk (j_n k) = some xk from hxk] at z2; cases z2; rw [hkd] at z1; cases z1
                      rcases z3 with ⟨y0, y1⟩ | ⟨y0, y1⟩
                      · exact y1
                      · exact absurd h0 y0
                  have hxq : xk ≠ q := fun z => by rw [z, hg_q] at hkx1; cases hkx1
                  have hkx2 : va_up gt q (some (.inr (1, [.null, .int 0, .int 0, .null, .int 0, .int 0, .null, .int 0, .null]))) xk = some (e_plain qk.2.1 qk.2.2) := by rw [va_up_ne _ _ hxq]; exact hkx1
                  refine lv_dup hx hb d_De_make_75 rfl ?_
                  refine lv_aload hx hb d_De_make_76 (lv_at hl 1 rfl) ?_
                  refine lv_aload hx hb d_De_make_78 (lv_at hl 1 rfl) ?_
                  refine lv_iload_n hx hb d_De_make_80 rfl (lv_at hl 5 rfl) ?_
                  refine vp_callSi (va_Run.run (va_runU (C := R_Pk) (owner := R_Ki) (x := ⟨R_Ki, "lengthFor", "(I)I"⟩) (As := [.int n]) ⟨hx, hb, hml, hown, hts⟩ (c_Pk_lengthFor l D _ _ xk n _ _ hkx2) (va_cwA (own := R_De) (index := 78) 1 hts (x_gi (by decide +kernel)) rfl rfl rfl (hE.1.2.2.1 (.declares ⟨R_Ki, "lengthFor", "(I)I"⟩) (by decide +kernel)) (by decide +kernel) ⟨by decide, by decide⟩) ⟨w_Pp.blind, y_recv (ci := 2) (q := (R_Pk, F_Pk, 2)) hK hP rfl hkx2, fun U hU hW => ⟨rfl, by rw [hU]; exact hP, hE.1.to hW⟩⟩ rfl rfl hl.1 rfl (lv_room (Nat.le_of_ble_eq_true rfl)) d_De_make_81 ⟨by first | decide | omega, by first | decide | omega⟩)) (fun r6 hr6 => ?_)
                  refine lv_iload hx hb d_De_make_84 (lv_at hl 0 rfl) ?_
                  refine w_callI (As := [.ref xk, .int r6, .int (nI (a_more qk n))]) (bytes := b_It_init) ⟨hx, hb, hml, hown, hts⟩ (c_It_init l D _ _ _ q xk r6 (nI (a_more qk n)) (va_up_self _ _ _)) (x_cb (cwI (own := R_De) (index := 82) 3 hts (x_gi (by decide +kernel)) rfl rfl rfl (hts (.initialized R_It) (by decide +kernel)) (hts (.methodLink R_De 82 y_It_init) (by decide +kernel)) (hts (.instanceMethod y_It_init) (by decide +kernel)) rfl (by decide +kernel) ⟨by decide, by decide⟩).1) rfl (hts (.instanceMethod y_It_init) (by decide +kernel)) (hts (.code y_It_init b_It_init 4 none) (by decide +kernel)) hE hP hA hA0 hS (fun _ _ z => nomatch z.1) rfl hl.1 rfl (lv_room (Nat.le_of_ble_eq_true rfl)) d_De_make_86 (by first | decide | omega) (by first | decide | omega) (fun v9 g9 H locs hq9 hP hA hS => ?_)
                  obtain ⟨hv9, hg9⟩ := hq9
                  cases hv9
                  rw [hg9] at hP hA
                  refine W.eq (g2 := F0 m 89 ls [.ref q, .int sv, .ref sa]) rfl ?_
                  rw [bx_uu] at hP hA
                  have hP : y_P D vwCl (va_up gt q (some (.inr (1, [.ref xk, .int r6, .int (nI (a_more qk n)), .null, .int 0, .int 0, .null, .int 0, .null])))) H := hP
                  have hA : ∀ q99 e99, (va_up gt q (some (.inr (1, [.ref xk, .int r6, .int (nI (a_more qk n)), .null, .int 0, .int 0, .null, .int 0, .null])))) q99 = some e99 → A q99 := hA
                  have hsq : sa ≠ q := fun z => by rw [← z, hC1.1.2.2] at hg_q; cases hg_q
                  have hdq : d ≠ q := fun z => by rw [← z, hC1.1.1] at hg_q; cases hg_q
                  have hds : d ≠ sa := fun z => hC1.dne.2.1 z.symm
                  have hsa1 : (va_up gt q (some (.inr (1, [.ref xk, .int r6, .int (nI (a_more qk n)), .null, .int 0, .int 0, .null, .int 0, .null])))) sa = some (e_refs cI 32 fs) := by rw [va_up_ne _ _ hsq]; exact hC1.1.2.2
                  refine y_astS (r := (R_It, F_It, 9)) hx hb hK hP hA hS 1 1 hsa1 rfl (va_up_self _ _ _) rfl hs.v32 d_De_make_89 (fun H locs hP hA hS => ?_)
                  have hP : y_P D vwCl (va_up (va_up gt q (some (.inr (1, [.ref xk, .int r6, .int (nI (a_more qk n)), .null, .int 0, .int 0, .null, .int 0, .null])))) sa (some (e_refs cI 32 (va_up fs (j_n sv) (some q))))) H := hP
                  have hA : ∀ q99 e99, (va_up (va_up gt q (some (.inr (1, [.ref xk, .int r6, .int (nI (a_more qk n)), .null, .int 0, .int 0, .null, .int 0, .null])))) sa (some (e_refs cI 32 (va_up fs (j_n sv) (some q))))) q99 = some e99 → A q99 := hA
                  refine lv_aload_n hx hb d_De_make_90 rfl (lv_at hl 2 rfl) ?_
                  refine lv_dup hx hb d_De_make_91 rfl ?_
                  have hd2 : (va_up (va_up gt q (some (.inr (1, [.ref xk, .int r6, .int (nI (a_more qk n)), .null, .int 0, .int 0, .null, .int 0, .null])))) sa (some (e_refs cI 32 (va_up fs (j_n sv) (some q))))) d = some (.inr (4, [.ref ka, .ref sa, .int (nI a.mem), .int (nI a.n), .int (nI a.kc), .int (nI a.nn), .int itv, va_rf (ks.head?.map ad), .int (nI (u1 + a_more qk n)), .int (nI wk1), .null])) := by rw [va_up_ne _ _ hds, va_up_ne _ _ hdq]; exact hC1.1.1
                  refine y_get (D := D) (ci := 4) (v := .int (nI a.n)) (C := R_De) (T := F_De) (N := 11) hx hb hts in_De hown hK hP hd2 rfl 3 (by decide) (hts (.fieldLink R_De 85 "MemoryDesk" "made" "I") (by decide +kernel)) (fun _ h9 => h9) rfl d_De_make_92 ?_
                  refine lv_iconst (v := 1) hx hb d_De_make_95 (by decide) ?_
                  refine lv_iadd hx hb d_De_make_96 ?_
                  rw [nI_1]
                  refine y_put (D := D) (ci := 4) (v := .int (nI (a.n + 1))) (ty := .int) (C := R_De) (T := F_De) (N := 11) hx hb hts in_De t_De t_De_ok n_De hown hK hP hA hS hd2 rfl 3 (by decide) (hts (.fieldLink R_De 85 "MemoryDesk" "made" "I") (by decide +kernel)) (fun _ h9 => h9) rfl (by decide +kernel) rfl rfl (Nat.le_of_ble_eq_true rfl) d_De_make_97 (fun H locs hP hA hS => ?_)
                  have hP : y_P D vwCl (va_up (va_up (va_up gt q (some (.inr (1, [.ref xk, .int r6, .int (nI (a_more qk n)), .null, .int 0, .int 0, .null, .int 0, .null])))) sa (some (e_refs cI 32 (va_up fs (j_n sv) (some q))))) d (some (.inr (4, [.ref ka, .ref sa, .int (nI a.mem), .int (nI (a.n + 1)), .int (nI a.kc), .int (nI a.nn), .int itv, va_rf (ks.head?.map ad), .int (nI (u1 + a_more qk n)), .int (nI wk1), .null])))) H := hP
                  have hA : ∀ q99 e99, (va_up (va_up (va_up gt q (some (.inr (1, [.ref xk, .int r6, .int (nI (a_more qk n)), .null, .int 0, .int 0, .null, .int 0, .null])))) sa (some (e_refs cI 32 (va_up fs (j_n sv) (some q))))) d (some (.inr (4, [.ref ka, .ref sa, .int (nI a.mem), .int (nI (a.n + 1)), .int (nI a.kc), .int (nI a.nn), .int itv, va_rf (ks.head?.map ad), .int (nI (u1 + a_more qk n)), .int (nI wk1), .null])))) q99 = some e99 → A q99 := hA
                  refine lv_aload_n hx hb d_De_make_100 rfl (lv_at hl 2 rfl) ?_
                  refine y_get (D := D) (ci := 4) (v := .int (nI (a.n + 1))) (C := R_De) (T := F_De) (N := 11) hx hb hts in_De hown hK hP (va_up_self _ _ _) rfl 3 (by decide) (hts (.fieldLink R_De 85 "MemoryDesk" "made" "I") (by decide +kernel)) (fun _ h9 => h9) rfl d_De_make_101 ?_
                  have hfin : c_R cK cI (a_new a (j_n sv) (j_n k) n) (va_up (va_up (va_up gt q (some (.inr (1, [.ref xk, .int r6, .int (nI (a_more qk n)), .null, .int 0, .int 0, .null, .int 0, .null])))) sa (some (e_refs cI 32 (va_up fs (j_n sv) (some q))))) d (some (.inr (4, [.ref ka, .ref sa, .int (nI a.mem), .int (nI (a.n + 1)), .int (nI a.kc), .int (nI a.nn), .int itv, va_rf (ks.head?.map ad), .int (nI (u1 + a_more qk n)), .int (nI wk1), .null])))) d (cn + 1) := c_R.new (q := q) (x := xk) (len := r6) hw hcn hkd hC1 hsn1 hwk1 hu1 hfit1 hlv1 hg_q hxk hxq (hr6.trans (if_pos h0).symm) (by rw [va_up_ne _ _ hdq.symm, va_up_ne _ _ hsq.symm, va_up_self]; rfl) (by rw [va_up_ne _ _ hds.symm, va_up_self]) (va_up_self _ _ _) (fun z z1 z2 z3 => by rw [va_up_ne _ _ z3, va_up_ne _ _ z2, va_up_ne _ _ z1])
                  refine W.widen (k := 6) (n := 60) (by first | decide | omega) (by first | decide | omega) ?_
                  exact x_ret (W.iret (v := (nI (a.n + 1))) hx hb hr (w_fin rfl hAe (w_good (v := some (.int (nI (a.n + 1)))) ((s_make_s hs hk hcond hkd).trans (q_y hfit)) hfin) hP hA hS) hS.2.2 d_De_make_104)
              · skip
                rcases hq9 with ⟨hv9, hfit, hT9⟩ | ⟨hv9, -⟩
                · cases hv9
                  refine x_W.widen (k := 6) (n := 60) (by first | decide | omega) (by first | decide | omega) ?_
                  exact x_leave (hno 62) hlocks (w_lea rfl hAe (w_bad (i := 2) rfl ((s_make_s hs hk hcond hkd).trans (q_n hfit)) hT9.R (Nat.le_refl _)) hP hA hS z1 z2 z3) hS.2.2
                · cases hv9
            · skip
              refine lv_astore hx hb d_De_make_14 hl (by decide) rfl (fun ls hl => ?_)
              have hl : lv_has ls 6 [(4, .ref xk), (0, .ref d), (1, .int sv), (2, .int k), (3, .int n)] := hl
              refine lv_aload hx hb d_De_make_16 (lv_at hl 0 rfl) ?_
              refine lv_ifnull hx hb d_De_make_18 ?_
              refine lv_aload hx hb d_De_make_21 (lv_at hl 0 rfl) ?_
              refine lv_iload_n hx hb d_De_make_23 rfl (lv_at hl 4 rfl) ?_
              refine vp_callSi (va_Run.run (va_runU (C := R_Rk) (owner := R_Ki) (x := ⟨R_Ki, "allows", "(I)Z"⟩) (As := [.int n]) ⟨hx, hb, hml, hown, hts⟩ (c_Rk_allows l D _ _ xk n) (va_cwA (own := R_De) (index := 59) 1 hts (x_gi (by decide +kernel)) rfl rfl rfl (hE.1.2.2.1 (.declares ⟨R_Ki, "allows", "(I)Z"⟩) (by decide +kernel)) (by decide +kernel) ⟨by decide, by decide⟩) ⟨w_Pp.blind, y_recv (ci := 3) (q := (R_Rk, F_Rk, 2)) hK hP rfl hkx, fun U hU hW => ⟨rfl, by rw [hU]; exact hP, hE.1.to hW⟩⟩ rfl rfl hl.1 rfl (lv_room (Nat.le_of_ble_eq_true rfl)) d_De_make_24 ⟨by first | decide | omega, by first | decide | omega⟩)) (fun r7 hr7 => ?_)
              refine lv_if_ne hx hb d_De_make_27 rfl (fun h2 => ?_) (fun h2 => ?_)
              · -- ifne at 27: to 40
                have hn0 : ¬ n < 0 := by
                  rcases hr7 with z | z
                  · exact z.2
                  · exact absurd z.1 h2
                obtain ⟨hmo, hm33⟩ := f_wdR (n := n) hkin h0 hn0
                have hcond : ∀ q, a.kd (j_n k) = some q → ¬ q.1 < 0 → ¬ n < 0 := fun _ _ _ => hn0
                refine lv_aload hx hb d_De_make_40 (lv_at hl 0 rfl) ?_
                refine lv_ifnonnull hx hb d_De_make_42 rfl ?_
                refine lv_aload_n hx hb d_De_make_55 rfl (lv_at hl 1 rfl) ?_
                refine lv_aload hx hb d_De_make_56 (lv_at hl 0 rfl) ?_
                refine lv_iload_n hx hb d_De_make_58 rfl (lv_at hl 4 rfl) ?_
                refine vp_callSl (va_Run.run (va_runU (C := R_Rk) (owner := R_Ki) (x := ⟨R_Ki, "wordsFor", "(I)J"⟩) (As := [.int n]) ⟨hx, hb, hml, hown, hts⟩ (c_Rk_wordsFor l D _ _ xk n _ _ hkx) (va_cwA (own := R_De) (index := 70) 1 hts (x_gi (by decide +kernel)) rfl rfl rfl (hE.1.2.2.1 (.declares ⟨R_Ki, "wordsFor", "(I)J"⟩) (by decide +kernel)) (by decide +kernel) ⟨by decide, by decide⟩) ⟨w_Pp.blind, y_recv (ci := 3) (q := (R_Rk, F_Rk, 2)) hK hP rfl hkx, fun U hU hW => ⟨rfl, by rw [hU]; exact hP, hE.1.to hW⟩⟩ rfl rfl hl.1 rfl (lv_room (Nat.le_of_ble_eq_true rfl)) d_De_make_59 ⟨by first | decide | omega, by first | decide | omega⟩)) (fun r8 hr8 => ?_)
                have hr8 := hr8.trans hmo
                subst hr8
                refine w_callV (As := [.long (lN (a_more qk n))]) (C := R_De) ⟨hx, hb, hml, hown, hts⟩ (c_De_takeRoom l hst D cK cI cN cZ cL _ _ a cn d ka sa fk fs ad cs ks itv cn u (a_more qk n) hw hcn hm33 hcn ⟨wk, sn, np, lv, hC, hsn, hwk, hu, hum, hlv⟩) (x_cb (cwV (own := R_De) (index := 74) (C := R_De) 1 hts (x_gi (by decide +kernel)) rfl rfl rfl (by decide +kernel) ⟨by decide, by decide⟩).1) (hts (.instanceMethod y_De_takeRoom) (by decide +kernel)) (hts (.selects R_De y_De_takeRoom y_De_takeRoom) (by decide +kernel)) (y_recv (ci := 4) (q := (R_De, F_De, 11)) hK hP rfl hC.1.1) hE hP hA hA0 hS rfl hl.1 rfl (lv_room (Nat.le_of_ble_eq_true rfl)) d_De_make_62 (by first | decide | omega) (by first | decide | omega) (fun v9 gt H locs hq9 hP hA hS => ?_) (fun E9 q9 ce9 g9 H locs hq9 hP hA hS z1 z2 z3 => ?_)
                · skip
                  rcases hq9 with ⟨hv9, -⟩ | ⟨hv9, hfit, u1, hfit1, wk1, sn1, np1, lv1, hC1, hsn1, hwk1, hu1, hum1, hlv1⟩
                  · cases hv9
                  · cases hv9
                    refine W.eq (g2 := F0 m 65 ls [.int (nI (a_more qk n))]) rfl ?_
                    refine lv_istore hx hb d_De_make_65 hl (by decide) rfl (fun ls hl => ?_)
                    have hl : lv_has ls 6 [(5, .int (nI (a_more qk n))), (4, .ref xk), (0, .ref d), (1, .int sv), (2, .int k), (3, .int n)] := hl
                    refine lv_aload_n hx hb d_De_make_67 rfl (lv_at hl 2 rfl) ?_
                    refine y_get (D := D) (ci := 4) (v := .ref sa) (C := R_De) (T := F_De) (N := 11) hx hb hts in_De hown hK hP hC1.1.1 rfl 1 (by decide) (hts (.fieldLink R_De 17 "MemoryDesk" "slots" "[LMemoryDesk$Item;") (by decide +kernel)) (fun _ h9 => h9) rfl d_De_make_68 ?_
                    refine lv_iload_n hx hb d_De_make_71 rfl (lv_at hl 3 rfl) ?_
                    refine y_new (ci := 1) (fs := [.null, .int 0, .int 0, .null, .int 0, .int 0, .null, .int 0, .null]) (C := R_It) (T := F_It) (N := 9) hx hb hts in_It t_It t_It_ok hown (hts (.classLink R_De 15 R_It) (by decide +kernel)) (hts (.instantiable R_It 9) (by decide +kernel)) (hts (.initialized R_It) (by decide +kernel)) hK hP hA hS hA0 rfl (fun j hj => by rcases (show j = 0 ∨ j = 1 ∨ j = 2 ∨ j = 3 ∨ j = 4 ∨ j = 5 ∨ j = 6 ∨ j = 7 ∨ j = 8 by omega) with rfl | rfl | rfl | rfl | rfl | rfl | rfl | rfl | rfl <;> rfl) (by first | decide | omega) (by first | decide | omega) d_De_make_72 (fun q H hg_q hP hA hS => ?_)
                    have hkx1 : gt xk = some (e_row qk.1 (c_bits qk.1)) := by
                      rcases hC1.2.1 (j_n k) hk.j16 with z | ⟨q2, x9, z1, z2, z3⟩
                      · rw [show fk (j_n k) = some xk from hxk] at z; cases z.2
                      · rw [show fk (j_n k) = some xk from hxk] at z2; cases z2; rw [hkd] at z1; cases z1
                        rcases z3 with ⟨y0, y1⟩ | ⟨y0, y1⟩
                        · exact absurd y0 h0
                        · exact y1
                    have hxq : xk ≠ q := fun z => by rw [z, hg_q] at hkx1; cases hkx1
                    have hkx2 : va_up gt q (some (.inr (1, [.null, .int 0, .int 0, .null, .int 0, .int 0, .null, .int 0, .null]))) xk = some (e_row qk.1 (c_bits qk.1)) := by rw [va_up_ne _ _ hxq]; exact hkx1
                    refine lv_dup hx hb d_De_make_75 rfl ?_
                    refine lv_aload hx hb d_De_make_76 (lv_at hl 1 rfl) ?_
                    refine lv_aload hx hb d_De_make_78 (lv_at hl 1 rfl) ?_
                    refine lv_iload_n hx hb d_De_make_80 rfl (lv_at hl 5 rfl) ?_
                    refine vp_callSi (va_Run.run (va_runU (C := R_Rk) (owner := R_Ki) (x := ⟨R_Ki, "lengthFor", "(I)I"⟩) (As := [.int n]) ⟨hx, hb, hml, hown, hts⟩ (c_Rk_lengthFor l D _ _ xk n) (va_cwA (own := R_De) (index := 78) 1 hts (x_gi (by decide +kernel)) rfl rfl rfl (hE.1.2.2.1 (.declares ⟨R_Ki, "lengthFor", "(I)I"⟩) (by decide +kernel)) (by decide +kernel) ⟨by decide, by decide⟩) ⟨w_Pp.blind, y_recv (ci := 3) (q := (R_Rk, F_Rk, 2)) hK hP rfl hkx2, fun U hU hW => ⟨rfl, by rw [hU]; exact hP, hE.1.to hW⟩⟩ rfl rfl hl.1 rfl (lv_room (Nat.le_of_ble_eq_true rfl)) d_De_make_81 ⟨by first | decide | omega, by first | decide | omega⟩)) (fun r6 hr6 => ?_)
                    refine lv_iload hx hb d_De_make_84 (lv_at hl 0 rfl) ?_
                    refine w_callI (As := [.ref xk, .int r6, .int (nI (a_more qk n))]) (bytes := b_It_init) ⟨hx, hb, hml, hown, hts⟩ (c_It_init l D _ _ _ q xk r6 (nI (a_more qk n)) (va_up_self _ _ _)) (x_cb (cwI (own := R_De) (index := 82) 3 hts (x_gi (by decide +kernel)) rfl rfl rfl (hts (.initialized R_It) (by decide +kernel)) (hts (.methodLink R_De 82 y_It_init) (by decide +kernel)) (hts (.instanceMethod y_It_init) (by decide +kernel)) rfl (by decide +kernel) ⟨by decide, by decide⟩).1) rfl (hts (.instanceMethod y_It_init) (by decide +kernel)) (hts (.code y_It_init b_It_init 4 none) (by decide +kernel)) hE hP hA hA0 hS (fun _ _ z => nomatch z.1) rfl hl.1 rfl (lv_room (Nat.le_of_ble_eq_true rfl)) d_De_make_86 (by first | decide | omega) (by first | decide | omega) (fun v9 g9 H locs hq9 hP hA hS => ?_)
                    obtain ⟨hv9, hg9⟩ := hq9
                    cases hv9
                    rw [hg9] at hP hA
                    refine W.eq (g2 := F0 m 89 ls [.ref q, .int sv, .ref sa]) rfl ?_
                    rw [bx_uu] at hP hA
                    have hP : y_P D vwCl (va_up gt q (some (.inr (1, [.ref xk, .int r6, .int (nI (a_more qk n)), .null, .int 0, .int 0, .null, .int 0, .null])))) H := hP
                    have hA : ∀ q99 e99, (va_up gt q (some (.inr (1, [.ref xk, .int r6, .int (nI (a_more qk n)), .null, .int 0, .int 0, .null, .int 0, .null])))) q99 = some e99 → A q99 := hA
                    have hsq : sa ≠ q := fun z => by rw [← z, hC1.1.2.2] at hg_q; cases hg_q
                    have hdq : d ≠ q := fun z => by rw [← z, hC1.1.1] at hg_q; cases hg_q
                    have hds : d ≠ sa := fun z => hC1.dne.2.1 z.symm
                    have hsa1 : (va_up gt q (some (.inr (1, [.ref xk, .int r6, .int (nI (a_more qk n)), .null, .int 0, .int 0, .null, .int 0, .null])))) sa = some (e_refs cI 32 fs) := by rw [va_up_ne _ _ hsq]; exact hC1.1.2.2
                    refine y_astS (r := (R_It, F_It, 9)) hx hb hK hP hA hS 1 1 hsa1 rfl (va_up_self _ _ _) rfl hs.v32 d_De_make_89 (fun H locs hP hA hS => ?_)
                    have hP : y_P D vwCl (va_up (va_up gt q (some (.inr (1, [.ref xk, .int r6, .int (nI (a_more qk n)), .null, .int 0, .int 0, .null, .int 0, .null])))) sa (some (e_refs cI 32 (va_up fs (j_n sv) (some q))))) H := hP
                    have hA : ∀ q99 e99, (va_up (va_up gt q (some (.inr (1, [.ref xk, .int r6, .int (nI (a_more qk n)), .null, .int 0, .int 0, .null, .int 0, .null])))) sa (some (e_refs cI 32 (va_up fs (j_n sv) (some q))))) q99 = some e99 → A q99 := hA
                    refine lv_aload_n hx hb d_De_make_90 rfl (lv_at hl 2 rfl) ?_
                    refine lv_dup hx hb d_De_make_91 rfl ?_
                    have hd2 : (va_up (va_up gt q (some (.inr (1, [.ref xk, .int r6, .int (nI (a_more qk n)), .null, .int 0, .int 0, .null, .int 0, .null])))) sa (some (e_refs cI 32 (va_up fs (j_n sv) (some q))))) d = some (.inr (4, [.ref ka, .ref sa, .int (nI a.mem), .int (nI a.n), .int (nI a.kc), .int (nI a.nn), .int itv, va_rf (ks.head?.map ad), .int (nI (u1 + a_more qk n)), .int (nI wk1), .null])) := by rw [va_up_ne _ _ hds, va_up_ne _ _ hdq]; exact hC1.1.1
                    refine y_get (D := D) (ci := 4) (v := .int (nI a.n)) (C := R_De) (T := F_De) (N := 11) hx hb hts in_De hown hK hP hd2 rfl 3 (by decide) (hts (.fieldLink R_De 85 "MemoryDesk" "made" "I") (by decide +kernel)) (fun _ h9 => h9) rfl d_De_make_92 ?_
                    refine lv_iconst (v := 1) hx hb d_De_make_95 (by decide) ?_
                    refine lv_iadd hx hb d_De_make_96 ?_
                    rw [nI_1]
                    refine y_put (D := D) (ci := 4) (v := .int (nI (a.n + 1))) (ty := .int) (C := R_De) (T := F_De) (N := 11) hx hb hts in_De t_De t_De_ok n_De hown hK hP hA hS hd2 rfl 3 (by decide) (hts (.fieldLink R_De 85 "MemoryDesk" "made" "I") (by decide +kernel)) (fun _ h9 => h9) rfl (by decide +kernel) rfl rfl (Nat.le_of_ble_eq_true rfl) d_De_make_97 (fun H locs hP hA hS => ?_)
                    have hP : y_P D vwCl (va_up (va_up (va_up gt q (some (.inr (1, [.ref xk, .int r6, .int (nI (a_more qk n)), .null, .int 0, .int 0, .null, .int 0, .null])))) sa (some (e_refs cI 32 (va_up fs (j_n sv) (some q))))) d (some (.inr (4, [.ref ka, .ref sa, .int (nI a.mem), .int (nI (a.n + 1)), .int (nI a.kc), .int (nI a.nn), .int itv, va_rf (ks.head?.map ad), .int (nI (u1 + a_more qk n)), .int (nI wk1), .null])))) H := hP
                    have hA : ∀ q99 e99, (va_up (va_up (va_up gt q (some (.inr (1, [.ref xk, .int r6, .int (nI (a_more qk n)), .null, .int 0, .int 0, .null, .int 0, .null])))) sa (some (e_refs cI 32 (va_up fs (j_n sv) (some q))))) d (some (.inr (4, [.ref ka, .ref sa, .int (nI a.mem), .int (nI (a.n + 1)), .int (nI a.kc), .int (nI a.nn), .int itv, va_rf (ks.head?.map ad), .int (nI (u1 + a_more qk n)), .int (nI wk1), .null])))) q99 = some e99 → A q99 := hA
                    refine lv_aload_n hx hb d_De_make_100 rfl (lv_at hl 2 rfl) ?_
                    refine y_get (D := D) (ci := 4) (v := .int (nI (a.n + 1))) (C := R_De) (T := F_De) (N := 11) hx hb hts in_De hown hK hP (va_up_self _ _ _) rfl 3 (by decide) (hts (.fieldLink R_De 85 "MemoryDesk" "made" "I") (by decide +kernel)) (fun _ h9 => h9) rfl d_De_make_101 ?_
                    have hfin : c_R cK cI (a_new a (j_n sv) (j_n k) n) (va_up (va_up (va_up gt q (some (.inr (1, [.ref xk, .int r6, .int (nI (a_more qk n)), .null, .int 0, .int 0, .null, .int 0, .null])))) sa (some (e_refs cI 32 (va_up fs (j_n sv) (some q))))) d (some (.inr (4, [.ref ka, .ref sa, .int (nI a.mem), .int (nI (a.n + 1)), .int (nI a.kc), .int (nI a.nn), .int itv, va_rf (ks.head?.map ad), .int (nI (u1 + a_more qk n)), .int (nI wk1), .null])))) d (cn + 1) := c_R.new (q := q) (x := xk) (len := r6) hw hcn hkd hC1 hsn1 hwk1 hu1 hfit1 hlv1 hg_q hxk hxq (hr6.trans (if_neg h0).symm) (by rw [va_up_ne _ _ hdq.symm, va_up_ne _ _ hsq.symm, va_up_self]; rfl) (by rw [va_up_ne _ _ hds.symm, va_up_self]) (va_up_self _ _ _) (fun z z1 z2 z3 => by rw [va_up_ne _ _ z3, va_up_ne _ _ z2, va_up_ne _ _ z1])
                    refine W.widen (k := 6) (n := 60) (by first | decide | omega) (by first | decide | omega) ?_
                    exact x_ret (W.iret (v := (nI (a.n + 1))) hx hb hr (w_fin rfl hAe (w_good (v := some (.int (nI (a.n + 1)))) ((s_make_s hs hk hcond hkd).trans (q_y hfit)) hfin) hP hA hS) hS.2.2 d_De_make_104)
                · skip
                  rcases hq9 with ⟨hv9, hfit, hT9⟩ | ⟨hv9, -⟩
                  · cases hv9
                    refine x_W.widen (k := 6) (n := 60) (by first | decide | omega) (by first | decide | omega) ?_
                    exact x_leave (hno 62) hlocks (w_lea rfl hAe (w_bad (i := 2) rfl ((s_make_s hs hk hcond hkd).trans (q_n hfit)) hT9.R (Nat.le_refl _)) hP hA hS z1 z2 z3) hS.2.2
                  · cases hv9
              · -- ifne at 27: to 30
                have hn0 : n < 0 := by
                  rcases hr7 with z | z
                  · exact absurd z.1 (by rw [show r7 = 0 from h2]; decide)
                  · exact z.2
                obtain ⟨sa, hstr⟩ := hE.1.2.2.2.1 (63, "n is below 0") (by decide)
                refine W.widen (k := 6 - 1) (n := 60 - 6) (by first | decide | omega) (by first | decide | omega) ?_
                exact x_throw (A := A) (cls := "java/lang/IllegalArgumentException") (names := ["java/lang/RuntimeException", "java/lang/Exception"]) hx hb hst hown (by decide) (by decide) (hts (.classLink R_De 30 "java/lang/IllegalArgumentException") (by decide +kernel)) (hts (.initialized "java/lang/IllegalArgumentException") (by decide +kernel)) hstr (fun w hw ho => hE.1.at _ ho (at_IAE w hw ho)) nt_IAE hE.2.1 hE.2.2.1 hS (hl.1.trans hml.symm) d_De_make_30 d_De_make_33 d_De_make_34 d_De_make_36 d_De_make_39 (hno 39) (by decide) (by decide) (by decide) (by decide) hlocks (w_thr rfl hAe (w_bad (i := 0) rfl (q_n (fun z => z.2.2 qk hkd h0 hn0)) hR0 (Nat.le_succ _)) hP hA hS) hS.2.2
        · cases hv9
      · skip
        obtain ⟨hg9, hq9⟩ := hq9
        rw [hg9] at hP hA
        rcases hq9 with ⟨hv9, -⟩ | ⟨hv9, hk⟩
        · cases hv9
        · cases hv9
          refine x_W.widen (k := 6) (n := 60) (by first | decide | omega) (by first | decide | omega) ?_
          exact x_leave (hno 5) hlocks (w_lea rfl hAe (w_bad (i := 0) rfl (q_n (fun z => hk z.2.1)) hR0 (Nat.le_succ _)) hP hA hS z1 z2 z3) hS.2.2
    · cases hv9
  · skip
    obtain ⟨hg9, hq9⟩ := hq9
    rw [hg9] at hP hA
    rcases hq9 with ⟨hv9, -⟩ | ⟨hv9, hs⟩
    · cases hv9
    · cases hv9
      refine x_W.widen (k := 6) (n := 60) (by first | decide | omega) (by first | decide | omega) ?_
      exact x_leave (hno 1) hlocks (w_lea rfl hAe (w_bad (i := 0) rfl (q_n (fun z => hs z.1)) hR0 (Nat.le_succ _)) hP hA hS z1 z2 z3) hS.2.2
set_option maxHeartbeats 4000000 in
set_option maxRecDepth 100000 in
/-- MemoryDesk(): nothing is in it -/
theorem c_De_init (l : Launch) (D : va_G) (cK cI cN cZ cL : ClassId) (g : y_G) (sz d : Nat) (h0 : g d = some (.inr (4, [.null, .null, .int 0, .int 0, .int 0, .int 0, .int 0, .null, .int 0, .int 0, .null]))) : x_M l y_De_init [.code y_De_init b_De_init 1 none] rmI (w_Pc D (x_tys cK cI cN cZ cL) [.ref d] g sz) (w_Qc D g sz (fun r g9 => r = .inl none ∧ c_R cK cI a_0 g9 d 0)) 2 48 (y_A g sz) := by
  refine x_ofW (cc := b_De_init) (maxL := 1) (ret := none) (by decide) rfl ?_
  intro p e s m args below meth c s₁ B hml hno hv
  obtain ⟨rfl, hsz, hP, hE⟩ := hv
  subst hsz
  have hts := hE.hts ([.ref d] : List Value).toArray
  have hK := hE.1.2.1
  have hA0 : ∀ q, s.heap.size ≤ q → y_A g s.heap.size q := fun q h => Or.inr h
  have hA : ∀ q e, g q = some e → y_A g s.heap.size q := fun q e h => Or.inl (by rw [h]; exact fun z => nomatch z)
  have hS : va_S (y_A g s.heap.size) s.heap s.heap [] := va_S.rf
  generalize hAe : y_A g s.heap.size = A at hE hA0 hA hS ⊢
  have hx := B.exec
  have hb := B.bytes
  have hr := B.returns
  have hlocks := B.notSynchronized
  have hown : s.vm.findClass R_De = some m.cls := findClass_of_methodNamed B.named
  have hl := lv_entry ([.ref d]) (n := 1) (Nat.le_of_ble_eq_true rfl)
  rw [lg_entry_eq]
  generalize (lg_sl ([.ref d]) ++ List.replicate (1 - (lg_sl ([.ref d])).length) Slot.unset).toArray = ls at hl ⊢
  have hl : lv_has ls 1 [(0, .ref d)] := hl
  have hnm : meth.name = "<init>" := (name_of_methodNamed B.named B.method).1
  refine lv_aload_n hx hb d_De_init_0 rfl (lv_at hl 0 rfl) ?_
  refine W.objInit hx hb hown (hts (.methodLink R_De 1 objectInit) (by decide +kernel)) (hts (.instanceMethod objectInit) (by decide +kernel)) (hts _ x_obj) rfl (by rw [hml]; exact hl.1) rfl d_De_init_1 (Nat.le_of_ble_eq_true rfl) (Nat.le_of_ble_eq_true rfl) ?_
  refine W.eq (g2 := F0 m 4 ls []) rfl ?_
  refine lv_aload_n hx hb d_De_init_4 rfl (lv_at hl 0 rfl) ?_
  refine lv_bipush (v := 16) hx hb d_De_init_5 (by decide) ?_
  refine y_newq hx hb hown (hts (.classLink R_De 9 "MemoryDesk$Kind") (by decide +kernel)) hE.1.2.2.2.2.2.1 hK hP hA hS hA0 0 rfl (n := 16) (N' := 16) (by decide) rfl (by decide) (by first | decide | omega) (by first | decide | omega) d_De_init_7 (fun ka H hg_ka hP hA hS => ?_)
  have hdk : d ≠ ka := fun z => by rw [z, hg_ka] at h0; cases h0
  have hP : y_P D vwCl (va_up g ka (some (e_refs cK 16 (fun _ => none)))) H := hP
  have hA : ∀ q99 e99, (va_up g ka (some (e_refs cK 16 (fun _ => none)))) q99 = some e99 → A q99 := hA
  have h1 : (va_up g ka (some (e_refs cK 16 (fun _ => none)))) d = some (.inr (4, [.null, .null, .int 0, .int 0, .int 0, .int 0, .int 0, .null, .int 0, .int 0, .null])) := by rw [va_up_ne _ _ hdk]; exact h0
  refine y_putF (D := D) (ci := 4) (v := .ref ka) (ty := .array (.object "MemoryDesk$Kind")) (C := R_De) (T := F_De) (N := 11) hx hb hts in_De t_De t_De_ok n_De hown hK hP hA hS h1 rfl 0 (by decide) (hts (.fieldLink R_De 11 "MemoryDesk" "kinds" "[LMemoryDesk$Kind;") (by decide +kernel)) (fun _ h9 => h9) rfl hnm rfl (by decide +kernel) rfl rfl (Nat.le_of_ble_eq_true rfl) d_De_init_10 (fun H locs hP hA hS => ?_)
  have hP : y_P D vwCl (va_up (va_up g ka (some (e_refs cK 16 (fun _ => none)))) d (some (.inr (4, [.ref ka, .null, .int 0, .int 0, .int 0, .int 0, .int 0, .null, .int 0, .int 0, .null])))) H := hP
  have hA : ∀ q99 e99, (va_up (va_up g ka (some (e_refs cK 16 (fun _ => none)))) d (some (.inr (4, [.ref ka, .null, .int 0, .int 0, .int 0, .int 0, .int 0, .null, .int 0, .int 0, .null])))) q99 = some e99 → A q99 := hA
  refine lv_aload_n hx hb d_De_init_13 rfl (lv_at hl 0 rfl) ?_
  refine lv_bipush (v := 32) hx hb d_De_init_14 (by decide) ?_
  refine y_newq hx hb hown (hts (.classLink R_De 15 "MemoryDesk$Item") (by decide +kernel)) hE.1.2.2.2.2.2.2 hK hP hA hS hA0 1 rfl (n := 32) (N' := 32) (by decide) rfl (by decide) (by first | decide | omega) (by first | decide | omega) d_De_init_16 (fun sa H hg_sa hP hA hS => ?_)
  have hds : d ≠ sa := fun z => by rw [← z, va_up_self] at hg_sa; cases hg_sa
  have hks : ka ≠ sa := fun z => by rw [← z, va_up_ne _ _ hdk.symm, va_up_self] at hg_sa; cases hg_sa
  have hP : y_P D vwCl (va_up (va_up (va_up g ka (some (e_refs cK 16 (fun _ => none)))) d (some (.inr (4, [.ref ka, .null, .int 0, .int 0, .int 0, .int 0, .int 0, .null, .int 0, .int 0, .null])))) sa (some (e_refs cI 32 (fun _ => none)))) H := hP
  have hA : ∀ q99 e99, (va_up (va_up (va_up g ka (some (e_refs cK 16 (fun _ => none)))) d (some (.inr (4, [.ref ka, .null, .int 0, .int 0, .int 0, .int 0, .int 0, .null, .int 0, .int 0, .null])))) sa (some (e_refs cI 32 (fun _ => none)))) q99 = some e99 → A q99 := hA
  have h3 : (va_up (va_up (va_up g ka (some (e_refs cK 16 (fun _ => none)))) d (some (.inr (4, [.ref ka, .null, .int 0, .int 0, .int 0, .int 0, .int 0, .null, .int 0, .int 0, .null])))) sa (some (e_refs cI 32 (fun _ => none)))) d = some (.inr (4, [.ref ka, .null, .int 0, .int 0, .int 0, .int 0, .int 0, .null, .int 0, .int 0, .null])) := by rw [va_up_ne _ _ hds, va_up_self]
  refine y_putF (D := D) (ci := 4) (v := .ref sa) (ty := .array (.object "MemoryDesk$Item")) (C := R_De) (T := F_De) (N := 11) hx hb hts in_De t_De t_De_ok n_De hown hK hP hA hS h3 rfl 1 (by decide) (hts (.fieldLink R_De 17 "MemoryDesk" "slots" "[LMemoryDesk$Item;") (by decide +kernel)) (fun _ h9 => h9) rfl hnm rfl (by decide +kernel) rfl rfl (Nat.le_of_ble_eq_true rfl) d_De_init_19 (fun H locs hP hA hS => ?_)
  have hP : y_P D vwCl (va_up (va_up (va_up (va_up g ka (some (e_refs cK 16 (fun _ => none)))) d (some (.inr (4, [.ref ka, .null, .int 0, .int 0, .int 0, .int 0, .int 0, .null, .int 0, .int 0, .null])))) sa (some (e_refs cI 32 (fun _ => none)))) d (some (.inr (4, [.ref ka, .ref sa, .int 0, .int 0, .int 0, .int 0, .int 0, .null, .int 0, .int 0, .null])))) H := hP
  have hA : ∀ q99 e99, (va_up (va_up (va_up (va_up g ka (some (e_refs cK 16 (fun _ => none)))) d (some (.inr (4, [.ref ka, .null, .int 0, .int 0, .int 0, .int 0, .int 0, .null, .int 0, .int 0, .null])))) sa (some (e_refs cI 32 (fun _ => none)))) d (some (.inr (4, [.ref ka, .ref sa, .int 0, .int 0, .int 0, .int 0, .int 0, .null, .int 0, .int 0, .null])))) q99 = some e99 → A q99 := hA
  refine lv_aload_n hx hb d_De_init_22 rfl (lv_at hl 0 rfl) ?_
  refine lv_ldc (own := R_De) (index := 21) (v := 65536) hx hb hown (hts (.constant R_De 21 65536) (by decide +kernel)) d_De_init_23 ?_
  refine y_put (D := D) (ci := 4) (v := .int 65536) (ty := .int) (C := R_De) (T := F_De) (N := 11) hx hb hts in_De t_De t_De_ok n_De hown hK hP hA hS (va_up_self _ _ _) rfl 2 (by decide) (hts (.fieldLink R_De 22 "MemoryDesk" "limit" "I") (by decide +kernel)) (fun _ h9 => h9) rfl (by decide +kernel) rfl rfl (Nat.le_of_ble_eq_true rfl) d_De_init_25 (fun H locs hP hA hS => ?_)
  rw [bx_uu] at hP hA
  have hP : y_P D vwCl (va_up (va_up (va_up (va_up g ka (some (e_refs cK 16 (fun _ => none)))) d (some (.inr (4, [.ref ka, .null, .int 0, .int 0, .int 0, .int 0, .int 0, .null, .int 0, .int 0, .null])))) sa (some (e_refs cI 32 (fun _ => none)))) d (some (.inr (4, [.ref ka, .ref sa, .int 65536, .int 0, .int 0, .int 0, .int 0, .null, .int 0, .int 0, .null])))) H := hP
  have hA : ∀ q99 e99, (va_up (va_up (va_up (va_up g ka (some (e_refs cK 16 (fun _ => none)))) d (some (.inr (4, [.ref ka, .null, .int 0, .int 0, .int 0, .int 0, .int 0, .null, .int 0, .int 0, .null])))) sa (some (e_refs cI 32 (fun _ => none)))) d (some (.inr (4, [.ref ka, .ref sa, .int 65536, .int 0, .int 0, .int 0, .int 0, .null, .int 0, .int 0, .null])))) q99 = some e99 → A q99 := hA
  refine W.widen (k := 2) (n := 48) (by first | decide | omega) (by first | decide | omega) ?_
  exact x_ret (W.vret hx hb hr (w_fin rfl hAe ⟨rfl, c_R.zero (va_up_self _ _ _) (by rw [va_up_ne _ _ hdk.symm, va_up_ne _ _ hks, va_up_ne _ _ hdk.symm, va_up_self]) (by rw [va_up_ne _ _ hds.symm, va_up_self])⟩ hP hA hS) hS.2.2 d_De_init_28)
end
section
/-! every call leaves a memory that is as it must be -/
section WKeeps
variable {a : Ab} {c : Nat}
theorem a_W.up {c' : Nat} (h : a_W a c) (hc : c ≤ c') : a_W a c' := by
  obtain ⟨h1, h2, h3, h4, h5, h6, h7, h8, h9, h10, h11, h12⟩ := h
  exact ⟨h1, h2, h3, h4, h5, h6, h7, h8, h9, by omega, by omega, by omega⟩
theorem a_W.puts (h : a_W a c) {s o : Nat} (ho : o ≤ a.n) : a_W (a_puts a s o) c := by
  obtain ⟨h1, h2, h3, h4, h5, h6, h7, h8, h9, h10, h11, h12⟩ := h
  refine ⟨h1, h2, fun s' hs' => ?_, h4, h5, h6, h7, h8, h9, h10, h11, h12⟩
  show va_up a.sl s o s' ≤ a.n
  by_cases e : s' = s
  · rw [e, va_up_self]; exact ho
  · rw [va_up_ne _ _ e]; exact h3 s' hs'
theorem a_W.kind (h : a_W a c) {k : Nat} {q : Int32 × Int32 × Int32} (hk : a.kd k = none) (hq : a_kin q) : a_W (a_kind a k q) c := by
  have hold : ∀ o, 1 ≤ o → o ≤ a.n → (a_kind a k q).kd ((a_kind a k q).ok o) = a.kd (a.ok o) := fun o a1 a2 => a_kind.old h hk a1 a2
  obtain ⟨h1, h2, h3, h4, h5, h6, h7, h8, h9, h10, h11, h12⟩ := h
  refine ⟨fun k' q' hk' z => ?_, fun o a1 a2 => ?_, h3, h4, fun o k' a1 a2 z => h5 o k' a1 a2 ((a_ref.eq (hold o a1 a2)).mp z), h6, h7, h8, h9, h10, h11, h12⟩
  · have z : va_up a.kd k (some q) k' = some q' := z
    by_cases e : k' = k
    · rw [e, va_up_self] at z; cases z; exact hq
    · rw [va_up_ne _ _ e] at z; exact h1 k' q' hk' z
  · obtain ⟨z1, q', z2, z3⟩ := h2 o a1 a2
    exact ⟨z1, q', (hold o a1 a2).trans z2, z3⟩
theorem a_W.new (h : a_W a c) {s k : Nat} {n : Int32} {q : Int32 × Int32 × Int32} (hk : k < 16) (hq : a.kd k = some q) (hn : ¬ q.1 < 0 → ¬ n < 0) : a_W (a_new a s k n) (c + 1) := by
  obtain ⟨h1, h2, h3, h4, h5, h6, h7, h8, h9, h10, h11, h12⟩ := h
  refine ⟨h1, fun o a1 a2 => ?_, fun s' hs' => ?_, fun o z => ⟨(h4 o z).1, Nat.le_succ_of_le (h4 o z).2⟩, fun o k' a1 a2 z => ?_, fun o z => h6 o (by have : a.n + 1 < o := z; omega), h7, h8, h9, by show a.n + 1 ≤ c + 1; omega, by show a.nn ≤ c + 1; omega, by show a.kc ≤ c + 1; omega⟩
  · have a2 : o ≤ a.n + 1 := a2
    by_cases e : o = a.n + 1
    · refine ⟨by show va_up a.ok (a.n + 1) k o < 16; rw [e, va_up_self]; exact hk, q, by show a.kd (va_up a.ok (a.n + 1) k o) = _; rw [e, va_up_self]; exact hq, fun z => ?_⟩
      show ¬ va_up a.sz (a.n + 1) n o < 0
      rw [e, va_up_self]; exact hn z
    · obtain ⟨z1, q', z2, z3⟩ := h2 o a1 (by omega)
      refine ⟨by show va_up a.ok (a.n + 1) k o < 16; rw [va_up_ne _ _ e]; exact z1, q', by show a.kd (va_up a.ok (a.n + 1) k o) = _; rw [va_up_ne _ _ e]; exact z2, fun z => ?_⟩
      show ¬ va_up a.sz (a.n + 1) n o < 0
      rw [va_up_ne _ _ e]; exact z3 z
  · show va_up a.sl s (a.n + 1) s' ≤ a.n + 1
    by_cases e : s' = s
    · rw [e, va_up_self]; exact Nat.le_refl _
    · rw [va_up_ne _ _ e]; exact Nat.le_succ_of_le (h3 s' hs')
  · have a2 : o ≤ a.n + 1 := a2
    by_cases e : o = a.n + 1
    · exact ⟨0, Nat.zero_le _, (h6 o (by omega)).2 k'⟩
    · obtain ⟨b, b1, b2⟩ := h5 o k' a1 (by omega) ((a_ref.eq (a_new.old (by omega)).1).mp z)
      exact ⟨b, Nat.le_succ_of_le b1, b2⟩
theorem a_W.putc (h : a_W a c) {o : Nat} {k : Int32} {v : Int64} (o1 : 1 ≤ o) (o2 : o ≤ a.n) (hv : a_ref a o k → ∃ b, b ≤ a.n ∧ v = lN b) : a_W (a_putc a o k v) c := by
  obtain ⟨h1, h2, h3, h4, h5, h6, h7, h8, h9, h10, h11, h12⟩ := h
  refine ⟨h1, h2, h3, h4, fun o' k' a1 a2 z => ?_, fun o' z => ⟨(h6 o' z).1, fun k' => ?_⟩, h7, h8, h9, h10, h11, h12⟩
  · by_cases e : o' = o ∧ k' = k
    · rw [e.1, e.2, a_putc.self]; rw [e.1, e.2] at z; exact hv z
    · rw [a_putc.ct e]; exact h5 o' k' a1 a2 z
  · have z : a.n < o' := z
    rw [a_putc.ct (fun e => by omega)]; exact (h6 o' z).2 k'
theorem a_W.keep (h : a_W a c) {o : Nat} (o1 : 1 ≤ o) (o2 : o ≤ a.n) : a_W (a_keep a o) (c + 1) := by
  obtain ⟨h1, h2, h3, h4, h5, h6, h7, h8, h9, h10, h11, h12⟩ := h
  refine ⟨h1, h2, h3, fun o' z => ?_, h5, h6, h7, h8, h9, by show a.n ≤ c + 1; omega, by show a.nn ≤ c + 1; omega, by show a.kc + 1 ≤ c + 1; omega⟩
  rcases z with z | z
  · exact h4 o' z
  · rw [z]; exact ⟨o1, o2⟩
theorem a_W.numb (h : a_W a c) {o : Nat} (o1 : 1 ≤ o) (o2 : o ≤ a.n) : a_W (a_numb a o) (c + 1) := by
  obtain ⟨h1, h2, h3, h4, h5, h6, h7, h8, h9, h10, h11, h12⟩ := h
  refine ⟨h1, h2, h3, h4, h5, fun o' z => ⟨?_, (h6 o' z).2⟩, fun o' => ?_, h8, h9, by show a.n ≤ c + 1; omega, by show a.nn + 1 ≤ c + 1; omega, by show a.kc ≤ c + 1; omega⟩
  · have z : a.n < o' := z
    show va_up a.nu o (a.nn + 1) o' = 0
    rw [va_up_ne _ _ (by omega)]; exact (h6 o' z).1
  · show va_up a.nu o (a.nn + 1) o' ≤ a.nn + 1
    by_cases e : o' = o
    · rw [e, va_up_self]; exact Nat.le_refl _
    · rw [va_up_ne _ _ e]; exact Nat.le_succ_of_le (h7 o')
theorem a_W.memo (h : a_W a c) {m : Nat} (m1 : 16 ≤ m) (m2 : m ≤ 65536) : a_W (a_memo a m) c := by
  obtain ⟨h1, h2, h3, h4, h5, h6, h7, h8, h9, h10, h11, h12⟩ := h
  exact ⟨h1, h2, h3, h4, h5, h6, h7, m1, m2, h10, h11, h12⟩
theorem k_mask {w mk : Int32} (hw : b_in w 17) (hm : (mk.toUInt32 >>> (w.toUInt32 &&& Int32.toUInt32 31)).toInt32 = 0) : a_kin (-1, w, mk) := by
  obtain ⟨j1, j2⟩ := b_in.j (n := 17) hw (by decide)
  obtain ⟨m, m1, rfl⟩ := wb_of32 mk
  refine Or.inl ⟨rfl, j_n w, m, by omega, ?_, j2, rfl⟩
  rw [j2] at hm
  have hm : ((UInt32.ofNat m) >>> (UInt32.ofNat (j_n w) &&& Int32.toUInt32 31)).toInt32 = 0 := hm
  have e1 : (UInt32.ofNat m >>> (UInt32.ofNat (j_n w) &&& Int32.toUInt32 31)) = 0 := by
    have := congrArg Int32.toUInt32 hm
    exact this
  have e2 := congrArg UInt32.toNat e1
  rw [UInt32.toNat_shiftRight, nx_cnt ⟨j_n w, by omega⟩, show (UInt32.ofNat m).toNat = m from Nat.mod_eq_of_lt m1, Nat.shiftRight_eq_div_pow] at e2
  have e2 : m / 2 ^ (j_n w) = 0 := e2
  exact (Nat.div_eq_zero_iff_lt (Nat.pow_pos (by decide))).mp e2
theorem k_plain (hw : a_W a c) (k w mk : Int32) : a_W (s_plain a k w mk).2.2 (c + 1) := by
  unfold s_plain
  by_cases h : b_in k 16 ∧ b_in w 17 ∧ (mk.toUInt32 >>> (w.toUInt32 &&& Int32.toUInt32 31)).toInt32 = 0 ∧ a.kd (j_n k) = none
  · rw [q_y h]; exact (hw.kind h.2.2.2 (k_mask h.2.1 h.2.2.1)).up (Nat.le_succ _)
  · rw [q_n h]; exact hw.up (Nat.le_succ _)
theorem k_row (hw : a_W a c) (k el : Int32) : a_W (s_row a k el).2.2 (c + 1) := by
  unfold s_row
  by_cases h : b_in k 16 ∧ b_in el 5 ∧ a.kd (j_n k) = none
  · rw [q_y h]
    obtain ⟨j1, j2⟩ := b_in.j (n := 5) h.2.1 (by decide)
    exact (hw.kind h.2.2 (Or.inr ⟨j_n el, by omega, j2, rfl, rfl⟩)).up (Nat.le_succ _)
  · rw [q_n h]; exact hw.up (Nat.le_succ _)
theorem k_make (hw : a_W a c) (s k n : Int32) : a_W (s_make a s k n).2.2 (c + 1) := by
  unfold s_make
  by_cases h : b_in s 32 ∧ b_in k 16 ∧ ∀ q, a.kd (j_n k) = some q → ¬ q.1 < 0 → ¬ n < 0
  · rw [q_y h]
    cases hk : a.kd (j_n k) with
    | none => exact hw.up (Nat.le_succ _)
    | some q =>
      show a_W (s_make2 a s k n q).2.2 (c + 1)
      unfold s_make2
      by_cases hf : a_use a + a_more q n ≤ a.mem
      · rw [q_y hf]; exact hw.new h.2.1.j16 hk (h.2.2 q hk)
      · rw [q_n hf]; exact hw.up (Nat.le_succ _)
  · rw [q_n h]; exact hw.up (Nat.le_succ _)
theorem k_copy (hw : a_W a c) (s t : Int32) : a_W (s_copy a s t).2.2 (c + 1) := by
  unfold s_copy
  by_cases h : b_in s 32 ∧ b_in t 32
  · rw [q_y h]; exact (hw.puts (hw.2.2.1 _ h.2.j32)).up (Nat.le_succ _)
  · rw [q_n h]; exact hw.up (Nat.le_succ _)
theorem k_drop (hw : a_W a c) (s : Int32) : a_W (s_drop a s).2.2 (c + 1) := by
  unfold s_drop
  by_cases h : b_in s 32
  · rw [q_y h]; exact (hw.puts (Nat.zero_le _)).up (Nat.le_succ _)
  · rw [q_n h]; exact hw.up (Nat.le_succ _)
theorem k_same (hw : a_W a c) (s t : Int32) : a_W (s_same a s t).2.2 (c + 1) := by
  unfold s_same
  by_cases h : b_in s 32 ∧ b_in t 32
  · rw [q_y h]; exact hw.up (Nat.le_succ _)
  · rw [q_n h]; exact hw.up (Nat.le_succ _)
theorem k_pl (hw : a_W a c) (s k : Int32) (rf : Prop) (f : Nat → An) (hf : b_in s 32 → a.sl (j_n s) ≠ 0 → (a_ref a (a.sl (j_n s)) k ↔ rf) → a_W (f (a.sl (j_n s))).2.2 (c + 1)) : a_W (s_pl a s k rf f).2.2 (c + 1) := by
  unfold s_pl
  by_cases h1 : b_in s 32
  · rw [q_y h1]
    by_cases h2 : a.sl (j_n s) = 0
    · rw [q_y h2]; exact hw.up (Nat.le_succ _)
    · rw [q_n h2]
      by_cases h3 : b_in k (a_len a (a.sl (j_n s)))
      · rw [q_y h3]
        by_cases h4 : a_ref a (a.sl (j_n s)) k ↔ rf
        · rw [q_y h4]; exact hf h1 h2 h4
        · rw [q_n h4]; exact hw.up (Nat.le_succ _)
      · rw [q_n h3]; exact hw.up (Nat.le_succ _)
  · rw [q_n h1]; exact hw.up (Nat.le_succ _)
theorem k_get (hw : a_W a c) (s k : Int32) : a_W (s_get a s k).2.2 (c + 1) := k_pl hw s k _ _ (fun _ _ _ => hw.up (Nat.le_succ _))
theorem k_put (hw : a_W a c) (s k : Int32) (v : Int64) : a_W (s_put a s k v).2.2 (c + 1) := k_pl hw s k _ _ (fun h1 h2 h4 => (hw.putc (by omega) (hw.2.2.1 _ h1.j32) (fun z => (h4.mp z).elim)).up (Nat.le_succ _))
theorem k_link (hw : a_W a c) (s k t : Int32) : a_W (s_link a s k t).2.2 (c + 1) := by
  unfold s_link
  by_cases h : b_in t 32
  · rw [q_y h]
    exact k_pl hw s k _ _ (fun h1 h2 h4 => (hw.putc (by omega) (hw.2.2.1 _ h1.j32) (fun _ => ⟨_, hw.2.2.1 _ h.j32, rfl⟩)).up (Nat.le_succ _))
  · rw [q_n h]; exact hw.up (Nat.le_succ _)
theorem k_follow (hw : a_W a c) (hc : c < 2 ^ 30) (s k t : Int32) : a_W (s_follow a s k t).2.2 (c + 1) := by
  unfold s_follow
  by_cases h : b_in t 32
  · rw [q_y h]
    refine k_pl hw s k _ _ (fun h1 h2 h4 => ?_)
    obtain ⟨b, b1, b2⟩ := hw.2.2.2.2.1 _ k (by omega) (hw.2.2.1 _ h1.j32) (h4.mpr trivial)
    have hn : a.n ≤ c := hw.2.2.2.2.2.2.2.2.2.1
    refine (hw.puts ?_).up (Nat.le_succ _)
    rw [b2, w_lN (by omega)]
    exact b1
  · rw [q_n h]; exact hw.up (Nat.le_succ _)
theorem k_in (hw : a_W a c) (s : Int32) (f : Nat → An) (hf : b_in s 32 → a.sl (j_n s) ≠ 0 → a_W (f (a.sl (j_n s))).2.2 (c + 1)) : a_W (s_in a s f).2.2 (c + 1) := by
  unfold s_in
  by_cases h1 : b_in s 32
  · rw [q_y h1]
    by_cases h2 : a.sl (j_n s) = 0
    · rw [q_y h2]; exact hw.up (Nat.le_succ _)
    · rw [q_n h2]; exact hf h1 h2
  · rw [q_n h1]; exact hw.up (Nat.le_succ _)
theorem k_keep (hw : a_W a c) (s : Int32) : a_W (s_keep a s).2.2 (c + 1) := k_in hw s _ (fun h1 h2 => hw.keep (by omega) (hw.2.2.1 _ h1.j32))
theorem k_number (hw : a_W a c) (s : Int32) : a_W (s_number a s).2.2 (c + 1) := k_in hw s _ (fun h1 h2 => by
  by_cases h0 : a.nu (a.sl (j_n s)) = 0
  · rw [if_pos h0]; exact hw.numb (by omega) (hw.2.2.1 _ h1.j32)
  · rw [if_neg h0]; exact hw.up (Nat.le_succ _))
theorem k_size (hw : a_W a c) (s : Int32) : a_W (s_size a s).2.2 (c + 1) := k_in hw s _ (fun _ _ => hw.up (Nat.le_succ _))
theorem k_memory (hw : a_W a c) (w : Int32) : a_W (s_memory a w).2.2 (c + 1) := by
  unfold s_memory
  by_cases h : ¬ w < 16 ∧ w ≤ 65536
  · rw [q_y h]
    by_cases h2 : a_use a ≤ j_n w
    · rw [q_y h2]
      obtain ⟨jw, jw1, jw2⟩ := nI_of2 (n := 65536) (M := 65536) rfl (fun z => h.1 (b_lt16 z)) h.2
      have hj : j_n w = jw := by rw [jw2]; exact nI_clamp (by omega)
      refine (hw.memo ?_ (by omega)).up (Nat.le_succ _)
      rw [hj]
      apply Classical.byContradiction
      intro z
      exact h.1 (by rw [jw2]; exact nI_lt (a := jw) (b := 16) (by omega) (by decide))
    · rw [q_n h2]; exact hw.up (Nat.le_succ _)
  · rw [q_n h]; exact hw.up (Nat.le_succ _)
theorem k_every (hw : a_W a c) (n : Int32) : a_W (s_every a n).2.2 (c + 1) := by
  unfold s_every
  by_cases h : ¬ n < 0
  · rw [q_y h]; exact hw.up (Nat.le_succ _)
  · rw [q_n h]; exact hw.up (Nat.le_succ _)
end WKeeps
end
section
/-! the reference's world: its object and its fourteen arrays -/
section MRows
/-- the arrays by their field's number; the scalars by theirs -/
abbrev MS : Type := (Nat → Nat → Int32) × (Nat → Int64) × (Nat → Int32)
def m_I : List Nat := [20, 0, 1, 2, 3, 4, 5, 6, 11, 12, 13, 15, 16, 17, 18]
def m_inj (r : Nat → Nat) : Prop := ∀ i, i ∈ m_I → ∀ j, j ∈ m_I → r i = r j → i = j
def m_G (r : Nat → Nat) (F : Nat → va_E) : y_G := fun q => (m_I.find? (fun i => r i == q)).map F
theorem m_all {j : Nat} (h : j ∈ m_I) : j = 20 ∨ j = 0 ∨ j = 1 ∨ j = 2 ∨ j = 3 ∨ j = 4 ∨ j = 5 ∨ j = 6 ∨ j = 11 ∨ j = 12 ∨ j = 13 ∨ j = 15 ∨ j = 16 ∨ j = 17 ∨ j = 18 := by
  simpa [m_I] using h
theorem m_at {r : Nat → Nat} {F : Nat → va_E} (hr : m_inj r) {i : Nat} (hi : i ∈ m_I) : m_G r F (r i) = some (F i) := by
  unfold m_G
  cases h : m_I.find? (fun j => r j == r i) with
  | none => exact absurd (beq_self_eq_true (r i)) (by simpa using List.find?_eq_none.mp h i hi)
  | some j =>
    have h1 : r j = r i := by simpa using List.find?_some h
    have h2 := hr j (List.mem_of_find?_eq_some h) i hi h1
    rw [h2]; rfl
theorem m_set {r : Nat → Nat} {F F' : Nat → va_E} {e : va_E} (hr : m_inj r) {i : Nat} (hi : i ∈ m_I) (h : ∀ j, j ∈ m_I → F' j = if j = i then e else F j) : va_up (m_G r F) (r i) (some e) = m_G r F' := by
  funext q
  by_cases hq : q = r i
  · rw [hq, va_up_self, m_at hr hi, h i hi, if_pos rfl]
  · rw [va_up_ne _ _ hq]
    unfold m_G
    cases hf : m_I.find? (fun j => r j == q) with
    | none => rfl
    | some j =>
      have h1 : r j = q := by simpa using List.find?_some hf
      have h2 : j ≠ i := fun z => hq (by rw [← h1, z])
      show some (F j) = some (F' j)
      rw [h j (List.mem_of_find?_eq_some hf), if_neg h2]
theorem m_dom {r : Nat → Nat} {F : Nat → va_E} {q : Nat} {e : va_E} (h : m_G r F q = some e) : ∃ i, i ∈ m_I ∧ q = r i := by
  unfold m_G at h
  cases hf : m_I.find? (fun j => r j == q) with
  | none => rw [hf] at h; cases h
  | some j => exact ⟨j, List.mem_of_find?_eq_some hf, (show r j = q by simpa using List.find?_some hf).symm⟩
def m_F (r : Nat → Nat) (cN cZ cL : ClassId) (S : MS) (k : Nat) : va_E := match k with
  | 20 => .inr (5, [.ref (r 0), .ref (r 1), .ref (r 2), .ref (r 3), .ref (r 4), .ref (r 5), .ref (r 6), .int (S.2.2 7), .int (S.2.2 8), .int (S.2.2 9), .int (S.2.2 10), .ref (r 11), .ref (r 12), .ref (r 13), .int (S.2.2 14), .ref (r 15), .ref (r 16), .ref (r 17), .ref (r 18), .int (S.2.2 19)])
  | 0 => .inl (cN, 16, .inl (S.1 0))
  | 1 => .inl (cN, 16, .inl (S.1 1))
  | 2 => .inl (cN, 16, .inl (S.1 2))
  | 3 => .inl (cZ, 16, .inl (S.1 3))
  | 13 => .inl (cL, 514, .inr (.inl S.2.1))
  | 15 => .inl (cN, 32, .inl (S.1 15))
  | 18 => .inl (cZ, 514, .inl (S.1 18))
  | k => .inl (cN, 514, .inl (S.1 k))
def m_w (r : Nat → Nat) (cN cZ cL : ClassId) (S : MS) : y_G := m_G r (m_F r cN cZ cL S)
def m_a (S : MS) (k j : Nat) (v : Int32) : MS := (va_up S.1 k (upd (S.1 k) j v), S.2.1, S.2.2)
def m_l (S : MS) (j : Nat) (v : Int64) : MS := (S.1, vp_updL S.2.1 j v, S.2.2)
def m_s (S : MS) (k : Nat) (v : Int32) : MS := (S.1, S.2.1, va_up S.2.2 k v)
theorem m_wa0 {r : Nat → Nat} {cN cZ cL : ClassId} (hri : m_inj r) (S : MS) (j : Nat) (v : Int32) : va_up (m_w r cN cZ cL S) (r 0) (some (.inl (cN, 16, .inl (upd (S.1 0) j v)))) = m_w r cN cZ cL (m_a S 0 j v) := m_set hri (by decide) (fun i hi => by rcases m_all hi with rfl | rfl | rfl | rfl | rfl | rfl | rfl | rfl | rfl | rfl | rfl | rfl | rfl | rfl | rfl <;> rfl)
theorem m_wa1 {r : Nat → Nat} {cN cZ cL : ClassId} (hri : m_inj r) (S : MS) (j : Nat) (v : Int32) : va_up (m_w r cN cZ cL S) (r 1) (some (.inl (cN, 16, .inl (upd (S.1 1) j v)))) = m_w r cN cZ cL (m_a S 1 j v) := m_set hri (by decide) (fun i hi => by rcases m_all hi with rfl | rfl | rfl | rfl | rfl | rfl | rfl | rfl | rfl | rfl | rfl | rfl | rfl | rfl | rfl <;> rfl)
theorem m_wa2 {r : Nat → Nat} {cN cZ cL : ClassId} (hri : m_inj r) (S : MS) (j : Nat) (v : Int32) : va_up (m_w r cN cZ cL S) (r 2) (some (.inl (cN, 16, .inl (upd (S.1 2) j v)))) = m_w r cN cZ cL (m_a S 2 j v) := m_set hri (by decide) (fun i hi => by rcases m_all hi with rfl | rfl | rfl | rfl | rfl | rfl | rfl | rfl | rfl | rfl | rfl | rfl | rfl | rfl | rfl <;> rfl)
theorem m_wa3 {r : Nat → Nat} {cN cZ cL : ClassId} (hri : m_inj r) (S : MS) (j : Nat) (v : Int32) : va_up (m_w r cN cZ cL S) (r 3) (some (.inl (cZ, 16, .inl (upd (S.1 3) j v)))) = m_w r cN cZ cL (m_a S 3 j v) := m_set hri (by decide) (fun i hi => by rcases m_all hi with rfl | rfl | rfl | rfl | rfl | rfl | rfl | rfl | rfl | rfl | rfl | rfl | rfl | rfl | rfl <;> rfl)
theorem m_wa4 {r : Nat → Nat} {cN cZ cL : ClassId} (hri : m_inj r) (S : MS) (j : Nat) (v : Int32) : va_up (m_w r cN cZ cL S) (r 4) (some (.inl (cN, 514, .inl (upd (S.1 4) j v)))) = m_w r cN cZ cL (m_a S 4 j v) := m_set hri (by decide) (fun i hi => by rcases m_all hi with rfl | rfl | rfl | rfl | rfl | rfl | rfl | rfl | rfl | rfl | rfl | rfl | rfl | rfl | rfl <;> rfl)
theorem m_wa5 {r : Nat → Nat} {cN cZ cL : ClassId} (hri : m_inj r) (S : MS) (j : Nat) (v : Int32) : va_up (m_w r cN cZ cL S) (r 5) (some (.inl (cN, 514, .inl (upd (S.1 5) j v)))) = m_w r cN cZ cL (m_a S 5 j v) := m_set hri (by decide) (fun i hi => by rcases m_all hi with rfl | rfl | rfl | rfl | rfl | rfl | rfl | rfl | rfl | rfl | rfl | rfl | rfl | rfl | rfl <;> rfl)
theorem m_wa6 {r : Nat → Nat} {cN cZ cL : ClassId} (hri : m_inj r) (S : MS) (j : Nat) (v : Int32) : va_up (m_w r cN cZ cL S) (r 6) (some (.inl (cN, 514, .inl (upd (S.1 6) j v)))) = m_w r cN cZ cL (m_a S 6 j v) := m_set hri (by decide) (fun i hi => by rcases m_all hi with rfl | rfl | rfl | rfl | rfl | rfl | rfl | rfl | rfl | rfl | rfl | rfl | rfl | rfl | rfl <;> rfl)
theorem m_wa11 {r : Nat → Nat} {cN cZ cL : ClassId} (hri : m_inj r) (S : MS) (j : Nat) (v : Int32) : va_up (m_w r cN cZ cL S) (r 11) (some (.inl (cN, 514, .inl (upd (S.1 11) j v)))) = m_w r cN cZ cL (m_a S 11 j v) := m_set hri (by decide) (fun i hi => by rcases m_all hi with rfl | rfl | rfl | rfl | rfl | rfl | rfl | rfl | rfl | rfl | rfl | rfl | rfl | rfl | rfl <;> rfl)
theorem m_wa12 {r : Nat → Nat} {cN cZ cL : ClassId} (hri : m_inj r) (S : MS) (j : Nat) (v : Int32) : va_up (m_w r cN cZ cL S) (r 12) (some (.inl (cN, 514, .inl (upd (S.1 12) j v)))) = m_w r cN cZ cL (m_a S 12 j v) := m_set hri (by decide) (fun i hi => by rcases m_all hi with rfl | rfl | rfl | rfl | rfl | rfl | rfl | rfl | rfl | rfl | rfl | rfl | rfl | rfl | rfl <;> rfl)
theorem m_wa15 {r : Nat → Nat} {cN cZ cL : ClassId} (hri : m_inj r) (S : MS) (j : Nat) (v : Int32) : va_up (m_w r cN cZ cL S) (r 15) (some (.inl (cN, 32, .inl (upd (S.1 15) j v)))) = m_w r cN cZ cL (m_a S 15 j v) := m_set hri (by decide) (fun i hi => by rcases m_all hi with rfl | rfl | rfl | rfl | rfl | rfl | rfl | rfl | rfl | rfl | rfl | rfl | rfl | rfl | rfl <;> rfl)
theorem m_wa16 {r : Nat → Nat} {cN cZ cL : ClassId} (hri : m_inj r) (S : MS) (j : Nat) (v : Int32) : va_up (m_w r cN cZ cL S) (r 16) (some (.inl (cN, 514, .inl (upd (S.1 16) j v)))) = m_w r cN cZ cL (m_a S 16 j v) := m_set hri (by decide) (fun i hi => by rcases m_all hi with rfl | rfl | rfl | rfl | rfl | rfl | rfl | rfl | rfl | rfl | rfl | rfl | rfl | rfl | rfl <;> rfl)
theorem m_wa17 {r : Nat → Nat} {cN cZ cL : ClassId} (hri : m_inj r) (S : MS) (j : Nat) (v : Int32) : va_up (m_w r cN cZ cL S) (r 17) (some (.inl (cN, 514, .inl (upd (S.1 17) j v)))) = m_w r cN cZ cL (m_a S 17 j v) := m_set hri (by decide) (fun i hi => by rcases m_all hi with rfl | rfl | rfl | rfl | rfl | rfl | rfl | rfl | rfl | rfl | rfl | rfl | rfl | rfl | rfl <;> rfl)
theorem m_wa18 {r : Nat → Nat} {cN cZ cL : ClassId} (hri : m_inj r) (S : MS) (j : Nat) (v : Int32) : va_up (m_w r cN cZ cL S) (r 18) (some (.inl (cZ, 514, .inl (upd (S.1 18) j v)))) = m_w r cN cZ cL (m_a S 18 j v) := m_set hri (by decide) (fun i hi => by rcases m_all hi with rfl | rfl | rfl | rfl | rfl | rfl | rfl | rfl | rfl | rfl | rfl | rfl | rfl | rfl | rfl <;> rfl)
theorem m_wl {r : Nat → Nat} {cN cZ cL : ClassId} (hri : m_inj r) (S : MS) (j : Nat) (v : Int64) : va_up (m_w r cN cZ cL S) (r 13) (some (.inl (cL, 514, .inr (.inl (vp_updL S.2.1 j v))))) = m_w r cN cZ cL (m_l S j v) := m_set hri (by decide) (fun i hi => by rcases m_all hi with rfl | rfl | rfl | rfl | rfl | rfl | rfl | rfl | rfl | rfl | rfl | rfl | rfl | rfl | rfl <;> rfl)
theorem m_ws7 {r : Nat → Nat} {cN cZ cL : ClassId} (hri : m_inj r) (S : MS) (v : Int32) : va_up (m_w r cN cZ cL S) (r 20) (some (.inr (5, [.ref (r 0), .ref (r 1), .ref (r 2), .ref (r 3), .ref (r 4), .ref (r 5), .ref (r 6), .int v, .int (S.2.2 8), .int (S.2.2 9), .int (S.2.2 10), .ref (r 11), .ref (r 12), .ref (r 13), .int (S.2.2 14), .ref (r 15), .ref (r 16), .ref (r 17), .ref (r 18), .int (S.2.2 19)]))) = m_w r cN cZ cL (m_s S 7 v) := m_set hri (by decide) (fun i hi => by rcases m_all hi with rfl | rfl | rfl | rfl | rfl | rfl | rfl | rfl | rfl | rfl | rfl | rfl | rfl | rfl | rfl <;> rfl)
theorem m_ws8 {r : Nat → Nat} {cN cZ cL : ClassId} (hri : m_inj r) (S : MS) (v : Int32) : va_up (m_w r cN cZ cL S) (r 20) (some (.inr (5, [.ref (r 0), .ref (r 1), .ref (r 2), .ref (r 3), .ref (r 4), .ref (r 5), .ref (r 6), .int (S.2.2 7), .int v, .int (S.2.2 9), .int (S.2.2 10), .ref (r 11), .ref (r 12), .ref (r 13), .int (S.2.2 14), .ref (r 15), .ref (r 16), .ref (r 17), .ref (r 18), .int (S.2.2 19)]))) = m_w r cN cZ cL (m_s S 8 v) := m_set hri (by decide) (fun i hi => by rcases m_all hi with rfl | rfl | rfl | rfl | rfl | rfl | rfl | rfl | rfl | rfl | rfl | rfl | rfl | rfl | rfl <;> rfl)
theorem m_ws9 {r : Nat → Nat} {cN cZ cL : ClassId} (hri : m_inj r) (S : MS) (v : Int32) : va_up (m_w r cN cZ cL S) (r 20) (some (.inr (5, [.ref (r 0), .ref (r 1), .ref (r 2), .ref (r 3), .ref (r 4), .ref (r 5), .ref (r 6), .int (S.2.2 7), .int (S.2.2 8), .int v, .int (S.2.2 10), .ref (r 11), .ref (r 12), .ref (r 13), .int (S.2.2 14), .ref (r 15), .ref (r 16), .ref (r 17), .ref (r 18), .int (S.2.2 19)]))) = m_w r cN cZ cL (m_s S 9 v) := m_set hri (by decide) (fun i hi => by rcases m_all hi with rfl | rfl | rfl | rfl | rfl | rfl | rfl | rfl | rfl | rfl | rfl | rfl | rfl | rfl | rfl <;> rfl)
theorem m_ws10 {r : Nat → Nat} {cN cZ cL : ClassId} (hri : m_inj r) (S : MS) (v : Int32) : va_up (m_w r cN cZ cL S) (r 20) (some (.inr (5, [.ref (r 0), .ref (r 1), .ref (r 2), .ref (r 3), .ref (r 4), .ref (r 5), .ref (r 6), .int (S.2.2 7), .int (S.2.2 8), .int (S.2.2 9), .int v, .ref (r 11), .ref (r 12), .ref (r 13), .int (S.2.2 14), .ref (r 15), .ref (r 16), .ref (r 17), .ref (r 18), .int (S.2.2 19)]))) = m_w r cN cZ cL (m_s S 10 v) := m_set hri (by decide) (fun i hi => by rcases m_all hi with rfl | rfl | rfl | rfl | rfl | rfl | rfl | rfl | rfl | rfl | rfl | rfl | rfl | rfl | rfl <;> rfl)
theorem m_ws14 {r : Nat → Nat} {cN cZ cL : ClassId} (hri : m_inj r) (S : MS) (v : Int32) : va_up (m_w r cN cZ cL S) (r 20) (some (.inr (5, [.ref (r 0), .ref (r 1), .ref (r 2), .ref (r 3), .ref (r 4), .ref (r 5), .ref (r 6), .int (S.2.2 7), .int (S.2.2 8), .int (S.2.2 9), .int (S.2.2 10), .ref (r 11), .ref (r 12), .ref (r 13), .int v, .ref (r 15), .ref (r 16), .ref (r 17), .ref (r 18), .int (S.2.2 19)]))) = m_w r cN cZ cL (m_s S 14 v) := m_set hri (by decide) (fun i hi => by rcases m_all hi with rfl | rfl | rfl | rfl | rfl | rfl | rfl | rfl | rfl | rfl | rfl | rfl | rfl | rfl | rfl <;> rfl)
theorem m_ws19 {r : Nat → Nat} {cN cZ cL : ClassId} (hri : m_inj r) (S : MS) (v : Int32) : va_up (m_w r cN cZ cL S) (r 20) (some (.inr (5, [.ref (r 0), .ref (r 1), .ref (r 2), .ref (r 3), .ref (r 4), .ref (r 5), .ref (r 6), .int (S.2.2 7), .int (S.2.2 8), .int (S.2.2 9), .int (S.2.2 10), .ref (r 11), .ref (r 12), .ref (r 13), .int (S.2.2 14), .ref (r 15), .ref (r 16), .ref (r 17), .ref (r 18), .int v]))) = m_w r cN cZ cL (m_s S 19 v) := m_set hri (by decide) (fun i hi => by rcases m_all hi with rfl | rfl | rfl | rfl | rfl | rfl | rfl | rfl | rfl | rfl | rfl | rfl | rfl | rfl | rfl <;> rfl)
variable {p : Program} {l : Launch} {e : Env} {R : Room} {s : State} {m : MethodId} {args : Array Value} {below : List Frame} {meth : Method} {c : Code} {H : Heap} {locs : List Loc} {cells slots : Nat} {Q : State → Prop} {cc : ByteArray} {pc a : Nat} {ls : Array Slot} {rest : List Value} {D : va_G} {cl : List vw_C} {tys : List (ClassId × FieldType)} {g : y_G} {A : Nat → Prop} {H0 : Heap}
theorem y_iald (hexec : p.tables.exec = Jvm.exec) (hb : c.code = cc) (hK : va_K D cl tys s) (hP : y_P D cl g H) (t0 : Nat) {cA : ClassId} {n : Nat} {f : Nat → Int32} (ha : g a = some (.inl (cA, n, .inl f))) (ht : tys[t0]? = some (cA, .int)) {i : Int32} (hin : vp_in i n) (hdg : decode cc pc = .ok (.iaload, 1))
    (kk : W p l e R s m args below meth c H locs cells slots Q (F0 m (pc + 1) ls (.int (f i.toNatClampNeg) :: rest))) : W p l e R s m args below meth c H locs cells slots Q (F0 m pc ls (.int i :: .ref a :: rest)) :=
  va_iald hexec hb hK (y_one hP ha) 0 t0 rfl ht hin hdg kk
theorem y_zald (hexec : p.tables.exec = Jvm.exec) (hb : c.code = cc) (hK : va_K D cl tys s) (hP : y_P D cl g H) (t0 : Nat) {cA : ClassId} {n : Nat} {f : Nat → Int32} (ha : g a = some (.inl (cA, n, .inl f))) (ht : tys[t0]? = some (cA, .boolean)) {i : Int32} (hin : vp_in i n) (hdg : decode cc pc = .ok (.baload, 1))
    (kk : W p l e R s m args below meth c H locs cells slots Q (F0 m (pc + 1) ls (.int (f i.toNatClampNeg) :: rest))) : W p l e R s m args below meth c H locs cells slots Q (F0 m pc ls (.int i :: .ref a :: rest)) :=
  va_zald hexec hb hK (y_one hP ha) 0 t0 rfl ht hin hdg kk
theorem y_lald (hexec : p.tables.exec = Jvm.exec) (hb : c.code = cc) (hK : va_K D cl tys s) (hP : y_P D cl g H) (t0 : Nat) {cA : ClassId} {n : Nat} {f : Nat → Int64} (ha : g a = some (.inl (cA, n, .inr (.inl f)))) (ht : tys[t0]? = some (cA, .long)) {i : Int32} (hin : vp_in i n) (hdg : decode cc pc = .ok (.laload, 1))
    (kk : W p l e R s m args below meth c H locs cells slots Q (F0 m (pc + 1) ls (.long (f i.toNatClampNeg) :: rest))) : W p l e R s m args below meth c H locs cells slots Q (F0 m pc ls (.int i :: .ref a :: rest)) :=
  va_lald hexec hb hK (y_one hP ha) 0 t0 rfl ht hin hdg kk
theorem y_iast (hexec : p.tables.exec = Jvm.exec) (hb : c.code = cc) (hK : va_K D cl tys s) (hP : y_P D cl g H) (hA : ∀ q e, g q = some e → A q) (hS : va_S A H0 H locs) (t0 : Nat) {cA : ClassId} {n : Nat} {f : Nat → Int32} (ha : g a = some (.inl (cA, n, .inl f))) (ht : tys[t0]? = some (cA, .int)) {i x : Int32} (hin : vp_in i n) (hdg : decode cc pc = .ok (.iastore, 1))
    (kk : ∀ (H1 : Heap) (locs1 : List Loc), y_P D cl (va_up g a (some (.inl (cA, n, .inl (upd f i.toNatClampNeg x))))) H1 → (∀ q e, va_up g a (some (.inl (cA, n, .inl (upd f i.toNatClampNeg x)))) q = some e → A q) → va_S A H0 H1 locs1 → W p l e R s m args below meth c H1 locs1 cells slots Q (F0 m (pc + 1) ls rest)) :
    W p l e R s m args below meth c H locs cells slots Q (F0 m pc ls (.int x :: .int i :: .ref a :: rest)) := by
  have hlt : ∀ q e, g q = some e → q < H.size := fun q e h => y_lt hP h
  obtain ⟨j, hj⟩ := y_idx (hlt a _ ha) ha
  refine va_iast hexec hb hK (y_toL hP H.size) (y_D hA H.size) hS j t0 hj ht hin hdg (fun H1 locs1 h1 _ h3 => ?_)
  refine kk H1 locs1 (y_ofSet hlt hj h1) (fun q e h => ?_) h3
  by_cases hq : q = a
  · rw [hq]; exact hA a _ ha
  · rw [va_up_ne _ _ hq] at h; exact hA q e h
theorem y_zast (hexec : p.tables.exec = Jvm.exec) (hb : c.code = cc) (hK : va_K D cl tys s) (hP : y_P D cl g H) (hA : ∀ q e, g q = some e → A q) (hS : va_S A H0 H locs) (t0 : Nat) {cA : ClassId} {n : Nat} {f : Nat → Int32} (ha : g a = some (.inl (cA, n, .inl f))) (ht : tys[t0]? = some (cA, .boolean)) {i x : Int32} (hin : vp_in i n) (hx : vp_nar .boolean x = x) (hdg : decode cc pc = .ok (.bastore, 1))
    (kk : ∀ (H1 : Heap) (locs1 : List Loc), y_P D cl (va_up g a (some (.inl (cA, n, .inl (upd f i.toNatClampNeg x))))) H1 → (∀ q e, va_up g a (some (.inl (cA, n, .inl (upd f i.toNatClampNeg x)))) q = some e → A q) → va_S A H0 H1 locs1 → W p l e R s m args below meth c H1 locs1 cells slots Q (F0 m (pc + 1) ls rest)) :
    W p l e R s m args below meth c H locs cells slots Q (F0 m pc ls (.int x :: .int i :: .ref a :: rest)) := by
  have hlt : ∀ q e, g q = some e → q < H.size := fun q e h => y_lt hP h
  obtain ⟨j, hj⟩ := y_idx (hlt a _ ha) ha
  refine va_zast hexec hb hK (y_toL hP H.size) (y_D hA H.size) hS j t0 hj ht hin hdg (fun H1 locs1 h1 _ h3 => ?_)
  rw [hx] at h1
  refine kk H1 locs1 (y_ofSet hlt hj h1) (fun q e h => ?_) h3
  by_cases hq : q = a
  · rw [hq]; exact hA a _ ha
  · rw [va_up_ne _ _ hq] at h; exact hA q e h
theorem y_last (hexec : p.tables.exec = Jvm.exec) (hb : c.code = cc) (hK : va_K D cl tys s) (hP : y_P D cl g H) (hA : ∀ q e, g q = some e → A q) (hS : va_S A H0 H locs) (t0 : Nat) {cA : ClassId} {n : Nat} {f : Nat → Int64} (ha : g a = some (.inl (cA, n, .inr (.inl f)))) (ht : tys[t0]? = some (cA, .long)) {i : Int32} {x : Int64} (hin : vp_in i n) (hdg : decode cc pc = .ok (.lastore, 1))
    (kk : ∀ (H1 : Heap) (locs1 : List Loc), y_P D cl (va_up g a (some (.inl (cA, n, .inr (.inl (vp_updL f i.toNatClampNeg x)))))) H1 → (∀ q e, va_up g a (some (.inl (cA, n, .inr (.inl (vp_updL f i.toNatClampNeg x))))) q = some e → A q) → va_S A H0 H1 locs1 → W p l e R s m args below meth c H1 locs1 cells slots Q (F0 m (pc + 1) ls rest)) :
    W p l e R s m args below meth c H locs cells slots Q (F0 m pc ls (.long x :: .int i :: .ref a :: rest)) := by
  have hlt : ∀ q e, g q = some e → q < H.size := fun q e h => y_lt hP h
  obtain ⟨j, hj⟩ := y_idx (hlt a _ ha) ha
  refine va_last hexec hb hK (y_toL hP H.size) (y_D hA H.size) hS j t0 hj ht hin hdg (fun H1 locs1 h1 _ h3 => ?_)
  refine kk H1 locs1 (y_ofSet hlt hj h1) (fun q e h => ?_) h3
  by_cases hq : q = a
  · rw [hq]; exact hA a _ ha
  · rw [va_up_ne _ _ hq] at h; exact hA q e h
/-- a new array of numbers, of a class that is known -/
theorem y_newa (hexec : p.tables.exec = Jvm.exec) (hb : c.code = cc) {atype : ArrayType} (harr : (Cond.arrayClass (newarray.typeOf atype)).before args s = true) {ty : FieldType} (hty : newarray.typeOf atype = ty) (hK : va_K D cl tys s) (hP : y_P D cl g H) (hA : ∀ q e, g q = some e → A q) (hS : va_S A H0 H locs) (hA0 : ∀ q, H0.size ≤ q → A q) (t0 : Nat) {cA : ClassId} (ht : tys[t0]? = some (cA, ty)) (hRA : ∀ c', va_RA s c' ty → va_RA s cA ty → c' = cA)
    {n : Int32} {N' : Nat} {a0 : vp_A} (ha : ∀ cA : ClassId, vp_cell cA a0 = arrV cA N' (fun _ => defaultValue ty)) (hn : ¬ n < 0) (hN : n.toNatClampNeg = N') (hbytes : N' * componentBytes ty ≤ 536870912) (hcells : cells + 1 ≤ R.cells) (hslots : slots + N' ≤ R.slots) (hdg : decode cc pc = .ok (.newarray atype, 2))
    (kk : ∀ (q : Nat) (H1 : Heap), g q = none → y_P D cl (va_up g q (some (.inl (cA, a0)))) H1 → (∀ z e, va_up g q (some (.inl (cA, a0))) z = some e → A z) → va_S A H0 H1 locs →
      W p l e R s m args below meth c H1 locs (cells + 1) (slots + N') Q (F0 m (pc + 2) ls (.ref q :: rest))) : W p l e R s m args below meth c H locs cells slots Q (F0 m pc ls (.int n :: rest)) := by
  have hlt : ∀ q e, g q = some e → q < H.size := fun q e h => y_lt hP h
  refine va_newa hexec hb harr hty hK (y_toL hP H.size) (y_D hA H.size) hS hA0 ha hn hN hbytes hcells hslots hdg (fun q cA' H1 h0 h1 h2 h3 => ?_)
  have f1 := (h0.2 tys.length (cA', ty) (by rw [List.getElem?_append_right (Nat.le_refl _), Nat.sub_self]; rfl)).2
  have f2 := (hK.2 t0 _ ht).2
  have f3 := hRA cA' f1 f2
  rw [f3] at h1 h2
  have hlast : (y_L g H.size ++ [(q, (Sum.inl (cA, a0) : va_E))])[(y_L g H.size).length]? = some (q, .inl (cA, a0)) := by rw [List.getElem?_append_right (Nat.le_refl _), Nat.sub_self]; rfl
  have hq : g q = none := by
    cases hg : g q with
    | none => rfl
    | some e9 =>
      obtain ⟨j, hj⟩ := y_idx (hlt q e9 hg) hg
      have hjl := (List.getElem?_eq_some_iff.mp hj).1
      have := h2.1 j (y_L g H.size).length (q, e9) (q, .inl (cA, a0)) (by rw [List.getElem?_append_left hjl]; exact hj) hlast rfl
      omega
  refine kk q H1 hq (y_ofPush hlt h1) (fun z e h => ?_) h3
  by_cases hz : z = q
  · rw [hz]; exact h2.2 _ _ hlast
  · rw [va_up_ne _ _ hz] at h; exact hA z e h
end MRows
end
section
/-! the reference: its small methods -/
section MSmall
def m_row (S : MS) (o : Int32) : Int32 := S.1 2 (S.1 4 o.toNatClampNeg).toNatClampNeg
/-- an object's number is one that there is, and so is its kind -/
def m_ok (S : MS) (o : Int32) : Prop := vp_in o 514 ∧ vp_in (S.1 4 o.toNatClampNeg) 16
def m_many (S : MS) (o : Int32) : Int32 := if m_row S o < 0 then S.1 0 (S.1 4 o.toNatClampNeg).toNatClampNeg else S.1 5 o.toNatClampNeg
noncomputable def m_isr (S : MS) (o k : Int32) : Int32 := c_bit (if m_row S o < 0 then (S.1 1 (S.1 4 o.toNatClampNeg).toNatClampNeg >>> (k &&& 31)) &&& 1 = 1 else m_row S o = 0)
def m_tk (row : Int32) (n : Int64) : Int64 := if row < 0 then 3 + n else 4 + (if row = 4 then 2 * n else if row = 2 then (n + 1) / 2 else if row = 1 then (n + 3) / 4 else n)
def m_cut (S : MS) (o : Int32) (v : Int64) : Int64 := if m_row S o = 1 then v.toInt32.toInt8.toInt32.toInt64 else if m_row S o = 2 then (v.toInt32.toUInt32 % 65536).toInt32.toInt64 else if m_row S o = 4 then v else v.toInt32.toInt64
/-- the newest of the first n entries -/
def m_lat (S : MS) (o k : Int32) : Nat → Int64
  | 0 => 0
  | n + 1 => if S.1 11 n = o ∧ S.1 12 n = k then S.2.1 n else m_lat S o k n
theorem m_nlt {x : Int32} (h : 0 ≤ x) : ¬ x < 0 := b_ge0 h
end MSmall
set_option maxHeartbeats 4000000 in
set_option maxRecDepth 100000 in
/-- thrown() -/
theorem c_Mo_thrown (l : Launch) (D : va_G) (cK cI cN cZ cL : ClassId) (r : Nat → Nat) (hri : m_inj r) (S : MS) (sz : Nat)  : x_M l y_Mo_thrown [.code y_Mo_thrown b_Mo_thrown 1 (some .int)] rmZ (w_Pc D (x_tys cK cI cN cZ cL) [.ref (r 20)] (m_w r cN cZ cL S) sz) (w_Qc D (m_w r cN cZ cL S) sz (fun r9 g9 => r9 = .inl (some (.int (S.2.2 10))) ∧ g9 = (m_w r cN cZ cL S))) 0 0 (y_A (m_w r cN cZ cL S) sz) := by
  refine x_ofW (cc := b_Mo_thrown) (maxL := 1) (ret := (some .int)) (by decide) rfl ?_
  intro p e s m args below meth c s₁ B hml hno hv
  obtain ⟨rfl, hsz, hP, hE⟩ := hv
  subst hsz
  have hts := hE.hts ([.ref (r 20)] : List Value).toArray
  have hK := hE.1.2.1
  have hA0 : ∀ q, s.heap.size ≤ q → y_A (m_w r cN cZ cL S) s.heap.size q := fun q h => Or.inr h
  have hA : ∀ q e, (m_w r cN cZ cL S) q = some e → y_A (m_w r cN cZ cL S) s.heap.size q := fun q e h => Or.inl (by rw [h]; exact fun z => nomatch z)
  have hS : va_S (y_A (m_w r cN cZ cL S) s.heap.size) s.heap s.heap [] := va_S.rf
  generalize hAe : y_A (m_w r cN cZ cL S) s.heap.size = A at hE hA0 hA hS ⊢
  have hx := B.exec
  have hb := B.bytes
  have hr := B.returns
  have hlocks := B.notSynchronized
  have hown : s.vm.findClass R_Mo = some m.cls := findClass_of_methodNamed B.named
  have hl := lv_entry ([.ref (r 20)]) (n := 1) (Nat.le_of_ble_eq_true rfl)
  rw [lg_entry_eq]
  generalize (lg_sl ([.ref (r 20)]) ++ List.replicate (1 - (lg_sl ([.ref (r 20)])).length) Slot.unset).toArray = ls at hl ⊢
  have hl : lv_has ls 1 [(0, .ref (r 20))] := hl
  refine lv_aload_n hx hb d_Mo_thrown_0 rfl (lv_at hl 0 rfl) ?_
  refine y_get (D := D) (ci := 5) (v := .int (S.2.2 10)) (C := R_Mo) (T := F_Mo) (N := 20) hx hb hts in_Mo hown hK hP (m_at hri (i := 20) (by decide)) rfl 10 (by decide) (hts (.fieldLink R_Mo 59 "MemoryDeskModel" "err" "I") (by decide +kernel)) (fun _ h9 => h9) rfl d_Mo_thrown_1 ?_
  refine W.widen (k := 0) (n := 0) (by first | decide | omega) (by first | decide | omega) ?_
  exact x_ret (W.iret (v := (S.2.2 10)) hx hb hr (w_fin rfl hAe ⟨rfl, rfl⟩ hP hA hS) hS.2.2 d_Mo_thrown_4)
theorem b_ngt {v w : Int32} (h : v ≤ w) : ¬ w < v := fun z => by
  rw [Int32.le_iff_toInt_le] at h
  rw [Int32.lt_iff_toInt_lt] at z
  omega
theorem b_le {v w : Int32} (h : ¬ w < v) : v ≤ w := by
  rw [Int32.le_iff_toInt_le]
  rw [Int32.lt_iff_toInt_lt] at h
  omega
set_option maxHeartbeats 4000000 in
set_option maxRecDepth 100000 in
/-- in(v, most) -/
theorem c_Mo_in (l : Launch) (D : va_G) (cK cI cN cZ cL : ClassId) (r : Nat → Nat) (hri : m_inj r) (S : MS) (sz : Nat) (v w : Int32) : x_M l y_Mo_in [.code y_Mo_in b_Mo_in 2 (some .boolean)] rmZ (w_Pc D (x_tys cK cI cN cZ cL) [.int v, .int w] (m_w r cN cZ cL S) sz) (w_Qc D (m_w r cN cZ cL S) sz (fun r9 g9 => r9 = .inl (some (.int (c_bit (¬ v < 0 ∧ v ≤ w)))) ∧ g9 = (m_w r cN cZ cL S))) 0 0 (y_A (m_w r cN cZ cL S) sz) := by
  refine x_ofW (cc := b_Mo_in) (maxL := 2) (ret := (some .boolean)) (by decide) rfl ?_
  intro p e s m args below meth c s₁ B hml hno hv
  obtain ⟨rfl, hsz, hP, hE⟩ := hv
  subst hsz
  have hts := hE.hts ([.int v, .int w] : List Value).toArray
  have hK := hE.1.2.1
  have hA0 : ∀ q, s.heap.size ≤ q → y_A (m_w r cN cZ cL S) s.heap.size q := fun q h => Or.inr h
  have hA : ∀ q e, (m_w r cN cZ cL S) q = some e → y_A (m_w r cN cZ cL S) s.heap.size q := fun q e h => Or.inl (by rw [h]; exact fun z => nomatch z)
  have hS : va_S (y_A (m_w r cN cZ cL S) s.heap.size) s.heap s.heap [] := va_S.rf
  generalize hAe : y_A (m_w r cN cZ cL S) s.heap.size = A at hE hA0 hA hS ⊢
  have hx := B.exec
  have hb := B.bytes
  have hr := B.returns
  have hlocks := B.notSynchronized
  have hown : s.vm.findClass R_Mo = some m.cls := findClass_of_methodNamed B.named
  have hl := lv_entry ([.int v, .int w]) (n := 2) (Nat.le_of_ble_eq_true rfl)
  rw [lg_entry_eq]
  generalize (lg_sl ([.int v, .int w]) ++ List.replicate (2 - (lg_sl ([.int v, .int w])).length) Slot.unset).toArray = ls at hl ⊢
  have hl : lv_has ls 2 [(0, .int v), (1, .int w)] := hl
  refine lv_iload_n hx hb d_Mo_in_0 rfl (lv_at hl 0 rfl) ?_
  refine lv_if_lt hx hb d_Mo_in_1 rfl (fun h1 => ?_) (fun h1 => ?_)
  · -- iflt at 1: to 13
    refine lv_iconst (v := 0) hx hb d_Mo_in_13 (by decide) ?_
    refine W.widen (k := 0) (n := 0) (by first | decide | omega) (by first | decide | omega) ?_
    exact x_ret (W.zret (v := 0) hx hb hr rfl (w_fin rfl hAe ⟨by rw [c_bit.n (fun z => z.1 h1)], rfl⟩ hP hA hS) hS.2.2 d_Mo_in_14)
  · -- iflt at 1: to 4
    refine lv_iload_n hx hb d_Mo_in_4 rfl (lv_at hl 0 rfl) ?_
    refine lv_iload_n hx hb d_Mo_in_5 rfl (lv_at hl 1 rfl) ?_
    refine lv_icmp_gt hx hb d_Mo_in_6 rfl (fun h2 => ?_) (fun h2 => ?_)
    · -- if_icmpgt at 6: to 13
      refine lv_iconst (v := 0) hx hb d_Mo_in_13 (by decide) ?_
      refine W.widen (k := 0) (n := 0) (by first | decide | omega) (by first | decide | omega) ?_
      exact x_ret (W.zret (v := 0) hx hb hr rfl (w_fin rfl hAe ⟨by rw [c_bit.n (fun z => absurd h2 (b_ngt z.2))], rfl⟩ hP hA hS) hS.2.2 d_Mo_in_14)
    · -- if_icmpgt at 6: to 9
      refine lv_iconst (v := 1) hx hb d_Mo_in_9 (by decide) ?_
      refine lv_goto hx hb d_Mo_in_10 rfl ?_
      refine W.widen (k := 0) (n := 0) (by first | decide | omega) (by first | decide | omega) ?_
      exact x_ret (W.zret (v := 1) hx hb hr rfl (w_fin rfl hAe ⟨by rw [c_bit.y (show ¬ v < 0 ∧ v ≤ w from ⟨h1, b_le h2⟩)], rfl⟩ hP hA hS) hS.2.2 d_Mo_in_14)
set_option maxHeartbeats 4000000 in
set_option maxRecDepth 100000 in
/-- fails(is, code) -/
theorem c_Mo_fails (l : Launch) (D : va_G) (cK cI cN cZ cL : ClassId) (r : Nat → Nat) (hri : m_inj r) (S : MS) (sz : Nat) (b cd : Int32) (hc : ¬ cd = 0) : x_M l y_Mo_fails [.code y_Mo_fails b_Mo_fails 3 (some .boolean)] rmZ (w_Pc D (x_tys cK cI cN cZ cL) [.ref (r 20), .int b, .int cd] (m_w r cN cZ cL S) sz) (w_Qc D (m_w r cN cZ cL S) sz (fun r9 g9 => (b = 0 ∧ S.2.2 10 = 0 ∧ r9 = .inl (some (.int 0)) ∧ g9 = (m_w r cN cZ cL S)) ∨ (¬ S.2.2 10 = 0 ∧ r9 = .inl (some (.int 1)) ∧ g9 = (m_w r cN cZ cL S)) ∨ (¬ b = 0 ∧ S.2.2 10 = 0 ∧ r9 = .inl (some (.int 1)) ∧ g9 = (m_w r cN cZ cL (m_s S 10 cd))))) 0 0 (y_A (m_w r cN cZ cL S) sz) := by
  refine x_ofW (cc := b_Mo_fails) (maxL := 3) (ret := (some .boolean)) (by decide) rfl ?_
  intro p e s m args below meth c s₁ B hml hno hv
  obtain ⟨rfl, hsz, hP, hE⟩ := hv
  subst hsz
  have hts := hE.hts ([.ref (r 20), .int b, .int cd] : List Value).toArray
  have hK := hE.1.2.1
  have hA0 : ∀ q, s.heap.size ≤ q → y_A (m_w r cN cZ cL S) s.heap.size q := fun q h => Or.inr h
  have hA : ∀ q e, (m_w r cN cZ cL S) q = some e → y_A (m_w r cN cZ cL S) s.heap.size q := fun q e h => Or.inl (by rw [h]; exact fun z => nomatch z)
  have hS : va_S (y_A (m_w r cN cZ cL S) s.heap.size) s.heap s.heap [] := va_S.rf
  generalize hAe : y_A (m_w r cN cZ cL S) s.heap.size = A at hE hA0 hA hS ⊢
  have hx := B.exec
  have hb := B.bytes
  have hr := B.returns
  have hlocks := B.notSynchronized
  have hown : s.vm.findClass R_Mo = some m.cls := findClass_of_methodNamed B.named
  have hl := lv_entry ([.ref (r 20), .int b, .int cd]) (n := 3) (Nat.le_of_ble_eq_true rfl)
  rw [lg_entry_eq]
  generalize (lg_sl ([.ref (r 20), .int b, .int cd]) ++ List.replicate (3 - (lg_sl ([.ref (r 20), .int b, .int cd])).length) Slot.unset).toArray = ls at hl ⊢
  have hl : lv_has ls 3 [(0, .ref (r 20)), (1, .int b), (2, .int cd)] := hl
  refine lv_iload_n hx hb d_Mo_fails_0 rfl (lv_at hl 1 rfl) ?_
  refine lv_if_eq hx hb d_Mo_fails_1 rfl (fun h1 => ?_) (fun h1 => ?_)
  · -- ifeq at 1: to 16
    refine lv_aload_n hx hb d_Mo_fails_16 rfl (lv_at hl 0 rfl) ?_
    refine y_get (D := D) (ci := 5) (v := .int (S.2.2 10)) (C := R_Mo) (T := F_Mo) (N := 20) hx hb hts in_Mo hown hK hP (m_at hri (i := 20) (by decide)) rfl 10 (by decide) (hts (.fieldLink R_Mo 59 "MemoryDeskModel" "err" "I") (by decide +kernel)) (fun _ h9 => h9) rfl d_Mo_fails_17 ?_
    refine lv_if_eq hx hb d_Mo_fails_20 rfl (fun h2 => ?_) (fun h2 => ?_)
    · -- ifeq at 20: to 27
      refine lv_iconst (v := 0) hx hb d_Mo_fails_27 (by decide) ?_
      refine W.widen (k := 0) (n := 0) (by first | decide | omega) (by first | decide | omega) ?_
      exact x_ret (W.zret (v := 0) hx hb hr rfl (w_fin rfl hAe (by first | exact Or.inl ⟨h1, h2, rfl, rfl⟩ | exact Or.inr (Or.inl ⟨h2, rfl, rfl⟩)) hP hA hS) hS.2.2 d_Mo_fails_28)
    · -- ifeq at 20: to 23
      refine lv_iconst (v := 1) hx hb d_Mo_fails_23 (by decide) ?_
      refine lv_goto hx hb d_Mo_fails_24 rfl ?_
      refine W.widen (k := 0) (n := 0) (by first | decide | omega) (by first | decide | omega) ?_
      exact x_ret (W.zret (v := 1) hx hb hr rfl (w_fin rfl hAe (by first | exact Or.inl ⟨h1, h2, rfl, rfl⟩ | exact Or.inr (Or.inl ⟨h2, rfl, rfl⟩)) hP hA hS) hS.2.2 d_Mo_fails_28)
  · -- ifeq at 1: to 4
    refine lv_aload_n hx hb d_Mo_fails_4 rfl (lv_at hl 0 rfl) ?_
    refine y_get (D := D) (ci := 5) (v := .int (S.2.2 10)) (C := R_Mo) (T := F_Mo) (N := 20) hx hb hts in_Mo hown hK hP (m_at hri (i := 20) (by decide)) rfl 10 (by decide) (hts (.fieldLink R_Mo 59 "MemoryDeskModel" "err" "I") (by decide +kernel)) (fun _ h9 => h9) rfl d_Mo_fails_5 ?_
    refine lv_if_ne hx hb d_Mo_fails_8 rfl (fun h3 => ?_) (fun h3 => ?_)
    · -- ifne at 8: to 16
      refine lv_aload_n hx hb d_Mo_fails_16 rfl (lv_at hl 0 rfl) ?_
      refine y_get (D := D) (ci := 5) (v := .int (S.2.2 10)) (C := R_Mo) (T := F_Mo) (N := 20) hx hb hts in_Mo hown hK hP (m_at hri (i := 20) (by decide)) rfl 10 (by decide) (hts (.fieldLink R_Mo 59 "MemoryDeskModel" "err" "I") (by decide +kernel)) (fun _ h9 => h9) rfl d_Mo_fails_17 ?_
      refine lv_if_eq hx hb d_Mo_fails_20 rfl (fun h4 => ?_) (fun h4 => ?_)
      · -- ifeq at 20: to 27
        refine lv_iconst (v := 0) hx hb d_Mo_fails_27 (by decide) ?_
        refine W.widen (k := 0) (n := 0) (by first | decide | omega) (by first | decide | omega) ?_
        exact x_ret (W.zret (v := 0) hx hb hr rfl (w_fin rfl hAe (by first | exact absurd h4 h3 | exact Or.inr (Or.inl ⟨h3, rfl, rfl⟩)) hP hA hS) hS.2.2 d_Mo_fails_28)
      · -- ifeq at 20: to 23
        refine lv_iconst (v := 1) hx hb d_Mo_fails_23 (by decide) ?_
        refine lv_goto hx hb d_Mo_fails_24 rfl ?_
        refine W.widen (k := 0) (n := 0) (by first | decide | omega) (by first | decide | omega) ?_
        exact x_ret (W.zret (v := 1) hx hb hr rfl (w_fin rfl hAe (by first | exact absurd h4 h3 | exact Or.inr (Or.inl ⟨h3, rfl, rfl⟩)) hP hA hS) hS.2.2 d_Mo_fails_28)
    · -- ifne at 8: to 11
      refine lv_aload_n hx hb d_Mo_fails_11 rfl (lv_at hl 0 rfl) ?_
      refine lv_iload_n hx hb d_Mo_fails_12 rfl (lv_at hl 2 rfl) ?_
      refine y_put (D := D) (ci := 5) (v := .int cd) (ty := .int) (C := R_Mo) (T := F_Mo) (N := 20) hx hb hts in_Mo t_Mo t_Mo_ok n_Mo hown hK hP hA hS (m_at hri (i := 20) (by decide)) rfl 10 (by decide) (hts (.fieldLink R_Mo 59 "MemoryDeskModel" "err" "I") (by decide +kernel)) (fun _ h9 => h9) rfl (by decide +kernel) rfl rfl (Nat.le_of_ble_eq_true rfl) d_Mo_fails_13 (fun H locs hP hA hS => ?_)
      have e9 : va_up (m_w r cN cZ cL S) (r 20) (some (.inr (5, [.ref (r 0), .ref (r 1), .ref (r 2), .ref (r 3), .ref (r 4), .ref (r 5), .ref (r 6), .int (S.2.2 7), .int (S.2.2 8), .int (S.2.2 9), .int cd, .ref (r 11), .ref (r 12), .ref (r 13), .int (S.2.2 14), .ref (r 15), .ref (r 16), .ref (r 17), .ref (r 18), .int (S.2.2 19)]))) = (m_w r cN cZ cL (m_s S 10 cd)) := m_ws10 hri S cd
      have hP : y_P D vwCl (m_w r cN cZ cL (m_s S 10 cd)) H := by rw [← e9]; exact hP
      have hA : ∀ q99 e99, (m_w r cN cZ cL (m_s S 10 cd)) q99 = some e99 → A q99 := by rw [← e9]; exact hA
      refine lv_aload_n hx hb d_Mo_fails_16 rfl (lv_at hl 0 rfl) ?_
      refine y_get (D := D) (ci := 5) (v := .int cd) (C := R_Mo) (T := F_Mo) (N := 20) hx hb hts in_Mo hown hK hP (m_at hri (i := 20) (by decide)) rfl 10 (by decide) (hts (.fieldLink R_Mo 59 "MemoryDeskModel" "err" "I") (by decide +kernel)) (fun _ h9 => h9) rfl d_Mo_fails_17 ?_
      refine lv_if_eq hx hb d_Mo_fails_20 rfl (fun h5 => ?_) (fun h5 => ?_)
      · -- ifeq at 20: to 27
        refine lv_iconst (v := 0) hx hb d_Mo_fails_27 (by decide) ?_
        refine W.widen (k := 0) (n := 0) (by first | decide | omega) (by first | decide | omega) ?_
        exact x_ret (W.zret (v := 0) hx hb hr rfl (w_fin rfl hAe (by first | exact absurd h5 hc | exact Or.inr (Or.inr ⟨h1, h3, rfl, rfl⟩)) hP hA hS) hS.2.2 d_Mo_fails_28)
      · -- ifeq at 20: to 23
        refine lv_iconst (v := 1) hx hb d_Mo_fails_23 (by decide) ?_
        refine lv_goto hx hb d_Mo_fails_24 rfl ?_
        refine W.widen (k := 0) (n := 0) (by first | decide | omega) (by first | decide | omega) ?_
        exact x_ret (W.zret (v := 1) hx hb hr rfl (w_fin rfl hAe (by first | exact absurd h5 hc | exact Or.inr (Or.inr ⟨h1, h3, rfl, rfl⟩)) hP hA hS) hS.2.2 d_Mo_fails_28)
theorem b_lt0 {x : Int32} (h : ¬ 0 ≤ x) : x < 0 := Classical.byContradiction (fun z => h (b_nlt0 z))
set_option maxHeartbeats 4000000 in
set_option maxRecDepth 100000 in
/-- many(o) -/
theorem c_Mo_many (l : Launch) (D : va_G) (cK cI cN cZ cL : ClassId) (r : Nat → Nat) (hri : m_inj r) (S : MS) (sz : Nat) (o : Int32) (ho : m_ok S o) : x_M l y_Mo_many [.code y_Mo_many b_Mo_many 2 (some .int)] rmZ (w_Pc D (x_tys cK cI cN cZ cL) [.ref (r 20), .int o] (m_w r cN cZ cL S) sz) (w_Qc D (m_w r cN cZ cL S) sz (fun r9 g9 => r9 = .inl (some (.int (m_many S o))) ∧ g9 = (m_w r cN cZ cL S))) 0 0 (y_A (m_w r cN cZ cL S) sz) := by
  refine x_ofW (cc := b_Mo_many) (maxL := 2) (ret := (some .int)) (by decide) rfl ?_
  intro p e s m args below meth c s₁ B hml hno hv
  obtain ⟨rfl, hsz, hP, hE⟩ := hv
  subst hsz
  have hts := hE.hts ([.ref (r 20), .int o] : List Value).toArray
  have hK := hE.1.2.1
  have hA0 : ∀ q, s.heap.size ≤ q → y_A (m_w r cN cZ cL S) s.heap.size q := fun q h => Or.inr h
  have hA : ∀ q e, (m_w r cN cZ cL S) q = some e → y_A (m_w r cN cZ cL S) s.heap.size q := fun q e h => Or.inl (by rw [h]; exact fun z => nomatch z)
  have hS : va_S (y_A (m_w r cN cZ cL S) s.heap.size) s.heap s.heap [] := va_S.rf
  generalize hAe : y_A (m_w r cN cZ cL S) s.heap.size = A at hE hA0 hA hS ⊢
  have hx := B.exec
  have hb := B.bytes
  have hr := B.returns
  have hlocks := B.notSynchronized
  have hown : s.vm.findClass R_Mo = some m.cls := findClass_of_methodNamed B.named
  have hl := lv_entry ([.ref (r 20), .int o]) (n := 2) (Nat.le_of_ble_eq_true rfl)
  rw [lg_entry_eq]
  generalize (lg_sl ([.ref (r 20), .int o]) ++ List.replicate (2 - (lg_sl ([.ref (r 20), .int o])).length) Slot.unset).toArray = ls at hl ⊢
  have hl : lv_has ls 2 [(0, .ref (r 20)), (1, .int o)] := hl
  refine lv_aload_n hx hb d_Mo_many_0 rfl (lv_at hl 0 rfl) ?_
  refine y_get (D := D) (ci := 5) (v := .ref (r 2)) (C := R_Mo) (T := F_Mo) (N := 20) hx hb hts in_Mo hown hK hP (m_at hri (i := 20) (by decide)) rfl 2 (by decide) (hts (.fieldLink R_Mo 16 "MemoryDeskModel" "kindRow" "[I") (by decide +kernel)) (fun _ h9 => h9) rfl d_Mo_many_1 ?_
  refine lv_aload_n hx hb d_Mo_many_4 rfl (lv_at hl 0 rfl) ?_
  refine y_get (D := D) (ci := 5) (v := .ref (r 4)) (C := R_Mo) (T := F_Mo) (N := 20) hx hb hts in_Mo hown hK hP (m_at hri (i := 20) (by decide)) rfl 4 (by decide) (hts (.fieldLink R_Mo 23 "MemoryDeskModel" "objectKind" "[I") (by decide +kernel)) (fun _ h9 => h9) rfl d_Mo_many_5 ?_
  refine lv_iload_n hx hb d_Mo_many_8 rfl (lv_at hl 1 rfl) ?_
  refine y_iald (f := (S.1 4)) hx hb hK hP 2 (m_at hri (i := 4) (by decide)) rfl ho.1 d_Mo_many_9 ?_
  refine y_iald (f := (S.1 2)) hx hb hK hP 2 (m_at hri (i := 2) (by decide)) rfl ho.2 d_Mo_many_10 ?_
  refine lv_if_ge hx hb d_Mo_many_11 rfl (fun h1 => ?_) (fun h1 => ?_)
  · -- ifge at 11: to 28
    refine lv_aload_n hx hb d_Mo_many_28 rfl (lv_at hl 0 rfl) ?_
    refine y_get (D := D) (ci := 5) (v := .ref (r 5)) (C := R_Mo) (T := F_Mo) (N := 20) hx hb hts in_Mo hown hK hP (m_at hri (i := 20) (by decide)) rfl 5 (by decide) (hts (.fieldLink R_Mo 26 "MemoryDeskModel" "objectSize" "[I") (by decide +kernel)) (fun _ h9 => h9) rfl d_Mo_many_29 ?_
    refine lv_iload_n hx hb d_Mo_many_32 rfl (lv_at hl 1 rfl) ?_
    refine y_iald (f := (S.1 5)) hx hb hK hP 2 (m_at hri (i := 5) (by decide)) rfl ho.1 d_Mo_many_33 ?_
    refine W.widen (k := 0) (n := 0) (by first | decide | omega) (by first | decide | omega) ?_
    exact x_ret (W.iret (v := (S.1 5 o.toNatClampNeg)) hx hb hr (w_fin rfl hAe ⟨by rw [show m_many S o = S.1 5 o.toNatClampNeg from if_neg (m_nlt h1)], rfl⟩ hP hA hS) hS.2.2 d_Mo_many_34)
  · -- ifge at 11: to 14
    refine lv_aload_n hx hb d_Mo_many_14 rfl (lv_at hl 0 rfl) ?_
    refine y_get (D := D) (ci := 5) (v := .ref (r 0)) (C := R_Mo) (T := F_Mo) (N := 20) hx hb hts in_Mo hown hK hP (m_at hri (i := 20) (by decide)) rfl 0 (by decide) (hts (.fieldLink R_Mo 7 "MemoryDeskModel" "kindWords" "[I") (by decide +kernel)) (fun _ h9 => h9) rfl d_Mo_many_15 ?_
    refine lv_aload_n hx hb d_Mo_many_18 rfl (lv_at hl 0 rfl) ?_
    refine y_get (D := D) (ci := 5) (v := .ref (r 4)) (C := R_Mo) (T := F_Mo) (N := 20) hx hb hts in_Mo hown hK hP (m_at hri (i := 20) (by decide)) rfl 4 (by decide) (hts (.fieldLink R_Mo 23 "MemoryDeskModel" "objectKind" "[I") (by decide +kernel)) (fun _ h9 => h9) rfl d_Mo_many_19 ?_
    refine lv_iload_n hx hb d_Mo_many_22 rfl (lv_at hl 1 rfl) ?_
    refine y_iald (f := (S.1 4)) hx hb hK hP 2 (m_at hri (i := 4) (by decide)) rfl ho.1 d_Mo_many_23 ?_
    refine y_iald (f := (S.1 0)) hx hb hK hP 2 (m_at hri (i := 0) (by decide)) rfl ho.2 d_Mo_many_24 ?_
    refine lv_goto hx hb d_Mo_many_25 rfl ?_
    refine W.widen (k := 0) (n := 0) (by first | decide | omega) (by first | decide | omega) ?_
    exact x_ret (W.iret (v := (S.1 0 (S.1 4 o.toNatClampNeg).toNatClampNeg)) hx hb hr (w_fin rfl hAe ⟨by rw [show m_many S o = S.1 0 (S.1 4 o.toNatClampNeg).toNatClampNeg from if_pos (b_lt0 h1)], rfl⟩ hP hA hS) hS.2.2 d_Mo_many_34)
set_option maxHeartbeats 4000000 in
set_option maxRecDepth 100000 in
/-- isReference(o, k) -/
theorem c_Mo_isReference (l : Launch) (D : va_G) (cK cI cN cZ cL : ClassId) (r : Nat → Nat) (hri : m_inj r) (S : MS) (sz : Nat) (o k : Int32) (ho : m_ok S o) : x_M l y_Mo_isReference [.code y_Mo_isReference b_Mo_isReference 3 (some .boolean)] rmZ (w_Pc D (x_tys cK cI cN cZ cL) [.ref (r 20), .int o, .int k] (m_w r cN cZ cL S) sz) (w_Qc D (m_w r cN cZ cL S) sz (fun r9 g9 => r9 = .inl (some (.int (m_isr S o k))) ∧ g9 = (m_w r cN cZ cL S))) 0 0 (y_A (m_w r cN cZ cL S) sz) := by
  refine x_ofW (cc := b_Mo_isReference) (maxL := 3) (ret := (some .boolean)) (by decide) rfl ?_
  intro p e s m args below meth c s₁ B hml hno hv
  obtain ⟨rfl, hsz, hP, hE⟩ := hv
  subst hsz
  have hts := hE.hts ([.ref (r 20), .int o, .int k] : List Value).toArray
  have hK := hE.1.2.1
  have hA0 : ∀ q, s.heap.size ≤ q → y_A (m_w r cN cZ cL S) s.heap.size q := fun q h => Or.inr h
  have hA : ∀ q e, (m_w r cN cZ cL S) q = some e → y_A (m_w r cN cZ cL S) s.heap.size q := fun q e h => Or.inl (by rw [h]; exact fun z => nomatch z)
  have hS : va_S (y_A (m_w r cN cZ cL S) s.heap.size) s.heap s.heap [] := va_S.rf
  generalize hAe : y_A (m_w r cN cZ cL S) s.heap.size = A at hE hA0 hA hS ⊢
  have hx := B.exec
  have hb := B.bytes
  have hr := B.returns
  have hlocks := B.notSynchronized
  have hown : s.vm.findClass R_Mo = some m.cls := findClass_of_methodNamed B.named
  have hl := lv_entry ([.ref (r 20), .int o, .int k]) (n := 3) (Nat.le_of_ble_eq_true rfl)
  rw [lg_entry_eq]
  generalize (lg_sl ([.ref (r 20), .int o, .int k]) ++ List.replicate (3 - (lg_sl ([.ref (r 20), .int o, .int k])).length) Slot.unset).toArray = ls at hl ⊢
  have hl : lv_has ls 3 [(0, .ref (r 20)), (1, .int o), (2, .int k)] := hl
  refine lv_aload_n hx hb d_Mo_isReference_0 rfl (lv_at hl 0 rfl) ?_
  refine y_get (D := D) (ci := 5) (v := .ref (r 2)) (C := R_Mo) (T := F_Mo) (N := 20) hx hb hts in_Mo hown hK hP (m_at hri (i := 20) (by decide)) rfl 2 (by decide) (hts (.fieldLink R_Mo 16 "MemoryDeskModel" "kindRow" "[I") (by decide +kernel)) (fun _ h9 => h9) rfl d_Mo_isReference_1 ?_
  refine lv_aload_n hx hb d_Mo_isReference_4 rfl (lv_at hl 0 rfl) ?_
  refine y_get (D := D) (ci := 5) (v := .ref (r 4)) (C := R_Mo) (T := F_Mo) (N := 20) hx hb hts in_Mo hown hK hP (m_at hri (i := 20) (by decide)) rfl 4 (by decide) (hts (.fieldLink R_Mo 23 "MemoryDeskModel" "objectKind" "[I") (by decide +kernel)) (fun _ h9 => h9) rfl d_Mo_isReference_5 ?_
  refine lv_iload_n hx hb d_Mo_isReference_8 rfl (lv_at hl 1 rfl) ?_
  refine y_iald (f := (S.1 4)) hx hb hK hP 2 (m_at hri (i := 4) (by decide)) rfl ho.1 d_Mo_isReference_9 ?_
  refine y_iald (f := (S.1 2)) hx hb hK hP 2 (m_at hri (i := 2) (by decide)) rfl ho.2 d_Mo_isReference_10 ?_
  refine lv_if_ge hx hb d_Mo_isReference_11 rfl (fun h1 => ?_) (fun h1 => ?_)
  · -- ifge at 11: to 41
    refine lv_aload_n hx hb d_Mo_isReference_41 rfl (lv_at hl 0 rfl) ?_
    refine y_get (D := D) (ci := 5) (v := .ref (r 2)) (C := R_Mo) (T := F_Mo) (N := 20) hx hb hts in_Mo hown hK hP (m_at hri (i := 20) (by decide)) rfl 2 (by decide) (hts (.fieldLink R_Mo 16 "MemoryDeskModel" "kindRow" "[I") (by decide +kernel)) (fun _ h9 => h9) rfl d_Mo_isReference_42 ?_
    refine lv_aload_n hx hb d_Mo_isReference_45 rfl (lv_at hl 0 rfl) ?_
    refine y_get (D := D) (ci := 5) (v := .ref (r 4)) (C := R_Mo) (T := F_Mo) (N := 20) hx hb hts in_Mo hown hK hP (m_at hri (i := 20) (by decide)) rfl 4 (by decide) (hts (.fieldLink R_Mo 23 "MemoryDeskModel" "objectKind" "[I") (by decide +kernel)) (fun _ h9 => h9) rfl d_Mo_isReference_46 ?_
    refine lv_iload_n hx hb d_Mo_isReference_49 rfl (lv_at hl 1 rfl) ?_
    refine y_iald (f := (S.1 4)) hx hb hK hP 2 (m_at hri (i := 4) (by decide)) rfl ho.1 d_Mo_isReference_50 ?_
    refine y_iald (f := (S.1 2)) hx hb hK hP 2 (m_at hri (i := 2) (by decide)) rfl ho.2 d_Mo_isReference_51 ?_
    refine lv_if_ne hx hb d_Mo_isReference_52 rfl (fun h2 => ?_) (fun h2 => ?_)
    · -- ifne at 52: to 59
      refine lv_iconst (v := 0) hx hb d_Mo_isReference_59 (by decide) ?_
      refine W.widen (k := 0) (n := 0) (by first | decide | omega) (by first | decide | omega) ?_
      exact x_ret (W.zret (v := 0) hx hb hr rfl (w_fin rfl hAe ⟨by rw [show m_isr S o k = 0 from c_bit.n (by rw [if_neg (show ¬ m_row S o < 0 from m_nlt h1)]; exact h2)], rfl⟩ hP hA hS) hS.2.2 d_Mo_isReference_60)
    · -- ifne at 52: to 55
      refine lv_iconst (v := 1) hx hb d_Mo_isReference_55 (by decide) ?_
      refine lv_goto hx hb d_Mo_isReference_56 rfl ?_
      refine W.widen (k := 0) (n := 0) (by first | decide | omega) (by first | decide | omega) ?_
      exact x_ret (W.zret (v := 1) hx hb hr rfl (w_fin rfl hAe ⟨by rw [show m_isr S o k = 1 from c_bit.y (by rw [if_neg (show ¬ m_row S o < 0 from m_nlt h1)]; exact h2)], rfl⟩ hP hA hS) hS.2.2 d_Mo_isReference_60)
  · -- ifge at 11: to 14
    refine lv_aload_n hx hb d_Mo_isReference_14 rfl (lv_at hl 0 rfl) ?_
    refine y_get (D := D) (ci := 5) (v := .ref (r 1)) (C := R_Mo) (T := F_Mo) (N := 20) hx hb hts in_Mo hown hK hP (m_at hri (i := 20) (by decide)) rfl 1 (by decide) (hts (.fieldLink R_Mo 13 "MemoryDeskModel" "kindMask" "[I") (by decide +kernel)) (fun _ h9 => h9) rfl d_Mo_isReference_15 ?_
    refine lv_aload_n hx hb d_Mo_isReference_18 rfl (lv_at hl 0 rfl) ?_
    refine y_get (D := D) (ci := 5) (v := .ref (r 4)) (C := R_Mo) (T := F_Mo) (N := 20) hx hb hts in_Mo hown hK hP (m_at hri (i := 20) (by decide)) rfl 4 (by decide) (hts (.fieldLink R_Mo 23 "MemoryDeskModel" "objectKind" "[I") (by decide +kernel)) (fun _ h9 => h9) rfl d_Mo_isReference_19 ?_
    refine lv_iload_n hx hb d_Mo_isReference_22 rfl (lv_at hl 1 rfl) ?_
    refine y_iald (f := (S.1 4)) hx hb hK hP 2 (m_at hri (i := 4) (by decide)) rfl ho.1 d_Mo_isReference_23 ?_
    refine y_iald (f := (S.1 1)) hx hb hK hP 2 (m_at hri (i := 1) (by decide)) rfl ho.2 d_Mo_isReference_24 ?_
    refine lv_iload_n hx hb d_Mo_isReference_25 rfl (lv_at hl 2 rfl) ?_
    refine lv_ishr hx hb d_Mo_isReference_26 ?_
    refine lv_iconst (v := 1) hx hb d_Mo_isReference_27 (by decide) ?_
    refine lv_iand hx hb d_Mo_isReference_28 ?_
    refine lv_iconst (v := 1) hx hb d_Mo_isReference_29 (by decide) ?_
    refine lv_icmp_ne hx hb d_Mo_isReference_30 rfl (fun h3 => ?_) (fun h3 => ?_)
    · -- if_icmpne at 30: to 37
      refine lv_iconst (v := 0) hx hb d_Mo_isReference_37 (by decide) ?_
      refine lv_goto hx hb d_Mo_isReference_38 rfl ?_
      refine W.widen (k := 0) (n := 0) (by first | decide | omega) (by first | decide | omega) ?_
      exact x_ret (W.zret (v := 0) hx hb hr rfl (w_fin rfl hAe ⟨by rw [show m_isr S o k = 0 from c_bit.n (by rw [if_pos (show m_row S o < 0 from b_lt0 h1)]; exact h3)], rfl⟩ hP hA hS) hS.2.2 d_Mo_isReference_60)
    · -- if_icmpne at 30: to 33
      refine lv_iconst (v := 1) hx hb d_Mo_isReference_33 (by decide) ?_
      refine lv_goto hx hb d_Mo_isReference_34 rfl ?_
      refine W.widen (k := 0) (n := 0) (by first | decide | omega) (by first | decide | omega) ?_
      exact x_ret (W.zret (v := 1) hx hb hr rfl (w_fin rfl hAe ⟨by rw [show m_isr S o k = 1 from c_bit.y (by rw [if_pos (show m_row S o < 0 from b_lt0 h1)]; exact h3)], rfl⟩ hP hA hS) hS.2.2 d_Mo_isReference_60)
set_option maxHeartbeats 4000000 in
set_option maxRecDepth 100000 in
/-- takes(row, n) -/
theorem c_Mo_takes (l : Launch) (D : va_G) (cK cI cN cZ cL : ClassId) (r : Nat → Nat) (hri : m_inj r) (S : MS) (sz : Nat) (row : Int32) (n : Int64) : x_M l y_Mo_takes [.code y_Mo_takes b_Mo_takes 3 (some .long)] rmZ (w_Pc D (x_tys cK cI cN cZ cL) [.int row, .long n] (m_w r cN cZ cL S) sz) (w_Qc D (m_w r cN cZ cL S) sz (fun r9 g9 => r9 = .inl (some (.long (m_tk row n))) ∧ g9 = (m_w r cN cZ cL S))) 0 0 (y_A (m_w r cN cZ cL S) sz) := by
  refine x_ofW (cc := b_Mo_takes) (maxL := 3) (ret := (some .long)) (by decide) rfl ?_
  intro p e s m args below meth c s₁ B hml hno hv
  obtain ⟨rfl, hsz, hP, hE⟩ := hv
  subst hsz
  have hts := hE.hts ([.int row, .long n] : List Value).toArray
  have hK := hE.1.2.1
  have hA0 : ∀ q, s.heap.size ≤ q → y_A (m_w r cN cZ cL S) s.heap.size q := fun q h => Or.inr h
  have hA : ∀ q e, (m_w r cN cZ cL S) q = some e → y_A (m_w r cN cZ cL S) s.heap.size q := fun q e h => Or.inl (by rw [h]; exact fun z => nomatch z)
  have hS : va_S (y_A (m_w r cN cZ cL S) s.heap.size) s.heap s.heap [] := va_S.rf
  generalize hAe : y_A (m_w r cN cZ cL S) s.heap.size = A at hE hA0 hA hS ⊢
  have hx := B.exec
  have hb := B.bytes
  have hr := B.returns
  have hlocks := B.notSynchronized
  have hown : s.vm.findClass R_Mo = some m.cls := findClass_of_methodNamed B.named
  have hl := lv_entry ([.int row, .long n]) (n := 3) (Nat.le_of_ble_eq_true rfl)
  rw [lg_entry_eq]
  generalize (lg_sl ([.int row, .long n]) ++ List.replicate (3 - (lg_sl ([.int row, .long n])).length) Slot.unset).toArray = ls at hl ⊢
  have hl : lv_has ls 3 [(0, .int row), (1, .long n)] := hl
  refine lv_iload_n hx hb d_Mo_takes_0 rfl (lv_at hl 0 rfl) ?_
  refine lv_if_ge hx hb d_Mo_takes_1 rfl (fun h1 => ?_) (fun h1 => ?_)
  · -- ifge at 1: to 10
    refine lv_ldc2 (own := R_Mo) (index := 64) (v := 4) hx hb hown (hts (.constantLong R_Mo 64 4) (by decide +kernel)) d_Mo_takes_10 ?_
    refine lv_iload_n hx hb d_Mo_takes_13 rfl (lv_at hl 0 rfl) ?_
    refine lv_iconst (v := 4) hx hb d_Mo_takes_14 (by decide) ?_
    refine lv_icmp_ne hx hb d_Mo_takes_15 rfl (fun h2 => ?_) (fun h2 => ?_)
    · -- if_icmpne at 15: to 26
      refine lv_iload_n hx hb d_Mo_takes_26 rfl (lv_at hl 0 rfl) ?_
      refine lv_iconst (v := 2) hx hb d_Mo_takes_27 (by decide) ?_
      refine lv_icmp_ne hx hb d_Mo_takes_28 rfl (fun h3 => ?_) (fun h3 => ?_)
      · -- if_icmpne at 28: to 41
        refine lv_iload_n hx hb d_Mo_takes_41 rfl (lv_at hl 0 rfl) ?_
        refine lv_iconst (v := 1) hx hb d_Mo_takes_42 (by decide) ?_
        refine lv_icmp_ne hx hb d_Mo_takes_43 rfl (fun h4 => ?_) (fun h4 => ?_)
        · -- if_icmpne at 43: to 58
          refine lv_lload_n hx hb d_Mo_takes_58 rfl (lv_at hl 1 rfl) ?_
          refine lv_ladd hx hb d_Mo_takes_59 ?_
          refine W.widen (k := 0) (n := 0) (by first | decide | omega) (by first | decide | omega) ?_
          exact x_ret (W.lret (v := (4 + n)) hx hb hr (w_fin rfl hAe ⟨by rw [show m_tk row n = (4 + n) from (if_neg (m_nlt h1)).trans (congrArg (fun z => 4 + z) ((if_neg h2).trans ((if_neg h3).trans (if_neg h4))))], rfl⟩ hP hA hS) hS.2.2 d_Mo_takes_60)
        · -- if_icmpne at 43: to 46
          refine lv_lload_n hx hb d_Mo_takes_46 rfl (lv_at hl 1 rfl) ?_
          refine lv_ldc2 (own := R_Mo) (index := 62) (v := 3) hx hb hown (hts (.constantLong R_Mo 62 3) (by decide +kernel)) d_Mo_takes_47 ?_
          refine lv_ladd hx hb d_Mo_takes_50 ?_
          refine lv_ldc2 (own := R_Mo) (index := 64) (v := 4) hx hb hown (hts (.constantLong R_Mo 64 4) (by decide +kernel)) d_Mo_takes_51 ?_
          refine lv_ldiv hx hb d_Mo_takes_54 (by decide) ?_
          refine lv_goto hx hb d_Mo_takes_55 rfl ?_
          refine lv_ladd hx hb d_Mo_takes_59 ?_
          refine W.widen (k := 0) (n := 0) (by first | decide | omega) (by first | decide | omega) ?_
          exact x_ret (W.lret (v := (4 + (n + 3) / 4)) hx hb hr (w_fin rfl hAe ⟨by rw [show m_tk row n = (4 + (n + 3) / 4) from (if_neg (m_nlt h1)).trans (congrArg (fun z => 4 + z) ((if_neg h2).trans ((if_neg h3).trans (if_pos h4))))], rfl⟩ hP hA hS) hS.2.2 d_Mo_takes_60)
      · -- if_icmpne at 28: to 31
        refine lv_lload_n hx hb d_Mo_takes_31 rfl (lv_at hl 1 rfl) ?_
        refine lv_lconst (v := 1) hx hb d_Mo_takes_32 (by decide) ?_
        refine lv_ladd hx hb d_Mo_takes_33 ?_
        refine lv_ldc2 (own := R_Mo) (index := 66) (v := 2) hx hb hown (hts (.constantLong R_Mo 66 2) (by decide +kernel)) d_Mo_takes_34 ?_
        refine lv_ldiv hx hb d_Mo_takes_37 (by decide) ?_
        refine lv_goto hx hb d_Mo_takes_38 rfl ?_
        refine lv_ladd hx hb d_Mo_takes_59 ?_
        refine W.widen (k := 0) (n := 0) (by first | decide | omega) (by first | decide | omega) ?_
        exact x_ret (W.lret (v := (4 + (n + 1) / 2)) hx hb hr (w_fin rfl hAe ⟨by rw [show m_tk row n = (4 + (n + 1) / 2) from (if_neg (m_nlt h1)).trans (congrArg (fun z => 4 + z) ((if_neg h2).trans (if_pos h3)))], rfl⟩ hP hA hS) hS.2.2 d_Mo_takes_60)
    · -- if_icmpne at 15: to 18
      refine lv_ldc2 (own := R_Mo) (index := 66) (v := 2) hx hb hown (hts (.constantLong R_Mo 66 2) (by decide +kernel)) d_Mo_takes_18 ?_
      refine lv_lload_n hx hb d_Mo_takes_21 rfl (lv_at hl 1 rfl) ?_
      refine lv_lmul hx hb d_Mo_takes_22 ?_
      refine lv_goto hx hb d_Mo_takes_23 rfl ?_
      refine lv_ladd hx hb d_Mo_takes_59 ?_
      refine W.widen (k := 0) (n := 0) (by first | decide | omega) (by first | decide | omega) ?_
      exact x_ret (W.lret (v := (4 + 2 * n)) hx hb hr (w_fin rfl hAe ⟨by rw [show m_tk row n = (4 + 2 * n) from (if_neg (m_nlt h1)).trans (congrArg (fun z => 4 + z) (if_pos h2))], rfl⟩ hP hA hS) hS.2.2 d_Mo_takes_60)
  · -- ifge at 1: to 4
    refine lv_ldc2 (own := R_Mo) (index := 62) (v := 3) hx hb hown (hts (.constantLong R_Mo 62 3) (by decide +kernel)) d_Mo_takes_4 ?_
    refine lv_lload_n hx hb d_Mo_takes_7 rfl (lv_at hl 1 rfl) ?_
    refine lv_ladd hx hb d_Mo_takes_8 ?_
    refine W.widen (k := 0) (n := 0) (by first | decide | omega) (by first | decide | omega) ?_
    exact x_ret (W.lret (v := (3 + n)) hx hb hr (w_fin rfl hAe ⟨by rw [show m_tk row n = (3 + n) from if_pos (b_lt0 h1)], rfl⟩ hP hA hS) hS.2.2 d_Mo_takes_9)
theorem sub_neg9 {x : Int32} : x - 1 = x + -1 := by rw [Int32.sub_eq_add_neg]
set_option maxHeartbeats 4000000 in
set_option maxRecDepth 100000 in
/-- latest(o, k) -/
theorem c_Mo_latest (l : Launch) (D : va_G) (cK cI cN cZ cL : ClassId) (r : Nat → Nat) (hri : m_inj r) (S : MS) (sz : Nat) (o k : Int32) (en : Nat) (hen : S.2.2 14 = nI en) (he5 : en ≤ 514) : x_M l y_Mo_latest [.code y_Mo_latest b_Mo_latest 4 (some .long)] rmZ (w_Pc D (x_tys cK cI cN cZ cL) [.ref (r 20), .int o, .int k] (m_w r cN cZ cL S) sz) (w_Qc D (m_w r cN cZ cL S) sz (fun r9 g9 => r9 = .inl (some (.long (m_lat S o k en))) ∧ g9 = (m_w r cN cZ cL S))) 0 0 (y_A (m_w r cN cZ cL S) sz) := by
  refine x_ofW (cc := b_Mo_latest) (maxL := 4) (ret := (some .long)) (by decide) rfl ?_
  intro p e s m args below meth c s₁ B hml hno hv
  obtain ⟨rfl, hsz, hP, hE⟩ := hv
  subst hsz
  have hts := hE.hts ([.ref (r 20), .int o, .int k] : List Value).toArray
  have hK := hE.1.2.1
  have hA0 : ∀ q, s.heap.size ≤ q → y_A (m_w r cN cZ cL S) s.heap.size q := fun q h => Or.inr h
  have hA : ∀ q e, (m_w r cN cZ cL S) q = some e → y_A (m_w r cN cZ cL S) s.heap.size q := fun q e h => Or.inl (by rw [h]; exact fun z => nomatch z)
  have hS : va_S (y_A (m_w r cN cZ cL S) s.heap.size) s.heap s.heap [] := va_S.rf
  generalize hAe : y_A (m_w r cN cZ cL S) s.heap.size = A at hE hA0 hA hS ⊢
  have hx := B.exec
  have hb := B.bytes
  have hr := B.returns
  have hlocks := B.notSynchronized
  have hown : s.vm.findClass R_Mo = some m.cls := findClass_of_methodNamed B.named
  have hl := lv_entry ([.ref (r 20), .int o, .int k]) (n := 4) (Nat.le_of_ble_eq_true rfl)
  rw [lg_entry_eq]
  generalize (lg_sl ([.ref (r 20), .int o, .int k]) ++ List.replicate (4 - (lg_sl ([.ref (r 20), .int o, .int k])).length) Slot.unset).toArray = ls at hl ⊢
  have hl : lv_has ls 4 [(0, .ref (r 20)), (1, .int o), (2, .int k)] := hl
  generalize hQ : x_Q below (w_Qc D (m_w r cN cZ cL S) s.heap.size (fun r9 g9 => r9 = .inl (some (.long (m_lat S o k en))) ∧ g9 = (m_w r cN cZ cL S))) ([.ref (r 20), .int o, .int k] : List Value).toArray s 0 0 A = QQ
  have loop : ∀ (n : Nat) (ls : Array Slot), n ≤ en → lv_has ls 4 [(3, .int (nI n - 1)), (2, .int k), (1, .int o), (0, .ref (r 20))] → m_lat S o k en = m_lat S o k n → W p l e rmZ s m ([.ref (r 20), .int o, .int k] : List Value).toArray below meth c s.heap [] 0 0 QQ (F0 m 7 ls []) := by
    intro n
    induction n with
    | zero =>
      intro ls _ hl hf
      refine lv_iload_n hx hb d_Mo_latest_7 rfl (lv_at hl 0 rfl) ?_
      refine lv_if_lt hx hb d_Mo_latest_8 rfl (fun h1 => ?_) (fun h1 => (absurd (by decide +kernel) h1))
      refine lv_lconst (v := 0) hx hb d_Mo_latest_44 (by decide) ?_
      rw [← hQ]
      refine W.widen (k := 0) (n := 0) (by first | decide | omega) (by first | decide | omega) ?_
      exact x_ret (W.lret (v := 0) hx hb hr (w_fin rfl hAe ⟨by rw [hf]; rfl, rfl⟩ hP hA hS) hS.2.2 d_Mo_latest_45)
    | succ n ih =>
      intro ls hn9 hl hf
      rw [nI_pred] at hl
      refine lv_iload_n hx hb d_Mo_latest_7 rfl (lv_at hl 0 rfl) ?_
      have hin9 : vp_in (nI n) 514 := vp_in_nI (by omega) (by decide)
      have hcl : (nI n).toNatClampNeg = n := nI_clamp (by omega)
      refine lv_if_lt hx hb d_Mo_latest_8 rfl (fun h2 => (absurd h2 (nI_pos (by omega)))) (fun h2 => ?_)
      refine lv_aload_n hx hb d_Mo_latest_11 rfl (lv_at hl 3 rfl) ?_
      refine y_get (D := D) (ci := 5) (v := .ref (r 11)) (C := R_Mo) (T := F_Mo) (N := 20) hx hb hts in_Mo hown hK hP (m_at hri (i := 20) (by decide)) rfl 11 (by decide) (hts (.fieldLink R_Mo 37 "MemoryDeskModel" "into" "[I") (by decide +kernel)) (fun _ h9 => h9) rfl d_Mo_latest_12 ?_
      refine lv_iload_n hx hb d_Mo_latest_15 rfl (lv_at hl 0 rfl) ?_
      refine y_iald (f := (S.1 11)) hx hb hK hP 2 (m_at hri (i := 11) (by decide)) rfl hin9 d_Mo_latest_16 ?_
      refine lv_iload_n hx hb d_Mo_latest_17 rfl (lv_at hl 2 rfl) ?_
      refine lv_icmp_ne hx hb d_Mo_latest_18 rfl (fun h3 => ?_) (fun h3 => ?_)
      · -- if_icmpne at 18: to 38
        refine lv_iinc (k := 0) (v := ((nI n) + (-1))) hx hb d_Mo_latest_38 hl rfl rfl (by decide) rfl (fun ls hl => ?_)
        have hl : lv_has ls 4 [(3, .int ((nI n) + (-1))), (2, .int k), (1, .int o), (0, .ref (r 20))] := hl
        refine lv_goto hx hb d_Mo_latest_41 rfl ?_
        refine ih ls (by omega) (by rw [sub_neg9]; exact hl) (hf.trans (if_neg ?_))
        intro z
        exact h3 (by rw [hcl]; exact z.1)
      · -- if_icmpne at 18: to 21
        refine lv_aload_n hx hb d_Mo_latest_21 rfl (lv_at hl 3 rfl) ?_
        refine y_get (D := D) (ci := 5) (v := .ref (r 12)) (C := R_Mo) (T := F_Mo) (N := 20) hx hb hts in_Mo hown hK hP (m_at hri (i := 20) (by decide)) rfl 12 (by decide) (hts (.fieldLink R_Mo 40 "MemoryDeskModel" "where" "[I") (by decide +kernel)) (fun _ h9 => h9) rfl d_Mo_latest_22 ?_
        refine lv_iload_n hx hb d_Mo_latest_25 rfl (lv_at hl 0 rfl) ?_
        refine y_iald (f := (S.1 12)) hx hb hK hP 2 (m_at hri (i := 12) (by decide)) rfl hin9 d_Mo_latest_26 ?_
        refine lv_iload_n hx hb d_Mo_latest_27 rfl (lv_at hl 1 rfl) ?_
        refine lv_icmp_ne hx hb d_Mo_latest_28 rfl (fun h4 => ?_) (fun h4 => ?_)
        · -- if_icmpne at 28: to 38
          refine lv_iinc (k := 0) (v := ((nI n) + (-1))) hx hb d_Mo_latest_38 hl rfl rfl (by decide) rfl (fun ls hl => ?_)
          have hl : lv_has ls 4 [(3, .int ((nI n) + (-1))), (2, .int k), (1, .int o), (0, .ref (r 20))] := hl
          refine lv_goto hx hb d_Mo_latest_41 rfl ?_
          refine ih ls (by omega) (by rw [sub_neg9]; exact hl) (hf.trans (if_neg ?_))
          intro z
          exact h4 (by rw [hcl]; exact z.2)
        · -- if_icmpne at 28: to 31
          refine lv_aload_n hx hb d_Mo_latest_31 rfl (lv_at hl 3 rfl) ?_
          refine y_get (D := D) (ci := 5) (v := .ref (r 13)) (C := R_Mo) (T := F_Mo) (N := 20) hx hb hts in_Mo hown hK hP (m_at hri (i := 20) (by decide)) rfl 13 (by decide) (hts (.fieldLink R_Mo 43 "MemoryDeskModel" "value" "[J") (by decide +kernel)) (fun _ h9 => h9) rfl d_Mo_latest_32 ?_
          refine lv_iload_n hx hb d_Mo_latest_35 rfl (lv_at hl 0 rfl) ?_
          refine y_lald (f := S.2.1) hx hb hK hP 4 (m_at hri (i := 13) (by decide)) rfl hin9 d_Mo_latest_36 ?_
          rw [← hQ]
          refine W.widen (k := 0) (n := 0) (by first | decide | omega) (by first | decide | omega) ?_
          exact x_ret (W.lret (v := (S.2.1 (nI n).toNatClampNeg)) hx hb hr (w_fin rfl hAe ⟨by rw [hf, show m_lat S o k (n + 1) = S.2.1 n from if_pos ⟨by rw [← hcl]; exact h3, by rw [← hcl]; exact h4⟩, hcl], rfl⟩ hP hA hS) hS.2.2 d_Mo_latest_37)
  refine lv_aload_n hx hb d_Mo_latest_0 rfl (lv_at hl 0 rfl) ?_
  refine y_get (D := D) (ci := 5) (v := .int (S.2.2 14)) (C := R_Mo) (T := F_Mo) (N := 20) hx hb hts in_Mo hown hK hP (m_at hri (i := 20) (by decide)) rfl 14 (by decide) (hts (.fieldLink R_Mo 68 "MemoryDeskModel" "entries" "I") (by decide +kernel)) (fun _ h9 => h9) rfl d_Mo_latest_1 ?_
  rw [hen]
  refine lv_iconst (v := 1) hx hb d_Mo_latest_4 (by decide) ?_
  refine lv_isub hx hb d_Mo_latest_5 ?_
  refine lv_istore_n hx hb d_Mo_latest_6 rfl hl (by decide) rfl (fun ls hl => ?_)
  have hl : lv_has ls 4 [(3, .int ((nI en) - 1)), (0, .ref (r 20)), (1, .int o), (2, .int k)] := hl
  have hl : lv_has ls 4 [(3, .int ((nI en) - 1)), (2, .int k), (1, .int o), (0, .ref (r 20))] := lv_sub hl [0, 3, 2, 1] rfl
  exact loop en ls (Nat.le_refl _) hl rfl
set_option maxHeartbeats 4000000 in
set_option maxRecDepth 100000 in
/-- enter(o, k, v) -/
theorem c_Mo_enter (l : Launch) (D : va_G) (cK cI cN cZ cL : ClassId) (r : Nat → Nat) (hri : m_inj r) (S : MS) (sz : Nat) (o k : Int32) (v : Int64) (en : Nat) (hen : S.2.2 14 = nI en) (he5 : en < 514) : x_M l y_Mo_enter [.code y_Mo_enter b_Mo_enter 5 none] rmZ (w_Pc D (x_tys cK cI cN cZ cL) [.ref (r 20), .int o, .int k, .long v] (m_w r cN cZ cL S) sz) (w_Qc D (m_w r cN cZ cL S) sz (fun r9 g9 => r9 = .inl none ∧ g9 = (m_w r cN cZ cL (m_l (m_s (m_a (m_a S 11 en o) 12 en k) 14 (nI (en + 1))) en v)))) 0 0 (y_A (m_w r cN cZ cL S) sz) := by
  refine x_ofW (cc := b_Mo_enter) (maxL := 5) (ret := none) (by decide) rfl ?_
  intro p e s m args below meth c s₁ B hml hno hv
  obtain ⟨rfl, hsz, hP, hE⟩ := hv
  subst hsz
  have hts := hE.hts ([.ref (r 20), .int o, .int k, .long v] : List Value).toArray
  have hK := hE.1.2.1
  have hA0 : ∀ q, s.heap.size ≤ q → y_A (m_w r cN cZ cL S) s.heap.size q := fun q h => Or.inr h
  have hA : ∀ q e, (m_w r cN cZ cL S) q = some e → y_A (m_w r cN cZ cL S) s.heap.size q := fun q e h => Or.inl (by rw [h]; exact fun z => nomatch z)
  have hS : va_S (y_A (m_w r cN cZ cL S) s.heap.size) s.heap s.heap [] := va_S.rf
  generalize hAe : y_A (m_w r cN cZ cL S) s.heap.size = A at hE hA0 hA hS ⊢
  have hx := B.exec
  have hb := B.bytes
  have hr := B.returns
  have hlocks := B.notSynchronized
  have hown : s.vm.findClass R_Mo = some m.cls := findClass_of_methodNamed B.named
  have hl := lv_entry ([.ref (r 20), .int o, .int k, .long v]) (n := 5) (Nat.le_of_ble_eq_true rfl)
  rw [lg_entry_eq]
  generalize (lg_sl ([.ref (r 20), .int o, .int k, .long v]) ++ List.replicate (5 - (lg_sl ([.ref (r 20), .int o, .int k, .long v])).length) Slot.unset).toArray = ls at hl ⊢
  have hl : lv_has ls 5 [(0, .ref (r 20)), (1, .int o), (2, .int k), (3, .long v)] := hl
  have hin9 : vp_in (S.2.2 14) 514 := by rw [hen]; exact vp_in_nI he5 (by decide)
  refine lv_aload_n hx hb d_Mo_enter_0 rfl (lv_at hl 0 rfl) ?_
  refine y_get (D := D) (ci := 5) (v := .ref (r 11)) (C := R_Mo) (T := F_Mo) (N := 20) hx hb hts in_Mo hown hK hP (m_at hri (i := 20) (by decide)) rfl 11 (by decide) (hts (.fieldLink R_Mo 37 "MemoryDeskModel" "into" "[I") (by decide +kernel)) (fun _ h9 => h9) rfl d_Mo_enter_1 ?_
  refine lv_aload_n hx hb d_Mo_enter_4 rfl (lv_at hl 0 rfl) ?_
  refine y_get (D := D) (ci := 5) (v := .int (S.2.2 14)) (C := R_Mo) (T := F_Mo) (N := 20) hx hb hts in_Mo hown hK hP (m_at hri (i := 20) (by decide)) rfl 14 (by decide) (hts (.fieldLink R_Mo 68 "MemoryDeskModel" "entries" "I") (by decide +kernel)) (fun _ h9 => h9) rfl d_Mo_enter_5 ?_
  refine lv_iload_n hx hb d_Mo_enter_8 rfl (lv_at hl 1 rfl) ?_
  refine y_iast (f := (S.1 11)) hx hb hK hP hA hS 2 (m_at hri (i := 11) (by decide)) rfl hin9 d_Mo_enter_9 (fun H locs hP hA hS => ?_)
  have e9 : va_up (m_w r cN cZ cL S) (r 11) (some (.inl (cN, 514, .inl (upd (S.1 11) (S.2.2 14).toNatClampNeg o)))) = (m_w r cN cZ cL (m_a S 11 (S.2.2 14).toNatClampNeg o)) := m_wa11 hri S (S.2.2 14).toNatClampNeg o
  have hP : y_P D vwCl (m_w r cN cZ cL (m_a S 11 (S.2.2 14).toNatClampNeg o)) H := by rw [← e9]; exact hP
  have hA : ∀ q99 e99, (m_w r cN cZ cL (m_a S 11 (S.2.2 14).toNatClampNeg o)) q99 = some e99 → A q99 := by rw [← e9]; exact hA
  refine lv_aload_n hx hb d_Mo_enter_10 rfl (lv_at hl 0 rfl) ?_
  refine y_get (D := D) (ci := 5) (v := .ref (r 12)) (C := R_Mo) (T := F_Mo) (N := 20) hx hb hts in_Mo hown hK hP (m_at hri (i := 20) (by decide)) rfl 12 (by decide) (hts (.fieldLink R_Mo 40 "MemoryDeskModel" "where" "[I") (by decide +kernel)) (fun _ h9 => h9) rfl d_Mo_enter_11 ?_
  refine lv_aload_n hx hb d_Mo_enter_14 rfl (lv_at hl 0 rfl) ?_
  refine y_get (D := D) (ci := 5) (v := .int (S.2.2 14)) (C := R_Mo) (T := F_Mo) (N := 20) hx hb hts in_Mo hown hK hP (m_at hri (i := 20) (by decide)) rfl 14 (by decide) (hts (.fieldLink R_Mo 68 "MemoryDeskModel" "entries" "I") (by decide +kernel)) (fun _ h9 => h9) rfl d_Mo_enter_15 ?_
  refine lv_iload_n hx hb d_Mo_enter_18 rfl (lv_at hl 2 rfl) ?_
  refine y_iast (f := (S.1 12)) hx hb hK hP hA hS 2 (m_at hri (i := 12) (by decide)) rfl hin9 d_Mo_enter_19 (fun H locs hP hA hS => ?_)
  have e9 : va_up (m_w r cN cZ cL (m_a S 11 (S.2.2 14).toNatClampNeg o)) (r 12) (some (.inl (cN, 514, .inl (upd (S.1 12) (S.2.2 14).toNatClampNeg k)))) = (m_w r cN cZ cL (m_a (m_a S 11 (S.2.2 14).toNatClampNeg o) 12 (S.2.2 14).toNatClampNeg k)) := m_wa12 hri (m_a S 11 (S.2.2 14).toNatClampNeg o) (S.2.2 14).toNatClampNeg k
  have hP : y_P D vwCl (m_w r cN cZ cL (m_a (m_a S 11 (S.2.2 14).toNatClampNeg o) 12 (S.2.2 14).toNatClampNeg k)) H := by rw [← e9]; exact hP
  have hA : ∀ q99 e99, (m_w r cN cZ cL (m_a (m_a S 11 (S.2.2 14).toNatClampNeg o) 12 (S.2.2 14).toNatClampNeg k)) q99 = some e99 → A q99 := by rw [← e9]; exact hA
  refine lv_aload_n hx hb d_Mo_enter_20 rfl (lv_at hl 0 rfl) ?_
  refine y_get (D := D) (ci := 5) (v := .ref (r 13)) (C := R_Mo) (T := F_Mo) (N := 20) hx hb hts in_Mo hown hK hP (m_at hri (i := 20) (by decide)) rfl 13 (by decide) (hts (.fieldLink R_Mo 43 "MemoryDeskModel" "value" "[J") (by decide +kernel)) (fun _ h9 => h9) rfl d_Mo_enter_21 ?_
  refine lv_aload_n hx hb d_Mo_enter_24 rfl (lv_at hl 0 rfl) ?_
  refine lv_dup hx hb d_Mo_enter_25 rfl ?_
  refine y_get (D := D) (ci := 5) (v := .int (S.2.2 14)) (C := R_Mo) (T := F_Mo) (N := 20) hx hb hts in_Mo hown hK hP (m_at hri (i := 20) (by decide)) rfl 14 (by decide) (hts (.fieldLink R_Mo 68 "MemoryDeskModel" "entries" "I") (by decide +kernel)) (fun _ h9 => h9) rfl d_Mo_enter_26 ?_
  refine lv_dup_x1 hx hb d_Mo_enter_29 rfl rfl ?_
  refine lv_iconst (v := 1) hx hb d_Mo_enter_30 (by decide) ?_
  refine lv_iadd hx hb d_Mo_enter_31 ?_
  refine y_put (D := D) (ci := 5) (v := .int ((S.2.2 14) + 1)) (ty := .int) (C := R_Mo) (T := F_Mo) (N := 20) hx hb hts in_Mo t_Mo t_Mo_ok n_Mo hown hK hP hA hS (m_at hri (i := 20) (by decide)) rfl 14 (by decide) (hts (.fieldLink R_Mo 68 "MemoryDeskModel" "entries" "I") (by decide +kernel)) (fun _ h9 => h9) rfl (by decide +kernel) rfl rfl (Nat.le_of_ble_eq_true rfl) d_Mo_enter_32 (fun H locs hP hA hS => ?_)
  have e9 : va_up (m_w r cN cZ cL (m_a (m_a S 11 (S.2.2 14).toNatClampNeg o) 12 (S.2.2 14).toNatClampNeg k)) (r 20) (some (.inr (5, [.ref (r 0), .ref (r 1), .ref (r 2), .ref (r 3), .ref (r 4), .ref (r 5), .ref (r 6), .int (S.2.2 7), .int (S.2.2 8), .int (S.2.2 9), .int (S.2.2 10), .ref (r 11), .ref (r 12), .ref (r 13), .int ((S.2.2 14) + 1), .ref (r 15), .ref (r 16), .ref (r 17), .ref (r 18), .int (S.2.2 19)]))) = (m_w r cN cZ cL (m_s (m_a (m_a S 11 (S.2.2 14).toNatClampNeg o) 12 (S.2.2 14).toNatClampNeg k) 14 ((S.2.2 14) + 1))) := m_ws14 hri (m_a (m_a S 11 (S.2.2 14).toNatClampNeg o) 12 (S.2.2 14).toNatClampNeg k) ((S.2.2 14) + 1)
  have hP : y_P D vwCl (m_w r cN cZ cL (m_s (m_a (m_a S 11 (S.2.2 14).toNatClampNeg o) 12 (S.2.2 14).toNatClampNeg k) 14 ((S.2.2 14) + 1))) H := by rw [← e9]; exact hP
  have hA : ∀ q99 e99, (m_w r cN cZ cL (m_s (m_a (m_a S 11 (S.2.2 14).toNatClampNeg o) 12 (S.2.2 14).toNatClampNeg k) 14 ((S.2.2 14) + 1))) q99 = some e99 → A q99 := by rw [← e9]; exact hA
  refine lv_lload_n hx hb d_Mo_enter_35 rfl (lv_at hl 3 rfl) ?_
  refine y_last (f := S.2.1) hx hb hK hP hA hS 4 (m_at hri (i := 13) (by decide)) rfl hin9 d_Mo_enter_36 (fun H locs hP hA hS => ?_)
  have e9 : va_up (m_w r cN cZ cL (m_s (m_a (m_a S 11 (S.2.2 14).toNatClampNeg o) 12 (S.2.2 14).toNatClampNeg k) 14 ((S.2.2 14) + 1))) (r 13) (some (.inl (cL, 514, .inr (.inl (vp_updL S.2.1 (S.2.2 14).toNatClampNeg v))))) = (m_w r cN cZ cL (m_l (m_s (m_a (m_a S 11 (S.2.2 14).toNatClampNeg o) 12 (S.2.2 14).toNatClampNeg k) 14 ((S.2.2 14) + 1)) (S.2.2 14).toNatClampNeg v)) := m_wl hri (m_s (m_a (m_a S 11 (S.2.2 14).toNatClampNeg o) 12 (S.2.2 14).toNatClampNeg k) 14 ((S.2.2 14) + 1)) (S.2.2 14).toNatClampNeg v
  have hP : y_P D vwCl (m_w r cN cZ cL (m_l (m_s (m_a (m_a S 11 (S.2.2 14).toNatClampNeg o) 12 (S.2.2 14).toNatClampNeg k) 14 ((S.2.2 14) + 1)) (S.2.2 14).toNatClampNeg v)) H := by rw [← e9]; exact hP
  have hA : ∀ q99 e99, (m_w r cN cZ cL (m_l (m_s (m_a (m_a S 11 (S.2.2 14).toNatClampNeg o) 12 (S.2.2 14).toNatClampNeg k) 14 ((S.2.2 14) + 1)) (S.2.2 14).toNatClampNeg v)) q99 = some e99 → A q99 := by rw [← e9]; exact hA
  refine W.widen (k := 0) (n := 0) (by first | decide | omega) (by first | decide | omega) ?_
  exact x_ret (W.vret hx hb hr (w_fin rfl hAe ⟨rfl, by rw [hen, show (nI en).toNatClampNeg = en from nI_clamp (by omega), nI_1]⟩ hP hA hS) hS.2.2 d_Mo_enter_37)
set_option maxHeartbeats 4000000 in
set_option maxRecDepth 100000 in
/-- cut(o, v) -/
theorem c_Mo_cut (l : Launch) (D : va_G) (cK cI cN cZ cL : ClassId) (r : Nat → Nat) (hri : m_inj r) (S : MS) (sz : Nat) (o : Int32) (v : Int64) (ho : m_ok S o) : x_M l y_Mo_cut [.code y_Mo_cut b_Mo_cut 5 (some .long)] rmZ (w_Pc D (x_tys cK cI cN cZ cL) [.ref (r 20), .int o, .long v] (m_w r cN cZ cL S) sz) (w_Qc D (m_w r cN cZ cL S) sz (fun r9 g9 => r9 = .inl (some (.long (m_cut S o v))) ∧ g9 = (m_w r cN cZ cL S))) 0 0 (y_A (m_w r cN cZ cL S) sz) := by
  refine x_ofW (cc := b_Mo_cut) (maxL := 5) (ret := (some .long)) (by decide) rfl ?_
  intro p e s m args below meth c s₁ B hml hno hv
  obtain ⟨rfl, hsz, hP, hE⟩ := hv
  subst hsz
  have hts := hE.hts ([.ref (r 20), .int o, .long v] : List Value).toArray
  have hK := hE.1.2.1
  have hA0 : ∀ q, s.heap.size ≤ q → y_A (m_w r cN cZ cL S) s.heap.size q := fun q h => Or.inr h
  have hA : ∀ q e, (m_w r cN cZ cL S) q = some e → y_A (m_w r cN cZ cL S) s.heap.size q := fun q e h => Or.inl (by rw [h]; exact fun z => nomatch z)
  have hS : va_S (y_A (m_w r cN cZ cL S) s.heap.size) s.heap s.heap [] := va_S.rf
  generalize hAe : y_A (m_w r cN cZ cL S) s.heap.size = A at hE hA0 hA hS ⊢
  have hx := B.exec
  have hb := B.bytes
  have hr := B.returns
  have hlocks := B.notSynchronized
  have hown : s.vm.findClass R_Mo = some m.cls := findClass_of_methodNamed B.named
  have hl := lv_entry ([.ref (r 20), .int o, .long v]) (n := 5) (Nat.le_of_ble_eq_true rfl)
  rw [lg_entry_eq]
  generalize (lg_sl ([.ref (r 20), .int o, .long v]) ++ List.replicate (5 - (lg_sl ([.ref (r 20), .int o, .long v])).length) Slot.unset).toArray = ls at hl ⊢
  have hl : lv_has ls 5 [(0, .ref (r 20)), (1, .int o), (2, .long v)] := hl
  refine lv_aload_n hx hb d_Mo_cut_0 rfl (lv_at hl 0 rfl) ?_
  refine y_get (D := D) (ci := 5) (v := .ref (r 2)) (C := R_Mo) (T := F_Mo) (N := 20) hx hb hts in_Mo hown hK hP (m_at hri (i := 20) (by decide)) rfl 2 (by decide) (hts (.fieldLink R_Mo 16 "MemoryDeskModel" "kindRow" "[I") (by decide +kernel)) (fun _ h9 => h9) rfl d_Mo_cut_1 ?_
  refine lv_aload_n hx hb d_Mo_cut_4 rfl (lv_at hl 0 rfl) ?_
  refine y_get (D := D) (ci := 5) (v := .ref (r 4)) (C := R_Mo) (T := F_Mo) (N := 20) hx hb hts in_Mo hown hK hP (m_at hri (i := 20) (by decide)) rfl 4 (by decide) (hts (.fieldLink R_Mo 23 "MemoryDeskModel" "objectKind" "[I") (by decide +kernel)) (fun _ h9 => h9) rfl d_Mo_cut_5 ?_
  refine lv_iload_n hx hb d_Mo_cut_8 rfl (lv_at hl 1 rfl) ?_
  refine y_iald (f := (S.1 4)) hx hb hK hP 2 (m_at hri (i := 4) (by decide)) rfl ho.1 d_Mo_cut_9 ?_
  refine y_iald (f := (S.1 2)) hx hb hK hP 2 (m_at hri (i := 2) (by decide)) rfl ho.2 d_Mo_cut_10 ?_
  refine lv_istore hx hb d_Mo_cut_11 hl (by decide) rfl (fun ls hl => ?_)
  have hl : lv_has ls 5 [(4, .int ((S.1 2) ((S.1 4) o.toNatClampNeg).toNatClampNeg)), (0, .ref (r 20)), (1, .int o), (2, .long v)] := hl
  refine lv_iload hx hb d_Mo_cut_13 (lv_at hl 0 rfl) ?_
  refine lv_iconst (v := 1) hx hb d_Mo_cut_15 (by decide) ?_
  refine lv_icmp_ne hx hb d_Mo_cut_16 rfl (fun h1 => ?_) (fun h1 => ?_)
  · -- if_icmpne at 16: to 26
    refine lv_iload hx hb d_Mo_cut_26 (lv_at hl 0 rfl) ?_
    refine lv_iconst (v := 2) hx hb d_Mo_cut_28 (by decide) ?_
    refine lv_icmp_ne hx hb d_Mo_cut_29 rfl (fun h2 => ?_) (fun h2 => ?_)
    · -- if_icmpne at 29: to 39
      refine lv_iload hx hb d_Mo_cut_39 (lv_at hl 0 rfl) ?_
      refine lv_iconst (v := 4) hx hb d_Mo_cut_41 (by decide) ?_
      refine lv_icmp_ne hx hb d_Mo_cut_42 rfl (fun h3 => ?_) (fun h3 => ?_)
      · -- if_icmpne at 42: to 49
        refine lv_lload_n hx hb d_Mo_cut_49 rfl (lv_at hl 3 rfl) ?_
        refine lv_l2i hx hb d_Mo_cut_50 rfl ?_
        refine lv_i2l hx hb d_Mo_cut_51 rfl ?_
        refine W.widen (k := 0) (n := 0) (by first | decide | omega) (by first | decide | omega) ?_
        exact x_ret (W.lret (v := v.toInt32.toInt64) hx hb hr (w_fin rfl hAe ⟨by rw [show m_cut S o v = v.toInt32.toInt64 from (if_neg h1).trans ((if_neg h2).trans (if_neg h3))], rfl⟩ hP hA hS) hS.2.2 d_Mo_cut_52)
      · -- if_icmpne at 42: to 45
        refine lv_lload_n hx hb d_Mo_cut_45 rfl (lv_at hl 3 rfl) ?_
        refine lv_goto hx hb d_Mo_cut_46 rfl ?_
        refine W.widen (k := 0) (n := 0) (by first | decide | omega) (by first | decide | omega) ?_
        exact x_ret (W.lret (v := v) hx hb hr (w_fin rfl hAe ⟨by rw [show m_cut S o v = v from (if_neg h1).trans ((if_neg h2).trans (if_pos h3))], rfl⟩ hP hA hS) hS.2.2 d_Mo_cut_52)
    · -- if_icmpne at 29: to 32
      refine lv_lload_n hx hb d_Mo_cut_32 rfl (lv_at hl 3 rfl) ?_
      refine lv_l2i hx hb d_Mo_cut_33 rfl ?_
      refine lv_i2c hx hb d_Mo_cut_34 rfl ?_
      refine lv_i2l hx hb d_Mo_cut_35 rfl ?_
      refine lv_goto hx hb d_Mo_cut_36 rfl ?_
      refine W.widen (k := 0) (n := 0) (by first | decide | omega) (by first | decide | omega) ?_
      exact x_ret (W.lret (v := (v.toInt32.toUInt32 % 65536).toInt32.toInt64) hx hb hr (w_fin rfl hAe ⟨by rw [show m_cut S o v = (v.toInt32.toUInt32 % 65536).toInt32.toInt64 from (if_neg h1).trans (if_pos h2)], rfl⟩ hP hA hS) hS.2.2 d_Mo_cut_52)
  · -- if_icmpne at 16: to 19
    refine lv_lload_n hx hb d_Mo_cut_19 rfl (lv_at hl 3 rfl) ?_
    refine lv_l2i hx hb d_Mo_cut_20 rfl ?_
    refine lv_i2b hx hb d_Mo_cut_21 rfl ?_
    refine lv_i2l hx hb d_Mo_cut_22 rfl ?_
    refine lv_goto hx hb d_Mo_cut_23 rfl ?_
    refine W.widen (k := 0) (n := 0) (by first | decide | omega) (by first | decide | omega) ?_
    exact x_ret (W.lret (v := v.toInt32.toInt8.toInt32.toInt64) hx hb hr (w_fin rfl hAe ⟨by rw [show m_cut S o v = v.toInt32.toInt8.toInt32.toInt64 from if_pos h1], rfl⟩ hP hA hS) hS.2.2 d_Mo_cut_52)
end
section
/-! how the reference holds the memory -/
section MRep
def m_kn (a : Ab) (S : MS) (k : Nat) : Prop := (a.kd k = none ∧ S.1 3 k = 0) ∨ ∃ q, a.kd k = some q ∧ S.1 3 k = 1 ∧ S.1 2 k = q.1 ∧ (q.1 < 0 → S.1 0 k = q.2.1 ∧ S.1 1 k = q.2.2)
def m_R (a : Ab) (S : MS) (cn : Nat) : Prop :=
  (∀ k, k < 16 → m_kn a S k) ∧ (S.2.2 7 = nI a.n ∧ S.2.2 8 = nI a.nn ∧ S.2.2 9 = nI a.mem ∧ S.2.2 19 = nI a.kc) ∧ (∀ o, 1 ≤ o → o ≤ a.n → S.1 4 o = nI (a.ok o) ∧ S.1 5 o = a.sz o) ∧ (∀ o, 1 ≤ o → o < 514 → S.1 6 o = nI (a.nu o)) ∧
  (∀ s, s < 32 → S.1 15 s = nI (a.sl s)) ∧ (∀ o, a.kp o → ∃ i, i < a.kc ∧ S.1 16 i = nI o) ∧ (∀ i, i < a.kc → ∃ o, a.kp o ∧ S.1 16 i = nI o) ∧
  ∃ en, en ≤ cn ∧ S.2.2 14 = nI en ∧ (∀ i, i < en → ∃ o, 1 ≤ o ∧ o ≤ a.n ∧ S.1 11 i = nI o) ∧ ∀ o k, 1 ≤ o → o ≤ a.n → a.ct o k = m_lat S (nI o) k en
variable {a : Ab} {S T : MS} {cn : Nat}
theorem m_R.ok (hR : m_R a S cn) (hw : a_W a cn) (hc : cn ≤ 512) {o : Nat} (o1 : 1 ≤ o) (o2 : o ≤ a.n) : m_ok S (nI o) ∧ (nI o).toNatClampNeg = o ∧ (S.1 4 o).toNatClampNeg = a.ok o := by
  have hn : a.n ≤ cn := hw.2.2.2.2.2.2.2.2.2.1
  have e : (nI o).toNatClampNeg = o := nI_clamp (by omega)
  have h1 := (hR.2.2.1 o o1 o2).1
  have h2 := (hw.2.1 o o1 o2).1
  refine ⟨⟨vp_in_nI (by omega) (by decide), ?_⟩, e, by rw [h1]; exact nI_clamp (by omega)⟩
  rw [e, h1]
  exact vp_in_nI h2 (by decide)
theorem m_R.kd (hR : m_R a S cn) (hw : a_W a cn) {o : Nat} (o1 : 1 ≤ o) (o2 : o ≤ a.n) : ∃ q, a.kd (a.ok o) = some q ∧ a_kin q ∧ S.1 2 (a.ok o) = q.1 ∧ (q.1 < 0 → S.1 0 (a.ok o) = q.2.1 ∧ S.1 1 (a.ok o) = q.2.2) := by
  obtain ⟨h1, q, h2, -⟩ := hw.2.1 o o1 o2
  rcases hR.1 (a.ok o) h1 with z | ⟨q', z1, -, z2, z3⟩
  · rw [h2] at z; cases z.1
  · exact ⟨q', z1, hw.1 _ _ h1 z1, z2, z3⟩
theorem m_R.row (hR : m_R a S cn) (hw : a_W a cn) (hc : cn ≤ 512) {o : Nat} (o1 : 1 ≤ o) (o2 : o ≤ a.n) : m_row S (nI o) = a_row a o := by
  obtain ⟨-, e1, e2⟩ := hR.ok hw hc o1 o2
  obtain ⟨q, z1, -, z2, -⟩ := hR.kd hw o1 o2
  unfold m_row a_row
  rw [e1, e2, z2, z1]
theorem m_R.many (hR : m_R a S cn) (hw : a_W a cn) (hc : cn ≤ 512) {o : Nat} (o1 : 1 ≤ o) (o2 : o ≤ a.n) : m_many S (nI o) = a_len a o := by
  obtain ⟨-, e1, e2⟩ := hR.ok hw hc o1 o2
  obtain ⟨q, z1, -, z2, z3⟩ := hR.kd hw o1 o2
  unfold m_many a_len
  have hr : m_row S (nI o) = q.1 := by unfold m_row; rw [e1, e2, z2]
  rw [hr, e1, e2, z1, (hR.2.2.1 o o1 o2).2]
  show _ = if q.1 < 0 then q.2.1 else a.sz o
  by_cases h : q.1 < 0
  · rw [if_pos h, if_pos h, (z3 h).1]
  · rw [if_neg h, if_neg h]
theorem m_R.isr (hR : m_R a S cn) (hw : a_W a cn) (hc : cn ≤ 512) {o : Nat} {k : Int32} (o1 : 1 ≤ o) (o2 : o ≤ a.n) : m_isr S (nI o) k = c_bit (a_ref a o k) := by
  obtain ⟨-, e1, e2⟩ := hR.ok hw hc o1 o2
  obtain ⟨q, z1, -, z2, z3⟩ := hR.kd hw o1 o2
  have hr : m_row S (nI o) = q.1 := by unfold m_row; rw [e1, e2, z2]
  have he : a_ref a o k = a_refK q k := propext ⟨fun ⟨q', y1, y2⟩ => by rw [z1] at y1; cases y1; exact y2, fun y => ⟨q, z1, y⟩⟩
  unfold m_isr
  rw [hr, he, e1, e2]
  unfold a_refK
  by_cases h : q.1 < 0
  · rw [if_pos h, if_pos h, (z3 h).2]
  · rw [if_neg h, if_neg h]
theorem m_div2 {x : Nat} (h : x < 2 ^ 62) : lN x / 2 = lN (x / 2) := by
  apply Int64.toInt_inj.mp
  have e1 : (lN x).toInt = (x : Int) := lg_ofNat_toInt (by omega)
  have e2 : (lN (x / 2)).toInt = ((x / 2 : Nat) : Int) := lg_ofNat_toInt (by omega)
  have e3 : (2 : Int64).toInt = 2 := by decide
  rw [Int64.toInt_div, e1, e2, e3, Int.tdiv_eq_ediv_of_nonneg (by omega), Int.bmod_eq_of_le (by omega) (by omega)]
  omega
theorem m_div4 {x : Nat} (h : x < 2 ^ 62) : lN x / 4 = lN (x / 4) := by
  apply Int64.toInt_inj.mp
  have e1 : (lN x).toInt = (x : Int) := lg_ofNat_toInt (by omega)
  have e2 : (lN (x / 4)).toInt = ((x / 4 : Nat) : Int) := lg_ofNat_toInt (by omega)
  have e3 : (4 : Int64).toInt = 4 := by decide
  rw [Int64.toInt_div, e1, e2, e3, Int.tdiv_eq_ediv_of_nonneg (by omega), Int.bmod_eq_of_le (by omega) (by omega)]
  omega
theorem m_takes {row : Int32} {n : Nat} (hn : n < 2 ^ 31) : m_tk row (lN n) = lN (a_tk row n) := by
  unfold m_tk a_tk
  by_cases h : row < 0
  · rw [if_pos h, if_pos h, show (3 : Int64) = lN 3 from rfl, lN_add]
  · rw [if_neg h, if_neg h, show (4 : Int64) + _ = lN 4 + _ from rfl, ← lN_add]
    congr 1
    by_cases h4 : row = 4
    · rw [if_pos h4, if_pos h4, show (2 : Int64) = lN 2 from rfl, lN_mul]
    · rw [if_neg h4, if_neg h4]
      by_cases h2 : row = 2
      · rw [if_pos h2, if_pos h2, lN_1, m_div2 (by omega)]
      · rw [if_neg h2, if_neg h2]
        by_cases h1 : row = 1
        · rw [if_pos h1, if_pos h1, show (3 : Int64) = lN 3 from rfl, lN_add, m_div4 (by omega)]
        · rw [if_neg h1, if_neg h1]
/-- an object's size is no negative number -/
theorem a_len.pos (hw : a_W a cn) {o : Nat} (o1 : 1 ≤ o) (o2 : o ≤ a.n) : ∃ n : Nat, n < 2 ^ 31 ∧ a_len a o = nI n := by
  obtain ⟨h1, q, h2, h3⟩ := hw.2.1 o o1 o2
  have hk := hw.1 _ _ h1 h2
  unfold a_len
  rw [h2]
  show ∃ n : Nat, n < 2 ^ 31 ∧ (if q.1 < 0 then q.2.1 else a.sz o) = nI n
  by_cases h : q.1 < 0
  · obtain ⟨w, m, w1, -, e1, -⟩ := hk.neg h
    rw [if_pos h]
    exact ⟨w, by omega, e1⟩
  · rw [if_neg h]
    obtain ⟨j, hj, e⟩ := nI_of (h3 h)
    exact ⟨j, hj, e⟩
theorem m_R.wd (hR : m_R a S cn) (hw : a_W a cn) (hc : cn ≤ 512) {o : Nat} (o1 : 1 ≤ o) (o2 : o ≤ a.n) : m_tk (m_row S (nI o)) (m_many S (nI o)).toInt64 = lN (a_wd a o) := by
  obtain ⟨n, hn, e⟩ := a_len.pos hw o1 o2
  unfold a_wd
  rw [hR.row hw hc o1 o2, hR.many hw hc o1 o2, e, nI_l hn, m_takes hn, show (nI n).toNatClampNeg = n from nI_clamp hn]
theorem m_R.cut (hR : m_R a S cn) (hw : a_W a cn) (hc : cn ≤ 512) {o : Nat} {v : Int64} (o1 : 1 ≤ o) (o2 : o ≤ a.n) : m_cut S (nI o) v = a_cut a o v := by
  unfold m_cut a_cut
  rw [hR.row hw hc o1 o2]
theorem m_lat.ne {o k : Int32} : ∀ {n : Nat}, m_lat S o k n ≠ 0 → ∃ i, i < n ∧ S.1 11 i = o ∧ S.1 12 i = k
  | 0, h => absurd rfl h
  | n + 1, h => by
    by_cases e : S.1 11 n = o ∧ S.1 12 n = k
    · exact ⟨n, Nat.lt_succ_self _, e⟩
    · have h : (if S.1 11 n = o ∧ S.1 12 n = k then S.2.1 n else m_lat S o k n) ≠ 0 := h
      rw [if_neg e] at h
      obtain ⟨i, i1, i2⟩ := m_lat.ne h
      exact ⟨i, by omega, i2⟩
theorem m_lat.eq {S' : MS} {o k : Int32} : ∀ {n : Nat}, (∀ i, i < n → S'.1 11 i = S.1 11 i ∧ S'.1 12 i = S.1 12 i ∧ S'.2.1 i = S.2.1 i) → m_lat S' o k n = m_lat S o k n
  | 0, _ => rfl
  | n + 1, h => by
    obtain ⟨h1, h2, h3⟩ := h n (Nat.lt_succ_self _)
    show (if S'.1 11 n = o ∧ S'.1 12 n = k then S'.2.1 n else m_lat S' o k n) = if S.1 11 n = o ∧ S.1 12 n = k then S.2.1 n else m_lat S o k n
    rw [h1, h2, h3, m_lat.eq (fun i hi => h i (by omega))]
/-- T is S but for what reachable() writes -/
def m_Q (S T : MS) : Prop := T.2 = S.2 ∧ ∀ k, k ≠ 17 → k ≠ 18 → T.1 k = S.1 k
theorem m_Q.R (hQ : m_Q S T) (h : m_R a S cn) : m_R a T cn := by
  obtain ⟨h1, h2, h3, h4, h5, h6, h7, en, h8, h9, h10, h11⟩ := h
  obtain ⟨q1, q2⟩ := hQ
  have e : ∀ k, k ≠ 17 → k ≠ 18 → T.1 k = S.1 k := q2
  unfold m_R m_kn
  rw [q1, e 0 (by decide) (by decide), e 1 (by decide) (by decide), e 2 (by decide) (by decide), e 3 (by decide) (by decide), e 4 (by decide) (by decide), e 5 (by decide) (by decide), e 6 (by decide) (by decide), e 11 (by decide) (by decide), e 15 (by decide) (by decide), e 16 (by decide) (by decide)]
  refine ⟨h1, h2, h3, h4, h5, h6, h7, en, h8, h9, h10, fun o k o1 o2 => ?_⟩
  rw [m_lat.eq (S := S) (S' := T) (fun i _ => ⟨by rw [e 11 (by decide) (by decide)], by rw [e 12 (by decide) (by decide)], by rw [q1]⟩)]
  exact h11 o k o1 o2
/-- the stack of what waits -/
def m_td (t : Nat → Int32) : List Nat → Prop
  | [] => True
  | o :: ps => t ps.length = nI o ∧ m_td t ps
theorem m_td.up {t : Nat → Int32} {j : Nat} {v : Int32} : ∀ {ps : List Nat}, m_td t ps → ps.length ≤ j → m_td (upd t j v) ps
  | [], _, _ => trivial
  | o :: ps, h, hj => by
    have hl : ps.length + 1 ≤ j := hj
    refine ⟨?_, m_td.up h.2 (by omega)⟩
    show (if ps.length = j then v else t ps.length) = _
    rw [if_neg (by omega)]
    exact h.1
def m_J (a : Ab) (S T : MS) (ps : List Nat) : Prop := m_Q S T ∧ m_td (T.1 17) ps ∧ ∀ o, 1 ≤ o → o ≤ a.n → T.1 18 o = 0 ∨ T.1 18 o = 1
def m_sn (a : Ab) (T : MS) (o : Nat) : Prop := 1 ≤ o ∧ o ≤ a.n ∧ T.1 18 o = 1
theorem m_J.visit {ps : List Nat} {o : Nat} (h : m_J a S T ps) : m_J a S (m_a (m_a T 18 o 1) 17 ps.length (nI o)) (o :: ps) := by
  obtain ⟨⟨h1, h2⟩, h3, h4⟩ := h
  refine ⟨⟨h1, fun k k1 k2 => ?_⟩, ⟨?_, ?_⟩, fun z z1 z2 => ?_⟩
  · show va_up (va_up T.1 18 _) 17 _ k = _
    rw [va_up_ne _ _ k1, va_up_ne _ _ k2]; exact h2 k k1 k2
  · show upd (T.1 17) ps.length (nI o) ps.length = _
    exact if_pos rfl
  · show m_td (upd (T.1 17) ps.length (nI o)) ps
    exact h3.up (Nat.le_refl _)
  · show upd (T.1 18) o 1 z = 0 ∨ upd (T.1 18) o 1 z = 1
    unfold upd
    by_cases e : z = o
    · rw [if_pos e]; exact Or.inr rfl
    · rw [if_neg e]; exact h4 z z1 z2
theorem m_sn.visit {ps : List Nat} {o : Nat} (o1 : 1 ≤ o) (o2 : o ≤ a.n) : m_sn a (m_a (m_a T 18 o 1) 17 ps.length (nI o)) = fun z => m_sn a T z ∨ z = o := by
  funext z
  have e : (m_a (m_a T 18 o 1) 17 ps.length (nI o)).1 18 z = if z = o then 1 else T.1 18 z := rfl
  apply propext
  unfold m_sn
  rw [e]
  by_cases h : z = o
  · rw [if_pos h, h]; exact ⟨fun _ => Or.inr rfl, fun _ => ⟨o1, o2, rfl⟩⟩
  · rw [if_neg h]; exact ⟨Or.inl, fun z => z.resolve_right h⟩
theorem m_nar0 : vp_nar .boolean 0 = 0 := by decide +kernel
theorem m_nar1 : vp_nar .boolean 1 = 1 := by decide +kernel
end MRep
end
section
set_option maxHeartbeats 8000000 in
set_option maxRecDepth 100000 in
/-- reachable(): the entries of one object are looked at -/
theorem c_mr_E (l : Launch) (D : va_G) (cK cI cN cZ cL : ClassId) (r : Nat → Nat) (hri : m_inj r) (S : MS) (a : Ab) (cn : Nat) (hw : a_W a cn) (hc : cn ≤ 512) (hR : m_R a S cn) {p : Program} {e : Env} {s : State} {m : MethodId} {below : List Frame} {meth : Method} {c : Code} {A : Nat → Prop} {QQ : State → Prop} (hx : p.tables.exec = Jvm.exec) (hb : c.code = b_Mo_reachable) (hml : c.maxLocals = 7) (hown : s.vm.findClass R_Mo = some m.cls) (hts : ∀ w ∈ x_tbl, w.before ([.ref (r 20)] : List Value).toArray s = true) (hK : va_K D vwCl (x_tys cK cI cN cZ cL) s) (hE : w_E D (x_tys cK cI cN cZ cL) A s s.heap) (hA0 : ∀ q, s.heap.size ≤ q → A q) (en : Nat) (r11 : en ≤ cn) (r12 : S.2.2 14 = nI en) (r14 : ∀ o k, 1 ≤ o → o ≤ a.n → a.ct o k = m_lat S (nI o) k en) (o : Nat) (o1 : 1 ≤ o) (o2 : o ≤ a.n) (hRo : a_R a o) (f : Nat) (ih : ∀ (ls : Array Slot) (H : Heap) (locs : List Loc) (T : MS) (ps : List Nat), lv_has ls 7 [(2, .long (lN (z_sum (a_wd a) (fun z => m_sn a T z ∧ z ∉ ps) a.n))), (1, .int (nI ps.length)), (0, .ref (r 20))] → y_P D vwCl (m_w r cN cZ cL T) H → (∀ q99 e99, (m_w r cN cZ cL T) q99 = some e99 → A q99) → va_S A s.heap H locs → m_J a S T ps → z_I (a_root a) (a_ed a) a.n (m_sn a T) ps (fun _ => False) (fun _ _ => False) → a.n ≤ f + z_sum (fun _ => 1) (fun z => m_sn a T z ∧ z ∉ ps) a.n → W p l e rmW s m ([.ref (r 20)] : List Value).toArray below meth c H locs 0 0 QQ (F0 m 162 ls [])) : ∀ (f1 e1 : Nat) (ls : Array Slot) (H : Heap) (locs : List Loc) (T : MS) (ps : List Nat), e1 + f1 = en → lv_has ls 7 [(5, .int (nI e1)), (4, .int (nI o)), (2, .long (lN (z_sum (a_wd a) (fun z => m_sn a T z ∧ z ∉ ps) a.n))), (1, .int (nI ps.length)), (0, .ref (r 20))] → y_P D vwCl (m_w r cN cZ cL T) H → (∀ q99 e99, (m_w r cN cZ cL T) q99 = some e99 → A q99) → va_S A s.heap H locs → m_J a S T ps → z_I (a_root a) (a_ed a) a.n (m_sn a T) ps (fun _ => False) (fun x b => x = o ∧ ∃ i, e1 ≤ i ∧ i < en ∧ S.1 11 i = nI o ∧ a_ref a o (S.1 12 i) ∧ a.ct o (S.1 12 i) = lN b) → a.n ≤ f + z_sum (fun _ => 1) (fun z => m_sn a T z ∧ z ∉ ps) a.n → W p l e rmW s m ([.ref (r 20)] : List Value).toArray below meth c H locs 0 0 QQ (F0 m 205 ls []) := by
  have hn : a.n ≤ cn := hw.2.2.2.2.2.2.2.2.2.1
  have hkc : a.kc ≤ cn := hw.2.2.2.2.2.2.2.2.2.2.2
  have hR0 := hR
  intro f1
  induction f1 with
  | zero =>
    intro e1 ls H locs T ps hef hl hP hA hS hJ hI hf
    have hTen : T.2.2 14 = nI en := by rw [hJ.1.1]; exact r12
    refine lv_iload hx hb d_Mo_reachable_205 (lv_at hl 0 rfl) ?_
    refine lv_aload_n hx hb d_Mo_reachable_207 rfl (lv_at hl 4 rfl) ?_
    refine y_get (D := D) (ci := 5) (v := .int (T.2.2 14)) (C := R_Mo) (T := F_Mo) (N := 20) hx hb hts in_Mo hown hK hP (m_at hri (i := 20) (by decide)) rfl 14 (by decide) (hts (.fieldLink R_Mo 68 "MemoryDeskModel" "entries" "I") (by decide +kernel)) (fun _ h9 => h9) rfl d_Mo_reachable_208 ?_
    rw [hTen]
    refine lv_icmp_ge hx hb d_Mo_reachable_211 rfl (fun h1 => ?_) (fun h1 => (absurd (show nI en ≤ nI e1 from nI_le (by omega) (by omega)) h1))
    refine lv_goto hx hb d_Mo_reachable_301 rfl ?_
    have hl : lv_has ls 7 [(2, .long (lN (z_sum (a_wd a) (fun z => m_sn a T z ∧ z ∉ ps) a.n))), (1, .int (nI ps.length)), (0, .ref (r 20))] := lv_sub hl [2, 3, 4] rfl
    exact ih ls H locs T ps hl hP hA hS hJ (hI.mono (fun _ _ z => z.elim) (fun x b _ _ _ z => by obtain ⟨-, i, i1, i2, -⟩ := z; omega)) hf
  | succ f1 ihE =>
    intro e1 ls H locs T ps hef hl hP hA hS hJ hI hf
    have hTen : T.2.2 14 = nI en := by rw [hJ.1.1]; exact r12
    refine lv_iload hx hb d_Mo_reachable_205 (lv_at hl 0 rfl) ?_
    refine lv_aload_n hx hb d_Mo_reachable_207 rfl (lv_at hl 4 rfl) ?_
    refine y_get (D := D) (ci := 5) (v := .int (T.2.2 14)) (C := R_Mo) (T := F_Mo) (N := 20) hx hb hts in_Mo hown hK hP (m_at hri (i := 20) (by decide)) rfl 14 (by decide) (hts (.fieldLink R_Mo 68 "MemoryDeskModel" "entries" "I") (by decide +kernel)) (fun _ h9 => h9) rfl d_Mo_reachable_208 ?_
    rw [hTen]
    refine lv_icmp_ge hx hb d_Mo_reachable_211 rfl (fun h2 => (absurd h2 (nI_ge (by omega) (by omega)))) (fun h2 => ?_)
    have hin9 : vp_in (nI e1) 514 := vp_in_nI (by omega) (by decide)
    have hcl1 : (nI e1).toNatClampNeg = e1 := nI_clamp (by omega)
    have hRT := hJ.1.R hR0
    obtain ⟨hok, hcl, -⟩ := hRT.ok hw hc o1 o2
    have t11 : T.1 11 = S.1 11 := hJ.1.2 11 (by decide) (by decide)
    have t12 : T.1 12 = S.1 12 := hJ.1.2 12 (by decide) (by decide)
    have step : ∀ (ls : Array Slot) (H : Heap) (locs : List Loc) (T : MS) (ps : List Nat), lv_has ls 7 [(5, .int (nI e1)), (4, .int (nI o)), (2, .long (lN (z_sum (a_wd a) (fun z => m_sn a T z ∧ z ∉ ps) a.n))), (1, .int (nI ps.length)), (0, .ref (r 20))] → y_P D vwCl (m_w r cN cZ cL T) H → (∀ q99 e99, (m_w r cN cZ cL T) q99 = some e99 → A q99) → va_S A s.heap H locs → m_J a S T ps → z_I (a_root a) (a_ed a) a.n (m_sn a T) ps (fun _ => False) (fun x b => x = o ∧ ∃ i, e1 ≤ i ∧ i < en ∧ S.1 11 i = nI o ∧ a_ref a o (S.1 12 i) ∧ a.ct o (S.1 12 i) = lN b) → a.n ≤ f + z_sum (fun _ => 1) (fun z => m_sn a T z ∧ z ∉ ps) a.n → (∀ b, S.1 11 e1 = nI o → a_ref a o (S.1 12 e1) → a.ct o (S.1 12 e1) = lN b → 1 ≤ b → b ≤ a.n → m_sn a T b) → W p l e rmW s m ([.ref (r 20)] : List Value).toArray below meth c H locs 0 0 QQ (F0 m 295 ls []) := by
      intro ls H locs T ps hl hP hA hS hJ hI hf hno
      refine lv_iinc (k := 0) (v := ((nI e1) + 1)) hx hb d_Mo_reachable_295 hl rfl rfl (by decide) rfl (fun ls hl => ?_)
      have hl : lv_has ls 7 [(5, .int ((nI e1) + 1)), (4, .int (nI o)), (2, .long (lN (z_sum (a_wd a) (fun z => m_sn a T z ∧ z ∉ ps) a.n))), (1, .int (nI ps.length)), (0, .ref (r 20))] := hl
      refine lv_goto hx hb d_Mo_reachable_298 rfl ?_
      rw [nI_1] at hl
      refine ihE (e1 + 1) ls H locs T ps (by omega) hl hP hA hS hJ (hI.mono (fun _ _ z => z.elim) (fun x b _ _ hxb z => ?_)) hf
      obtain ⟨z0, i, i1, i2, i3, i4, i5⟩ := z
      by_cases hi : i = e1
      · subst hi; exact Or.inl (hno b i3 i4 i5 hxb.2.2.1 hxb.2.2.2.1)
      · exact Or.inr ⟨z0, i, by omega, i2, i3, i4, i5⟩
    refine lv_aload_n hx hb d_Mo_reachable_214 rfl (lv_at hl 4 rfl) ?_
    refine y_get (D := D) (ci := 5) (v := .ref (r 11)) (C := R_Mo) (T := F_Mo) (N := 20) hx hb hts in_Mo hown hK hP (m_at hri (i := 20) (by decide)) rfl 11 (by decide) (hts (.fieldLink R_Mo 37 "MemoryDeskModel" "into" "[I") (by decide +kernel)) (fun _ h9 => h9) rfl d_Mo_reachable_215 ?_
    refine lv_iload hx hb d_Mo_reachable_218 (lv_at hl 0 rfl) ?_
    refine y_iald (f := (T.1 11)) hx hb hK hP 2 (m_at hri (i := 11) (by decide)) rfl hin9 d_Mo_reachable_220 ?_
    refine lv_iload hx hb d_Mo_reachable_221 (lv_at hl 1 rfl) ?_
    have hsk : (∀ b, S.1 11 e1 = nI o → a_ref a o (S.1 12 e1) → a.ct o (S.1 12 e1) = lN b → 1 ≤ b → b ≤ a.n → m_sn a T b) → True := fun _ => trivial
    refine lv_icmp_ne hx hb d_Mo_reachable_223 rfl (fun h3 => ?_) (fun h3 => ?_)
    · -- if_icmpne at 223: to 295
      have hl : lv_has ls 7 [(5, .int (nI e1)), (4, .int (nI o)), (2, .long (lN (z_sum (a_wd a) (fun z => m_sn a T z ∧ z ∉ ps) a.n))), (1, .int (nI ps.length)), (0, .ref (r 20))] := lv_sub hl [0, 1, 2, 3, 4] rfl
      exact step ls H locs T ps hl hP hA hS hJ hI hf (fun b9 z1 _ _ _ _ => absurd (by rw [hcl1, t11]; exact z1) h3)
    · -- if_icmpne at 223: to 226
      have hin11 : S.1 11 e1 = nI o := by have hh_ := h3; rw [hcl1, t11] at hh_; exact hh_
      refine lv_aload_n hx hb d_Mo_reachable_226 rfl (lv_at hl 4 rfl) ?_
      refine lv_iload hx hb d_Mo_reachable_227 (lv_at hl 1 rfl) ?_
      refine lv_aload_n hx hb d_Mo_reachable_229 rfl (lv_at hl 4 rfl) ?_
      refine y_get (D := D) (ci := 5) (v := .ref (r 12)) (C := R_Mo) (T := F_Mo) (N := 20) hx hb hts in_Mo hown hK hP (m_at hri (i := 20) (by decide)) rfl 12 (by decide) (hts (.fieldLink R_Mo 40 "MemoryDeskModel" "where" "[I") (by decide +kernel)) (fun _ h9 => h9) rfl d_Mo_reachable_230 ?_
      refine lv_iload hx hb d_Mo_reachable_233 (lv_at hl 0 rfl) ?_
      refine y_iald (f := (T.1 12)) hx hb hK hP 2 (m_at hri (i := 12) (by decide)) rfl hin9 d_Mo_reachable_235 ?_
      rw [show T.1 12 (nI e1).toNatClampNeg = S.1 12 e1 by rw [hcl1, t12]]
      refine w_callV (As := [.int (nI o), .int (S.1 12 e1)]) (C := R_Mo) ⟨hx, hb, hml, hown, hts⟩ (c_Mo_isReference l D cK cI cN cZ cL r hri T _ (nI o) (S.1 12 e1) hok) (x_cb (cwV (own := R_Mo) (index := 85) (C := R_Mo) 2 hts (x_gi (by decide +kernel)) rfl rfl rfl (by decide +kernel) ⟨by decide, by decide⟩).1) (hts (.instanceMethod y_Mo_isReference) (by decide +kernel)) (hts (.selects R_Mo y_Mo_isReference y_Mo_isReference) (by decide +kernel)) (y_recv (ci := 5) (q := (R_Mo, F_Mo, 20)) hK hP rfl (m_at hri (i := 20) (by decide))) hE hP hA hA0 hS rfl hl.1 rfl (lv_room (Nat.le_of_ble_eq_true rfl)) d_Mo_reachable_236 (by first | decide | omega) (by first | decide | omega) (fun v9 g9 H locs hq9 hP hA hS => ?_) (fun E9 q9 ce9 g9 H locs hq9 hP hA hS z1 z2 z3 => ?_)
      rotate_left
      · exact nomatch hq9.1
      obtain ⟨hv9, hg9⟩ := hq9
      cases hv9
      rw [hg9] at hP hA
      refine W.eq (g2 := F0 m 239 ls [.int (m_isr T (nI o) (S.1 12 e1))]) rfl ?_
      rw [hRT.isr hw hc o1 o2]
      refine lv_if_ne hx hb d_Mo_reachable_239 rfl (fun h4 => ?_) (fun h4 => ?_)
      · -- ifne at 239: to 245
        have hrf : a_ref a o (S.1 12 e1) := Classical.byContradiction (fun z => h4 (c_bit.n z))
        obtain ⟨b, b2, b3⟩ := hw.2.2.2.2.1 o (S.1 12 e1) o1 o2 hrf
        refine lv_aload_n hx hb d_Mo_reachable_245 rfl (lv_at hl 4 rfl) ?_
        refine lv_iload hx hb d_Mo_reachable_246 (lv_at hl 1 rfl) ?_
        refine lv_aload_n hx hb d_Mo_reachable_248 rfl (lv_at hl 4 rfl) ?_
        refine y_get (D := D) (ci := 5) (v := .ref (r 12)) (C := R_Mo) (T := F_Mo) (N := 20) hx hb hts in_Mo hown hK hP (m_at hri (i := 20) (by decide)) rfl 12 (by decide) (hts (.fieldLink R_Mo 40 "MemoryDeskModel" "where" "[I") (by decide +kernel)) (fun _ h9 => h9) rfl d_Mo_reachable_249 ?_
        refine lv_iload hx hb d_Mo_reachable_252 (lv_at hl 0 rfl) ?_
        refine y_iald (f := (T.1 12)) hx hb hK hP 2 (m_at hri (i := 12) (by decide)) rfl hin9 d_Mo_reachable_254 ?_
        rw [show T.1 12 (nI e1).toNatClampNeg = S.1 12 e1 by rw [hcl1, t12]]
        refine w_callV (As := [.int (nI o), .int (S.1 12 e1)]) (C := R_Mo) ⟨hx, hb, hml, hown, hts⟩ (c_Mo_latest l D cK cI cN cZ cL r hri T _ (nI o) (S.1 12 e1) en hTen (by omega)) (x_cb (cwV (own := R_Mo) (index := 89) (C := R_Mo) 2 hts (x_gi (by decide +kernel)) rfl rfl rfl (by decide +kernel) ⟨by decide, by decide⟩).1) (hts (.instanceMethod y_Mo_latest) (by decide +kernel)) (hts (.selects R_Mo y_Mo_latest y_Mo_latest) (by decide +kernel)) (y_recv (ci := 5) (q := (R_Mo, F_Mo, 20)) hK hP rfl (m_at hri (i := 20) (by decide))) hE hP hA hA0 hS rfl hl.1 rfl (lv_room (Nat.le_of_ble_eq_true rfl)) d_Mo_reachable_255 (by first | decide | omega) (by first | decide | omega) (fun v9 g9 H locs hq9 hP hA hS => ?_) (fun E9 q9 ce9 g9 H locs hq9 hP hA hS z1 z2 z3 => ?_)
        rotate_left
        · exact nomatch hq9.1
        obtain ⟨hv9, hg9⟩ := hq9
        cases hv9
        rw [hg9] at hP hA
        refine W.eq (g2 := F0 m 258 ls [.long (m_lat T (nI o) (S.1 12 e1) en)]) rfl ?_
        have hlat : m_lat T (nI o) (S.1 12 e1) en = lN b := by
          rw [m_lat.eq (S := S) (S' := T) (fun i _ => ⟨by rw [t11], by rw [t12], by rw [hJ.1.1]⟩), ← r14 o (S.1 12 e1) o1 o2]
          exact b3
        rw [hlat]
        refine lv_l2i hx hb d_Mo_reachable_258 rfl ?_
        rw [lN_i]
        refine lv_istore hx hb d_Mo_reachable_259 hl (by decide) rfl (fun ls hl => ?_)
        have hl : lv_has ls 7 [(6, .int (nI b)), (5, .int (nI e1)), (4, .int (nI o)), (2, .long (lN (z_sum (a_wd a) (fun z => m_sn a T z ∧ z ∉ ps) a.n))), (1, .int (nI ps.length)), (0, .ref (r 20))] := hl
        refine lv_iload hx hb d_Mo_reachable_261 (lv_at hl 0 rfl) ?_
        refine lv_if_eq hx hb d_Mo_reachable_263 rfl (fun h5 => ?_) (fun h5 => ?_)
        · -- ifeq at 263: to 295
          have hl : lv_has ls 7 [(5, .int (nI e1)), (4, .int (nI o)), (2, .long (lN (z_sum (a_wd a) (fun z => m_sn a T z ∧ z ∉ ps) a.n))), (1, .int (nI ps.length)), (0, .ref (r 20))] := lv_sub hl [1, 2, 3, 4, 5] rfl
          exact step ls H locs T ps hl hP hA hS hJ hI hf (fun b9 _ _ z3 z4 z5 => by have e9 : b9 = b := (lN_eq (by omega) (by omega)).mp (z3.symm.trans b3); have hh_ : b = 0 := (nI_eq (b := 0) (by omega) (by omega)).mp h5; omega)
        · -- ifeq at 263: to 266
          have hb1 : 1 ≤ b := by have hh_ : b ≠ 0 := fun z => h5 (by rw [z]; rfl); omega
          have hclb : (nI b).toNatClampNeg = b := nI_clamp (by omega)
          refine lv_aload_n hx hb d_Mo_reachable_266 rfl (lv_at hl 5 rfl) ?_
          refine y_get (D := D) (ci := 5) (v := .ref (r 18)) (C := R_Mo) (T := F_Mo) (N := 20) hx hb hts in_Mo hown hK hP (m_at hri (i := 20) (by decide)) rfl 18 (by decide) (hts (.fieldLink R_Mo 56 "MemoryDeskModel" "reached" "[Z") (by decide +kernel)) (fun _ h9 => h9) rfl d_Mo_reachable_267 ?_
          refine lv_iload hx hb d_Mo_reachable_270 (lv_at hl 0 rfl) ?_
          refine y_zald (f := (T.1 18)) hx hb hK hP 3 (m_at hri (i := 18) (by decide)) rfl (vp_in_nI (by omega) (by decide)) d_Mo_reachable_272 ?_
          rw [hclb]
          refine lv_if_ne hx hb d_Mo_reachable_273 rfl (fun h6 => ?_) (fun h6 => ?_)
          · -- ifne at 273: to 295
            have hs4 : m_sn a T b := ⟨hb1, b2, (hJ.2.2 b hb1 b2).resolve_left h6⟩
            have hl : lv_has ls 7 [(5, .int (nI e1)), (4, .int (nI o)), (2, .long (lN (z_sum (a_wd a) (fun z => m_sn a T z ∧ z ∉ ps) a.n))), (1, .int (nI ps.length)), (0, .ref (r 20))] := lv_sub hl [1, 2, 3, 4, 5] rfl
            exact step ls H locs T ps hl hP hA hS hJ hI hf (fun b9 _ _ z3 _ z5 => by have e9 : b9 = b := (lN_eq (by omega) (by omega)).mp (z3.symm.trans b3); rw [e9]; exact hs4)
          · -- ifne at 273: to 276
            have hns : ¬ m_sn a T b := fun z => by have hh_ := z.2.2; rw [h6] at hh_; exact absurd hh_ (by decide)
            have hRb : a_R a b := z_R.step hRo ⟨o1, o2, hb1, b2, S.1 12 e1, hrf, b3⟩
            obtain ⟨hI2, hF2⟩ := hI.visit hb1 b2 hRb hns
            have hroom2 := hI2.room
            rw [List.length_cons] at hroom2
            refine lv_aload_n hx hb d_Mo_reachable_276 rfl (lv_at hl 5 rfl) ?_
            refine y_get (D := D) (ci := 5) (v := .ref (r 18)) (C := R_Mo) (T := F_Mo) (N := 20) hx hb hts in_Mo hown hK hP (m_at hri (i := 20) (by decide)) rfl 18 (by decide) (hts (.fieldLink R_Mo 56 "MemoryDeskModel" "reached" "[Z") (by decide +kernel)) (fun _ h9 => h9) rfl d_Mo_reachable_277 ?_
            refine lv_iload hx hb d_Mo_reachable_280 (lv_at hl 0 rfl) ?_
            refine lv_iconst (v := 1) hx hb d_Mo_reachable_282 (by decide) ?_
            refine y_zast (f := (T.1 18)) hx hb hK hP hA hS 3 (m_at hri (i := 18) (by decide)) rfl (vp_in_nI (by omega) (by decide)) m_nar1 d_Mo_reachable_283 (fun H locs hP hA hS => ?_)
            have e9 : va_up (m_w r cN cZ cL T) (r 18) (some (.inl (cZ, 514, .inl (upd (T.1 18) (nI b).toNatClampNeg 1)))) = (m_w r cN cZ cL (m_a T 18 (nI b).toNatClampNeg 1)) := m_wa18 hri T (nI b).toNatClampNeg 1
            have hP : y_P D vwCl (m_w r cN cZ cL (m_a T 18 (nI b).toNatClampNeg 1)) H := by rw [← e9]; exact hP
            have hA : ∀ q99 e99, (m_w r cN cZ cL (m_a T 18 (nI b).toNatClampNeg 1)) q99 = some e99 → A q99 := by rw [← e9]; exact hA
            refine lv_aload_n hx hb d_Mo_reachable_284 rfl (lv_at hl 5 rfl) ?_
            refine y_get (D := D) (ci := 5) (v := .ref (r 17)) (C := R_Mo) (T := F_Mo) (N := 20) hx hb hts in_Mo hown hK hP (m_at hri (i := 20) (by decide)) rfl 17 (by decide) (hts (.fieldLink R_Mo 53 "MemoryDeskModel" "todo" "[I") (by decide +kernel)) (fun _ h9 => h9) rfl d_Mo_reachable_285 ?_
            refine lv_iload_n hx hb d_Mo_reachable_288 rfl (lv_at hl 4 rfl) ?_
            refine lv_iinc (k := 4) (v := ((nI ps.length) + 1)) hx hb d_Mo_reachable_289 hl rfl rfl (by decide) rfl (fun ls hl => ?_)
            have hl : lv_has ls 7 [(1, .int ((nI ps.length) + 1)), (6, .int (nI b)), (5, .int (nI e1)), (4, .int (nI o)), (2, .long (lN (z_sum (a_wd a) (fun z => m_sn a T z ∧ z ∉ ps) a.n))), (0, .ref (r 20))] := hl
            refine lv_iload hx hb d_Mo_reachable_292 (lv_at hl 1 rfl) ?_
            refine y_iast (f := (T.1 17)) hx hb hK hP hA hS 2 (m_at hri (i := 17) (by decide)) rfl (vp_in_nI (by omega) (by decide)) d_Mo_reachable_294 (fun H locs hP hA hS => ?_)
            have e9 : va_up (m_w r cN cZ cL (m_a T 18 (nI b).toNatClampNeg 1)) (r 17) (some (.inl (cN, 514, .inl (upd (T.1 17) (nI ps.length).toNatClampNeg (nI b))))) = (m_w r cN cZ cL (m_a (m_a T 18 (nI b).toNatClampNeg 1) 17 (nI ps.length).toNatClampNeg (nI b))) := m_wa17 hri (m_a T 18 (nI b).toNatClampNeg 1) (nI ps.length).toNatClampNeg (nI b)
            have hP : y_P D vwCl (m_w r cN cZ cL (m_a (m_a T 18 (nI b).toNatClampNeg 1) 17 (nI ps.length).toNatClampNeg (nI b))) H := by rw [← e9]; exact hP
            have hA : ∀ q99 e99, (m_w r cN cZ cL (m_a (m_a T 18 (nI b).toNatClampNeg 1) 17 (nI ps.length).toNatClampNeg (nI b))) q99 = some e99 → A q99 := by rw [← e9]; exact hA
            have hTT : (m_a (m_a T 18 (nI b).toNatClampNeg 1) 17 (nI ps.length).toNatClampNeg (nI b)) = (m_a (m_a T 18 b 1) 17 ps.length (nI b)) := by rw [hclb, nI_clamp (show ps.length < 2 ^ 31 by omega)]
            rw [hTT] at hP hA
            have hl : lv_has ls 7 [(5, .int (nI e1)), (4, .int (nI o)), (2, .long (lN (z_sum (a_wd a) (fun z => m_sn a T z ∧ z ∉ ps) a.n))), (1, .int ((nI ps.length) + 1)), (0, .ref (r 20))] := lv_sub hl [2, 3, 4, 0, 5] rfl
            rw [nI_1] at hl
            have hsn9 : m_sn a (m_a (m_a T 18 b 1) 17 ps.length (nI b)) = _ := m_sn.visit (T := T) (ps := ps) hb1 b2
            refine step ls H locs (m_a (m_a T 18 b 1) 17 ps.length (nI b)) (b :: ps) ?_ hP hA hS hJ.visit ?_ ?_ ?_
            · rw [hsn9, hF2]; exact hl
            · rw [hsn9]; exact hI2
            · rw [hsn9, hF2]; exact hf
            · intro b9 _ _ z3 _ z5
              have e9 : b9 = b := (lN_eq (by omega) (by omega)).mp (z3.symm.trans b3)
              rw [hsn9, e9]; exact Or.inr rfl
      · -- ifne at 239: to 242
        refine lv_goto hx hb d_Mo_reachable_242 rfl ?_
        have hl : lv_has ls 7 [(5, .int (nI e1)), (4, .int (nI o)), (2, .long (lN (z_sum (a_wd a) (fun z => m_sn a T z ∧ z ∉ ps) a.n))), (1, .int (nI ps.length)), (0, .ref (r 20))] := lv_sub hl [0, 1, 2, 3, 4] rfl
        exact step ls H locs T ps hl hP hA hS hJ hI hf (fun b9 _ z2 _ _ _ => by have hh_ := h4; rw [c_bit.y z2] at hh_; exact absurd hh_ (by decide))
set_option maxHeartbeats 8000000 in
set_option maxRecDepth 100000 in
/-- reachable(): until nothing waits -/
theorem c_mr_W (l : Launch) (D : va_G) (cK cI cN cZ cL : ClassId) (r : Nat → Nat) (hri : m_inj r) (S : MS) (a : Ab) (cn : Nat) (hw : a_W a cn) (hc : cn ≤ 512) (hR : m_R a S cn) {p : Program} {e : Env} {s : State} {m : MethodId} {below : List Frame} {meth : Method} {c : Code} {A : Nat → Prop} {QQ : State → Prop} (hx : p.tables.exec = Jvm.exec) (hb : c.code = b_Mo_reachable) (hml : c.maxLocals = 7) (hown : s.vm.findClass R_Mo = some m.cls) (hts : ∀ w ∈ x_tbl, w.before ([.ref (r 20)] : List Value).toArray s = true) (hK : va_K D vwCl (x_tys cK cI cN cZ cL) s) (hE : w_E D (x_tys cK cI cN cZ cL) A s s.heap) (hA0 : ∀ q, s.heap.size ≤ q → A q) (hr : meth.sig.returnType = some .long) (hlocks : meth.locks = false) (hAe : y_A (m_w r cN cZ cL S) s.heap.size = A) (hQ : QQ = x_Q below (w_Qc D (m_w r cN cZ cL S) s.heap.size (fun r9 g9 => r9 = .inl (some (.long (lN (a_use a)))) ∧ ∃ T, m_Q S T ∧ g9 = m_w r cN cZ cL T)) ([.ref (r 20)] : List Value).toArray s 0 0 A) : ∀ (f : Nat) (ls : Array Slot) (H : Heap) (locs : List Loc) (T : MS) (ps : List Nat), lv_has ls 7 [(2, .long (lN (z_sum (a_wd a) (fun z => m_sn a T z ∧ z ∉ ps) a.n))), (1, .int (nI ps.length)), (0, .ref (r 20))] → y_P D vwCl (m_w r cN cZ cL T) H → (∀ q99 e99, (m_w r cN cZ cL T) q99 = some e99 → A q99) → va_S A s.heap H locs → m_J a S T ps → z_I (a_root a) (a_ed a) a.n (m_sn a T) ps (fun _ => False) (fun _ _ => False) → a.n ≤ f + z_sum (fun _ => 1) (fun z => m_sn a T z ∧ z ∉ ps) a.n → W p l e rmW s m ([.ref (r 20)] : List Value).toArray below meth c H locs 0 0 QQ (F0 m 162 ls []) := by
  have hn : a.n ≤ cn := hw.2.2.2.2.2.2.2.2.2.1
  have hkc : a.kc ≤ cn := hw.2.2.2.2.2.2.2.2.2.2.2
  have hR0 := hR
  obtain ⟨r1, ⟨r2, r3, r4, r5⟩, r6, r7, r8, r9, r10, en, r11, r12, r13, r14⟩ := hR
  intro f
  induction f with
  | zero =>
    intro ls H locs T ps hl hP hA hS hJ hI hf
    have hroom := hI.room
    cases ps with
    | nil =>
      have hl : lv_has ls 7 [(2, .long (lN (z_sum (a_wd a) (fun z => m_sn a T z ∧ z ∉ []) a.n))), (1, .int (nI 0)), (0, .ref (r 20))] := hl
      refine lv_iload_n hx hb d_Mo_reachable_162 rfl (lv_at hl 1 rfl) ?_
      refine lv_if_le hx hb d_Mo_reachable_163 rfl (fun h1 => ?_) (fun h1 => (absurd (by decide +kernel) h1))
      refine lv_lload_n hx hb d_Mo_reachable_304 rfl (lv_at hl 0 rfl) ?_
      rw [hQ]
      have hsum : z_sum (a_wd a) (fun z => m_sn a T z ∧ z ∉ []) a.n = a_use a := z_congr (fun z _ _ => ⟨fun y => (hI.done z).mp y.1, fun y => ⟨(hI.done z).mpr y, List.not_mem_nil⟩⟩) (fun _ _ _ _ => rfl)
      refine W.widen (k := 0) (n := 0) (by first | decide | omega) (by first | decide | omega) ?_
      exact x_ret (W.lret (v := (lN (z_sum (a_wd a) (fun z => m_sn a T z ∧ z ∉ []) a.n))) hx hb hr (w_fin rfl hAe ⟨by rw [hsum], T, hJ.1, rfl⟩ hP hA hS) hS.2.2 d_Mo_reachable_305)
    | cons o ps =>
      rw [List.length_cons] at hroom
      omega
  | succ f ih =>
    intro ls H locs T ps hl hP hA hS hJ hI hf
    have hroom := hI.room
    cases ps with
    | nil =>
      have hl : lv_has ls 7 [(2, .long (lN (z_sum (a_wd a) (fun z => m_sn a T z ∧ z ∉ []) a.n))), (1, .int (nI 0)), (0, .ref (r 20))] := hl
      refine lv_iload_n hx hb d_Mo_reachable_162 rfl (lv_at hl 1 rfl) ?_
      refine lv_if_le hx hb d_Mo_reachable_163 rfl (fun h2 => ?_) (fun h2 => (absurd (by decide +kernel) h2))
      refine lv_lload_n hx hb d_Mo_reachable_304 rfl (lv_at hl 0 rfl) ?_
      rw [hQ]
      have hsum : z_sum (a_wd a) (fun z => m_sn a T z ∧ z ∉ []) a.n = a_use a := z_congr (fun z _ _ => ⟨fun y => (hI.done z).mp y.1, fun y => ⟨(hI.done z).mpr y, List.not_mem_nil⟩⟩) (fun _ _ _ _ => rfl)
      refine W.widen (k := 0) (n := 0) (by first | decide | omega) (by first | decide | omega) ?_
      exact x_ret (W.lret (v := (lN (z_sum (a_wd a) (fun z => m_sn a T z ∧ z ∉ []) a.n))) hx hb hr (w_fin rfl hAe ⟨by rw [hsum], T, hJ.1, rfl⟩ hP hA hS) hS.2.2 d_Mo_reachable_305)
    | cons o ps =>
      rw [List.length_cons] at hroom
      obtain ⟨hI1, hF, o1, o2, hRo⟩ := hI.pop
      have hRT := hJ.1.R hR0
      obtain ⟨hok, hcl, -⟩ := hRT.ok hw hc o1 o2
      obtain ⟨ho17, hJt⟩ := hJ.2.1
      have hl : lv_has ls 7 [(2, .long (lN (z_sum (a_wd a) (fun z => m_sn a T z ∧ z ∉ (o :: ps)) a.n))), (1, .int (nI (ps.length + 1))), (0, .ref (r 20))] := hl
      refine lv_iload_n hx hb d_Mo_reachable_162 rfl (lv_at hl 1 rfl) ?_
      refine lv_if_le hx hb d_Mo_reachable_163 rfl (fun h3 => (absurd h3 (nI_nle (by omega) (by omega)))) (fun h3 => ?_)
      refine lv_aload_n hx hb d_Mo_reachable_166 rfl (lv_at hl 2 rfl) ?_
      refine y_get (D := D) (ci := 5) (v := .ref (r 17)) (C := R_Mo) (T := F_Mo) (N := 20) hx hb hts in_Mo hown hK hP (m_at hri (i := 20) (by decide)) rfl 17 (by decide) (hts (.fieldLink R_Mo 53 "MemoryDeskModel" "todo" "[I") (by decide +kernel)) (fun _ h9 => h9) rfl d_Mo_reachable_167 ?_
      refine lv_iinc (k := 1) (v := ((nI (ps.length + 1)) + (-1))) hx hb d_Mo_reachable_170 hl rfl rfl (by decide) rfl (fun ls hl => ?_)
      have hl : lv_has ls 7 [(1, .int ((nI (ps.length + 1)) + (-1))), (2, .long (lN (z_sum (a_wd a) (fun z => m_sn a T z ∧ z ∉ (o :: ps)) a.n))), (0, .ref (r 20))] := hl
      rw [← sub_neg9, nI_pred] at hl
      refine lv_iload_n hx hb d_Mo_reachable_173 rfl (lv_at hl 0 rfl) ?_
      refine y_iald (f := (T.1 17)) hx hb hK hP 2 (m_at hri (i := 17) (by decide)) rfl (vp_in_nI (by omega) (by decide)) d_Mo_reachable_174 ?_
      rw [show T.1 17 (nI ps.length).toNatClampNeg = nI o by rw [nI_clamp (by omega)]; exact ho17]
      refine lv_istore hx hb d_Mo_reachable_175 hl (by decide) rfl (fun ls hl => ?_)
      have hl : lv_has ls 7 [(4, .int (nI o)), (1, .int (nI ps.length)), (2, .long (lN (z_sum (a_wd a) (fun z => m_sn a T z ∧ z ∉ (o :: ps)) a.n))), (0, .ref (r 20))] := hl
      refine lv_lload_n hx hb d_Mo_reachable_177 rfl (lv_at hl 2 rfl) ?_
      refine lv_aload_n hx hb d_Mo_reachable_178 rfl (lv_at hl 3 rfl) ?_
      refine y_get (D := D) (ci := 5) (v := .ref (r 2)) (C := R_Mo) (T := F_Mo) (N := 20) hx hb hts in_Mo hown hK hP (m_at hri (i := 20) (by decide)) rfl 2 (by decide) (hts (.fieldLink R_Mo 16 "MemoryDeskModel" "kindRow" "[I") (by decide +kernel)) (fun _ h9 => h9) rfl d_Mo_reachable_179 ?_
      refine lv_aload_n hx hb d_Mo_reachable_182 rfl (lv_at hl 3 rfl) ?_
      refine y_get (D := D) (ci := 5) (v := .ref (r 4)) (C := R_Mo) (T := F_Mo) (N := 20) hx hb hts in_Mo hown hK hP (m_at hri (i := 20) (by decide)) rfl 4 (by decide) (hts (.fieldLink R_Mo 23 "MemoryDeskModel" "objectKind" "[I") (by decide +kernel)) (fun _ h9 => h9) rfl d_Mo_reachable_183 ?_
      refine lv_iload hx hb d_Mo_reachable_186 (lv_at hl 0 rfl) ?_
      refine y_iald (f := (T.1 4)) hx hb hK hP 2 (m_at hri (i := 4) (by decide)) rfl hok.1 d_Mo_reachable_188 ?_
      refine y_iald (f := (T.1 2)) hx hb hK hP 2 (m_at hri (i := 2) (by decide)) rfl hok.2 d_Mo_reachable_189 ?_
      refine lv_aload_n hx hb d_Mo_reachable_190 rfl (lv_at hl 3 rfl) ?_
      refine lv_iload hx hb d_Mo_reachable_191 (lv_at hl 0 rfl) ?_
      refine w_callV (As := [.int (nI o)]) (C := R_Mo) ⟨hx, hb, hml, hown, hts⟩ (c_Mo_many l D cK cI cN cZ cL r hri T _ (nI o) hok) (x_cb (cwV (own := R_Mo) (index := 77) (C := R_Mo) 1 hts (x_gi (by decide +kernel)) rfl rfl rfl (by decide +kernel) ⟨by decide, by decide⟩).1) (hts (.instanceMethod y_Mo_many) (by decide +kernel)) (hts (.selects R_Mo y_Mo_many y_Mo_many) (by decide +kernel)) (y_recv (ci := 5) (q := (R_Mo, F_Mo, 20)) hK hP rfl (m_at hri (i := 20) (by decide))) hE hP hA hA0 hS rfl hl.1 rfl (lv_room (Nat.le_of_ble_eq_true rfl)) d_Mo_reachable_193 (by first | decide | omega) (by first | decide | omega) (fun v9 g9 H locs hq9 hP hA hS => ?_) (fun E9 q9 ce9 g9 H locs hq9 hP hA hS z1 z2 z3 => ?_)
      rotate_left
      · exact nomatch hq9.1
      obtain ⟨hv9, hg9⟩ := hq9
      cases hv9
      rw [hg9] at hP hA
      refine W.eq (g2 := F0 m 196 ls [.int (m_many T (nI o)), .int ((T.1 2) ((T.1 4) (nI o).toNatClampNeg).toNatClampNeg), .long (lN (z_sum (a_wd a) (fun z => m_sn a T z ∧ z ∉ (o :: ps)) a.n))]) rfl ?_
      refine lv_i2l hx hb d_Mo_reachable_196 rfl ?_
      refine w_callS (As := [.int ((T.1 2) ((T.1 4) (nI o).toNatClampNeg).toNatClampNeg), .long ((m_many T (nI o)).toInt64)]) ⟨hx, hb, hml, hown, hts⟩ (c_Mo_takes l D cK cI cN cZ cL r hri T _ _ _) (x_cb (va_cwS (own := R_Mo) (index := 81) 2 hts (x_gi (by decide +kernel)) rfl rfl rfl (by decide +kernel) ⟨by decide, by decide⟩).1) (hts (.static y_Mo_takes) (by decide +kernel)) hE hP hA hA0 hS rfl hl.1 rfl (lv_room (Nat.le_of_ble_eq_true rfl)) d_Mo_reachable_197 (by first | decide | omega) (by first | decide | omega) (fun v9 g9 H locs hq9 hP hA hS => ?_) (fun E9 q9 ce9 g9 H locs hq9 hP hA hS z1 z2 z3 => ?_)
      rotate_left
      · exact nomatch hq9.1
      obtain ⟨hv9, hg9⟩ := hq9
      cases hv9
      rw [hg9] at hP hA
      refine W.eq (g2 := F0 m 200 ls [.long (m_tk (m_row T (nI o)) (m_many T (nI o)).toInt64), .long (lN (z_sum (a_wd a) (fun z => m_sn a T z ∧ z ∉ (o :: ps)) a.n))]) rfl ?_
      rw [hRT.wd hw hc o1 o2]
      refine lv_ladd hx hb d_Mo_reachable_200 ?_
      rw [lN_add, ← hF]
      refine lv_lstore_n hx hb d_Mo_reachable_201 rfl hl (by decide) rfl (fun ls hl => ?_)
      have hl : lv_has ls 7 [(2, .long (lN (z_sum (a_wd a) (fun z => m_sn a T z ∧ z ∉ ps) a.n))), (4, .int (nI o)), (1, .int (nI ps.length)), (0, .ref (r 20))] := hl
      refine lv_iconst (v := 0) hx hb d_Mo_reachable_202 (by decide) ?_
      refine lv_istore hx hb d_Mo_reachable_203 hl (by decide) rfl (fun ls hl => ?_)
      have hl : lv_has ls 7 [(5, .int 0), (2, .long (lN (z_sum (a_wd a) (fun z => m_sn a T z ∧ z ∉ ps) a.n))), (4, .int (nI o)), (1, .int (nI ps.length)), (0, .ref (r 20))] := hl
      have hl : lv_has ls 7 [(5, .int 0), (4, .int (nI o)), (2, .long (lN (z_sum (a_wd a) (fun z => m_sn a T z ∧ z ∉ ps) a.n))), (1, .int (nI ps.length)), (0, .ref (r 20))] := lv_sub hl [0, 2, 1, 3, 4] rfl
      have hJ1 : m_J a S T ps := ⟨hJ.1, hJt, hJ.2.2⟩
      refine c_mr_E l D cK cI cN cZ cL r hri S a cn hw hc hR0 hx hb hml hown hts hK hE hA0 en r11 r12 r14 o o1 o2 hRo f ih en 0 ls H locs T ps (by omega) hl hP hA hS hJ1 (hI1.mono (fun _ _ z => z.elim) (fun x b _ _ hxb z => ?_)) (by rw [hF]; omega)
      have hxo : x = o := z.resolve_left id
      subst hxo
      obtain ⟨-, -, b1, b2, k, hk, hct⟩ := hxb
      have hct1 := hct
      rw [r14 x k o1 o2] at hct1
      obtain ⟨i, i1, i2, i3⟩ := m_lat.ne (S := S) (o := nI x) (k := k) (n := en) (by rw [hct1]; exact fun y => absurd ((lN_eq (b := 0) (by omega) (by omega)).mp y) (by omega))
      exact Or.inr ⟨rfl, i, Nat.zero_le _, i1, i2, by rw [i3]; exact hk, by rw [i3]; exact hct⟩
set_option maxHeartbeats 8000000 in
set_option maxRecDepth 100000 in
/-- reachable(): how many words all takes that can be come to -/
theorem c_Mo_reachable (l : Launch) (D : va_G) (cK cI cN cZ cL : ClassId) (r : Nat → Nat) (hri : m_inj r) (S : MS) (sz : Nat) (a : Ab) (cn : Nat) (hw : a_W a cn) (hc : cn ≤ 512) (hR : m_R a S cn) : x_M l y_Mo_reachable [.code y_Mo_reachable b_Mo_reachable 7 (some .long)] rmW (w_Pc D (x_tys cK cI cN cZ cL) [.ref (r 20)] (m_w r cN cZ cL S) sz) (w_Qc D (m_w r cN cZ cL S) sz (fun r9 g9 => r9 = .inl (some (.long (lN (a_use a)))) ∧ ∃ T, m_Q S T ∧ g9 = m_w r cN cZ cL T)) 0 0 (y_A (m_w r cN cZ cL S) sz) := by
  refine x_ofW (cc := b_Mo_reachable) (maxL := 7) (ret := (some .long)) (by decide) rfl ?_
  intro p e s m args below meth c s₁ B hml hno hv
  obtain ⟨rfl, hsz, hP, hE⟩ := hv
  subst hsz
  have hts := hE.hts ([.ref (r 20)] : List Value).toArray
  have hK := hE.1.2.1
  have hA0 : ∀ q, s.heap.size ≤ q → y_A (m_w r cN cZ cL S) s.heap.size q := fun q h => Or.inr h
  have hA : ∀ q e, (m_w r cN cZ cL S) q = some e → y_A (m_w r cN cZ cL S) s.heap.size q := fun q e h => Or.inl (by rw [h]; exact fun z => nomatch z)
  have hS : va_S (y_A (m_w r cN cZ cL S) s.heap.size) s.heap s.heap [] := va_S.rf
  generalize hAe : y_A (m_w r cN cZ cL S) s.heap.size = A at hE hA0 hA hS ⊢
  have hx := B.exec
  have hb := B.bytes
  have hr := B.returns
  have hlocks := B.notSynchronized
  have hown : s.vm.findClass R_Mo = some m.cls := findClass_of_methodNamed B.named
  have hl := lv_entry ([.ref (r 20)]) (n := 7) (Nat.le_of_ble_eq_true rfl)
  rw [lg_entry_eq]
  generalize (lg_sl ([.ref (r 20)]) ++ List.replicate (7 - (lg_sl ([.ref (r 20)])).length) Slot.unset).toArray = ls at hl ⊢
  have hl : lv_has ls 7 [(0, .ref (r 20))] := hl
  obtain ⟨QQ, hQ⟩ : ∃ z, z = x_Q below (w_Qc D (m_w r cN cZ cL S) s.heap.size (fun r9 g9 => r9 = .inl (some (.long (lN (a_use a)))) ∧ ∃ T, m_Q S T ∧ g9 = m_w r cN cZ cL T)) ([.ref (r 20)] : List Value).toArray s 0 0 A := ⟨_, rfl⟩
  rw [← hQ]
  have hn : a.n ≤ cn := hw.2.2.2.2.2.2.2.2.2.1
  have hkc : a.kc ≤ cn := hw.2.2.2.2.2.2.2.2.2.2.2
  have hR0 := hR
  obtain ⟨r1, ⟨r2, r3, r4, r5⟩, r6, r7, r8, r9, r10, en, r11, r12, r13, r14⟩ := hR
  have loopK : ∀ (f i : Nat) (ls : Array Slot) (H : Heap) (locs : List Loc) (T : MS) (ps : List Nat), i + f = a.kc → lv_has ls 7 [(4, .int (nI i)), (2, .long 0), (1, .int (nI ps.length)), (0, .ref (r 20))] → y_P D vwCl (m_w r cN cZ cL T) H → (∀ q99 e99, (m_w r cN cZ cL T) q99 = some e99 → A q99) → va_S A s.heap H locs → m_J a S T ps → z_I (a_root a) (a_ed a) a.n (m_sn a T) ps (fun q9 => ∃ z9, i ≤ z9 ∧ z9 < a.kc ∧ S.1 16 z9 = nI q9 ∧ a.kp q9) (fun _ _ => False) → (∀ w, z_sum w (fun z => m_sn a T z ∧ z ∉ ps) a.n = 0) → W p l e rmW s m ([.ref (r 20)] : List Value).toArray below meth c H locs 0 0 QQ (F0 m 103 ls []) := by
    intro f
    induction f with
    | zero =>
      intro i ls H locs T ps hif hl hP hA hS hJ hI hF
      refine lv_iload hx hb d_Mo_reachable_103 (lv_at hl 0 rfl) ?_
      refine lv_aload_n hx hb d_Mo_reachable_105 rfl (lv_at hl 3 rfl) ?_
      refine y_get (D := D) (ci := 5) (v := .int (T.2.2 19)) (C := R_Mo) (T := F_Mo) (N := 20) hx hb hts in_Mo hown hK hP (m_at hri (i := 20) (by decide)) rfl 19 (by decide) (hts (.fieldLink R_Mo 74 "MemoryDeskModel" "keeps" "I") (by decide +kernel)) (fun _ h9 => h9) rfl d_Mo_reachable_106 ?_
      rw [show T.2.2 19 = nI a.kc by rw [hJ.1.1]; exact r5]
      refine lv_icmp_ge hx hb d_Mo_reachable_109 rfl (fun h1 => ?_) (fun h1 => (absurd (show nI a.kc ≤ nI i from nI_le (a := a.kc) (b := i) (by omega) (by omega)) h1))
      have hl : lv_has ls 7 [(2, .long 0), (1, .int (nI ps.length)), (0, .ref (r 20))] := lv_sub hl [1, 2, 3] rfl
      refine c_mr_W l D cK cI cN cZ cL r hri S a cn hw hc hR0 hx hb hml hown hts hK hE hA0 hr hlocks hAe hQ a.n ls H locs T ps (by rw [hF]; exact hl) hP hA hS hJ (hI.mono (fun q9 _ z => by obtain ⟨z9, y1, y2, -⟩ := z; omega) (fun _ _ _ _ _ z => z.elim)) (by omega)
    | succ f ih =>
      intro i ls H locs T ps hif hl hP hA hS hJ hI hF
      refine lv_iload hx hb d_Mo_reachable_103 (lv_at hl 0 rfl) ?_
      refine lv_aload_n hx hb d_Mo_reachable_105 rfl (lv_at hl 3 rfl) ?_
      refine y_get (D := D) (ci := 5) (v := .int (T.2.2 19)) (C := R_Mo) (T := F_Mo) (N := 20) hx hb hts in_Mo hown hK hP (m_at hri (i := 20) (by decide)) rfl 19 (by decide) (hts (.fieldLink R_Mo 74 "MemoryDeskModel" "keeps" "I") (by decide +kernel)) (fun _ h9 => h9) rfl d_Mo_reachable_106 ?_
      rw [show T.2.2 19 = nI a.kc by rw [hJ.1.1]; exact r5]
      refine lv_icmp_ge hx hb d_Mo_reachable_109 rfl (fun h2 => (absurd h2 (nI_ge (a := i) (b := a.kc) (by omega) (by omega)))) (fun h2 => ?_)
      have hiN : i < a.kc := by omega
      have hin9 : vp_in (nI i) 514 := vp_in_nI (by omega) (by decide)
      have hcli : (nI i).toNatClampNeg = i := nI_clamp (by omega)
      have tk : T.1 16 = S.1 16 := hJ.1.2 16 (by decide) (by decide)
      obtain ⟨o, hko, hso⟩ := r10 i hiN
      obtain ⟨ho1, ho2⟩ := hw.2.2.2.1 o hko
      have hld : T.1 16 (nI i).toNatClampNeg = nI o := by rw [hcli, tk]; exact hso
      have hclo : (nI o).toNatClampNeg = o := nI_clamp (by omega)
      have hRo : a_R a o := z_R.root (Or.inr hko)
      refine lv_aload_n hx hb d_Mo_reachable_112 rfl (lv_at hl 3 rfl) ?_
      refine y_get (D := D) (ci := 5) (v := .ref (r 18)) (C := R_Mo) (T := F_Mo) (N := 20) hx hb hts in_Mo hown hK hP (m_at hri (i := 20) (by decide)) rfl 18 (by decide) (hts (.fieldLink R_Mo 56 "MemoryDeskModel" "reached" "[Z") (by decide +kernel)) (fun _ h9 => h9) rfl d_Mo_reachable_113 ?_
      refine lv_aload_n hx hb d_Mo_reachable_116 rfl (lv_at hl 3 rfl) ?_
      refine y_get (D := D) (ci := 5) (v := .ref (r 16)) (C := R_Mo) (T := F_Mo) (N := 20) hx hb hts in_Mo hown hK hP (m_at hri (i := 20) (by decide)) rfl 16 (by decide) (hts (.fieldLink R_Mo 50 "MemoryDeskModel" "kept" "[I") (by decide +kernel)) (fun _ h9 => h9) rfl d_Mo_reachable_117 ?_
      refine lv_iload hx hb d_Mo_reachable_120 (lv_at hl 0 rfl) ?_
      refine y_iald (f := (T.1 16)) hx hb hK hP 2 (m_at hri (i := 16) (by decide)) rfl hin9 d_Mo_reachable_122 ?_
      rw [hld]
      refine y_zald (f := (T.1 18)) hx hb hK hP 3 (m_at hri (i := 18) (by decide)) rfl (vp_in_nI (by omega) (by decide)) d_Mo_reachable_123 ?_
      rw [hclo]
      refine lv_if_ne hx hb d_Mo_reachable_124 rfl (fun h3 => ?_) (fun h3 => ?_)
      · -- ifne at 124: to 156
        have hs4 : m_sn a T o := ⟨ho1, ho2, (hJ.2.2 o ho1 ho2).resolve_left h3⟩
        refine lv_iinc (k := 0) (v := ((nI i) + 1)) hx hb d_Mo_reachable_156 hl rfl rfl (by decide) rfl (fun ls hl => ?_)
        have hl : lv_has ls 7 [(4, .int ((nI i) + 1)), (2, .long 0), (1, .int (nI ps.length)), (0, .ref (r 20))] := hl
        refine lv_goto hx hb d_Mo_reachable_159 rfl ?_
        have hl : lv_has ls 7 [(4, .int ((nI i) + 1)), (2, .long 0), (1, .int (nI ps.length)), (0, .ref (r 20))] := lv_sub hl [0, 1, 2, 3] rfl
        rw [nI_1] at hl
        exact ih (i + 1) ls H locs T ps (by omega) hl hP hA hS hJ (hI.mono (fun q9 _ z => (by obtain ⟨z9, y1, y2, y3⟩ := z; exact (Classical.em (z9 = i)).elim (fun hz => Or.inl (by rw [hz] at y3; have e9 : o = q9 := (nI_eq (by omega) (by have := hw.2.2.2.1 q9 y3.2; omega)).mp (hso.symm.trans y3.1); rw [← e9]; exact hs4)) (fun hz => Or.inr ⟨z9, by omega, y2, y3⟩))) (fun _ _ _ _ _ z => z.elim)) hF
      · -- ifne at 124: to 127
        have hns : ¬ m_sn a T o := fun z => by have hh_ := z.2.2; rw [h3] at hh_; exact absurd hh_ (by decide)
        obtain ⟨hI2, hF2⟩ := hI.visit ho1 ho2 hRo hns
        have hroom2 := hI2.room
        rw [List.length_cons] at hroom2
        refine lv_aload_n hx hb d_Mo_reachable_127 rfl (lv_at hl 3 rfl) ?_
        refine y_get (D := D) (ci := 5) (v := .ref (r 18)) (C := R_Mo) (T := F_Mo) (N := 20) hx hb hts in_Mo hown hK hP (m_at hri (i := 20) (by decide)) rfl 18 (by decide) (hts (.fieldLink R_Mo 56 "MemoryDeskModel" "reached" "[Z") (by decide +kernel)) (fun _ h9 => h9) rfl d_Mo_reachable_128 ?_
        refine lv_aload_n hx hb d_Mo_reachable_131 rfl (lv_at hl 3 rfl) ?_
        refine y_get (D := D) (ci := 5) (v := .ref (r 16)) (C := R_Mo) (T := F_Mo) (N := 20) hx hb hts in_Mo hown hK hP (m_at hri (i := 20) (by decide)) rfl 16 (by decide) (hts (.fieldLink R_Mo 50 "MemoryDeskModel" "kept" "[I") (by decide +kernel)) (fun _ h9 => h9) rfl d_Mo_reachable_132 ?_
        refine lv_iload hx hb d_Mo_reachable_135 (lv_at hl 0 rfl) ?_
        refine y_iald (f := (T.1 16)) hx hb hK hP 2 (m_at hri (i := 16) (by decide)) rfl hin9 d_Mo_reachable_137 ?_
        rw [hld]
        refine lv_iconst (v := 1) hx hb d_Mo_reachable_138 (by decide) ?_
        refine y_zast (f := (T.1 18)) hx hb hK hP hA hS 3 (m_at hri (i := 18) (by decide)) rfl (vp_in_nI (by omega) (by decide)) m_nar1 d_Mo_reachable_139 (fun H locs hP hA hS => ?_)
        have e9 : va_up (m_w r cN cZ cL T) (r 18) (some (.inl (cZ, 514, .inl (upd (T.1 18) (nI o).toNatClampNeg 1)))) = (m_w r cN cZ cL (m_a T 18 (nI o).toNatClampNeg 1)) := m_wa18 hri T (nI o).toNatClampNeg 1
        have hP : y_P D vwCl (m_w r cN cZ cL (m_a T 18 (nI o).toNatClampNeg 1)) H := by rw [← e9]; exact hP
        have hA : ∀ q99 e99, (m_w r cN cZ cL (m_a T 18 (nI o).toNatClampNeg 1)) q99 = some e99 → A q99 := by rw [← e9]; exact hA
        refine lv_aload_n hx hb d_Mo_reachable_140 rfl (lv_at hl 3 rfl) ?_
        refine y_get (D := D) (ci := 5) (v := .ref (r 17)) (C := R_Mo) (T := F_Mo) (N := 20) hx hb hts in_Mo hown hK hP (m_at hri (i := 20) (by decide)) rfl 17 (by decide) (hts (.fieldLink R_Mo 53 "MemoryDeskModel" "todo" "[I") (by decide +kernel)) (fun _ h9 => h9) rfl d_Mo_reachable_141 ?_
        refine lv_iload_n hx hb d_Mo_reachable_144 rfl (lv_at hl 2 rfl) ?_
        refine lv_iinc (k := 2) (v := ((nI ps.length) + 1)) hx hb d_Mo_reachable_145 hl rfl rfl (by decide) rfl (fun ls hl => ?_)
        have hl : lv_has ls 7 [(1, .int ((nI ps.length) + 1)), (4, .int (nI i)), (2, .long 0), (0, .ref (r 20))] := hl
        refine lv_aload_n hx hb d_Mo_reachable_148 rfl (lv_at hl 3 rfl) ?_
        refine y_get (D := D) (ci := 5) (v := .ref (r 16)) (C := R_Mo) (T := F_Mo) (N := 20) hx hb hts in_Mo hown hK hP (m_at hri (i := 20) (by decide)) rfl 16 (by decide) (hts (.fieldLink R_Mo 50 "MemoryDeskModel" "kept" "[I") (by decide +kernel)) (fun _ h9 => h9) rfl d_Mo_reachable_149 ?_
        refine lv_iload hx hb d_Mo_reachable_152 (lv_at hl 1 rfl) ?_
        refine y_iald (f := (T.1 16)) hx hb hK hP 2 (m_at hri (i := 16) (by decide)) rfl hin9 d_Mo_reachable_154 ?_
        rw [hld]
        refine y_iast (f := (T.1 17)) hx hb hK hP hA hS 2 (m_at hri (i := 17) (by decide)) rfl (vp_in_nI (by omega) (by decide)) d_Mo_reachable_155 (fun H locs hP hA hS => ?_)
        have e9 : va_up (m_w r cN cZ cL (m_a T 18 (nI o).toNatClampNeg 1)) (r 17) (some (.inl (cN, 514, .inl (upd (T.1 17) (nI ps.length).toNatClampNeg (nI o))))) = (m_w r cN cZ cL (m_a (m_a T 18 (nI o).toNatClampNeg 1) 17 (nI ps.length).toNatClampNeg (nI o))) := m_wa17 hri (m_a T 18 (nI o).toNatClampNeg 1) (nI ps.length).toNatClampNeg (nI o)
        have hP : y_P D vwCl (m_w r cN cZ cL (m_a (m_a T 18 (nI o).toNatClampNeg 1) 17 (nI ps.length).toNatClampNeg (nI o))) H := by rw [← e9]; exact hP
        have hA : ∀ q99 e99, (m_w r cN cZ cL (m_a (m_a T 18 (nI o).toNatClampNeg 1) 17 (nI ps.length).toNatClampNeg (nI o))) q99 = some e99 → A q99 := by rw [← e9]; exact hA
        have hTT : (m_a (m_a T 18 (nI o).toNatClampNeg 1) 17 (nI ps.length).toNatClampNeg (nI o)) = (m_a (m_a T 18 o 1) 17 ps.length (nI o)) := by rw [hclo, nI_clamp (show ps.length < 2 ^ 31 by omega)]
        rw [hTT] at hP hA
        refine lv_iinc (k := 1) (v := ((nI i) + 1)) hx hb d_Mo_reachable_156 hl rfl rfl (by decide) rfl (fun ls hl => ?_)
        have hl : lv_has ls 7 [(4, .int ((nI i) + 1)), (1, .int ((nI ps.length) + 1)), (2, .long 0), (0, .ref (r 20))] := hl
        refine lv_goto hx hb d_Mo_reachable_159 rfl ?_
        have hl : lv_has ls 7 [(4, .int ((nI i) + 1)), (2, .long 0), (1, .int ((nI ps.length) + 1)), (0, .ref (r 20))] := lv_sub hl [0, 2, 1, 3] rfl
        rw [nI_1, nI_1] at hl
        have hsn9 : m_sn a (m_a (m_a T 18 o 1) 17 ps.length (nI o)) = _ := m_sn.visit (T := T) (ps := ps) ho1 ho2
        refine ih (i + 1) ls H locs (m_a (m_a T 18 o 1) 17 ps.length (nI o)) (o :: ps) (by omega) hl hP hA hS hJ.visit ?_ ?_
        · rw [hsn9]
          exact hI2.mono (fun q9 _ z => (by obtain ⟨z9, y1, y2, y3⟩ := z; exact (Classical.em (z9 = i)).elim (fun hz => Or.inl (by rw [hz] at y3; have e9 : o = q9 := (nI_eq (by omega) (by have := hw.2.2.2.1 q9 y3.2; omega)).mp (hso.symm.trans y3.1); rw [← e9]; exact (Or.inr rfl))) (fun hz => Or.inr ⟨z9, by omega, y2, y3⟩))) (fun _ _ _ _ _ z => z.elim)
        · intro w; rw [hsn9, hF2]; exact hF w
  have loopS : ∀ (f i : Nat) (ls : Array Slot) (H : Heap) (locs : List Loc) (T : MS) (ps : List Nat), i + f = 32 → lv_has ls 7 [(4, .int (nI i)), (2, .long 0), (1, .int (nI ps.length)), (0, .ref (r 20))] → y_P D vwCl (m_w r cN cZ cL T) H → (∀ q99 e99, (m_w r cN cZ cL T) q99 = some e99 → A q99) → va_S A s.heap H locs → m_J a S T ps → z_I (a_root a) (a_ed a) a.n (m_sn a T) ps (fun q9 => (∃ z9, i ≤ z9 ∧ z9 < 32 ∧ a.sl z9 = q9 ∧ q9 ≠ 0) ∨ a.kp q9) (fun _ _ => False) → (∀ w, z_sum w (fun z => m_sn a T z ∧ z ∉ ps) a.n = 0) → W p l e rmW s m ([.ref (r 20)] : List Value).toArray below meth c H locs 0 0 QQ (F0 m 33 ls []) := by
    intro f
    induction f with
    | zero =>
      intro i ls H locs T ps hif hl hP hA hS hJ hI hF
      refine lv_iload hx hb d_Mo_reachable_33 (lv_at hl 0 rfl) ?_
      refine lv_bipush (v := 32) hx hb d_Mo_reachable_35 (by decide) ?_
      refine lv_icmp_ge hx hb d_Mo_reachable_37 rfl (fun h4 => ?_) (fun h4 => (absurd (show (32 : Int32) ≤ nI i from nI_le (a := 32) (b := i) (by omega) (by omega)) h4))
      refine lv_iconst (v := 0) hx hb d_Mo_reachable_100 (by decide) ?_
      refine lv_istore hx hb d_Mo_reachable_101 hl (by decide) rfl (fun ls hl => ?_)
      have hl : lv_has ls 7 [(4, .int 0), (2, .long 0), (1, .int (nI ps.length)), (0, .ref (r 20))] := hl
      have hl : lv_has ls 7 [(4, .int 0), (2, .long 0), (1, .int (nI ps.length)), (0, .ref (r 20))] := lv_sub hl [0, 1, 2, 3] rfl
      refine loopK a.kc 0 ls H locs T ps (by omega) hl hP hA hS hJ (hI.mono (fun q9 _ z => Or.inr (z.elim (fun y => by obtain ⟨z9, y1, y2, -⟩ := y; omega) (fun y => by obtain ⟨i9, y1, y2⟩ := r9 q9 y; exact ⟨i9, Nat.zero_le _, y1, y2, y⟩))) (fun _ _ _ _ _ z => z.elim)) hF
    | succ f ih =>
      intro i ls H locs T ps hif hl hP hA hS hJ hI hF
      refine lv_iload hx hb d_Mo_reachable_33 (lv_at hl 0 rfl) ?_
      refine lv_bipush (v := 32) hx hb d_Mo_reachable_35 (by decide) ?_
      refine lv_icmp_ge hx hb d_Mo_reachable_37 rfl (fun h5 => (absurd h5 (nI_ge (a := i) (b := 32) (by omega) (by omega)))) (fun h5 => ?_)
      have hiN : i < 32 := by omega
      have hin9 : vp_in (nI i) 32 := vp_in_nI (by omega) (by decide)
      have hcli : (nI i).toNatClampNeg = i := nI_clamp (by omega)
      have tk : T.1 15 = S.1 15 := hJ.1.2 15 (by decide) (by decide)
      have hso : S.1 15 i = nI (a.sl i) := r8 i hiN
      have ho2 : a.sl i ≤ a.n := hw.2.2.1 i hiN
      obtain ⟨o, hoo⟩ : ∃ o, o = a.sl i := ⟨_, rfl⟩
      rw [← hoo] at hso ho2
      have hld : T.1 15 (nI i).toNatClampNeg = nI o := by rw [hcli, tk]; exact hso
      have hclo : (nI o).toNatClampNeg = o := nI_clamp (by omega)
      refine lv_aload_n hx hb d_Mo_reachable_40 rfl (lv_at hl 3 rfl) ?_
      refine y_get (D := D) (ci := 5) (v := .ref (r 15)) (C := R_Mo) (T := F_Mo) (N := 20) hx hb hts in_Mo hown hK hP (m_at hri (i := 20) (by decide)) rfl 15 (by decide) (hts (.fieldLink R_Mo 47 "MemoryDeskModel" "slots" "[I") (by decide +kernel)) (fun _ h9 => h9) rfl d_Mo_reachable_41 ?_
      refine lv_iload hx hb d_Mo_reachable_44 (lv_at hl 0 rfl) ?_
      refine y_iald (f := (T.1 15)) hx hb hK hP 2 (m_at hri (i := 15) (by decide)) rfl hin9 d_Mo_reachable_46 ?_
      rw [hld]
      refine lv_if_eq hx hb d_Mo_reachable_47 rfl (fun h6 => ?_) (fun h6 => ?_)
      · -- ifeq at 47: to 94
        refine lv_iinc (k := 0) (v := ((nI i) + 1)) hx hb d_Mo_reachable_94 hl rfl rfl (by decide) rfl (fun ls hl => ?_)
        have hl : lv_has ls 7 [(4, .int ((nI i) + 1)), (2, .long 0), (1, .int (nI ps.length)), (0, .ref (r 20))] := hl
        refine lv_goto hx hb d_Mo_reachable_97 rfl ?_
        have hl : lv_has ls 7 [(4, .int ((nI i) + 1)), (2, .long 0), (1, .int (nI ps.length)), (0, .ref (r 20))] := lv_sub hl [0, 1, 2, 3] rfl
        rw [nI_1] at hl
        exact ih (i + 1) ls H locs T ps (by omega) hl hP hA hS hJ (hI.mono (fun q9 _ z => z.elim (fun y => by obtain ⟨z9, y1, y2, y3, y4⟩ := y; exact (Classical.em (z9 = i)).elim (fun hz => absurd ((nI_eq (b := 0) (by omega) (by omega)).mp h6) (by rw [hoo, ← hz, y3]; exact y4)) (fun hz => Or.inr (Or.inl ⟨z9, by omega, y2, y3, y4⟩))) (fun y => Or.inr (Or.inr y))) (fun _ _ _ _ _ z => z.elim)) hF
      · -- ifeq at 47: to 50
        have ho0 : o ≠ 0 := fun z => h6 (by rw [z]; rfl)
        have hRo : a_R a o := by rw [hoo] at ho0 ⊢; exact a_R.sl hiN ho0
        have ho1 : 1 ≤ o := by omega
        refine lv_aload_n hx hb d_Mo_reachable_50 rfl (lv_at hl 3 rfl) ?_
        refine y_get (D := D) (ci := 5) (v := .ref (r 18)) (C := R_Mo) (T := F_Mo) (N := 20) hx hb hts in_Mo hown hK hP (m_at hri (i := 20) (by decide)) rfl 18 (by decide) (hts (.fieldLink R_Mo 56 "MemoryDeskModel" "reached" "[Z") (by decide +kernel)) (fun _ h9 => h9) rfl d_Mo_reachable_51 ?_
        refine lv_aload_n hx hb d_Mo_reachable_54 rfl (lv_at hl 3 rfl) ?_
        refine y_get (D := D) (ci := 5) (v := .ref (r 15)) (C := R_Mo) (T := F_Mo) (N := 20) hx hb hts in_Mo hown hK hP (m_at hri (i := 20) (by decide)) rfl 15 (by decide) (hts (.fieldLink R_Mo 47 "MemoryDeskModel" "slots" "[I") (by decide +kernel)) (fun _ h9 => h9) rfl d_Mo_reachable_55 ?_
        refine lv_iload hx hb d_Mo_reachable_58 (lv_at hl 0 rfl) ?_
        refine y_iald (f := (T.1 15)) hx hb hK hP 2 (m_at hri (i := 15) (by decide)) rfl hin9 d_Mo_reachable_60 ?_
        rw [hld]
        refine y_zald (f := (T.1 18)) hx hb hK hP 3 (m_at hri (i := 18) (by decide)) rfl (vp_in_nI (by omega) (by decide)) d_Mo_reachable_61 ?_
        rw [hclo]
        refine lv_if_ne hx hb d_Mo_reachable_62 rfl (fun h7 => ?_) (fun h7 => ?_)
        · -- ifne at 62: to 94
          have hs4 : m_sn a T o := ⟨ho1, ho2, (hJ.2.2 o ho1 ho2).resolve_left h7⟩
          refine lv_iinc (k := 0) (v := ((nI i) + 1)) hx hb d_Mo_reachable_94 hl rfl rfl (by decide) rfl (fun ls hl => ?_)
          have hl : lv_has ls 7 [(4, .int ((nI i) + 1)), (2, .long 0), (1, .int (nI ps.length)), (0, .ref (r 20))] := hl
          refine lv_goto hx hb d_Mo_reachable_97 rfl ?_
          have hl : lv_has ls 7 [(4, .int ((nI i) + 1)), (2, .long 0), (1, .int (nI ps.length)), (0, .ref (r 20))] := lv_sub hl [0, 1, 2, 3] rfl
          rw [nI_1] at hl
          exact ih (i + 1) ls H locs T ps (by omega) hl hP hA hS hJ (hI.mono (fun q9 _ z => z.elim (fun y => by obtain ⟨z9, y1, y2, y3, y4⟩ := y; exact (Classical.em (z9 = i)).elim (fun hz => Or.inl (by rw [← y3, hz, ← hoo]; exact hs4)) (fun hz => Or.inr (Or.inl ⟨z9, by omega, y2, y3, y4⟩))) (fun y => Or.inr (Or.inr y))) (fun _ _ _ _ _ z => z.elim)) hF
        · -- ifne at 62: to 65
          have hns : ¬ m_sn a T o := fun z => by have hh_ := z.2.2; rw [h7] at hh_; exact absurd hh_ (by decide)
          obtain ⟨hI2, hF2⟩ := hI.visit ho1 ho2 hRo hns
          have hroom2 := hI2.room
          rw [List.length_cons] at hroom2
          refine lv_aload_n hx hb d_Mo_reachable_65 rfl (lv_at hl 3 rfl) ?_
          refine y_get (D := D) (ci := 5) (v := .ref (r 18)) (C := R_Mo) (T := F_Mo) (N := 20) hx hb hts in_Mo hown hK hP (m_at hri (i := 20) (by decide)) rfl 18 (by decide) (hts (.fieldLink R_Mo 56 "MemoryDeskModel" "reached" "[Z") (by decide +kernel)) (fun _ h9 => h9) rfl d_Mo_reachable_66 ?_
          refine lv_aload_n hx hb d_Mo_reachable_69 rfl (lv_at hl 3 rfl) ?_
          refine y_get (D := D) (ci := 5) (v := .ref (r 15)) (C := R_Mo) (T := F_Mo) (N := 20) hx hb hts in_Mo hown hK hP (m_at hri (i := 20) (by decide)) rfl 15 (by decide) (hts (.fieldLink R_Mo 47 "MemoryDeskModel" "slots" "[I") (by decide +kernel)) (fun _ h9 => h9) rfl d_Mo_reachable_70 ?_
          refine lv_iload hx hb d_Mo_reachable_73 (lv_at hl 0 rfl) ?_
          refine y_iald (f := (T.1 15)) hx hb hK hP 2 (m_at hri (i := 15) (by decide)) rfl hin9 d_Mo_reachable_75 ?_
          rw [hld]
          refine lv_iconst (v := 1) hx hb d_Mo_reachable_76 (by decide) ?_
          refine y_zast (f := (T.1 18)) hx hb hK hP hA hS 3 (m_at hri (i := 18) (by decide)) rfl (vp_in_nI (by omega) (by decide)) m_nar1 d_Mo_reachable_77 (fun H locs hP hA hS => ?_)
          have e9 : va_up (m_w r cN cZ cL T) (r 18) (some (.inl (cZ, 514, .inl (upd (T.1 18) (nI o).toNatClampNeg 1)))) = (m_w r cN cZ cL (m_a T 18 (nI o).toNatClampNeg 1)) := m_wa18 hri T (nI o).toNatClampNeg 1
          have hP : y_P D vwCl (m_w r cN cZ cL (m_a T 18 (nI o).toNatClampNeg 1)) H := by rw [← e9]; exact hP
          have hA : ∀ q99 e99, (m_w r cN cZ cL (m_a T 18 (nI o).toNatClampNeg 1)) q99 = some e99 → A q99 := by rw [← e9]; exact hA
          refine lv_aload_n hx hb d_Mo_reachable_78 rfl (lv_at hl 3 rfl) ?_
          refine y_get (D := D) (ci := 5) (v := .ref (r 17)) (C := R_Mo) (T := F_Mo) (N := 20) hx hb hts in_Mo hown hK hP (m_at hri (i := 20) (by decide)) rfl 17 (by decide) (hts (.fieldLink R_Mo 53 "MemoryDeskModel" "todo" "[I") (by decide +kernel)) (fun _ h9 => h9) rfl d_Mo_reachable_79 ?_
          refine lv_iload_n hx hb d_Mo_reachable_82 rfl (lv_at hl 2 rfl) ?_
          refine lv_iinc (k := 2) (v := ((nI ps.length) + 1)) hx hb d_Mo_reachable_83 hl rfl rfl (by decide) rfl (fun ls hl => ?_)
          have hl : lv_has ls 7 [(1, .int ((nI ps.length) + 1)), (4, .int (nI i)), (2, .long 0), (0, .ref (r 20))] := hl
          refine lv_aload_n hx hb d_Mo_reachable_86 rfl (lv_at hl 3 rfl) ?_
          refine y_get (D := D) (ci := 5) (v := .ref (r 15)) (C := R_Mo) (T := F_Mo) (N := 20) hx hb hts in_Mo hown hK hP (m_at hri (i := 20) (by decide)) rfl 15 (by decide) (hts (.fieldLink R_Mo 47 "MemoryDeskModel" "slots" "[I") (by decide +kernel)) (fun _ h9 => h9) rfl d_Mo_reachable_87 ?_
          refine lv_iload hx hb d_Mo_reachable_90 (lv_at hl 1 rfl) ?_
          refine y_iald (f := (T.1 15)) hx hb hK hP 2 (m_at hri (i := 15) (by decide)) rfl hin9 d_Mo_reachable_92 ?_
          rw [hld]
          refine y_iast (f := (T.1 17)) hx hb hK hP hA hS 2 (m_at hri (i := 17) (by decide)) rfl (vp_in_nI (by omega) (by decide)) d_Mo_reachable_93 (fun H locs hP hA hS => ?_)
          have e9 : va_up (m_w r cN cZ cL (m_a T 18 (nI o).toNatClampNeg 1)) (r 17) (some (.inl (cN, 514, .inl (upd (T.1 17) (nI ps.length).toNatClampNeg (nI o))))) = (m_w r cN cZ cL (m_a (m_a T 18 (nI o).toNatClampNeg 1) 17 (nI ps.length).toNatClampNeg (nI o))) := m_wa17 hri (m_a T 18 (nI o).toNatClampNeg 1) (nI ps.length).toNatClampNeg (nI o)
          have hP : y_P D vwCl (m_w r cN cZ cL (m_a (m_a T 18 (nI o).toNatClampNeg 1) 17 (nI ps.length).toNatClampNeg (nI o))) H := by rw [← e9]; exact hP
          have hA : ∀ q99 e99, (m_w r cN cZ cL (m_a (m_a T 18 (nI o).toNatClampNeg 1) 17 (nI ps.length).toNatClampNeg (nI o))) q99 = some e99 → A q99 := by rw [← e9]; exact hA
          have hTT : (m_a (m_a T 18 (nI o).toNatClampNeg 1) 17 (nI ps.length).toNatClampNeg (nI o)) = (m_a (m_a T 18 o 1) 17 ps.length (nI o)) := by rw [hclo, nI_clamp (show ps.length < 2 ^ 31 by omega)]
          rw [hTT] at hP hA
          refine lv_iinc (k := 1) (v := ((nI i) + 1)) hx hb d_Mo_reachable_94 hl rfl rfl (by decide) rfl (fun ls hl => ?_)
          have hl : lv_has ls 7 [(4, .int ((nI i) + 1)), (1, .int ((nI ps.length) + 1)), (2, .long 0), (0, .ref (r 20))] := hl
          refine lv_goto hx hb d_Mo_reachable_97 rfl ?_
          have hl : lv_has ls 7 [(4, .int ((nI i) + 1)), (2, .long 0), (1, .int ((nI ps.length) + 1)), (0, .ref (r 20))] := lv_sub hl [0, 2, 1, 3] rfl
          rw [nI_1, nI_1] at hl
          have hsn9 : m_sn a (m_a (m_a T 18 o 1) 17 ps.length (nI o)) = _ := m_sn.visit (T := T) (ps := ps) ho1 ho2
          refine ih (i + 1) ls H locs (m_a (m_a T 18 o 1) 17 ps.length (nI o)) (o :: ps) (by omega) hl hP hA hS hJ.visit ?_ ?_
          · rw [hsn9]
            exact hI2.mono (fun q9 _ z => z.elim (fun y => by obtain ⟨z9, y1, y2, y3, y4⟩ := y; exact (Classical.em (z9 = i)).elim (fun hz => Or.inl (by rw [← y3, hz, ← hoo]; exact (Or.inr rfl))) (fun hz => Or.inr (Or.inl ⟨z9, by omega, y2, y3, y4⟩))) (fun y => Or.inr (Or.inr y))) (fun _ _ _ _ _ z => z.elim)
          · intro w; rw [hsn9, hF2]; exact hF w
  have loopZ : ∀ (f i : Nat) (ls : Array Slot) (H : Heap) (locs : List Loc) (T : MS), 1 ≤ i → i + f = a.n + 1 → lv_has ls 7 [(4, .int (nI i)), (2, .long 0), (1, .int 0), (0, .ref (r 20))] → y_P D vwCl (m_w r cN cZ cL T) H → (∀ q99 e99, (m_w r cN cZ cL T) q99 = some e99 → A q99) → va_S A s.heap H locs → m_Q S T → (∀ o, 1 ≤ o → o < i → T.1 18 o = 0) → W p l e rmW s m ([.ref (r 20)] : List Value).toArray below meth c H locs 0 0 QQ (F0 m 7 ls []) := by
    intro f
    induction f with
    | zero =>
      intro i ls H locs T hi1 hif hl hP hA hS hQT hz0
      refine lv_iload hx hb d_Mo_reachable_7 (lv_at hl 0 rfl) ?_
      refine lv_aload_n hx hb d_Mo_reachable_9 rfl (lv_at hl 3 rfl) ?_
      refine y_get (D := D) (ci := 5) (v := .int (T.2.2 7)) (C := R_Mo) (T := F_Mo) (N := 20) hx hb hts in_Mo hown hK hP (m_at hri (i := 20) (by decide)) rfl 7 (by decide) (hts (.fieldLink R_Mo 71 "MemoryDeskModel" "objects" "I") (by decide +kernel)) (fun _ h9 => h9) rfl d_Mo_reachable_10 ?_
      rw [show T.2.2 7 = nI a.n by rw [hQT.1]; exact r2]
      refine lv_icmp_gt hx hb d_Mo_reachable_13 rfl (fun h8 => ?_) (fun h8 => (absurd (nI_lt (a := a.n) (b := i) (by omega) (by omega)) h8))
      refine lv_iconst (v := 0) hx hb d_Mo_reachable_30 (by decide) ?_
      refine lv_istore hx hb d_Mo_reachable_31 hl (by decide) rfl (fun ls hl => ?_)
      have hl : lv_has ls 7 [(4, .int 0), (2, .long 0), (1, .int 0), (0, .ref (r 20))] := hl
      have hl : lv_has ls 7 [(4, .int 0), (2, .long 0), (1, .int 0), (0, .ref (r 20))] := lv_sub hl [0, 1, 2, 3] rfl
      have hns : ∀ o, ¬ m_sn a T o := fun o z => by have hh_ := hz0 o z.1 (by have := z.2.1; omega); rw [z.2.2] at hh_; exact absurd hh_ (by decide)
      exact loopS 32 0 ls H locs T [] rfl hl hP hA hS ⟨hQT, trivial, fun o z1 z2 => Or.inl (hz0 o z1 (by omega))⟩ ((z_I.start hns).mono (fun q9 _ z => Or.inr (z.elim (fun y => by obtain ⟨z9, y1, y2, y3⟩ := y; exact Or.inl ⟨z9, Nat.zero_le _, y1, y2, y3⟩) Or.inr)) (fun _ _ _ _ _ z => z.elim)) (fun w => z_none (fun o _ _ z => hns o z.1))
    | succ f ih =>
      intro i ls H locs T hi1 hif hl hP hA hS hQT hz0
      refine lv_iload hx hb d_Mo_reachable_7 (lv_at hl 0 rfl) ?_
      refine lv_aload_n hx hb d_Mo_reachable_9 rfl (lv_at hl 3 rfl) ?_
      refine y_get (D := D) (ci := 5) (v := .int (T.2.2 7)) (C := R_Mo) (T := F_Mo) (N := 20) hx hb hts in_Mo hown hK hP (m_at hri (i := 20) (by decide)) rfl 7 (by decide) (hts (.fieldLink R_Mo 71 "MemoryDeskModel" "objects" "I") (by decide +kernel)) (fun _ h9 => h9) rfl d_Mo_reachable_10 ?_
      rw [show T.2.2 7 = nI a.n by rw [hQT.1]; exact r2]
      refine lv_icmp_gt hx hb d_Mo_reachable_13 rfl (fun h9 => (absurd h9 (nI_nlt (a := a.n) (b := i) (by omega) (by omega)))) (fun h9 => ?_)
      refine lv_aload_n hx hb d_Mo_reachable_16 rfl (lv_at hl 3 rfl) ?_
      refine y_get (D := D) (ci := 5) (v := .ref (r 18)) (C := R_Mo) (T := F_Mo) (N := 20) hx hb hts in_Mo hown hK hP (m_at hri (i := 20) (by decide)) rfl 18 (by decide) (hts (.fieldLink R_Mo 56 "MemoryDeskModel" "reached" "[Z") (by decide +kernel)) (fun _ h9 => h9) rfl d_Mo_reachable_17 ?_
      refine lv_iload hx hb d_Mo_reachable_20 (lv_at hl 0 rfl) ?_
      refine lv_iconst (v := 0) hx hb d_Mo_reachable_22 (by decide) ?_
      refine y_zast (f := (T.1 18)) hx hb hK hP hA hS 3 (m_at hri (i := 18) (by decide)) rfl (vp_in_nI (by omega) (by decide)) m_nar0 d_Mo_reachable_23 (fun H locs hP hA hS => ?_)
      have e9 : va_up (m_w r cN cZ cL T) (r 18) (some (.inl (cZ, 514, .inl (upd (T.1 18) (nI i).toNatClampNeg 0)))) = (m_w r cN cZ cL (m_a T 18 (nI i).toNatClampNeg 0)) := m_wa18 hri T (nI i).toNatClampNeg 0
      have hP : y_P D vwCl (m_w r cN cZ cL (m_a T 18 (nI i).toNatClampNeg 0)) H := by rw [← e9]; exact hP
      have hA : ∀ q99 e99, (m_w r cN cZ cL (m_a T 18 (nI i).toNatClampNeg 0)) q99 = some e99 → A q99 := by rw [← e9]; exact hA
      refine lv_iinc (k := 0) (v := ((nI i) + 1)) hx hb d_Mo_reachable_24 hl rfl rfl (by decide) rfl (fun ls hl => ?_)
      have hl : lv_has ls 7 [(4, .int ((nI i) + 1)), (2, .long 0), (1, .int 0), (0, .ref (r 20))] := hl
      refine lv_goto hx hb d_Mo_reachable_27 rfl ?_
      have hl : lv_has ls 7 [(4, .int ((nI i) + 1)), (2, .long 0), (1, .int 0), (0, .ref (r 20))] := lv_sub hl [0, 1, 2, 3] rfl
      rw [nI_1] at hl
      refine ih (i + 1) ls H locs (m_a T 18 (nI i).toNatClampNeg 0) (by omega) (by omega) hl hP hA hS ⟨hQT.1, fun k k1 k2 => ?_⟩ (fun o z1 z2 => ?_)
      · show va_up T.1 18 _ k = _
        rw [va_up_ne _ _ k2]; exact hQT.2 k k1 k2
      · show upd (T.1 18) (nI i).toNatClampNeg 0 o = 0
        unfold upd
        by_cases e9 : o = (nI i).toNatClampNeg
        · rw [if_pos e9]
        · rw [if_neg e9]; rw [nI_clamp (by omega)] at e9; exact hz0 o z1 (by omega)
  refine lv_iconst (v := 0) hx hb d_Mo_reachable_0 (by decide) ?_
  refine lv_istore_n hx hb d_Mo_reachable_1 rfl hl (by decide) rfl (fun ls hl => ?_)
  have hl : lv_has ls 7 [(1, .int 0), (0, .ref (r 20))] := hl
  refine lv_lconst (v := 0) hx hb d_Mo_reachable_2 (by decide) ?_
  refine lv_lstore_n hx hb d_Mo_reachable_3 rfl hl (by decide) rfl (fun ls hl => ?_)
  have hl : lv_has ls 7 [(2, .long 0), (1, .int 0), (0, .ref (r 20))] := hl
  refine lv_iconst (v := 1) hx hb d_Mo_reachable_4 (by decide) ?_
  refine lv_istore hx hb d_Mo_reachable_5 hl (by decide) rfl (fun ls hl => ?_)
  have hl : lv_has ls 7 [(4, .int 1), (2, .long 0), (1, .int 0), (0, .ref (r 20))] := hl
  have hl : lv_has ls 7 [(4, .int 1), (2, .long 0), (1, .int 0), (0, .ref (r 20))] := lv_sub hl [0, 1, 2, 3] rfl
  exact loopZ a.n 1 ls s.heap [] S (by omega) (by omega) hl hP hA hS ⟨rfl, fun _ _ _ => rfl⟩ (fun o z1 z2 => by omega)
end
section
/-! what each change of the reference's arrays does to what it holds -/
section MMoves
variable {a : Ab} {S T : MS} {cn : Nat}
theorem upd_s (f : Nat → Int32) (j : Nat) (v : Int32) : upd f j v j = v := if_pos rfl
theorem upd_n (f : Nat → Int32) {i j : Nat} (v : Int32) (h : i ≠ j) : upd f j v i = f i := if_neg h
theorem m_R.same (h : m_R a S cn) (e : ∀ k, k ≠ 17 → k ≠ 18 → T.1 k = S.1 k) (q1 : T.2.1 = S.2.1) (q2 : ∀ k, k ≠ 10 → T.2.2 k = S.2.2 k) : m_R a T cn := by
  obtain ⟨h1, h2, h3, h4, h5, h6, h7, en, h8, h9, h10, h11⟩ := h
  unfold m_R m_kn
  rw [q2 7 (by decide), q2 8 (by decide), q2 9 (by decide), q2 19 (by decide), q2 14 (by decide), e 0 (by decide) (by decide), e 1 (by decide) (by decide), e 2 (by decide) (by decide), e 3 (by decide) (by decide), e 4 (by decide) (by decide), e 5 (by decide) (by decide), e 6 (by decide) (by decide), e 11 (by decide) (by decide), e 15 (by decide) (by decide), e 16 (by decide) (by decide)]
  refine ⟨h1, h2, h3, h4, h5, h6, h7, en, h8, h9, h10, fun o k o1 o2 => ?_⟩
  rw [m_lat.eq (S := S) (S' := T) (fun i _ => ⟨by rw [e 11 (by decide) (by decide)], by rw [e 12 (by decide) (by decide)], by rw [q1]⟩)]
  exact h11 o k o1 o2
theorem m_R.up {cn' : Nat} (h : m_R a S cn) (hc : cn ≤ cn') : m_R a S cn' := by
  obtain ⟨h1, h2, h3, h4, h5, h6, h7, en, h8, h9⟩ := h
  exact ⟨h1, h2, h3, h4, h5, h6, h7, en, by omega, h9⟩
theorem m_R.err (h : m_R a S cn) (v : Int32) : m_R a (m_s S 10 v) cn := h.same (fun _ _ _ => rfl) rfl (fun k hk => va_up_ne _ _ hk)
theorem m_latS {S' : MS} {o k : Int32} {n : Nat} (h1 : S'.1 11 = S.1 11) (h2 : S'.1 12 = S.1 12) (h3 : S'.2.1 = S.2.1) : m_lat S' o k n = m_lat S o k n := m_lat.eq (fun i _ => ⟨by rw [h1], by rw [h2], by rw [h3]⟩)
theorem m_R.puts (h : m_R a S cn) {s o : Nat} : m_R (a_puts a s o) (m_a S 15 s (nI o)) cn := by
  obtain ⟨h1, h2, h3, h4, h5, h6, h7, en, h8, h9, h10, h11⟩ := h
  refine ⟨h1, h2, h3, h4, fun s' hs' => ?_, h6, h7, en, h8, h9, h10, fun o' k o1 o2 => (h11 o' k o1 o2).trans (m_latS (S' := m_a S 15 s (nI o)) (S := S) rfl rfl rfl).symm⟩
  show upd (S.1 15) s (nI o) s' = nI (va_up a.sl s o s')
  by_cases e : s' = s
  · rw [e, upd_s, va_up_self]
  · rw [upd_n _ _ e, va_up_ne _ _ e]; exact h5 s' hs'
theorem m_R.memo (h : m_R a S cn) {w : Nat} : m_R (a_memo a w) (m_s S 9 (nI w)) cn := by
  obtain ⟨h1, h2, h3, h4, h5, h6, h7, en, h8, h9, h10, h11⟩ := h
  exact ⟨h1, ⟨h2.1, h2.2.1, rfl, h2.2.2.2⟩, h3, h4, h5, h6, h7, en, h8, h9, h10, fun o' k o1 o2 => (h11 o' k o1 o2).trans (m_latS (S' := m_s S 9 (nI w)) (S := S) rfl rfl rfl).symm⟩
theorem m_R.kindR (h : m_R a S cn) {k : Nat} {el : Int32} (hel : ¬ el < 0) : m_R (a_kind a k (el, 0, 0)) (m_a (m_a S 3 k 1) 2 k el) cn := by
  obtain ⟨h1, h2, h3, h4, h5, h6, h7, en, h8, h9, h10, h11⟩ := h
  refine ⟨fun k' hk' => ?_, h2, h3, h4, h5, h6, h7, en, h8, h9, h10, fun o' kk o1 o2 => (h11 o' kk o1 o2).trans (m_latS (S' := (m_a (m_a S 3 k 1) 2 k el)) (S := S) rfl rfl rfl).symm⟩
  by_cases e : k' = k
  · subst e
    exact Or.inr ⟨(el, 0, 0), va_up_self _ _ _, upd_s _ _ _, upd_s _ _ _, fun z => absurd z hel⟩
  · have := h1 k' hk'
    unfold m_kn at this ⊢
    rw [show (a_kind a k (el, 0, 0)).kd k' = a.kd k' from va_up_ne _ _ e, show (m_a (m_a S 3 k 1) 2 k el).1 3 k' = S.1 3 k' from upd_n _ _ e, show (m_a (m_a S 3 k 1) 2 k el).1 2 k' = S.1 2 k' from upd_n _ _ e]
    exact this
theorem m_R.kindP (h : m_R a S cn) {k : Nat} {w mk : Int32} : m_R (a_kind a k (-1, w, mk)) (m_a (m_a (m_a (m_a S 3 k 1) 2 k (-1)) 0 k w) 1 k mk) cn := by
  obtain ⟨h1, h2, h3, h4, h5, h6, h7, en, h8, h9, h10, h11⟩ := h
  refine ⟨fun k' hk' => ?_, h2, h3, h4, h5, h6, h7, en, h8, h9, h10, fun o' kk o1 o2 => (h11 o' kk o1 o2).trans (m_latS (S' := (m_a (m_a (m_a (m_a S 3 k 1) 2 k (-1)) 0 k w) 1 k mk)) (S := S) rfl rfl rfl).symm⟩
  by_cases e : k' = k
  · subst e
    exact Or.inr ⟨(-1, w, mk), va_up_self _ _ _, upd_s _ _ _, upd_s _ _ _, fun _ => ⟨upd_s _ _ _, upd_s _ _ _⟩⟩
  · have := h1 k' hk'
    unfold m_kn at this ⊢
    rw [show (a_kind a k (-1, w, mk)).kd k' = a.kd k' from va_up_ne _ _ e, show (m_a (m_a (m_a (m_a S 3 k 1) 2 k (-1)) 0 k w) 1 k mk).1 3 k' = S.1 3 k' from upd_n _ _ e, show (m_a (m_a (m_a (m_a S 3 k 1) 2 k (-1)) 0 k w) 1 k mk).1 2 k' = S.1 2 k' from upd_n _ _ e, show (m_a (m_a (m_a (m_a S 3 k 1) 2 k (-1)) 0 k w) 1 k mk).1 0 k' = S.1 0 k' from upd_n _ _ e, show (m_a (m_a (m_a (m_a S 3 k 1) 2 k (-1)) 0 k w) 1 k mk).1 1 k' = S.1 1 k' from upd_n _ _ e]
    exact this
theorem m_R.new (h : m_R a S cn) (hw : a_W a cn) (hc : cn ≤ 512) {s k : Nat} {n : Int32} : m_R (a_new a s k n) (m_a (m_a (m_a (m_s S 7 (nI (a.n + 1))) 4 (a.n + 1) (nI k)) 5 (a.n + 1) n) 15 s (nI (a.n + 1))) (cn + 1) := by
  obtain ⟨h1, h2, h3, h4, h5, h6, h7, en, h8, h9, h10, h11⟩ := h
  have hn : a.n ≤ cn := hw.2.2.2.2.2.2.2.2.2.1
  refine ⟨h1, ⟨rfl, h2.2⟩, fun o o1 o2 => ?_, h4, fun s' hs' => ?_, h6, h7, en, by omega, h9, fun i hi => ?_, fun o k' o1 o2 => ?_⟩
  · have o2 : o ≤ a.n + 1 := o2
    show upd (S.1 4) (a.n + 1) (nI k) o = nI (va_up a.ok (a.n + 1) k o) ∧ upd (S.1 5) (a.n + 1) n o = va_up a.sz (a.n + 1) n o
    by_cases e : o = a.n + 1
    · rw [e, upd_s, upd_s, va_up_self, va_up_self]; exact ⟨rfl, rfl⟩
    · rw [upd_n _ _ e, upd_n _ _ e, va_up_ne _ _ e, va_up_ne _ _ e]; exact h3 o o1 (by omega)
  · show upd (S.1 15) s (nI (a.n + 1)) s' = nI (va_up a.sl s (a.n + 1) s')
    by_cases e : s' = s
    · rw [e, upd_s, va_up_self]
    · rw [upd_n _ _ e, va_up_ne _ _ e]; exact h5 s' hs'
  · obtain ⟨o, z1, z2, z3⟩ := h10 i hi
    exact ⟨o, z1, Nat.le_succ_of_le z2, z3⟩
  · have o2 : o ≤ a.n + 1 := o2
    rw [m_latS (S' := (m_a (m_a (m_a (m_s S 7 (nI (a.n + 1))) 4 (a.n + 1) (nI k)) 5 (a.n + 1) n) 15 s (nI (a.n + 1)))) (S := S) rfl rfl rfl]
    by_cases e : o = a.n + 1
    · have z : m_lat S (nI o) k' en = 0 := Classical.byContradiction (fun z => by
        obtain ⟨i, i1, i2, -⟩ := m_lat.ne z
        obtain ⟨o', z1, z2, z3⟩ := h10 i i1
        rw [z3] at i2
        have := (nI_eq (by omega) (by omega)).mp i2
        omega)
      rw [z]
      exact (hw.2.2.2.2.2.1 o (by omega)).2 k'
    · exact h11 o k' o1 (by omega)
theorem m_R.keep (h : m_R a S cn) (hw : a_W a cn) {o : Nat} : m_R (a_keep a o) (m_a (m_s S 19 (nI (a.kc + 1))) 16 a.kc (nI o)) (cn + 1) := by
  obtain ⟨h1, h2, h3, h4, h5, h6, h7, en, h8, h9, h10, h11⟩ := h
  refine ⟨h1, ⟨h2.1, h2.2.1, h2.2.2.1, rfl⟩, h3, h4, h5, fun o' z => ?_, fun i hi => ?_, en, by omega, h9, h10, fun o' kk o1 o2 => (h11 o' kk o1 o2).trans (m_latS (S' := (m_a (m_s S 19 (nI (a.kc + 1))) 16 a.kc (nI o))) (S := S) rfl rfl rfl).symm⟩
  · show ∃ i, i < a.kc + 1 ∧ upd (S.1 16) a.kc (nI o) i = nI o'
    rcases z with z | z
    · obtain ⟨i, i1, i2⟩ := h6 o' z
      exact ⟨i, by omega, by rw [upd_n _ _ (by omega)]; exact i2⟩
    · exact ⟨a.kc, by omega, by rw [upd_s, z]⟩
  · have hi : i < a.kc + 1 := hi
    show ∃ o', (a.kp o' ∨ o' = o) ∧ upd (S.1 16) a.kc (nI o) i = nI o'
    by_cases e : i = a.kc
    · exact ⟨o, Or.inr rfl, by rw [e, upd_s]⟩
    · obtain ⟨o', z1, z2⟩ := h7 i (by omega)
      exact ⟨o', Or.inl z1, by rw [upd_n _ _ e]; exact z2⟩
theorem m_R.numb (h : m_R a S cn) {o : Nat} : m_R (a_numb a o) (m_a (m_s S 8 (nI (a.nn + 1))) 6 o (nI (a.nn + 1))) (cn + 1) := by
  obtain ⟨h1, h2, h3, h4, h5, h6, h7, en, h8, h9, h10, h11⟩ := h
  refine ⟨h1, ⟨h2.1, rfl, h2.2.2⟩, h3, fun o' z1 z2 => ?_, h5, h6, h7, en, by omega, h9, h10, fun o' kk o1 o2 => (h11 o' kk o1 o2).trans (m_latS (S' := (m_a (m_s S 8 (nI (a.nn + 1))) 6 o (nI (a.nn + 1)))) (S := S) rfl rfl rfl).symm⟩
  show upd (S.1 6) o (nI (a.nn + 1)) o' = nI (va_up a.nu o (a.nn + 1) o')
  by_cases e : o' = o
  · rw [e, upd_s, va_up_self]
  · rw [upd_n _ _ e, va_up_ne _ _ e]; exact h4 o' z1 z2
theorem m_R.putc (h : m_R a S cn) (hw : a_W a cn) (hc : cn ≤ 512) {o en : Nat} {k : Int32} {v : Int64} (o1 : 1 ≤ o) (o2 : o ≤ a.n) (hen : S.2.2 14 = nI en) (he : en ≤ cn) : m_R (a_putc a o k v) (m_l (m_s (m_a (m_a S 11 en (nI o)) 12 en k) 14 (nI (en + 1))) en v) (cn + 1) := by
  obtain ⟨h1, h2, h3, h4, h5, h6, h7, en', h8, h9, h10, h11⟩ := h
  have hn : a.n ≤ cn := hw.2.2.2.2.2.2.2.2.2.1
  have e0 : en = en' := (nI_eq (by omega) (by omega)).mp (hen.symm.trans h9)
  subst e0
  refine ⟨h1, h2, h3, h4, h5, h6, h7, en + 1, by omega, rfl, fun i hi => ?_, fun o' k' z1 z2 => ?_⟩
  · show ∃ o', 1 ≤ o' ∧ o' ≤ a.n ∧ upd (S.1 11) en (nI o) i = nI o'
    by_cases e : i = en
    · exact ⟨o, o1, o2, by rw [e, upd_s]⟩
    · rw [upd_n _ _ e]; exact h10 i (by omega)
  · have hl : m_lat (m_l (m_s (m_a (m_a S 11 en (nI o)) 12 en k) 14 (nI (en + 1))) en v) (nI o') k' en = m_lat S (nI o') k' en := m_lat.eq (fun i hi => ⟨upd_n _ _ (by omega), upd_n _ _ (by omega), if_neg (by omega)⟩)
    show (a_putc a o k v).ct o' k' = if upd (S.1 11) en (nI o) en = nI o' ∧ upd (S.1 12) en k en = k' then vp_updL S.2.1 en v en else m_lat _ (nI o') k' en
    rw [hl, upd_s, upd_s]
    have z2 : o' ≤ a.n := z2
    by_cases e : o' = o ∧ k' = k
    · rw [e.1, e.2, a_putc.self, if_pos ⟨rfl, rfl⟩]; exact (if_pos rfl).symm
    · rw [a_putc.ct e, if_neg (fun z => e ⟨((nI_eq (by omega) (by omega)).mp z.1).symm, z.2.symm⟩)]; exact h11 o' k' z1 z2
end MMoves
end
section
/-! the reference's face: plain, row, copy, drop, same, size, every, collect -/
section MPub
def m_E (r : Nat → Nat) (cN cZ cL : ClassId) (s : An) (cn : Nat) (g9 : y_G) : Prop := ∃ S', g9 = m_w r cN cZ cL S' ∧ S'.2.2 10 = nI s.1 ∧ m_R s.2.2 S' (cn + 1)
def m_aI (s : An) (r9 : Option Value ⊕ String) : Prop := ∃ x : Int32, r9 = .inl (some (.int x)) ∧ (s.1 = 0 → s.2.1 = some (.int x))
def m_aL (s : An) (r9 : Option Value ⊕ String) : Prop := ∃ x : Int64, r9 = .inl (some (.long x)) ∧ (s.1 = 0 → s.2.1 = some (.long x))
variable {r : Nat → Nat} {cN cZ cL : ClassId} {s : An} {a : Ab} {cn i : Nat} {S' : MS}
theorem m_bad (h : s = (i + 1, none, a)) (he : S'.2.2 10 = nI (i + 1)) (hR : m_R a S' cn) : m_E r cN cZ cL s cn (m_w r cN cZ cL S') := by
  subst h
  exact ⟨S', rfl, he, hR.up (Nat.le_succ _)⟩
theorem m_badI {x : Int32} (h : s = (i + 1, none, a)) : m_aI s (.inl (some (.int x))) := by
  subst h
  exact ⟨x, rfl, fun z => absurd z (Nat.succ_ne_zero _)⟩
theorem m_badL {x : Int64} (h : s = (i + 1, none, a)) : m_aL s (.inl (some (.long x))) := by
  subst h
  exact ⟨x, rfl, fun z => absurd z (Nat.succ_ne_zero _)⟩
theorem m_good {v : Option Value} (h : s = (0, v, a)) (he : S'.2.2 10 = nI 0) (hR : m_R a S' (cn + 1)) : m_E r cN cZ cL s cn (m_w r cN cZ cL S') := by
  subst h
  exact ⟨S', rfl, he, hR⟩
theorem m_goodI {x : Int32} (h : s = (0, some (.int x), a)) : m_aI s (.inl (some (.int x))) := by
  subst h
  exact ⟨x, rfl, fun _ => rfl⟩
theorem m_goodL {x : Int64} (h : s = (0, some (.long x), a)) : m_aL s (.inl (some (.long x))) := by
  subst h
  exact ⟨x, rfl, fun _ => rfl⟩
theorem b_inI {v : Int32} {n : Nat} (hn : n < 2 ^ 30) : (¬ v < 0 ∧ v ≤ nI n) ↔ b_in v (nI (n + 1)) := by
  constructor
  · rintro ⟨h1, h2⟩
    obtain ⟨j, hj, rfl⟩ := nI_of h1
    have := (nI_leI hj (by omega)).mp h2
    exact ⟨h1, (nI_ltI hj (by omega)).mpr (by omega)⟩
  · rintro ⟨h1, h2⟩
    obtain ⟨j, hj, rfl⟩ := nI_of h1
    have := (nI_ltI hj (by omega)).mp h2
    exact ⟨h1, (nI_leI hj (by omega)).mpr (by omega)⟩
abbrev rmV : Room := { frames := 2, cells := 0, slots := 0, locals := 60 }
end MPub
set_option maxHeartbeats 4000000 in
set_option maxRecDepth 100000 in
/-- copy(s, t) -/
theorem c_Mo_copy (l : Launch) (D : va_G) (cK cI cN cZ cL : ClassId) (r : Nat → Nat) (hri : m_inj r) (S : MS) (sz : Nat) (a : Ab) (cn : Nat) (sv t : Int32) (hw : a_W a cn) (hc : cn ≤ 512) (hR : m_R a S cn)  : x_M l y_Mo_copy [.code y_Mo_copy b_Mo_copy 3 (some .boolean)] rmV (w_Pc D (x_tys cK cI cN cZ cL) [.ref (r 20), .int sv, .int t] (m_w r cN cZ cL S) sz) (w_Qc D (m_w r cN cZ cL S) sz (fun r9 g9 => m_aI (s_copy a sv t) r9 ∧ m_E r cN cZ cL (s_copy a sv t) cn g9)) 0 0 (y_A (m_w r cN cZ cL S) sz) := by
  refine x_ofW (cc := b_Mo_copy) (maxL := 3) (ret := (some .boolean)) (by decide) rfl ?_
  intro p e s m args below meth c s₁ B hml hno hv
  obtain ⟨rfl, hsz, hP, hE⟩ := hv
  subst hsz
  have hts := hE.hts ([.ref (r 20), .int sv, .int t] : List Value).toArray
  have hK := hE.1.2.1
  have hA0 : ∀ q, s.heap.size ≤ q → y_A (m_w r cN cZ cL S) s.heap.size q := fun q h => Or.inr h
  have hA : ∀ q e, (m_w r cN cZ cL S) q = some e → y_A (m_w r cN cZ cL S) s.heap.size q := fun q e h => Or.inl (by rw [h]; exact fun z => nomatch z)
  have hS : va_S (y_A (m_w r cN cZ cL S) s.heap.size) s.heap s.heap [] := va_S.rf
  generalize hAe : y_A (m_w r cN cZ cL S) s.heap.size = A at hE hA0 hA hS ⊢
  have hx := B.exec
  have hb := B.bytes
  have hr := B.returns
  have hlocks := B.notSynchronized
  have hown : s.vm.findClass R_Mo = some m.cls := findClass_of_methodNamed B.named
  have hl := lv_entry ([.ref (r 20), .int sv, .int t]) (n := 3) (Nat.le_of_ble_eq_true rfl)
  rw [lg_entry_eq]
  generalize (lg_sl ([.ref (r 20), .int sv, .int t]) ++ List.replicate (3 - (lg_sl ([.ref (r 20), .int sv, .int t])).length) Slot.unset).toArray = ls at hl ⊢
  have hl : lv_has ls 3 [(0, .ref (r 20)), (1, .int sv), (2, .int t)] := hl
  have hR0 := hR
  have hn : a.n ≤ cn := hw.2.2.2.2.2.2.2.2.2.1
  have hmm : a.mem ≤ 65536 := hw.2.2.2.2.2.2.2.2.1
  obtain ⟨r1, ⟨r2, r3, r4, r5⟩, r6, r7, r8, r9, r10, en, r11, r12, r13, r14⟩ := hR
  refine lv_aload_n hx hb d_Mo_copy_0 rfl (lv_at hl 0 rfl) ?_
  refine lv_iconst (v := 0) hx hb d_Mo_copy_1 (by decide) ?_
  refine y_put (D := D) (ci := 5) (v := .int 0) (ty := .int) (C := R_Mo) (T := F_Mo) (N := 20) hx hb hts in_Mo t_Mo t_Mo_ok n_Mo hown hK hP hA hS (m_at hri (i := 20) (by decide)) rfl 10 (by decide) (hts (.fieldLink R_Mo 59 "MemoryDeskModel" "err" "I") (by decide +kernel)) (fun _ h9 => h9) rfl (by decide +kernel) rfl rfl (Nat.le_of_ble_eq_true rfl) d_Mo_copy_2 (fun H locs hP hA hS => ?_)
  have e9 : va_up (m_w r cN cZ cL S) (r 20) (some (.inr (5, [.ref (r 0), .ref (r 1), .ref (r 2), .ref (r 3), .ref (r 4), .ref (r 5), .ref (r 6), .int (S.2.2 7), .int (S.2.2 8), .int (S.2.2 9), .int 0, .ref (r 11), .ref (r 12), .ref (r 13), .int (S.2.2 14), .ref (r 15), .ref (r 16), .ref (r 17), .ref (r 18), .int (S.2.2 19)]))) = (m_w r cN cZ cL (m_s S 10 0)) := m_ws10 hri S 0
  have hP : y_P D vwCl (m_w r cN cZ cL (m_s S 10 0)) H := by rw [← e9]; exact hP
  have hA : ∀ q99 e99, (m_w r cN cZ cL (m_s S 10 0)) q99 = some e99 → A q99 := by rw [← e9]; exact hA
  refine lv_aload_n hx hb d_Mo_copy_5 rfl (lv_at hl 0 rfl) ?_
  refine lv_iload_n hx hb d_Mo_copy_6 rfl (lv_at hl 1 rfl) ?_
  refine lv_bipush (v := 31) hx hb d_Mo_copy_7 (by decide) ?_
  refine w_callS (As := [.int sv, .int 31]) ⟨hx, hb, hml, hown, hts⟩ (c_Mo_in l D cK cI cN cZ cL r hri (m_s S 10 0) _ sv 31) (x_cb (va_cwS (own := R_Mo) (index := 93) 2 hts (x_gi (by decide +kernel)) rfl rfl rfl (by decide +kernel) ⟨by decide, by decide⟩).1) (hts (.static y_Mo_in) (by decide +kernel)) hE hP hA hA0 hS rfl hl.1 rfl (lv_room (Nat.le_of_ble_eq_true rfl)) d_Mo_copy_9 (by first | decide | omega) (by first | decide | omega) (fun v9 g9 H locs hq9 hP hA hS => ?_) (fun E9 q9 ce9 g9 H locs hq9 hP hA hS z1 z2 z3 => ?_)
  rotate_left
  · exact nomatch hq9.1
  obtain ⟨hv9, hg9⟩ := hq9
  cases hv9
  rw [hg9] at hP hA
  refine W.eq (g2 := F0 m 12 ls [.int (c_bit (¬ sv < 0 ∧ sv ≤ 31)), .ref (r 20)]) rfl ?_
  refine lv_if_eq hx hb d_Mo_copy_12 rfl (fun h1 => ?_) (fun h1 => ?_)
  · -- ifeq at 12: to 24
    have hs : ¬ b_in sv 32 := fun z => by have hy_ := h1; rw [c_bit.y (show ¬ sv < 0 ∧ sv ≤ 31 from (b_inI (n := 31) (by decide)).mpr z)] at hy_; exact absurd hy_ (by decide)
    refine lv_iconst (v := 1) hx hb d_Mo_copy_24 (by decide) ?_
    refine lv_goto hx hb d_Mo_copy_25 rfl ?_
    refine lv_iconst (v := 1) hx hb d_Mo_copy_29 (by decide) ?_
    refine w_callV (As := [.int 1, .int 1]) (C := R_Mo) ⟨hx, hb, hml, hown, hts⟩ (c_Mo_fails l D cK cI cN cZ cL r hri (m_s S 10 0) _ 1 1 (by decide)) (x_cb (cwV (own := R_Mo) (index := 96) (C := R_Mo) 2 hts (x_gi (by decide +kernel)) rfl rfl rfl (by decide +kernel) ⟨by decide, by decide⟩).1) (hts (.instanceMethod y_Mo_fails) (by decide +kernel)) (hts (.selects R_Mo y_Mo_fails y_Mo_fails) (by decide +kernel)) (y_recv (ci := 5) (q := (R_Mo, F_Mo, 20)) hK hP rfl (m_at hri (i := 20) (by decide))) hE hP hA hA0 hS rfl hl.1 rfl (lv_room (Nat.le_of_ble_eq_true rfl)) d_Mo_copy_30 (by first | decide | omega) (by first | decide | omega) (fun v9 g9 H locs hq9 hP hA hS => ?_) (fun E9 q9 ce9 g9 H locs hq9 hP hA hS z1 z2 z3 => ?_)
    rotate_left
    · rcases hq9 with z | z | z
      · exact nomatch z.2.2.1
      · exact nomatch z.2.1
      · exact nomatch z.2.2.1
    rcases hq9 with ⟨z1, z2, hv9, hg9⟩ | ⟨z1, hv9, hg9⟩ | ⟨z1, z2, hv9, hg9⟩
    · exact absurd z1 (by decide)
    · exact absurd rfl z1
    · cases hv9
      rw [hg9] at hP hA
      refine W.eq (g2 := F0 m 33 ls [.int 1]) rfl ?_
      refine lv_if_eq hx hb d_Mo_copy_33 rfl (fun h2 => (absurd h2 (by decide))) (fun h2 => ?_)
      refine lv_iconst (v := 0) hx hb d_Mo_copy_36 (by decide) ?_
      refine W.widen (k := 0) (n := 0) (by first | decide | omega) (by first | decide | omega) ?_
      exact x_ret (W.zret (v := 0) hx hb hr rfl (w_fin rfl hAe ⟨m_badI (i := 0) (q_n (fun z => hs z.1)), m_bad (i := 0) (q_n (fun z => hs z.1)) rfl ((hR0.err 0).err 1)⟩ hP hA hS) hS.2.2 d_Mo_copy_37)
  · -- ifeq at 12: to 15
    have hs : b_in sv 32 := (b_inI (n := 31) (by decide)).mp (Classical.byContradiction (fun z => h1 (c_bit.n z)))
    refine lv_iload_n hx hb d_Mo_copy_15 rfl (lv_at hl 2 rfl) ?_
    refine lv_bipush (v := 31) hx hb d_Mo_copy_16 (by decide) ?_
    refine w_callS (As := [.int t, .int 31]) ⟨hx, hb, hml, hown, hts⟩ (c_Mo_in l D cK cI cN cZ cL r hri (m_s S 10 0) _ t 31) (x_cb (va_cwS (own := R_Mo) (index := 93) 2 hts (x_gi (by decide +kernel)) rfl rfl rfl (by decide +kernel) ⟨by decide, by decide⟩).1) (hts (.static y_Mo_in) (by decide +kernel)) hE hP hA hA0 hS rfl hl.1 rfl (lv_room (Nat.le_of_ble_eq_true rfl)) d_Mo_copy_18 (by first | decide | omega) (by first | decide | omega) (fun v9 g9 H locs hq9 hP hA hS => ?_) (fun E9 q9 ce9 g9 H locs hq9 hP hA hS z1 z2 z3 => ?_)
    rotate_left
    · exact nomatch hq9.1
    obtain ⟨hv9, hg9⟩ := hq9
    cases hv9
    rw [hg9] at hP hA
    refine W.eq (g2 := F0 m 21 ls [.int (c_bit (¬ t < 0 ∧ t ≤ 31)), .ref (r 20)]) rfl ?_
    refine lv_if_ne hx hb d_Mo_copy_21 rfl (fun h3 => ?_) (fun h3 => ?_)
    · -- ifne at 21: to 28
      have ht : b_in t 32 := (b_inI (n := 31) (by decide)).mp (Classical.byContradiction (fun z => h3 (c_bit.n z)))
      refine lv_iconst (v := 0) hx hb d_Mo_copy_28 (by decide) ?_
      refine lv_iconst (v := 1) hx hb d_Mo_copy_29 (by decide) ?_
      refine w_callV (As := [.int 0, .int 1]) (C := R_Mo) ⟨hx, hb, hml, hown, hts⟩ (c_Mo_fails l D cK cI cN cZ cL r hri (m_s S 10 0) _ 0 1 (by decide)) (x_cb (cwV (own := R_Mo) (index := 96) (C := R_Mo) 2 hts (x_gi (by decide +kernel)) rfl rfl rfl (by decide +kernel) ⟨by decide, by decide⟩).1) (hts (.instanceMethod y_Mo_fails) (by decide +kernel)) (hts (.selects R_Mo y_Mo_fails y_Mo_fails) (by decide +kernel)) (y_recv (ci := 5) (q := (R_Mo, F_Mo, 20)) hK hP rfl (m_at hri (i := 20) (by decide))) hE hP hA hA0 hS rfl hl.1 rfl (lv_room (Nat.le_of_ble_eq_true rfl)) d_Mo_copy_30 (by first | decide | omega) (by first | decide | omega) (fun v9 g9 H locs hq9 hP hA hS => ?_) (fun E9 q9 ce9 g9 H locs hq9 hP hA hS z1 z2 z3 => ?_)
      rotate_left
      · rcases hq9 with z | z | z
        · exact nomatch z.2.2.1
        · exact nomatch z.2.1
        · exact nomatch z.2.2.1
      rcases hq9 with ⟨z1, z2, hv9, hg9⟩ | ⟨z1, hv9, hg9⟩ | ⟨z1, z2, hv9, hg9⟩
      · cases hv9
        rw [hg9] at hP hA
        refine W.eq (g2 := F0 m 33 ls [.int 0]) rfl ?_
        refine lv_if_eq hx hb d_Mo_copy_33 rfl (fun h4 => ?_) (fun h4 => (absurd rfl h4))
        refine lv_aload_n hx hb d_Mo_copy_38 rfl (lv_at hl 0 rfl) ?_
        refine y_get (D := D) (ci := 5) (v := .ref (r 15)) (C := R_Mo) (T := F_Mo) (N := 20) hx hb hts in_Mo hown hK hP (m_at hri (i := 20) (by decide)) rfl 15 (by decide) (hts (.fieldLink R_Mo 47 "MemoryDeskModel" "slots" "[I") (by decide +kernel)) (fun _ h9 => h9) rfl d_Mo_copy_39 ?_
        refine lv_iload_n hx hb d_Mo_copy_42 rfl (lv_at hl 1 rfl) ?_
        refine lv_aload_n hx hb d_Mo_copy_43 rfl (lv_at hl 0 rfl) ?_
        refine y_get (D := D) (ci := 5) (v := .ref (r 15)) (C := R_Mo) (T := F_Mo) (N := 20) hx hb hts in_Mo hown hK hP (m_at hri (i := 20) (by decide)) rfl 15 (by decide) (hts (.fieldLink R_Mo 47 "MemoryDeskModel" "slots" "[I") (by decide +kernel)) (fun _ h9 => h9) rfl d_Mo_copy_44 ?_
        refine lv_iload_n hx hb d_Mo_copy_47 rfl (lv_at hl 2 rfl) ?_
        refine y_iald (f := (S.1 15)) hx hb hK hP 2 (m_at hri (i := 15) (by decide)) rfl ht.v32 d_Mo_copy_48 ?_
        rw [r8 (j_n t) ht.j32]
        refine y_iast (f := (S.1 15)) hx hb hK hP hA hS 2 (m_at hri (i := 15) (by decide)) rfl hs.v32 d_Mo_copy_49 (fun H locs hP hA hS => ?_)
        have e9 : va_up (m_w r cN cZ cL (m_s S 10 0)) (r 15) (some (.inl (cN, 32, .inl (upd (S.1 15) sv.toNatClampNeg (nI (a.sl (j_n t))))))) = (m_w r cN cZ cL (m_a (m_s S 10 0) 15 sv.toNatClampNeg (nI (a.sl (j_n t))))) := m_wa15 hri (m_s S 10 0) sv.toNatClampNeg (nI (a.sl (j_n t)))
        have hP : y_P D vwCl (m_w r cN cZ cL (m_a (m_s S 10 0) 15 sv.toNatClampNeg (nI (a.sl (j_n t))))) H := by rw [← e9]; exact hP
        have hA : ∀ q99 e99, (m_w r cN cZ cL (m_a (m_s S 10 0) 15 sv.toNatClampNeg (nI (a.sl (j_n t))))) q99 = some e99 → A q99 := by rw [← e9]; exact hA
        refine lv_aload_n hx hb d_Mo_copy_50 rfl (lv_at hl 0 rfl) ?_
        refine y_get (D := D) (ci := 5) (v := .ref (r 15)) (C := R_Mo) (T := F_Mo) (N := 20) hx hb hts in_Mo hown hK hP (m_at hri (i := 20) (by decide)) rfl 15 (by decide) (hts (.fieldLink R_Mo 47 "MemoryDeskModel" "slots" "[I") (by decide +kernel)) (fun _ h9 => h9) rfl d_Mo_copy_51 ?_
        refine lv_iload_n hx hb d_Mo_copy_54 rfl (lv_at hl 1 rfl) ?_
        refine y_iald (f := (upd (S.1 15) sv.toNatClampNeg (nI (a.sl (j_n t))))) hx hb hK hP 2 (m_at hri (i := 15) (by decide)) rfl hs.v32 d_Mo_copy_55 ?_
        rw [upd_s]
        refine lv_if_eq hx hb d_Mo_copy_56 rfl (fun h5 => ?_) (fun h5 => ?_)
        · -- ifeq at 56: to 63
          refine lv_iconst (v := 0) hx hb d_Mo_copy_63 (by decide) ?_
          refine W.widen (k := 0) (n := 0) (by first | decide | omega) (by first | decide | omega) ?_
          exact x_ret (W.zret (v := 0) hx hb hr rfl (w_fin rfl hAe ⟨m_goodI ((q_y ⟨hs, ht⟩).trans (by rw [w_b0 (fun z => z ((nI_eq (b := 0) (by have := hw.2.2.1 (j_n t) ht.j32; omega) (by omega)).mp h5))])), m_good ((q_y ⟨hs, ht⟩).trans (by rw [w_b0 (fun z => z ((nI_eq (b := 0) (by have := hw.2.2.1 (j_n t) ht.j32; omega) (by omega)).mp h5))])) rfl (((hR0.err 0).puts).up (Nat.le_succ _))⟩ hP hA hS) hS.2.2 d_Mo_copy_64)
        · -- ifeq at 56: to 59
          refine lv_iconst (v := 1) hx hb d_Mo_copy_59 (by decide) ?_
          refine lv_goto hx hb d_Mo_copy_60 rfl ?_
          refine W.widen (k := 0) (n := 0) (by first | decide | omega) (by first | decide | omega) ?_
          exact x_ret (W.zret (v := 1) hx hb hr rfl (w_fin rfl hAe ⟨m_goodI ((q_y ⟨hs, ht⟩).trans (by rw [w_b1 (fun z => h5 (by rw [z]; rfl))])), m_good ((q_y ⟨hs, ht⟩).trans (by rw [w_b1 (fun z => h5 (by rw [z]; rfl))])) rfl (((hR0.err 0).puts).up (Nat.le_succ _))⟩ hP hA hS) hS.2.2 d_Mo_copy_64)
      · exact absurd rfl z1
      · exact absurd rfl z1
    · -- ifne at 21: to 24
      have ht : ¬ b_in t 32 := fun z => by have hy_ := h3; rw [c_bit.y (show ¬ t < 0 ∧ t ≤ 31 from (b_inI (n := 31) (by decide)).mpr z)] at hy_; exact absurd hy_ (by decide)
      refine lv_iconst (v := 1) hx hb d_Mo_copy_24 (by decide) ?_
      refine lv_goto hx hb d_Mo_copy_25 rfl ?_
      refine lv_iconst (v := 1) hx hb d_Mo_copy_29 (by decide) ?_
      refine w_callV (As := [.int 1, .int 1]) (C := R_Mo) ⟨hx, hb, hml, hown, hts⟩ (c_Mo_fails l D cK cI cN cZ cL r hri (m_s S 10 0) _ 1 1 (by decide)) (x_cb (cwV (own := R_Mo) (index := 96) (C := R_Mo) 2 hts (x_gi (by decide +kernel)) rfl rfl rfl (by decide +kernel) ⟨by decide, by decide⟩).1) (hts (.instanceMethod y_Mo_fails) (by decide +kernel)) (hts (.selects R_Mo y_Mo_fails y_Mo_fails) (by decide +kernel)) (y_recv (ci := 5) (q := (R_Mo, F_Mo, 20)) hK hP rfl (m_at hri (i := 20) (by decide))) hE hP hA hA0 hS rfl hl.1 rfl (lv_room (Nat.le_of_ble_eq_true rfl)) d_Mo_copy_30 (by first | decide | omega) (by first | decide | omega) (fun v9 g9 H locs hq9 hP hA hS => ?_) (fun E9 q9 ce9 g9 H locs hq9 hP hA hS z1 z2 z3 => ?_)
      rotate_left
      · rcases hq9 with z | z | z
        · exact nomatch z.2.2.1
        · exact nomatch z.2.1
        · exact nomatch z.2.2.1
      rcases hq9 with ⟨z1, z2, hv9, hg9⟩ | ⟨z1, hv9, hg9⟩ | ⟨z1, z2, hv9, hg9⟩
      · exact absurd z1 (by decide)
      · exact absurd rfl z1
      · cases hv9
        rw [hg9] at hP hA
        refine W.eq (g2 := F0 m 33 ls [.int 1]) rfl ?_
        refine lv_if_eq hx hb d_Mo_copy_33 rfl (fun h6 => (absurd h6 (by decide))) (fun h6 => ?_)
        refine lv_iconst (v := 0) hx hb d_Mo_copy_36 (by decide) ?_
        refine W.widen (k := 0) (n := 0) (by first | decide | omega) (by first | decide | omega) ?_
        exact x_ret (W.zret (v := 0) hx hb hr rfl (w_fin rfl hAe ⟨m_badI (i := 0) (q_n (fun z => ht z.2)), m_bad (i := 0) (q_n (fun z => ht z.2)) rfl ((hR0.err 0).err 1)⟩ hP hA hS) hS.2.2 d_Mo_copy_37)
set_option maxHeartbeats 4000000 in
set_option maxRecDepth 100000 in
/-- same(s, t) -/
theorem c_Mo_same (l : Launch) (D : va_G) (cK cI cN cZ cL : ClassId) (r : Nat → Nat) (hri : m_inj r) (S : MS) (sz : Nat) (a : Ab) (cn : Nat) (sv t : Int32) (hw : a_W a cn) (hc : cn ≤ 512) (hR : m_R a S cn)  : x_M l y_Mo_same [.code y_Mo_same b_Mo_same 3 (some .boolean)] rmV (w_Pc D (x_tys cK cI cN cZ cL) [.ref (r 20), .int sv, .int t] (m_w r cN cZ cL S) sz) (w_Qc D (m_w r cN cZ cL S) sz (fun r9 g9 => m_aI (s_same a sv t) r9 ∧ m_E r cN cZ cL (s_same a sv t) cn g9)) 0 0 (y_A (m_w r cN cZ cL S) sz) := by
  refine x_ofW (cc := b_Mo_same) (maxL := 3) (ret := (some .boolean)) (by decide) rfl ?_
  intro p e s m args below meth c s₁ B hml hno hv
  obtain ⟨rfl, hsz, hP, hE⟩ := hv
  subst hsz
  have hts := hE.hts ([.ref (r 20), .int sv, .int t] : List Value).toArray
  have hK := hE.1.2.1
  have hA0 : ∀ q, s.heap.size ≤ q → y_A (m_w r cN cZ cL S) s.heap.size q := fun q h => Or.inr h
  have hA : ∀ q e, (m_w r cN cZ cL S) q = some e → y_A (m_w r cN cZ cL S) s.heap.size q := fun q e h => Or.inl (by rw [h]; exact fun z => nomatch z)
  have hS : va_S (y_A (m_w r cN cZ cL S) s.heap.size) s.heap s.heap [] := va_S.rf
  generalize hAe : y_A (m_w r cN cZ cL S) s.heap.size = A at hE hA0 hA hS ⊢
  have hx := B.exec
  have hb := B.bytes
  have hr := B.returns
  have hlocks := B.notSynchronized
  have hown : s.vm.findClass R_Mo = some m.cls := findClass_of_methodNamed B.named
  have hl := lv_entry ([.ref (r 20), .int sv, .int t]) (n := 3) (Nat.le_of_ble_eq_true rfl)
  rw [lg_entry_eq]
  generalize (lg_sl ([.ref (r 20), .int sv, .int t]) ++ List.replicate (3 - (lg_sl ([.ref (r 20), .int sv, .int t])).length) Slot.unset).toArray = ls at hl ⊢
  have hl : lv_has ls 3 [(0, .ref (r 20)), (1, .int sv), (2, .int t)] := hl
  have hR0 := hR
  have hn : a.n ≤ cn := hw.2.2.2.2.2.2.2.2.2.1
  have hmm : a.mem ≤ 65536 := hw.2.2.2.2.2.2.2.2.1
  obtain ⟨r1, ⟨r2, r3, r4, r5⟩, r6, r7, r8, r9, r10, en, r11, r12, r13, r14⟩ := hR
  refine lv_aload_n hx hb d_Mo_same_0 rfl (lv_at hl 0 rfl) ?_
  refine lv_iconst (v := 0) hx hb d_Mo_same_1 (by decide) ?_
  refine y_put (D := D) (ci := 5) (v := .int 0) (ty := .int) (C := R_Mo) (T := F_Mo) (N := 20) hx hb hts in_Mo t_Mo t_Mo_ok n_Mo hown hK hP hA hS (m_at hri (i := 20) (by decide)) rfl 10 (by decide) (hts (.fieldLink R_Mo 59 "MemoryDeskModel" "err" "I") (by decide +kernel)) (fun _ h9 => h9) rfl (by decide +kernel) rfl rfl (Nat.le_of_ble_eq_true rfl) d_Mo_same_2 (fun H locs hP hA hS => ?_)
  have e9 : va_up (m_w r cN cZ cL S) (r 20) (some (.inr (5, [.ref (r 0), .ref (r 1), .ref (r 2), .ref (r 3), .ref (r 4), .ref (r 5), .ref (r 6), .int (S.2.2 7), .int (S.2.2 8), .int (S.2.2 9), .int 0, .ref (r 11), .ref (r 12), .ref (r 13), .int (S.2.2 14), .ref (r 15), .ref (r 16), .ref (r 17), .ref (r 18), .int (S.2.2 19)]))) = (m_w r cN cZ cL (m_s S 10 0)) := m_ws10 hri S 0
  have hP : y_P D vwCl (m_w r cN cZ cL (m_s S 10 0)) H := by rw [← e9]; exact hP
  have hA : ∀ q99 e99, (m_w r cN cZ cL (m_s S 10 0)) q99 = some e99 → A q99 := by rw [← e9]; exact hA
  refine lv_aload_n hx hb d_Mo_same_5 rfl (lv_at hl 0 rfl) ?_
  refine lv_iload_n hx hb d_Mo_same_6 rfl (lv_at hl 1 rfl) ?_
  refine lv_bipush (v := 31) hx hb d_Mo_same_7 (by decide) ?_
  refine w_callS (As := [.int sv, .int 31]) ⟨hx, hb, hml, hown, hts⟩ (c_Mo_in l D cK cI cN cZ cL r hri (m_s S 10 0) _ sv 31) (x_cb (va_cwS (own := R_Mo) (index := 93) 2 hts (x_gi (by decide +kernel)) rfl rfl rfl (by decide +kernel) ⟨by decide, by decide⟩).1) (hts (.static y_Mo_in) (by decide +kernel)) hE hP hA hA0 hS rfl hl.1 rfl (lv_room (Nat.le_of_ble_eq_true rfl)) d_Mo_same_9 (by first | decide | omega) (by first | decide | omega) (fun v9 g9 H locs hq9 hP hA hS => ?_) (fun E9 q9 ce9 g9 H locs hq9 hP hA hS z1 z2 z3 => ?_)
  rotate_left
  · exact nomatch hq9.1
  obtain ⟨hv9, hg9⟩ := hq9
  cases hv9
  rw [hg9] at hP hA
  refine W.eq (g2 := F0 m 12 ls [.int (c_bit (¬ sv < 0 ∧ sv ≤ 31)), .ref (r 20)]) rfl ?_
  refine lv_if_eq hx hb d_Mo_same_12 rfl (fun h1 => ?_) (fun h1 => ?_)
  · -- ifeq at 12: to 24
    have hs : ¬ b_in sv 32 := fun z => by have hy_ := h1; rw [c_bit.y (show ¬ sv < 0 ∧ sv ≤ 31 from (b_inI (n := 31) (by decide)).mpr z)] at hy_; exact absurd hy_ (by decide)
    refine lv_iconst (v := 1) hx hb d_Mo_same_24 (by decide) ?_
    refine lv_goto hx hb d_Mo_same_25 rfl ?_
    refine lv_iconst (v := 1) hx hb d_Mo_same_29 (by decide) ?_
    refine w_callV (As := [.int 1, .int 1]) (C := R_Mo) ⟨hx, hb, hml, hown, hts⟩ (c_Mo_fails l D cK cI cN cZ cL r hri (m_s S 10 0) _ 1 1 (by decide)) (x_cb (cwV (own := R_Mo) (index := 96) (C := R_Mo) 2 hts (x_gi (by decide +kernel)) rfl rfl rfl (by decide +kernel) ⟨by decide, by decide⟩).1) (hts (.instanceMethod y_Mo_fails) (by decide +kernel)) (hts (.selects R_Mo y_Mo_fails y_Mo_fails) (by decide +kernel)) (y_recv (ci := 5) (q := (R_Mo, F_Mo, 20)) hK hP rfl (m_at hri (i := 20) (by decide))) hE hP hA hA0 hS rfl hl.1 rfl (lv_room (Nat.le_of_ble_eq_true rfl)) d_Mo_same_30 (by first | decide | omega) (by first | decide | omega) (fun v9 g9 H locs hq9 hP hA hS => ?_) (fun E9 q9 ce9 g9 H locs hq9 hP hA hS z1 z2 z3 => ?_)
    rotate_left
    · rcases hq9 with z | z | z
      · exact nomatch z.2.2.1
      · exact nomatch z.2.1
      · exact nomatch z.2.2.1
    rcases hq9 with ⟨z1, z2, hv9, hg9⟩ | ⟨z1, hv9, hg9⟩ | ⟨z1, z2, hv9, hg9⟩
    · exact absurd z1 (by decide)
    · exact absurd rfl z1
    · cases hv9
      rw [hg9] at hP hA
      refine W.eq (g2 := F0 m 33 ls [.int 1]) rfl ?_
      refine lv_if_ne hx hb d_Mo_same_33 rfl (fun h2 => ?_) (fun h2 => (absurd h2 (by decide)))
      refine lv_iconst (v := 0) hx hb d_Mo_same_55 (by decide) ?_
      refine W.widen (k := 0) (n := 0) (by first | decide | omega) (by first | decide | omega) ?_
      exact x_ret (W.zret (v := 0) hx hb hr rfl (w_fin rfl hAe ⟨m_badI (i := 0) (q_n (fun z => hs z.1)), m_bad (i := 0) (q_n (fun z => hs z.1)) rfl ((hR0.err 0).err 1)⟩ hP hA hS) hS.2.2 d_Mo_same_56)
  · -- ifeq at 12: to 15
    have hs : b_in sv 32 := (b_inI (n := 31) (by decide)).mp (Classical.byContradiction (fun z => h1 (c_bit.n z)))
    refine lv_iload_n hx hb d_Mo_same_15 rfl (lv_at hl 2 rfl) ?_
    refine lv_bipush (v := 31) hx hb d_Mo_same_16 (by decide) ?_
    refine w_callS (As := [.int t, .int 31]) ⟨hx, hb, hml, hown, hts⟩ (c_Mo_in l D cK cI cN cZ cL r hri (m_s S 10 0) _ t 31) (x_cb (va_cwS (own := R_Mo) (index := 93) 2 hts (x_gi (by decide +kernel)) rfl rfl rfl (by decide +kernel) ⟨by decide, by decide⟩).1) (hts (.static y_Mo_in) (by decide +kernel)) hE hP hA hA0 hS rfl hl.1 rfl (lv_room (Nat.le_of_ble_eq_true rfl)) d_Mo_same_18 (by first | decide | omega) (by first | decide | omega) (fun v9 g9 H locs hq9 hP hA hS => ?_) (fun E9 q9 ce9 g9 H locs hq9 hP hA hS z1 z2 z3 => ?_)
    rotate_left
    · exact nomatch hq9.1
    obtain ⟨hv9, hg9⟩ := hq9
    cases hv9
    rw [hg9] at hP hA
    refine W.eq (g2 := F0 m 21 ls [.int (c_bit (¬ t < 0 ∧ t ≤ 31)), .ref (r 20)]) rfl ?_
    refine lv_if_ne hx hb d_Mo_same_21 rfl (fun h3 => ?_) (fun h3 => ?_)
    · -- ifne at 21: to 28
      have ht : b_in t 32 := (b_inI (n := 31) (by decide)).mp (Classical.byContradiction (fun z => h3 (c_bit.n z)))
      refine lv_iconst (v := 0) hx hb d_Mo_same_28 (by decide) ?_
      refine lv_iconst (v := 1) hx hb d_Mo_same_29 (by decide) ?_
      refine w_callV (As := [.int 0, .int 1]) (C := R_Mo) ⟨hx, hb, hml, hown, hts⟩ (c_Mo_fails l D cK cI cN cZ cL r hri (m_s S 10 0) _ 0 1 (by decide)) (x_cb (cwV (own := R_Mo) (index := 96) (C := R_Mo) 2 hts (x_gi (by decide +kernel)) rfl rfl rfl (by decide +kernel) ⟨by decide, by decide⟩).1) (hts (.instanceMethod y_Mo_fails) (by decide +kernel)) (hts (.selects R_Mo y_Mo_fails y_Mo_fails) (by decide +kernel)) (y_recv (ci := 5) (q := (R_Mo, F_Mo, 20)) hK hP rfl (m_at hri (i := 20) (by decide))) hE hP hA hA0 hS rfl hl.1 rfl (lv_room (Nat.le_of_ble_eq_true rfl)) d_Mo_same_30 (by first | decide | omega) (by first | decide | omega) (fun v9 g9 H locs hq9 hP hA hS => ?_) (fun E9 q9 ce9 g9 H locs hq9 hP hA hS z1 z2 z3 => ?_)
      rotate_left
      · rcases hq9 with z | z | z
        · exact nomatch z.2.2.1
        · exact nomatch z.2.1
        · exact nomatch z.2.2.1
      rcases hq9 with ⟨z1, z2, hv9, hg9⟩ | ⟨z1, hv9, hg9⟩ | ⟨z1, z2, hv9, hg9⟩
      · cases hv9
        rw [hg9] at hP hA
        refine W.eq (g2 := F0 m 33 ls [.int 0]) rfl ?_
        refine lv_if_ne hx hb d_Mo_same_33 rfl (fun h4 => (absurd rfl h4)) (fun h4 => ?_)
        refine lv_aload_n hx hb d_Mo_same_36 rfl (lv_at hl 0 rfl) ?_
        refine y_get (D := D) (ci := 5) (v := .ref (r 15)) (C := R_Mo) (T := F_Mo) (N := 20) hx hb hts in_Mo hown hK hP (m_at hri (i := 20) (by decide)) rfl 15 (by decide) (hts (.fieldLink R_Mo 47 "MemoryDeskModel" "slots" "[I") (by decide +kernel)) (fun _ h9 => h9) rfl d_Mo_same_37 ?_
        refine lv_iload_n hx hb d_Mo_same_40 rfl (lv_at hl 1 rfl) ?_
        refine y_iald (f := (S.1 15)) hx hb hK hP 2 (m_at hri (i := 15) (by decide)) rfl hs.v32 d_Mo_same_41 ?_
        rw [r8 (j_n sv) hs.j32]
        refine lv_aload_n hx hb d_Mo_same_42 rfl (lv_at hl 0 rfl) ?_
        refine y_get (D := D) (ci := 5) (v := .ref (r 15)) (C := R_Mo) (T := F_Mo) (N := 20) hx hb hts in_Mo hown hK hP (m_at hri (i := 20) (by decide)) rfl 15 (by decide) (hts (.fieldLink R_Mo 47 "MemoryDeskModel" "slots" "[I") (by decide +kernel)) (fun _ h9 => h9) rfl d_Mo_same_43 ?_
        refine lv_iload_n hx hb d_Mo_same_46 rfl (lv_at hl 2 rfl) ?_
        refine y_iald (f := (S.1 15)) hx hb hK hP 2 (m_at hri (i := 15) (by decide)) rfl ht.v32 d_Mo_same_47 ?_
        rw [r8 (j_n t) ht.j32]
        refine lv_icmp_ne hx hb d_Mo_same_48 rfl (fun h5 => ?_) (fun h5 => ?_)
        · -- if_icmpne at 48: to 55
          refine lv_iconst (v := 0) hx hb d_Mo_same_55 (by decide) ?_
          refine W.widen (k := 0) (n := 0) (by first | decide | omega) (by first | decide | omega) ?_
          exact x_ret (W.zret (v := 0) hx hb hr rfl (w_fin rfl hAe ⟨m_goodI ((q_y ⟨hs, ht⟩).trans (by rw [w_b0 (fun z => h5 (by rw [z]))])), m_good ((q_y ⟨hs, ht⟩).trans (by rw [w_b0 (fun z => h5 (by rw [z]))])) rfl ((hR0.err 0).up (Nat.le_succ _))⟩ hP hA hS) hS.2.2 d_Mo_same_56)
        · -- if_icmpne at 48: to 51
          refine lv_iconst (v := 1) hx hb d_Mo_same_51 (by decide) ?_
          refine lv_goto hx hb d_Mo_same_52 rfl ?_
          refine W.widen (k := 0) (n := 0) (by first | decide | omega) (by first | decide | omega) ?_
          exact x_ret (W.zret (v := 1) hx hb hr rfl (w_fin rfl hAe ⟨m_goodI ((q_y ⟨hs, ht⟩).trans (by rw [w_b1 ((nI_eq (by have := hw.2.2.1 (j_n sv) hs.j32; omega) (by have := hw.2.2.1 (j_n t) ht.j32; omega)).mp h5)])), m_good ((q_y ⟨hs, ht⟩).trans (by rw [w_b1 ((nI_eq (by have := hw.2.2.1 (j_n sv) hs.j32; omega) (by have := hw.2.2.1 (j_n t) ht.j32; omega)).mp h5)])) rfl ((hR0.err 0).up (Nat.le_succ _))⟩ hP hA hS) hS.2.2 d_Mo_same_56)
      · exact absurd rfl z1
      · exact absurd rfl z1
    · -- ifne at 21: to 24
      have ht : ¬ b_in t 32 := fun z => by have hy_ := h3; rw [c_bit.y (show ¬ t < 0 ∧ t ≤ 31 from (b_inI (n := 31) (by decide)).mpr z)] at hy_; exact absurd hy_ (by decide)
      refine lv_iconst (v := 1) hx hb d_Mo_same_24 (by decide) ?_
      refine lv_goto hx hb d_Mo_same_25 rfl ?_
      refine lv_iconst (v := 1) hx hb d_Mo_same_29 (by decide) ?_
      refine w_callV (As := [.int 1, .int 1]) (C := R_Mo) ⟨hx, hb, hml, hown, hts⟩ (c_Mo_fails l D cK cI cN cZ cL r hri (m_s S 10 0) _ 1 1 (by decide)) (x_cb (cwV (own := R_Mo) (index := 96) (C := R_Mo) 2 hts (x_gi (by decide +kernel)) rfl rfl rfl (by decide +kernel) ⟨by decide, by decide⟩).1) (hts (.instanceMethod y_Mo_fails) (by decide +kernel)) (hts (.selects R_Mo y_Mo_fails y_Mo_fails) (by decide +kernel)) (y_recv (ci := 5) (q := (R_Mo, F_Mo, 20)) hK hP rfl (m_at hri (i := 20) (by decide))) hE hP hA hA0 hS rfl hl.1 rfl (lv_room (Nat.le_of_ble_eq_true rfl)) d_Mo_same_30 (by first | decide | omega) (by first | decide | omega) (fun v9 g9 H locs hq9 hP hA hS => ?_) (fun E9 q9 ce9 g9 H locs hq9 hP hA hS z1 z2 z3 => ?_)
      rotate_left
      · rcases hq9 with z | z | z
        · exact nomatch z.2.2.1
        · exact nomatch z.2.1
        · exact nomatch z.2.2.1
      rcases hq9 with ⟨z1, z2, hv9, hg9⟩ | ⟨z1, hv9, hg9⟩ | ⟨z1, z2, hv9, hg9⟩
      · exact absurd z1 (by decide)
      · exact absurd rfl z1
      · cases hv9
        rw [hg9] at hP hA
        refine W.eq (g2 := F0 m 33 ls [.int 1]) rfl ?_
        refine lv_if_ne hx hb d_Mo_same_33 rfl (fun h6 => ?_) (fun h6 => (absurd h6 (by decide)))
        refine lv_iconst (v := 0) hx hb d_Mo_same_55 (by decide) ?_
        refine W.widen (k := 0) (n := 0) (by first | decide | omega) (by first | decide | omega) ?_
        exact x_ret (W.zret (v := 0) hx hb hr rfl (w_fin rfl hAe ⟨m_badI (i := 0) (q_n (fun z => ht z.2)), m_bad (i := 0) (q_n (fun z => ht z.2)) rfl ((hR0.err 0).err 1)⟩ hP hA hS) hS.2.2 d_Mo_same_56)
set_option maxHeartbeats 4000000 in
set_option maxRecDepth 100000 in
/-- drop(s) -/
theorem c_Mo_drop (l : Launch) (D : va_G) (cK cI cN cZ cL : ClassId) (r : Nat → Nat) (hri : m_inj r) (S : MS) (sz : Nat) (a : Ab) (cn : Nat) (sv : Int32) (hw : a_W a cn) (hc : cn ≤ 512) (hR : m_R a S cn)  : x_M l y_Mo_drop [.code y_Mo_drop b_Mo_drop 3 (some .boolean)] rmV (w_Pc D (x_tys cK cI cN cZ cL) [.ref (r 20), .int sv] (m_w r cN cZ cL S) sz) (w_Qc D (m_w r cN cZ cL S) sz (fun r9 g9 => m_aI (s_drop a sv) r9 ∧ m_E r cN cZ cL (s_drop a sv) cn g9)) 0 0 (y_A (m_w r cN cZ cL S) sz) := by
  refine x_ofW (cc := b_Mo_drop) (maxL := 3) (ret := (some .boolean)) (by decide) rfl ?_
  intro p e s m args below meth c s₁ B hml hno hv
  obtain ⟨rfl, hsz, hP, hE⟩ := hv
  subst hsz
  have hts := hE.hts ([.ref (r 20), .int sv] : List Value).toArray
  have hK := hE.1.2.1
  have hA0 : ∀ q, s.heap.size ≤ q → y_A (m_w r cN cZ cL S) s.heap.size q := fun q h => Or.inr h
  have hA : ∀ q e, (m_w r cN cZ cL S) q = some e → y_A (m_w r cN cZ cL S) s.heap.size q := fun q e h => Or.inl (by rw [h]; exact fun z => nomatch z)
  have hS : va_S (y_A (m_w r cN cZ cL S) s.heap.size) s.heap s.heap [] := va_S.rf
  generalize hAe : y_A (m_w r cN cZ cL S) s.heap.size = A at hE hA0 hA hS ⊢
  have hx := B.exec
  have hb := B.bytes
  have hr := B.returns
  have hlocks := B.notSynchronized
  have hown : s.vm.findClass R_Mo = some m.cls := findClass_of_methodNamed B.named
  have hl := lv_entry ([.ref (r 20), .int sv]) (n := 3) (Nat.le_of_ble_eq_true rfl)
  rw [lg_entry_eq]
  generalize (lg_sl ([.ref (r 20), .int sv]) ++ List.replicate (3 - (lg_sl ([.ref (r 20), .int sv])).length) Slot.unset).toArray = ls at hl ⊢
  have hl : lv_has ls 3 [(0, .ref (r 20)), (1, .int sv)] := hl
  have hR0 := hR
  have hn : a.n ≤ cn := hw.2.2.2.2.2.2.2.2.2.1
  have hmm : a.mem ≤ 65536 := hw.2.2.2.2.2.2.2.2.1
  obtain ⟨r1, ⟨r2, r3, r4, r5⟩, r6, r7, r8, r9, r10, en, r11, r12, r13, r14⟩ := hR
  refine lv_aload_n hx hb d_Mo_drop_0 rfl (lv_at hl 0 rfl) ?_
  refine lv_iconst (v := 0) hx hb d_Mo_drop_1 (by decide) ?_
  refine y_put (D := D) (ci := 5) (v := .int 0) (ty := .int) (C := R_Mo) (T := F_Mo) (N := 20) hx hb hts in_Mo t_Mo t_Mo_ok n_Mo hown hK hP hA hS (m_at hri (i := 20) (by decide)) rfl 10 (by decide) (hts (.fieldLink R_Mo 59 "MemoryDeskModel" "err" "I") (by decide +kernel)) (fun _ h9 => h9) rfl (by decide +kernel) rfl rfl (Nat.le_of_ble_eq_true rfl) d_Mo_drop_2 (fun H locs hP hA hS => ?_)
  have e9 : va_up (m_w r cN cZ cL S) (r 20) (some (.inr (5, [.ref (r 0), .ref (r 1), .ref (r 2), .ref (r 3), .ref (r 4), .ref (r 5), .ref (r 6), .int (S.2.2 7), .int (S.2.2 8), .int (S.2.2 9), .int 0, .ref (r 11), .ref (r 12), .ref (r 13), .int (S.2.2 14), .ref (r 15), .ref (r 16), .ref (r 17), .ref (r 18), .int (S.2.2 19)]))) = (m_w r cN cZ cL (m_s S 10 0)) := m_ws10 hri S 0
  have hP : y_P D vwCl (m_w r cN cZ cL (m_s S 10 0)) H := by rw [← e9]; exact hP
  have hA : ∀ q99 e99, (m_w r cN cZ cL (m_s S 10 0)) q99 = some e99 → A q99 := by rw [← e9]; exact hA
  refine lv_aload_n hx hb d_Mo_drop_5 rfl (lv_at hl 0 rfl) ?_
  refine lv_iload_n hx hb d_Mo_drop_6 rfl (lv_at hl 1 rfl) ?_
  refine lv_bipush (v := 31) hx hb d_Mo_drop_7 (by decide) ?_
  refine w_callS (As := [.int sv, .int 31]) ⟨hx, hb, hml, hown, hts⟩ (c_Mo_in l D cK cI cN cZ cL r hri (m_s S 10 0) _ sv 31) (x_cb (va_cwS (own := R_Mo) (index := 93) 2 hts (x_gi (by decide +kernel)) rfl rfl rfl (by decide +kernel) ⟨by decide, by decide⟩).1) (hts (.static y_Mo_in) (by decide +kernel)) hE hP hA hA0 hS rfl hl.1 rfl (lv_room (Nat.le_of_ble_eq_true rfl)) d_Mo_drop_9 (by first | decide | omega) (by first | decide | omega) (fun v9 g9 H locs hq9 hP hA hS => ?_) (fun E9 q9 ce9 g9 H locs hq9 hP hA hS z1 z2 z3 => ?_)
  rotate_left
  · exact nomatch hq9.1
  obtain ⟨hv9, hg9⟩ := hq9
  cases hv9
  rw [hg9] at hP hA
  refine W.eq (g2 := F0 m 12 ls [.int (c_bit (¬ sv < 0 ∧ sv ≤ 31)), .ref (r 20)]) rfl ?_
  refine lv_if_ne hx hb d_Mo_drop_12 rfl (fun h1 => ?_) (fun h1 => ?_)
  · -- ifne at 12: to 19
    have hs : b_in sv 32 := (b_inI (n := 31) (by decide)).mp (Classical.byContradiction (fun z => h1 (c_bit.n z)))
    refine lv_iconst (v := 0) hx hb d_Mo_drop_19 (by decide) ?_
    refine lv_iconst (v := 1) hx hb d_Mo_drop_20 (by decide) ?_
    refine w_callV (As := [.int 0, .int 1]) (C := R_Mo) ⟨hx, hb, hml, hown, hts⟩ (c_Mo_fails l D cK cI cN cZ cL r hri (m_s S 10 0) _ 0 1 (by decide)) (x_cb (cwV (own := R_Mo) (index := 96) (C := R_Mo) 2 hts (x_gi (by decide +kernel)) rfl rfl rfl (by decide +kernel) ⟨by decide, by decide⟩).1) (hts (.instanceMethod y_Mo_fails) (by decide +kernel)) (hts (.selects R_Mo y_Mo_fails y_Mo_fails) (by decide +kernel)) (y_recv (ci := 5) (q := (R_Mo, F_Mo, 20)) hK hP rfl (m_at hri (i := 20) (by decide))) hE hP hA hA0 hS rfl hl.1 rfl (lv_room (Nat.le_of_ble_eq_true rfl)) d_Mo_drop_21 (by first | decide | omega) (by first | decide | omega) (fun v9 g9 H locs hq9 hP hA hS => ?_) (fun E9 q9 ce9 g9 H locs hq9 hP hA hS z1 z2 z3 => ?_)
    rotate_left
    · rcases hq9 with z | z | z
      · exact nomatch z.2.2.1
      · exact nomatch z.2.1
      · exact nomatch z.2.2.1
    rcases hq9 with ⟨z1, z2, hv9, hg9⟩ | ⟨z1, hv9, hg9⟩ | ⟨z1, z2, hv9, hg9⟩
    · cases hv9
      rw [hg9] at hP hA
      refine W.eq (g2 := F0 m 24 ls [.int 0]) rfl ?_
      refine lv_if_eq hx hb d_Mo_drop_24 rfl (fun h2 => ?_) (fun h2 => (absurd rfl h2))
      refine lv_aload_n hx hb d_Mo_drop_29 rfl (lv_at hl 0 rfl) ?_
      refine y_get (D := D) (ci := 5) (v := .ref (r 15)) (C := R_Mo) (T := F_Mo) (N := 20) hx hb hts in_Mo hown hK hP (m_at hri (i := 20) (by decide)) rfl 15 (by decide) (hts (.fieldLink R_Mo 47 "MemoryDeskModel" "slots" "[I") (by decide +kernel)) (fun _ h9 => h9) rfl d_Mo_drop_30 ?_
      refine lv_iload_n hx hb d_Mo_drop_33 rfl (lv_at hl 1 rfl) ?_
      refine y_iald (f := (S.1 15)) hx hb hK hP 2 (m_at hri (i := 15) (by decide)) rfl hs.v32 d_Mo_drop_34 ?_
      rw [r8 (j_n sv) hs.j32]
      refine lv_if_eq hx hb d_Mo_drop_35 rfl (fun h3 => ?_) (fun h3 => ?_)
      · -- ifeq at 35: to 42
        refine lv_iconst (v := 0) hx hb d_Mo_drop_42 (by decide) ?_
        refine lv_istore_n hx hb d_Mo_drop_43 rfl hl (by decide) rfl (fun ls hl => ?_)
        have hl : lv_has ls 3 [(2, .int 0), (0, .ref (r 20)), (1, .int sv)] := hl
        refine lv_aload_n hx hb d_Mo_drop_44 rfl (lv_at hl 1 rfl) ?_
        refine y_get (D := D) (ci := 5) (v := .ref (r 15)) (C := R_Mo) (T := F_Mo) (N := 20) hx hb hts in_Mo hown hK hP (m_at hri (i := 20) (by decide)) rfl 15 (by decide) (hts (.fieldLink R_Mo 47 "MemoryDeskModel" "slots" "[I") (by decide +kernel)) (fun _ h9 => h9) rfl d_Mo_drop_45 ?_
        refine lv_iload_n hx hb d_Mo_drop_48 rfl (lv_at hl 2 rfl) ?_
        refine lv_iconst (v := 0) hx hb d_Mo_drop_49 (by decide) ?_
        refine y_iast (f := (S.1 15)) hx hb hK hP hA hS 2 (m_at hri (i := 15) (by decide)) rfl hs.v32 d_Mo_drop_50 (fun H locs hP hA hS => ?_)
        have e9 : va_up (m_w r cN cZ cL (m_s S 10 0)) (r 15) (some (.inl (cN, 32, .inl (upd (S.1 15) sv.toNatClampNeg 0)))) = (m_w r cN cZ cL (m_a (m_s S 10 0) 15 sv.toNatClampNeg 0)) := m_wa15 hri (m_s S 10 0) sv.toNatClampNeg 0
        have hP : y_P D vwCl (m_w r cN cZ cL (m_a (m_s S 10 0) 15 sv.toNatClampNeg 0)) H := by rw [← e9]; exact hP
        have hA : ∀ q99 e99, (m_w r cN cZ cL (m_a (m_s S 10 0) 15 sv.toNatClampNeg 0)) q99 = some e99 → A q99 := by rw [← e9]; exact hA
        refine lv_iload_n hx hb d_Mo_drop_51 rfl (lv_at hl 0 rfl) ?_
        refine W.widen (k := 0) (n := 0) (by first | decide | omega) (by first | decide | omega) ?_
        exact x_ret (W.zret (v := 0) hx hb hr rfl (w_fin rfl hAe ⟨m_goodI ((q_y hs).trans (by rw [w_b0 (fun z => z ((nI_eq (b := 0) (by have := hw.2.2.1 (j_n sv) hs.j32; omega) (by omega)).mp h3))])), m_good ((q_y hs).trans (by rw [w_b0 (fun z => z ((nI_eq (b := 0) (by have := hw.2.2.1 (j_n sv) hs.j32; omega) (by omega)).mp h3))])) rfl (((hR0.err 0).puts (o := 0)).up (Nat.le_succ _))⟩ hP hA hS) hS.2.2 d_Mo_drop_52)
      · -- ifeq at 35: to 38
        refine lv_iconst (v := 1) hx hb d_Mo_drop_38 (by decide) ?_
        refine lv_goto hx hb d_Mo_drop_39 rfl ?_
        refine lv_istore_n hx hb d_Mo_drop_43 rfl hl (by decide) rfl (fun ls hl => ?_)
        have hl : lv_has ls 3 [(2, .int 1), (0, .ref (r 20)), (1, .int sv)] := hl
        refine lv_aload_n hx hb d_Mo_drop_44 rfl (lv_at hl 1 rfl) ?_
        refine y_get (D := D) (ci := 5) (v := .ref (r 15)) (C := R_Mo) (T := F_Mo) (N := 20) hx hb hts in_Mo hown hK hP (m_at hri (i := 20) (by decide)) rfl 15 (by decide) (hts (.fieldLink R_Mo 47 "MemoryDeskModel" "slots" "[I") (by decide +kernel)) (fun _ h9 => h9) rfl d_Mo_drop_45 ?_
        refine lv_iload_n hx hb d_Mo_drop_48 rfl (lv_at hl 2 rfl) ?_
        refine lv_iconst (v := 0) hx hb d_Mo_drop_49 (by decide) ?_
        refine y_iast (f := (S.1 15)) hx hb hK hP hA hS 2 (m_at hri (i := 15) (by decide)) rfl hs.v32 d_Mo_drop_50 (fun H locs hP hA hS => ?_)
        have e9 : va_up (m_w r cN cZ cL (m_s S 10 0)) (r 15) (some (.inl (cN, 32, .inl (upd (S.1 15) sv.toNatClampNeg 0)))) = (m_w r cN cZ cL (m_a (m_s S 10 0) 15 sv.toNatClampNeg 0)) := m_wa15 hri (m_s S 10 0) sv.toNatClampNeg 0
        have hP : y_P D vwCl (m_w r cN cZ cL (m_a (m_s S 10 0) 15 sv.toNatClampNeg 0)) H := by rw [← e9]; exact hP
        have hA : ∀ q99 e99, (m_w r cN cZ cL (m_a (m_s S 10 0) 15 sv.toNatClampNeg 0)) q99 = some e99 → A q99 := by rw [← e9]; exact hA
        refine lv_iload_n hx hb d_Mo_drop_51 rfl (lv_at hl 0 rfl) ?_
        refine W.widen (k := 0) (n := 0) (by first | decide | omega) (by first | decide | omega) ?_
        exact x_ret (W.zret (v := 1) hx hb hr rfl (w_fin rfl hAe ⟨m_goodI ((q_y hs).trans (by rw [w_b1 (fun z => h3 (by rw [z]; rfl))])), m_good ((q_y hs).trans (by rw [w_b1 (fun z => h3 (by rw [z]; rfl))])) rfl (((hR0.err 0).puts (o := 0)).up (Nat.le_succ _))⟩ hP hA hS) hS.2.2 d_Mo_drop_52)
    · exact absurd rfl z1
    · exact absurd rfl z1
  · -- ifne at 12: to 15
    have hs : ¬ b_in sv 32 := fun z => by have hy_ := h1; rw [c_bit.y (show ¬ sv < 0 ∧ sv ≤ 31 from (b_inI (n := 31) (by decide)).mpr z)] at hy_; exact absurd hy_ (by decide)
    refine lv_iconst (v := 1) hx hb d_Mo_drop_15 (by decide) ?_
    refine lv_goto hx hb d_Mo_drop_16 rfl ?_
    refine lv_iconst (v := 1) hx hb d_Mo_drop_20 (by decide) ?_
    refine w_callV (As := [.int 1, .int 1]) (C := R_Mo) ⟨hx, hb, hml, hown, hts⟩ (c_Mo_fails l D cK cI cN cZ cL r hri (m_s S 10 0) _ 1 1 (by decide)) (x_cb (cwV (own := R_Mo) (index := 96) (C := R_Mo) 2 hts (x_gi (by decide +kernel)) rfl rfl rfl (by decide +kernel) ⟨by decide, by decide⟩).1) (hts (.instanceMethod y_Mo_fails) (by decide +kernel)) (hts (.selects R_Mo y_Mo_fails y_Mo_fails) (by decide +kernel)) (y_recv (ci := 5) (q := (R_Mo, F_Mo, 20)) hK hP rfl (m_at hri (i := 20) (by decide))) hE hP hA hA0 hS rfl hl.1 rfl (lv_room (Nat.le_of_ble_eq_true rfl)) d_Mo_drop_21 (by first | decide | omega) (by first | decide | omega) (fun v9 g9 H locs hq9 hP hA hS => ?_) (fun E9 q9 ce9 g9 H locs hq9 hP hA hS z1 z2 z3 => ?_)
    rotate_left
    · rcases hq9 with z | z | z
      · exact nomatch z.2.2.1
      · exact nomatch z.2.1
      · exact nomatch z.2.2.1
    rcases hq9 with ⟨z1, z2, hv9, hg9⟩ | ⟨z1, hv9, hg9⟩ | ⟨z1, z2, hv9, hg9⟩
    · exact absurd z1 (by decide)
    · exact absurd rfl z1
    · cases hv9
      rw [hg9] at hP hA
      refine W.eq (g2 := F0 m 24 ls [.int 1]) rfl ?_
      refine lv_if_eq hx hb d_Mo_drop_24 rfl (fun h4 => (absurd h4 (by decide))) (fun h4 => ?_)
      refine lv_iconst (v := 0) hx hb d_Mo_drop_27 (by decide) ?_
      refine W.widen (k := 0) (n := 0) (by first | decide | omega) (by first | decide | omega) ?_
      exact x_ret (W.zret (v := 0) hx hb hr rfl (w_fin rfl hAe ⟨m_badI (i := 0) (q_n hs), m_bad (i := 0) (q_n hs) rfl ((hR0.err 0).err 1)⟩ hP hA hS) hS.2.2 d_Mo_drop_28)
set_option maxHeartbeats 4000000 in
set_option maxRecDepth 100000 in
/-- every(n) -/
theorem c_Mo_every (l : Launch) (D : va_G) (cK cI cN cZ cL : ClassId) (r : Nat → Nat) (hri : m_inj r) (S : MS) (sz : Nat) (a : Ab) (cn : Nat) (n : Int32) (hw : a_W a cn) (hc : cn ≤ 512) (hR : m_R a S cn)  : x_M l y_Mo_every [.code y_Mo_every b_Mo_every 2 none] rmV (w_Pc D (x_tys cK cI cN cZ cL) [.ref (r 20), .int n] (m_w r cN cZ cL S) sz) (w_Qc D (m_w r cN cZ cL S) sz (fun r9 g9 => r9 = .inl none ∧ m_E r cN cZ cL (s_every a n) cn g9)) 0 0 (y_A (m_w r cN cZ cL S) sz) := by
  refine x_ofW (cc := b_Mo_every) (maxL := 2) (ret := none) (by decide) rfl ?_
  intro p e s m args below meth c s₁ B hml hno hv
  obtain ⟨rfl, hsz, hP, hE⟩ := hv
  subst hsz
  have hts := hE.hts ([.ref (r 20), .int n] : List Value).toArray
  have hK := hE.1.2.1
  have hA0 : ∀ q, s.heap.size ≤ q → y_A (m_w r cN cZ cL S) s.heap.size q := fun q h => Or.inr h
  have hA : ∀ q e, (m_w r cN cZ cL S) q = some e → y_A (m_w r cN cZ cL S) s.heap.size q := fun q e h => Or.inl (by rw [h]; exact fun z => nomatch z)
  have hS : va_S (y_A (m_w r cN cZ cL S) s.heap.size) s.heap s.heap [] := va_S.rf
  generalize hAe : y_A (m_w r cN cZ cL S) s.heap.size = A at hE hA0 hA hS ⊢
  have hx := B.exec
  have hb := B.bytes
  have hr := B.returns
  have hlocks := B.notSynchronized
  have hown : s.vm.findClass R_Mo = some m.cls := findClass_of_methodNamed B.named
  have hl := lv_entry ([.ref (r 20), .int n]) (n := 2) (Nat.le_of_ble_eq_true rfl)
  rw [lg_entry_eq]
  generalize (lg_sl ([.ref (r 20), .int n]) ++ List.replicate (2 - (lg_sl ([.ref (r 20), .int n])).length) Slot.unset).toArray = ls at hl ⊢
  have hl : lv_has ls 2 [(0, .ref (r 20)), (1, .int n)] := hl
  have hR0 := hR
  have hn : a.n ≤ cn := hw.2.2.2.2.2.2.2.2.2.1
  have hmm : a.mem ≤ 65536 := hw.2.2.2.2.2.2.2.2.1
  obtain ⟨r1, ⟨r2, r3, r4, r5⟩, r6, r7, r8, r9, r10, en, r11, r12, r13, r14⟩ := hR
  refine lv_aload_n hx hb d_Mo_every_0 rfl (lv_at hl 0 rfl) ?_
  refine lv_iconst (v := 0) hx hb d_Mo_every_1 (by decide) ?_
  refine y_put (D := D) (ci := 5) (v := .int 0) (ty := .int) (C := R_Mo) (T := F_Mo) (N := 20) hx hb hts in_Mo t_Mo t_Mo_ok n_Mo hown hK hP hA hS (m_at hri (i := 20) (by decide)) rfl 10 (by decide) (hts (.fieldLink R_Mo 59 "MemoryDeskModel" "err" "I") (by decide +kernel)) (fun _ h9 => h9) rfl (by decide +kernel) rfl rfl (Nat.le_of_ble_eq_true rfl) d_Mo_every_2 (fun H locs hP hA hS => ?_)
  have e9 : va_up (m_w r cN cZ cL S) (r 20) (some (.inr (5, [.ref (r 0), .ref (r 1), .ref (r 2), .ref (r 3), .ref (r 4), .ref (r 5), .ref (r 6), .int (S.2.2 7), .int (S.2.2 8), .int (S.2.2 9), .int 0, .ref (r 11), .ref (r 12), .ref (r 13), .int (S.2.2 14), .ref (r 15), .ref (r 16), .ref (r 17), .ref (r 18), .int (S.2.2 19)]))) = (m_w r cN cZ cL (m_s S 10 0)) := m_ws10 hri S 0
  have hP : y_P D vwCl (m_w r cN cZ cL (m_s S 10 0)) H := by rw [← e9]; exact hP
  have hA : ∀ q99 e99, (m_w r cN cZ cL (m_s S 10 0)) q99 = some e99 → A q99 := by rw [← e9]; exact hA
  refine lv_aload_n hx hb d_Mo_every_5 rfl (lv_at hl 0 rfl) ?_
  refine lv_iload_n hx hb d_Mo_every_6 rfl (lv_at hl 1 rfl) ?_
  refine lv_if_ge hx hb d_Mo_every_7 rfl (fun h1 => ?_) (fun h1 => ?_)
  · -- ifge at 7: to 14
    refine lv_iconst (v := 0) hx hb d_Mo_every_14 (by decide) ?_
    refine lv_iconst (v := 1) hx hb d_Mo_every_15 (by decide) ?_
    refine w_callV (As := [.int 0, .int 1]) (C := R_Mo) ⟨hx, hb, hml, hown, hts⟩ (c_Mo_fails l D cK cI cN cZ cL r hri (m_s S 10 0) _ 0 1 (by decide)) (x_cb (cwV (own := R_Mo) (index := 96) (C := R_Mo) 2 hts (x_gi (by decide +kernel)) rfl rfl rfl (by decide +kernel) ⟨by decide, by decide⟩).1) (hts (.instanceMethod y_Mo_fails) (by decide +kernel)) (hts (.selects R_Mo y_Mo_fails y_Mo_fails) (by decide +kernel)) (y_recv (ci := 5) (q := (R_Mo, F_Mo, 20)) hK hP rfl (m_at hri (i := 20) (by decide))) hE hP hA hA0 hS rfl hl.1 rfl (lv_room (Nat.le_of_ble_eq_true rfl)) d_Mo_every_16 (by first | decide | omega) (by first | decide | omega) (fun v9 g9 H locs hq9 hP hA hS => ?_) (fun E9 q9 ce9 g9 H locs hq9 hP hA hS z1 z2 z3 => ?_)
    rotate_left
    · rcases hq9 with z | z | z
      · exact nomatch z.2.2.1
      · exact nomatch z.2.1
      · exact nomatch z.2.2.1
    rcases hq9 with ⟨z1, z2, hv9, hg9⟩ | ⟨z1, hv9, hg9⟩ | ⟨z1, z2, hv9, hg9⟩
    · cases hv9
      rw [hg9] at hP hA
      refine W.eq (g2 := F0 m 19 ls [.int 0]) rfl ?_
      refine lv_pop hx hb d_Mo_every_19 rfl ?_
      refine W.widen (k := 0) (n := 0) (by first | decide | omega) (by first | decide | omega) ?_
      exact x_ret (W.vret hx hb hr (w_fin rfl hAe ⟨rfl, m_good (q_y (m_nlt h1)) rfl ((hR0.err 0).up (Nat.le_succ _))⟩ hP hA hS) hS.2.2 d_Mo_every_20)
    · exact absurd rfl z1
    · exact absurd rfl z1
  · -- ifge at 7: to 10
    refine lv_iconst (v := 1) hx hb d_Mo_every_10 (by decide) ?_
    refine lv_goto hx hb d_Mo_every_11 rfl ?_
    refine lv_iconst (v := 1) hx hb d_Mo_every_15 (by decide) ?_
    refine w_callV (As := [.int 1, .int 1]) (C := R_Mo) ⟨hx, hb, hml, hown, hts⟩ (c_Mo_fails l D cK cI cN cZ cL r hri (m_s S 10 0) _ 1 1 (by decide)) (x_cb (cwV (own := R_Mo) (index := 96) (C := R_Mo) 2 hts (x_gi (by decide +kernel)) rfl rfl rfl (by decide +kernel) ⟨by decide, by decide⟩).1) (hts (.instanceMethod y_Mo_fails) (by decide +kernel)) (hts (.selects R_Mo y_Mo_fails y_Mo_fails) (by decide +kernel)) (y_recv (ci := 5) (q := (R_Mo, F_Mo, 20)) hK hP rfl (m_at hri (i := 20) (by decide))) hE hP hA hA0 hS rfl hl.1 rfl (lv_room (Nat.le_of_ble_eq_true rfl)) d_Mo_every_16 (by first | decide | omega) (by first | decide | omega) (fun v9 g9 H locs hq9 hP hA hS => ?_) (fun E9 q9 ce9 g9 H locs hq9 hP hA hS z1 z2 z3 => ?_)
    rotate_left
    · rcases hq9 with z | z | z
      · exact nomatch z.2.2.1
      · exact nomatch z.2.1
      · exact nomatch z.2.2.1
    rcases hq9 with ⟨z1, z2, hv9, hg9⟩ | ⟨z1, hv9, hg9⟩ | ⟨z1, z2, hv9, hg9⟩
    · exact absurd z1 (by decide)
    · exact absurd rfl z1
    · cases hv9
      rw [hg9] at hP hA
      refine W.eq (g2 := F0 m 19 ls [.int 1]) rfl ?_
      refine lv_pop hx hb d_Mo_every_19 rfl ?_
      refine W.widen (k := 0) (n := 0) (by first | decide | omega) (by first | decide | omega) ?_
      exact x_ret (W.vret hx hb hr (w_fin rfl hAe ⟨rfl, m_bad (i := 0) (q_n (fun z => z (b_lt0 h1))) rfl ((hR0.err 0).err 1)⟩ hP hA hS) hS.2.2 d_Mo_every_20)
set_option maxHeartbeats 4000000 in
set_option maxRecDepth 100000 in
/-- row(k, elements) -/
theorem c_Mo_row (l : Launch) (D : va_G) (cK cI cN cZ cL : ClassId) (r : Nat → Nat) (hri : m_inj r) (S : MS) (sz : Nat) (a : Ab) (cn : Nat) (k el : Int32) (hw : a_W a cn) (hc : cn ≤ 512) (hR : m_R a S cn)  : x_M l y_Mo_row [.code y_Mo_row b_Mo_row 3 none] rmV (w_Pc D (x_tys cK cI cN cZ cL) [.ref (r 20), .int k, .int el] (m_w r cN cZ cL S) sz) (w_Qc D (m_w r cN cZ cL S) sz (fun r9 g9 => r9 = .inl none ∧ m_E r cN cZ cL (s_row a k el) cn g9)) 0 0 (y_A (m_w r cN cZ cL S) sz) := by
  refine x_ofW (cc := b_Mo_row) (maxL := 3) (ret := none) (by decide) rfl ?_
  intro p e s m args below meth c s₁ B hml hno hv
  obtain ⟨rfl, hsz, hP, hE⟩ := hv
  subst hsz
  have hts := hE.hts ([.ref (r 20), .int k, .int el] : List Value).toArray
  have hK := hE.1.2.1
  have hA0 : ∀ q, s.heap.size ≤ q → y_A (m_w r cN cZ cL S) s.heap.size q := fun q h => Or.inr h
  have hA : ∀ q e, (m_w r cN cZ cL S) q = some e → y_A (m_w r cN cZ cL S) s.heap.size q := fun q e h => Or.inl (by rw [h]; exact fun z => nomatch z)
  have hS : va_S (y_A (m_w r cN cZ cL S) s.heap.size) s.heap s.heap [] := va_S.rf
  generalize hAe : y_A (m_w r cN cZ cL S) s.heap.size = A at hE hA0 hA hS ⊢
  have hx := B.exec
  have hb := B.bytes
  have hr := B.returns
  have hlocks := B.notSynchronized
  have hown : s.vm.findClass R_Mo = some m.cls := findClass_of_methodNamed B.named
  have hl := lv_entry ([.ref (r 20), .int k, .int el]) (n := 3) (Nat.le_of_ble_eq_true rfl)
  rw [lg_entry_eq]
  generalize (lg_sl ([.ref (r 20), .int k, .int el]) ++ List.replicate (3 - (lg_sl ([.ref (r 20), .int k, .int el])).length) Slot.unset).toArray = ls at hl ⊢
  have hl : lv_has ls 3 [(0, .ref (r 20)), (1, .int k), (2, .int el)] := hl
  have hR0 := hR
  have hn : a.n ≤ cn := hw.2.2.2.2.2.2.2.2.2.1
  have hmm : a.mem ≤ 65536 := hw.2.2.2.2.2.2.2.2.1
  obtain ⟨r1, ⟨r2, r3, r4, r5⟩, r6, r7, r8, r9, r10, en, r11, r12, r13, r14⟩ := hR
  refine lv_aload_n hx hb d_Mo_row_0 rfl (lv_at hl 0 rfl) ?_
  refine lv_iconst (v := 0) hx hb d_Mo_row_1 (by decide) ?_
  refine y_put (D := D) (ci := 5) (v := .int 0) (ty := .int) (C := R_Mo) (T := F_Mo) (N := 20) hx hb hts in_Mo t_Mo t_Mo_ok n_Mo hown hK hP hA hS (m_at hri (i := 20) (by decide)) rfl 10 (by decide) (hts (.fieldLink R_Mo 59 "MemoryDeskModel" "err" "I") (by decide +kernel)) (fun _ h9 => h9) rfl (by decide +kernel) rfl rfl (Nat.le_of_ble_eq_true rfl) d_Mo_row_2 (fun H locs hP hA hS => ?_)
  have e9 : va_up (m_w r cN cZ cL S) (r 20) (some (.inr (5, [.ref (r 0), .ref (r 1), .ref (r 2), .ref (r 3), .ref (r 4), .ref (r 5), .ref (r 6), .int (S.2.2 7), .int (S.2.2 8), .int (S.2.2 9), .int 0, .ref (r 11), .ref (r 12), .ref (r 13), .int (S.2.2 14), .ref (r 15), .ref (r 16), .ref (r 17), .ref (r 18), .int (S.2.2 19)]))) = (m_w r cN cZ cL (m_s S 10 0)) := m_ws10 hri S 0
  have hP : y_P D vwCl (m_w r cN cZ cL (m_s S 10 0)) H := by rw [← e9]; exact hP
  have hA : ∀ q99 e99, (m_w r cN cZ cL (m_s S 10 0)) q99 = some e99 → A q99 := by rw [← e9]; exact hA
  refine lv_aload_n hx hb d_Mo_row_5 rfl (lv_at hl 0 rfl) ?_
  refine lv_iload_n hx hb d_Mo_row_6 rfl (lv_at hl 1 rfl) ?_
  refine lv_bipush (v := 15) hx hb d_Mo_row_7 (by decide) ?_
  refine w_callS (As := [.int k, .int 15]) ⟨hx, hb, hml, hown, hts⟩ (c_Mo_in l D cK cI cN cZ cL r hri (m_s S 10 0) _ k 15) (x_cb (va_cwS (own := R_Mo) (index := 93) 2 hts (x_gi (by decide +kernel)) rfl rfl rfl (by decide +kernel) ⟨by decide, by decide⟩).1) (hts (.static y_Mo_in) (by decide +kernel)) hE hP hA hA0 hS rfl hl.1 rfl (lv_room (Nat.le_of_ble_eq_true rfl)) d_Mo_row_9 (by first | decide | omega) (by first | decide | omega) (fun v9 g9 H locs hq9 hP hA hS => ?_) (fun E9 q9 ce9 g9 H locs hq9 hP hA hS z1 z2 z3 => ?_)
  rotate_left
  · exact nomatch hq9.1
  obtain ⟨hv9, hg9⟩ := hq9
  cases hv9
  rw [hg9] at hP hA
  refine W.eq (g2 := F0 m 12 ls [.int (c_bit (¬ k < 0 ∧ k ≤ 15)), .ref (r 20)]) rfl ?_
  refine lv_if_eq hx hb d_Mo_row_12 rfl (fun h1 => ?_) (fun h1 => ?_)
  · -- ifeq at 12: to 23
    have hk : ¬ b_in k 16 := fun z => by have hy_ := h1; rw [c_bit.y (show ¬ k < 0 ∧ k ≤ 15 from (b_inI (n := 15) (by decide)).mpr z)] at hy_; exact absurd hy_ (by decide)
    refine lv_iconst (v := 1) hx hb d_Mo_row_23 (by decide) ?_
    refine lv_goto hx hb d_Mo_row_24 rfl ?_
    refine lv_iconst (v := 1) hx hb d_Mo_row_28 (by decide) ?_
    refine w_callV (As := [.int 1, .int 1]) (C := R_Mo) ⟨hx, hb, hml, hown, hts⟩ (c_Mo_fails l D cK cI cN cZ cL r hri (m_s S 10 0) _ 1 1 (by decide)) (x_cb (cwV (own := R_Mo) (index := 96) (C := R_Mo) 2 hts (x_gi (by decide +kernel)) rfl rfl rfl (by decide +kernel) ⟨by decide, by decide⟩).1) (hts (.instanceMethod y_Mo_fails) (by decide +kernel)) (hts (.selects R_Mo y_Mo_fails y_Mo_fails) (by decide +kernel)) (y_recv (ci := 5) (q := (R_Mo, F_Mo, 20)) hK hP rfl (m_at hri (i := 20) (by decide))) hE hP hA hA0 hS rfl hl.1 rfl (lv_room (Nat.le_of_ble_eq_true rfl)) d_Mo_row_29 (by first | decide | omega) (by first | decide | omega) (fun v9 g9 H locs hq9 hP hA hS => ?_) (fun E9 q9 ce9 g9 H locs hq9 hP hA hS z1 z2 z3 => ?_)
    rotate_left
    · rcases hq9 with z | z | z
      · exact nomatch z.2.2.1
      · exact nomatch z.2.1
      · exact nomatch z.2.2.1
    rcases hq9 with ⟨z1, z2, hv9, hg9⟩ | ⟨z1, hv9, hg9⟩ | ⟨z1, z2, hv9, hg9⟩
    · exact absurd z1 (by decide)
    · exact absurd rfl z1
    · cases hv9
      rw [hg9] at hP hA
      refine W.eq (g2 := F0 m 32 ls [.int 1]) rfl ?_
      refine lv_if_ne hx hb d_Mo_row_32 rfl (fun h2 => ?_) (fun h2 => (absurd h2 (by decide)))
      refine W.widen (k := 0) (n := 0) (by first | decide | omega) (by first | decide | omega) ?_
      exact x_ret (W.vret hx hb hr (w_fin rfl hAe ⟨rfl, m_bad (i := 0) (q_n (fun z => hk z.1)) rfl ((hR0.err 0).err 1)⟩ hP hA hS) hS.2.2 d_Mo_row_49)
  · -- ifeq at 12: to 15
    have hk : b_in k 16 := (b_inI (n := 15) (by decide)).mp (Classical.byContradiction (fun z => h1 (c_bit.n z)))
    refine lv_iload_n hx hb d_Mo_row_15 rfl (lv_at hl 2 rfl) ?_
    refine lv_iconst (v := 4) hx hb d_Mo_row_16 (by decide) ?_
    refine w_callS (As := [.int el, .int 4]) ⟨hx, hb, hml, hown, hts⟩ (c_Mo_in l D cK cI cN cZ cL r hri (m_s S 10 0) _ el 4) (x_cb (va_cwS (own := R_Mo) (index := 93) 2 hts (x_gi (by decide +kernel)) rfl rfl rfl (by decide +kernel) ⟨by decide, by decide⟩).1) (hts (.static y_Mo_in) (by decide +kernel)) hE hP hA hA0 hS rfl hl.1 rfl (lv_room (Nat.le_of_ble_eq_true rfl)) d_Mo_row_17 (by first | decide | omega) (by first | decide | omega) (fun v9 g9 H locs hq9 hP hA hS => ?_) (fun E9 q9 ce9 g9 H locs hq9 hP hA hS z1 z2 z3 => ?_)
    rotate_left
    · exact nomatch hq9.1
    obtain ⟨hv9, hg9⟩ := hq9
    cases hv9
    rw [hg9] at hP hA
    refine W.eq (g2 := F0 m 20 ls [.int (c_bit (¬ el < 0 ∧ el ≤ 4)), .ref (r 20)]) rfl ?_
    refine lv_if_ne hx hb d_Mo_row_20 rfl (fun h3 => ?_) (fun h3 => ?_)
    · -- ifne at 20: to 27
      have hel : b_in el 5 := (b_inI (n := 4) (by decide)).mp (Classical.byContradiction (fun z => h3 (c_bit.n z)))
      refine lv_iconst (v := 0) hx hb d_Mo_row_27 (by decide) ?_
      refine lv_iconst (v := 1) hx hb d_Mo_row_28 (by decide) ?_
      refine w_callV (As := [.int 0, .int 1]) (C := R_Mo) ⟨hx, hb, hml, hown, hts⟩ (c_Mo_fails l D cK cI cN cZ cL r hri (m_s S 10 0) _ 0 1 (by decide)) (x_cb (cwV (own := R_Mo) (index := 96) (C := R_Mo) 2 hts (x_gi (by decide +kernel)) rfl rfl rfl (by decide +kernel) ⟨by decide, by decide⟩).1) (hts (.instanceMethod y_Mo_fails) (by decide +kernel)) (hts (.selects R_Mo y_Mo_fails y_Mo_fails) (by decide +kernel)) (y_recv (ci := 5) (q := (R_Mo, F_Mo, 20)) hK hP rfl (m_at hri (i := 20) (by decide))) hE hP hA hA0 hS rfl hl.1 rfl (lv_room (Nat.le_of_ble_eq_true rfl)) d_Mo_row_29 (by first | decide | omega) (by first | decide | omega) (fun v9 g9 H locs hq9 hP hA hS => ?_) (fun E9 q9 ce9 g9 H locs hq9 hP hA hS z1 z2 z3 => ?_)
      rotate_left
      · rcases hq9 with z | z | z
        · exact nomatch z.2.2.1
        · exact nomatch z.2.1
        · exact nomatch z.2.2.1
      rcases hq9 with ⟨z1, z2, hv9, hg9⟩ | ⟨z1, hv9, hg9⟩ | ⟨z1, z2, hv9, hg9⟩
      · cases hv9
        rw [hg9] at hP hA
        refine W.eq (g2 := F0 m 32 ls [.int 0]) rfl ?_
        refine lv_if_ne hx hb d_Mo_row_32 rfl (fun h4 => (absurd rfl h4)) (fun h4 => ?_)
        refine lv_aload_n hx hb d_Mo_row_35 rfl (lv_at hl 0 rfl) ?_
        refine lv_aload_n hx hb d_Mo_row_36 rfl (lv_at hl 0 rfl) ?_
        refine y_get (D := D) (ci := 5) (v := .ref (r 3)) (C := R_Mo) (T := F_Mo) (N := 20) hx hb hts in_Mo hown hK hP (m_at hri (i := 20) (by decide)) rfl 3 (by decide) (hts (.fieldLink R_Mo 19 "MemoryDeskModel" "defined" "[Z") (by decide +kernel)) (fun _ h9 => h9) rfl d_Mo_row_37 ?_
        refine lv_iload_n hx hb d_Mo_row_40 rfl (lv_at hl 1 rfl) ?_
        refine y_zald (f := (S.1 3)) hx hb hK hP 3 (m_at hri (i := 3) (by decide)) rfl hk.v16 d_Mo_row_41 ?_
        rcases r1 (j_n k) hk.j16 with ⟨hkd, hdf⟩ | ⟨q, hkd, hdf, -⟩
        · rw [hdf]
          refine lv_iconst (v := 1) hx hb d_Mo_row_42 (by decide) ?_
          refine w_callV (As := [.int 0, .int 1]) (C := R_Mo) ⟨hx, hb, hml, hown, hts⟩ (c_Mo_fails l D cK cI cN cZ cL r hri (m_s S 10 0) _ 0 1 (by decide)) (x_cb (cwV (own := R_Mo) (index := 96) (C := R_Mo) 2 hts (x_gi (by decide +kernel)) rfl rfl rfl (by decide +kernel) ⟨by decide, by decide⟩).1) (hts (.instanceMethod y_Mo_fails) (by decide +kernel)) (hts (.selects R_Mo y_Mo_fails y_Mo_fails) (by decide +kernel)) (y_recv (ci := 5) (q := (R_Mo, F_Mo, 20)) hK hP rfl (m_at hri (i := 20) (by decide))) hE hP hA hA0 hS rfl hl.1 rfl (lv_room (Nat.le_of_ble_eq_true rfl)) d_Mo_row_43 (by first | decide | omega) (by first | decide | omega) (fun v9 g9 H locs hq9 hP hA hS => ?_) (fun E9 q9 ce9 g9 H locs hq9 hP hA hS z1 z2 z3 => ?_)
          rotate_left
          · rcases hq9 with z | z | z
            · exact nomatch z.2.2.1
            · exact nomatch z.2.1
            · exact nomatch z.2.2.1
          rcases hq9 with ⟨z1, z2, hv9, hg9⟩ | ⟨z1, hv9, hg9⟩ | ⟨z1, z2, hv9, hg9⟩
          · cases hv9
            rw [hg9] at hP hA
            refine W.eq (g2 := F0 m 46 ls [.int 0]) rfl ?_
            refine lv_if_eq hx hb d_Mo_row_46 rfl (fun h5 => ?_) (fun h5 => (absurd rfl h5))
            refine lv_aload_n hx hb d_Mo_row_50 rfl (lv_at hl 0 rfl) ?_
            refine y_get (D := D) (ci := 5) (v := .ref (r 3)) (C := R_Mo) (T := F_Mo) (N := 20) hx hb hts in_Mo hown hK hP (m_at hri (i := 20) (by decide)) rfl 3 (by decide) (hts (.fieldLink R_Mo 19 "MemoryDeskModel" "defined" "[Z") (by decide +kernel)) (fun _ h9 => h9) rfl d_Mo_row_51 ?_
            refine lv_iload_n hx hb d_Mo_row_54 rfl (lv_at hl 1 rfl) ?_
            refine lv_iconst (v := 1) hx hb d_Mo_row_55 (by decide) ?_
            refine y_zast (f := (S.1 3)) hx hb hK hP hA hS 3 (m_at hri (i := 3) (by decide)) rfl hk.v16 m_nar1 d_Mo_row_56 (fun H locs hP hA hS => ?_)
            have e9 : va_up (m_w r cN cZ cL (m_s S 10 0)) (r 3) (some (.inl (cZ, 16, .inl (upd (S.1 3) k.toNatClampNeg 1)))) = (m_w r cN cZ cL (m_a (m_s S 10 0) 3 k.toNatClampNeg 1)) := m_wa3 hri (m_s S 10 0) k.toNatClampNeg 1
            have hP : y_P D vwCl (m_w r cN cZ cL (m_a (m_s S 10 0) 3 k.toNatClampNeg 1)) H := by rw [← e9]; exact hP
            have hA : ∀ q99 e99, (m_w r cN cZ cL (m_a (m_s S 10 0) 3 k.toNatClampNeg 1)) q99 = some e99 → A q99 := by rw [← e9]; exact hA
            refine lv_aload_n hx hb d_Mo_row_57 rfl (lv_at hl 0 rfl) ?_
            refine y_get (D := D) (ci := 5) (v := .ref (r 2)) (C := R_Mo) (T := F_Mo) (N := 20) hx hb hts in_Mo hown hK hP (m_at hri (i := 20) (by decide)) rfl 2 (by decide) (hts (.fieldLink R_Mo 16 "MemoryDeskModel" "kindRow" "[I") (by decide +kernel)) (fun _ h9 => h9) rfl d_Mo_row_58 ?_
            refine lv_iload_n hx hb d_Mo_row_61 rfl (lv_at hl 1 rfl) ?_
            refine lv_iload_n hx hb d_Mo_row_62 rfl (lv_at hl 2 rfl) ?_
            refine y_iast (f := (S.1 2)) hx hb hK hP hA hS 2 (m_at hri (i := 2) (by decide)) rfl hk.v16 d_Mo_row_63 (fun H locs hP hA hS => ?_)
            have e9 : va_up (m_w r cN cZ cL (m_a (m_s S 10 0) 3 k.toNatClampNeg 1)) (r 2) (some (.inl (cN, 16, .inl (upd (S.1 2) k.toNatClampNeg el)))) = (m_w r cN cZ cL (m_a (m_a (m_s S 10 0) 3 k.toNatClampNeg 1) 2 k.toNatClampNeg el)) := m_wa2 hri (m_a (m_s S 10 0) 3 k.toNatClampNeg 1) k.toNatClampNeg el
            have hP : y_P D vwCl (m_w r cN cZ cL (m_a (m_a (m_s S 10 0) 3 k.toNatClampNeg 1) 2 k.toNatClampNeg el)) H := by rw [← e9]; exact hP
            have hA : ∀ q99 e99, (m_w r cN cZ cL (m_a (m_a (m_s S 10 0) 3 k.toNatClampNeg 1) 2 k.toNatClampNeg el)) q99 = some e99 → A q99 := by rw [← e9]; exact hA
            refine W.widen (k := 0) (n := 0) (by first | decide | omega) (by first | decide | omega) ?_
            exact x_ret (W.vret hx hb hr (w_fin rfl hAe ⟨rfl, m_good (q_y ⟨hk, hel, hkd⟩) rfl (((hR0.err 0).kindR hel.1).up (Nat.le_succ _))⟩ hP hA hS) hS.2.2 d_Mo_row_64)
          · exact absurd rfl z1
          · exact absurd rfl z1
        · rw [hdf]
          refine lv_iconst (v := 1) hx hb d_Mo_row_42 (by decide) ?_
          refine w_callV (As := [.int 1, .int 1]) (C := R_Mo) ⟨hx, hb, hml, hown, hts⟩ (c_Mo_fails l D cK cI cN cZ cL r hri (m_s S 10 0) _ 1 1 (by decide)) (x_cb (cwV (own := R_Mo) (index := 96) (C := R_Mo) 2 hts (x_gi (by decide +kernel)) rfl rfl rfl (by decide +kernel) ⟨by decide, by decide⟩).1) (hts (.instanceMethod y_Mo_fails) (by decide +kernel)) (hts (.selects R_Mo y_Mo_fails y_Mo_fails) (by decide +kernel)) (y_recv (ci := 5) (q := (R_Mo, F_Mo, 20)) hK hP rfl (m_at hri (i := 20) (by decide))) hE hP hA hA0 hS rfl hl.1 rfl (lv_room (Nat.le_of_ble_eq_true rfl)) d_Mo_row_43 (by first | decide | omega) (by first | decide | omega) (fun v9 g9 H locs hq9 hP hA hS => ?_) (fun E9 q9 ce9 g9 H locs hq9 hP hA hS z1 z2 z3 => ?_)
          rotate_left
          · rcases hq9 with z | z | z
            · exact nomatch z.2.2.1
            · exact nomatch z.2.1
            · exact nomatch z.2.2.1
          rcases hq9 with ⟨z1, z2, hv9, hg9⟩ | ⟨z1, hv9, hg9⟩ | ⟨z1, z2, hv9, hg9⟩
          · exact absurd z1 (by decide)
          · exact absurd rfl z1
          · cases hv9
            rw [hg9] at hP hA
            refine W.eq (g2 := F0 m 46 ls [.int 1]) rfl ?_
            refine lv_if_eq hx hb d_Mo_row_46 rfl (fun h6 => (absurd h6 (by decide))) (fun h6 => ?_)
            refine W.widen (k := 0) (n := 0) (by first | decide | omega) (by first | decide | omega) ?_
            exact x_ret (W.vret hx hb hr (w_fin rfl hAe ⟨rfl, m_bad (i := 0) (q_n (fun z => by rw [hkd] at z; cases z.2.2)) rfl ((hR0.err 0).err 1)⟩ hP hA hS) hS.2.2 d_Mo_row_49)
      · exact absurd rfl z1
      · exact absurd rfl z1
    · -- ifne at 20: to 23
      have hel : ¬ b_in el 5 := fun z => by have hy_ := h3; rw [c_bit.y (show ¬ el < 0 ∧ el ≤ 4 from (b_inI (n := 4) (by decide)).mpr z)] at hy_; exact absurd hy_ (by decide)
      refine lv_iconst (v := 1) hx hb d_Mo_row_23 (by decide) ?_
      refine lv_goto hx hb d_Mo_row_24 rfl ?_
      refine lv_iconst (v := 1) hx hb d_Mo_row_28 (by decide) ?_
      refine w_callV (As := [.int 1, .int 1]) (C := R_Mo) ⟨hx, hb, hml, hown, hts⟩ (c_Mo_fails l D cK cI cN cZ cL r hri (m_s S 10 0) _ 1 1 (by decide)) (x_cb (cwV (own := R_Mo) (index := 96) (C := R_Mo) 2 hts (x_gi (by decide +kernel)) rfl rfl rfl (by decide +kernel) ⟨by decide, by decide⟩).1) (hts (.instanceMethod y_Mo_fails) (by decide +kernel)) (hts (.selects R_Mo y_Mo_fails y_Mo_fails) (by decide +kernel)) (y_recv (ci := 5) (q := (R_Mo, F_Mo, 20)) hK hP rfl (m_at hri (i := 20) (by decide))) hE hP hA hA0 hS rfl hl.1 rfl (lv_room (Nat.le_of_ble_eq_true rfl)) d_Mo_row_29 (by first | decide | omega) (by first | decide | omega) (fun v9 g9 H locs hq9 hP hA hS => ?_) (fun E9 q9 ce9 g9 H locs hq9 hP hA hS z1 z2 z3 => ?_)
      rotate_left
      · rcases hq9 with z | z | z
        · exact nomatch z.2.2.1
        · exact nomatch z.2.1
        · exact nomatch z.2.2.1
      rcases hq9 with ⟨z1, z2, hv9, hg9⟩ | ⟨z1, hv9, hg9⟩ | ⟨z1, z2, hv9, hg9⟩
      · exact absurd z1 (by decide)
      · exact absurd rfl z1
      · cases hv9
        rw [hg9] at hP hA
        refine W.eq (g2 := F0 m 32 ls [.int 1]) rfl ?_
        refine lv_if_ne hx hb d_Mo_row_32 rfl (fun h7 => ?_) (fun h7 => (absurd h7 (by decide)))
        refine W.widen (k := 0) (n := 0) (by first | decide | omega) (by first | decide | omega) ?_
        exact x_ret (W.vret hx hb hr (w_fin rfl hAe ⟨rfl, m_bad (i := 0) (q_n (fun z => hel z.2.1)) rfl ((hR0.err 0).err 1)⟩ hP hA hS) hS.2.2 d_Mo_row_49)
end
