section
-- ===== PART A: goes FIRST, ahead of the names: the tables' words, and 'selects' of the private methods out of them =====
/-- a private method of a class that the tables say can be made, by its rows of tables_1 -/
def lw_okq (q : MethodName × Nat) : Prop := (q.1.cls ≠ "java/lang/invoke/MethodHandle" ∧ q.1.cls ≠ "java/lang/invoke/VarHandle") ∧ Cond.instantiable q.1.cls q.2 ∈ tables_1 ∧ Cond.privateMethod q.1 ∈ tables_1 ∧ Cond.instanceMethod q.1 ∈ tables_1
theorem lw_p0 : lw_okq (⟨"MemoryDesk", "clearAway", "()V"⟩, 11) := ⟨⟨by decide +kernel, by decide +kernel⟩, List.mem_of_getElem? (i := 16) (by decide +kernel), List.mem_of_getElem? (i := 67) (by decide +kernel), List.mem_of_getElem? (i := 68) (by decide +kernel)⟩
theorem lw_p1 : lw_okq (⟨"MemoryDesk", "comeTo", "(LMemoryDesk$Item;)V"⟩, 11) := ⟨⟨by decide +kernel, by decide +kernel⟩, List.mem_of_getElem? (i := 16) (by decide +kernel), List.mem_of_getElem? (i := 71) (by decide +kernel), List.mem_of_getElem? (i := 72) (by decide +kernel)⟩
theorem lw_p2 : lw_okq (⟨"MemoryDesk", "checkUndefined", "(I)V"⟩, 11) := ⟨⟨by decide +kernel, by decide +kernel⟩, List.mem_of_getElem? (i := 16) (by decide +kernel), List.mem_of_getElem? (i := 83) (by decide +kernel), List.mem_of_getElem? (i := 84) (by decide +kernel)⟩
theorem lw_p3 : lw_okq (⟨"java/lang/Throwable", "fillInStackTrace", "(I)Ljava/lang/Throwable;"⟩, 6) := ⟨⟨by decide +kernel, by decide +kernel⟩, List.mem_of_getElem? (i := 129) (by decide +kernel), List.mem_of_getElem? (i := 127) (by decide +kernel), List.mem_of_getElem? (i := 128) (by decide +kernel)⟩
theorem lw_p4 : lw_okq (⟨"MemoryDesk", "takeRoom", "(J)I"⟩, 11) := ⟨⟨by decide +kernel, by decide +kernel⟩, List.mem_of_getElem? (i := 16) (by decide +kernel), List.mem_of_getElem? (i := 251) (by decide +kernel), List.mem_of_getElem? (i := 252) (by decide +kernel)⟩
theorem lw_p5 : lw_okq (⟨"MemoryDesk", "heldWithPlace", "(IIZ)LMemoryDesk$Item;"⟩, 11) := ⟨⟨by decide +kernel, by decide +kernel⟩, List.mem_of_getElem? (i := 16) (by decide +kernel), List.mem_of_getElem? (i := 346) (by decide +kernel), List.mem_of_getElem? (i := 347) (by decide +kernel)⟩
theorem lw_p6 : lw_okq (⟨"MemoryDesk", "held", "(I)LMemoryDesk$Item;"⟩, 11) := ⟨⟨by decide +kernel, by decide +kernel⟩, List.mem_of_getElem? (i := 16) (by decide +kernel), List.mem_of_getElem? (i := 350) (by decide +kernel), List.mem_of_getElem? (i := 351) (by decide +kernel)⟩
theorem lw_p7 : lw_okq (⟨"MemoryDeskModel", "fails", "(ZI)Z"⟩, 20) := ⟨⟨by decide +kernel, by decide +kernel⟩, List.mem_of_getElem? (i := 478) (by decide +kernel), List.mem_of_getElem? (i := 560) (by decide +kernel), List.mem_of_getElem? (i := 561) (by decide +kernel)⟩
theorem lw_p8 : lw_okq (⟨"MemoryDeskModel", "reachable", "()J"⟩, 20) := ⟨⟨by decide +kernel, by decide +kernel⟩, List.mem_of_getElem? (i := 478) (by decide +kernel), List.mem_of_getElem? (i := 578) (by decide +kernel), List.mem_of_getElem? (i := 579) (by decide +kernel)⟩
theorem lw_p9 : lw_okq (⟨"MemoryDeskModel", "many", "(I)I"⟩, 20) := ⟨⟨by decide +kernel, by decide +kernel⟩, List.mem_of_getElem? (i := 478) (by decide +kernel), List.mem_of_getElem? (i := 582) (by decide +kernel), List.mem_of_getElem? (i := 583) (by decide +kernel)⟩
theorem lw_p10 : lw_okq (⟨"MemoryDeskModel", "isReference", "(II)Z"⟩, 20) := ⟨⟨by decide +kernel, by decide +kernel⟩, List.mem_of_getElem? (i := 478) (by decide +kernel), List.mem_of_getElem? (i := 586) (by decide +kernel), List.mem_of_getElem? (i := 587) (by decide +kernel)⟩
theorem lw_p11 : lw_okq (⟨"MemoryDeskModel", "latest", "(II)J"⟩, 20) := ⟨⟨by decide +kernel, by decide +kernel⟩, List.mem_of_getElem? (i := 478) (by decide +kernel), List.mem_of_getElem? (i := 590) (by decide +kernel), List.mem_of_getElem? (i := 591) (by decide +kernel)⟩
theorem lw_p12 : lw_okq (⟨"MemoryDeskModel", "placed", "(IIZ)I"⟩, 20) := ⟨⟨by decide +kernel, by decide +kernel⟩, List.mem_of_getElem? (i := 478) (by decide +kernel), List.mem_of_getElem? (i := 610) (by decide +kernel), List.mem_of_getElem? (i := 611) (by decide +kernel)⟩
theorem lw_p13 : lw_okq (⟨"MemoryDeskModel", "cut", "(IJ)J"⟩, 20) := ⟨⟨by decide +kernel, by decide +kernel⟩, List.mem_of_getElem? (i := 478) (by decide +kernel), List.mem_of_getElem? (i := 618) (by decide +kernel), List.mem_of_getElem? (i := 619) (by decide +kernel)⟩
theorem lw_p14 : lw_okq (⟨"MemoryDeskModel", "enter", "(IIJ)V"⟩, 20) := ⟨⟨by decide +kernel, by decide +kernel⟩, List.mem_of_getElem? (i := 478) (by decide +kernel), List.mem_of_getElem? (i := 622) (by decide +kernel), List.mem_of_getElem? (i := 623) (by decide +kernel)⟩
def lw_privs_1 : List (MethodName × Nat) := [(⟨"MemoryDesk", "clearAway", "()V"⟩, 11), (⟨"MemoryDesk", "comeTo", "(LMemoryDesk$Item;)V"⟩, 11), (⟨"MemoryDesk", "checkUndefined", "(I)V"⟩, 11), (⟨"java/lang/Throwable", "fillInStackTrace", "(I)Ljava/lang/Throwable;"⟩, 6), (⟨"MemoryDesk", "takeRoom", "(J)I"⟩, 11), (⟨"MemoryDesk", "heldWithPlace", "(IIZ)LMemoryDesk$Item;"⟩, 11), (⟨"MemoryDesk", "held", "(I)LMemoryDesk$Item;"⟩, 11), (⟨"MemoryDeskModel", "fails", "(ZI)Z"⟩, 20), (⟨"MemoryDeskModel", "reachable", "()J"⟩, 20), (⟨"MemoryDeskModel", "many", "(I)I"⟩, 20), (⟨"MemoryDeskModel", "isReference", "(II)Z"⟩, 20), (⟨"MemoryDeskModel", "latest", "(II)J"⟩, 20), (⟨"MemoryDeskModel", "placed", "(IIZ)I"⟩, 20), (⟨"MemoryDeskModel", "cut", "(IJ)J"⟩, 20), (⟨"MemoryDeskModel", "enter", "(IIJ)V"⟩, 20)]
theorem lw_r1 : ∀ q ∈ lw_privs_1, lw_okq q := List.forall_mem_cons.mpr ⟨lw_p0, List.forall_mem_cons.mpr ⟨lw_p1, List.forall_mem_cons.mpr ⟨lw_p2, List.forall_mem_cons.mpr ⟨lw_p3, List.forall_mem_cons.mpr ⟨lw_p4, List.forall_mem_cons.mpr ⟨lw_p5, List.forall_mem_cons.mpr ⟨lw_p6, List.forall_mem_cons.mpr ⟨lw_p7, List.forall_mem_cons.mpr ⟨lw_p8, List.forall_mem_cons.mpr ⟨lw_p9, List.forall_mem_cons.mpr ⟨lw_p10, List.forall_mem_cons.mpr ⟨lw_p11, List.forall_mem_cons.mpr ⟨lw_p12, List.forall_mem_cons.mpr ⟨lw_p13, List.forall_mem_cons.mpr ⟨lw_p14, fun _ h => absurd h List.not_mem_nil⟩⟩⟩⟩⟩⟩⟩⟩⟩⟩⟩⟩⟩⟩⟩
def lw_privs : List (MethodName × Nat) := lw_privs_1
def lw_tbl : List Cond := k2_sels lw_privs ++ tables_1
theorem lw_privs_ok : ∀ q ∈ lw_privs, lw_okq q := lw_r1
end
section
/-! names: classes, fields in the order of the slots, methods, decode rows: laid by program out of the Statement and the listing -/
/-- the words of the tables that stand over any warming -/
def x_tbl : List Cond := lw_tbl.filter goodWord
theorem tbl_good : ∀ w ∈ x_tbl, (w.onTables && w.keeps) = true ∨ ∃ ty, w = .arrayClass ty := fun w hw => good_of_word (List.mem_filter.mp hw).2
theorem x_good {w : Cond} (h : w ∈ lw_tbl) (hg : goodWord w = true) : w ∈ x_tbl := List.mem_filter.mpr ⟨h, hg⟩
def R_Ce : String := "MemoryDesk$Cell"
def R_It : String := "MemoryDesk$Item"
def R_Pk : String := "MemoryDesk$PlainKind"
def R_Rk : String := "MemoryDesk$RowKind"
def R_De : String := "MemoryDesk"
def R_Mo : String := "MemoryDeskModel"
def R_Ki : String := "MemoryDesk$Kind"
def R_La : String := "MemoryDeskLaw"
def F_Ce : u_T := fun k => match k with
  | 0 => ("MemoryDesk$Cell", "place", "I", true)
  | 1 => ("MemoryDesk$Cell", "next", "LMemoryDesk$Cell;", true)
  | 2 => ("MemoryDesk$Cell", "value", "J", false)
  | _ => ("MemoryDesk$Cell", "named", "LMemoryDesk$Item;", false)
def t_Ce : Nat → FieldType := fun k => match k with
  | 0 => .int
  | 1 => .object "MemoryDesk$Cell"
  | 2 => .long
  | _ => .object "MemoryDesk$Item"
theorem n_Ce : ∀ a, a < 4 → ∀ b, b < 4 → a ≠ b → (F_Ce a).2.1 ≠ (F_Ce b).2.1 := by decide +kernel
theorem t_Ce_ok : ∀ k, k < 4 → parseFieldDescriptor (F_Ce k).2.2.1 = some (t_Ce k) := by decide +kernel
theorem in_Ce : ∀ w ∈ u_ws R_Ce F_Ce 4, w ∈ x_tbl := by decide +kernel
def F_It : u_T := fun k => match k with
  | 0 => ("MemoryDesk$Item", "kind", "LMemoryDesk$Kind;", true)
  | 1 => ("MemoryDesk$Item", "length", "I", true)
  | 2 => ("MemoryDesk$Item", "words", "I", true)
  | 3 => ("MemoryDesk$Item", "cells", "LMemoryDesk$Cell;", false)
  | 4 => ("MemoryDesk$Item", "tag", "I", false)
  | 5 => ("MemoryDesk$Item", "isKept", "Z", false)
  | 6 => ("MemoryDesk$Item", "nextKept", "LMemoryDesk$Item;", false)
  | 7 => ("MemoryDesk$Item", "walkSeen", "I", false)
  | _ => ("MemoryDesk$Item", "nextPending", "LMemoryDesk$Item;", false)
def t_It : Nat → FieldType := fun k => match k with
  | 0 => .object "MemoryDesk$Kind"
  | 1 => .int
  | 2 => .int
  | 3 => .object "MemoryDesk$Cell"
  | 4 => .int
  | 5 => .boolean
  | 6 => .object "MemoryDesk$Item"
  | 7 => .int
  | _ => .object "MemoryDesk$Item"
theorem n_It : ∀ a, a < 9 → ∀ b, b < 9 → a ≠ b → (F_It a).2.1 ≠ (F_It b).2.1 := by decide +kernel
theorem t_It_ok : ∀ k, k < 9 → parseFieldDescriptor (F_It k).2.2.1 = some (t_It k) := by decide +kernel
theorem in_It : ∀ w ∈ u_ws R_It F_It 9, w ∈ x_tbl := by decide +kernel
def F_Pk : u_T := fun k => match k with
  | 0 => ("MemoryDesk$PlainKind", "words", "I", true)
  | _ => ("MemoryDesk$PlainKind", "mask", "I", true)
def t_Pk : Nat → FieldType := fun k => match k with
  | 0 => .int
  | _ => .int
theorem n_Pk : ∀ a, a < 2 → ∀ b, b < 2 → a ≠ b → (F_Pk a).2.1 ≠ (F_Pk b).2.1 := by decide +kernel
theorem t_Pk_ok : ∀ k, k < 2 → parseFieldDescriptor (F_Pk k).2.2.1 = some (t_Pk k) := by decide +kernel
theorem in_Pk : ∀ w ∈ u_ws R_Pk F_Pk 2, w ∈ x_tbl := by decide +kernel
def F_Rk : u_T := fun k => match k with
  | 0 => ("MemoryDesk$RowKind", "elements", "I", true)
  | _ => ("MemoryDesk$RowKind", "bits", "I", true)
def t_Rk : Nat → FieldType := fun k => match k with
  | 0 => .int
  | _ => .int
theorem n_Rk : ∀ a, a < 2 → ∀ b, b < 2 → a ≠ b → (F_Rk a).2.1 ≠ (F_Rk b).2.1 := by decide +kernel
theorem t_Rk_ok : ∀ k, k < 2 → parseFieldDescriptor (F_Rk k).2.2.1 = some (t_Rk k) := by decide +kernel
theorem in_Rk : ∀ w ∈ u_ws R_Rk F_Rk 2, w ∈ x_tbl := by decide +kernel
def F_De : u_T := fun k => match k with
  | 0 => ("MemoryDesk", "kinds", "[LMemoryDesk$Kind;", true)
  | 1 => ("MemoryDesk", "slots", "[LMemoryDesk$Item;", true)
  | 2 => ("MemoryDesk", "limit", "I", false)
  | 3 => ("MemoryDesk", "made", "I", false)
  | 4 => ("MemoryDesk", "keeps", "I", false)
  | 5 => ("MemoryDesk", "tags", "I", false)
  | 6 => ("MemoryDesk", "interval", "I", false)
  | 7 => ("MemoryDesk", "firstKept", "LMemoryDesk$Item;", false)
  | 8 => ("MemoryDesk", "used", "I", false)
  | 9 => ("MemoryDesk", "walk", "I", false)
  | _ => ("MemoryDesk", "pending", "LMemoryDesk$Item;", false)
def t_De : Nat → FieldType := fun k => match k with
  | 0 => .array (.object "MemoryDesk$Kind")
  | 1 => .array (.object "MemoryDesk$Item")
  | 2 => .int
  | 3 => .int
  | 4 => .int
  | 5 => .int
  | 6 => .int
  | 7 => .object "MemoryDesk$Item"
  | 8 => .int
  | 9 => .int
  | _ => .object "MemoryDesk$Item"
theorem n_De : ∀ a, a < 11 → ∀ b, b < 11 → a ≠ b → (F_De a).2.1 ≠ (F_De b).2.1 := by decide +kernel
theorem t_De_ok : ∀ k, k < 11 → parseFieldDescriptor (F_De k).2.2.1 = some (t_De k) := by decide +kernel
theorem in_De : ∀ w ∈ u_ws R_De F_De 11, w ∈ x_tbl := by decide +kernel
def F_Mo : u_T := fun k => match k with
  | 0 => ("MemoryDeskModel", "kindWords", "[I", true)
  | 1 => ("MemoryDeskModel", "kindMask", "[I", true)
  | 2 => ("MemoryDeskModel", "kindRow", "[I", true)
  | 3 => ("MemoryDeskModel", "defined", "[Z", true)
  | 4 => ("MemoryDeskModel", "objectKind", "[I", true)
  | 5 => ("MemoryDeskModel", "objectSize", "[I", true)
  | 6 => ("MemoryDeskModel", "numberOf", "[I", true)
  | 7 => ("MemoryDeskModel", "objects", "I", false)
  | 8 => ("MemoryDeskModel", "numbered", "I", false)
  | 9 => ("MemoryDeskModel", "memory", "I", false)
  | 10 => ("MemoryDeskModel", "err", "I", false)
  | 11 => ("MemoryDeskModel", "into", "[I", true)
  | 12 => ("MemoryDeskModel", "where", "[I", true)
  | 13 => ("MemoryDeskModel", "value", "[J", true)
  | 14 => ("MemoryDeskModel", "entries", "I", false)
  | 15 => ("MemoryDeskModel", "slots", "[I", true)
  | 16 => ("MemoryDeskModel", "kept", "[I", true)
  | 17 => ("MemoryDeskModel", "todo", "[I", true)
  | 18 => ("MemoryDeskModel", "reached", "[Z", true)
  | _ => ("MemoryDeskModel", "keeps", "I", false)
def t_Mo : Nat → FieldType := fun k => match k with
  | 0 => .array (.int)
  | 1 => .array (.int)
  | 2 => .array (.int)
  | 3 => .array (.boolean)
  | 4 => .array (.int)
  | 5 => .array (.int)
  | 6 => .array (.int)
  | 7 => .int
  | 8 => .int
  | 9 => .int
  | 10 => .int
  | 11 => .array (.int)
  | 12 => .array (.int)
  | 13 => .array (.long)
  | 14 => .int
  | 15 => .array (.int)
  | 16 => .array (.int)
  | 17 => .array (.int)
  | 18 => .array (.boolean)
  | _ => .int
theorem n_Mo : ∀ a, a < 20 → ∀ b, b < 20 → a ≠ b → (F_Mo a).2.1 ≠ (F_Mo b).2.1 := by decide +kernel
theorem t_Mo_ok : ∀ k, k < 20 → parseFieldDescriptor (F_Mo k).2.2.1 = some (t_Mo k) := by decide +kernel
theorem in_Mo : ∀ w ∈ u_ws R_Mo F_Mo 20, w ∈ x_tbl := by decide +kernel
abbrev vwCl : List vw_C := [(R_Ce, F_Ce, 4), (R_It, F_It, 9), (R_Pk, F_Pk, 2), (R_Rk, F_Rk, 2), (R_De, F_De, 11), (R_Mo, F_Mo, 20)]
abbrev b_De_init : ByteArray := prog_1_method_1_code
def y_De_init : MethodName := ⟨R_De, "<init>", "()V"⟩
abbrev b_De_collect : ByteArray := prog_1_method_17_code
def y_De_collect : MethodName := ⟨R_De, "collect", "()I"⟩
abbrev b_De_clearAway : ByteArray := prog_1_method_24_code
def y_De_clearAway : MethodName := ⟨R_De, "clearAway", "()V"⟩
abbrev b_De_comeTo : ByteArray := prog_1_method_25_code
def y_De_comeTo : MethodName := ⟨R_De, "comeTo", "(LMemoryDesk$Item;)V"⟩
abbrev b_La_plain : ByteArray := method_3_code
def y_La_plain : MethodName := ⟨R_La, "plain", "(LMemoryDesk;III)I"⟩
abbrev b_De_plain : ByteArray := prog_1_method_2_code
def y_De_plain : MethodName := ⟨R_De, "plain", "(III)V"⟩
abbrev b_De_checkUndefined : ByteArray := prog_1_method_20_code
def y_De_checkUndefined : MethodName := ⟨R_De, "checkUndefined", "(I)V"⟩
abbrev b_De_checkKind : ByteArray := prog_1_method_19_code
def y_De_checkKind : MethodName := ⟨R_De, "checkKind", "(I)V"⟩
abbrev b_Pk_init : ByteArray := prog_5_method_1_code
def y_Pk_init : MethodName := ⟨R_Pk, "<init>", "(II)V"⟩
abbrev b_Ki_init : ByteArray := prog_4_method_1_code
def y_Ki_init : MethodName := ⟨R_Ki, "<init>", "()V"⟩
abbrev b_La_row : ByteArray := method_4_code
def y_La_row : MethodName := ⟨R_La, "row", "(LMemoryDesk;II)I"⟩
abbrev b_De_row : ByteArray := prog_1_method_3_code
def y_De_row : MethodName := ⟨R_De, "row", "(II)V"⟩
abbrev b_Rk_init : ByteArray := prog_6_method_1_code
def y_Rk_init : MethodName := ⟨R_Rk, "<init>", "(II)V"⟩
abbrev b_La_make : ByteArray := method_5_code
def y_La_make : MethodName := ⟨R_La, "make", "(LMemoryDesk;III[J)I"⟩
abbrev b_De_make : ByteArray := prog_1_method_4_code
def y_De_make : MethodName := ⟨R_De, "make", "(III)I"⟩
abbrev b_De_checkSlot : ByteArray := prog_1_method_18_code
def y_De_checkSlot : MethodName := ⟨R_De, "checkSlot", "(I)V"⟩
abbrev b_Pk_allows : ByteArray := prog_5_method_2_code
def y_Pk_allows : MethodName := ⟨R_Pk, "allows", "(I)Z"⟩
abbrev b_Rk_allows : ByteArray := prog_6_method_2_code
def y_Rk_allows : MethodName := ⟨R_Rk, "allows", "(I)Z"⟩
abbrev b_Pk_wordsFor : ByteArray := prog_5_method_4_code
def y_Pk_wordsFor : MethodName := ⟨R_Pk, "wordsFor", "(I)J"⟩
abbrev b_Rk_wordsFor : ByteArray := prog_6_method_4_code
def y_Rk_wordsFor : MethodName := ⟨R_Rk, "wordsFor", "(I)J"⟩
abbrev b_De_takeRoom : ByteArray := prog_1_method_23_code
def y_De_takeRoom : MethodName := ⟨R_De, "takeRoom", "(J)I"⟩
abbrev b_Pk_lengthFor : ByteArray := prog_5_method_3_code
def y_Pk_lengthFor : MethodName := ⟨R_Pk, "lengthFor", "(I)I"⟩
abbrev b_Rk_lengthFor : ByteArray := prog_6_method_3_code
def y_Rk_lengthFor : MethodName := ⟨R_Rk, "lengthFor", "(I)I"⟩
abbrev b_It_init : ByteArray := prog_3_method_1_code
def y_It_init : MethodName := ⟨R_It, "<init>", "(LMemoryDesk$Kind;II)V"⟩
abbrev b_La_copy : ByteArray := method_6_code
def y_La_copy : MethodName := ⟨R_La, "copy", "(LMemoryDesk;II[J)I"⟩
abbrev b_De_copy : ByteArray := prog_1_method_5_code
def y_De_copy : MethodName := ⟨R_De, "copy", "(II)Z"⟩
abbrev b_La_drop : ByteArray := method_7_code
def y_La_drop : MethodName := ⟨R_La, "drop", "(LMemoryDesk;I[J)I"⟩
abbrev b_De_drop : ByteArray := prog_1_method_6_code
def y_De_drop : MethodName := ⟨R_De, "drop", "(I)Z"⟩
abbrev b_La_same : ByteArray := method_8_code
def y_La_same : MethodName := ⟨R_La, "same", "(LMemoryDesk;II[J)I"⟩
abbrev b_De_same : ByteArray := prog_1_method_7_code
def y_De_same : MethodName := ⟨R_De, "same", "(II)Z"⟩
abbrev b_La_get : ByteArray := method_9_code
def y_La_get : MethodName := ⟨R_La, "get", "(LMemoryDesk;II[J)I"⟩
abbrev b_De_get : ByteArray := prog_1_method_8_code
def y_De_get : MethodName := ⟨R_De, "get", "(II)J"⟩
abbrev b_De_heldWithPlace : ByteArray := prog_1_method_22_code
def y_De_heldWithPlace : MethodName := ⟨R_De, "heldWithPlace", "(IIZ)LMemoryDesk$Item;"⟩
abbrev b_De_held : ByteArray := prog_1_method_21_code
def y_De_held : MethodName := ⟨R_De, "held", "(I)LMemoryDesk$Item;"⟩
abbrev b_Pk_isReference : ByteArray := prog_5_method_5_code
def y_Pk_isReference : MethodName := ⟨R_Pk, "isReference", "(I)Z"⟩
abbrev b_Rk_isReference : ByteArray := prog_6_method_5_code
def y_Rk_isReference : MethodName := ⟨R_Rk, "isReference", "(I)Z"⟩
abbrev b_It_find : ByteArray := prog_3_method_2_code
def y_It_find : MethodName := ⟨R_It, "find", "(I)LMemoryDesk$Cell;"⟩
abbrev b_La_put : ByteArray := method_10_code
def y_La_put : MethodName := ⟨R_La, "put", "(LMemoryDesk;IIJ)I"⟩
abbrev b_De_put : ByteArray := prog_1_method_9_code
def y_De_put : MethodName := ⟨R_De, "put", "(IIJ)V"⟩
abbrev b_It_findOrAdd : ByteArray := prog_3_method_3_code
def y_It_findOrAdd : MethodName := ⟨R_It, "findOrAdd", "(I)LMemoryDesk$Cell;"⟩
abbrev b_Ce_init : ByteArray := prog_2_method_1_code
def y_Ce_init : MethodName := ⟨R_Ce, "<init>", "(ILMemoryDesk$Cell;)V"⟩
abbrev b_Pk_cut : ByteArray := prog_5_method_6_code
def y_Pk_cut : MethodName := ⟨R_Pk, "cut", "(J)J"⟩
abbrev b_Rk_cut : ByteArray := prog_6_method_6_code
def y_Rk_cut : MethodName := ⟨R_Rk, "cut", "(J)J"⟩
abbrev b_La_link : ByteArray := method_11_code
def y_La_link : MethodName := ⟨R_La, "link", "(LMemoryDesk;III[J)I"⟩
abbrev b_De_link : ByteArray := prog_1_method_10_code
def y_De_link : MethodName := ⟨R_De, "link", "(III)Z"⟩
abbrev b_La_follow : ByteArray := method_12_code
def y_La_follow : MethodName := ⟨R_La, "follow", "(LMemoryDesk;III[J)I"⟩
abbrev b_De_follow : ByteArray := prog_1_method_11_code
def y_De_follow : MethodName := ⟨R_De, "follow", "(III)Z"⟩
abbrev b_La_keep : ByteArray := method_13_code
def y_La_keep : MethodName := ⟨R_La, "keep", "(LMemoryDesk;I[J)I"⟩
abbrev b_De_keep : ByteArray := prog_1_method_12_code
def y_De_keep : MethodName := ⟨R_De, "keep", "(I)I"⟩
abbrev b_La_number : ByteArray := method_14_code
def y_La_number : MethodName := ⟨R_La, "number", "(LMemoryDesk;I[J)I"⟩
abbrev b_De_number : ByteArray := prog_1_method_13_code
def y_De_number : MethodName := ⟨R_De, "number", "(I)I"⟩
abbrev b_La_size : ByteArray := method_15_code
def y_La_size : MethodName := ⟨R_La, "size", "(LMemoryDesk;I[J)I"⟩
abbrev b_De_size : ByteArray := prog_1_method_14_code
def y_De_size : MethodName := ⟨R_De, "size", "(I)I"⟩
abbrev b_La_memory : ByteArray := method_16_code
def y_La_memory : MethodName := ⟨R_La, "memory", "(LMemoryDesk;I[J)I"⟩
abbrev b_De_memory : ByteArray := prog_1_method_15_code
def y_De_memory : MethodName := ⟨R_De, "memory", "(I)Z"⟩
abbrev b_La_every : ByteArray := method_17_code
def y_La_every : MethodName := ⟨R_La, "every", "(LMemoryDesk;I)I"⟩
abbrev b_De_every : ByteArray := prog_1_method_16_code
def y_De_every : MethodName := ⟨R_De, "every", "(I)V"⟩
abbrev b_Mo_init : ByteArray := prog_8_method_1_code
def y_Mo_init : MethodName := ⟨R_Mo, "<init>", "()V"⟩
abbrev b_Mo_thrown : ByteArray := prog_8_method_2_code
def y_Mo_thrown : MethodName := ⟨R_Mo, "thrown", "()I"⟩
abbrev b_Mo_plain : ByteArray := prog_8_method_11_code
def y_Mo_plain : MethodName := ⟨R_Mo, "plain", "(III)V"⟩
abbrev b_Mo_in : ByteArray := prog_8_method_4_code
def y_Mo_in : MethodName := ⟨R_Mo, "in", "(II)Z"⟩
abbrev b_Mo_fails : ByteArray := prog_8_method_3_code
def y_Mo_fails : MethodName := ⟨R_Mo, "fails", "(ZI)Z"⟩
abbrev b_Mo_row : ByteArray := prog_8_method_12_code
def y_Mo_row : MethodName := ⟨R_Mo, "row", "(II)V"⟩
abbrev b_Mo_make : ByteArray := prog_8_method_13_code
def y_Mo_make : MethodName := ⟨R_Mo, "make", "(III)I"⟩
abbrev b_Mo_takes : ByteArray := prog_8_method_7_code
def y_Mo_takes : MethodName := ⟨R_Mo, "takes", "(IJ)J"⟩
abbrev b_Mo_reachable : ByteArray := prog_8_method_10_code
def y_Mo_reachable : MethodName := ⟨R_Mo, "reachable", "()J"⟩
abbrev b_Mo_many : ByteArray := prog_8_method_5_code
def y_Mo_many : MethodName := ⟨R_Mo, "many", "(I)I"⟩
abbrev b_Mo_isReference : ByteArray := prog_8_method_6_code
def y_Mo_isReference : MethodName := ⟨R_Mo, "isReference", "(II)Z"⟩
abbrev b_Mo_latest : ByteArray := prog_8_method_8_code
def y_Mo_latest : MethodName := ⟨R_Mo, "latest", "(II)J"⟩
abbrev b_Mo_copy : ByteArray := prog_8_method_14_code
def y_Mo_copy : MethodName := ⟨R_Mo, "copy", "(II)Z"⟩
abbrev b_Mo_drop : ByteArray := prog_8_method_15_code
def y_Mo_drop : MethodName := ⟨R_Mo, "drop", "(I)Z"⟩
abbrev b_Mo_same : ByteArray := prog_8_method_16_code
def y_Mo_same : MethodName := ⟨R_Mo, "same", "(II)Z"⟩
abbrev b_Mo_get : ByteArray := prog_8_method_19_code
def y_Mo_get : MethodName := ⟨R_Mo, "get", "(II)J"⟩
abbrev b_Mo_placed : ByteArray := prog_8_method_17_code
def y_Mo_placed : MethodName := ⟨R_Mo, "placed", "(IIZ)I"⟩
abbrev b_Mo_put : ByteArray := prog_8_method_20_code
def y_Mo_put : MethodName := ⟨R_Mo, "put", "(IIJ)V"⟩
abbrev b_Mo_cut : ByteArray := prog_8_method_18_code
def y_Mo_cut : MethodName := ⟨R_Mo, "cut", "(IJ)J"⟩
abbrev b_Mo_enter : ByteArray := prog_8_method_9_code
def y_Mo_enter : MethodName := ⟨R_Mo, "enter", "(IIJ)V"⟩
abbrev b_Mo_link : ByteArray := prog_8_method_21_code
def y_Mo_link : MethodName := ⟨R_Mo, "link", "(III)Z"⟩
abbrev b_Mo_follow : ByteArray := prog_8_method_22_code
def y_Mo_follow : MethodName := ⟨R_Mo, "follow", "(III)Z"⟩
abbrev b_Mo_keep : ByteArray := prog_8_method_23_code
def y_Mo_keep : MethodName := ⟨R_Mo, "keep", "(I)I"⟩
abbrev b_Mo_number : ByteArray := prog_8_method_24_code
def y_Mo_number : MethodName := ⟨R_Mo, "number", "(I)I"⟩
abbrev b_Mo_size : ByteArray := prog_8_method_25_code
def y_Mo_size : MethodName := ⟨R_Mo, "size", "(I)I"⟩
abbrev b_Mo_memory : ByteArray := prog_8_method_26_code
def y_Mo_memory : MethodName := ⟨R_Mo, "memory", "(I)Z"⟩
abbrev b_Mo_every : ByteArray := prog_8_method_27_code
def y_Mo_every : MethodName := ⟨R_Mo, "every", "(I)V"⟩
abbrev b_Mo_collect : ByteArray := prog_8_method_28_code
def y_Mo_collect : MethodName := ⟨R_Mo, "collect", "()I"⟩
abbrev b_La_law : ByteArray := code
end
section
/-! Methods that return or throw: contracts (x_M), calls, leaving, catching, throwing. Own rows over the library's Stand. -/
section XMach
variable {p : Program} {l : Launch} {e : Env} {R : Room} {s : State} {m : MethodId} {args : Array Value} {below : List Frame} {meth : Method} {c : Code} {H : Heap} {locs : List Loc} {cells slots : Nat} {Q Q2 : State → Prop}
/-- what has moved behind a method, however it ended -/
def x_Fr (st t : State) (mc ms : Nat) (free : Addr → Prop) : Prop :=
  st.WarmedH t.vm ∧ ∃ L : List Loc, st.sameButNew ({ t with vm := st.vm } : State) L mc ms ∧ ∀ q ∈ L, free q.base
/-- a contract that speaks of both ends -/
def x_M (l : Launch) (y : MethodName) (ws : List Cond) (rm : Room) (Pc : Array Value → State → Prop) (Qc : Array Value → State → Outcome → State → Prop) (mc ms : Nat) (free : Addr → Prop) : Prop :=
  MetFree l y (headSpec ws rm) Pc (fun _ _ _ _ _ => True) (fun a st o t => Qc a st o t ∧ x_Fr st t mc ms free)
/-- the end of a walk under such a contract -/
def x_Q (below : List Frame) (Qc : Array Value → State → Outcome → State → Prop) (a : Array Value) (s : State) (mc ms : Nat) (free : Addr → Prop) : State → Prop := fun t =>
  ∃ o, t.status = .running ∧ Ended t below o ∧ Qc a s o t ∧ x_Fr s t mc ms free
/-- the walk, with q thrown over its frame g -/
def x_W (p : Program) (l : Launch) (e : Env) (R : Room) (s : State) (m : MethodId) (args : Array Value) (below : List Frame) (meth : Method) (c : Code) (H : Heap) (locs : List Loc) (cells slots : Nat) (Q : State → Prop) (g : JFrame) (q : Addr) : Prop :=
  ∀ T : State, T.heap = H → Stand p l e R s m args below meth c T locs cells slots → ∃ t, Steps p.tables e below ((T.setTop g).pushFrame (.throwing q)) t ∧ Q t
theorem x_W.widen {g : JFrame} {q : Addr} {k n : Nat} (h1 : cells ≤ k) (h2 : slots ≤ n) (kk : x_W p l e R s m args below meth c H locs k n Q g q) : x_W p l e R s m args below meth c H locs cells slots Q g q :=
  fun T hT X => kk T hT (stand_widen X h1 h2)
/-- a return, as the kit's rows lay it -/
theorem x_ret {Qc : Array Value → State → Outcome → State → Prop} {free : Addr → Prop} {mc ms : Nat} {g : JFrame} (h : W p l e R s m args below meth c H locs cells slots (MQ below Qc args s mc ms free) g) :
    W p l e R s m args below meth c H locs cells slots (x_Q below Qc args s mc ms free) g := by
  intro T hT X
  obtain ⟨t, st, o, h1, h2, h3, L, h4, h5⟩ := h T hT X
  exact ⟨t, st, o, h1, h2, h3, h4.2.1, L, h4.2.2, h5⟩
/-- every contract of the kit is such a contract -/
theorem x_of {y : MethodName} {ws : List Cond} {rm : Room} {Pc : Array Value → State → Prop} {Qc : Array Value → State → Outcome → State → Prop} {mc ms : Nat} {free : Addr → Prop} (h : Met l y ws rm Pc Qc mc ms free) : x_M l y ws rm Pc Qc mc ms free := by
  intro p e h1 h2 h3 s m a b h4 h5 h6 h7
  obtain ⟨n, o, q1, q2, q3, q4, L, q5, q6⟩ := h p e h1 h2 h3 s m a b h4 h5 h6 h7
  exact ⟨n, o, q1, q2, q3, q4, q5.2.1, L, q5.2.2, q6⟩
theorem x_ofW {y : MethodName} {ws ws' : List Cond} {rm : Room} {Pc : Array Value → State → Prop} {Qc : Array Value → State → Outcome → State → Prop} {mc ms : Nat} {free : Addr → Prop} {cc : ByteArray} {maxL : Nat} {ret : Option FieldType}
    (hy : plainName y.cls = true) (hw : ws = Cond.code y cc maxL ret :: ws')
    (body : ∀ p e s m args below meth c s₁, BodyLoose p l y (headSpec ws rm) cc maxL ret e s m args below meth c s₁ → c.maxLocals = maxL → (∀ (pc : Nat) (z : ExceptionTableEntry), z ∈ c.exceptionTable.toList → covers z pc = false) → Pc args s →
      W p l e (headSpec ws rm).room s m args below meth c s.heap [] 0 0 (x_Q below Qc args s mc ms free) (entryFrame m args maxL)) : x_M l y ws rm Pc Qc mc ms free := by
  refine MetFree.of_bodyS (code := cc) (maxLocals := maxL) (ret := ret) hy ?_ ?_
  · intro a s m h hn
    obtain ⟨meth, c, h1, h2, h3, h4, h5, h6, -, -⟩ := Cond.code_spec hn (atoms_spec (ws := ws) h _ (by rw [hw]; exact List.mem_cons_self))
    exact ⟨meth, c, h1, h2, h3, h4, h5, h6⟩
  · intro p e s m args below meth c s₁ B hml hP _
    have hh0 : s₁.heap = s.heap := by rw [B.state]; rfl
    have hno : c.exceptionTable.isEmpty = true := B.noHandlers (atoms_spec (ws := ws) B.pre _ (by rw [hw]; exact List.mem_cons_self))
    obtain ⟨t, st, o, b1, b2, b3⟩ := body p e s m args below meth c s₁ B hml (fun pc z hz => covers_of_empty hno pc z hz) hP s₁ hh0 (Stand.of_body B)
    exact ⟨t, o, st, b1, b2, b3⟩
/-- .. of a method with handlers -/
theorem x_ofWH {y : MethodName} {ws ws' : List Cond} {rm : Room} {Pc : Array Value → State → Prop} {Qc : Array Value → State → Outcome → State → Prop} {mc ms : Nat} {free : Addr → Prop} {cc : ByteArray} {maxL : Nat} {ret : Option FieldType} {hs : List (Nat × Nat × Nat × Nat)}
    (hy : plainName y.cls = true) (hw : ws = Cond.codeWith y cc maxL ret hs :: ws')
    (body : ∀ p e s m args below meth c s₁, BodyLoose p l y (headSpec ws rm) cc maxL ret e s m args below meth c s₁ → c.maxLocals = maxL → c.exceptionTable.toList = tableOf hs → Pc args s →
      W p l e (headSpec ws rm).room s m args below meth c s.heap [] 0 0 (x_Q below Qc args s mc ms free) (entryFrame m args maxL)) : x_M l y ws rm Pc Qc mc ms free := by
  refine MetFree.of_bodyS (code := cc) (maxLocals := maxL) (ret := ret) hy ?_ ?_
  · intro a s m h hn
    obtain ⟨m', meth, c, h0, h1, h2, h3, h4, -, h5, h6, -⟩ := Cond.codeWith_spec (atoms_spec (ws := ws) h _ (by rw [hw]; exact List.mem_cons_self))
    cases hn.symm.trans h0
    exact ⟨meth, c, h1, h2, h3, h4, h5, h6⟩
  · intro p e s m args below meth c s₁ B hml hP _
    have hh0 : s₁.heap = s.heap := by rw [B.state]; rfl
    have hX := Stand.of_body B
    obtain ⟨m', meth', c', h0, h1, h2, h3, h4, h7, h5, h6, -⟩ := Cond.codeWith_spec (atoms_spec (ws := ws) B.pre _ (by rw [hw]; exact List.mem_cons_self))
    cases B.named.symm.trans h0
    cases hX.method.symm.trans h1
    cases hX.code.symm.trans h2
    obtain ⟨t, st, o, b1, b2, b3⟩ := body p e s m args below meth c s₁ B hml (by rw [← h7, table_eq]) hP s₁ hh0 hX
    exact ⟨t, o, st, b1, b2, b3⟩
/-- the callee stands in the tables, with code of so many locals -/
def x_Co (s : State) (y : MethodName) (maxL : Nat) : Prop := ∃ (mk : MethodId) (my : Method) (cy : Code), s.methodNamed? y = some mk ∧ s.vm.method? mk = some my ∧ my.code = some cy ∧ cy.maxLocals = maxL ∧ parseMethodDescriptor y.desc = some my.sig
theorem x_Co.code {y : MethodName} {bytes : ByteArray} {maxL : Nat} {ret : Option FieldType} {a : Array Value} (h : (Cond.code y bytes maxL ret).before a s = true) : x_Co s y maxL := by
  obtain ⟨mk, hn⟩ := Cond.code_named h
  obtain ⟨my, cy, h1, h2, -, h3, -, -, -, h4⟩ := Cond.code_spec hn h
  exact ⟨mk, my, cy, hn, h1, h2, h3, h4⟩
theorem x_Co.with {y : MethodName} {bytes : ByteArray} {maxL : Nat} {ret : Option FieldType} {hs : List (Nat × Nat × Nat × Nat)} {a : Array Value} (h : (Cond.codeWith y bytes maxL ret hs).before a s = true) : x_Co s y maxL := by
  obtain ⟨mk, my, cy, hn, h1, h2, -, h3, -, -, -, h4⟩ := Cond.codeWith_spec h
  exact ⟨mk, my, cy, hn, h1, h2, h3, h4⟩
/-- what a call asks, apart from the method's own words -/
abbrev x_CB (R : Room) (s : State) (args : Array Value) (own : String) (index : Nat) (y : MethodName) (maxL : Nat) (ws : List Cond) (rm : Room) (mc ms n : Nat) : Prop :=
  rm.cells = mc ∧ rm.slots = ms ∧ rm.frames + 1 ≤ R.frames ∧ 8 + (maxL + 11) + rm.locals ≤ R.locals ∧ (∀ w ∈ ws, ∀ (a' : Array Value) (U : State), s.WarmedH U.vm → w.before a' U = true) ∧ x_Co s y maxL ∧
  (∀ (a' : Array Value) (U : State), s.WarmedH U.vm → (Cond.initialized y.cls).before a' U = true) ∧ (y.cls ≠ "java/lang/invoke/MethodHandle" ∧ y.cls ≠ "java/lang/invoke/VarHandle") ∧ (∀ sig, parseMethodDescriptor y.desc = some sig → n = sig.parameters.length) ∧ (Cond.methodLink own index y).before args s = true
theorem x_ini {C : String} (h : (Cond.initialized C).before args s = true) : ∀ (a' : Array Value) (U : State), s.WarmedH U.vm → (Cond.initialized C).before a' U = true :=
  fun a' U hW => word_at hW (Or.inl (by first | rfl | simp [Cond.onTables, Cond.keeps, Cond.steady])) h
theorem x_cb {own : String} {index maxL mc ms n : Nat} {y : MethodName} {bytes : ByteArray} {ret : Option FieldType} {ws : List Cond} {rm : Room} (h : CallB R s args own index y bytes maxL ret ws rm mc ms n) : x_CB R s args own index y maxL ws rm mc ms n := by
  obtain ⟨h1, h2, h3, h4, h5, -, h6, h7, h8, h9, h10⟩ := h
  exact ⟨h1, h2, h3, h4, h5, x_Co.code h6, x_ini h7, h8, h9, h10⟩
/-- the heart of every call: both ends of the callee, seen from the caller's frame -/
theorem x_back {y : MethodName} {ws : List Cond} {rm : Room} {Pc : Array Value → State → Prop} {Qc : Array Value → State → Outcome → State → Prop} {mc ms maxL index n : Nat} {own : String} {free : Addr → Prop} {T : State}
    (hM : x_M l y ws rm Pc Qc mc ms free) (cb : x_CB R s args own index y maxL ws rm mc ms n) (X : Stand p l e R s m args below meth c T locs cells slots) {mk : MethodId} (hn : s.methodNamed? y = some mk)
    {g : JFrame} {ig : Instr} {len : Nat} (hg : g.method = m) (hsize : g.locals.size = c.maxLocals) (hdg : decode c.code g.pc = .ok (ig, len)) (hW : 2 * g.monitorRoom + (g.stack.map fun v => v.category).sum ≤ 8)
    (hc : cells + mc ≤ R.cells) (hs : slots + ms ≤ R.slots) {a : Array Value} (hP : Pc a (T.calling g mk a)) :
    ∃ (o : Outcome) (t T' : State) (L : List Loc), Stand p l e R s m args below meth c T' (locs ++ L) (cells + mc) (slots + ms) ∧ T'.heap = t.heap ∧ T'.vm = t.vm ∧ Qc a (T.calling g mk a) o t ∧ (∀ q ∈ L, free q.base) ∧
      (∀ v, o = .returned v → Steps p.tables e below (doInvoke e (T.setTop g) [] mk a).1 (T'.setTop { g with pc := g.pc + len, stack := v.toList ++ g.stack })) ∧
      (∀ q, o = .threw q → Steps p.tables e below (doInvoke e (T.setTop g) [] mk a).1 ((T'.setTop g).pushFrame (.throwing q))) := by
  obtain ⟨c1, c2, c3, c4, c5, ⟨mk', my, cy, n0, n1, n2, n3, -⟩, c7, -⟩ := cb
  obtain rfl : mk = mk' := Option.some.inj (hn.symm.trans n0)
  have hnT : T.methodNamed? y = some mk := X.named hn
  have hmT : T.vm.method? mk = some my := by rw [X.warmed.alike.method?]; exact n1
  obtain ⟨kY, hkY, -⟩ := className_of_methodNamed hnT
  have hinitY : kY.init = .initialized := Cond.initialized_spec (findClass_of_methodNamed hnT) hkY (c7 #[] T X.warmed)
  have h : At T g.method c below := by rw [hg]; exact X.here
  have r1 : cells + (headSpec ws rm).room.cells ≤ R.cells := by rw [show (headSpec ws rm).room.cells = mc from c1]; exact hc
  have r2 : slots + (headSpec ws rm).room.slots ≤ R.slots := by rw [show (headSpec ws rm).room.slots = ms from c2]; exact hs
  have r3 : 2 * g.monitorRoom + (g.stack.map fun v => v.category).sum + (cy.maxLocals + 11) + (headSpec ws rm).room.locals ≤ R.locals := by
    rw [n3]
    have : (headSpec ws rm).room.locals = rm.locals := rfl
    omega
  have happ : (headSpec ws rm).appliesLoose y e.platform (T.calling g mk a) = true :=
    Spec.appliesLoose_calling (g := g) h hdg hnT hkY hinitY (X.room_calling (g := g) (R' := (headSpec ws rm).room) hsize hmT n2 c3 r3 r1 r2) (atoms_intro fun w hw => c5 w hw a T X.warmed)
  obtain ⟨mid, hmid⟩ := h.above
  have hfr : (T.setTop g).frames = (.java g :: mid) ++ below := by rw [State.frames_setTop' g h.top, hmid]; rfl
  obtain ⟨o, t, hsteps, -, hend, hq0⟩ := Steps.callFree hM p X.admits X.cas X.clock (acts := []) hfr happ hP trivial
  have hq : Qc a (T.calling g mk a) o t ∧ x_Fr (T.calling g mk a) t mc ms free := hq0
  obtain ⟨hqc, hwarm, L, hsame0, hL⟩ := hq
  rw [State.frames_setTop' g h.top] at hend
  have hW' : T.WarmedH t.vm := hwarm
  obtain ⟨e2, q2, q3, q4, q5, q6⟩ := id hsame0
  have e3 : t = ({ (T.calling g mk a).setFrames t.frames with heap := t.heap, slotsUsed := t.slotsUsed } : State).setVm t.vm := by
    have z : t = ({ t with vm := (T.calling g mk a).vm } : State).setVm t.vm := rfl
    rw [e2] at z
    exact z
  obtain ⟨g₀, hg0⟩ := Option.isSome_iff_exists.mp h.top
  obtain ⟨r, hr⟩ := State.topJava?_eq_some.mp hg0
  have hr' : (({ T with heap := t.heap, slotsUsed := t.slotsUsed } : State).setVm t.vm).frames = .java g₀ :: r := hr
  have hsame : T.sameButNew ({ T with heap := t.heap, slotsUsed := t.slotsUsed } : State) L mc ms := by
    refine ⟨?_, q2, q3, q4, q5, q6⟩
    obtain ⟨z, hz, -⟩ := State.frames_cons hr
    show ({ T with heap := t.heap, slotsUsed := t.slotsUsed } : State) = { T.setFrames T.frames with heap := t.heap, slotsUsed := t.slotsUsed }
    rw [State.setFrames_self hz]
  subst hg
  refine ⟨o, t, (({ T with heap := t.heap, slotsUsed := t.slotsUsed } : State).setVm t.vm), L,
    ⟨X.admits, X.cas, X.clock, X.frames, X.room, X.hears, X.method, X.code, (X.here.setHeapUsed t.heap t.slotsUsed).setVm hW'.alike, X.tail, State.WarmedH.trans X.warmed hW', X.limits, X.bytes, X.same.trans (hsame.setVm s.vm)⟩,
    rfl, rfl, hqc, hL, ?_, ?_⟩
  · intro v hv
    subst hv
    obtain ⟨c₂, i₂, len₂, hc₂, hd₂, hf₂⟩ := hend
    have hcc : c₂ = c := by
      have z : t.code? g.method = T.code? g.method := by rw [State.code?_eq, State.code?_eq, hW'.alike.method?]
      exact Option.some.inj (hc₂.symm.trans (z.trans h.code))
    subst hcc
    have hlen : len₂ = len := by rw [hdg] at hd₂; cases hd₂; rfl
    subst hlen
    have ht : t = (({ T with heap := t.heap, slotsUsed := t.slotsUsed } : State).setVm t.vm).setTop { g with pc := g.pc + len₂, stack := v.toList ++ g.stack } := by
      refine e3.trans ?_
      rw [hf₂, State.calling_eq h.top, State.setFrames_setFrames, State.setTop_of_frames _ hr', hr]
      rfl
    rw [← ht]
    exact hsteps
  · intro q hv
    subst hv
    have hf₂ : t.frames = .throwing q :: .java g :: T.frames.tail := hend
    have ht : t = ((({ T with heap := t.heap, slotsUsed := t.slotsUsed } : State).setVm t.vm).setTop g).pushFrame (.throwing q) := by
      refine e3.trans ?_
      rw [hf₂, State.calling_eq h.top, State.setFrames_setFrames, State.pushFrame, State.frames_setTop _ hr', State.setTop_of_frames _ hr', State.setFrames_setFrames, hr]
      rfl
    rw [← ht]
    exact hsteps
end XMach
section XCall
variable {p : Program} {l : Launch} {e : Env} {R : Room} {s : State} {m : MethodId} {args : Array Value} {below : List Frame} {meth : Method} {c : Code} {H : Heap} {locs : List Loc} {cells slots : Nat} {Q : State → Prop}
variable {y : MethodName} {ws : List Cond} {rm : Room} {Pc : Array Value → State → Prop} {Qc : Array Value → State → Outcome → State → Prop} {mc ms maxL index n nL pc : Nat} {own : String} {free : Addr → Prop} {Ts : List Cond} {cc : ByteArray} {ls : Array Slot} {As rest st0 : List Value} {A0 A1 : Nat → Prop} {H0 : Heap}
/-- what the caller knows behind a callee, whose writes lie in A1 -/
theorem x_after {st t T' : State} {L : List Loc} (h0 : st.heap = H) (e1 : T'.heap = t.heap) (hS : va_S A0 H0 H locs) (hA : ∀ q, q < H.size → A1 q → A0 q) (hf : ∀ q, free q → A0 q) (hL : ∀ q ∈ L, free q.base) (hF : va_F A1 st t) :
    H.size ≤ T'.heap.size ∧ (∀ q : Nat, q < H.size → ¬ A1 q → T'.heap[q]? = H[q]?) ∧ va_S A0 H0 T'.heap (locs ++ L) := by
  have hz : H.size ≤ T'.heap.size := by rw [e1, ← h0]; exact hF.1
  have hk : ∀ q : Nat, q < H.size → ¬ A1 q → T'.heap[q]? = H[q]? := fun q h1 h2 => by
    rw [e1, ← h0]
    exact hF.2 q (by rw [h0]; exact h1) h2
  refine ⟨hz, hk, Nat.le_trans hS.1 hz, fun q h1 h2 => ?_, fun q hq => ?_⟩
  · have h3 : q < H.size := Nat.lt_of_lt_of_le h1 hS.1
    rw [hk q h3 (fun z => h2 (hA q h3 z))]
    exact hS.2.1 q h1 h2
  · rcases List.mem_append.mp hq with h | h
    · exact hS.2.2 q h
    · exact hf _ (hL q h)
/-- invokestatic of a method that returns or throws -/
theorem x_callS (S : CallFix p m c cc nL s args Ts own) (hM : x_M l y ws rm Pc Qc mc ms free) (cb : x_CB R s args own index y maxL ws rm mc ms n) (hst : (Cond.static y).before args s = true) (hp : PreS s H Pc As)
    (hn : As.length = n) (hsize : ls.size = nL) (hstack : st0 = As.reverse ++ rest) (hW : 2 * (F0 m pc ls rest).monitorRoom + (rest.map fun v => v.category).sum ≤ 8) (hdg : decode cc pc = .ok (.invokestatic index, 3)) (hc : cells + mc ≤ R.cells) (hs : slots + ms ≤ R.slots)
    (hS : va_S A0 H0 H locs) (hA : ∀ q, q < H.size → A1 q → A0 q) (hf : ∀ q, free q → A0 q) (hF : ∀ st o t, Qc As.toArray st o t → va_F A1 st t)
    (kr : ∀ (v : Option Value) (st t : State) (H1 : Heap) (locs1 : List Loc), st.heap = H → t.heap = H1 → s.vm.Alike t.vm → Qc As.toArray st (.returned v) t → H.size ≤ H1.size → (∀ q : Nat, q < H.size → ¬ A1 q → H1[q]? = H[q]?) → va_S A0 H0 H1 locs1 →
      W p l e R s m args below meth c H1 locs1 (cells + mc) (slots + ms) Q (F0 m (pc + 3) ls (v.toList ++ rest)))
    (kt : ∀ (q : Addr) (st t : State) (H1 : Heap) (locs1 : List Loc), st.heap = H → t.heap = H1 → s.vm.Alike t.vm → Qc As.toArray st (.threw q) t → H.size ≤ H1.size → (∀ q : Nat, q < H.size → ¬ A1 q → H1[q]? = H[q]?) → va_S A0 H0 H1 locs1 →
      x_W p l e R s m args below meth c H1 locs1 (cells + mc) (slots + ms) Q (F0 m pc ls rest) q) : W p l e R s m args below meth c H locs cells slots Q (F0 m pc ls st0) := by
  intro T hT X
  obtain ⟨hx, hb, hml, ho, -⟩ := S
  obtain ⟨mk, my, cy, n0, n1, n2, n3, n4⟩ := cb.2.2.2.2.2.1
  have hini := cb.2.2.2.2.2.2.1
  have hy := cb.2.2.2.2.2.2.2.1
  have hlen := cb.2.2.2.2.2.2.2.2.1
  have hl := cb.2.2.2.2.2.2.2.2.2
  have hstatic : my.isStatic = true := Cond.static_spec n0 n1 hst
  obtain ⟨kP, hkP, -⟩ := className_of_methodNamed n0
  have hinitP : kP.init = .initialized := Cond.initialized_spec (findClass_of_methodNamed n0) hkP (hini #[] s (State.WarmedH.refl s))
  obtain ⟨vm₁, X₁, st1⟩ := X.invokestatic hx ho hl n0 n1 hstatic hkP hinitP hy (g := F0 m pc ls st0) rfl (argsL := As) (rest := rest) (hn.trans (hlen _ n4)) hstack (by rw [hb]; exact hdg)
  obtain ⟨o, t, T', L, X', e1, e2, hq, hL, k1, k2⟩ := x_back hM cb X₁ n0 (g := F0 m pc ls rest) (ig := .invokestatic index) (len := 3) rfl (hsize.trans hml.symm) (by rw [hb]; exact hdg) hW hc hs (a := As.toArray)
    (hp.1 _ _ _ _ (hp.2 (T.setVm vm₁) hT X₁.warmed))
  have hh : ((T.setVm vm₁).calling (F0 m pc ls rest) mk As.toArray).heap = H := hT
  obtain ⟨q1, q2, q3⟩ := x_after hh e1 hS hA hf hL (hF _ _ _ hq)
  have hal : s.vm.Alike t.vm := by rw [← e2]; exact X'.warmed.alike
  cases o with
  | returned v =>
    obtain ⟨t2, a1, b1⟩ := kr v _ t T'.heap (locs ++ L) hh e1.symm hal hq q1 q2 q3 T' rfl X'
    exact ⟨t2, st1 _ fun acts => by rw [doInvoke_state]; exact (k1 v rfl).trans a1, b1⟩
  | threw q =>
    obtain ⟨t2, a1, b1⟩ := kt q _ t T'.heap (locs ++ L) hh e1.symm hal hq q1 q2 q3 T' rfl X'
    exact ⟨t2, st1 _ fun acts => by rw [doInvoke_state]; exact (k2 q rfl).trans a1, b1⟩
/-- invokevirtual of a method that returns or throws, on an object of the class C -/
theorem x_callV {C : String} {b : Addr} (S : CallFix p m c cc nL s args Ts own) (hM : x_M l y ws rm Pc Qc mc ms free) (cb : x_CB R s args own index y maxL ws rm mc ms n) (hin : (Cond.instanceMethod y).before args s = true) (hse : (Cond.selects C y y).before args s = true) (hp : PreV s H C b Pc As)
    (hn : As.length = n) (hsize : ls.size = nL) (hstack : st0 = As.reverse ++ .ref b :: rest) (hW : 2 * (F0 m pc ls rest).monitorRoom + (rest.map fun v => v.category).sum ≤ 8) (hdg : decode cc pc = .ok (.invokevirtual index, 3)) (hc : cells + mc ≤ R.cells) (hs : slots + ms ≤ R.slots)
    (hS : va_S A0 H0 H locs) (hA : ∀ q, q < H.size → A1 q → A0 q) (hf : ∀ q, free q → A0 q) (hF : ∀ st o t, Qc (Value.ref b :: As).toArray st o t → va_F A1 st t)
    (kr : ∀ (v : Option Value) (st t : State) (H1 : Heap) (locs1 : List Loc), st.heap = H → t.heap = H1 → s.vm.Alike t.vm → Qc (Value.ref b :: As).toArray st (.returned v) t → H.size ≤ H1.size → (∀ q : Nat, q < H.size → ¬ A1 q → H1[q]? = H[q]?) → va_S A0 H0 H1 locs1 →
      W p l e R s m args below meth c H1 locs1 (cells + mc) (slots + ms) Q (F0 m (pc + 3) ls (v.toList ++ rest)))
    (kt : ∀ (q : Addr) (st t : State) (H1 : Heap) (locs1 : List Loc), st.heap = H → t.heap = H1 → s.vm.Alike t.vm → Qc (Value.ref b :: As).toArray st (.threw q) t → H.size ≤ H1.size → (∀ q : Nat, q < H.size → ¬ A1 q → H1[q]? = H[q]?) → va_S A0 H0 H1 locs1 →
      x_W p l e R s m args below meth c H1 locs1 (cells + mc) (slots + ms) Q (F0 m pc ls rest) q) : W p l e R s m args below meth c H locs cells slots Q (F0 m pc ls st0) := by
  intro T hT X
  obtain ⟨hx, hb, hml, ho, -⟩ := S
  obtain ⟨mk', my', cy, n0', n1', n2, n3, n4⟩ := cb.2.2.2.2.2.1
  have hy := cb.2.2.2.2.2.2.2.1
  have hlen := cb.2.2.2.2.2.2.2.2.1
  have hl := cb.2.2.2.2.2.2.2.2.2
  obtain ⟨mk, my, n0, n1, hns, hna⟩ := Cond.instanceMethod_spec hin
  obtain rfl : mk = mk' := Option.some.inj (n0.symm.trans n0')
  obtain rfl : my = my' := Option.some.inj (n1.symm.trans n1')
  obtain ⟨hbl, ⟨cellB, hcB, hoB, hclB⟩, hPc⟩ := hp
  obtain ⟨cS, rS, mS, q1, q2, q3, q4, kP, hkP, hkPi⟩ := Cond.selects_spec hse
  cases hclB.symm.trans q1
  cases (State.methodFound?_of_named n0 hy).symm.trans q2
  cases n0.symm.trans q3
  have hsel : selectMethod e.platform s.vm cellB.cls mk = .method mk := by rw [Launch.admits_selectMethod X.admits]; exact q4
  obtain ⟨vm₁, X₁, st1⟩ := X.invokevirtual hx ho hl n0 n1 hns hkP hkPi hy (a := b) (cell := cellB) (by rw [hT]; exact hcB) (fun z h => by rw [h] at hoB; cases hoB) hsel n1 hna hkP hkPi
    (g := F0 m pc ls st0) rfl (argsL := As) (rest := rest) (hn.trans (hlen _ n4)) hstack (by rw [hb]; exact hdg)
  obtain ⟨o, t, T', L, X', e1, e2, hq, hL, k1, k2⟩ := x_back hM cb X₁ n0 (g := F0 m pc ls rest) (ig := .invokevirtual index) (len := 3) rfl (hsize.trans hml.symm) (by rw [hb]; exact hdg) hW hc hs (a := (Value.ref b :: As).toArray)
    (hbl _ _ _ _ (hPc (T.setVm vm₁) hT X₁.warmed))
  have hh : ((T.setVm vm₁).calling (F0 m pc ls rest) mk (Value.ref b :: As).toArray).heap = H := hT
  obtain ⟨q1, q2, q3⟩ := x_after hh e1 hS hA hf hL (hF _ _ _ hq)
  have hal : s.vm.Alike t.vm := by rw [← e2]; exact X'.warmed.alike
  cases o with
  | returned v =>
    obtain ⟨t2, a1, b1⟩ := kr v _ t T'.heap (locs ++ L) hh e1.symm hal hq q1 q2 q3 T' rfl X'
    exact ⟨t2, st1 _ fun acts => by rw [doInvoke_state]; exact (k1 v rfl).trans a1, b1⟩
  | threw q =>
    obtain ⟨t2, a1, b1⟩ := kt q _ t T'.heap (locs ++ L) hh e1.symm hal hq q1 q2 q3 T' rfl X'
    exact ⟨t2, st1 _ fun acts => by rw [doInvoke_state]; exact (k2 q rfl).trans a1, b1⟩
/-- nothing catches: the method ends by q -/
theorem x_leave {q : Addr} (hout : ∀ z ∈ c.exceptionTable.toList, covers z pc = false) (hlocks : meth.locks = false) (hq : ∀ t : State, t.heap = H → s.WarmedH t.vm → Qc args s (.threw q) t) (hf : ∀ z ∈ locs, free z.base) :
    x_W p l e R s m args below meth c H locs cells slots (x_Q below Qc args s cells slots free) (F0 m pc ls rest) q := by
  intro T hT X
  obtain ⟨st, h1, h2, h3, h4⟩ := X.leaveThrown q (g := F0 m pc ls rest) rfl rfl rfl hout hlocks
  exact ⟨_, st, .threw q, h1, h2, hq _ hT h3, h3, locs, h4, hf⟩
end XCall
/-! ### the search through a table of handlers whose classes may not have been resolved yet -/
section XCatch
variable {e : Env} {s : State} {f : JFrame} {a : Addr}
/-- one entry that covers the place: its class links to k -/
theorem x_go {z : ExceptionTableEntry} {zs : List ExceptionTableEntry} {k : ClassId} {cell : Cell} {S : State} (hW : s.WarmedH S.vm) (hz : covers z f.pc = true) (h0 : z.catchType ≠ 0) (hl : s.vm.ClassLinks e.platform f.method.cls z.catchType k)
    (hcell : S.heap[a]? = some cell) (hobj : cell.vm = .none) (hk : ∃ k1, s.vm.classes[cell.cls]? = some k1) :
    ∃ vm' : Vm, s.WarmedH vm' ∧ ∀ (Q : Handler → Pre) (E : CtlPost) (d : Bool) (acts : List Action),
      wp (findHandler.go f a (z :: zs)) Q E e d acts S ↔ if s.vm.assignable cell.cls k = true then Q (.found z.handlerPc) d acts (S.setVm vm') else wp (findHandler.go f a zs) Q E e d acts (S.setVm vm') := by
  have hlS := hW.classLinks hl
  obtain ⟨dk, _, _, kt, hd, _, _, _, _, hkt, _, hopen⟩ := hl.here
  obtain ⟨k1, hk1⟩ := hk
  have hal : S.vm.Alike (S.vm.noted f.method.cls z.catchType (.cls k)) := (Vm.Alike.refl S.vm).noted _ _ _
  obtain ⟨k2, hk2, -⟩ := hW.alike.2.2 _ _ hk1
  obtain ⟨k3, hk3, -⟩ := hal.2.2 _ _ hk2
  obtain ⟨k4, hk4, -⟩ := hW.alike.2.2 _ _ hkt
  obtain ⟨k5, hk5, -⟩ := hal.2.2 _ _ hk4
  have hasg : (S.vm.noted f.method.cls z.catchType (.cls k)).assignable cell.cls k = s.vm.assignable cell.cls k := by rw [hal.assignable, hW.alike.assignable]
  obtain ⟨ha, ht⟩ := (resolveClass_links e.toSetting hlS).op (op := VmOp.resolveClass f.method.cls z.catchType) rfl
  refine ⟨_, hW.noted hd hopen (State.rightAt_cls hl), fun Q E d acts => ?_⟩
  simp only [covers] at hz
  cases hfit : s.vm.assignable cell.cls k <;>
    simp [findHandler.go, hz, h0, ha, ht, hcell, hobj, hk3, hk5, hasg, hfit, VmOp.dirties, VmOp.acts]
/-- the entries ahead are passed, the next takes the object -/
theorem x_search {z : ExceptionTableEntry} {suf : List ExceptionTableEntry} {k : ClassId} {cell : Cell} (hz : covers z f.pc = true) (h0 : z.catchType ≠ 0) (hl : s.vm.ClassLinks e.platform f.method.cls z.catchType k) (hfit : s.vm.assignable cell.cls k = true)
    (hobj : cell.vm = .none) (hk : ∃ k1, s.vm.classes[cell.cls]? = some k1) :
    ∀ (pre : List ExceptionTableEntry) (S : State), s.WarmedH S.vm → S.heap[a]? = some cell →
      (∀ w ∈ pre, covers w f.pc = false ∨ (w.catchType ≠ 0 ∧ ∃ k2, s.vm.ClassLinks e.platform f.method.cls w.catchType k2 ∧ s.vm.assignable cell.cls k2 = false)) →
      ∃ vm' : Vm, s.WarmedH vm' ∧ ∀ (Q : Handler → Pre) (E : CtlPost) (d : Bool) (acts : List Action), wp (findHandler.go f a (pre ++ z :: suf)) Q E e d acts S ↔ Q (.found z.handlerPc) d acts (S.setVm vm') := by
  intro pre
  induction pre with
  | nil =>
    intro S hW hcell _
    obtain ⟨vm', h1, h2⟩ := x_go (zs := suf) hW hz h0 hl hcell hobj hk
    refine ⟨vm', h1, fun Q E d acts => ?_⟩
    rw [List.nil_append, h2 Q E d acts, if_pos hfit]
  | cons w ws ih =>
    intro S hW hcell hp
    have hp' := fun v (hv : v ∈ ws) => hp v (List.mem_cons_of_mem _ hv)
    by_cases hc : covers w f.pc = true
    · rcases hp w List.mem_cons_self with h | ⟨g0, k2, gl, gno⟩
      · rw [h] at hc; cases hc
      · obtain ⟨vm1, h1, h2⟩ := x_go (zs := ws ++ z :: suf) hW hc g0 gl hcell hobj hk
        obtain ⟨vm2, h3, h4⟩ := ih (S.setVm vm1) h1 hcell hp'
        refine ⟨vm2, h3, fun Q E d acts => ?_⟩
        rw [List.cons_append, h2 Q E d acts, if_neg (by rw [gno]; decide)]
        exact h4 Q E d acts
    · obtain ⟨vm2, h3, h4⟩ := ih S hW hcell hp'
      refine ⟨vm2, h3, fun Q E d acts => ?_⟩
      rw [List.cons_append, W.findHandler_go_skip (by simpa using hc)]
      exact h4 Q E d acts
theorem x_caughtStep {S : State} {r : List Frame} {pc : Nat} {vm' : Vm} (hfind : ∀ (Q : Handler → Pre) (E : CtlPost) (d : Bool) (acts : List Action), wp (findHandler f a) Q E e d acts S ↔ Q (.found pc) d acts (S.setVm vm')) :
    (stepThrowing e S a (.java f :: r)).Is ((S.setVm vm').setFrames (.java { f with pc := pc, stack := [.ref a] } :: r)) [] := by
  simp only [stepThrowing, searchFrame, vmDo]
  generalize hr : Sem.go _ e false [] S = res
  obtain ⟨as, rfl, ha⟩ := Sem.eq_ok_of hr (a := Handler.found pc) (s' := S.setVm vm') (acts' := []) (by simp [hfind _ _ _ _])
  exact ⟨rfl, ha⟩
end XCatch
section XCatch2
variable {p : Program} {l : Launch} {e : Env} {R : Room} {s : State} {m : MethodId} {args : Array Value} {below : List Frame} {meth : Method} {c : Code} {H : Heap} {locs : List Loc} {cells slots : Nat} {Q : State → Prop}
/-- the method's own handler takes q, of the class E: its entry is the first that names a class above E -/
theorem x_catch {own E name : String} {q : Addr} {ce : Cell} {pc : Nat} {ls : Array Slot} {rest : List Value} (hown : s.vm.findClass own = some m.cls) (pre : List ExceptionTableEntry) (z : ExceptionTableEntry) (suf : List ExceptionTableEntry) (hsplit : c.exceptionTable.toList = pre ++ z :: suf)
    (hpass : ∀ w ∈ pre, covers w pc = false ∨ (w.catchType ≠ 0 ∧ ∃ nm : String, (Cond.classLink own w.catchType nm).before args s = true ∧ va_Nc E nm s)) (hz : covers z pc = true) (h0 : z.catchType ≠ 0)
    (hlink : (Cond.classLink own z.catchType name).before args s = true) (hcast : (Cond.castable E name).before args s = true) (hcell : H[q]? = some ce) (hv : ce.vm = .none) (hcl : s.vm.findClass E = some ce.cls)
    (kk : W p l e R s m args below meth c H locs cells slots Q (F0 m z.handlerPc ls [.ref q])) : x_W p l e R s m args below meth c H locs cells slots Q (F0 m pc ls rest) q := by
  intro T hT X
  have hpl : e.platform.magicAccessors = ({} : Platform).magicAccessors := by rw [X.admits.platform]
  obtain ⟨c3, c4, hc3, hc4, hasg⟩ := Cond.castable_spec hcast
  cases Option.some.inj (hc3.symm.trans hcl)
  obtain ⟨c5, hc5, hcl5⟩ := Cond.classLink_spec hown hlink e.platform hpl
  cases Option.some.inj (hc4.symm.trans hc5)
  have hk : ∃ k1, s.vm.classes[ce.cls]? = some k1 := by obtain ⟨k9, h9, -⟩ := Vm.findClass_spec hcl; exact ⟨k9, h9⟩
  have hTcell : ((T.setTop (F0 m pc ls rest)).pushFrame (.throwing q)).heap[q]? = some ce := by rw [Stand.throwing_heap, hT]; exact hcell
  obtain ⟨vm', hW', hf⟩ := x_search (e := e) (s := s) (f := F0 m pc ls rest) (a := q) (suf := suf) hz h0 hcl5 hasg hv hk pre ((T.setTop (F0 m pc ls rest)).pushFrame (.throwing q)) (by rw [Stand.throwing_vm]; exact X.warmed) hTcell
    (fun w hw => by
      rcases hpass w hw with h | ⟨g0, nm, hl1, hn1⟩
      · exact Or.inl h
      · obtain ⟨c6, hc6, hcl6⟩ := Cond.classLink_spec hown hl1 e.platform hpl
        obtain ⟨a8, b8, h1, h2, h3⟩ := hn1
        cases Option.some.inj (h1.symm.trans hcl)
        cases Option.some.inj (h2.symm.trans hc6)
        exact Or.inr ⟨g0, _, hcl6, h3⟩)
  have hm9 : ((T.setTop (F0 m pc ls rest)).pushFrame (.throwing q)).vm.method? (F0 m pc ls rest).method = some meth := by rw [Stand.throwing_vm]; exact X.method'
  have hfind : ∀ (Q : Handler → Pre) (E : CtlPost) (d : Bool) (acts : List Action), wp (findHandler (F0 m pc ls rest) q) Q E e d acts ((T.setTop (F0 m pc ls rest)).pushFrame (.throwing q)) ↔ Q (.found z.handlerPc) d acts (((T.setTop (F0 m pc ls rest)).pushFrame (.throwing q)).setVm vm') := fun Q E d acts => by
    rw [W.findHandler_eq hm9 X.code, hsplit]
    exact hf Q E d acts
  have X' := X.noted hW'
  obtain ⟨t, a1, b1⟩ := kk (T.setVm vm') hT X'
  refine ⟨t, ?_, b1⟩
  have hA : At T (F0 m pc ls rest).method c below := X.here
  obtain ⟨hgo, hw⟩ := hA.throwing q
  refine Steps.head hgo hw ?_
  rw [stepThread_throwing (frames_entered hA.top _), (x_caughtStep hfind).1]
  obtain ⟨g₀, hg⟩ := Option.isSome_iff_exists.mp hA.top
  obtain ⟨r, hr⟩ := State.topJava?_eq_some.mp hg
  have hr' : (T.setVm vm').frames = .java g₀ :: r := hr
  rw [State.setTop_of_frames _ hr'] at a1
  have e9 : ((((T.setTop (F0 m pc ls rest)).pushFrame (.throwing q)).setVm vm').setFrames (.java { F0 m pc ls rest with pc := z.handlerPc, stack := [.ref q] } :: T.frames.tail)) = (T.setVm vm').setFrames (.java (F0 m z.handlerPc ls [.ref q]) :: r) := by
    rw [hr, List.tail_cons, State.pushFrame, State.setTop_of_frames _ hr]
    rw [State.setFrames_setFrames]
    show (((T.setVm vm').setFrames _).setFrames _) = _
    rw [State.setFrames_setFrames]
  rw [e9]
  exact a1
/-- the walk's own point as the beginning of a walk: what has been written so far is forgotten, the heap is the one that stands -/
theorem x_base {T : State} (X : Stand p l e R s m args below meth c T locs cells slots) {R' : Room} (hf : R'.frames ≤ R.frames) (hl : R'.locals ≤ R.locals) (hc : cells + R'.cells ≤ R.cells) (hs : slots + R'.slots ≤ R.slots) :
    Stand p l e R' ((T.setVm s.vm).setFrames (.invoking m args :: below)) m args below meth c T [] 0 0 := by
  have htop : (T.setVm s.vm).topJava?.isSome := X.here.top
  have hcur : (T.setVm s.vm).cur < (T.setVm s.vm).threads.size := State.cur_lt_of_top htop
  have hF : ((T.setVm s.vm).setFrames (.invoking m args :: below)).frames = .invoking m args :: below := State.frames_setFrames _ hcur
  have hnone : (T.heap.toList.drop T.heap.size) = [] := List.drop_eq_nil_of_le (Nat.le_of_eq Array.length_toList)
  refine { admits := X.admits, cas := X.cas, clock := X.clock, frames := hF, room := ?_, hears := X.hears, method := X.method, code := X.code, here := X.here, tail := X.tail, warmed := X.warmed, limits := ?_, bytes := ?_, same := ?_ }
  · have hloc : ((T.setVm s.vm).setFrames (.invoking m args :: below)).localsInUse = s.localsInUse := by
      rw [State.localsInUse_invoking hF (meth := meth) (c := c) X.method X.code, State.localsInUse_invoking X.frames X.method X.code]
    have hlim : e.platform.stackLimits ((T.setVm s.vm).setFrames (.invoking m args :: below)).me = e.platform.stackLimits s.me := by rw [State.stackLimits_setFrames]; exact X.limits
    have hbyt : ((T.setVm s.vm).setFrames (.invoking m args :: below)).me.stackBytes = s.me.stackBytes := by rw [State.stackBytes_setFrames]; exact X.bytes
    have hroom := X.room
    have q1 := X.heapSize
    have q2 := X.used
    have hfl : s.frames.length = below.length + 1 := by rw [X.frames]; rfl
    simp only [State.hasRoom, Bool.and_eq_true, decide_eq_true_eq] at hroom ⊢
    obtain ⟨⟨⟨⟨r1, r2, r3, r4, r5, r6⟩, r7⟩, r8⟩, -⟩ := hroom
    rw [hfl] at r2 r3
    rw [hF, hloc, hlim, hbyt]
    have g1 : ((T.setVm s.vm).setFrames (.invoking m args :: below)).heap.size = T.heap.size := rfl
    have g2 : ((T.setVm s.vm).setFrames (.invoking m args :: below)).slotsUsed = T.slotsUsed := rfl
    rw [g1, g2]
    simp only [List.length_cons]
    exact ⟨⟨⟨⟨by omega, by omega, by omega, by omega, by omega, r6⟩, by omega⟩, by omega⟩, X.book⟩
  · rw [State.stackLimits_setFrames]; rfl
  · rw [State.stackBytes_setFrames]; rfl
  · refine ⟨?_, Nat.le_refl _, Nat.le_refl _, ?_, ?_, fun a c9 h9 => ⟨c9, h9, rfl, rfl, fun _ _ => rfl⟩⟩
    · obtain ⟨g₀, hg0⟩ := Option.isSome_iff_exists.mp htop
      obtain ⟨r, hr⟩ := State.topJava?_eq_some.mp hg0
      obtain ⟨t, ht, -⟩ := State.frames_cons hr
      show T.setVm s.vm = { ((T.setVm s.vm).setFrames (.invoking m args :: below)).setFrames (T.setVm s.vm).frames with heap := T.heap, slotsUsed := T.slotsUsed }
      rw [State.setFrames_setFrames, State.setFrames_self ht]
      rfl
    · show T.slotsUsed = T.slotsUsed + ((T.heap.toList.drop T.heap.size).map (·.slots.size)).sum
      rw [hnone]; rfl
    · show ((T.heap.toList.drop T.heap.size).map (·.slots.size)).sum ≤ 0
      rw [hnone]; exact Nat.le_refl _
end XCatch2
section XThrow
variable {p : Program} {l : Launch} {e : Env} {R : Room} {s : State} {m : MethodId} {args : Array Value} {below : List Frame} {meth : Method} {c : Code} {H : Heap} {locs : List Loc} {cells slots : Nat} {Q : State → Prop}
/-- a static field that holds null or a reference, in a cell outside A -/
def x_St (C n d : String) (A : Nat → Prop) (U : State) (H : Heap) : Prop := ∃ (k : ClassId) (K : Class) (i : Nat) (f : Field) (a : Nat) (cell : Cell),
  (U.vm.findClass C = some k ∧ U.fieldFound? C n d = some (k, K, i, f) ∧ f.isStatic = true ∧ K.statics = some a ∧ K.staticTypes[f.slot]? = some f.type) ∧
  (H[a]? = some cell ∧ cell.vm.isStatics = true ∧ cell.cls = k ∧ f.slot < cell.slots.size ∧ (cell.slots[f.slot]? = some .null ∨ ∃ t : Nat, cell.slots[f.slot]? = some (.ref t))) ∧ ¬ A a
theorem x_St.of {C n d : String} {A : Nat → Prop} {a0 : Array Value} (h1 : (Cond.laysStatic C n d).before a0 s = true) (h2 : (Cond.isRef (.static C n d)).before a0 s = true) (hA : ∀ q, q < s.heap.size → ¬ A q) : x_St C n d A s s.heap := by
  obtain ⟨k, K, i, f, a, cell, g1, g2, g3, g4, g5, g6, g7, g8, g9⟩ := Cond.laysStatic_spec h1
  obtain ⟨u, hu⟩ := Cond.staticRefV g2 g3 g4 g5 g6 h2
  refine ⟨k, K, i, f, a, cell, ⟨g1, g2, g3, g4, g9⟩, ⟨g5, g6, g7, g8, ?_⟩, hA a (Array.getElem?_eq_some_iff.mp g5).1⟩
  obtain ⟨v, hv⟩ := u
  cases v with
  | null => exact Or.inl hu
  | ref t => exact Or.inr ⟨t, hu⟩
  | _ => simp [Value.isRef] at hv
theorem x_St.to {C n d : String} {A B : Nat → Prop} {U : State} {H0 H1 : Heap} (h : x_St C n d A s H0) (hvm : s.vm.Alike U.vm) (hq : ∀ a : Nat, a < H0.size → ¬ A a → H1[a]? = H0[a]?) (hB : ∀ q, B q → A q) : x_St C n d B U H1 := by
  obtain ⟨k, K, i, f, a, cell, ⟨g1, g2, g3, g4, g9⟩, ⟨g5, g6⟩, g7⟩ := h
  obtain ⟨K', hi', he⟩ := State.fieldFound?_setVm hvm g2
  exact ⟨k, K', i, f, a, cell, ⟨by rw [hvm.findClass]; exact g1, hi', g3, by rw [he]; exact g4, by rw [he]; exact g9⟩, ⟨by rw [hq a (Array.getElem?_eq_some_iff.mp g5).1 g7]; exact g5, g6⟩, fun z => g7 (hB _ z)⟩
theorem x_St.lays {C n d : String} {A : Nat → Prop} (a0 : Array Value) (h : x_St C n d A s s.heap) : (Cond.laysStatic C n d).before a0 s = true := by
  obtain ⟨k, K, i, f, a, cell, ⟨g1, g2, g3, g4, g9⟩, ⟨g5, g6, g7, g8, -⟩, -⟩ := h
  show (Cond.laysStatic C n d).holds a0 s none s [] = true
  exact Cond.laysStatic_of g1 g2 g3 g4 g5 g6 g7 g8 g9
theorem x_St.isRef {C n d : String} {A : Nat → Prop} (a0 : Array Value) (h : x_St C n d A s s.heap) : (Cond.isRef (.static C n d)).before a0 s = true := by
  obtain ⟨k, K, i, f, a, cell, ⟨g1, g2, g3, g4, g9⟩, ⟨g5, g6, g7, g8, g10⟩, -⟩ := h
  have z : (Term.static C n d).eval a0 s none [] s = cell.slots[f.slot]? := by simp [Term.eval, State.fieldNamed?, g2, g3, g4, g5, g6]
  rcases g10 with g | ⟨t, g⟩
  · simp [Cond.before, Cond.holds, Cond.value, z, g]
  · simp [Cond.before, Cond.holds, Cond.value, z, g]
theorem x_same0 {U : State} {k n : Nat} (h : s.sameButNew U [] k n) : s.heap.size ≤ U.heap.size ∧ ∀ a : Nat, a < s.heap.size → U.heap[a]? = s.heap[a]? := by
  obtain ⟨-, h2, -, -, -, h6⟩ := h
  refine ⟨h2, fun a ha => ?_⟩
  obtain ⟨c9, e1, e2, e3, e4⟩ := h6 a _ (Array.getElem?_eq_getElem ha)
  have hs : c9.slots = (s.heap[a]).slots := Array.ext_getElem? fun i => e4 i (fun hm => nomatch hm)
  rw [e1, Array.getElem?_eq_getElem ha, e2, hs]
/-- throw new cls("text"): new; dup; ldc; invokespecial; athrow -/
theorem x_throw {cc : ByteArray} {pc : Nat} {ls : Array Slot} {rest : List Value} {own cls text : String} {names : List String} {ik is ic : Nat} {Qc : Array Value → State → Outcome → State → Prop} {free : Addr → Prop} {A : Nat → Prop}
    (hexec : p.tables.exec = Jvm.exec) (hb : c.code = cc) (hl : l.stackTraces = false) (hown : s.vm.findClass own = some m.cls) (hcls : Bundle.fit cls = true) (hnames : ∀ n ∈ names, Bundle.fit n = true)
    (hk : (Cond.classLink own ik cls).before args s = true) (hini : (Cond.initialized cls).before args s = true) {sa : Nat} (hstr : vk_R own is text sa s)
    (hat : ∀ w ∈ Bundle.ownAtoms own ic cls names, w.onTables = true → w.before args s = true)
    (hnt : ∀ w ∈ Bundle.ownAtoms own ic cls names, w.onTables = true ∨ w = .isRef (.static Bundle.tN "UNASSIGNED_STACK" Bundle.steD) ∨ w = .isRef (.static Bundle.tN "SUPPRESSED_SENTINEL" Bundle.listD) ∨ w = .laysStatic Bundle.tN "UNASSIGNED_STACK" Bundle.steD ∨ w = .laysStatic Bundle.tN "SUPPRESSED_SENTINEL" Bundle.listD)
    (hU : x_St Bundle.tN "UNASSIGNED_STACK" Bundle.steD A s s.heap) (hN : x_St Bundle.tN "SUPPRESSED_SENTINEL" Bundle.listD A s s.heap) (hS : va_S A s.heap H locs) (hsize : ls.size = c.maxLocals)
    (d0 : decode cc pc = .ok (.new ik, 3)) (d3 : decode cc (pc + 3) = .ok (.dup, 1)) (d4 : decode cc (pc + 4) = .ok (.ldc is, 2)) (d6 : decode cc (pc + 6) = .ok (.invokespecial ic, 3)) (d9 : decode cc (pc + 9) = .ok (.athrow, 1))
    (hout : ∀ z ∈ c.exceptionTable.toList, covers z (pc + 9) = false)
    (hRf : names.length + 3 < R.frames) (hRl : (rest.map fun v => v.category).sum + (13 * (names.length + 1) + 43) ≤ R.locals) (hRc : cells + 1 ≤ R.cells) (hRs : slots + 6 ≤ R.slots) (hlocks : meth.locks = false)
    (hq : ∀ (t : State) (q : Addr) (ce : Cell), s.WarmedH t.vm → H.size ≤ t.heap.size → (∀ a : Nat, a < H.size → t.heap[a]? = H[a]?) → t.heap[q]? = some ce → ce.vm = .none → s.vm.findClass cls = some ce.cls → Qc args s (.threw q) t)
    (hf : ∀ z ∈ locs, free z.base) : W p l e R s m args below meth c H locs cells slots (x_Q below Qc args s (cells + 1) (slots + 6) free) (F0 m pc ls rest) := by
  intro T hT X
  have htr : e.platform.stackTraces = false := (show e.platform.stackTraces = l.stackTraces by rw [X.admits.platform]).trans hl
  have Y0 := x_base X (R' := { frames := R.frames, locals := R.locals, cells := 1, slots := 6 }) (Nat.le_refl _) (Nat.le_refl _) hRc hRs
  obtain ⟨b, hbs⟩ : ∃ z, z = (T.setVm s.vm).setFrames (.invoking m args :: below) := ⟨_, rfl⟩
  rw [← hbs] at Y0
  have hvm : b.vm = s.vm := by rw [hbs]; rfl
  have hhp : b.heap = H := by rw [hbs]; exact hT
  have move : ∀ w : Cond, w.onTables = true → w.before args s = true → w.before args b = true := fun w h1 h2 => va_Nw.use h1 (va_Nw.same h1 hvm.symm (va_Nw.of h1 h2))
  have zU : x_St Bundle.tN "UNASSIGNED_STACK" Bundle.steD A b b.heap := by rw [hhp]; exact hU.to (by rw [hvm]; exact Vm.Alike.refl _) hS.2.1 (fun _ h => h)
  have zN : x_St Bundle.tN "SUPPRESSED_SENTINEL" Bundle.listD A b b.heap := by rw [hhp]; exact hN.to (by rw [hvm]; exact Vm.Alike.refl _) hS.2.1 (fun _ h => h)
  have hall : ∀ w ∈ Bundle.ownAtoms own ic cls names, w.before args b = true := fun w hw => by
    rcases hnt w hw with h | rfl | rfl | rfl | rfl
    · exact move w h (hat w hw h)
    · exact zU.isRef args
    · exact zN.isRef args
    · exact zU.lays args
    · exact zN.lays args
  have hown' : b.vm.findClass own = some m.cls := by rw [hvm]; exact hown
  obtain ⟨hstr', hev'⟩ := vk_R.same (u := s) (U := b) hvm hstr
  have hins : (Cond.instantiable cls 6).before args b = true := hall _ (by simp [Bundle.ownAtoms])
  obtain ⟨vm₁, cX, kX, hfX, hkX, -, -, X₁, st1⟩ := Y0.newCold hexec (own := own) (C := cls) (index := ik) (n := 6) hown' (move _ rfl hk) hins (move _ rfl hini)
    (g := F0 m pc ls rest) rfl (by rw [hb]; exact d0) (Nat.le_refl _) (Nat.le_refl _)
  generalize hT1 : (T.setVm vm₁).pushCell { cls := cX, slots := kX.instanceTypes.map defaultValue, vm := .none } = T1 at X₁ st1
  have hnew : T1.heap[T.heap.size]? = some (freshCell cX kX) := by rw [← hT1]; exact State.heap_pushCell_size _ _
  have d3' : decode c.code (pc + 3) = .ok (.dup, 1) := by rw [hb]; exact d3
  have d4' : decode c.code (pc + 4) = .ok (.ldc is, 2) := by rw [hb]; exact d4
  have hcat : (Value.ref T.heap.size).category = 1 := rfl
  obtain ⟨U, hsteps, hrun, hend, hW, hsame, ce, hce, hO⟩ := X₁.ctorThrowS hexec htr (own := own) (cls := cls) (names := names) (ic := ic) hown' hcls hnames hall (fun z hz => nomatch hz) hfX hkX hnew (by rw [hhp, hT]; exact Nat.le_refl _) (msg := .ref sa) rfl
    (g := F0 m (pc + 6) ls (.ref sa :: .ref T.heap.size :: .ref T.heap.size :: rest)) rfl hsize rfl rfl (rest := rest) rfl (by rw [hb]; exact d6) (by rw [hb]; exact d9) hout hRf (by
      have : (F0 m (pc + 6) ls (.ref sa :: .ref T.heap.size :: .ref T.heap.size :: rest)).monitorRoom = 0 := rfl
      simp only [List.map_cons, List.sum_cons, hcat, this]; omega) hlocks
  obtain ⟨f1, f2⟩ := x_same0 hsame
  rw [hhp] at f1 f2
  have hWs : s.WarmedH U.vm := by
    have z : b.WarmedH U.vm := hW
    exact State.WarmedH.trans (show s.WarmedH b.vm by rw [hvm]; exact State.WarmedH.refl s) z
  have hcl : s.vm.findClass cls = some ce.cls := by rw [← hvm]; exact hO.cls
  have hfin : s.sameButNew ({ U with vm := s.vm } : State) locs (cells + 1) (slots + 6) := by
    subst hbs
    obtain ⟨e1, e2⟩ := hsame
    rw [State.setFrames_setFrames] at e1
    have h2 : (T.setVm s.vm).sameButNew ({ U with vm := s.vm } : State) [] (0 + 1) (0 + 6) := ⟨e1, e2⟩
    have h3 := X.same.trans h2
    rw [List.append_nil, Nat.zero_add, Nat.zero_add] at h3
    exact h3
  refine ⟨U, ?_, .threw T.heap.size, hrun, hend, hq U T.heap.size ce hWs f1 f2 hce hO.vm hcl, hWs, locs, hfin, hf⟩
  refine st1 _ ?_
  show Steps p.tables e below (T1.setTop { method := m, pc := pc + 3, locals := ls, stack := .ref T.heap.size :: rest, locked := none }) _
  jvm_step X₁.here [X₁.here.top, hexec, d3', Value.category]
  exact X₁.ldcString hexec (own := own) (text := text) (index := is) (a := sa) hown' hstr' (by
      have z : (Term.string own is).eval args b none [] b = (Term.string own is).eval #[] b none [] b := rfl
      rw [z]; exact hev') (g := F0 m (pc + 4) ls (.ref T.heap.size :: .ref T.heap.size :: rest)) rfl d4' _ hsteps
end XThrow
end
section
/-! Sums over the numbers 1..n that have a property; what can be come to; the work list. -/
section ZMath
noncomputable def z_sum (w : Nat → Nat) (P : Nat → Prop) : Nat → Nat
  | 0 => 0
  | n + 1 => z_sum w P n + @ite Nat (P (n + 1)) (Classical.propDecidable _) (w (n + 1)) 0
theorem z_yes {w : Nat → Nat} {P : Nat → Prop} {n : Nat} (h : P (n + 1)) : z_sum w P (n + 1) = z_sum w P n + w (n + 1) := by
  show z_sum w P n + @ite Nat (P (n + 1)) (Classical.propDecidable _) (w (n + 1)) 0 = _
  rw [if_pos h]
theorem z_no {w : Nat → Nat} {P : Nat → Prop} {n : Nat} (h : ¬ P (n + 1)) : z_sum w P (n + 1) = z_sum w P n := by
  show z_sum w P n + @ite Nat (P (n + 1)) (Classical.propDecidable _) (w (n + 1)) 0 = _
  rw [if_neg h, Nat.add_zero]
theorem z_congr {w w' : Nat → Nat} {P P' : Nat → Prop} : ∀ {n : Nat}, (∀ o, 1 ≤ o → o ≤ n → (P o ↔ P' o)) → (∀ o, 1 ≤ o → o ≤ n → P o → w o = w' o) → z_sum w P n = z_sum w' P' n
  | 0, _, _ => rfl
  | n + 1, h1, h2 => by
    have ih := z_congr (w := w) (w' := w') (P := P) (P' := P') (n := n) (fun o a b => h1 o a (by omega)) (fun o a b => h2 o a (by omega))
    by_cases hp : P (n + 1)
    · rw [z_yes hp, z_yes ((h1 (n + 1) (by omega) (Nat.le_refl _)).mp hp), ih, h2 (n + 1) (by omega) (Nat.le_refl _) hp]
    · rw [z_no hp, z_no (fun h => hp ((h1 (n + 1) (by omega) (Nat.le_refl _)).mpr h)), ih]
theorem z_le {w : Nat → Nat} {P P' : Nat → Prop} : ∀ {n : Nat}, (∀ o, 1 ≤ o → o ≤ n → P o → P' o) → z_sum w P n ≤ z_sum w P' n
  | 0, _ => Nat.le_refl _
  | n + 1, h => by
    have ih := z_le (w := w) (P := P) (P' := P') (n := n) (fun o a b => h o a (by omega))
    by_cases hp : P (n + 1)
    · rw [z_yes hp, z_yes (h (n + 1) (by omega) (Nat.le_refl _) hp)]; omega
    · rw [z_no hp]
      by_cases hq : P' (n + 1)
      · rw [z_yes hq]; omega
      · rw [z_no hq]; exact ih
theorem z_add {w : Nat → Nat} {P : Nat → Prop} {k : Nat} : ∀ {n : Nat}, 1 ≤ k → k ≤ n → ¬ P k → z_sum w (fun o => P o ∨ o = k) n = z_sum w P n + w k
  | 0, h1, h2, _ => absurd h2 (by omega)
  | n + 1, h1, h2, hk => by
    by_cases he : k = n + 1
    · subst he
      rw [z_yes (P := fun o => P o ∨ o = n + 1) (Or.inr rfl), z_no hk]
      have := z_congr (w := w) (w' := w) (P := fun o => P o ∨ o = n + 1) (P' := P) (n := n) (fun o a b => ⟨fun h => h.resolve_right (by omega), Or.inl⟩) (fun _ _ _ _ => rfl)
      rw [this]
    · have ih := z_add (w := w) (P := P) (k := k) (n := n) h1 (by omega) hk
      by_cases hp : P (n + 1)
      · rw [z_yes (P := fun o => P o ∨ o = k) (Or.inl hp), z_yes hp, ih]; omega
      · rw [z_no (P := fun o => P o ∨ o = k) (fun h => h.elim hp (fun h => he h.symm)), z_no hp, ih]
theorem z_none {w : Nat → Nat} {P : Nat → Prop} : ∀ {n : Nat}, (∀ o, 1 ≤ o → o ≤ n → ¬ P o) → z_sum w P n = 0
  | 0, _ => rfl
  | n + 1, h => by rw [z_no (h (n + 1) (by omega) (Nat.le_refl _))]; exact z_none (fun o a b => h o a (by omega))
theorem z_cnt (P : Nat → Prop) : ∀ n : Nat, z_sum (fun _ => 1) P n ≤ n
  | 0 => Nat.le_refl _
  | n + 1 => by
    have ih := z_cnt P n
    by_cases hp : P (n + 1)
    · rw [z_yes hp]; omega
    · rw [z_no hp]; omega
/-- what can be come to -/
def z_R (root : Nat → Prop) (ed : Nat → Nat → Prop) (o : Nat) : Prop := ∀ P : Nat → Prop, (∀ r, root r → P r) → (∀ a b, P a → ed a b → P b) → P o
theorem z_R.root {root : Nat → Prop} {ed : Nat → Nat → Prop} {o : Nat} (h : root o) : z_R root ed o := fun _ h1 _ => h1 o h
theorem z_R.step {root : Nat → Prop} {ed : Nat → Nat → Prop} {a b : Nat} (h : z_R root ed a) (he : ed a b) : z_R root ed b := fun P h1 h2 => h2 a b (h P h1 h2) he
/-- a work list: seen so far, still to be looked into (ps), roots and edges not yet looked at -/
def z_I (root : Nat → Prop) (ed : Nat → Nat → Prop) (n : Nat) (seen : Nat → Prop) (ps : List Nat) (rop : Nat → Prop) (op : Nat → Nat → Prop) : Prop :=
  ps.Nodup ∧ (∀ o, o ∈ ps → seen o) ∧ (∀ o, seen o → 1 ≤ o ∧ o ≤ n ∧ z_R root ed o) ∧ (∀ a b, seen a → a ∉ ps → ed a b → seen b ∨ op a b) ∧ ∀ r, root r → seen r ∨ rop r
theorem z_I.len {root : Nat → Prop} {ed : Nat → Nat → Prop} {n : Nat} {seen : Nat → Prop} (hs : ∀ o, seen o → 1 ≤ o ∧ o ≤ n) : ∀ {ps : List Nat}, ps.Nodup → (∀ o, o ∈ ps → seen o) → ps.length + z_sum (fun _ => 1) (fun o => seen o ∧ o ∉ ps) n = z_sum (fun _ => 1) seen n
  | [], _, _ => by
    rw [List.length_nil, Nat.zero_add]
    exact z_congr (fun o _ _ => ⟨fun h => h.1, fun h => ⟨h, List.not_mem_nil⟩⟩) (fun _ _ _ _ => rfl)
  | k :: ps, hn, hm => by
    have hk := hs k (hm k List.mem_cons_self)
    have hnk : k ∉ ps := (List.nodup_cons.mp hn).1
    have ih := z_I.len (root := root) (ed := ed) hs (List.nodup_cons.mp hn).2 (fun o h => hm o (List.mem_cons_of_mem _ h))
    have h2 := z_add (w := fun _ => 1) (P := fun o => seen o ∧ o ∉ k :: ps) (k := k) (n := n) hk.1 hk.2 (fun h => h.2 List.mem_cons_self)
    have h3 := z_congr (w := fun _ => 1) (w' := fun _ => 1) (P := fun o => (seen o ∧ o ∉ k :: ps) ∨ o = k) (P' := fun o => seen o ∧ o ∉ ps) (n := n) (fun o _ _ => ⟨fun h => h.elim (fun h => ⟨h.1, fun z => h.2 (List.mem_cons_of_mem _ z)⟩) (fun h => by subst h; exact ⟨hm _ List.mem_cons_self, hnk⟩), fun h => by
      by_cases e : o = k
      · exact Or.inr e
      · exact Or.inl ⟨h.1, fun z => (List.mem_cons.mp z).elim e h.2⟩⟩) (fun _ _ _ _ => rfl)
    rw [List.length_cons]
    omega
theorem z_I.room {root : Nat → Prop} {ed : Nat → Nat → Prop} {n : Nat} {seen : Nat → Prop} {ps : List Nat} {rop : Nat → Prop} {op : Nat → Nat → Prop} (h : z_I root ed n seen ps rop op) : ps.length + z_sum (fun _ => 1) (fun o => seen o ∧ o ∉ ps) n ≤ n := by
  rw [z_I.len (root := root) (ed := ed) (fun o z => ⟨(h.2.2.1 o z).1, (h.2.2.1 o z).2.1⟩) h.1 h.2.1]
  exact z_cnt _ n
/-- an object that was not seen yet: it is now, and waits -/
theorem z_I.visit {root : Nat → Prop} {ed : Nat → Nat → Prop} {n k : Nat} {seen : Nat → Prop} {ps : List Nat} {rop : Nat → Prop} {op : Nat → Nat → Prop} (h : z_I root ed n seen ps rop op) (h1 : 1 ≤ k) (h2 : k ≤ n) (hr : z_R root ed k) (hk : ¬ seen k) :
    z_I root ed n (fun o => seen o ∨ o = k) (k :: ps) rop op ∧ ∀ w : Nat → Nat, z_sum w (fun o => (seen o ∨ o = k) ∧ o ∉ k :: ps) n = z_sum w (fun o => seen o ∧ o ∉ ps) n := by
  obtain ⟨a1, a2, a3, a4, a5⟩ := h
  have hnk : k ∉ ps := fun z => hk (a2 k z)
  refine ⟨⟨List.nodup_cons.mpr ⟨hnk, a1⟩, fun o z => ?_, fun o z => ?_, fun a b z1 z2 z3 => ?_, fun r z => (a5 r z).elim (fun q => Or.inl (Or.inl q)) Or.inr⟩, fun w => ?_⟩
  · exact (List.mem_cons.mp z).elim Or.inr (fun q => Or.inl (a2 o q))
  · rcases z with z | rfl
    · exact a3 o z
    · exact ⟨h1, h2, hr⟩
  · have hak : a ≠ k := fun q => z2 (by rw [q]; exact List.mem_cons_self)
    exact (a4 a b (z1.resolve_right hak) (fun q => z2 (List.mem_cons_of_mem _ q)) z3).elim (fun q => Or.inl (Or.inl q)) Or.inr
  · refine z_congr (fun o _ _ => ⟨fun z => ?_, fun z => ?_⟩) (fun _ _ _ _ => rfl)
    · have hak : o ≠ k := fun q => z.2 (by rw [q]; exact List.mem_cons_self)
      exact ⟨z.1.resolve_right hak, fun q => z.2 (List.mem_cons_of_mem _ q)⟩
    · refine ⟨Or.inl z.1, fun q => ?_⟩
      rcases List.mem_cons.mp q with e | e
      · exact hk (by rw [← e]; exact z.1)
      · exact z.2 e
/-- one that waits is taken: its edges are to be looked at -/
theorem z_I.pop {root : Nat → Prop} {ed : Nat → Nat → Prop} {n k : Nat} {seen : Nat → Prop} {ps : List Nat} {rop : Nat → Prop} {op : Nat → Nat → Prop} (h : z_I root ed n seen (k :: ps) rop op) :
    z_I root ed n seen ps rop (fun a b => op a b ∨ a = k) ∧ (∀ w : Nat → Nat, z_sum w (fun o => seen o ∧ o ∉ ps) n = z_sum w (fun o => seen o ∧ o ∉ k :: ps) n + w k) ∧ 1 ≤ k ∧ k ≤ n ∧ z_R root ed k := by
  obtain ⟨a1, a2, a3, a4, a5⟩ := h
  have hnk : k ∉ ps := (List.nodup_cons.mp a1).1
  have hsk := a2 k List.mem_cons_self
  have hk := a3 k hsk
  refine ⟨⟨(List.nodup_cons.mp a1).2, fun o z => a2 o (List.mem_cons_of_mem _ z), a3, fun a b z1 z2 z3 => ?_, a5⟩, fun w => ?_, hk⟩
  · by_cases e : a = k
    · exact Or.inr (Or.inr e)
    · exact (a4 a b z1 (fun q => (List.mem_cons.mp q).elim e z2) z3).elim Or.inl (fun q => Or.inr (Or.inl q))
  · rw [← z_add (w := w) (P := fun o => seen o ∧ o ∉ k :: ps) (k := k) hk.1 hk.2.1 (fun z => z.2 List.mem_cons_self)]
    refine z_congr (fun o _ _ => ⟨fun z => ?_, fun z => ?_⟩) (fun _ _ _ _ => rfl)
    · by_cases e : o = k
      · exact Or.inr e
      · exact Or.inl ⟨z.1, fun q => (List.mem_cons.mp q).elim e z.2⟩
    · rcases z with z | rfl
      · exact ⟨z.1, fun q => z.2 (List.mem_cons_of_mem _ q)⟩
      · exact ⟨hsk, hnk⟩
theorem z_I.mono {root : Nat → Prop} {ed : Nat → Nat → Prop} {n : Nat} {seen : Nat → Prop} {ps : List Nat} {rop rop' : Nat → Prop} {op op' : Nat → Nat → Prop} (h : z_I root ed n seen ps rop op) (h1 : ∀ r, root r → rop r → seen r ∨ rop' r) (h2 : ∀ a b, seen a → a ∉ ps → ed a b → op a b → seen b ∨ op' a b) : z_I root ed n seen ps rop' op' :=
  ⟨h.1, h.2.1, h.2.2.1, fun a b z1 z2 z3 => (h.2.2.2.1 a b z1 z2 z3).elim Or.inl (h2 a b z1 z2 z3), fun r z => (h.2.2.2.2 r z).elim Or.inl (h1 r z)⟩
/-- nothing waits, nothing is left to be looked at: what was seen is what can be come to -/
theorem z_I.done {root : Nat → Prop} {ed : Nat → Nat → Prop} {n : Nat} {seen : Nat → Prop} (h : z_I root ed n seen [] (fun _ => False) (fun _ _ => False)) (o : Nat) : seen o ↔ z_R root ed o :=
  ⟨fun z => (h.2.2.1 o z).2.2, fun z => z seen (fun r q => (h.2.2.2.2 r q).resolve_right id) (fun a b q1 q2 => (h.2.2.2.1 a b q1 List.not_mem_nil q2).resolve_right id)⟩
theorem z_I.start {root : Nat → Prop} {ed : Nat → Nat → Prop} {n : Nat} {seen : Nat → Prop} (h : ∀ o, ¬ seen o) : z_I root ed n seen [] root (fun _ _ => False) :=
  ⟨List.nodup_nil, fun o z => absurd z List.not_mem_nil, fun o z => absurd z (h o), fun a _ z _ _ => absurd z (h a), fun _ z => Or.inr z⟩
end ZMath
end
section
/-! Worlds as maps from addresses to what lies there. -/
section YMap
abbrev y_G : Type := Nat → Option va_E
def y_P (D : va_G) (cl : List vw_C) (g : y_G) (H : Heap) : Prop := ∀ (a : Nat) (e : va_E), g a = some e → va_at D cl (a, e) H
/-- which cells a method may change -/
def y_A (g : y_G) (sz : Nat) : Nat → Prop := fun q => g q ≠ none ∨ sz ≤ q
def y_L (g : y_G) (N : Nat) : va_W := (List.range N).filterMap (fun q => (g q).map (fun e => (q, e)))
theorem y_mem {g : y_G} {N a : Nat} {e : va_E} : (a, e) ∈ y_L g N ↔ a < N ∧ g a = some e := by
  unfold y_L
  rw [List.mem_filterMap]
  constructor
  · rintro ⟨q, hq, h⟩
    cases hg : g q with
    | none => rw [hg] at h; cases h
    | some e' =>
      rw [hg] at h
      cases h
      exact ⟨List.mem_range.mp hq, hg⟩
  · rintro ⟨h1, h2⟩
    exact ⟨a, List.mem_range.mpr h1, by rw [h2]; rfl⟩
theorem y_lt {D : va_G} {cl : List vw_C} {g : y_G} {H : Heap} (h : y_P D cl g H) {a : Nat} {e : va_E} (he : g a = some e) : a < H.size := (h a e he).lt
theorem y_idx {g : y_G} {N a : Nat} {e : va_E} (h1 : a < N) (h2 : g a = some e) : ∃ k : Nat, (y_L g N)[k]? = some (a, e) := List.getElem?_of_mem (y_mem.mpr ⟨h1, h2⟩)
theorem y_toL {D : va_G} {cl : List vw_C} {g : y_G} {H : Heap} (h : y_P D cl g H) (N : Nat) : va_P D cl (y_L g N) H := fun k q hk => h q.1 q.2 (y_mem.mp (List.mem_of_getElem? hk)).2
theorem y_inj (g : y_G) : ∀ (N i j : Nat) (p q : Nat × va_E), (y_L g N)[i]? = some p → (y_L g N)[j]? = some q → p.1 = q.1 → i = j := by
  intro N
  induction N with
  | zero => intro i j p q h; simp [y_L] at h
  | succ N ih =>
    have hs : y_L g (N + 1) = y_L g N ++ ((g N).map (fun e => (N, e))).toList := by
      unfold y_L
      rw [List.range_succ, List.filterMap_append]
      congr 1
    have hlt : ∀ (k : Nat) (r : Nat × va_E), (y_L g N)[k]? = some r → r.1 < N := fun k r h => (y_mem.mp (List.mem_of_getElem? h)).1
    have hlast : ∀ (k : Nat) (r : Nat × va_E), (((g N).map (fun e => (N, e))).toList)[k]? = some r → k = 0 ∧ r.1 = N := fun k r h => by
      cases hg : g N with
      | none => rw [hg] at h; simp at h
      | some e =>
        rw [hg] at h
        cases k with
        | zero => simp at h; exact ⟨rfl, by rw [← h]⟩
        | succ k => simp at h
    intro i j p q h1 h2 h3
    rw [hs] at h1 h2
    by_cases a1 : i < (y_L g N).length
    · rw [List.getElem?_append_left a1] at h1
      by_cases a2 : j < (y_L g N).length
      · rw [List.getElem?_append_left a2] at h2
        exact ih i j p q h1 h2 h3
      · rw [List.getElem?_append_right (by omega)] at h2
        have := hlt _ _ h1
        have := (hlast _ _ h2).2
        omega
    · rw [List.getElem?_append_right (by omega)] at h1
      by_cases a2 : j < (y_L g N).length
      · rw [List.getElem?_append_left a2] at h2
        have := hlt _ _ h2
        have := (hlast _ _ h1).2
        omega
      · rw [List.getElem?_append_right (by omega)] at h2
        have := (hlast _ _ h1).1
        have := (hlast _ _ h2).1
        omega
theorem y_D {A : Nat → Prop} {g : y_G} (hA : ∀ q e, g q = some e → A q) (N : Nat) : va_D A (y_L g N) :=
  ⟨y_inj g N, fun k q hk => hA q.1 q.2 (y_mem.mp (List.mem_of_getElem? hk)).2⟩
theorem y_ofSet {D : va_G} {cl : List vw_C} {g : y_G} {H1 : Heap} {N k a : Nat} {e0 e : va_E} (hN : ∀ q e, g q = some e → q < N) (hk : (y_L g N)[k]? = some (a, e0)) (h : va_P D cl ((y_L g N).set k (a, e)) H1) : y_P D cl (va_up g a (some e)) H1 := by
  intro b eb hb
  have hkl := (List.getElem?_eq_some_iff.mp hk).1
  by_cases hab : b = a
  · subst hab
    rw [va_up_self] at hb
    cases hb
    exact h k _ (List.getElem?_set_self hkl)
  · rw [va_up_ne _ _ hab] at hb
    obtain ⟨j, hj⟩ := y_idx (hN b eb hb) hb
    have hjk : k ≠ j := fun z => by
      subst z
      rw [hk] at hj
      cases hj
      exact hab rfl
    exact h j _ (by rw [List.getElem?_set_ne hjk]; exact hj)
theorem y_ofPush {D : va_G} {cl : List vw_C} {g : y_G} {H1 : Heap} {N q : Nat} {e : va_E} (hN : ∀ q e, g q = some e → q < N) (h : va_P D cl (y_L g N ++ [(q, e)]) H1) : y_P D cl (va_up g q (some e)) H1 := by
  intro b eb hb
  by_cases hab : b = q
  · subst hab
    rw [va_up_self] at hb
    cases hb
    exact h (y_L g N).length _ (by rw [List.getElem?_append_right (Nat.le_refl _), Nat.sub_self]; rfl)
  · rw [va_up_ne _ _ hab] at hb
    obtain ⟨j, hj⟩ := y_idx (hN b eb hb) hb
    exact h j _ (by rw [List.getElem?_append_left (List.getElem?_eq_some_iff.mp hj).1]; exact hj)
theorem y_P.kept {D : va_G} {cl : List vw_C} {g : y_G} {H H1 : Heap} (h : y_P D cl g H) (hq : ∀ a e, g a = some e → H1[a]? = H[a]?) : y_P D cl g H1 := fun a e he => (h a e he).kept (hq a e he)
theorem y_one {D : va_G} {cl : List vw_C} {g : y_G} {H : Heap} (h : y_P D cl g H) {a : Nat} {e : va_E} (he : g a = some e) : va_P D cl [(a, e)] H := fun k q hk => by
  cases k with
  | zero => cases hk; exact h a e he
  | succ k => simp at hk
end YMap
section YRows
variable {p : Program} {l : Launch} {e : Env} {R : Room} {s : State} {m : MethodId} {args : Array Value} {below : List Frame} {meth : Method} {c : Code} {H : Heap} {locs : List Loc} {cells slots : Nat} {Q : State → Prop} {cc : ByteArray} {pc a : Nat} {ls : Array Slot} {rest : List Value} {D : va_G} {cl : List vw_C} {tys : List (ClassId × FieldType)} {g : y_G} {A : Nat → Prop} {H0 : Heap}
theorem y_recv {ci : Nat} {q : vw_C} {fs : List Value} (hK : va_K D cl tys s) (hP : y_P D cl g H) (hc : cl[ci]? = some q) (he : g a = some (.inr (ci, fs))) : ∃ cell : Cell, H[a]? = some cell ∧ cell.vm.isStatics = false ∧ s.vm.findClass q.1 = some cell.cls :=
  va_recv hK (y_one hP he) hc (q0 := 0) rfl
theorem y_get (hexec : p.tables.exec = Jvm.exec) (hb : c.code = cc) {own ref C : String} {T : u_T} {N ci index : Nat} {Ts : List Cond} (hts : ∀ w ∈ Ts, w.before args s = true) (hin : ∀ w ∈ u_ws C T N, w ∈ Ts) (hown : s.vm.findClass own = some m.cls) (hK : va_K D cl tys s) (hP : y_P D cl g H) {fs : List Value} (he : g a = some (.inr (ci, fs))) (hc : cl[ci]? = some (C, T, N)) (k : Nat) (hk : k < N)
    (hlink : (Cond.fieldLink own index ref (T k).2.1 (T k).2.2.1).before args s = true) (hsame : ∀ x, s.fieldFound? (T k).1 (T k).2.1 (T k).2.2.1 = some x → s.fieldFound? ref (T k).2.1 (T k).2.2.1 = some x) {v : Value} (hv : fs[k]? = some v) (hdg : decode cc pc = .ok (.getfield index, 3))
    (kk : W p l e R s m args below meth c H locs cells slots Q (F0 m (pc + 3) ls (v :: rest))) : W p l e R s m args below meth c H locs cells slots Q (F0 m pc ls (.ref a :: rest)) :=
  va_get hexec hb hts hin hown hK (y_one hP he) 0 rfl hc k hk hlink hsame hv hdg kk
theorem y_put (hexec : p.tables.exec = Jvm.exec) (hb : c.code = cc) {own ref C : String} {T : u_T} {N ci index : Nat} {Ts : List Cond} (hts : ∀ w ∈ Ts, w.before args s = true) (hin : ∀ w ∈ u_ws C T N, w ∈ Ts) (ty0 : Nat → FieldType) (hty : ∀ k, k < N → parseFieldDescriptor (T k).2.2.1 = some (ty0 k)) (hnm : ∀ a, a < N → ∀ b, b < N → a ≠ b → (T a).2.1 ≠ (T b).2.1) (hown : s.vm.findClass own = some m.cls)
    (hK : va_K D cl tys s) (hP : y_P D cl g H) (hA : ∀ q e, g q = some e → A q) (hS : va_S A H0 H locs) {fs : List Value} (he : g a = some (.inr (ci, fs))) (hc : cl[ci]? = some (C, T, N)) (k : Nat) (hk : k < N) (hlink : (Cond.fieldLink own index ref (T k).2.1 (T k).2.2.1).before args s = true) (hsame : ∀ x, s.fieldFound? (T k).1 (T k).2.1 (T k).2.2.1 = some x → s.fieldFound? ref (T k).2.1 (T k).2.2.1 = some x)
    (hfin : (T k).2.2.2 = false) {ty : FieldType} {v : Value} (hd : parseFieldDescriptor (T k).2.2.1 = some ty) (hn : narrow ty v = v) (hfit : fits ty v = true) (hl : k < fs.length) (hdg : decode cc pc = .ok (.putfield index, 3))
    (kk : ∀ (H1 : Heap) (locs1 : List Loc), y_P D cl (va_up g a (some (.inr (ci, fs.set k v)))) H1 → (∀ q e, va_up g a (some (.inr (ci, fs.set k v))) q = some e → A q) → va_S A H0 H1 locs1 → W p l e R s m args below meth c H1 locs1 cells slots Q (F0 m (pc + 3) ls rest)) : W p l e R s m args below meth c H locs cells slots Q (F0 m pc ls (v :: .ref a :: rest)) := by
  have hlt : ∀ q e, g q = some e → q < H.size := fun q e h => y_lt hP h
  obtain ⟨j, hj⟩ := y_idx (hlt a _ he) he
  refine va_put hexec hb hts hin ty0 hty hnm hown hK (y_toL hP H.size) (y_D hA H.size) hS j hj hc k hk hlink hsame hfin hd hn hfit hl hdg (fun H1 locs1 h1 _ h3 => ?_)
  refine kk H1 locs1 (y_ofSet hlt hj h1) (fun q e h => ?_) h3
  by_cases hq : q = a
  · rw [hq]; exact hA a _ he
  · rw [va_up_ne _ _ hq] at h; exact hA q e h
theorem y_new {c0 : Code} (hexec : p.tables.exec = Jvm.exec) (hb : c0.code = cc) {own C : String} {T : u_T} {N ci index : Nat} {Ts : List Cond} (hts : ∀ w ∈ Ts, w.before args s = true) (hin : ∀ w ∈ u_ws C T N, w ∈ Ts) (ty : Nat → FieldType) (hty : ∀ k, k < N → parseFieldDescriptor (T k).2.2.1 = some (ty k)) (hown : s.vm.findClass own = some m.cls) (hcl : (Cond.classLink own index C).before args s = true) (hinst : (Cond.instantiable C N).before args s = true) (hini : (Cond.initialized C).before args s = true)
    (hK : va_K D cl tys s) (hP : y_P D cl g H) (hA : ∀ q e, g q = some e → A q) (hS : va_S A H0 H locs) (hA0 : ∀ q, H0.size ≤ q → A q) (hc : cl[ci]? = some (C, T, N)) {fs : List Value} (hfs : ∀ j, j < N → defaultValue (ty j) = vp_V fs j) (hcells : cells + 1 ≤ R.cells) (hslots : slots + N ≤ R.slots) (hdg : decode cc pc = .ok (.new index, 3))
    (kk : ∀ (q : Nat) (H1 : Heap), g q = none → y_P D cl (va_up g q (some (.inr (ci, fs)))) H1 → (∀ z e, va_up g q (some (.inr (ci, fs))) z = some e → A z) → va_S A H0 H1 locs →
      W p l e R s m args below meth c0 H1 locs (cells + 1) (slots + N) Q (F0 m (pc + 3) ls (.ref q :: rest))) : W p l e R s m args below meth c0 H locs cells slots Q (F0 m pc ls rest) := by
  have hlt : ∀ q e, g q = some e → q < H.size := fun q e h => y_lt hP h
  refine va_new hexec hb hts hin ty hty hown hcl hinst hini hK (y_toL hP H.size) (y_D hA H.size) hS hA0 hc hfs hcells hslots hdg (fun q H1 h1 h2 h3 => ?_)
  have hlast : (y_L g H.size ++ [(q, (Sum.inr (ci, fs) : va_E))])[(y_L g H.size).length]? = some (q, .inr (ci, fs)) := by rw [List.getElem?_append_right (Nat.le_refl _), Nat.sub_self]; rfl
  have hq : g q = none := by
    cases hg : g q with
    | none => rfl
    | some e9 =>
      obtain ⟨j, hj⟩ := y_idx (hlt q e9 hg) hg
      have hjl := (List.getElem?_eq_some_iff.mp hj).1
      have := h2.1 j (y_L g H.size).length (q, e9) (q, .inr (ci, fs)) (by rw [List.getElem?_append_left hjl]; exact hj) hlast rfl
      omega
  refine kk q H1 hq (y_ofPush hlt h1) (fun z e h => ?_) h3
  by_cases hz : z = q
  · rw [hz]; exact h2.2 _ _ hlast
  · rw [va_up_ne _ _ hz] at h; exact hA z e h
theorem y_aldq (hexec : p.tables.exec = Jvm.exec) (hb : c.code = cc) (hK : va_K D cl tys s) (hP : y_P D cl g H) (t0 : Nat) {cA : ClassId} {C : String} {n : Nat} {f : Nat → Option Nat} (ha : g a = some (.inl (cA, n, .inr (.inr (.inr (.inr f)))))) (ht : tys[t0]? = some (cA, .object C)) {i : Int32} (hin : vp_in i n) (hdg : decode cc pc = .ok (.aaload, 1))
    (kk : W p l e R s m args below meth c H locs cells slots Q (F0 m (pc + 1) ls (va_rf (f i.toNatClampNeg) :: rest))) : W p l e R s m args below meth c H locs cells slots Q (F0 m pc ls (.int i :: .ref a :: rest)) :=
  va_aldq hexec hb hK (y_one hP ha) 0 t0 rfl ht hin hdg kk
theorem y_astN (hexec : p.tables.exec = Jvm.exec) (hb : c.code = cc) (hK : va_K D cl tys s) (hP : y_P D cl g H) (hA : ∀ q e, g q = some e → A q) (hS : va_S A H0 H locs) (t0 : Nat) {cA : ClassId} {C : String} {n : Nat} {f : Nat → Option Nat} (ha : g a = some (.inl (cA, n, .inr (.inr (.inr (.inr f)))))) (ht : tys[t0]? = some (cA, .object C)) {i : Int32} (hin : vp_in i n) (hdg : decode cc pc = .ok (.aastore, 1))
    (kk : ∀ (H1 : Heap) (locs1 : List Loc), y_P D cl (va_up g a (some (.inl (cA, n, .inr (.inr (.inr (.inr (va_up f i.toNatClampNeg none)))))))) H1 → (∀ q e, va_up g a (some (.inl (cA, n, .inr (.inr (.inr (.inr (va_up f i.toNatClampNeg none))))))) q = some e → A q) → va_S A H0 H1 locs1 → W p l e R s m args below meth c H1 locs1 cells slots Q (F0 m (pc + 1) ls rest)) :
    W p l e R s m args below meth c H locs cells slots Q (F0 m pc ls (.null :: .int i :: .ref a :: rest)) := by
  have hlt : ∀ q e, g q = some e → q < H.size := fun q e h => y_lt hP h
  obtain ⟨j, hj⟩ := y_idx (hlt a _ ha) ha
  refine va_astqN hexec hb hK (y_toL hP H.size) (y_D hA H.size) hS j t0 hj ht hin hdg (fun H1 locs1 h1 _ h3 => ?_)
  refine kk H1 locs1 (y_ofSet hlt hj h1) (fun q e h => ?_) h3
  by_cases hq : q = a
  · rw [hq]; exact hA a _ ha
  · rw [va_up_ne _ _ hq] at h; exact hA q e h
/-- a store of an object of a class that the array's class takes -/
theorem y_astO (hexec : p.tables.exec = Jvm.exec) (hb : c.code = cc) (hK : va_K D cl tys s) (hP : y_P D cl g H) (hA : ∀ q e, g q = some e → A q) (hS : va_S A H0 H locs) (t0 ci : Nat) {E : String} {cA : ClassId} {r : vw_C} {n v : Nat} {vs : List Value} {f : Nat → Option Nat} (ha : g a = some (.inl (cA, n, .inr (.inr (.inr (.inr f)))))) (ht : tys[t0]? = some (cA, .object E)) (hca : va_Nw (.castable r.1 E) s) (hv : g v = some (.inr (ci, vs))) (hc : cl[ci]? = some r) {i : Int32} (hin : vp_in i n) (hdg : decode cc pc = .ok (.aastore, 1))
    (kk : ∀ (H1 : Heap) (locs1 : List Loc), y_P D cl (va_up g a (some (.inl (cA, n, .inr (.inr (.inr (.inr (va_up f i.toNatClampNeg (some v))))))))) H1 → (∀ q e, va_up g a (some (.inl (cA, n, .inr (.inr (.inr (.inr (va_up f i.toNatClampNeg (some v)))))))) q = some e → A q) → va_S A H0 H1 locs1 → W p l e R s m args below meth c H1 locs1 cells slots Q (F0 m (pc + 1) ls rest)) :
    W p l e R s m args below meth c H locs cells slots Q (F0 m pc ls (.ref v :: .int i :: .ref a :: rest)) := by
  have hlt : ∀ q e, g q = some e → q < H.size := fun q e h => y_lt hP h
  obtain ⟨j, hj⟩ := y_idx (hlt a _ ha) ha
  obtain ⟨k, hk⟩ := y_idx (hlt v _ hv) hv
  refine va_astqO hexec hb hK (y_toL hP H.size) (y_D hA H.size) hS j t0 k ci hj ht hca hk hc hin hdg (fun H1 locs1 h1 _ h3 => ?_)
  refine kk H1 locs1 (y_ofSet hlt hj h1) (fun q e h => ?_) h3
  by_cases hq : q = a
  · rw [hq]; exact hA a _ ha
  · rw [va_up_ne _ _ hq] at h; exact hA q e h
end YRows
end
section
/-! The memory as a mathematical value, to which the class and the reference are both tied. -/
section AAbs
/-- a kind: (-1, words, mask) plain; (elements, 0, 0) a row -/
abbrev Kd : Type := Option (Int32 × Int32 × Int32)
abbrev Ab : Type := (Nat → Kd) × Nat × (Nat → Nat) × (Nat → Int32) × (Nat → Nat) × Nat × Nat × (Nat → Int32 → Int64) × (Nat → Nat) × (Nat → Prop) × Nat
/-- kinds; how many objects; an object's kind, size, number; how many numbers; memory; contents; slots; kept; how many keeps -/
abbrev Ab.kd (a : Ab) : Nat → Kd := a.1
abbrev Ab.n (a : Ab) : Nat := a.2.1
abbrev Ab.ok (a : Ab) : Nat → Nat := a.2.2.1
abbrev Ab.sz (a : Ab) : Nat → Int32 := a.2.2.2.1
abbrev Ab.nu (a : Ab) : Nat → Nat := a.2.2.2.2.1
abbrev Ab.nn (a : Ab) : Nat := a.2.2.2.2.2.1
abbrev Ab.mem (a : Ab) : Nat := a.2.2.2.2.2.2.1
abbrev Ab.ct (a : Ab) : Nat → Int32 → Int64 := a.2.2.2.2.2.2.2.1
abbrev Ab.sl (a : Ab) : Nat → Nat := a.2.2.2.2.2.2.2.2.1
abbrev Ab.kp (a : Ab) : Nat → Prop := a.2.2.2.2.2.2.2.2.2.1
abbrev Ab.kc (a : Ab) : Nat := a.2.2.2.2.2.2.2.2.2.2
def a_row (a : Ab) (o : Nat) : Int32 := match a.kd (a.ok o) with
  | some q => q.1
  | none => 0
/-- how many words or elements -/
def a_len (a : Ab) (o : Nat) : Int32 := match a.kd (a.ok o) with
  | some q => if q.1 < 0 then q.2.1 else a.sz o
  | none => 0
def a_refK (q : Int32 × Int32 × Int32) (k : Int32) : Prop := if q.1 < 0 then (q.2.2 >>> (k &&& 31)) &&& 1 = 1 else q.1 = 0
def a_ref (a : Ab) (o : Nat) (k : Int32) : Prop := ∃ q, a.kd (a.ok o) = some q ∧ a_refK q k
def a_tk (r : Int32) (n : Nat) : Nat := if r < 0 then 3 + n else 4 + (if r = 4 then 2 * n else if r = 2 then (n + 1) / 2 else if r = 1 then (n + 3) / 4 else n)
def a_wd (a : Ab) (o : Nat) : Nat := a_tk (a_row a o) (a_len a o).toNatClampNeg
def a_root (a : Ab) (r : Nat) : Prop := (∃ s, s < 32 ∧ a.sl s = r ∧ r ≠ 0) ∨ a.kp r
def a_ed (a : Ab) (x b : Nat) : Prop := 1 ≤ x ∧ x ≤ a.n ∧ 1 ≤ b ∧ b ≤ a.n ∧ ∃ k : Int32, a_ref a x k ∧ a.ct x k = lN b
def a_R (a : Ab) (o : Nat) : Prop := z_R (a_root a) (a_ed a) o
/-- how many words all that can be come to takes -/
noncomputable def a_use (a : Ab) : Nat := z_sum (a_wd a) (a_R a) a.n
def a_kin (q : Int32 × Int32 × Int32) : Prop := (q.1 = -1 ∧ ∃ w m : Nat, w ≤ 16 ∧ m < 2 ^ w ∧ q.2.1 = nI w ∧ q.2.2 = nI m) ∨ (∃ r : Nat, r ≤ 4 ∧ q.1 = nI r ∧ q.2.1 = 0 ∧ q.2.2 = 0)
/-- what holds of every such value that calls have made; c: how many calls -/
def a_W (a : Ab) (c : Nat) : Prop :=
  (∀ k q, k < 16 → a.kd k = some q → a_kin q) ∧ (∀ o, 1 ≤ o → o ≤ a.n → a.ok o < 16 ∧ ∃ q, a.kd (a.ok o) = some q ∧ (¬ q.1 < 0 → ¬ a.sz o < 0)) ∧
  (∀ s, s < 32 → a.sl s ≤ a.n) ∧ (∀ o, a.kp o → 1 ≤ o ∧ o ≤ a.n) ∧ (∀ o k, 1 ≤ o → o ≤ a.n → a_ref a o k → ∃ b, b ≤ a.n ∧ a.ct o k = lN b) ∧
  (∀ o, a.n < o → a.nu o = 0 ∧ ∀ k, a.ct o k = 0) ∧ (∀ o, a.nu o ≤ a.nn) ∧ 16 ≤ a.mem ∧ a.mem ≤ 65536 ∧ a.n ≤ c ∧ a.nn ≤ c ∧ a.kc ≤ c
theorem a_R.in {a : Ab} {c o : Nat} (hw : a_W a c) (h : a_R a o) : 1 ≤ o ∧ o ≤ a.n := by
  refine h (fun o => 1 ≤ o ∧ o ≤ a.n) (fun r hr => ?_) (fun x b _ hb => ?_)
  · rcases hr with ⟨s, h1, h2, h3⟩ | hk
    · have := hw.2.2.1 s h1
      omega
    · exact hw.2.2.2.1 r hk
  · exact ⟨hb.2.2.1, hb.2.2.2.1⟩
end AAbs
end
section
/-! The class's contracts: one world g (a map), the tables' words, what is read of the statics. -/
section WFrame
/-- a method's end: what it answered, or the class of what it threw -/
def x_Is (r : Option Value ⊕ String) (o : Outcome) (t : State) : Prop := match r with
  | .inl v => o = .returned v
  | .inr E => ∃ (q : Addr) (ce : Cell), o = .threw q ∧ t.heap[q]? = some ce ∧ ce.vm = .none ∧ t.vm.findClass E = some ce.cls
/-- words of the tables that no warming takes away, but by rows of their own -/
def x_spc : List Cond := lw_tbl.filter (fun w => match w with | .declares _ | .castable _ _ | .methodLinkNest _ _ _ _ => true | _ => false)
/-- the class's String constants -/
def x_strs : List (Nat × String) := [(156, "the kind is not 0..15"), (158, "the kind is defined already"), (32, "words is not 0..16"), (37, "the mask names words that there are not"), (44, "elements is not 0..4"), (154, "the slot is not 0..31"), (63, "n is below 0"), (67, "the kind is not defined"), (175, "there is no room"), (160, "the slot holds none"), (164, "there is no such word or element"), (172, "a reference is no value, nor a value a reference"), (143, "words is not 16..65536")]
/-- classes that don't fit where a handler asks -/
def x_nos : List (String × String) := [("java/lang/IllegalArgumentException", "java/lang/IllegalStateException"), ("java/lang/IllegalArgumentException", "java/lang/IndexOutOfBoundsException"), ("java/lang/IllegalArgumentException", "java/lang/UnsupportedOperationException"), ("java/lang/IllegalStateException", "java/lang/IllegalArgumentException"), ("java/lang/IllegalStateException", "java/lang/IndexOutOfBoundsException"), ("java/lang/IllegalStateException", "java/lang/UnsupportedOperationException"), ("java/lang/IndexOutOfBoundsException", "java/lang/IllegalArgumentException"), ("java/lang/IndexOutOfBoundsException", "java/lang/IllegalStateException"), ("java/lang/IndexOutOfBoundsException", "java/lang/UnsupportedOperationException"), ("java/lang/UnsupportedOperationException", "java/lang/IllegalArgumentException"), ("java/lang/UnsupportedOperationException", "java/lang/IllegalStateException"), ("java/lang/UnsupportedOperationException", "java/lang/IndexOutOfBoundsException")]
/-- what every method may lean on of the tables -/
def w_V (D : va_G) (tys : List (ClassId × FieldType)) (U : State) : Prop :=
  (∀ w ∈ x_tbl, w.before #[] U = true) ∧ va_K D vwCl tys U ∧ (∀ w ∈ x_spc, va_Nw w U) ∧ (∀ q ∈ x_strs, ∃ sa : Nat, vk_R R_De q.1 q.2 sa U) ∧ (∀ q ∈ x_nos, va_Nc q.1 q.2 U) ∧ va_AO "MemoryDesk$Kind" U ∧ va_AO "MemoryDesk$Item" U
theorem w_V.hts {D : va_G} {tys : List (ClassId × FieldType)} {U : State} (h : w_V D tys U) (args : Array Value) : ∀ w ∈ x_tbl, w.before args U = true :=
  fun w hw => word_at (State.WarmedH.refl U) (tbl_good w hw) (h.1 w hw)
theorem w_V.to {D : va_G} {tys : List (ClassId × FieldType)} {s U : State} (h : w_V D tys s) (hW : s.WarmedH U.vm) : w_V D tys U := by
  obtain ⟨h1, h2, h3, h4, h5, h6, h7⟩ := h
  refine ⟨fun w hw => word_at hW (tbl_good w hw) (h1 w hw), va_K.moved hW.alike h2, fun w hw => ?_, fun q hq => ?_, fun q hq => va_Nc.moved hW.alike (h5 q hq), va_AO.moved hW.alike h6, va_AO.moved hW.alike h7⟩
  · have hm := (List.mem_filter.mp hw).2
    have h0 := h3 w hw
    cases w with
    | declares x => exact va_Nw.warmD hW h0
    | castable a b => exact va_Nw.warmC hW h0
    | methodLinkNest a i x b => exact va_Nw.warmM hW h0
    | _ => cases hm
  · obtain ⟨sa, hq⟩ := h4 q hq
    exact ⟨sa, vk_R.warm hW hq⟩
/-- .. and of the statics, which lie outside A -/
def w_E (D : va_G) (tys : List (ClassId × FieldType)) (A : Nat → Prop) (U : State) (H : Heap) : Prop :=
  w_V D tys U ∧ x_St Bundle.tN "UNASSIGNED_STACK" Bundle.steD A U H ∧ x_St Bundle.tN "SUPPRESSED_SENTINEL" Bundle.listD A U H ∧
    ∃ t : Nat, va_Z R_De "ELEMENT_BITS" "[I" (.ref t) A U H ∧ va_T .int t 5 (fun j => .int ([32, 8, 16, 32, 64].getD j 0)) A U H
theorem w_E.hts {D : va_G} {tys : List (ClassId × FieldType)} {A : Nat → Prop} {U : State} {H : Heap} (h : w_E D tys A U H) (args : Array Value) : ∀ w ∈ x_tbl, w.before args U = true := h.1.hts args
theorem w_E.to {D : va_G} {tys : List (ClassId × FieldType)} {A B : Nat → Prop} {s U : State} {H0 H : Heap} {locs : List Loc} (h : w_E D tys A s H0) (hS : va_S A H0 H locs) (hB : ∀ q, B q → A q) (hW : s.WarmedH U.vm) : w_E D tys B U H := by
  obtain ⟨h1, h2, h3, t, h5, h6⟩ := h
  exact ⟨h1.to hW, h2.to hW.alike hS.2.1 hB, h3.to hW.alike hS.2.1 hB, t, ((h5.kept hS.2.1).narrow hB).moved hW.alike, ((h6.kept hS.2.1).narrow hB).moved hW.alike⟩
def w_Pc (D : va_G) (tys : List (ClassId × FieldType)) (av : List Value) (g : y_G) (sz : Nat) : Array Value → State → Prop := va_Pc av (fun U => U.heap.size = sz ∧ y_P D vwCl g U.heap ∧ w_E D tys (y_A g sz) U U.heap)
def w_Qc (D : va_G) (g : y_G) (sz : Nat) (post : Option Value ⊕ String → y_G → Prop) : Array Value → State → Outcome → State → Prop := fun _ st o t =>
  (∃ (r : Option Value ⊕ String) (g' : y_G), x_Is r o t ∧ post r g' ∧ y_P D vwCl g' t.heap ∧ ∀ q e, g' q = some e → y_A g sz q) ∧ va_F (y_A g sz) st t
theorem w_blind {D : va_G} {tys : List (ClassId × FieldType)} {av : List Value} {g : y_G} {sz : Nat} : FrameBlind (w_Pc D tys av g sz) := by
  intro a U gj mk h
  obtain ⟨h0, h1, h2, h3⟩ := h
  refine ⟨h0, h1, h2, ?_⟩
  have hW : U.WarmedH (U.calling gj mk a).vm := State.WarmedH.refl U
  exact h3.to (H := (U.calling gj mk a).heap) (locs := []) va_S.rf (fun _ h => h) hW
theorem y_AA {A : Nat → Prop} {g : y_G} {H0 H : Heap} {locs : List Loc} (hA : ∀ q e, g q = some e → A q) (hA0 : ∀ q, H0.size ≤ q → A q) (hS : va_S A H0 H locs) : ∀ q, y_A g H.size q → A q := fun q h => by
  rcases h with h | h
  · cases hg : g q with
    | none => exact absurd hg h
    | some e => exact hA q e hg
  · exact hA0 q (Nat.le_trans hS.1 h)
variable {p : Program} {l : Launch} {e : Env} {R : Room} {s : State} {m : MethodId} {args : Array Value} {below : List Frame} {meth : Method} {c : Code} {H : Heap} {locs : List Loc} {cells slots : Nat} {Q : State → Prop}
variable {y : MethodName} {ws : List Cond} {rm : Room} {mc ms maxL index n nL pc : Nat} {own : String} {cc : ByteArray} {ls : Array Slot} {As rest st0 : List Value} {A : Nat → Prop} {D : va_G} {tys : List (ClassId × FieldType)} {g : y_G} {post : Option Value ⊕ String → y_G → Prop}
theorem w_callS (S : CallFix p m c cc nL s args x_tbl own) (hM : x_M l y ws rm (w_Pc D tys As g H.size) (w_Qc D g H.size post) mc ms (y_A g H.size)) (cb : x_CB R s args own index y maxL ws rm mc ms n) (hst : (Cond.static y).before args s = true)
    (hE : w_E D tys A s s.heap) (hP : y_P D vwCl g H) (hA : ∀ q e, g q = some e → A q) (hA0 : ∀ q, s.heap.size ≤ q → A q) (hS : va_S A s.heap H locs)
    (hn : As.length = n) (hsize : ls.size = nL) (hstack : st0 = As.reverse ++ rest) (hW : 2 * (F0 m pc ls rest).monitorRoom + (rest.map fun v => v.category).sum ≤ 8) (hdg : decode cc pc = .ok (.invokestatic index, 3)) (hc : cells + mc ≤ R.cells) (hs : slots + ms ≤ R.slots)
    (kr : ∀ (v : Option Value) (g' : y_G) (H1 : Heap) (locs1 : List Loc), post (.inl v) g' → y_P D vwCl g' H1 → (∀ q e, g' q = some e → A q) → va_S A s.heap H1 locs1 → W p l e R s m args below meth c H1 locs1 (cells + mc) (slots + ms) Q (F0 m (pc + 3) ls (v.toList ++ rest)))
    (kt : ∀ (E : String) (q : Addr) (ce : Cell) (g' : y_G) (H1 : Heap) (locs1 : List Loc), post (.inr E) g' → y_P D vwCl g' H1 → (∀ q e, g' q = some e → A q) → va_S A s.heap H1 locs1 → H1[q]? = some ce → ce.vm = .none → s.vm.findClass E = some ce.cls → x_W p l e R s m args below meth c H1 locs1 (cells + mc) (slots + ms) Q (F0 m pc ls rest) q) :
    W p l e R s m args below meth c H locs cells slots Q (F0 m pc ls st0) := by
  have hAA := y_AA hA hA0 hS
  refine x_callS (A1 := y_A g H.size) S hM cb hst ⟨w_blind, fun U hU hWm => ⟨rfl, by rw [hU], by rw [hU]; exact hP, by rw [hU]; exact hE.to hS hAA hWm⟩⟩ hn hsize hstack hW hdg hc hs hS (fun q _ h => hAA q h) hAA (fun _ _ _ h => h.2) ?_ ?_
  · intro v st t H1 locs1 _ ht hal hq _ _ hS1
    obtain ⟨⟨r, g', h1, h2, h3, h4⟩, -⟩ := hq
    cases r with
    | inl v' => cases h1; exact kr v g' H1 locs1 h2 (by rw [← ht]; exact h3) (fun q e h => hAA q (h4 q e h)) hS1
    | inr E => obtain ⟨q, ce, z, -⟩ := h1; cases z
  · intro q st t H1 locs1 _ ht hal hq _ _ hS1
    obtain ⟨⟨r, g', h1, h2, h3, h4⟩, -⟩ := hq
    cases r with
    | inl v' => cases h1
    | inr E =>
      obtain ⟨q', ce, z, z1, z2, z3⟩ := h1
      cases z
      exact kt E q ce g' H1 locs1 h2 (by rw [← ht]; exact h3) (fun q e h => hAA q (h4 q e h)) hS1 (by rw [← ht]; exact z1) z2 (by rw [← hal.findClass]; exact z3)
theorem w_callV {C : String} {b : Addr} (S : CallFix p m c cc nL s args x_tbl own) (hM : x_M l y ws rm (w_Pc D tys (.ref b :: As) g H.size) (w_Qc D g H.size post) mc ms (y_A g H.size)) (cb : x_CB R s args own index y maxL ws rm mc ms n) (hin : (Cond.instanceMethod y).before args s = true) (hse : (Cond.selects C y y).before args s = true)
    (hrec : ∃ cellB : Cell, H[b]? = some cellB ∧ cellB.vm.isStatics = false ∧ s.vm.findClass C = some cellB.cls)
    (hE : w_E D tys A s s.heap) (hP : y_P D vwCl g H) (hA : ∀ q e, g q = some e → A q) (hA0 : ∀ q, s.heap.size ≤ q → A q) (hS : va_S A s.heap H locs)
    (hn : As.length = n) (hsize : ls.size = nL) (hstack : st0 = As.reverse ++ .ref b :: rest) (hW : 2 * (F0 m pc ls rest).monitorRoom + (rest.map fun v => v.category).sum ≤ 8) (hdg : decode cc pc = .ok (.invokevirtual index, 3)) (hc : cells + mc ≤ R.cells) (hs : slots + ms ≤ R.slots)
    (kr : ∀ (v : Option Value) (g' : y_G) (H1 : Heap) (locs1 : List Loc), post (.inl v) g' → y_P D vwCl g' H1 → (∀ q e, g' q = some e → A q) → va_S A s.heap H1 locs1 → W p l e R s m args below meth c H1 locs1 (cells + mc) (slots + ms) Q (F0 m (pc + 3) ls (v.toList ++ rest)))
    (kt : ∀ (E : String) (q : Addr) (ce : Cell) (g' : y_G) (H1 : Heap) (locs1 : List Loc), post (.inr E) g' → y_P D vwCl g' H1 → (∀ q e, g' q = some e → A q) → va_S A s.heap H1 locs1 → H1[q]? = some ce → ce.vm = .none → s.vm.findClass E = some ce.cls → x_W p l e R s m args below meth c H1 locs1 (cells + mc) (slots + ms) Q (F0 m pc ls rest) q) :
    W p l e R s m args below meth c H locs cells slots Q (F0 m pc ls st0) := by
  have hAA := y_AA hA hA0 hS
  refine x_callV (A1 := y_A g H.size) (C := C) (b := b) S hM cb hin hse ⟨w_blind, hrec, fun U hU hWm => ⟨rfl, by rw [hU], by rw [hU]; exact hP, by rw [hU]; exact hE.to hS hAA hWm⟩⟩ hn hsize hstack hW hdg hc hs hS (fun q _ h => hAA q h) hAA (fun _ _ _ h => h.2) ?_ ?_
  · intro v st t H1 locs1 _ ht hal hq _ _ hS1
    obtain ⟨⟨r, g', h1, h2, h3, h4⟩, -⟩ := hq
    cases r with
    | inl v' => cases h1; exact kr v g' H1 locs1 h2 (by rw [← ht]; exact h3) (fun q e h => hAA q (h4 q e h)) hS1
    | inr E => obtain ⟨q, ce, z, -⟩ := h1; cases z
  · intro q st t H1 locs1 _ ht hal hq _ _ hS1
    obtain ⟨⟨r, g', h1, h2, h3, h4⟩, -⟩ := hq
    cases r with
    | inl v' => cases h1
    | inr E =>
      obtain ⟨q', ce, z, z1, z2, z3⟩ := h1
      cases z
      exact kt E q ce g' H1 locs1 h2 (by rw [← ht]; exact h3) (fun q e h => hAA q (h4 q e h)) hS1 (by rw [← ht]; exact z1) z2 (by rw [← hal.findClass]; exact z3)
/-- the end of a walk: a return, the world as it stands -/
theorem w_fin {A : Nat → Prop} {r : Option Value} {g g' : y_G} {sz : Nat} (hsz : sz = s.heap.size) (hAe : y_A g sz = A) (hpost : post (.inl r) g') (hP : y_P D vwCl g' H) (hA : ∀ q e, g' q = some e → A q) (hS : va_S A s.heap H locs) :
    ∀ t : State, t.heap = H → s.WarmedH t.vm → w_Qc D g sz post args s (.returned r) t := fun t ht _ => by
  subst hAe
  exact ⟨⟨.inl r, g', rfl, hpost, by rw [ht]; exact hP, hA⟩, hS.F ht⟩
end WFrame
end
