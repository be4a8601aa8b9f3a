/-! the checks: methods that throw -/
section WChk
abbrev xIAE : String := "java/lang/IllegalArgumentException"
abbrev xISE : String := "java/lang/IllegalStateException"
abbrev xIOO : String := "java/lang/IndexOutOfBoundsException"
abbrev xUOE : String := "java/lang/UnsupportedOperationException"
theorem x_gi {ws : List Cond} (h : ∀ w ∈ ws, w ∈ x_tbl) : GoodIn x_tbl ws := fun w hw => ⟨h w hw, tbl_good w (h w hw)⟩
theorem w_V.at {D : va_G} {tys : List (ClassId × FieldType)} {U : State} (h : w_V D tys U) (args : Array Value) {w : Cond} (ho : w.onTables = true) (hw : w ∈ x_tbl ∨ w ∈ x_spc) : w.before args U = true :=
  hw.elim (h.hts args w) (fun z => va_Nw.use ho (h.2.2.1 w z))
set_option maxRecDepth 100000 in
theorem at_IAE : ∀ w ∈ Bundle.ownAtoms R_De 34 "java/lang/IllegalArgumentException" ["java/lang/RuntimeException", "java/lang/Exception"], w.onTables = true → w ∈ x_tbl ∨ w ∈ x_spc := by decide +kernel
set_option maxRecDepth 100000 in
theorem nt_IAE : ∀ w ∈ Bundle.ownAtoms R_De 34 "java/lang/IllegalArgumentException" ["java/lang/RuntimeException", "java/lang/Exception"], w.onTables = true ∨ w = .isRef (.static Bundle.tN "UNASSIGNED_STACK" Bundle.steD) ∨ w = .isRef (.static Bundle.tN "SUPPRESSED_SENTINEL" Bundle.listD) ∨ w = .laysStatic Bundle.tN "UNASSIGNED_STACK" Bundle.steD ∨ w = .laysStatic Bundle.tN "SUPPRESSED_SENTINEL" Bundle.listD := by decide +kernel
set_option maxRecDepth 100000 in
theorem at_ISE : ∀ w ∈ Bundle.ownAtoms R_De 69 "java/lang/IllegalStateException" ["java/lang/RuntimeException", "java/lang/Exception"], w.onTables = true → w ∈ x_tbl ∨ w ∈ x_spc := by decide +kernel
set_option maxRecDepth 100000 in
theorem nt_ISE : ∀ w ∈ Bundle.ownAtoms R_De 69 "java/lang/IllegalStateException" ["java/lang/RuntimeException", "java/lang/Exception"], w.onTables = true ∨ w = .isRef (.static Bundle.tN "UNASSIGNED_STACK" Bundle.steD) ∨ w = .isRef (.static Bundle.tN "SUPPRESSED_SENTINEL" Bundle.listD) ∨ w = .laysStatic Bundle.tN "UNASSIGNED_STACK" Bundle.steD ∨ w = .laysStatic Bundle.tN "SUPPRESSED_SENTINEL" Bundle.listD := by decide +kernel
set_option maxRecDepth 100000 in
theorem at_IOO : ∀ w ∈ Bundle.ownAtoms R_De 166 "java/lang/IndexOutOfBoundsException" ["java/lang/RuntimeException", "java/lang/Exception"], w.onTables = true → w ∈ x_tbl ∨ w ∈ x_spc := by decide +kernel
set_option maxRecDepth 100000 in
theorem nt_IOO : ∀ w ∈ Bundle.ownAtoms R_De 166 "java/lang/IndexOutOfBoundsException" ["java/lang/RuntimeException", "java/lang/Exception"], w.onTables = true ∨ w = .isRef (.static Bundle.tN "UNASSIGNED_STACK" Bundle.steD) ∨ w = .isRef (.static Bundle.tN "SUPPRESSED_SENTINEL" Bundle.listD) ∨ w = .laysStatic Bundle.tN "UNASSIGNED_STACK" Bundle.steD ∨ w = .laysStatic Bundle.tN "SUPPRESSED_SENTINEL" Bundle.listD := by decide +kernel
set_option maxRecDepth 100000 in
theorem at_UOE : ∀ w ∈ Bundle.ownAtoms R_De 174 "java/lang/UnsupportedOperationException" ["java/lang/RuntimeException", "java/lang/Exception"], w.onTables = true → w ∈ x_tbl ∨ w ∈ x_spc := by decide +kernel
set_option maxRecDepth 100000 in
theorem nt_UOE : ∀ w ∈ Bundle.ownAtoms R_De 174 "java/lang/UnsupportedOperationException" ["java/lang/RuntimeException", "java/lang/Exception"], w.onTables = true ∨ w = .isRef (.static Bundle.tN "UNASSIGNED_STACK" Bundle.steD) ∨ w = .isRef (.static Bundle.tN "SUPPRESSED_SENTINEL" Bundle.listD) ∨ w = .laysStatic Bundle.tN "UNASSIGNED_STACK" Bundle.steD ∨ w = .laysStatic Bundle.tN "SUPPRESSED_SENTINEL" Bundle.listD := by decide +kernel
variable {s : State} {args : Array Value} {H : Heap} {locs : List Loc} {D : va_G} {post : Option Value ⊕ String → y_G → Prop}
/-- the end by a throw, of what was just made -/
theorem w_thr {A : Nat → Prop} {E : String} {g g' : y_G} {sz : Nat} (hsz : sz = s.heap.size) (hAe : y_A g sz = A) (hpost : post (.inr E) g') (hP : y_P D vwCl g' H) (hA : ∀ q e, g' q = some e → A q) (hS : va_S A s.heap H locs) :
    ∀ (t : State) (q : Addr) (ce : Cell), s.WarmedH t.vm → H.size ≤ t.heap.size → (∀ a : Nat, a < H.size → t.heap[a]? = H[a]?) → t.heap[q]? = some ce → ce.vm = .none → s.vm.findClass E = some ce.cls → w_Qc D g sz post args s (.threw q) t := by
  intro t q ce h1 h2 h3 h4 h5 h6
  subst hAe
  exact ⟨⟨.inr E, g', ⟨q, ce, rfl, h4, h5, by rw [h1.alike.findClass]; exact h6⟩, hpost, hP.kept (fun a e he => h3 a (y_lt hP he)), hA⟩,
    Nat.le_trans hS.1 h2, fun a ha hn => (h3 a (Nat.lt_of_lt_of_le ha hS.1)).trans (hS.2.1 a ha hn)⟩
/-- .. of what a callee threw -/
theorem w_lea {A : Nat → Prop} {E : String} {g g' : y_G} {sz : Nat} {q : Addr} {ce : Cell} (hsz : sz = s.heap.size) (hAe : y_A g sz = A) (hpost : post (.inr E) g') (hP : y_P D vwCl g' H) (hA : ∀ q e, g' q = some e → A q) (hS : va_S A s.heap H locs) (h4 : H[q]? = some ce) (h5 : ce.vm = .none) (h6 : s.vm.findClass E = some ce.cls) :
    ∀ t : State, t.heap = H → s.WarmedH t.vm → w_Qc D g sz post args s (.threw q) t := by
  intro t ht h1
  subst hAe
  exact ⟨⟨.inr E, g', ⟨q, ce, rfl, by rw [ht]; exact h4, h5, by rw [h1.alike.findClass]; exact h6⟩, hpost, by rw [ht]; exact hP, hA⟩, hS.F ht⟩
abbrev rmT : Room := { frames := 6, cells := 1, slots := 6, locals := 100 }
/-- 0..n-1 -/
def b_in (x : Int32) (n : Int32) : Prop := ¬ x < 0 ∧ x < n
end WChk
set_option maxHeartbeats 4000000 in
set_option maxRecDepth 100000 in
/-- a slot is 0..31 -/
theorem c_De_checkSlot (l : Launch) (hst : l.stackTraces = false) (D : va_G) (tys : List (ClassId × FieldType)) (g : y_G) (sz : Nat) (sv : Int32) : x_M l y_De_checkSlot [.code y_De_checkSlot b_De_checkSlot 1 none] rmT (w_Pc D tys [.int sv] g sz) (w_Qc D g sz (fun r g9 => g9 = g ∧ ((r = .inl none ∧ b_in sv 32) ∨ (r = .inr xIAE ∧ ¬ b_in sv 32)))) 1 6 (y_A g sz) := by
  refine x_ofW (cc := b_De_checkSlot) (maxL := 1) (ret := none) (by decide) rfl ?_
  intro p e s m args below meth c s₁ B hml hno hv
  obtain ⟨rfl, hsz, hP, hE⟩ := hv
  subst hsz
  have hts := hE.hts ([.int sv] : List Value).toArray
  have hK := hE.1.2.1
  have hA0 : ∀ q, s.heap.size ≤ q → y_A g s.heap.size q := fun q h => Or.inr h
  have hA : ∀ q e, g q = some e → y_A g s.heap.size q := fun q e h => Or.inl (by rw [h]; exact fun z => nomatch z)
  have hS : va_S (y_A g s.heap.size) s.heap s.heap [] := va_S.rf
  generalize hAe : y_A g s.heap.size = A at hE hA0 hA hS ⊢
  have hx := B.exec
  have hb := B.bytes
  have hr := B.returns
  have hlocks := B.notSynchronized
  have hown : s.vm.findClass R_De = some m.cls := findClass_of_methodNamed B.named
  have hl := lv_entry ([.int sv]) (n := 1) (Nat.le_of_ble_eq_true rfl)
  rw [lg_entry_eq]
  generalize (lg_sl ([.int sv]) ++ List.replicate (1 - (lg_sl ([.int sv])).length) Slot.unset).toArray = ls at hl ⊢
  have hl : lv_has ls 1 [(0, .int sv)] := hl
  refine lv_iload_n hx hb d_De_checkSlot_0 rfl (lv_at hl 0 rfl) ?_
  refine lv_if_lt hx hb d_De_checkSlot_1 rfl (fun h1 => ?_) (fun h1 => ?_)
  · -- iflt at 1: to 10
    obtain ⟨sa, hstr⟩ := hE.1.2.2.2.1 (154, "the slot is not 0..31") (by decide)
    refine W.widen (k := 1 - 1) (n := 6 - 6) (by first | decide | omega) (by first | decide | omega) ?_
    exact x_throw (A := A) (cls := "java/lang/IllegalArgumentException") (names := ["java/lang/RuntimeException", "java/lang/Exception"]) hx hb hst hown (by decide) (by decide) (hts (.classLink R_De 30 "java/lang/IllegalArgumentException") (by decide +kernel)) (hts (.initialized "java/lang/IllegalArgumentException") (by decide +kernel)) hstr (fun w hw ho => hE.1.at _ ho (at_IAE w hw ho)) nt_IAE hE.2.1 hE.2.2.1 hS (hl.1.trans hml.symm) d_De_checkSlot_10 d_De_checkSlot_13 d_De_checkSlot_14 d_De_checkSlot_16 d_De_checkSlot_19 (hno 19) (by decide) (by decide) (by decide) (by decide) hlocks (w_thr rfl hAe ⟨rfl, Or.inr ⟨rfl, fun z => z.1 h1⟩⟩ hP hA hS) hS.2.2
  · -- iflt at 1: to 4
    refine lv_iload_n hx hb d_De_checkSlot_4 rfl (lv_at hl 0 rfl) ?_
    refine lv_bipush (v := 32) hx hb d_De_checkSlot_5 (by decide) ?_
    refine lv_icmp_lt hx hb d_De_checkSlot_7 rfl (fun h2 => ?_) (fun h2 => ?_)
    · -- if_icmplt at 7: to 20
      refine W.widen (k := 1) (n := 6) (by first | decide | omega) (by first | decide | omega) ?_
      exact x_ret (W.vret hx hb hr (w_fin rfl hAe ⟨rfl, Or.inl ⟨rfl, h1, h2⟩⟩ hP hA hS) hS.2.2 d_De_checkSlot_20)
    · -- if_icmplt at 7: to 10
      obtain ⟨sa, hstr⟩ := hE.1.2.2.2.1 (154, "the slot is not 0..31") (by decide)
      refine W.widen (k := 1 - 1) (n := 6 - 6) (by first | decide | omega) (by first | decide | omega) ?_
      exact x_throw (A := A) (cls := "java/lang/IllegalArgumentException") (names := ["java/lang/RuntimeException", "java/lang/Exception"]) hx hb hst hown (by decide) (by decide) (hts (.classLink R_De 30 "java/lang/IllegalArgumentException") (by decide +kernel)) (hts (.initialized "java/lang/IllegalArgumentException") (by decide +kernel)) hstr (fun w hw ho => hE.1.at _ ho (at_IAE w hw ho)) nt_IAE hE.2.1 hE.2.2.1 hS (hl.1.trans hml.symm) d_De_checkSlot_10 d_De_checkSlot_13 d_De_checkSlot_14 d_De_checkSlot_16 d_De_checkSlot_19 (hno 19) (by decide) (by decide) (by decide) (by decide) hlocks (w_thr rfl hAe ⟨rfl, Or.inr ⟨rfl, fun z => h2 z.2⟩⟩ hP hA hS) hS.2.2
set_option maxHeartbeats 4000000 in
set_option maxRecDepth 100000 in
/-- a kind is 0..15 -/
theorem c_De_checkKind (l : Launch) (hst : l.stackTraces = false) (D : va_G) (tys : List (ClassId × FieldType)) (g : y_G) (sz : Nat) (sv : Int32) : x_M l y_De_checkKind [.code y_De_checkKind b_De_checkKind 1 none] rmT (w_Pc D tys [.int sv] g sz) (w_Qc D g sz (fun r g9 => g9 = g ∧ ((r = .inl none ∧ b_in sv 16) ∨ (r = .inr xIAE ∧ ¬ b_in sv 16)))) 1 6 (y_A g sz) := by
  refine x_ofW (cc := b_De_checkKind) (maxL := 1) (ret := none) (by decide) rfl ?_
  intro p e s m args below meth c s₁ B hml hno hv
  obtain ⟨rfl, hsz, hP, hE⟩ := hv
  subst hsz
  have hts := hE.hts ([.int sv] : List Value).toArray
  have hK := hE.1.2.1
  have hA0 : ∀ q, s.heap.size ≤ q → y_A g s.heap.size q := fun q h => Or.inr h
  have hA : ∀ q e, g q = some e → y_A g s.heap.size q := fun q e h => Or.inl (by rw [h]; exact fun z => nomatch z)
  have hS : va_S (y_A g s.heap.size) s.heap s.heap [] := va_S.rf
  generalize hAe : y_A g s.heap.size = A at hE hA0 hA hS ⊢
  have hx := B.exec
  have hb := B.bytes
  have hr := B.returns
  have hlocks := B.notSynchronized
  have hown : s.vm.findClass R_De = some m.cls := findClass_of_methodNamed B.named
  have hl := lv_entry ([.int sv]) (n := 1) (Nat.le_of_ble_eq_true rfl)
  rw [lg_entry_eq]
  generalize (lg_sl ([.int sv]) ++ List.replicate (1 - (lg_sl ([.int sv])).length) Slot.unset).toArray = ls at hl ⊢
  have hl : lv_has ls 1 [(0, .int sv)] := hl
  refine lv_iload_n hx hb d_De_checkKind_0 rfl (lv_at hl 0 rfl) ?_
  refine lv_if_lt hx hb d_De_checkKind_1 rfl (fun h1 => ?_) (fun h1 => ?_)
  · -- iflt at 1: to 10
    obtain ⟨sa, hstr⟩ := hE.1.2.2.2.1 (156, "the kind is not 0..15") (by decide)
    refine W.widen (k := 1 - 1) (n := 6 - 6) (by first | decide | omega) (by first | decide | omega) ?_
    exact x_throw (A := A) (cls := "java/lang/IllegalArgumentException") (names := ["java/lang/RuntimeException", "java/lang/Exception"]) hx hb hst hown (by decide) (by decide) (hts (.classLink R_De 30 "java/lang/IllegalArgumentException") (by decide +kernel)) (hts (.initialized "java/lang/IllegalArgumentException") (by decide +kernel)) hstr (fun w hw ho => hE.1.at _ ho (at_IAE w hw ho)) nt_IAE hE.2.1 hE.2.2.1 hS (hl.1.trans hml.symm) d_De_checkKind_10 d_De_checkKind_13 d_De_checkKind_14 d_De_checkKind_16 d_De_checkKind_19 (hno 19) (by decide) (by decide) (by decide) (by decide) hlocks (w_thr rfl hAe ⟨rfl, Or.inr ⟨rfl, fun z => z.1 h1⟩⟩ hP hA hS) hS.2.2
  · -- iflt at 1: to 4
    refine lv_iload_n hx hb d_De_checkKind_4 rfl (lv_at hl 0 rfl) ?_
    refine lv_bipush (v := 16) hx hb d_De_checkKind_5 (by decide) ?_
    refine lv_icmp_lt hx hb d_De_checkKind_7 rfl (fun h2 => ?_) (fun h2 => ?_)
    · -- if_icmplt at 7: to 20
      refine W.widen (k := 1) (n := 6) (by first | decide | omega) (by first | decide | omega) ?_
      exact x_ret (W.vret hx hb hr (w_fin rfl hAe ⟨rfl, Or.inl ⟨rfl, h1, h2⟩⟩ hP hA hS) hS.2.2 d_De_checkKind_20)
    · -- if_icmplt at 7: to 10
      obtain ⟨sa, hstr⟩ := hE.1.2.2.2.1 (156, "the kind is not 0..15") (by decide)
      refine W.widen (k := 1 - 1) (n := 6 - 6) (by first | decide | omega) (by first | decide | omega) ?_
      exact x_throw (A := A) (cls := "java/lang/IllegalArgumentException") (names := ["java/lang/RuntimeException", "java/lang/Exception"]) hx hb hst hown (by decide) (by decide) (hts (.classLink R_De 30 "java/lang/IllegalArgumentException") (by decide +kernel)) (hts (.initialized "java/lang/IllegalArgumentException") (by decide +kernel)) hstr (fun w hw ho => hE.1.at _ ho (at_IAE w hw ho)) nt_IAE hE.2.1 hE.2.2.1 hS (hl.1.trans hml.symm) d_De_checkKind_10 d_De_checkKind_13 d_De_checkKind_14 d_De_checkKind_16 d_De_checkKind_19 (hno 19) (by decide) (by decide) (by decide) (by decide) hlocks (w_thr rfl hAe ⟨rfl, Or.inr ⟨rfl, fun z => h2 z.2⟩⟩ hP hA hS) hS.2.2
