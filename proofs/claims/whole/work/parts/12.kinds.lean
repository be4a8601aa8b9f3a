/-! what lies at an address; contracts of methods that only read -/
section EEnt
abbrev e_cell (k : Int32) (nx : Option Nat) (v : Int64) (nm : Option Nat) : va_E := .inr (0, [.int k, va_rf nx, .long v, va_rf nm])
abbrev e_item (kx : Nat) (len wd : Int32) (cs : Option Nat) (tg kp : Int32) (nk : Option Nat) (sn : Int32) (np : Option Nat) : va_E := .inr (1, [.ref kx, .int len, .int wd, va_rf cs, .int tg, .int kp, va_rf nk, .int sn, va_rf np])
abbrev e_plain (w m : Int32) : va_E := .inr (2, [.int w, .int m])
abbrev e_row (el bi : Int32) : va_E := .inr (3, [.int el, .int bi])
abbrev e_desk (ka sa : Nat) (lim mad kps tgs itv : Int32) (fk : Option Nat) (us wk : Int32) (pe : Option Nat) : va_E := .inr (4, [.ref ka, .ref sa, .int lim, .int mad, .int kps, .int tgs, .int itv, va_rf fk, .int us, .int wk, va_rf pe])
abbrev e_refs (cA : ClassId) (n : Nat) (f : Nat → Option Nat) : va_E := .inl (cA, n, .inr (.inr (.inr (.inr f))))
abbrev rmZ : Room := { frames := 0, cells := 0, slots := 0, locals := 0 }
def w_Pp (D : va_G) (tys : List (ClassId × FieldType)) (av : List Value) (g : y_G) : Array Value → State → Prop := va_Pc av (fun U => y_P D vwCl g U.heap ∧ w_V D tys U)
theorem w_Pp.blind {D : va_G} {tys : List (ClassId × FieldType)} {av : List Value} {g : y_G} : FrameBlind (w_Pp D tys av g) := fun a U gj mk h => ⟨h.1, h.2.1, h.2.2.to (State.WarmedH.refl U)⟩
end EEnt
set_option maxHeartbeats 4000000 in
set_option maxRecDepth 100000 in
/-- plain: n is not looked at -/
theorem c_Pk_allows (l : Launch) (D : va_G) (tys : List (ClassId × FieldType)) (g : y_G) (x : Nat) (n : Int32) : Met l y_Pk_allows [.code y_Pk_allows b_Pk_allows 2 (some .boolean)] rmZ (w_Pp D tys [.ref x, .int n] g) (vp_Si (fun r => r = 1)) 0 0 (fun _ => False) := by
  refine Met.ofW (cc := b_Pk_allows) (maxL := 2) (ret := (some .boolean)) (by decide) rfl ?_
  intro p e s m args below meth c s₁ B hml hv
  obtain ⟨rfl, hP, hV⟩ := hv
  have hts := hV.hts ([.ref x, .int n] : List Value).toArray
  have hK := hV.2.1
  have hx := B.exec
  have hb := B.bytes
  have hr := B.returns
  have hlocks := B.notSynchronized
  have hown : s.vm.findClass R_Pk = some m.cls := findClass_of_methodNamed B.named
  have hl := lv_entry ([.ref x, .int n]) (n := 2) (Nat.le_of_ble_eq_true rfl)
  rw [lg_entry_eq]
  generalize (lg_sl ([.ref x, .int n]) ++ List.replicate (2 - (lg_sl ([.ref x, .int n])).length) Slot.unset).toArray = ls at hl ⊢
  have hl : lv_has ls 2 [(0, .ref x), (1, .int n)] := hl
  refine lv_iconst (v := 1) hx hb d_Pk_allows_0 (by decide) ?_
  exact W.zret (v := 1) hx hb hr rfl (fun t ht _ => ⟨_, rfl, rfl, ht⟩) (fun q h => nomatch h) d_Pk_allows_1
set_option maxHeartbeats 4000000 in
set_option maxRecDepth 100000 in
/-- plain: its words -/
theorem c_Pk_lengthFor (l : Launch) (D : va_G) (tys : List (ClassId × FieldType)) (g : y_G) (x : Nat) (n w mk : Int32) (hk : g x = some (e_plain w mk)) : Met l y_Pk_lengthFor [.code y_Pk_lengthFor b_Pk_lengthFor 2 (some .int)] rmZ (w_Pp D tys [.ref x, .int n] g) (vp_Si (fun r => r = w)) 0 0 (fun _ => False) := by
  refine Met.ofW (cc := b_Pk_lengthFor) (maxL := 2) (ret := (some .int)) (by decide) rfl ?_
  intro p e s m args below meth c s₁ B hml hv
  obtain ⟨rfl, hP, hV⟩ := hv
  have hts := hV.hts ([.ref x, .int n] : List Value).toArray
  have hK := hV.2.1
  have hx := B.exec
  have hb := B.bytes
  have hr := B.returns
  have hlocks := B.notSynchronized
  have hown : s.vm.findClass R_Pk = some m.cls := findClass_of_methodNamed B.named
  have hl := lv_entry ([.ref x, .int n]) (n := 2) (Nat.le_of_ble_eq_true rfl)
  rw [lg_entry_eq]
  generalize (lg_sl ([.ref x, .int n]) ++ List.replicate (2 - (lg_sl ([.ref x, .int n])).length) Slot.unset).toArray = ls at hl ⊢
  have hl : lv_has ls 2 [(0, .ref x), (1, .int n)] := hl
  refine lv_aload_n hx hb d_Pk_lengthFor_0 rfl (lv_at hl 0 rfl) ?_
  refine y_get (D := D) (ci := 2) (v := .int w) (C := R_Pk) (T := F_Pk) (N := 2) hx hb hts in_Pk hown hK hP hk rfl 0 (by decide) (hts (.fieldLink R_Pk 9 "MemoryDesk$PlainKind" "words" "I") (by decide +kernel)) (fun _ h9 => h9) rfl d_Pk_lengthFor_1 ?_
  exact W.iret (v := w) hx hb hr (fun t ht _ => ⟨_, rfl, rfl, ht⟩) (fun q h => nomatch h) d_Pk_lengthFor_4
set_option maxHeartbeats 4000000 in
set_option maxRecDepth 100000 in
/-- plain: three words and its own -/
theorem c_Pk_wordsFor (l : Launch) (D : va_G) (tys : List (ClassId × FieldType)) (g : y_G) (x : Nat) (n w mk : Int32) (hk : g x = some (e_plain w mk)) : Met l y_Pk_wordsFor [.code y_Pk_wordsFor b_Pk_wordsFor 2 (some .long)] rmZ (w_Pp D tys [.ref x, .int n] g) (vp_Sl (fun r => r = (3 + w).toInt64)) 0 0 (fun _ => False) := by
  refine Met.ofW (cc := b_Pk_wordsFor) (maxL := 2) (ret := (some .long)) (by decide) rfl ?_
  intro p e s m args below meth c s₁ B hml hv
  obtain ⟨rfl, hP, hV⟩ := hv
  have hts := hV.hts ([.ref x, .int n] : List Value).toArray
  have hK := hV.2.1
  have hx := B.exec
  have hb := B.bytes
  have hr := B.returns
  have hlocks := B.notSynchronized
  have hown : s.vm.findClass R_Pk = some m.cls := findClass_of_methodNamed B.named
  have hl := lv_entry ([.ref x, .int n]) (n := 2) (Nat.le_of_ble_eq_true rfl)
  rw [lg_entry_eq]
  generalize (lg_sl ([.ref x, .int n]) ++ List.replicate (2 - (lg_sl ([.ref x, .int n])).length) Slot.unset).toArray = ls at hl ⊢
  have hl : lv_has ls 2 [(0, .ref x), (1, .int n)] := hl
  refine lv_iconst (v := 3) hx hb d_Pk_wordsFor_0 (by decide) ?_
  refine lv_aload_n hx hb d_Pk_wordsFor_1 rfl (lv_at hl 0 rfl) ?_
  refine y_get (D := D) (ci := 2) (v := .int w) (C := R_Pk) (T := F_Pk) (N := 2) hx hb hts in_Pk hown hK hP hk rfl 0 (by decide) (hts (.fieldLink R_Pk 9 "MemoryDesk$PlainKind" "words" "I") (by decide +kernel)) (fun _ h9 => h9) rfl d_Pk_wordsFor_2 ?_
  refine lv_iadd hx hb d_Pk_wordsFor_5 ?_
  refine lv_i2l hx hb d_Pk_wordsFor_6 rfl ?_
  exact W.lret (v := (3 + w).toInt64) hx hb hr (fun t ht _ => ⟨_, rfl, rfl, ht⟩) (fun q h => nomatch h) d_Pk_wordsFor_7
set_option maxHeartbeats 4000000 in
set_option maxRecDepth 100000 in
/-- plain: the mask's bit -/
theorem c_Pk_isReference (l : Launch) (D : va_G) (tys : List (ClassId × FieldType)) (g : y_G) (x : Nat) (k w mk : Int32) (hk : g x = some (e_plain w mk)) : Met l y_Pk_isReference [.code y_Pk_isReference b_Pk_isReference 2 (some .boolean)] rmZ (w_Pp D tys [.ref x, .int k] g) (vp_Si (fun r => (r = 1 ∧ ¬ ((mk.toUInt32 >>> (k.toUInt32 &&& Int32.toUInt32 31)).toInt32 &&& 1) = 0) ∨ (r = 0 ∧ ((mk.toUInt32 >>> (k.toUInt32 &&& Int32.toUInt32 31)).toInt32 &&& 1) = 0))) 0 0 (fun _ => False) := by
  refine Met.ofW (cc := b_Pk_isReference) (maxL := 2) (ret := (some .boolean)) (by decide) rfl ?_
  intro p e s m args below meth c s₁ B hml hv
  obtain ⟨rfl, hP, hV⟩ := hv
  have hts := hV.hts ([.ref x, .int k] : List Value).toArray
  have hK := hV.2.1
  have hx := B.exec
  have hb := B.bytes
  have hr := B.returns
  have hlocks := B.notSynchronized
  have hown : s.vm.findClass R_Pk = some m.cls := findClass_of_methodNamed B.named
  have hl := lv_entry ([.ref x, .int k]) (n := 2) (Nat.le_of_ble_eq_true rfl)
  rw [lg_entry_eq]
  generalize (lg_sl ([.ref x, .int k]) ++ List.replicate (2 - (lg_sl ([.ref x, .int k])).length) Slot.unset).toArray = ls at hl ⊢
  have hl : lv_has ls 2 [(0, .ref x), (1, .int k)] := hl
  refine lv_aload_n hx hb d_Pk_isReference_0 rfl (lv_at hl 0 rfl) ?_
  refine y_get (D := D) (ci := 2) (v := .int mk) (C := R_Pk) (T := F_Pk) (N := 2) hx hb hts in_Pk hown hK hP hk rfl 1 (by decide) (hts (.fieldLink R_Pk 15 "MemoryDesk$PlainKind" "mask" "I") (by decide +kernel)) (fun _ h9 => h9) rfl d_Pk_isReference_1 ?_
  refine lv_iload_n hx hb d_Pk_isReference_4 rfl (lv_at hl 1 rfl) ?_
  refine lv_iushr hx hb d_Pk_isReference_5 rfl ?_
  refine lv_iconst (v := 1) hx hb d_Pk_isReference_6 (by decide) ?_
  refine lv_iand hx hb d_Pk_isReference_7 ?_
  refine lv_if_eq hx hb d_Pk_isReference_8 rfl (fun h1 => ?_) (fun h1 => ?_)
  · -- ifeq at 8: to 15
    refine lv_iconst (v := 0) hx hb d_Pk_isReference_15 (by decide) ?_
    exact W.zret (v := 0) hx hb hr rfl (fun t ht _ => ⟨_, rfl, Or.inr ⟨rfl, h1⟩, ht⟩) (fun q h => nomatch h) d_Pk_isReference_16
  · -- ifeq at 8: to 11
    refine lv_iconst (v := 1) hx hb d_Pk_isReference_11 (by decide) ?_
    refine lv_goto hx hb d_Pk_isReference_12 rfl ?_
    exact W.zret (v := 1) hx hb hr rfl (fun t ht _ => ⟨_, rfl, Or.inl ⟨rfl, h1⟩, ht⟩) (fun q h => nomatch h) d_Pk_isReference_16
set_option maxHeartbeats 4000000 in
set_option maxRecDepth 100000 in
/-- plain: 32 bits with sign -/
theorem c_Pk_cut (l : Launch) (D : va_G) (tys : List (ClassId × FieldType)) (g : y_G) (x : Nat) (v : Int64) : Met l y_Pk_cut [.code y_Pk_cut b_Pk_cut 3 (some .long)] rmZ (w_Pp D tys [.ref x, .long v] g) (vp_Sl (fun r => r = v.toInt32.toInt64)) 0 0 (fun _ => False) := by
  refine Met.ofW (cc := b_Pk_cut) (maxL := 3) (ret := (some .long)) (by decide) rfl ?_
  intro p e s m args below meth c s₁ B hml hv
  obtain ⟨rfl, hP, hV⟩ := hv
  have hts := hV.hts ([.ref x, .long v] : List Value).toArray
  have hK := hV.2.1
  have hx := B.exec
  have hb := B.bytes
  have hr := B.returns
  have hlocks := B.notSynchronized
  have hown : s.vm.findClass R_Pk = some m.cls := findClass_of_methodNamed B.named
  have hl := lv_entry ([.ref x, .long v]) (n := 3) (Nat.le_of_ble_eq_true rfl)
  rw [lg_entry_eq]
  generalize (lg_sl ([.ref x, .long v]) ++ List.replicate (3 - (lg_sl ([.ref x, .long v])).length) Slot.unset).toArray = ls at hl ⊢
  have hl : lv_has ls 3 [(0, .ref x), (1, .long v)] := hl
  refine lv_lload_n hx hb d_Pk_cut_0 rfl (lv_at hl 1 rfl) ?_
  refine lv_l2i hx hb d_Pk_cut_1 rfl ?_
  refine lv_i2l hx hb d_Pk_cut_2 rfl ?_
  exact W.lret (v := v.toInt32.toInt64) hx hb hr (fun t ht _ => ⟨_, rfl, rfl, ht⟩) (fun q h => nomatch h) d_Pk_cut_3
set_option maxHeartbeats 4000000 in
set_option maxRecDepth 100000 in
/-- a row: n is not below 0 -/
theorem c_Rk_allows (l : Launch) (D : va_G) (tys : List (ClassId × FieldType)) (g : y_G) (x : Nat) (n : Int32) : Met l y_Rk_allows [.code y_Rk_allows b_Rk_allows 2 (some .boolean)] rmZ (w_Pp D tys [.ref x, .int n] g) (vp_Si (fun r => (r = 1 ∧ ¬ n < 0) ∨ (r = 0 ∧ n < 0))) 0 0 (fun _ => False) := by
  refine Met.ofW (cc := b_Rk_allows) (maxL := 2) (ret := (some .boolean)) (by decide) rfl ?_
  intro p e s m args below meth c s₁ B hml hv
  obtain ⟨rfl, hP, hV⟩ := hv
  have hts := hV.hts ([.ref x, .int n] : List Value).toArray
  have hK := hV.2.1
  have hx := B.exec
  have hb := B.bytes
  have hr := B.returns
  have hlocks := B.notSynchronized
  have hown : s.vm.findClass R_Rk = some m.cls := findClass_of_methodNamed B.named
  have hl := lv_entry ([.ref x, .int n]) (n := 2) (Nat.le_of_ble_eq_true rfl)
  rw [lg_entry_eq]
  generalize (lg_sl ([.ref x, .int n]) ++ List.replicate (2 - (lg_sl ([.ref x, .int n])).length) Slot.unset).toArray = ls at hl ⊢
  have hl : lv_has ls 2 [(0, .ref x), (1, .int n)] := hl
  refine lv_iload_n hx hb d_Rk_allows_0 rfl (lv_at hl 1 rfl) ?_
  refine lv_if_lt hx hb d_Rk_allows_1 rfl (fun h1 => ?_) (fun h1 => ?_)
  · -- iflt at 1: to 8
    refine lv_iconst (v := 0) hx hb d_Rk_allows_8 (by decide) ?_
    exact W.zret (v := 0) hx hb hr rfl (fun t ht _ => ⟨_, rfl, Or.inr ⟨rfl, h1⟩, ht⟩) (fun q h => nomatch h) d_Rk_allows_9
  · -- iflt at 1: to 4
    refine lv_iconst (v := 1) hx hb d_Rk_allows_4 (by decide) ?_
    refine lv_goto hx hb d_Rk_allows_5 rfl ?_
    exact W.zret (v := 1) hx hb hr rfl (fun t ht _ => ⟨_, rfl, Or.inl ⟨rfl, h1⟩, ht⟩) (fun q h => nomatch h) d_Rk_allows_9
set_option maxHeartbeats 4000000 in
set_option maxRecDepth 100000 in
/-- a row: n -/
theorem c_Rk_lengthFor (l : Launch) (D : va_G) (tys : List (ClassId × FieldType)) (g : y_G) (x : Nat) (n : Int32) : Met l y_Rk_lengthFor [.code y_Rk_lengthFor b_Rk_lengthFor 2 (some .int)] rmZ (w_Pp D tys [.ref x, .int n] g) (vp_Si (fun r => r = n)) 0 0 (fun _ => False) := by
  refine Met.ofW (cc := b_Rk_lengthFor) (maxL := 2) (ret := (some .int)) (by decide) rfl ?_
  intro p e s m args below meth c s₁ B hml hv
  obtain ⟨rfl, hP, hV⟩ := hv
  have hts := hV.hts ([.ref x, .int n] : List Value).toArray
  have hK := hV.2.1
  have hx := B.exec
  have hb := B.bytes
  have hr := B.returns
  have hlocks := B.notSynchronized
  have hown : s.vm.findClass R_Rk = some m.cls := findClass_of_methodNamed B.named
  have hl := lv_entry ([.ref x, .int n]) (n := 2) (Nat.le_of_ble_eq_true rfl)
  rw [lg_entry_eq]
  generalize (lg_sl ([.ref x, .int n]) ++ List.replicate (2 - (lg_sl ([.ref x, .int n])).length) Slot.unset).toArray = ls at hl ⊢
  have hl : lv_has ls 2 [(0, .ref x), (1, .int n)] := hl
  refine lv_iload_n hx hb d_Rk_lengthFor_0 rfl (lv_at hl 1 rfl) ?_
  exact W.iret (v := n) hx hb hr (fun t ht _ => ⟨_, rfl, rfl, ht⟩) (fun q h => nomatch h) d_Rk_lengthFor_1
set_option maxHeartbeats 4000000 in
set_option maxRecDepth 100000 in
/-- a row: four words and its elements -/
theorem c_Rk_wordsFor (l : Launch) (D : va_G) (tys : List (ClassId × FieldType)) (g : y_G) (x : Nat) (n el bi : Int32) (hk : g x = some (e_row el bi)) : Met l y_Rk_wordsFor [.code y_Rk_wordsFor b_Rk_wordsFor 2 (some .long)] rmZ (w_Pp D tys [.ref x, .int n] g) (vp_Sl (fun r => r = 4 + (n.toInt64 * bi.toInt64 + 32 - 1) / 32)) 0 0 (fun _ => False) := by
  refine Met.ofW (cc := b_Rk_wordsFor) (maxL := 2) (ret := (some .long)) (by decide) rfl ?_
  intro p e s m args below meth c s₁ B hml hv
  obtain ⟨rfl, hP, hV⟩ := hv
  have hts := hV.hts ([.ref x, .int n] : List Value).toArray
  have hK := hV.2.1
  have hx := B.exec
  have hb := B.bytes
  have hr := B.returns
  have hlocks := B.notSynchronized
  have hown : s.vm.findClass R_Rk = some m.cls := findClass_of_methodNamed B.named
  have hl := lv_entry ([.ref x, .int n]) (n := 2) (Nat.le_of_ble_eq_true rfl)
  rw [lg_entry_eq]
  generalize (lg_sl ([.ref x, .int n]) ++ List.replicate (2 - (lg_sl ([.ref x, .int n])).length) Slot.unset).toArray = ls at hl ⊢
  have hl : lv_has ls 2 [(0, .ref x), (1, .int n)] := hl
  refine lv_ldc2 (v := 4) hx hb hown (hts (.constantLong R_Rk 18 4) (by decide +kernel)) d_Rk_wordsFor_0 ?_
  refine lv_iload_n hx hb d_Rk_wordsFor_3 rfl (lv_at hl 1 rfl) ?_
  refine lv_i2l hx hb d_Rk_wordsFor_4 rfl ?_
  refine lv_aload_n hx hb d_Rk_wordsFor_5 rfl (lv_at hl 0 rfl) ?_
  refine y_get (D := D) (ci := 3) (v := .int bi) (C := R_Rk) (T := F_Rk) (N := 2) hx hb hts in_Rk hown hK hP hk rfl 1 (by decide) (hts (.fieldLink R_Rk 15 "MemoryDesk$RowKind" "bits" "I") (by decide +kernel)) (fun _ h9 => h9) rfl d_Rk_wordsFor_6 ?_
  refine lv_i2l hx hb d_Rk_wordsFor_9 rfl ?_
  refine lv_lmul hx hb d_Rk_wordsFor_10 ?_
  refine lv_ldc2 (v := 32) hx hb hown (hts (.constantLong R_Rk 20 32) (by decide +kernel)) d_Rk_wordsFor_11 ?_
  refine lv_ladd hx hb d_Rk_wordsFor_14 ?_
  refine lv_lconst (v := 1) hx hb d_Rk_wordsFor_15 (by decide) ?_
  refine lv_lsub hx hb d_Rk_wordsFor_16 ?_
  refine lv_ldc2 (v := 32) hx hb hown (hts (.constantLong R_Rk 20 32) (by decide +kernel)) d_Rk_wordsFor_17 ?_
  refine lv_ldiv hx hb d_Rk_wordsFor_20 (by decide) ?_
  refine lv_ladd hx hb d_Rk_wordsFor_21 ?_
  exact W.lret (v := (4 + ((((n.toInt64 * bi.toInt64) + 32) - 1) / 32))) hx hb hr (fun t ht _ => ⟨_, rfl, rfl, ht⟩) (fun q h => nomatch h) d_Rk_wordsFor_22
set_option maxHeartbeats 4000000 in
set_option maxRecDepth 100000 in
/-- a row: of references -/
theorem c_Rk_isReference (l : Launch) (D : va_G) (tys : List (ClassId × FieldType)) (g : y_G) (x : Nat) (k el bi : Int32) (hk : g x = some (e_row el bi)) : Met l y_Rk_isReference [.code y_Rk_isReference b_Rk_isReference 2 (some .boolean)] rmZ (w_Pp D tys [.ref x, .int k] g) (vp_Si (fun r => (r = 1 ∧ el = 0) ∨ (r = 0 ∧ ¬ el = 0))) 0 0 (fun _ => False) := by
  refine Met.ofW (cc := b_Rk_isReference) (maxL := 2) (ret := (some .boolean)) (by decide) rfl ?_
  intro p e s m args below meth c s₁ B hml hv
  obtain ⟨rfl, hP, hV⟩ := hv
  have hts := hV.hts ([.ref x, .int k] : List Value).toArray
  have hK := hV.2.1
  have hx := B.exec
  have hb := B.bytes
  have hr := B.returns
  have hlocks := B.notSynchronized
  have hown : s.vm.findClass R_Rk = some m.cls := findClass_of_methodNamed B.named
  have hl := lv_entry ([.ref x, .int k]) (n := 2) (Nat.le_of_ble_eq_true rfl)
  rw [lg_entry_eq]
  generalize (lg_sl ([.ref x, .int k]) ++ List.replicate (2 - (lg_sl ([.ref x, .int k])).length) Slot.unset).toArray = ls at hl ⊢
  have hl : lv_has ls 2 [(0, .ref x), (1, .int k)] := hl
  refine lv_aload_n hx hb d_Rk_isReference_0 rfl (lv_at hl 0 rfl) ?_
  refine y_get (D := D) (ci := 3) (v := .int el) (C := R_Rk) (T := F_Rk) (N := 2) hx hb hts in_Rk hown hK hP hk rfl 0 (by decide) (hts (.fieldLink R_Rk 9 "MemoryDesk$RowKind" "elements" "I") (by decide +kernel)) (fun _ h9 => h9) rfl d_Rk_isReference_1 ?_
  refine lv_if_ne hx hb d_Rk_isReference_4 rfl (fun h1 => ?_) (fun h1 => ?_)
  · -- ifne at 4: to 11
    refine lv_iconst (v := 0) hx hb d_Rk_isReference_11 (by decide) ?_
    exact W.zret (v := 0) hx hb hr rfl (fun t ht _ => ⟨_, rfl, Or.inr ⟨rfl, h1⟩, ht⟩) (fun q h => nomatch h) d_Rk_isReference_12
  · -- ifne at 4: to 7
    refine lv_iconst (v := 1) hx hb d_Rk_isReference_7 (by decide) ?_
    refine lv_goto hx hb d_Rk_isReference_8 rfl ?_
    exact W.zret (v := 1) hx hb hr rfl (fun t ht _ => ⟨_, rfl, Or.inl ⟨rfl, h1⟩, ht⟩) (fun q h => nomatch h) d_Rk_isReference_12
set_option maxHeartbeats 4000000 in
set_option maxRecDepth 100000 in
/-- a row: as many bits as an element has -/
theorem c_Rk_cut (l : Launch) (D : va_G) (tys : List (ClassId × FieldType)) (g : y_G) (x : Nat) (v : Int64) (el bi : Int32) (hk : g x = some (e_row el bi)) : Met l y_Rk_cut [.code y_Rk_cut b_Rk_cut 4 (some .long)] rmZ (w_Pp D tys [.ref x, .long v] g) (vp_Sl (fun r => (r = ((v <<< ((64 - bi).toInt64 &&& 63)).toUInt64 >>> ((64 - bi).toInt64.toUInt64 &&& Int64.toUInt64 63)).toInt64 ∧ el = 2) ∨ (r = (v <<< ((64 - bi).toInt64 &&& 63)) >>> ((64 - bi).toInt64 &&& 63) ∧ ¬ el = 2))) 0 0 (fun _ => False) := by
  refine Met.ofW (cc := b_Rk_cut) (maxL := 4) (ret := (some .long)) (by decide) rfl ?_
  intro p e s m args below meth c s₁ B hml hv
  obtain ⟨rfl, hP, hV⟩ := hv
  have hts := hV.hts ([.ref x, .long v] : List Value).toArray
  have hK := hV.2.1
  have hx := B.exec
  have hb := B.bytes
  have hr := B.returns
  have hlocks := B.notSynchronized
  have hown : s.vm.findClass R_Rk = some m.cls := findClass_of_methodNamed B.named
  have hl := lv_entry ([.ref x, .long v]) (n := 4) (Nat.le_of_ble_eq_true rfl)
  rw [lg_entry_eq]
  generalize (lg_sl ([.ref x, .long v]) ++ List.replicate (4 - (lg_sl ([.ref x, .long v])).length) Slot.unset).toArray = ls at hl ⊢
  have hl : lv_has ls 4 [(0, .ref x), (1, .long v)] := hl
  refine lv_bipush (v := 64) hx hb d_Rk_cut_0 (by decide) ?_
  refine lv_aload_n hx hb d_Rk_cut_2 rfl (lv_at hl 0 rfl) ?_
  refine y_get (D := D) (ci := 3) (v := .int bi) (C := R_Rk) (T := F_Rk) (N := 2) hx hb hts in_Rk hown hK hP hk rfl 1 (by decide) (hts (.fieldLink R_Rk 15 "MemoryDesk$RowKind" "bits" "I") (by decide +kernel)) (fun _ h9 => h9) rfl d_Rk_cut_3 ?_
  refine lv_isub hx hb d_Rk_cut_6 ?_
  refine lv_istore_n hx hb d_Rk_cut_7 rfl hl (by decide) rfl (fun ls hl => ?_)
  have hl : lv_has ls 4 [(3, .int (64 - bi)), (0, .ref x), (1, .long v)] := hl
  refine lv_aload_n hx hb d_Rk_cut_8 rfl (lv_at hl 1 rfl) ?_
  refine y_get (D := D) (ci := 3) (v := .int el) (C := R_Rk) (T := F_Rk) (N := 2) hx hb hts in_Rk hown hK hP hk rfl 0 (by decide) (hts (.fieldLink R_Rk 9 "MemoryDesk$RowKind" "elements" "I") (by decide +kernel)) (fun _ h9 => h9) rfl d_Rk_cut_9 ?_
  refine lv_iconst (v := 2) hx hb d_Rk_cut_12 (by decide) ?_
  refine lv_icmp_ne hx hb d_Rk_cut_13 rfl (fun h1 => ?_) (fun h1 => ?_)
  · -- if_icmpne at 13: to 24
    refine lv_lload_n hx hb d_Rk_cut_24 rfl (lv_at hl 2 rfl) ?_
    refine lv_iload_n hx hb d_Rk_cut_25 rfl (lv_at hl 0 rfl) ?_
    refine lv_lshl hx hb d_Rk_cut_26 rfl ?_
    refine lv_iload_n hx hb d_Rk_cut_27 rfl (lv_at hl 0 rfl) ?_
    refine lv_lshr hx hb d_Rk_cut_28 rfl ?_
    exact W.lret (v := ((v <<< ((64 - bi).toInt64 &&& 63)) >>> ((64 - bi).toInt64 &&& 63))) hx hb hr (fun t ht _ => ⟨_, rfl, Or.inr ⟨rfl, h1⟩, ht⟩) (fun q h => nomatch h) d_Rk_cut_29
  · -- if_icmpne at 13: to 16
    refine lv_lload_n hx hb d_Rk_cut_16 rfl (lv_at hl 2 rfl) ?_
    refine lv_iload_n hx hb d_Rk_cut_17 rfl (lv_at hl 0 rfl) ?_
    refine lv_lshl hx hb d_Rk_cut_18 rfl ?_
    refine lv_iload_n hx hb d_Rk_cut_19 rfl (lv_at hl 0 rfl) ?_
    refine lv_lushr hx hb d_Rk_cut_20 rfl ?_
    refine lv_goto hx hb d_Rk_cut_21 rfl ?_
    exact W.lret (v := ((v <<< ((64 - bi).toInt64 &&& 63)).toUInt64 >>> ((64 - bi).toInt64.toUInt64 &&& Int64.toUInt64 63)).toInt64) hx hb hr (fun t ht _ => ⟨_, rfl, Or.inl ⟨rfl, h1⟩, ht⟩) (fun q h => nomatch h) d_Rk_cut_29
