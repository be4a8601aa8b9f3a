/-! the reference: its small methods -/
section MSmall
def m_row (S : MS) (o : Int32) : Int32 := S.1 2 (S.1 4 o.toNatClampNeg).toNatClampNeg
/-- an object's number is one that there is, and so is its kind -/
def m_ok (S : MS) (o : Int32) : Prop := vp_in o 514 ∧ vp_in (S.1 4 o.toNatClampNeg) 16
def m_many (S : MS) (o : Int32) : Int32 := if m_row S o < 0 then S.1 0 (S.1 4 o.toNatClampNeg).toNatClampNeg else S.1 5 o.toNatClampNeg
noncomputable def m_isr (S : MS) (o k : Int32) : Int32 := c_bit (if m_row S o < 0 then (S.1 1 (S.1 4 o.toNatClampNeg).toNatClampNeg >>> (k &&& 31)) &&& 1 = 1 else m_row S o = 0)
def m_tk (row : Int32) (n : Int64) : Int64 := if row < 0 then 3 + n else 4 + (if row = 4 then 2 * n else if row = 2 then (n + 1) / 2 else if row = 1 then (n + 3) / 4 else n)
def m_cut (S : MS) (o : Int32) (v : Int64) : Int64 := if m_row S o = 1 then v.toInt32.toInt8.toInt32.toInt64 else if m_row S o = 2 then (v.toInt32.toUInt32 % 65536).toInt32.toInt64 else if m_row S o = 4 then v else v.toInt32.toInt64
/-- the newest of the first n entries -/
def m_lat (S : MS) (o k : Int32) : Nat → Int64
  | 0 => 0
  | n + 1 => if S.1 11 n = o ∧ S.1 12 n = k then S.2.1 n else m_lat S o k n
theorem m_nlt {x : Int32} (h : 0 ≤ x) : ¬ x < 0 := b_ge0 h
end MSmall
set_option maxHeartbeats 4000000 in
set_option maxRecDepth 100000 in
/-- thrown() -/
theorem c_Mo_thrown (l : Launch) (D : va_G) (cK cI cN cZ cL : ClassId) (r : Nat → Nat) (hri : m_inj r) (S : MS) (sz : Nat)  : x_M l y_Mo_thrown [.code y_Mo_thrown b_Mo_thrown 1 (some .int)] rmZ (w_Pc D (x_tys cK cI cN cZ cL) [.ref (r 20)] (m_w r cN cZ cL S) sz) (w_Qc D (m_w r cN cZ cL S) sz (fun r9 g9 => r9 = .inl (some (.int (S.2.2 10))) ∧ g9 = (m_w r cN cZ cL S))) 0 0 (y_A (m_w r cN cZ cL S) sz) := by
  refine x_ofW (cc := b_Mo_thrown) (maxL := 1) (ret := (some .int)) (by decide) rfl ?_
  intro p e s m args below meth c s₁ B hml hno hv
  obtain ⟨rfl, hsz, hP, hE⟩ := hv
  subst hsz
  have hts := hE.hts ([.ref (r 20)] : List Value).toArray
  have hK := hE.1.2.1
  have hA0 : ∀ q, s.heap.size ≤ q → y_A (m_w r cN cZ cL S) s.heap.size q := fun q h => Or.inr h
  have hA : ∀ q e, (m_w r cN cZ cL S) q = some e → y_A (m_w r cN cZ cL S) s.heap.size q := fun q e h => Or.inl (by rw [h]; exact fun z => nomatch z)
  have hS : va_S (y_A (m_w r cN cZ cL S) s.heap.size) s.heap s.heap [] := va_S.rf
  generalize hAe : y_A (m_w r cN cZ cL S) s.heap.size = A at hE hA0 hA hS ⊢
  have hx := B.exec
  have hb := B.bytes
  have hr := B.returns
  have hlocks := B.notSynchronized
  have hown : s.vm.findClass R_Mo = some m.cls := findClass_of_methodNamed B.named
  have hl := lv_entry ([.ref (r 20)]) (n := 1) (Nat.le_of_ble_eq_true rfl)
  rw [lg_entry_eq]
  generalize (lg_sl ([.ref (r 20)]) ++ List.replicate (1 - (lg_sl ([.ref (r 20)])).length) Slot.unset).toArray = ls at hl ⊢
  have hl : lv_has ls 1 [(0, .ref (r 20))] := hl
  refine lv_aload_n hx hb d_Mo_thrown_0 rfl (lv_at hl 0 rfl) ?_
  refine y_get (D := D) (ci := 5) (v := .int (S.2.2 10)) (C := R_Mo) (T := F_Mo) (N := 20) hx hb hts in_Mo hown hK hP (m_at hri (i := 20) (by decide)) rfl 10 (by decide) (hts (.fieldLink R_Mo 59 "MemoryDeskModel" "err" "I") (by decide +kernel)) (fun _ h9 => h9) rfl d_Mo_thrown_1 ?_
  refine W.widen (k := 0) (n := 0) (by first | decide | omega) (by first | decide | omega) ?_
  exact x_ret (W.iret (v := (S.2.2 10)) hx hb hr (w_fin rfl hAe ⟨rfl, rfl⟩ hP hA hS) hS.2.2 d_Mo_thrown_4)
theorem b_ngt {v w : Int32} (h : v ≤ w) : ¬ w < v := fun z => by
  rw [Int32.le_iff_toInt_le] at h
  rw [Int32.lt_iff_toInt_lt] at z
  omega
theorem b_le {v w : Int32} (h : ¬ w < v) : v ≤ w := by
  rw [Int32.le_iff_toInt_le]
  rw [Int32.lt_iff_toInt_lt] at h
  omega
set_option maxHeartbeats 4000000 in
set_option maxRecDepth 100000 in
/-- in(v, most) -/
theorem c_Mo_in (l : Launch) (D : va_G) (cK cI cN cZ cL : ClassId) (r : Nat → Nat) (hri : m_inj r) (S : MS) (sz : Nat) (v w : Int32) : x_M l y_Mo_in [.code y_Mo_in b_Mo_in 2 (some .boolean)] rmZ (w_Pc D (x_tys cK cI cN cZ cL) [.int v, .int w] (m_w r cN cZ cL S) sz) (w_Qc D (m_w r cN cZ cL S) sz (fun r9 g9 => r9 = .inl (some (.int (c_bit (¬ v < 0 ∧ v ≤ w)))) ∧ g9 = (m_w r cN cZ cL S))) 0 0 (y_A (m_w r cN cZ cL S) sz) := by
  refine x_ofW (cc := b_Mo_in) (maxL := 2) (ret := (some .boolean)) (by decide) rfl ?_
  intro p e s m args below meth c s₁ B hml hno hv
  obtain ⟨rfl, hsz, hP, hE⟩ := hv
  subst hsz
  have hts := hE.hts ([.int v, .int w] : List Value).toArray
  have hK := hE.1.2.1
  have hA0 : ∀ q, s.heap.size ≤ q → y_A (m_w r cN cZ cL S) s.heap.size q := fun q h => Or.inr h
  have hA : ∀ q e, (m_w r cN cZ cL S) q = some e → y_A (m_w r cN cZ cL S) s.heap.size q := fun q e h => Or.inl (by rw [h]; exact fun z => nomatch z)
  have hS : va_S (y_A (m_w r cN cZ cL S) s.heap.size) s.heap s.heap [] := va_S.rf
  generalize hAe : y_A (m_w r cN cZ cL S) s.heap.size = A at hE hA0 hA hS ⊢
  have hx := B.exec
  have hb := B.bytes
  have hr := B.returns
  have hlocks := B.notSynchronized
  have hown : s.vm.findClass R_Mo = some m.cls := findClass_of_methodNamed B.named
  have hl := lv_entry ([.int v, .int w]) (n := 2) (Nat.le_of_ble_eq_true rfl)
  rw [lg_entry_eq]
  generalize (lg_sl ([.int v, .int w]) ++ List.replicate (2 - (lg_sl ([.int v, .int w])).length) Slot.unset).toArray = ls at hl ⊢
  have hl : lv_has ls 2 [(0, .int v), (1, .int w)] := hl
  refine lv_iload_n hx hb d_Mo_in_0 rfl (lv_at hl 0 rfl) ?_
  refine lv_if_lt hx hb d_Mo_in_1 rfl (fun h1 => ?_) (fun h1 => ?_)
  · -- iflt at 1: to 13
    refine lv_iconst (v := 0) hx hb d_Mo_in_13 (by decide) ?_
    refine W.widen (k := 0) (n := 0) (by first | decide | omega) (by first | decide | omega) ?_
    exact x_ret (W.zret (v := 0) hx hb hr rfl (w_fin rfl hAe ⟨by rw [c_bit.n (fun z => z.1 h1)], rfl⟩ hP hA hS) hS.2.2 d_Mo_in_14)
  · -- iflt at 1: to 4
    refine lv_iload_n hx hb d_Mo_in_4 rfl (lv_at hl 0 rfl) ?_
    refine lv_iload_n hx hb d_Mo_in_5 rfl (lv_at hl 1 rfl) ?_
    refine lv_icmp_gt hx hb d_Mo_in_6 rfl (fun h2 => ?_) (fun h2 => ?_)
    · -- if_icmpgt at 6: to 13
      refine lv_iconst (v := 0) hx hb d_Mo_in_13 (by decide) ?_
      refine W.widen (k := 0) (n := 0) (by first | decide | omega) (by first | decide | omega) ?_
      exact x_ret (W.zret (v := 0) hx hb hr rfl (w_fin rfl hAe ⟨by rw [c_bit.n (fun z => absurd h2 (b_ngt z.2))], rfl⟩ hP hA hS) hS.2.2 d_Mo_in_14)
    · -- if_icmpgt at 6: to 9
      refine lv_iconst (v := 1) hx hb d_Mo_in_9 (by decide) ?_
      refine lv_goto hx hb d_Mo_in_10 rfl ?_
      refine W.widen (k := 0) (n := 0) (by first | decide | omega) (by first | decide | omega) ?_
      exact x_ret (W.zret (v := 1) hx hb hr rfl (w_fin rfl hAe ⟨by rw [c_bit.y (show ¬ v < 0 ∧ v ≤ w from ⟨h1, b_le h2⟩)], rfl⟩ hP hA hS) hS.2.2 d_Mo_in_14)
set_option maxHeartbeats 4000000 in
set_option maxRecDepth 100000 in
/-- fails(is, code) -/
theorem c_Mo_fails (l : Launch) (D : va_G) (cK cI cN cZ cL : ClassId) (r : Nat → Nat) (hri : m_inj r) (S : MS) (sz : Nat) (b cd : Int32) (hc : ¬ cd = 0) : x_M l y_Mo_fails [.code y_Mo_fails b_Mo_fails 3 (some .boolean)] rmZ (w_Pc D (x_tys cK cI cN cZ cL) [.ref (r 20), .int b, .int cd] (m_w r cN cZ cL S) sz) (w_Qc D (m_w r cN cZ cL S) sz (fun r9 g9 => (b = 0 ∧ S.2.2 10 = 0 ∧ r9 = .inl (some (.int 0)) ∧ g9 = (m_w r cN cZ cL S)) ∨ (¬ S.2.2 10 = 0 ∧ r9 = .inl (some (.int 1)) ∧ g9 = (m_w r cN cZ cL S)) ∨ (¬ b = 0 ∧ S.2.2 10 = 0 ∧ r9 = .inl (some (.int 1)) ∧ g9 = (m_w r cN cZ cL (m_s S 10 cd))))) 0 0 (y_A (m_w r cN cZ cL S) sz) := by
  refine x_ofW (cc := b_Mo_fails) (maxL := 3) (ret := (some .boolean)) (by decide) rfl ?_
  intro p e s m args below meth c s₁ B hml hno hv
  obtain ⟨rfl, hsz, hP, hE⟩ := hv
  subst hsz
  have hts := hE.hts ([.ref (r 20), .int b, .int cd] : List Value).toArray
  have hK := hE.1.2.1
  have hA0 : ∀ q, s.heap.size ≤ q → y_A (m_w r cN cZ cL S) s.heap.size q := fun q h => Or.inr h
  have hA : ∀ q e, (m_w r cN cZ cL S) q = some e → y_A (m_w r cN cZ cL S) s.heap.size q := fun q e h => Or.inl (by rw [h]; exact fun z => nomatch z)
  have hS : va_S (y_A (m_w r cN cZ cL S) s.heap.size) s.heap s.heap [] := va_S.rf
  generalize hAe : y_A (m_w r cN cZ cL S) s.heap.size = A at hE hA0 hA hS ⊢
  have hx := B.exec
  have hb := B.bytes
  have hr := B.returns
  have hlocks := B.notSynchronized
  have hown : s.vm.findClass R_Mo = some m.cls := findClass_of_methodNamed B.named
  have hl := lv_entry ([.ref (r 20), .int b, .int cd]) (n := 3) (Nat.le_of_ble_eq_true rfl)
  rw [lg_entry_eq]
  generalize (lg_sl ([.ref (r 20), .int b, .int cd]) ++ List.replicate (3 - (lg_sl ([.ref (r 20), .int b, .int cd])).length) Slot.unset).toArray = ls at hl ⊢
  have hl : lv_has ls 3 [(0, .ref (r 20)), (1, .int b), (2, .int cd)] := hl
  refine lv_iload_n hx hb d_Mo_fails_0 rfl (lv_at hl 1 rfl) ?_
  refine lv_if_eq hx hb d_Mo_fails_1 rfl (fun h1 => ?_) (fun h1 => ?_)
  · -- ifeq at 1: to 16
    refine lv_aload_n hx hb d_Mo_fails_16 rfl (lv_at hl 0 rfl) ?_
    refine y_get (D := D) (ci := 5) (v := .int (S.2.2 10)) (C := R_Mo) (T := F_Mo) (N := 20) hx hb hts in_Mo hown hK hP (m_at hri (i := 20) (by decide)) rfl 10 (by decide) (hts (.fieldLink R_Mo 59 "MemoryDeskModel" "err" "I") (by decide +kernel)) (fun _ h9 => h9) rfl d_Mo_fails_17 ?_
    refine lv_if_eq hx hb d_Mo_fails_20 rfl (fun h2 => ?_) (fun h2 => ?_)
    · -- ifeq at 20: to 27
      refine lv_iconst (v := 0) hx hb d_Mo_fails_27 (by decide) ?_
      refine W.widen (k := 0) (n := 0) (by first | decide | omega) (by first | decide | omega) ?_
      exact x_ret (W.zret (v := 0) hx hb hr rfl (w_fin rfl hAe (by first | exact Or.inl ⟨h1, h2, rfl, rfl⟩ | exact Or.inr (Or.inl ⟨h2, rfl, rfl⟩)) hP hA hS) hS.2.2 d_Mo_fails_28)
    · -- ifeq at 20: to 23
      refine lv_iconst (v := 1) hx hb d_Mo_fails_23 (by decide) ?_
      refine lv_goto hx hb d_Mo_fails_24 rfl ?_
      refine W.widen (k := 0) (n := 0) (by first | decide | omega) (by first | decide | omega) ?_
      exact x_ret (W.zret (v := 1) hx hb hr rfl (w_fin rfl hAe (by first | exact Or.inl ⟨h1, h2, rfl, rfl⟩ | exact Or.inr (Or.inl ⟨h2, rfl, rfl⟩)) hP hA hS) hS.2.2 d_Mo_fails_28)
  · -- ifeq at 1: to 4
    refine lv_aload_n hx hb d_Mo_fails_4 rfl (lv_at hl 0 rfl) ?_
    refine y_get (D := D) (ci := 5) (v := .int (S.2.2 10)) (C := R_Mo) (T := F_Mo) (N := 20) hx hb hts in_Mo hown hK hP (m_at hri (i := 20) (by decide)) rfl 10 (by decide) (hts (.fieldLink R_Mo 59 "MemoryDeskModel" "err" "I") (by decide +kernel)) (fun _ h9 => h9) rfl d_Mo_fails_5 ?_
    refine lv_if_ne hx hb d_Mo_fails_8 rfl (fun h3 => ?_) (fun h3 => ?_)
    · -- ifne at 8: to 16
      refine lv_aload_n hx hb d_Mo_fails_16 rfl (lv_at hl 0 rfl) ?_
      refine y_get (D := D) (ci := 5) (v := .int (S.2.2 10)) (C := R_Mo) (T := F_Mo) (N := 20) hx hb hts in_Mo hown hK hP (m_at hri (i := 20) (by decide)) rfl 10 (by decide) (hts (.fieldLink R_Mo 59 "MemoryDeskModel" "err" "I") (by decide +kernel)) (fun _ h9 => h9) rfl d_Mo_fails_17 ?_
      refine lv_if_eq hx hb d_Mo_fails_20 rfl (fun h4 => ?_) (fun h4 => ?_)
      · -- ifeq at 20: to 27
        refine lv_iconst (v := 0) hx hb d_Mo_fails_27 (by decide) ?_
        refine W.widen (k := 0) (n := 0) (by first | decide | omega) (by first | decide | omega) ?_
        exact x_ret (W.zret (v := 0) hx hb hr rfl (w_fin rfl hAe (by first | exact absurd h4 h3 | exact Or.inr (Or.inl ⟨h3, rfl, rfl⟩)) hP hA hS) hS.2.2 d_Mo_fails_28)
      · -- ifeq at 20: to 23
        refine lv_iconst (v := 1) hx hb d_Mo_fails_23 (by decide) ?_
        refine lv_goto hx hb d_Mo_fails_24 rfl ?_
        refine W.widen (k := 0) (n := 0) (by first | decide | omega) (by first | decide | omega) ?_
        exact x_ret (W.zret (v := 1) hx hb hr rfl (w_fin rfl hAe (by first | exact absurd h4 h3 | exact Or.inr (Or.inl ⟨h3, rfl, rfl⟩)) hP hA hS) hS.2.2 d_Mo_fails_28)
    · -- ifne at 8: to 11
      refine lv_aload_n hx hb d_Mo_fails_11 rfl (lv_at hl 0 rfl) ?_
      refine lv_iload_n hx hb d_Mo_fails_12 rfl (lv_at hl 2 rfl) ?_
      refine y_put (D := D) (ci := 5) (v := .int cd) (ty := .int) (C := R_Mo) (T := F_Mo) (N := 20) hx hb hts in_Mo t_Mo t_Mo_ok n_Mo hown hK hP hA hS (m_at hri (i := 20) (by decide)) rfl 10 (by decide) (hts (.fieldLink R_Mo 59 "MemoryDeskModel" "err" "I") (by decide +kernel)) (fun _ h9 => h9) rfl (by decide +kernel) rfl rfl (Nat.le_of_ble_eq_true rfl) d_Mo_fails_13 (fun H locs hP hA hS => ?_)
      have e9 : va_up (m_w r cN cZ cL S) (r 20) (some (.inr (5, [.ref (r 0), .ref (r 1), .ref (r 2), .ref (r 3), .ref (r 4), .ref (r 5), .ref (r 6), .int (S.2.2 7), .int (S.2.2 8), .int (S.2.2 9), .int cd, .ref (r 11), .ref (r 12), .ref (r 13), .int (S.2.2 14), .ref (r 15), .ref (r 16), .ref (r 17), .ref (r 18), .int (S.2.2 19)]))) = (m_w r cN cZ cL (m_s S 10 cd)) := m_ws10 hri S cd
      have hP : y_P D vwCl (m_w r cN cZ cL (m_s S 10 cd)) H := by rw [← e9]; exact hP
      have hA : ∀ q99 e99, (m_w r cN cZ cL (m_s S 10 cd)) q99 = some e99 → A q99 := by rw [← e9]; exact hA
      refine lv_aload_n hx hb d_Mo_fails_16 rfl (lv_at hl 0 rfl) ?_
      refine y_get (D := D) (ci := 5) (v := .int cd) (C := R_Mo) (T := F_Mo) (N := 20) hx hb hts in_Mo hown hK hP (m_at hri (i := 20) (by decide)) rfl 10 (by decide) (hts (.fieldLink R_Mo 59 "MemoryDeskModel" "err" "I") (by decide +kernel)) (fun _ h9 => h9) rfl d_Mo_fails_17 ?_
      refine lv_if_eq hx hb d_Mo_fails_20 rfl (fun h5 => ?_) (fun h5 => ?_)
      · -- ifeq at 20: to 27
        refine lv_iconst (v := 0) hx hb d_Mo_fails_27 (by decide) ?_
        refine W.widen (k := 0) (n := 0) (by first | decide | omega) (by first | decide | omega) ?_
        exact x_ret (W.zret (v := 0) hx hb hr rfl (w_fin rfl hAe (by first | exact absurd h5 hc | exact Or.inr (Or.inr ⟨h1, h3, rfl, rfl⟩)) hP hA hS) hS.2.2 d_Mo_fails_28)
      · -- ifeq at 20: to 23
        refine lv_iconst (v := 1) hx hb d_Mo_fails_23 (by decide) ?_
        refine lv_goto hx hb d_Mo_fails_24 rfl ?_
        refine W.widen (k := 0) (n := 0) (by first | decide | omega) (by first | decide | omega) ?_
        exact x_ret (W.zret (v := 1) hx hb hr rfl (w_fin rfl hAe (by first | exact absurd h5 hc | exact Or.inr (Or.inr ⟨h1, h3, rfl, rfl⟩)) hP hA hS) hS.2.2 d_Mo_fails_28)
theorem b_lt0 {x : Int32} (h : ¬ 0 ≤ x) : x < 0 := Classical.byContradiction (fun z => h (b_nlt0 z))
set_option maxHeartbeats 4000000 in
set_option maxRecDepth 100000 in
/-- many(o) -/
theorem c_Mo_many (l : Launch) (D : va_G) (cK cI cN cZ cL : ClassId) (r : Nat → Nat) (hri : m_inj r) (S : MS) (sz : Nat) (o : Int32) (ho : m_ok S o) : x_M l y_Mo_many [.code y_Mo_many b_Mo_many 2 (some .int)] rmZ (w_Pc D (x_tys cK cI cN cZ cL) [.ref (r 20), .int o] (m_w r cN cZ cL S) sz) (w_Qc D (m_w r cN cZ cL S) sz (fun r9 g9 => r9 = .inl (some (.int (m_many S o))) ∧ g9 = (m_w r cN cZ cL S))) 0 0 (y_A (m_w r cN cZ cL S) sz) := by
  refine x_ofW (cc := b_Mo_many) (maxL := 2) (ret := (some .int)) (by decide) rfl ?_
  intro p e s m args below meth c s₁ B hml hno hv
  obtain ⟨rfl, hsz, hP, hE⟩ := hv
  subst hsz
  have hts := hE.hts ([.ref (r 20), .int o] : List Value).toArray
  have hK := hE.1.2.1
  have hA0 : ∀ q, s.heap.size ≤ q → y_A (m_w r cN cZ cL S) s.heap.size q := fun q h => Or.inr h
  have hA : ∀ q e, (m_w r cN cZ cL S) q = some e → y_A (m_w r cN cZ cL S) s.heap.size q := fun q e h => Or.inl (by rw [h]; exact fun z => nomatch z)
  have hS : va_S (y_A (m_w r cN cZ cL S) s.heap.size) s.heap s.heap [] := va_S.rf
  generalize hAe : y_A (m_w r cN cZ cL S) s.heap.size = A at hE hA0 hA hS ⊢
  have hx := B.exec
  have hb := B.bytes
  have hr := B.returns
  have hlocks := B.notSynchronized
  have hown : s.vm.findClass R_Mo = some m.cls := findClass_of_methodNamed B.named
  have hl := lv_entry ([.ref (r 20), .int o]) (n := 2) (Nat.le_of_ble_eq_true rfl)
  rw [lg_entry_eq]
  generalize (lg_sl ([.ref (r 20), .int o]) ++ List.replicate (2 - (lg_sl ([.ref (r 20), .int o])).length) Slot.unset).toArray = ls at hl ⊢
  have hl : lv_has ls 2 [(0, .ref (r 20)), (1, .int o)] := hl
  refine lv_aload_n hx hb d_Mo_many_0 rfl (lv_at hl 0 rfl) ?_
  refine y_get (D := D) (ci := 5) (v := .ref (r 2)) (C := R_Mo) (T := F_Mo) (N := 20) hx hb hts in_Mo hown hK hP (m_at hri (i := 20) (by decide)) rfl 2 (by decide) (hts (.fieldLink R_Mo 16 "MemoryDeskModel" "kindRow" "[I") (by decide +kernel)) (fun _ h9 => h9) rfl d_Mo_many_1 ?_
  refine lv_aload_n hx hb d_Mo_many_4 rfl (lv_at hl 0 rfl) ?_
  refine y_get (D := D) (ci := 5) (v := .ref (r 4)) (C := R_Mo) (T := F_Mo) (N := 20) hx hb hts in_Mo hown hK hP (m_at hri (i := 20) (by decide)) rfl 4 (by decide) (hts (.fieldLink R_Mo 23 "MemoryDeskModel" "objectKind" "[I") (by decide +kernel)) (fun _ h9 => h9) rfl d_Mo_many_5 ?_
  refine lv_iload_n hx hb d_Mo_many_8 rfl (lv_at hl 1 rfl) ?_
  refine y_iald (f := (S.1 4)) hx hb hK hP 2 (m_at hri (i := 4) (by decide)) rfl ho.1 d_Mo_many_9 ?_
  refine y_iald (f := (S.1 2)) hx hb hK hP 2 (m_at hri (i := 2) (by decide)) rfl ho.2 d_Mo_many_10 ?_
  refine lv_if_ge hx hb d_Mo_many_11 rfl (fun h1 => ?_) (fun h1 => ?_)
  · -- ifge at 11: to 28
    refine lv_aload_n hx hb d_Mo_many_28 rfl (lv_at hl 0 rfl) ?_
    refine y_get (D := D) (ci := 5) (v := .ref (r 5)) (C := R_Mo) (T := F_Mo) (N := 20) hx hb hts in_Mo hown hK hP (m_at hri (i := 20) (by decide)) rfl 5 (by decide) (hts (.fieldLink R_Mo 26 "MemoryDeskModel" "objectSize" "[I") (by decide +kernel)) (fun _ h9 => h9) rfl d_Mo_many_29 ?_
    refine lv_iload_n hx hb d_Mo_many_32 rfl (lv_at hl 1 rfl) ?_
    refine y_iald (f := (S.1 5)) hx hb hK hP 2 (m_at hri (i := 5) (by decide)) rfl ho.1 d_Mo_many_33 ?_
    refine W.widen (k := 0) (n := 0) (by first | decide | omega) (by first | decide | omega) ?_
    exact x_ret (W.iret (v := (S.1 5 o.toNatClampNeg)) hx hb hr (w_fin rfl hAe ⟨by rw [show m_many S o = S.1 5 o.toNatClampNeg from if_neg (m_nlt h1)], rfl⟩ hP hA hS) hS.2.2 d_Mo_many_34)
  · -- ifge at 11: to 14
    refine lv_aload_n hx hb d_Mo_many_14 rfl (lv_at hl 0 rfl) ?_
    refine y_get (D := D) (ci := 5) (v := .ref (r 0)) (C := R_Mo) (T := F_Mo) (N := 20) hx hb hts in_Mo hown hK hP (m_at hri (i := 20) (by decide)) rfl 0 (by decide) (hts (.fieldLink R_Mo 7 "MemoryDeskModel" "kindWords" "[I") (by decide +kernel)) (fun _ h9 => h9) rfl d_Mo_many_15 ?_
    refine lv_aload_n hx hb d_Mo_many_18 rfl (lv_at hl 0 rfl) ?_
    refine y_get (D := D) (ci := 5) (v := .ref (r 4)) (C := R_Mo) (T := F_Mo) (N := 20) hx hb hts in_Mo hown hK hP (m_at hri (i := 20) (by decide)) rfl 4 (by decide) (hts (.fieldLink R_Mo 23 "MemoryDeskModel" "objectKind" "[I") (by decide +kernel)) (fun _ h9 => h9) rfl d_Mo_many_19 ?_
    refine lv_iload_n hx hb d_Mo_many_22 rfl (lv_at hl 1 rfl) ?_
    refine y_iald (f := (S.1 4)) hx hb hK hP 2 (m_at hri (i := 4) (by decide)) rfl ho.1 d_Mo_many_23 ?_
    refine y_iald (f := (S.1 0)) hx hb hK hP 2 (m_at hri (i := 0) (by decide)) rfl ho.2 d_Mo_many_24 ?_
    refine lv_goto hx hb d_Mo_many_25 rfl ?_
    refine W.widen (k := 0) (n := 0) (by first | decide | omega) (by first | decide | omega) ?_
    exact x_ret (W.iret (v := (S.1 0 (S.1 4 o.toNatClampNeg).toNatClampNeg)) hx hb hr (w_fin rfl hAe ⟨by rw [show m_many S o = S.1 0 (S.1 4 o.toNatClampNeg).toNatClampNeg from if_pos (b_lt0 h1)], rfl⟩ hP hA hS) hS.2.2 d_Mo_many_34)
set_option maxHeartbeats 4000000 in
set_option maxRecDepth 100000 in
/-- isReference(o, k) -/
theorem c_Mo_isReference (l : Launch) (D : va_G) (cK cI cN cZ cL : ClassId) (r : Nat → Nat) (hri : m_inj r) (S : MS) (sz : Nat) (o k : Int32) (ho : m_ok S o) : x_M l y_Mo_isReference [.code y_Mo_isReference b_Mo_isReference 3 (some .boolean)] rmZ (w_Pc D (x_tys cK cI cN cZ cL) [.ref (r 20), .int o, .int k] (m_w r cN cZ cL S) sz) (w_Qc D (m_w r cN cZ cL S) sz (fun r9 g9 => r9 = .inl (some (.int (m_isr S o k))) ∧ g9 = (m_w r cN cZ cL S))) 0 0 (y_A (m_w r cN cZ cL S) sz) := by
  refine x_ofW (cc := b_Mo_isReference) (maxL := 3) (ret := (some .boolean)) (by decide) rfl ?_
  intro p e s m args below meth c s₁ B hml hno hv
  obtain ⟨rfl, hsz, hP, hE⟩ := hv
  subst hsz
  have hts := hE.hts ([.ref (r 20), .int o, .int k] : List Value).toArray
  have hK := hE.1.2.1
  have hA0 : ∀ q, s.heap.size ≤ q → y_A (m_w r cN cZ cL S) s.heap.size q := fun q h => Or.inr h
  have hA : ∀ q e, (m_w r cN cZ cL S) q = some e → y_A (m_w r cN cZ cL S) s.heap.size q := fun q e h => Or.inl (by rw [h]; exact fun z => nomatch z)
  have hS : va_S (y_A (m_w r cN cZ cL S) s.heap.size) s.heap s.heap [] := va_S.rf
  generalize hAe : y_A (m_w r cN cZ cL S) s.heap.size = A at hE hA0 hA hS ⊢
  have hx := B.exec
  have hb := B.bytes
  have hr := B.returns
  have hlocks := B.notSynchronized
  have hown : s.vm.findClass R_Mo = some m.cls := findClass_of_methodNamed B.named
  have hl := lv_entry ([.ref (r 20), .int o, .int k]) (n := 3) (Nat.le_of_ble_eq_true rfl)
  rw [lg_entry_eq]
  generalize (lg_sl ([.ref (r 20), .int o, .int k]) ++ List.replicate (3 - (lg_sl ([.ref (r 20), .int o, .int k])).length) Slot.unset).toArray = ls at hl ⊢
  have hl : lv_has ls 3 [(0, .ref (r 20)), (1, .int o), (2, .int k)] := hl
  refine lv_aload_n hx hb d_Mo_isReference_0 rfl (lv_at hl 0 rfl) ?_
  refine y_get (D := D) (ci := 5) (v := .ref (r 2)) (C := R_Mo) (T := F_Mo) (N := 20) hx hb hts in_Mo hown hK hP (m_at hri (i := 20) (by decide)) rfl 2 (by decide) (hts (.fieldLink R_Mo 16 "MemoryDeskModel" "kindRow" "[I") (by decide +kernel)) (fun _ h9 => h9) rfl d_Mo_isReference_1 ?_
  refine lv_aload_n hx hb d_Mo_isReference_4 rfl (lv_at hl 0 rfl) ?_
  refine y_get (D := D) (ci := 5) (v := .ref (r 4)) (C := R_Mo) (T := F_Mo) (N := 20) hx hb hts in_Mo hown hK hP (m_at hri (i := 20) (by decide)) rfl 4 (by decide) (hts (.fieldLink R_Mo 23 "MemoryDeskModel" "objectKind" "[I") (by decide +kernel)) (fun _ h9 => h9) rfl d_Mo_isReference_5 ?_
  refine lv_iload_n hx hb d_Mo_isReference_8 rfl (lv_at hl 1 rfl) ?_
  refine y_iald (f := (S.1 4)) hx hb hK hP 2 (m_at hri (i := 4) (by decide)) rfl ho.1 d_Mo_isReference_9 ?_
  refine y_iald (f := (S.1 2)) hx hb hK hP 2 (m_at hri (i := 2) (by decide)) rfl ho.2 d_Mo_isReference_10 ?_
  refine lv_if_ge hx hb d_Mo_isReference_11 rfl (fun h1 => ?_) (fun h1 => ?_)
  · -- ifge at 11: to 41
    refine lv_aload_n hx hb d_Mo_isReference_41 rfl (lv_at hl 0 rfl) ?_
    refine y_get (D := D) (ci := 5) (v := .ref (r 2)) (C := R_Mo) (T := F_Mo) (N := 20) hx hb hts in_Mo hown hK hP (m_at hri (i := 20) (by decide)) rfl 2 (by decide) (hts (.fieldLink R_Mo 16 "MemoryDeskModel" "kindRow" "[I") (by decide +kernel)) (fun _ h9 => h9) rfl d_Mo_isReference_42 ?_
    refine lv_aload_n hx hb d_Mo_isReference_45 rfl (lv_at hl 0 rfl) ?_
    refine y_get (D := D) (ci := 5) (v := .ref (r 4)) (C := R_Mo) (T := F_Mo) (N := 20) hx hb hts in_Mo hown hK hP (m_at hri (i := 20) (by decide)) rfl 4 (by decide) (hts (.fieldLink R_Mo 23 "MemoryDeskModel" "objectKind" "[I") (by decide +kernel)) (fun _ h9 => h9) rfl d_Mo_isReference_46 ?_
    refine lv_iload_n hx hb d_Mo_isReference_49 rfl (lv_at hl 1 rfl) ?_
    refine y_iald (f := (S.1 4)) hx hb hK hP 2 (m_at hri (i := 4) (by decide)) rfl ho.1 d_Mo_isReference_50 ?_
    refine y_iald (f := (S.1 2)) hx hb hK hP 2 (m_at hri (i := 2) (by decide)) rfl ho.2 d_Mo_isReference_51 ?_
    refine lv_if_ne hx hb d_Mo_isReference_52 rfl (fun h2 => ?_) (fun h2 => ?_)
    · -- ifne at 52: to 59
      refine lv_iconst (v := 0) hx hb d_Mo_isReference_59 (by decide) ?_
      refine W.widen (k := 0) (n := 0) (by first | decide | omega) (by first | decide | omega) ?_
      exact x_ret (W.zret (v := 0) hx hb hr rfl (w_fin rfl hAe ⟨by rw [show m_isr S o k = 0 from c_bit.n (by rw [if_neg (show ¬ m_row S o < 0 from m_nlt h1)]; exact h2)], rfl⟩ hP hA hS) hS.2.2 d_Mo_isReference_60)
    · -- ifne at 52: to 55
      refine lv_iconst (v := 1) hx hb d_Mo_isReference_55 (by decide) ?_
      refine lv_goto hx hb d_Mo_isReference_56 rfl ?_
      refine W.widen (k := 0) (n := 0) (by first | decide | omega) (by first | decide | omega) ?_
      exact x_ret (W.zret (v := 1) hx hb hr rfl (w_fin rfl hAe ⟨by rw [show m_isr S o k = 1 from c_bit.y (by rw [if_neg (show ¬ m_row S o < 0 from m_nlt h1)]; exact h2)], rfl⟩ hP hA hS) hS.2.2 d_Mo_isReference_60)
  · -- ifge at 11: to 14
    refine lv_aload_n hx hb d_Mo_isReference_14 rfl (lv_at hl 0 rfl) ?_
    refine y_get (D := D) (ci := 5) (v := .ref (r 1)) (C := R_Mo) (T := F_Mo) (N := 20) hx hb hts in_Mo hown hK hP (m_at hri (i := 20) (by decide)) rfl 1 (by decide) (hts (.fieldLink R_Mo 13 "MemoryDeskModel" "kindMask" "[I") (by decide +kernel)) (fun _ h9 => h9) rfl d_Mo_isReference_15 ?_
    refine lv_aload_n hx hb d_Mo_isReference_18 rfl (lv_at hl 0 rfl) ?_
    refine y_get (D := D) (ci := 5) (v := .ref (r 4)) (C := R_Mo) (T := F_Mo) (N := 20) hx hb hts in_Mo hown hK hP (m_at hri (i := 20) (by decide)) rfl 4 (by decide) (hts (.fieldLink R_Mo 23 "MemoryDeskModel" "objectKind" "[I") (by decide +kernel)) (fun _ h9 => h9) rfl d_Mo_isReference_19 ?_
    refine lv_iload_n hx hb d_Mo_isReference_22 rfl (lv_at hl 1 rfl) ?_
    refine y_iald (f := (S.1 4)) hx hb hK hP 2 (m_at hri (i := 4) (by decide)) rfl ho.1 d_Mo_isReference_23 ?_
    refine y_iald (f := (S.1 1)) hx hb hK hP 2 (m_at hri (i := 1) (by decide)) rfl ho.2 d_Mo_isReference_24 ?_
    refine lv_iload_n hx hb d_Mo_isReference_25 rfl (lv_at hl 2 rfl) ?_
    refine lv_ishr hx hb d_Mo_isReference_26 ?_
    refine lv_iconst (v := 1) hx hb d_Mo_isReference_27 (by decide) ?_
    refine lv_iand hx hb d_Mo_isReference_28 ?_
    refine lv_iconst (v := 1) hx hb d_Mo_isReference_29 (by decide) ?_
    refine lv_icmp_ne hx hb d_Mo_isReference_30 rfl (fun h3 => ?_) (fun h3 => ?_)
    · -- if_icmpne at 30: to 37
      refine lv_iconst (v := 0) hx hb d_Mo_isReference_37 (by decide) ?_
      refine lv_goto hx hb d_Mo_isReference_38 rfl ?_
      refine W.widen (k := 0) (n := 0) (by first | decide | omega) (by first | decide | omega) ?_
      exact x_ret (W.zret (v := 0) hx hb hr rfl (w_fin rfl hAe ⟨by rw [show m_isr S o k = 0 from c_bit.n (by rw [if_pos (show m_row S o < 0 from b_lt0 h1)]; exact h3)], rfl⟩ hP hA hS) hS.2.2 d_Mo_isReference_60)
    · -- if_icmpne at 30: to 33
      refine lv_iconst (v := 1) hx hb d_Mo_isReference_33 (by decide) ?_
      refine lv_goto hx hb d_Mo_isReference_34 rfl ?_
      refine W.widen (k := 0) (n := 0) (by first | decide | omega) (by first | decide | omega) ?_
      exact x_ret (W.zret (v := 1) hx hb hr rfl (w_fin rfl hAe ⟨by rw [show m_isr S o k = 1 from c_bit.y (by rw [if_pos (show m_row S o < 0 from b_lt0 h1)]; exact h3)], rfl⟩ hP hA hS) hS.2.2 d_Mo_isReference_60)
set_option maxHeartbeats 4000000 in
set_option maxRecDepth 100000 in
/-- takes(row, n) -/
theorem c_Mo_takes (l : Launch) (D : va_G) (cK cI cN cZ cL : ClassId) (r : Nat → Nat) (hri : m_inj r) (S : MS) (sz : Nat) (row : Int32) (n : Int64) : x_M l y_Mo_takes [.code y_Mo_takes b_Mo_takes 3 (some .long)] rmZ (w_Pc D (x_tys cK cI cN cZ cL) [.int row, .long n] (m_w r cN cZ cL S) sz) (w_Qc D (m_w r cN cZ cL S) sz (fun r9 g9 => r9 = .inl (some (.long (m_tk row n))) ∧ g9 = (m_w r cN cZ cL S))) 0 0 (y_A (m_w r cN cZ cL S) sz) := by
  refine x_ofW (cc := b_Mo_takes) (maxL := 3) (ret := (some .long)) (by decide) rfl ?_
  intro p e s m args below meth c s₁ B hml hno hv
  obtain ⟨rfl, hsz, hP, hE⟩ := hv
  subst hsz
  have hts := hE.hts ([.int row, .long n] : List Value).toArray
  have hK := hE.1.2.1
  have hA0 : ∀ q, s.heap.size ≤ q → y_A (m_w r cN cZ cL S) s.heap.size q := fun q h => Or.inr h
  have hA : ∀ q e, (m_w r cN cZ cL S) q = some e → y_A (m_w r cN cZ cL S) s.heap.size q := fun q e h => Or.inl (by rw [h]; exact fun z => nomatch z)
  have hS : va_S (y_A (m_w r cN cZ cL S) s.heap.size) s.heap s.heap [] := va_S.rf
  generalize hAe : y_A (m_w r cN cZ cL S) s.heap.size = A at hE hA0 hA hS ⊢
  have hx := B.exec
  have hb := B.bytes
  have hr := B.returns
  have hlocks := B.notSynchronized
  have hown : s.vm.findClass R_Mo = some m.cls := findClass_of_methodNamed B.named
  have hl := lv_entry ([.int row, .long n]) (n := 3) (Nat.le_of_ble_eq_true rfl)
  rw [lg_entry_eq]
  generalize (lg_sl ([.int row, .long n]) ++ List.replicate (3 - (lg_sl ([.int row, .long n])).length) Slot.unset).toArray = ls at hl ⊢
  have hl : lv_has ls 3 [(0, .int row), (1, .long n)] := hl
  refine lv_iload_n hx hb d_Mo_takes_0 rfl (lv_at hl 0 rfl) ?_
  refine lv_if_ge hx hb d_Mo_takes_1 rfl (fun h1 => ?_) (fun h1 => ?_)
  · -- ifge at 1: to 10
    refine lv_ldc2 (own := R_Mo) (index := 64) (v := 4) hx hb hown (hts (.constantLong R_Mo 64 4) (by decide +kernel)) d_Mo_takes_10 ?_
    refine lv_iload_n hx hb d_Mo_takes_13 rfl (lv_at hl 0 rfl) ?_
    refine lv_iconst (v := 4) hx hb d_Mo_takes_14 (by decide) ?_
    refine lv_icmp_ne hx hb d_Mo_takes_15 rfl (fun h2 => ?_) (fun h2 => ?_)
    · -- if_icmpne at 15: to 26
      refine lv_iload_n hx hb d_Mo_takes_26 rfl (lv_at hl 0 rfl) ?_
      refine lv_iconst (v := 2) hx hb d_Mo_takes_27 (by decide) ?_
      refine lv_icmp_ne hx hb d_Mo_takes_28 rfl (fun h3 => ?_) (fun h3 => ?_)
      · -- if_icmpne at 28: to 41
        refine lv_iload_n hx hb d_Mo_takes_41 rfl (lv_at hl 0 rfl) ?_
        refine lv_iconst (v := 1) hx hb d_Mo_takes_42 (by decide) ?_
        refine lv_icmp_ne hx hb d_Mo_takes_43 rfl (fun h4 => ?_) (fun h4 => ?_)
        · -- if_icmpne at 43: to 58
          refine lv_lload_n hx hb d_Mo_takes_58 rfl (lv_at hl 1 rfl) ?_
          refine lv_ladd hx hb d_Mo_takes_59 ?_
          refine W.widen (k := 0) (n := 0) (by first | decide | omega) (by first | decide | omega) ?_
          exact x_ret (W.lret (v := (4 + n)) hx hb hr (w_fin rfl hAe ⟨by rw [show m_tk row n = (4 + n) from (if_neg (m_nlt h1)).trans (congrArg (fun z => 4 + z) ((if_neg h2).trans ((if_neg h3).trans (if_neg h4))))], rfl⟩ hP hA hS) hS.2.2 d_Mo_takes_60)
        · -- if_icmpne at 43: to 46
          refine lv_lload_n hx hb d_Mo_takes_46 rfl (lv_at hl 1 rfl) ?_
          refine lv_ldc2 (own := R_Mo) (index := 62) (v := 3) hx hb hown (hts (.constantLong R_Mo 62 3) (by decide +kernel)) d_Mo_takes_47 ?_
          refine lv_ladd hx hb d_Mo_takes_50 ?_
          refine lv_ldc2 (own := R_Mo) (index := 64) (v := 4) hx hb hown (hts (.constantLong R_Mo 64 4) (by decide +kernel)) d_Mo_takes_51 ?_
          refine lv_ldiv hx hb d_Mo_takes_54 (by decide) ?_
          refine lv_goto hx hb d_Mo_takes_55 rfl ?_
          refine lv_ladd hx hb d_Mo_takes_59 ?_
          refine W.widen (k := 0) (n := 0) (by first | decide | omega) (by first | decide | omega) ?_
          exact x_ret (W.lret (v := (4 + (n + 3) / 4)) hx hb hr (w_fin rfl hAe ⟨by rw [show m_tk row n = (4 + (n + 3) / 4) from (if_neg (m_nlt h1)).trans (congrArg (fun z => 4 + z) ((if_neg h2).trans ((if_neg h3).trans (if_pos h4))))], rfl⟩ hP hA hS) hS.2.2 d_Mo_takes_60)
      · -- if_icmpne at 28: to 31
        refine lv_lload_n hx hb d_Mo_takes_31 rfl (lv_at hl 1 rfl) ?_
        refine lv_lconst (v := 1) hx hb d_Mo_takes_32 (by decide) ?_
        refine lv_ladd hx hb d_Mo_takes_33 ?_
        refine lv_ldc2 (own := R_Mo) (index := 66) (v := 2) hx hb hown (hts (.constantLong R_Mo 66 2) (by decide +kernel)) d_Mo_takes_34 ?_
        refine lv_ldiv hx hb d_Mo_takes_37 (by decide) ?_
        refine lv_goto hx hb d_Mo_takes_38 rfl ?_
        refine lv_ladd hx hb d_Mo_takes_59 ?_
        refine W.widen (k := 0) (n := 0) (by first | decide | omega) (by first | decide | omega) ?_
        exact x_ret (W.lret (v := (4 + (n + 1) / 2)) hx hb hr (w_fin rfl hAe ⟨by rw [show m_tk row n = (4 + (n + 1) / 2) from (if_neg (m_nlt h1)).trans (congrArg (fun z => 4 + z) ((if_neg h2).trans (if_pos h3)))], rfl⟩ hP hA hS) hS.2.2 d_Mo_takes_60)
    · -- if_icmpne at 15: to 18
      refine lv_ldc2 (own := R_Mo) (index := 66) (v := 2) hx hb hown (hts (.constantLong R_Mo 66 2) (by decide +kernel)) d_Mo_takes_18 ?_
      refine lv_lload_n hx hb d_Mo_takes_21 rfl (lv_at hl 1 rfl) ?_
      refine lv_lmul hx hb d_Mo_takes_22 ?_
      refine lv_goto hx hb d_Mo_takes_23 rfl ?_
      refine lv_ladd hx hb d_Mo_takes_59 ?_
      refine W.widen (k := 0) (n := 0) (by first | decide | omega) (by first | decide | omega) ?_
      exact x_ret (W.lret (v := (4 + 2 * n)) hx hb hr (w_fin rfl hAe ⟨by rw [show m_tk row n = (4 + 2 * n) from (if_neg (m_nlt h1)).trans (congrArg (fun z => 4 + z) (if_pos h2))], rfl⟩ hP hA hS) hS.2.2 d_Mo_takes_60)
  · -- ifge at 1: to 4
    refine lv_ldc2 (own := R_Mo) (index := 62) (v := 3) hx hb hown (hts (.constantLong R_Mo 62 3) (by decide +kernel)) d_Mo_takes_4 ?_
    refine lv_lload_n hx hb d_Mo_takes_7 rfl (lv_at hl 1 rfl) ?_
    refine lv_ladd hx hb d_Mo_takes_8 ?_
    refine W.widen (k := 0) (n := 0) (by first | decide | omega) (by first | decide | omega) ?_
    exact x_ret (W.lret (v := (3 + n)) hx hb hr (w_fin rfl hAe ⟨by rw [show m_tk row n = (3 + n) from if_pos (b_lt0 h1)], rfl⟩ hP hA hS) hS.2.2 d_Mo_takes_9)
theorem sub_neg9 {x : Int32} : x - 1 = x + -1 := by rw [Int32.sub_eq_add_neg]
set_option maxHeartbeats 4000000 in
set_option maxRecDepth 100000 in
/-- latest(o, k) -/
theorem c_Mo_latest (l : Launch) (D : va_G) (cK cI cN cZ cL : ClassId) (r : Nat → Nat) (hri : m_inj r) (S : MS) (sz : Nat) (o k : Int32) (en : Nat) (hen : S.2.2 14 = nI en) (he5 : en ≤ 514) : x_M l y_Mo_latest [.code y_Mo_latest b_Mo_latest 4 (some .long)] rmZ (w_Pc D (x_tys cK cI cN cZ cL) [.ref (r 20), .int o, .int k] (m_w r cN cZ cL S) sz) (w_Qc D (m_w r cN cZ cL S) sz (fun r9 g9 => r9 = .inl (some (.long (m_lat S o k en))) ∧ g9 = (m_w r cN cZ cL S))) 0 0 (y_A (m_w r cN cZ cL S) sz) := by
  refine x_ofW (cc := b_Mo_latest) (maxL := 4) (ret := (some .long)) (by decide) rfl ?_
  intro p e s m args below meth c s₁ B hml hno hv
  obtain ⟨rfl, hsz, hP, hE⟩ := hv
  subst hsz
  have hts := hE.hts ([.ref (r 20), .int o, .int k] : List Value).toArray
  have hK := hE.1.2.1
  have hA0 : ∀ q, s.heap.size ≤ q → y_A (m_w r cN cZ cL S) s.heap.size q := fun q h => Or.inr h
  have hA : ∀ q e, (m_w r cN cZ cL S) q = some e → y_A (m_w r cN cZ cL S) s.heap.size q := fun q e h => Or.inl (by rw [h]; exact fun z => nomatch z)
  have hS : va_S (y_A (m_w r cN cZ cL S) s.heap.size) s.heap s.heap [] := va_S.rf
  generalize hAe : y_A (m_w r cN cZ cL S) s.heap.size = A at hE hA0 hA hS ⊢
  have hx := B.exec
  have hb := B.bytes
  have hr := B.returns
  have hlocks := B.notSynchronized
  have hown : s.vm.findClass R_Mo = some m.cls := findClass_of_methodNamed B.named
  have hl := lv_entry ([.ref (r 20), .int o, .int k]) (n := 4) (Nat.le_of_ble_eq_true rfl)
  rw [lg_entry_eq]
  generalize (lg_sl ([.ref (r 20), .int o, .int k]) ++ List.replicate (4 - (lg_sl ([.ref (r 20), .int o, .int k])).length) Slot.unset).toArray = ls at hl ⊢
  have hl : lv_has ls 4 [(0, .ref (r 20)), (1, .int o), (2, .int k)] := hl
  generalize hQ : x_Q below (w_Qc D (m_w r cN cZ cL S) s.heap.size (fun r9 g9 => r9 = .inl (some (.long (m_lat S o k en))) ∧ g9 = (m_w r cN cZ cL S))) ([.ref (r 20), .int o, .int k] : List Value).toArray s 0 0 A = QQ
  have loop : ∀ (n : Nat) (ls : Array Slot), n ≤ en → lv_has ls 4 [(3, .int (nI n - 1)), (2, .int k), (1, .int o), (0, .ref (r 20))] → m_lat S o k en = m_lat S o k n → W p l e rmZ s m ([.ref (r 20), .int o, .int k] : List Value).toArray below meth c s.heap [] 0 0 QQ (F0 m 7 ls []) := by
    intro n
    induction n with
    | zero =>
      intro ls _ hl hf
      refine lv_iload_n hx hb d_Mo_latest_7 rfl (lv_at hl 0 rfl) ?_
      refine lv_if_lt hx hb d_Mo_latest_8 rfl (fun h1 => ?_) (fun h1 => (absurd (by decide +kernel) h1))
      refine lv_lconst (v := 0) hx hb d_Mo_latest_44 (by decide) ?_
      rw [← hQ]
      refine W.widen (k := 0) (n := 0) (by first | decide | omega) (by first | decide | omega) ?_
      exact x_ret (W.lret (v := 0) hx hb hr (w_fin rfl hAe ⟨by rw [hf]; rfl, rfl⟩ hP hA hS) hS.2.2 d_Mo_latest_45)
    | succ n ih =>
      intro ls hn9 hl hf
      rw [nI_pred] at hl
      refine lv_iload_n hx hb d_Mo_latest_7 rfl (lv_at hl 0 rfl) ?_
      have hin9 : vp_in (nI n) 514 := vp_in_nI (by omega) (by decide)
      have hcl : (nI n).toNatClampNeg = n := nI_clamp (by omega)
      refine lv_if_lt hx hb d_Mo_latest_8 rfl (fun h2 => (absurd h2 (nI_pos (by omega)))) (fun h2 => ?_)
      refine lv_aload_n hx hb d_Mo_latest_11 rfl (lv_at hl 3 rfl) ?_
      refine y_get (D := D) (ci := 5) (v := .ref (r 11)) (C := R_Mo) (T := F_Mo) (N := 20) hx hb hts in_Mo hown hK hP (m_at hri (i := 20) (by decide)) rfl 11 (by decide) (hts (.fieldLink R_Mo 37 "MemoryDeskModel" "into" "[I") (by decide +kernel)) (fun _ h9 => h9) rfl d_Mo_latest_12 ?_
      refine lv_iload_n hx hb d_Mo_latest_15 rfl (lv_at hl 0 rfl) ?_
      refine y_iald (f := (S.1 11)) hx hb hK hP 2 (m_at hri (i := 11) (by decide)) rfl hin9 d_Mo_latest_16 ?_
      refine lv_iload_n hx hb d_Mo_latest_17 rfl (lv_at hl 2 rfl) ?_
      refine lv_icmp_ne hx hb d_Mo_latest_18 rfl (fun h3 => ?_) (fun h3 => ?_)
      · -- if_icmpne at 18: to 38
        refine lv_iinc (k := 0) (v := ((nI n) + (-1))) hx hb d_Mo_latest_38 hl rfl rfl (by decide) rfl (fun ls hl => ?_)
        have hl : lv_has ls 4 [(3, .int ((nI n) + (-1))), (2, .int k), (1, .int o), (0, .ref (r 20))] := hl
        refine lv_goto hx hb d_Mo_latest_41 rfl ?_
        refine ih ls (by omega) (by rw [sub_neg9]; exact hl) (hf.trans (if_neg ?_))
        intro z
        exact h3 (by rw [hcl]; exact z.1)
      · -- if_icmpne at 18: to 21
        refine lv_aload_n hx hb d_Mo_latest_21 rfl (lv_at hl 3 rfl) ?_
        refine y_get (D := D) (ci := 5) (v := .ref (r 12)) (C := R_Mo) (T := F_Mo) (N := 20) hx hb hts in_Mo hown hK hP (m_at hri (i := 20) (by decide)) rfl 12 (by decide) (hts (.fieldLink R_Mo 40 "MemoryDeskModel" "where" "[I") (by decide +kernel)) (fun _ h9 => h9) rfl d_Mo_latest_22 ?_
        refine lv_iload_n hx hb d_Mo_latest_25 rfl (lv_at hl 0 rfl) ?_
        refine y_iald (f := (S.1 12)) hx hb hK hP 2 (m_at hri (i := 12) (by decide)) rfl hin9 d_Mo_latest_26 ?_
        refine lv_iload_n hx hb d_Mo_latest_27 rfl (lv_at hl 1 rfl) ?_
        refine lv_icmp_ne hx hb d_Mo_latest_28 rfl (fun h4 => ?_) (fun h4 => ?_)
        · -- if_icmpne at 28: to 38
          refine lv_iinc (k := 0) (v := ((nI n) + (-1))) hx hb d_Mo_latest_38 hl rfl rfl (by decide) rfl (fun ls hl => ?_)
          have hl : lv_has ls 4 [(3, .int ((nI n) + (-1))), (2, .int k), (1, .int o), (0, .ref (r 20))] := hl
          refine lv_goto hx hb d_Mo_latest_41 rfl ?_
          refine ih ls (by omega) (by rw [sub_neg9]; exact hl) (hf.trans (if_neg ?_))
          intro z
          exact h4 (by rw [hcl]; exact z.2)
        · -- if_icmpne at 28: to 31
          refine lv_aload_n hx hb d_Mo_latest_31 rfl (lv_at hl 3 rfl) ?_
          refine y_get (D := D) (ci := 5) (v := .ref (r 13)) (C := R_Mo) (T := F_Mo) (N := 20) hx hb hts in_Mo hown hK hP (m_at hri (i := 20) (by decide)) rfl 13 (by decide) (hts (.fieldLink R_Mo 43 "MemoryDeskModel" "value" "[J") (by decide +kernel)) (fun _ h9 => h9) rfl d_Mo_latest_32 ?_
          refine lv_iload_n hx hb d_Mo_latest_35 rfl (lv_at hl 0 rfl) ?_
          refine y_lald (f := S.2.1) hx hb hK hP 4 (m_at hri (i := 13) (by decide)) rfl hin9 d_Mo_latest_36 ?_
          rw [← hQ]
          refine W.widen (k := 0) (n := 0) (by first | decide | omega) (by first | decide | omega) ?_
          exact x_ret (W.lret (v := (S.2.1 (nI n).toNatClampNeg)) hx hb hr (w_fin rfl hAe ⟨by rw [hf, show m_lat S o k (n + 1) = S.2.1 n from if_pos ⟨by rw [← hcl]; exact h3, by rw [← hcl]; exact h4⟩, hcl], rfl⟩ hP hA hS) hS.2.2 d_Mo_latest_37)
  refine lv_aload_n hx hb d_Mo_latest_0 rfl (lv_at hl 0 rfl) ?_
  refine y_get (D := D) (ci := 5) (v := .int (S.2.2 14)) (C := R_Mo) (T := F_Mo) (N := 20) hx hb hts in_Mo hown hK hP (m_at hri (i := 20) (by decide)) rfl 14 (by decide) (hts (.fieldLink R_Mo 68 "MemoryDeskModel" "entries" "I") (by decide +kernel)) (fun _ h9 => h9) rfl d_Mo_latest_1 ?_
  rw [hen]
  refine lv_iconst (v := 1) hx hb d_Mo_latest_4 (by decide) ?_
  refine lv_isub hx hb d_Mo_latest_5 ?_
  refine lv_istore_n hx hb d_Mo_latest_6 rfl hl (by decide) rfl (fun ls hl => ?_)
  have hl : lv_has ls 4 [(3, .int ((nI en) - 1)), (0, .ref (r 20)), (1, .int o), (2, .int k)] := hl
  have hl : lv_has ls 4 [(3, .int ((nI en) - 1)), (2, .int k), (1, .int o), (0, .ref (r 20))] := lv_sub hl [0, 3, 2, 1] rfl
  exact loop en ls (Nat.le_refl _) hl rfl
set_option maxHeartbeats 4000000 in
set_option maxRecDepth 100000 in
/-- enter(o, k, v) -/
theorem c_Mo_enter (l : Launch) (D : va_G) (cK cI cN cZ cL : ClassId) (r : Nat → Nat) (hri : m_inj r) (S : MS) (sz : Nat) (o k : Int32) (v : Int64) (en : Nat) (hen : S.2.2 14 = nI en) (he5 : en < 514) : x_M l y_Mo_enter [.code y_Mo_enter b_Mo_enter 5 none] rmZ (w_Pc D (x_tys cK cI cN cZ cL) [.ref (r 20), .int o, .int k, .long v] (m_w r cN cZ cL S) sz) (w_Qc D (m_w r cN cZ cL S) sz (fun r9 g9 => r9 = .inl none ∧ g9 = (m_w r cN cZ cL (m_l (m_s (m_a (m_a S 11 en o) 12 en k) 14 (nI (en + 1))) en v)))) 0 0 (y_A (m_w r cN cZ cL S) sz) := by
  refine x_ofW (cc := b_Mo_enter) (maxL := 5) (ret := none) (by decide) rfl ?_
  intro p e s m args below meth c s₁ B hml hno hv
  obtain ⟨rfl, hsz, hP, hE⟩ := hv
  subst hsz
  have hts := hE.hts ([.ref (r 20), .int o, .int k, .long v] : List Value).toArray
  have hK := hE.1.2.1
  have hA0 : ∀ q, s.heap.size ≤ q → y_A (m_w r cN cZ cL S) s.heap.size q := fun q h => Or.inr h
  have hA : ∀ q e, (m_w r cN cZ cL S) q = some e → y_A (m_w r cN cZ cL S) s.heap.size q := fun q e h => Or.inl (by rw [h]; exact fun z => nomatch z)
  have hS : va_S (y_A (m_w r cN cZ cL S) s.heap.size) s.heap s.heap [] := va_S.rf
  generalize hAe : y_A (m_w r cN cZ cL S) s.heap.size = A at hE hA0 hA hS ⊢
  have hx := B.exec
  have hb := B.bytes
  have hr := B.returns
  have hlocks := B.notSynchronized
  have hown : s.vm.findClass R_Mo = some m.cls := findClass_of_methodNamed B.named
  have hl := lv_entry ([.ref (r 20), .int o, .int k, .long v]) (n := 5) (Nat.le_of_ble_eq_true rfl)
  rw [lg_entry_eq]
  generalize (lg_sl ([.ref (r 20), .int o, .int k, .long v]) ++ List.replicate (5 - (lg_sl ([.ref (r 20), .int o, .int k, .long v])).length) Slot.unset).toArray = ls at hl ⊢
  have hl : lv_has ls 5 [(0, .ref (r 20)), (1, .int o), (2, .int k), (3, .long v)] := hl
  have hin9 : vp_in (S.2.2 14) 514 := by rw [hen]; exact vp_in_nI he5 (by decide)
  refine lv_aload_n hx hb d_Mo_enter_0 rfl (lv_at hl 0 rfl) ?_
  refine y_get (D := D) (ci := 5) (v := .ref (r 11)) (C := R_Mo) (T := F_Mo) (N := 20) hx hb hts in_Mo hown hK hP (m_at hri (i := 20) (by decide)) rfl 11 (by decide) (hts (.fieldLink R_Mo 37 "MemoryDeskModel" "into" "[I") (by decide +kernel)) (fun _ h9 => h9) rfl d_Mo_enter_1 ?_
  refine lv_aload_n hx hb d_Mo_enter_4 rfl (lv_at hl 0 rfl) ?_
  refine y_get (D := D) (ci := 5) (v := .int (S.2.2 14)) (C := R_Mo) (T := F_Mo) (N := 20) hx hb hts in_Mo hown hK hP (m_at hri (i := 20) (by decide)) rfl 14 (by decide) (hts (.fieldLink R_Mo 68 "MemoryDeskModel" "entries" "I") (by decide +kernel)) (fun _ h9 => h9) rfl d_Mo_enter_5 ?_
  refine lv_iload_n hx hb d_Mo_enter_8 rfl (lv_at hl 1 rfl) ?_
  refine y_iast (f := (S.1 11)) hx hb hK hP hA hS 2 (m_at hri (i := 11) (by decide)) rfl hin9 d_Mo_enter_9 (fun H locs hP hA hS => ?_)
  have e9 : va_up (m_w r cN cZ cL S) (r 11) (some (.inl (cN, 514, .inl (upd (S.1 11) (S.2.2 14).toNatClampNeg o)))) = (m_w r cN cZ cL (m_a S 11 (S.2.2 14).toNatClampNeg o)) := m_wa11 hri S (S.2.2 14).toNatClampNeg o
  have hP : y_P D vwCl (m_w r cN cZ cL (m_a S 11 (S.2.2 14).toNatClampNeg o)) H := by rw [← e9]; exact hP
  have hA : ∀ q99 e99, (m_w r cN cZ cL (m_a S 11 (S.2.2 14).toNatClampNeg o)) q99 = some e99 → A q99 := by rw [← e9]; exact hA
  refine lv_aload_n hx hb d_Mo_enter_10 rfl (lv_at hl 0 rfl) ?_
  refine y_get (D := D) (ci := 5) (v := .ref (r 12)) (C := R_Mo) (T := F_Mo) (N := 20) hx hb hts in_Mo hown hK hP (m_at hri (i := 20) (by decide)) rfl 12 (by decide) (hts (.fieldLink R_Mo 40 "MemoryDeskModel" "where" "[I") (by decide +kernel)) (fun _ h9 => h9) rfl d_Mo_enter_11 ?_
  refine lv_aload_n hx hb d_Mo_enter_14 rfl (lv_at hl 0 rfl) ?_
  refine y_get (D := D) (ci := 5) (v := .int (S.2.2 14)) (C := R_Mo) (T := F_Mo) (N := 20) hx hb hts in_Mo hown hK hP (m_at hri (i := 20) (by decide)) rfl 14 (by decide) (hts (.fieldLink R_Mo 68 "MemoryDeskModel" "entries" "I") (by decide +kernel)) (fun _ h9 => h9) rfl d_Mo_enter_15 ?_
  refine lv_iload_n hx hb d_Mo_enter_18 rfl (lv_at hl 2 rfl) ?_
  refine y_iast (f := (S.1 12)) hx hb hK hP hA hS 2 (m_at hri (i := 12) (by decide)) rfl hin9 d_Mo_enter_19 (fun H locs hP hA hS => ?_)
  have e9 : va_up (m_w r cN cZ cL (m_a S 11 (S.2.2 14).toNatClampNeg o)) (r 12) (some (.inl (cN, 514, .inl (upd (S.1 12) (S.2.2 14).toNatClampNeg k)))) = (m_w r cN cZ cL (m_a (m_a S 11 (S.2.2 14).toNatClampNeg o) 12 (S.2.2 14).toNatClampNeg k)) := m_wa12 hri (m_a S 11 (S.2.2 14).toNatClampNeg o) (S.2.2 14).toNatClampNeg k
  have hP : y_P D vwCl (m_w r cN cZ cL (m_a (m_a S 11 (S.2.2 14).toNatClampNeg o) 12 (S.2.2 14).toNatClampNeg k)) H := by rw [← e9]; exact hP
  have hA : ∀ q99 e99, (m_w r cN cZ cL (m_a (m_a S 11 (S.2.2 14).toNatClampNeg o) 12 (S.2.2 14).toNatClampNeg k)) q99 = some e99 → A q99 := by rw [← e9]; exact hA
  refine lv_aload_n hx hb d_Mo_enter_20 rfl (lv_at hl 0 rfl) ?_
  refine y_get (D := D) (ci := 5) (v := .ref (r 13)) (C := R_Mo) (T := F_Mo) (N := 20) hx hb hts in_Mo hown hK hP (m_at hri (i := 20) (by decide)) rfl 13 (by decide) (hts (.fieldLink R_Mo 43 "MemoryDeskModel" "value" "[J") (by decide +kernel)) (fun _ h9 => h9) rfl d_Mo_enter_21 ?_
  refine lv_aload_n hx hb d_Mo_enter_24 rfl (lv_at hl 0 rfl) ?_
  refine lv_dup hx hb d_Mo_enter_25 rfl ?_
  refine y_get (D := D) (ci := 5) (v := .int (S.2.2 14)) (C := R_Mo) (T := F_Mo) (N := 20) hx hb hts in_Mo hown hK hP (m_at hri (i := 20) (by decide)) rfl 14 (by decide) (hts (.fieldLink R_Mo 68 "MemoryDeskModel" "entries" "I") (by decide +kernel)) (fun _ h9 => h9) rfl d_Mo_enter_26 ?_
  refine lv_dup_x1 hx hb d_Mo_enter_29 rfl rfl ?_
  refine lv_iconst (v := 1) hx hb d_Mo_enter_30 (by decide) ?_
  refine lv_iadd hx hb d_Mo_enter_31 ?_
  refine y_put (D := D) (ci := 5) (v := .int ((S.2.2 14) + 1)) (ty := .int) (C := R_Mo) (T := F_Mo) (N := 20) hx hb hts in_Mo t_Mo t_Mo_ok n_Mo hown hK hP hA hS (m_at hri (i := 20) (by decide)) rfl 14 (by decide) (hts (.fieldLink R_Mo 68 "MemoryDeskModel" "entries" "I") (by decide +kernel)) (fun _ h9 => h9) rfl (by decide +kernel) rfl rfl (Nat.le_of_ble_eq_true rfl) d_Mo_enter_32 (fun H locs hP hA hS => ?_)
  have e9 : va_up (m_w r cN cZ cL (m_a (m_a S 11 (S.2.2 14).toNatClampNeg o) 12 (S.2.2 14).toNatClampNeg k)) (r 20) (some (.inr (5, [.ref (r 0), .ref (r 1), .ref (r 2), .ref (r 3), .ref (r 4), .ref (r 5), .ref (r 6), .int (S.2.2 7), .int (S.2.2 8), .int (S.2.2 9), .int (S.2.2 10), .ref (r 11), .ref (r 12), .ref (r 13), .int ((S.2.2 14) + 1), .ref (r 15), .ref (r 16), .ref (r 17), .ref (r 18), .int (S.2.2 19)]))) = (m_w r cN cZ cL (m_s (m_a (m_a S 11 (S.2.2 14).toNatClampNeg o) 12 (S.2.2 14).toNatClampNeg k) 14 ((S.2.2 14) + 1))) := m_ws14 hri (m_a (m_a S 11 (S.2.2 14).toNatClampNeg o) 12 (S.2.2 14).toNatClampNeg k) ((S.2.2 14) + 1)
  have hP : y_P D vwCl (m_w r cN cZ cL (m_s (m_a (m_a S 11 (S.2.2 14).toNatClampNeg o) 12 (S.2.2 14).toNatClampNeg k) 14 ((S.2.2 14) + 1))) H := by rw [← e9]; exact hP
  have hA : ∀ q99 e99, (m_w r cN cZ cL (m_s (m_a (m_a S 11 (S.2.2 14).toNatClampNeg o) 12 (S.2.2 14).toNatClampNeg k) 14 ((S.2.2 14) + 1))) q99 = some e99 → A q99 := by rw [← e9]; exact hA
  refine lv_lload_n hx hb d_Mo_enter_35 rfl (lv_at hl 3 rfl) ?_
  refine y_last (f := S.2.1) hx hb hK hP hA hS 4 (m_at hri (i := 13) (by decide)) rfl hin9 d_Mo_enter_36 (fun H locs hP hA hS => ?_)
  have e9 : va_up (m_w r cN cZ cL (m_s (m_a (m_a S 11 (S.2.2 14).toNatClampNeg o) 12 (S.2.2 14).toNatClampNeg k) 14 ((S.2.2 14) + 1))) (r 13) (some (.inl (cL, 514, .inr (.inl (vp_updL S.2.1 (S.2.2 14).toNatClampNeg v))))) = (m_w r cN cZ cL (m_l (m_s (m_a (m_a S 11 (S.2.2 14).toNatClampNeg o) 12 (S.2.2 14).toNatClampNeg k) 14 ((S.2.2 14) + 1)) (S.2.2 14).toNatClampNeg v)) := m_wl hri (m_s (m_a (m_a S 11 (S.2.2 14).toNatClampNeg o) 12 (S.2.2 14).toNatClampNeg k) 14 ((S.2.2 14) + 1)) (S.2.2 14).toNatClampNeg v
  have hP : y_P D vwCl (m_w r cN cZ cL (m_l (m_s (m_a (m_a S 11 (S.2.2 14).toNatClampNeg o) 12 (S.2.2 14).toNatClampNeg k) 14 ((S.2.2 14) + 1)) (S.2.2 14).toNatClampNeg v)) H := by rw [← e9]; exact hP
  have hA : ∀ q99 e99, (m_w r cN cZ cL (m_l (m_s (m_a (m_a S 11 (S.2.2 14).toNatClampNeg o) 12 (S.2.2 14).toNatClampNeg k) 14 ((S.2.2 14) + 1)) (S.2.2 14).toNatClampNeg v)) q99 = some e99 → A q99 := by rw [← e9]; exact hA
  refine W.widen (k := 0) (n := 0) (by first | decide | omega) (by first | decide | omega) ?_
  exact x_ret (W.vret hx hb hr (w_fin rfl hAe ⟨rfl, by rw [hen, show (nI en).toNatClampNeg = en from nI_clamp (by omega), nI_1]⟩ hP hA hS) hS.2.2 d_Mo_enter_37)
set_option maxHeartbeats 4000000 in
set_option maxRecDepth 100000 in
/-- cut(o, v) -/
theorem c_Mo_cut (l : Launch) (D : va_G) (cK cI cN cZ cL : ClassId) (r : Nat → Nat) (hri : m_inj r) (S : MS) (sz : Nat) (o : Int32) (v : Int64) (ho : m_ok S o) : x_M l y_Mo_cut [.code y_Mo_cut b_Mo_cut 5 (some .long)] rmZ (w_Pc D (x_tys cK cI cN cZ cL) [.ref (r 20), .int o, .long v] (m_w r cN cZ cL S) sz) (w_Qc D (m_w r cN cZ cL S) sz (fun r9 g9 => r9 = .inl (some (.long (m_cut S o v))) ∧ g9 = (m_w r cN cZ cL S))) 0 0 (y_A (m_w r cN cZ cL S) sz) := by
  refine x_ofW (cc := b_Mo_cut) (maxL := 5) (ret := (some .long)) (by decide) rfl ?_
  intro p e s m args below meth c s₁ B hml hno hv
  obtain ⟨rfl, hsz, hP, hE⟩ := hv
  subst hsz
  have hts := hE.hts ([.ref (r 20), .int o, .long v] : List Value).toArray
  have hK := hE.1.2.1
  have hA0 : ∀ q, s.heap.size ≤ q → y_A (m_w r cN cZ cL S) s.heap.size q := fun q h => Or.inr h
  have hA : ∀ q e, (m_w r cN cZ cL S) q = some e → y_A (m_w r cN cZ cL S) s.heap.size q := fun q e h => Or.inl (by rw [h]; exact fun z => nomatch z)
  have hS : va_S (y_A (m_w r cN cZ cL S) s.heap.size) s.heap s.heap [] := va_S.rf
  generalize hAe : y_A (m_w r cN cZ cL S) s.heap.size = A at hE hA0 hA hS ⊢
  have hx := B.exec
  have hb := B.bytes
  have hr := B.returns
  have hlocks := B.notSynchronized
  have hown : s.vm.findClass R_Mo = some m.cls := findClass_of_methodNamed B.named
  have hl := lv_entry ([.ref (r 20), .int o, .long v]) (n := 5) (Nat.le_of_ble_eq_true rfl)
  rw [lg_entry_eq]
  generalize (lg_sl ([.ref (r 20), .int o, .long v]) ++ List.replicate (5 - (lg_sl ([.ref (r 20), .int o, .long v])).length) Slot.unset).toArray = ls at hl ⊢
  have hl : lv_has ls 5 [(0, .ref (r 20)), (1, .int o), (2, .long v)] := hl
  refine lv_aload_n hx hb d_Mo_cut_0 rfl (lv_at hl 0 rfl) ?_
  refine y_get (D := D) (ci := 5) (v := .ref (r 2)) (C := R_Mo) (T := F_Mo) (N := 20) hx hb hts in_Mo hown hK hP (m_at hri (i := 20) (by decide)) rfl 2 (by decide) (hts (.fieldLink R_Mo 16 "MemoryDeskModel" "kindRow" "[I") (by decide +kernel)) (fun _ h9 => h9) rfl d_Mo_cut_1 ?_
  refine lv_aload_n hx hb d_Mo_cut_4 rfl (lv_at hl 0 rfl) ?_
  refine y_get (D := D) (ci := 5) (v := .ref (r 4)) (C := R_Mo) (T := F_Mo) (N := 20) hx hb hts in_Mo hown hK hP (m_at hri (i := 20) (by decide)) rfl 4 (by decide) (hts (.fieldLink R_Mo 23 "MemoryDeskModel" "objectKind" "[I") (by decide +kernel)) (fun _ h9 => h9) rfl d_Mo_cut_5 ?_
  refine lv_iload_n hx hb d_Mo_cut_8 rfl (lv_at hl 1 rfl) ?_
  refine y_iald (f := (S.1 4)) hx hb hK hP 2 (m_at hri (i := 4) (by decide)) rfl ho.1 d_Mo_cut_9 ?_
  refine y_iald (f := (S.1 2)) hx hb hK hP 2 (m_at hri (i := 2) (by decide)) rfl ho.2 d_Mo_cut_10 ?_
  refine lv_istore hx hb d_Mo_cut_11 hl (by decide) rfl (fun ls hl => ?_)
  have hl : lv_has ls 5 [(4, .int ((S.1 2) ((S.1 4) o.toNatClampNeg).toNatClampNeg)), (0, .ref (r 20)), (1, .int o), (2, .long v)] := hl
  refine lv_iload hx hb d_Mo_cut_13 (lv_at hl 0 rfl) ?_
  refine lv_iconst (v := 1) hx hb d_Mo_cut_15 (by decide) ?_
  refine lv_icmp_ne hx hb d_Mo_cut_16 rfl (fun h1 => ?_) (fun h1 => ?_)
  · -- if_icmpne at 16: to 26
    refine lv_iload hx hb d_Mo_cut_26 (lv_at hl 0 rfl) ?_
    refine lv_iconst (v := 2) hx hb d_Mo_cut_28 (by decide) ?_
    refine lv_icmp_ne hx hb d_Mo_cut_29 rfl (fun h2 => ?_) (fun h2 => ?_)
    · -- if_icmpne at 29: to 39
      refine lv_iload hx hb d_Mo_cut_39 (lv_at hl 0 rfl) ?_
      refine lv_iconst (v := 4) hx hb d_Mo_cut_41 (by decide) ?_
      refine lv_icmp_ne hx hb d_Mo_cut_42 rfl (fun h3 => ?_) (fun h3 => ?_)
      · -- if_icmpne at 42: to 49
        refine lv_lload_n hx hb d_Mo_cut_49 rfl (lv_at hl 3 rfl) ?_
        refine lv_l2i hx hb d_Mo_cut_50 rfl ?_
        refine lv_i2l hx hb d_Mo_cut_51 rfl ?_
        refine W.widen (k := 0) (n := 0) (by first | decide | omega) (by first | decide | omega) ?_
        exact x_ret (W.lret (v := v.toInt32.toInt64) hx hb hr (w_fin rfl hAe ⟨by rw [show m_cut S o v = v.toInt32.toInt64 from (if_neg h1).trans ((if_neg h2).trans (if_neg h3))], rfl⟩ hP hA hS) hS.2.2 d_Mo_cut_52)
      · -- if_icmpne at 42: to 45
        refine lv_lload_n hx hb d_Mo_cut_45 rfl (lv_at hl 3 rfl) ?_
        refine lv_goto hx hb d_Mo_cut_46 rfl ?_
        refine W.widen (k := 0) (n := 0) (by first | decide | omega) (by first | decide | omega) ?_
        exact x_ret (W.lret (v := v) hx hb hr (w_fin rfl hAe ⟨by rw [show m_cut S o v = v from (if_neg h1).trans ((if_neg h2).trans (if_pos h3))], rfl⟩ hP hA hS) hS.2.2 d_Mo_cut_52)
    · -- if_icmpne at 29: to 32
      refine lv_lload_n hx hb d_Mo_cut_32 rfl (lv_at hl 3 rfl) ?_
      refine lv_l2i hx hb d_Mo_cut_33 rfl ?_
      refine lv_i2c hx hb d_Mo_cut_34 rfl ?_
      refine lv_i2l hx hb d_Mo_cut_35 rfl ?_
      refine lv_goto hx hb d_Mo_cut_36 rfl ?_
      refine W.widen (k := 0) (n := 0) (by first | decide | omega) (by first | decide | omega) ?_
      exact x_ret (W.lret (v := (v.toInt32.toUInt32 % 65536).toInt32.toInt64) hx hb hr (w_fin rfl hAe ⟨by rw [show m_cut S o v = (v.toInt32.toUInt32 % 65536).toInt32.toInt64 from (if_neg h1).trans (if_pos h2)], rfl⟩ hP hA hS) hS.2.2 d_Mo_cut_52)
  · -- if_icmpne at 16: to 19
    refine lv_lload_n hx hb d_Mo_cut_19 rfl (lv_at hl 3 rfl) ?_
    refine lv_l2i hx hb d_Mo_cut_20 rfl ?_
    refine lv_i2b hx hb d_Mo_cut_21 rfl ?_
    refine lv_i2l hx hb d_Mo_cut_22 rfl ?_
    refine lv_goto hx hb d_Mo_cut_23 rfl ?_
    refine W.widen (k := 0) (n := 0) (by first | decide | omega) (by first | decide | omega) ?_
    exact x_ret (W.lret (v := v.toInt32.toInt8.toInt32.toInt64) hx hb hr (w_fin rfl hAe ⟨by rw [show m_cut S o v = v.toInt32.toInt8.toInt32.toInt64 from if_pos h1], rfl⟩ hP hA hS) hS.2.2 d_Mo_cut_52)
