/-! the reference: get, put, link, follow, memory, collect -/
abbrev rmX : Room := { frames := 3, cells := 0, slots := 0, locals := 100 }
theorem w_RF0 : False ↔ (0 : Int32) = 1 := ⟨False.elim, fun z => absurd z (by decide)⟩
theorem w_RF1 : True ↔ (1 : Int32) = 1 := ⟨fun _ => rfl, fun _ => trivial⟩
set_option maxHeartbeats 4000000 in
set_option maxRecDepth 100000 in
/-- get(s, k) -/
theorem c_Mo_get (l : Launch) (D : va_G) (cK cI cN cZ cL : ClassId) (r : Nat → Nat) (hri : m_inj r) (S : MS) (sz : Nat) (a : Ab) (cn : Nat) (sv k : Int32) (hw : a_W a cn) (hc : cn ≤ 512) (hR : m_R a S cn)  : x_M l y_Mo_get [.code y_Mo_get b_Mo_get 4 (some .long)] rmX (w_Pc D (x_tys cK cI cN cZ cL) [.ref (r 20), .int sv, .int k] (m_w r cN cZ cL S) sz) (w_Qc D (m_w r cN cZ cL S) sz (fun r9 g9 => m_aL (s_get a sv k) r9 ∧ m_E r cN cZ cL (s_get a sv k) cn g9)) 0 0 (y_A (m_w r cN cZ cL S) sz) := by
  refine x_ofW (cc := b_Mo_get) (maxL := 4) (ret := (some .long)) (by decide) rfl ?_
  intro p e s m args below meth c s₁ B hml hno hv
  obtain ⟨rfl, hsz, hP, hE⟩ := hv
  subst hsz
  have hts := hE.hts ([.ref (r 20), .int sv, .int k] : List Value).toArray
  have hK := hE.1.2.1
  have hA0 : ∀ q, s.heap.size ≤ q → y_A (m_w r cN cZ cL S) s.heap.size q := fun q h => Or.inr h
  have hA : ∀ q e, (m_w r cN cZ cL S) q = some e → y_A (m_w r cN cZ cL S) s.heap.size q := fun q e h => Or.inl (by rw [h]; exact fun z => nomatch z)
  have hS : va_S (y_A (m_w r cN cZ cL S) s.heap.size) s.heap s.heap [] := va_S.rf
  generalize hAe : y_A (m_w r cN cZ cL S) s.heap.size = A at hE hA0 hA hS ⊢
  have hx := B.exec
  have hb := B.bytes
  have hr := B.returns
  have hlocks := B.notSynchronized
  have hown : s.vm.findClass R_Mo = some m.cls := findClass_of_methodNamed B.named
  have hl := lv_entry ([.ref (r 20), .int sv, .int k]) (n := 4) (Nat.le_of_ble_eq_true rfl)
  rw [lg_entry_eq]
  generalize (lg_sl ([.ref (r 20), .int sv, .int k]) ++ List.replicate (4 - (lg_sl ([.ref (r 20), .int sv, .int k])).length) Slot.unset).toArray = ls at hl ⊢
  have hl : lv_has ls 4 [(0, .ref (r 20)), (1, .int sv), (2, .int k)] := hl
  have hR0 := hR
  have hn : a.n ≤ cn := hw.2.2.2.2.2.2.2.2.2.1
  have hmm : a.mem ≤ 65536 := hw.2.2.2.2.2.2.2.2.1
  obtain ⟨r1, ⟨r2, r3, r4, r5⟩, r6, r7, r8, r9, r10, en, r11, r12, r13, r14⟩ := hR
  refine lv_aload_n hx hb d_Mo_get_0 rfl (lv_at hl 0 rfl) ?_
  refine lv_iload_n hx hb d_Mo_get_1 rfl (lv_at hl 1 rfl) ?_
  refine lv_iload_n hx hb d_Mo_get_2 rfl (lv_at hl 2 rfl) ?_
  refine lv_iconst (v := 0) hx hb d_Mo_get_3 (by decide) ?_
  refine w_callV (As := [.int sv, .int k, .int 0]) (C := R_Mo) ⟨hx, hb, hml, hown, hts⟩ (c_Mo_placed l D cK cI cN cZ cL r hri S _ a cn sv k 0 False w_RF0 (Or.inl rfl) hw hc (hR0)) (x_cb (cwV (own := R_Mo) (index := 104) (C := R_Mo) 3 hts (x_gi (by decide +kernel)) rfl rfl rfl (by decide +kernel) ⟨by decide, by decide⟩).1) (hts (.instanceMethod y_Mo_placed) (by decide +kernel)) (hts (.selects R_Mo y_Mo_placed y_Mo_placed) (by decide +kernel)) (y_recv (ci := 5) (q := (R_Mo, F_Mo, 20)) hK hP rfl (m_at hri (i := 20) (by decide))) hE hP hA hA0 hS rfl hl.1 rfl (lv_room (Nat.le_of_ble_eq_true rfl)) d_Mo_get_4 (by first | decide | omega) (by first | decide | omega) (fun v9 g9 H locs hq9 hP hA hS => ?_) (fun E9 q9 ce9 g9 H locs hq9 hP hA hS z1 z2 z3 => ?_)
  rotate_left
  · rcases hq9 with ⟨i, -, z, -⟩ | ⟨-, -, -, -, z, -⟩ <;> exact nomatch z
  rcases hq9 with ⟨i, hi, hv9, hg9⟩ | ⟨hs9, ho0, hrr, hspl, hv9, hg9⟩
  · cases hv9
    rw [hg9] at hP hA
    refine W.eq (g2 := F0 m 7 ls [.int 0]) rfl ?_
    refine lv_istore_n hx hb d_Mo_get_7 rfl hl (by decide) rfl (fun ls hl => ?_)
    have hl : lv_has ls 4 [(3, .int 0), (0, .ref (r 20)), (1, .int sv), (2, .int k)] := hl
    refine lv_iload_n hx hb d_Mo_get_8 rfl (lv_at hl 0 rfl) ?_
    refine lv_if_ne hx hb d_Mo_get_9 rfl (fun h1 => (absurd rfl h1)) (fun h1 => ?_)
    refine lv_lconst (v := 0) hx hb d_Mo_get_12 (by decide) ?_
    refine lv_goto hx hb d_Mo_get_13 rfl ?_
    refine W.widen (k := 0) (n := 0) (by first | decide | omega) (by first | decide | omega) ?_
    exact x_ret (W.lret (v := 0) hx hb hr (w_fin rfl hAe ⟨m_badL (i := i) (hi _), m_bad (i := i) (hi _) rfl (((hR0).err 0).err _)⟩ hP hA hS) hS.2.2 d_Mo_get_22)
  · cases hv9
    rw [hg9] at hP hA
    refine W.eq (g2 := F0 m 7 ls [.int (nI (a.sl (j_n sv)))]) rfl ?_
    have o1 : 1 ≤ (a.sl (j_n sv)) := by omega
    have o2 := hw.2.2.1 (j_n sv) hs9.j32
    have hR1 := (hR0).err 0
    obtain ⟨hok, hcl, -⟩ := hR1.ok hw hc o1 o2
    have hne : ¬ nI (a.sl (j_n sv)) = 0 := nI_ne0 (by omega) (by omega)
    refine lv_istore_n hx hb d_Mo_get_7 rfl hl (by decide) rfl (fun ls hl => ?_)
    have hl : lv_has ls 4 [(3, .int (nI (a.sl (j_n sv)))), (0, .ref (r 20)), (1, .int sv), (2, .int k)] := hl
    refine lv_iload_n hx hb d_Mo_get_8 rfl (lv_at hl 0 rfl) ?_
    refine lv_if_ne hx hb d_Mo_get_9 rfl (fun h2 => ?_) (fun h2 => (absurd h2 hne))
    refine lv_aload_n hx hb d_Mo_get_16 rfl (lv_at hl 1 rfl) ?_
    refine lv_iload_n hx hb d_Mo_get_17 rfl (lv_at hl 0 rfl) ?_
    refine lv_iload_n hx hb d_Mo_get_18 rfl (lv_at hl 3 rfl) ?_
    refine w_callV (As := [.int (nI (a.sl (j_n sv))), .int k]) (C := R_Mo) ⟨hx, hb, hml, hown, hts⟩ (c_Mo_latest l D cK cI cN cZ cL r hri (m_s S 10 0) _ (nI (a.sl (j_n sv))) k en r12 (by omega)) (x_cb (cwV (own := R_Mo) (index := 89) (C := R_Mo) 2 hts (x_gi (by decide +kernel)) rfl rfl rfl (by decide +kernel) ⟨by decide, by decide⟩).1) (hts (.instanceMethod y_Mo_latest) (by decide +kernel)) (hts (.selects R_Mo y_Mo_latest y_Mo_latest) (by decide +kernel)) (y_recv (ci := 5) (q := (R_Mo, F_Mo, 20)) hK hP rfl (m_at hri (i := 20) (by decide))) hE hP hA hA0 hS rfl hl.1 rfl (lv_room (Nat.le_of_ble_eq_true rfl)) d_Mo_get_19 (by first | decide | omega) (by first | decide | omega) (fun v9 g9 H locs hq9 hP hA hS => ?_) (fun E9 q9 ce9 g9 H locs hq9 hP hA hS z1 z2 z3 => ?_)
    rotate_left
    · exact nomatch hq9.1
    obtain ⟨hv9, hg9⟩ := hq9
    cases hv9
    rw [hg9] at hP hA
    refine W.eq (g2 := F0 m 22 ls [.long (m_lat (m_s S 10 0) (nI (a.sl (j_n sv))) k en)]) rfl ?_
    rw [show m_lat (m_s S 10 0) (nI (a.sl (j_n sv))) k en = a.ct (a.sl (j_n sv)) k from (m_latS (S' := (m_s S 10 0)) (S := S) rfl rfl rfl).trans (r14 (a.sl (j_n sv)) k o1 o2).symm]
    refine W.widen (k := 0) (n := 0) (by first | decide | omega) (by first | decide | omega) ?_
    exact x_ret (W.lret (v := (a.ct (a.sl (j_n sv)) k)) hx hb hr (w_fin rfl hAe ⟨m_goodL (hspl _), m_good (hspl _) rfl (hR1.up (Nat.le_succ _))⟩ hP hA hS) hS.2.2 d_Mo_get_22)
set_option maxHeartbeats 4000000 in
set_option maxRecDepth 100000 in
/-- put(s, k, v) -/
theorem c_Mo_put (l : Launch) (D : va_G) (cK cI cN cZ cL : ClassId) (r : Nat → Nat) (hri : m_inj r) (S : MS) (sz : Nat) (a : Ab) (cn : Nat) (sv k : Int32) (v : Int64) (hw : a_W a cn) (hc : cn ≤ 512) (hR : m_R a S cn)  : x_M l y_Mo_put [.code y_Mo_put b_Mo_put 6 none] rmX (w_Pc D (x_tys cK cI cN cZ cL) [.ref (r 20), .int sv, .int k, .long v] (m_w r cN cZ cL S) sz) (w_Qc D (m_w r cN cZ cL S) sz (fun r9 g9 => r9 = .inl none ∧ m_E r cN cZ cL (s_put a sv k v) cn g9)) 0 0 (y_A (m_w r cN cZ cL S) sz) := by
  refine x_ofW (cc := b_Mo_put) (maxL := 6) (ret := none) (by decide) rfl ?_
  intro p e s m args below meth c s₁ B hml hno hv
  obtain ⟨rfl, hsz, hP, hE⟩ := hv
  subst hsz
  have hts := hE.hts ([.ref (r 20), .int sv, .int k, .long v] : List Value).toArray
  have hK := hE.1.2.1
  have hA0 : ∀ q, s.heap.size ≤ q → y_A (m_w r cN cZ cL S) s.heap.size q := fun q h => Or.inr h
  have hA : ∀ q e, (m_w r cN cZ cL S) q = some e → y_A (m_w r cN cZ cL S) s.heap.size q := fun q e h => Or.inl (by rw [h]; exact fun z => nomatch z)
  have hS : va_S (y_A (m_w r cN cZ cL S) s.heap.size) s.heap s.heap [] := va_S.rf
  generalize hAe : y_A (m_w r cN cZ cL S) s.heap.size = A at hE hA0 hA hS ⊢
  have hx := B.exec
  have hb := B.bytes
  have hr := B.returns
  have hlocks := B.notSynchronized
  have hown : s.vm.findClass R_Mo = some m.cls := findClass_of_methodNamed B.named
  have hl := lv_entry ([.ref (r 20), .int sv, .int k, .long v]) (n := 6) (Nat.le_of_ble_eq_true rfl)
  rw [lg_entry_eq]
  generalize (lg_sl ([.ref (r 20), .int sv, .int k, .long v]) ++ List.replicate (6 - (lg_sl ([.ref (r 20), .int sv, .int k, .long v])).length) Slot.unset).toArray = ls at hl ⊢
  have hl : lv_has ls 6 [(0, .ref (r 20)), (1, .int sv), (2, .int k), (3, .long v)] := hl
  have hR0 := hR
  have hn : a.n ≤ cn := hw.2.2.2.2.2.2.2.2.2.1
  have hmm : a.mem ≤ 65536 := hw.2.2.2.2.2.2.2.2.1
  obtain ⟨r1, ⟨r2, r3, r4, r5⟩, r6, r7, r8, r9, r10, en, r11, r12, r13, r14⟩ := hR
  refine lv_aload_n hx hb d_Mo_put_0 rfl (lv_at hl 0 rfl) ?_
  refine lv_iload_n hx hb d_Mo_put_1 rfl (lv_at hl 1 rfl) ?_
  refine lv_iload_n hx hb d_Mo_put_2 rfl (lv_at hl 2 rfl) ?_
  refine lv_iconst (v := 0) hx hb d_Mo_put_3 (by decide) ?_
  refine w_callV (As := [.int sv, .int k, .int 0]) (C := R_Mo) ⟨hx, hb, hml, hown, hts⟩ (c_Mo_placed l D cK cI cN cZ cL r hri S _ a cn sv k 0 False w_RF0 (Or.inl rfl) hw hc (hR0)) (x_cb (cwV (own := R_Mo) (index := 104) (C := R_Mo) 3 hts (x_gi (by decide +kernel)) rfl rfl rfl (by decide +kernel) ⟨by decide, by decide⟩).1) (hts (.instanceMethod y_Mo_placed) (by decide +kernel)) (hts (.selects R_Mo y_Mo_placed y_Mo_placed) (by decide +kernel)) (y_recv (ci := 5) (q := (R_Mo, F_Mo, 20)) hK hP rfl (m_at hri (i := 20) (by decide))) hE hP hA hA0 hS rfl hl.1 rfl (lv_room (Nat.le_of_ble_eq_true rfl)) d_Mo_put_4 (by first | decide | omega) (by first | decide | omega) (fun v9 g9 H locs hq9 hP hA hS => ?_) (fun E9 q9 ce9 g9 H locs hq9 hP hA hS z1 z2 z3 => ?_)
  rotate_left
  · rcases hq9 with ⟨i, -, z, -⟩ | ⟨-, -, -, -, z, -⟩ <;> exact nomatch z
  rcases hq9 with ⟨i, hi, hv9, hg9⟩ | ⟨hs9, ho0, hrr, hspl, hv9, hg9⟩
  · cases hv9
    rw [hg9] at hP hA
    refine W.eq (g2 := F0 m 7 ls [.int 0]) rfl ?_
    refine lv_istore hx hb d_Mo_put_7 hl (by decide) rfl (fun ls hl => ?_)
    have hl : lv_has ls 6 [(5, .int 0), (0, .ref (r 20)), (1, .int sv), (2, .int k), (3, .long v)] := hl
    refine lv_iload hx hb d_Mo_put_9 (lv_at hl 0 rfl) ?_
    refine lv_if_eq hx hb d_Mo_put_11 rfl (fun h1 => ?_) (fun h1 => (absurd rfl h1))
    refine W.widen (k := 0) (n := 0) (by first | decide | omega) (by first | decide | omega) ?_
    exact x_ret (W.vret hx hb hr (w_fin rfl hAe ⟨rfl, m_bad (i := i) (hi _) rfl (((hR0).err 0).err _)⟩ hP hA hS) hS.2.2 d_Mo_put_28)
  · cases hv9
    rw [hg9] at hP hA
    refine W.eq (g2 := F0 m 7 ls [.int (nI (a.sl (j_n sv)))]) rfl ?_
    have o1 : 1 ≤ (a.sl (j_n sv)) := by omega
    have o2 := hw.2.2.1 (j_n sv) hs9.j32
    have hR1 := (hR0).err 0
    obtain ⟨hok, hcl, -⟩ := hR1.ok hw hc o1 o2
    have hne : ¬ nI (a.sl (j_n sv)) = 0 := nI_ne0 (by omega) (by omega)
    refine lv_istore hx hb d_Mo_put_7 hl (by decide) rfl (fun ls hl => ?_)
    have hl : lv_has ls 6 [(5, .int (nI (a.sl (j_n sv)))), (0, .ref (r 20)), (1, .int sv), (2, .int k), (3, .long v)] := hl
    refine lv_iload hx hb d_Mo_put_9 (lv_at hl 0 rfl) ?_
    refine lv_if_eq hx hb d_Mo_put_11 rfl (fun h2 => (absurd h2 hne)) (fun h2 => ?_)
    refine lv_aload_n hx hb d_Mo_put_14 rfl (lv_at hl 1 rfl) ?_
    refine lv_iload hx hb d_Mo_put_15 (lv_at hl 0 rfl) ?_
    refine lv_iload_n hx hb d_Mo_put_17 rfl (lv_at hl 3 rfl) ?_
    refine lv_aload_n hx hb d_Mo_put_18 rfl (lv_at hl 1 rfl) ?_
    refine lv_iload hx hb d_Mo_put_19 (lv_at hl 0 rfl) ?_
    refine lv_lload_n hx hb d_Mo_put_21 rfl (lv_at hl 4 rfl) ?_
    refine w_callV (As := [.int (nI (a.sl (j_n sv))), .long v]) (C := R_Mo) ⟨hx, hb, hml, hown, hts⟩ (c_Mo_cut l D cK cI cN cZ cL r hri (m_s S 10 0) _ (nI (a.sl (j_n sv))) v hok) (x_cb (cwV (own := R_Mo) (index := 108) (C := R_Mo) 2 hts (x_gi (by decide +kernel)) rfl rfl rfl (by decide +kernel) ⟨by decide, by decide⟩).1) (hts (.instanceMethod y_Mo_cut) (by decide +kernel)) (hts (.selects R_Mo y_Mo_cut y_Mo_cut) (by decide +kernel)) (y_recv (ci := 5) (q := (R_Mo, F_Mo, 20)) hK hP rfl (m_at hri (i := 20) (by decide))) hE hP hA hA0 hS rfl hl.1 rfl (lv_room (Nat.le_of_ble_eq_true rfl)) d_Mo_put_22 (by first | decide | omega) (by first | decide | omega) (fun v9 g9 H locs hq9 hP hA hS => ?_) (fun E9 q9 ce9 g9 H locs hq9 hP hA hS z1 z2 z3 => ?_)
    rotate_left
    · exact nomatch hq9.1
    obtain ⟨hv9, hg9⟩ := hq9
    cases hv9
    rw [hg9] at hP hA
    refine W.eq (g2 := F0 m 25 ls [.long (m_cut (m_s S 10 0) (nI (a.sl (j_n sv))) v), .int k, .int (nI (a.sl (j_n sv))), .ref (r 20)]) rfl ?_
    rw [hR1.cut hw hc o1 o2]
    refine w_callV (As := [.int (nI (a.sl (j_n sv))), .int k, .long (a_cut a (a.sl (j_n sv)) v)]) (C := R_Mo) ⟨hx, hb, hml, hown, hts⟩ (c_Mo_enter l D cK cI cN cZ cL r hri (m_s S 10 0) _ (nI (a.sl (j_n sv))) k (a_cut a (a.sl (j_n sv)) v) en r12 (by omega)) (x_cb (cwV (own := R_Mo) (index := 111) (C := R_Mo) 3 hts (x_gi (by decide +kernel)) rfl rfl rfl (by decide +kernel) ⟨by decide, by decide⟩).1) (hts (.instanceMethod y_Mo_enter) (by decide +kernel)) (hts (.selects R_Mo y_Mo_enter y_Mo_enter) (by decide +kernel)) (y_recv (ci := 5) (q := (R_Mo, F_Mo, 20)) hK hP rfl (m_at hri (i := 20) (by decide))) hE hP hA hA0 hS rfl hl.1 rfl (lv_room (Nat.le_of_ble_eq_true rfl)) d_Mo_put_25 (by first | decide | omega) (by first | decide | omega) (fun v9 g9 H locs hq9 hP hA hS => ?_) (fun E9 q9 ce9 g9 H locs hq9 hP hA hS z1 z2 z3 => ?_)
    rotate_left
    · exact nomatch hq9.1
    obtain ⟨hv9, hg9⟩ := hq9
    cases hv9
    rw [hg9] at hP hA
    refine W.eq (g2 := F0 m 28 ls []) rfl ?_
    refine W.widen (k := 0) (n := 0) (by first | decide | omega) (by first | decide | omega) ?_
    exact x_ret (W.vret hx hb hr (w_fin rfl hAe ⟨rfl, m_good (hspl _) rfl (hR1.putc hw hc o1 o2 r12 r11)⟩ hP hA hS) hS.2.2 d_Mo_put_28)
set_option maxHeartbeats 4000000 in
set_option maxRecDepth 100000 in
/-- link(s, k, t) -/
theorem c_Mo_link (l : Launch) (D : va_G) (cK cI cN cZ cL : ClassId) (r : Nat → Nat) (hri : m_inj r) (S : MS) (sz : Nat) (a : Ab) (cn : Nat) (sv k t : Int32) (hw : a_W a cn) (hc : cn ≤ 512) (hR : m_R a S cn)  : x_M l y_Mo_link [.code y_Mo_link b_Mo_link 6 (some .boolean)] rmX (w_Pc D (x_tys cK cI cN cZ cL) [.ref (r 20), .int sv, .int k, .int t] (m_w r cN cZ cL S) sz) (w_Qc D (m_w r cN cZ cL S) sz (fun r9 g9 => m_aI (s_link a sv k t) r9 ∧ m_E r cN cZ cL (s_link a sv k t) cn g9)) 0 0 (y_A (m_w r cN cZ cL S) sz) := by
  refine x_ofW (cc := b_Mo_link) (maxL := 6) (ret := (some .boolean)) (by decide) rfl ?_
  intro p e s m args below meth c s₁ B hml hno hv
  obtain ⟨rfl, hsz, hP, hE⟩ := hv
  subst hsz
  have hts := hE.hts ([.ref (r 20), .int sv, .int k, .int t] : List Value).toArray
  have hK := hE.1.2.1
  have hA0 : ∀ q, s.heap.size ≤ q → y_A (m_w r cN cZ cL S) s.heap.size q := fun q h => Or.inr h
  have hA : ∀ q e, (m_w r cN cZ cL S) q = some e → y_A (m_w r cN cZ cL S) s.heap.size q := fun q e h => Or.inl (by rw [h]; exact fun z => nomatch z)
  have hS : va_S (y_A (m_w r cN cZ cL S) s.heap.size) s.heap s.heap [] := va_S.rf
  generalize hAe : y_A (m_w r cN cZ cL S) s.heap.size = A at hE hA0 hA hS ⊢
  have hx := B.exec
  have hb := B.bytes
  have hr := B.returns
  have hlocks := B.notSynchronized
  have hown : s.vm.findClass R_Mo = some m.cls := findClass_of_methodNamed B.named
  have hl := lv_entry ([.ref (r 20), .int sv, .int k, .int t]) (n := 6) (Nat.le_of_ble_eq_true rfl)
  rw [lg_entry_eq]
  generalize (lg_sl ([.ref (r 20), .int sv, .int k, .int t]) ++ List.replicate (6 - (lg_sl ([.ref (r 20), .int sv, .int k, .int t])).length) Slot.unset).toArray = ls at hl ⊢
  have hl : lv_has ls 6 [(0, .ref (r 20)), (1, .int sv), (2, .int k), (3, .int t)] := hl
  have hR0 := hR
  have hn : a.n ≤ cn := hw.2.2.2.2.2.2.2.2.2.1
  have hmm : a.mem ≤ 65536 := hw.2.2.2.2.2.2.2.2.1
  obtain ⟨r1, ⟨r2, r3, r4, r5⟩, r6, r7, r8, r9, r10, en, r11, r12, r13, r14⟩ := hR
  refine lv_aload_n hx hb d_Mo_link_0 rfl (lv_at hl 0 rfl) ?_
  refine lv_iconst (v := 0) hx hb d_Mo_link_1 (by decide) ?_
  refine y_put (D := D) (ci := 5) (v := .int 0) (ty := .int) (C := R_Mo) (T := F_Mo) (N := 20) hx hb hts in_Mo t_Mo t_Mo_ok n_Mo hown hK hP hA hS (m_at hri (i := 20) (by decide)) rfl 10 (by decide) (hts (.fieldLink R_Mo 59 "MemoryDeskModel" "err" "I") (by decide +kernel)) (fun _ h9 => h9) rfl (by decide +kernel) rfl rfl (Nat.le_of_ble_eq_true rfl) d_Mo_link_2 (fun H locs hP hA hS => ?_)
  have e9 : va_up (m_w r cN cZ cL S) (r 20) (some (.inr (5, [.ref (r 0), .ref (r 1), .ref (r 2), .ref (r 3), .ref (r 4), .ref (r 5), .ref (r 6), .int (S.2.2 7), .int (S.2.2 8), .int (S.2.2 9), .int 0, .ref (r 11), .ref (r 12), .ref (r 13), .int (S.2.2 14), .ref (r 15), .ref (r 16), .ref (r 17), .ref (r 18), .int (S.2.2 19)]))) = (m_w r cN cZ cL (m_s S 10 0)) := m_ws10 hri S 0
  have hP : y_P D vwCl (m_w r cN cZ cL (m_s S 10 0)) H := by rw [← e9]; exact hP
  have hA : ∀ q99 e99, (m_w r cN cZ cL (m_s S 10 0)) q99 = some e99 → A q99 := by rw [← e9]; exact hA
  refine lv_aload_n hx hb d_Mo_link_5 rfl (lv_at hl 0 rfl) ?_
  refine lv_iload_n hx hb d_Mo_link_6 rfl (lv_at hl 1 rfl) ?_
  refine lv_bipush (v := 31) hx hb d_Mo_link_7 (by decide) ?_
  refine w_callS (As := [.int sv, .int 31]) ⟨hx, hb, hml, hown, hts⟩ (c_Mo_in l D cK cI cN cZ cL r hri (m_s S 10 0) _ sv 31) (x_cb (va_cwS (own := R_Mo) (index := 93) 2 hts (x_gi (by decide +kernel)) rfl rfl rfl (by decide +kernel) ⟨by decide, by decide⟩).1) (hts (.static y_Mo_in) (by decide +kernel)) hE hP hA hA0 hS rfl hl.1 rfl (lv_room (Nat.le_of_ble_eq_true rfl)) d_Mo_link_9 (by first | decide | omega) (by first | decide | omega) (fun v9 g9 H locs hq9 hP hA hS => ?_) (fun E9 q9 ce9 g9 H locs hq9 hP hA hS z1 z2 z3 => ?_)
  rotate_left
  · exact nomatch hq9.1
  obtain ⟨hv9, hg9⟩ := hq9
  cases hv9
  rw [hg9] at hP hA
  refine W.eq (g2 := F0 m 12 ls [.int (c_bit (¬ sv < 0 ∧ sv ≤ 31)), .ref (r 20)]) rfl ?_
  refine lv_if_eq hx hb d_Mo_link_12 rfl (fun h1 => ?_) (fun h1 => ?_)
  · -- ifeq at 12: to 24
    have hs : ¬ b_in sv 32 := fun z => by have hy_ := h1; rw [c_bit.y (show ¬ sv < 0 ∧ sv ≤ 31 from (b_inI (n := 31) (by decide)).mpr z)] at hy_; exact absurd hy_ (by decide)
    refine lv_iconst (v := 1) hx hb d_Mo_link_24 (by decide) ?_
    refine lv_goto hx hb d_Mo_link_25 rfl ?_
    refine lv_iconst (v := 1) hx hb d_Mo_link_29 (by decide) ?_
    refine w_callV (As := [.int 1, .int 1]) (C := R_Mo) ⟨hx, hb, hml, hown, hts⟩ (c_Mo_fails l D cK cI cN cZ cL r hri (m_s S 10 0) _ 1 1 (by decide)) (x_cb (cwV (own := R_Mo) (index := 96) (C := R_Mo) 2 hts (x_gi (by decide +kernel)) rfl rfl rfl (by decide +kernel) ⟨by decide, by decide⟩).1) (hts (.instanceMethod y_Mo_fails) (by decide +kernel)) (hts (.selects R_Mo y_Mo_fails y_Mo_fails) (by decide +kernel)) (y_recv (ci := 5) (q := (R_Mo, F_Mo, 20)) hK hP rfl (m_at hri (i := 20) (by decide))) hE hP hA hA0 hS rfl hl.1 rfl (lv_room (Nat.le_of_ble_eq_true rfl)) d_Mo_link_30 (by first | decide | omega) (by first | decide | omega) (fun v9 g9 H locs hq9 hP hA hS => ?_) (fun E9 q9 ce9 g9 H locs hq9 hP hA hS z1 z2 z3 => ?_)
    rotate_left
    · rcases hq9 with z | z | z
      · exact nomatch z.2.2.1
      · exact nomatch z.2.1
      · exact nomatch z.2.2.1
    rcases hq9 with ⟨z1, z2, hv9, hg9⟩ | ⟨z1, hv9, hg9⟩ | ⟨z1, z2, hv9, hg9⟩
    · exact absurd z1 (by decide)
    · exact absurd rfl z1
    · cases hv9
      rw [hg9] at hP hA
      refine W.eq (g2 := F0 m 33 ls [.int 1]) rfl ?_
      refine lv_if_eq hx hb d_Mo_link_33 rfl (fun h2 => (absurd h2 (by decide))) (fun h2 => ?_)
      refine lv_iconst (v := 0) hx hb d_Mo_link_36 (by decide) ?_
      refine W.widen (k := 0) (n := 0) (by first | decide | omega) (by first | decide | omega) ?_
      exact x_ret (W.zret (v := 0) hx hb hr rfl (w_fin rfl hAe ⟨m_badI (i := 0) (Classical.byCases (fun ht : b_in t 32 => (q_y ht).trans (s_pl1 hs)) (fun ht => q_n ht)), m_bad (i := 0) (Classical.byCases (fun ht : b_in t 32 => (q_y ht).trans (s_pl1 hs)) (fun ht => q_n ht)) rfl ((hR0.err 0).err 1)⟩ hP hA hS) hS.2.2 d_Mo_link_37)
  · -- ifeq at 12: to 15
    have hs : b_in sv 32 := (b_inI (n := 31) (by decide)).mp (Classical.byContradiction (fun z => h1 (c_bit.n z)))
    refine lv_iload_n hx hb d_Mo_link_15 rfl (lv_at hl 3 rfl) ?_
    refine lv_bipush (v := 31) hx hb d_Mo_link_16 (by decide) ?_
    refine w_callS (As := [.int t, .int 31]) ⟨hx, hb, hml, hown, hts⟩ (c_Mo_in l D cK cI cN cZ cL r hri (m_s S 10 0) _ t 31) (x_cb (va_cwS (own := R_Mo) (index := 93) 2 hts (x_gi (by decide +kernel)) rfl rfl rfl (by decide +kernel) ⟨by decide, by decide⟩).1) (hts (.static y_Mo_in) (by decide +kernel)) hE hP hA hA0 hS rfl hl.1 rfl (lv_room (Nat.le_of_ble_eq_true rfl)) d_Mo_link_18 (by first | decide | omega) (by first | decide | omega) (fun v9 g9 H locs hq9 hP hA hS => ?_) (fun E9 q9 ce9 g9 H locs hq9 hP hA hS z1 z2 z3 => ?_)
    rotate_left
    · exact nomatch hq9.1
    obtain ⟨hv9, hg9⟩ := hq9
    cases hv9
    rw [hg9] at hP hA
    refine W.eq (g2 := F0 m 21 ls [.int (c_bit (¬ t < 0 ∧ t ≤ 31)), .ref (r 20)]) rfl ?_
    refine lv_if_ne hx hb d_Mo_link_21 rfl (fun h3 => ?_) (fun h3 => ?_)
    · -- ifne at 21: to 28
      have ht : b_in t 32 := (b_inI (n := 31) (by decide)).mp (Classical.byContradiction (fun z => h3 (c_bit.n z)))
      refine lv_iconst (v := 0) hx hb d_Mo_link_28 (by decide) ?_
      refine lv_iconst (v := 1) hx hb d_Mo_link_29 (by decide) ?_
      refine w_callV (As := [.int 0, .int 1]) (C := R_Mo) ⟨hx, hb, hml, hown, hts⟩ (c_Mo_fails l D cK cI cN cZ cL r hri (m_s S 10 0) _ 0 1 (by decide)) (x_cb (cwV (own := R_Mo) (index := 96) (C := R_Mo) 2 hts (x_gi (by decide +kernel)) rfl rfl rfl (by decide +kernel) ⟨by decide, by decide⟩).1) (hts (.instanceMethod y_Mo_fails) (by decide +kernel)) (hts (.selects R_Mo y_Mo_fails y_Mo_fails) (by decide +kernel)) (y_recv (ci := 5) (q := (R_Mo, F_Mo, 20)) hK hP rfl (m_at hri (i := 20) (by decide))) hE hP hA hA0 hS rfl hl.1 rfl (lv_room (Nat.le_of_ble_eq_true rfl)) d_Mo_link_30 (by first | decide | omega) (by first | decide | omega) (fun v9 g9 H locs hq9 hP hA hS => ?_) (fun E9 q9 ce9 g9 H locs hq9 hP hA hS z1 z2 z3 => ?_)
      rotate_left
      · rcases hq9 with z | z | z
        · exact nomatch z.2.2.1
        · exact nomatch z.2.1
        · exact nomatch z.2.2.1
      rcases hq9 with ⟨z1, z2, hv9, hg9⟩ | ⟨z1, hv9, hg9⟩ | ⟨z1, z2, hv9, hg9⟩
      · cases hv9
        rw [hg9] at hP hA
        refine W.eq (g2 := F0 m 33 ls [.int 0]) rfl ?_
        refine lv_if_eq hx hb d_Mo_link_33 rfl (fun h4 => ?_) (fun h4 => (absurd rfl h4))
        refine lv_aload_n hx hb d_Mo_link_38 rfl (lv_at hl 0 rfl) ?_
        refine lv_iload_n hx hb d_Mo_link_39 rfl (lv_at hl 1 rfl) ?_
        refine lv_iload_n hx hb d_Mo_link_40 rfl (lv_at hl 2 rfl) ?_
        refine lv_iconst (v := 1) hx hb d_Mo_link_41 (by decide) ?_
        refine w_callV (As := [.int sv, .int k, .int 1]) (C := R_Mo) ⟨hx, hb, hml, hown, hts⟩ (c_Mo_placed l D cK cI cN cZ cL r hri (m_s S 10 0) _ a cn sv k 1 True w_RF1 (Or.inr rfl) hw hc (hR0.err 0)) (x_cb (cwV (own := R_Mo) (index := 104) (C := R_Mo) 3 hts (x_gi (by decide +kernel)) rfl rfl rfl (by decide +kernel) ⟨by decide, by decide⟩).1) (hts (.instanceMethod y_Mo_placed) (by decide +kernel)) (hts (.selects R_Mo y_Mo_placed y_Mo_placed) (by decide +kernel)) (y_recv (ci := 5) (q := (R_Mo, F_Mo, 20)) hK hP rfl (m_at hri (i := 20) (by decide))) hE hP hA hA0 hS rfl hl.1 rfl (lv_room (Nat.le_of_ble_eq_true rfl)) d_Mo_link_42 (by first | decide | omega) (by first | decide | omega) (fun v9 g9 H locs hq9 hP hA hS => ?_) (fun E9 q9 ce9 g9 H locs hq9 hP hA hS z1 z2 z3 => ?_)
        rotate_left
        · rcases hq9 with ⟨i, -, z, -⟩ | ⟨-, -, -, -, z, -⟩ <;> exact nomatch z
        rcases hq9 with ⟨i, hi, hv9, hg9⟩ | ⟨hs9, ho0, hrr, hspl, hv9, hg9⟩
        · cases hv9
          rw [hg9] at hP hA
          refine W.eq (g2 := F0 m 45 ls [.int 0]) rfl ?_
          refine lv_istore hx hb d_Mo_link_45 hl (by decide) rfl (fun ls hl => ?_)
          have hl : lv_has ls 6 [(4, .int 0), (0, .ref (r 20)), (1, .int sv), (2, .int k), (3, .int t)] := hl
          refine lv_iload hx hb d_Mo_link_47 (lv_at hl 0 rfl) ?_
          refine lv_if_ne hx hb d_Mo_link_49 rfl (fun h5 => (absurd rfl h5)) (fun h5 => ?_)
          refine lv_iconst (v := 0) hx hb d_Mo_link_52 (by decide) ?_
          refine W.widen (k := 0) (n := 0) (by first | decide | omega) (by first | decide | omega) ?_
          exact x_ret (W.zret (v := 0) hx hb hr rfl (w_fin rfl hAe ⟨m_badI (i := i) ((q_y ht).trans (hi _)), m_bad (i := i) ((q_y ht).trans (hi _)) rfl (((hR0.err 0).err 0).err _)⟩ hP hA hS) hS.2.2 d_Mo_link_53)
        · cases hv9
          rw [hg9] at hP hA
          refine W.eq (g2 := F0 m 45 ls [.int (nI (a.sl (j_n sv)))]) rfl ?_
          have o1 : 1 ≤ (a.sl (j_n sv)) := by omega
          have o2 := hw.2.2.1 (j_n sv) hs9.j32
          have hR1 := (hR0.err 0).err 0
          obtain ⟨hok, hcl, -⟩ := hR1.ok hw hc o1 o2
          have hne : ¬ nI (a.sl (j_n sv)) = 0 := nI_ne0 (by omega) (by omega)
          refine lv_istore hx hb d_Mo_link_45 hl (by decide) rfl (fun ls hl => ?_)
          have hl : lv_has ls 6 [(4, .int (nI (a.sl (j_n sv)))), (0, .ref (r 20)), (1, .int sv), (2, .int k), (3, .int t)] := hl
          refine lv_iload hx hb d_Mo_link_47 (lv_at hl 0 rfl) ?_
          refine lv_if_ne hx hb d_Mo_link_49 rfl (fun h6 => ?_) (fun h6 => (absurd h6 hne))
          refine lv_aload_n hx hb d_Mo_link_54 rfl (lv_at hl 1 rfl) ?_
          refine lv_iload hx hb d_Mo_link_55 (lv_at hl 0 rfl) ?_
          refine lv_iload_n hx hb d_Mo_link_57 rfl (lv_at hl 3 rfl) ?_
          refine w_callV (As := [.int (nI (a.sl (j_n sv))), .int k]) (C := R_Mo) ⟨hx, hb, hml, hown, hts⟩ (c_Mo_latest l D cK cI cN cZ cL r hri (m_s (m_s S 10 0) 10 0) _ (nI (a.sl (j_n sv))) k en r12 (by omega)) (x_cb (cwV (own := R_Mo) (index := 89) (C := R_Mo) 2 hts (x_gi (by decide +kernel)) rfl rfl rfl (by decide +kernel) ⟨by decide, by decide⟩).1) (hts (.instanceMethod y_Mo_latest) (by decide +kernel)) (hts (.selects R_Mo y_Mo_latest y_Mo_latest) (by decide +kernel)) (y_recv (ci := 5) (q := (R_Mo, F_Mo, 20)) hK hP rfl (m_at hri (i := 20) (by decide))) hE hP hA hA0 hS rfl hl.1 rfl (lv_room (Nat.le_of_ble_eq_true rfl)) d_Mo_link_58 (by first | decide | omega) (by first | decide | omega) (fun v9 g9 H locs hq9 hP hA hS => ?_) (fun E9 q9 ce9 g9 H locs hq9 hP hA hS z1 z2 z3 => ?_)
          rotate_left
          · exact nomatch hq9.1
          obtain ⟨hv9, hg9⟩ := hq9
          cases hv9
          rw [hg9] at hP hA
          refine W.eq (g2 := F0 m 61 ls [.long (m_lat (m_s (m_s S 10 0) 10 0) (nI (a.sl (j_n sv))) k en)]) rfl ?_
          rw [show m_lat (m_s (m_s S 10 0) 10 0) (nI (a.sl (j_n sv))) k en = a.ct (a.sl (j_n sv)) k from (m_latS (S' := (m_s (m_s S 10 0) 10 0)) (S := S) rfl rfl rfl).trans (r14 (a.sl (j_n sv)) k o1 o2).symm]
          refine lv_lconst (v := 0) hx hb d_Mo_link_61 (by decide) ?_
          refine W.lcmp hx hb d_Mo_link_62 ?_
          refine lv_if_eq hx hb d_Mo_link_63 rfl (fun h7 => ?_) (fun h7 => ?_)
          · -- ifeq at 63: to 70
            refine lv_iconst (v := 0) hx hb d_Mo_link_70 (by decide) ?_
            refine lv_istore hx hb d_Mo_link_71 hl (by decide) rfl (fun ls hl => ?_)
            have hl : lv_has ls 6 [(5, .int 0), (4, .int (nI (a.sl (j_n sv)))), (0, .ref (r 20)), (1, .int sv), (2, .int k), (3, .int t)] := hl
            refine lv_aload_n hx hb d_Mo_link_73 rfl (lv_at hl 2 rfl) ?_
            refine lv_iload hx hb d_Mo_link_74 (lv_at hl 1 rfl) ?_
            refine lv_iload_n hx hb d_Mo_link_76 rfl (lv_at hl 4 rfl) ?_
            refine lv_aload_n hx hb d_Mo_link_77 rfl (lv_at hl 2 rfl) ?_
            refine y_get (D := D) (ci := 5) (v := .ref (r 15)) (C := R_Mo) (T := F_Mo) (N := 20) hx hb hts in_Mo hown hK hP (m_at hri (i := 20) (by decide)) rfl 15 (by decide) (hts (.fieldLink R_Mo 47 "MemoryDeskModel" "slots" "[I") (by decide +kernel)) (fun _ h9 => h9) rfl d_Mo_link_78 ?_
            refine lv_iload_n hx hb d_Mo_link_81 rfl (lv_at hl 5 rfl) ?_
            refine y_iald (f := (S.1 15)) hx hb hK hP 2 (m_at hri (i := 15) (by decide)) rfl ht.v32 d_Mo_link_82 ?_
            rw [r8 (j_n t) ht.j32]
            refine lv_i2l hx hb d_Mo_link_83 rfl ?_
            rw [nI_l (by have := hw.2.2.1 (j_n t) ht.j32; omega)]
            refine w_callV (As := [.int (nI (a.sl (j_n sv))), .int k, .long (lN (a.sl (j_n t)))]) (C := R_Mo) ⟨hx, hb, hml, hown, hts⟩ (c_Mo_enter l D cK cI cN cZ cL r hri (m_s (m_s S 10 0) 10 0) _ (nI (a.sl (j_n sv))) k (lN (a.sl (j_n t))) en r12 (by omega)) (x_cb (cwV (own := R_Mo) (index := 111) (C := R_Mo) 3 hts (x_gi (by decide +kernel)) rfl rfl rfl (by decide +kernel) ⟨by decide, by decide⟩).1) (hts (.instanceMethod y_Mo_enter) (by decide +kernel)) (hts (.selects R_Mo y_Mo_enter y_Mo_enter) (by decide +kernel)) (y_recv (ci := 5) (q := (R_Mo, F_Mo, 20)) hK hP rfl (m_at hri (i := 20) (by decide))) hE hP hA hA0 hS rfl hl.1 rfl (lv_room (Nat.le_of_ble_eq_true rfl)) d_Mo_link_84 (by first | decide | omega) (by first | decide | omega) (fun v9 g9 H locs hq9 hP hA hS => ?_) (fun E9 q9 ce9 g9 H locs hq9 hP hA hS z1 z2 z3 => ?_)
            rotate_left
            · exact nomatch hq9.1
            obtain ⟨hv9, hg9⟩ := hq9
            cases hv9
            rw [hg9] at hP hA
            refine W.eq (g2 := F0 m 87 ls []) rfl ?_
            refine lv_iload hx hb d_Mo_link_87 (lv_at hl 0 rfl) ?_
            refine W.widen (k := 0) (n := 0) (by first | decide | omega) (by first | decide | omega) ?_
            exact x_ret (W.zret (v := 0) hx hb hr rfl (w_fin rfl hAe ⟨m_goodI (((q_y ht).trans (hspl _)).trans (by rw [w_b0 (fun z => z ((lg_cmp_eq _ _).mp h7))])), m_good (((q_y ht).trans (hspl _)).trans (by rw [w_b0 (fun z => z ((lg_cmp_eq _ _).mp h7))])) rfl (hR1.putc hw hc o1 o2 r12 r11)⟩ hP hA hS) hS.2.2 d_Mo_link_89)
          · -- ifeq at 63: to 66
            refine lv_iconst (v := 1) hx hb d_Mo_link_66 (by decide) ?_
            refine lv_goto hx hb d_Mo_link_67 rfl ?_
            refine lv_istore hx hb d_Mo_link_71 hl (by decide) rfl (fun ls hl => ?_)
            have hl : lv_has ls 6 [(5, .int 1), (4, .int (nI (a.sl (j_n sv)))), (0, .ref (r 20)), (1, .int sv), (2, .int k), (3, .int t)] := hl
            refine lv_aload_n hx hb d_Mo_link_73 rfl (lv_at hl 2 rfl) ?_
            refine lv_iload hx hb d_Mo_link_74 (lv_at hl 1 rfl) ?_
            refine lv_iload_n hx hb d_Mo_link_76 rfl (lv_at hl 4 rfl) ?_
            refine lv_aload_n hx hb d_Mo_link_77 rfl (lv_at hl 2 rfl) ?_
            refine y_get (D := D) (ci := 5) (v := .ref (r 15)) (C := R_Mo) (T := F_Mo) (N := 20) hx hb hts in_Mo hown hK hP (m_at hri (i := 20) (by decide)) rfl 15 (by decide) (hts (.fieldLink R_Mo 47 "MemoryDeskModel" "slots" "[I") (by decide +kernel)) (fun _ h9 => h9) rfl d_Mo_link_78 ?_
            refine lv_iload_n hx hb d_Mo_link_81 rfl (lv_at hl 5 rfl) ?_
            refine y_iald (f := (S.1 15)) hx hb hK hP 2 (m_at hri (i := 15) (by decide)) rfl ht.v32 d_Mo_link_82 ?_
            rw [r8 (j_n t) ht.j32]
            refine lv_i2l hx hb d_Mo_link_83 rfl ?_
            rw [nI_l (by have := hw.2.2.1 (j_n t) ht.j32; omega)]
            refine w_callV (As := [.int (nI (a.sl (j_n sv))), .int k, .long (lN (a.sl (j_n t)))]) (C := R_Mo) ⟨hx, hb, hml, hown, hts⟩ (c_Mo_enter l D cK cI cN cZ cL r hri (m_s (m_s S 10 0) 10 0) _ (nI (a.sl (j_n sv))) k (lN (a.sl (j_n t))) en r12 (by omega)) (x_cb (cwV (own := R_Mo) (index := 111) (C := R_Mo) 3 hts (x_gi (by decide +kernel)) rfl rfl rfl (by decide +kernel) ⟨by decide, by decide⟩).1) (hts (.instanceMethod y_Mo_enter) (by decide +kernel)) (hts (.selects R_Mo y_Mo_enter y_Mo_enter) (by decide +kernel)) (y_recv (ci := 5) (q := (R_Mo, F_Mo, 20)) hK hP rfl (m_at hri (i := 20) (by decide))) hE hP hA hA0 hS rfl hl.1 rfl (lv_room (Nat.le_of_ble_eq_true rfl)) d_Mo_link_84 (by first | decide | omega) (by first | decide | omega) (fun v9 g9 H locs hq9 hP hA hS => ?_) (fun E9 q9 ce9 g9 H locs hq9 hP hA hS z1 z2 z3 => ?_)
            rotate_left
            · exact nomatch hq9.1
            obtain ⟨hv9, hg9⟩ := hq9
            cases hv9
            rw [hg9] at hP hA
            refine W.eq (g2 := F0 m 87 ls []) rfl ?_
            refine lv_iload hx hb d_Mo_link_87 (lv_at hl 0 rfl) ?_
            refine W.widen (k := 0) (n := 0) (by first | decide | omega) (by first | decide | omega) ?_
            exact x_ret (W.zret (v := 1) hx hb hr rfl (w_fin rfl hAe ⟨m_goodI (((q_y ht).trans (hspl _)).trans (by rw [w_b1 (fun z => h7 ((lg_cmp_eq _ _).mpr z))])), m_good (((q_y ht).trans (hspl _)).trans (by rw [w_b1 (fun z => h7 ((lg_cmp_eq _ _).mpr z))])) rfl (hR1.putc hw hc o1 o2 r12 r11)⟩ hP hA hS) hS.2.2 d_Mo_link_89)
      · exact absurd rfl z1
      · exact absurd rfl z1
    · -- ifne at 21: to 24
      have ht : ¬ b_in t 32 := fun z => by have hy_ := h3; rw [c_bit.y (show ¬ t < 0 ∧ t ≤ 31 from (b_inI (n := 31) (by decide)).mpr z)] at hy_; exact absurd hy_ (by decide)
      refine lv_iconst (v := 1) hx hb d_Mo_link_24 (by decide) ?_
      refine lv_goto hx hb d_Mo_link_25 rfl ?_
      refine lv_iconst (v := 1) hx hb d_Mo_link_29 (by decide) ?_
      refine w_callV (As := [.int 1, .int 1]) (C := R_Mo) ⟨hx, hb, hml, hown, hts⟩ (c_Mo_fails l D cK cI cN cZ cL r hri (m_s S 10 0) _ 1 1 (by decide)) (x_cb (cwV (own := R_Mo) (index := 96) (C := R_Mo) 2 hts (x_gi (by decide +kernel)) rfl rfl rfl (by decide +kernel) ⟨by decide, by decide⟩).1) (hts (.instanceMethod y_Mo_fails) (by decide +kernel)) (hts (.selects R_Mo y_Mo_fails y_Mo_fails) (by decide +kernel)) (y_recv (ci := 5) (q := (R_Mo, F_Mo, 20)) hK hP rfl (m_at hri (i := 20) (by decide))) hE hP hA hA0 hS rfl hl.1 rfl (lv_room (Nat.le_of_ble_eq_true rfl)) d_Mo_link_30 (by first | decide | omega) (by first | decide | omega) (fun v9 g9 H locs hq9 hP hA hS => ?_) (fun E9 q9 ce9 g9 H locs hq9 hP hA hS z1 z2 z3 => ?_)
      rotate_left
      · rcases hq9 with z | z | z
        · exact nomatch z.2.2.1
        · exact nomatch z.2.1
        · exact nomatch z.2.2.1
      rcases hq9 with ⟨z1, z2, hv9, hg9⟩ | ⟨z1, hv9, hg9⟩ | ⟨z1, z2, hv9, hg9⟩
      · exact absurd z1 (by decide)
      · exact absurd rfl z1
      · cases hv9
        rw [hg9] at hP hA
        refine W.eq (g2 := F0 m 33 ls [.int 1]) rfl ?_
        refine lv_if_eq hx hb d_Mo_link_33 rfl (fun h8 => (absurd h8 (by decide))) (fun h8 => ?_)
        refine lv_iconst (v := 0) hx hb d_Mo_link_36 (by decide) ?_
        refine W.widen (k := 0) (n := 0) (by first | decide | omega) (by first | decide | omega) ?_
        exact x_ret (W.zret (v := 0) hx hb hr rfl (w_fin rfl hAe ⟨m_badI (i := 0) (q_n ht), m_bad (i := 0) (q_n ht) rfl ((hR0.err 0).err 1)⟩ hP hA hS) hS.2.2 d_Mo_link_37)
set_option maxHeartbeats 4000000 in
set_option maxRecDepth 100000 in
/-- follow(s, k, t) -/
theorem c_Mo_follow (l : Launch) (D : va_G) (cK cI cN cZ cL : ClassId) (r : Nat → Nat) (hri : m_inj r) (S : MS) (sz : Nat) (a : Ab) (cn : Nat) (sv k t : Int32) (hw : a_W a cn) (hc : cn ≤ 512) (hR : m_R a S cn)  : x_M l y_Mo_follow [.code y_Mo_follow b_Mo_follow 5 (some .boolean)] rmX (w_Pc D (x_tys cK cI cN cZ cL) [.ref (r 20), .int sv, .int k, .int t] (m_w r cN cZ cL S) sz) (w_Qc D (m_w r cN cZ cL S) sz (fun r9 g9 => m_aI (s_follow a sv k t) r9 ∧ m_E r cN cZ cL (s_follow a sv k t) cn g9)) 0 0 (y_A (m_w r cN cZ cL S) sz) := by
  refine x_ofW (cc := b_Mo_follow) (maxL := 5) (ret := (some .boolean)) (by decide) rfl ?_
  intro p e s m args below meth c s₁ B hml hno hv
  obtain ⟨rfl, hsz, hP, hE⟩ := hv
  subst hsz
  have hts := hE.hts ([.ref (r 20), .int sv, .int k, .int t] : List Value).toArray
  have hK := hE.1.2.1
  have hA0 : ∀ q, s.heap.size ≤ q → y_A (m_w r cN cZ cL S) s.heap.size q := fun q h => Or.inr h
  have hA : ∀ q e, (m_w r cN cZ cL S) q = some e → y_A (m_w r cN cZ cL S) s.heap.size q := fun q e h => Or.inl (by rw [h]; exact fun z => nomatch z)
  have hS : va_S (y_A (m_w r cN cZ cL S) s.heap.size) s.heap s.heap [] := va_S.rf
  generalize hAe : y_A (m_w r cN cZ cL S) s.heap.size = A at hE hA0 hA hS ⊢
  have hx := B.exec
  have hb := B.bytes
  have hr := B.returns
  have hlocks := B.notSynchronized
  have hown : s.vm.findClass R_Mo = some m.cls := findClass_of_methodNamed B.named
  have hl := lv_entry ([.ref (r 20), .int sv, .int k, .int t]) (n := 5) (Nat.le_of_ble_eq_true rfl)
  rw [lg_entry_eq]
  generalize (lg_sl ([.ref (r 20), .int sv, .int k, .int t]) ++ List.replicate (5 - (lg_sl ([.ref (r 20), .int sv, .int k, .int t])).length) Slot.unset).toArray = ls at hl ⊢
  have hl : lv_has ls 5 [(0, .ref (r 20)), (1, .int sv), (2, .int k), (3, .int t)] := hl
  have hR0 := hR
  have hn : a.n ≤ cn := hw.2.2.2.2.2.2.2.2.2.1
  have hmm : a.mem ≤ 65536 := hw.2.2.2.2.2.2.2.2.1
  obtain ⟨r1, ⟨r2, r3, r4, r5⟩, r6, r7, r8, r9, r10, en, r11, r12, r13, r14⟩ := hR
  refine lv_aload_n hx hb d_Mo_follow_0 rfl (lv_at hl 0 rfl) ?_
  refine lv_iconst (v := 0) hx hb d_Mo_follow_1 (by decide) ?_
  refine y_put (D := D) (ci := 5) (v := .int 0) (ty := .int) (C := R_Mo) (T := F_Mo) (N := 20) hx hb hts in_Mo t_Mo t_Mo_ok n_Mo hown hK hP hA hS (m_at hri (i := 20) (by decide)) rfl 10 (by decide) (hts (.fieldLink R_Mo 59 "MemoryDeskModel" "err" "I") (by decide +kernel)) (fun _ h9 => h9) rfl (by decide +kernel) rfl rfl (Nat.le_of_ble_eq_true rfl) d_Mo_follow_2 (fun H locs hP hA hS => ?_)
  have e9 : va_up (m_w r cN cZ cL S) (r 20) (some (.inr (5, [.ref (r 0), .ref (r 1), .ref (r 2), .ref (r 3), .ref (r 4), .ref (r 5), .ref (r 6), .int (S.2.2 7), .int (S.2.2 8), .int (S.2.2 9), .int 0, .ref (r 11), .ref (r 12), .ref (r 13), .int (S.2.2 14), .ref (r 15), .ref (r 16), .ref (r 17), .ref (r 18), .int (S.2.2 19)]))) = (m_w r cN cZ cL (m_s S 10 0)) := m_ws10 hri S 0
  have hP : y_P D vwCl (m_w r cN cZ cL (m_s S 10 0)) H := by rw [← e9]; exact hP
  have hA : ∀ q99 e99, (m_w r cN cZ cL (m_s S 10 0)) q99 = some e99 → A q99 := by rw [← e9]; exact hA
  refine lv_aload_n hx hb d_Mo_follow_5 rfl (lv_at hl 0 rfl) ?_
  refine lv_iload_n hx hb d_Mo_follow_6 rfl (lv_at hl 1 rfl) ?_
  refine lv_bipush (v := 31) hx hb d_Mo_follow_7 (by decide) ?_
  refine w_callS (As := [.int sv, .int 31]) ⟨hx, hb, hml, hown, hts⟩ (c_Mo_in l D cK cI cN cZ cL r hri (m_s S 10 0) _ sv 31) (x_cb (va_cwS (own := R_Mo) (index := 93) 2 hts (x_gi (by decide +kernel)) rfl rfl rfl (by decide +kernel) ⟨by decide, by decide⟩).1) (hts (.static y_Mo_in) (by decide +kernel)) hE hP hA hA0 hS rfl hl.1 rfl (lv_room (Nat.le_of_ble_eq_true rfl)) d_Mo_follow_9 (by first | decide | omega) (by first | decide | omega) (fun v9 g9 H locs hq9 hP hA hS => ?_) (fun E9 q9 ce9 g9 H locs hq9 hP hA hS z1 z2 z3 => ?_)
  rotate_left
  · exact nomatch hq9.1
  obtain ⟨hv9, hg9⟩ := hq9
  cases hv9
  rw [hg9] at hP hA
  refine W.eq (g2 := F0 m 12 ls [.int (c_bit (¬ sv < 0 ∧ sv ≤ 31)), .ref (r 20)]) rfl ?_
  refine lv_if_eq hx hb d_Mo_follow_12 rfl (fun h1 => ?_) (fun h1 => ?_)
  · -- ifeq at 12: to 24
    have hs : ¬ b_in sv 32 := fun z => by have hy_ := h1; rw [c_bit.y (show ¬ sv < 0 ∧ sv ≤ 31 from (b_inI (n := 31) (by decide)).mpr z)] at hy_; exact absurd hy_ (by decide)
    refine lv_iconst (v := 1) hx hb d_Mo_follow_24 (by decide) ?_
    refine lv_goto hx hb d_Mo_follow_25 rfl ?_
    refine lv_iconst (v := 1) hx hb d_Mo_follow_29 (by decide) ?_
    refine w_callV (As := [.int 1, .int 1]) (C := R_Mo) ⟨hx, hb, hml, hown, hts⟩ (c_Mo_fails l D cK cI cN cZ cL r hri (m_s S 10 0) _ 1 1 (by decide)) (x_cb (cwV (own := R_Mo) (index := 96) (C := R_Mo) 2 hts (x_gi (by decide +kernel)) rfl rfl rfl (by decide +kernel) ⟨by decide, by decide⟩).1) (hts (.instanceMethod y_Mo_fails) (by decide +kernel)) (hts (.selects R_Mo y_Mo_fails y_Mo_fails) (by decide +kernel)) (y_recv (ci := 5) (q := (R_Mo, F_Mo, 20)) hK hP rfl (m_at hri (i := 20) (by decide))) hE hP hA hA0 hS rfl hl.1 rfl (lv_room (Nat.le_of_ble_eq_true rfl)) d_Mo_follow_30 (by first | decide | omega) (by first | decide | omega) (fun v9 g9 H locs hq9 hP hA hS => ?_) (fun E9 q9 ce9 g9 H locs hq9 hP hA hS z1 z2 z3 => ?_)
    rotate_left
    · rcases hq9 with z | z | z
      · exact nomatch z.2.2.1
      · exact nomatch z.2.1
      · exact nomatch z.2.2.1
    rcases hq9 with ⟨z1, z2, hv9, hg9⟩ | ⟨z1, hv9, hg9⟩ | ⟨z1, z2, hv9, hg9⟩
    · exact absurd z1 (by decide)
    · exact absurd rfl z1
    · cases hv9
      rw [hg9] at hP hA
      refine W.eq (g2 := F0 m 33 ls [.int 1]) rfl ?_
      refine lv_if_eq hx hb d_Mo_follow_33 rfl (fun h2 => (absurd h2 (by decide))) (fun h2 => ?_)
      refine lv_iconst (v := 0) hx hb d_Mo_follow_36 (by decide) ?_
      refine W.widen (k := 0) (n := 0) (by first | decide | omega) (by first | decide | omega) ?_
      exact x_ret (W.zret (v := 0) hx hb hr rfl (w_fin rfl hAe ⟨m_badI (i := 0) (Classical.byCases (fun ht : b_in t 32 => (q_y ht).trans (s_pl1 hs)) (fun ht => q_n ht)), m_bad (i := 0) (Classical.byCases (fun ht : b_in t 32 => (q_y ht).trans (s_pl1 hs)) (fun ht => q_n ht)) rfl ((hR0.err 0).err 1)⟩ hP hA hS) hS.2.2 d_Mo_follow_37)
  · -- ifeq at 12: to 15
    have hs : b_in sv 32 := (b_inI (n := 31) (by decide)).mp (Classical.byContradiction (fun z => h1 (c_bit.n z)))
    refine lv_iload_n hx hb d_Mo_follow_15 rfl (lv_at hl 3 rfl) ?_
    refine lv_bipush (v := 31) hx hb d_Mo_follow_16 (by decide) ?_
    refine w_callS (As := [.int t, .int 31]) ⟨hx, hb, hml, hown, hts⟩ (c_Mo_in l D cK cI cN cZ cL r hri (m_s S 10 0) _ t 31) (x_cb (va_cwS (own := R_Mo) (index := 93) 2 hts (x_gi (by decide +kernel)) rfl rfl rfl (by decide +kernel) ⟨by decide, by decide⟩).1) (hts (.static y_Mo_in) (by decide +kernel)) hE hP hA hA0 hS rfl hl.1 rfl (lv_room (Nat.le_of_ble_eq_true rfl)) d_Mo_follow_18 (by first | decide | omega) (by first | decide | omega) (fun v9 g9 H locs hq9 hP hA hS => ?_) (fun E9 q9 ce9 g9 H locs hq9 hP hA hS z1 z2 z3 => ?_)
    rotate_left
    · exact nomatch hq9.1
    obtain ⟨hv9, hg9⟩ := hq9
    cases hv9
    rw [hg9] at hP hA
    refine W.eq (g2 := F0 m 21 ls [.int (c_bit (¬ t < 0 ∧ t ≤ 31)), .ref (r 20)]) rfl ?_
    refine lv_if_ne hx hb d_Mo_follow_21 rfl (fun h3 => ?_) (fun h3 => ?_)
    · -- ifne at 21: to 28
      have ht : b_in t 32 := (b_inI (n := 31) (by decide)).mp (Classical.byContradiction (fun z => h3 (c_bit.n z)))
      refine lv_iconst (v := 0) hx hb d_Mo_follow_28 (by decide) ?_
      refine lv_iconst (v := 1) hx hb d_Mo_follow_29 (by decide) ?_
      refine w_callV (As := [.int 0, .int 1]) (C := R_Mo) ⟨hx, hb, hml, hown, hts⟩ (c_Mo_fails l D cK cI cN cZ cL r hri (m_s S 10 0) _ 0 1 (by decide)) (x_cb (cwV (own := R_Mo) (index := 96) (C := R_Mo) 2 hts (x_gi (by decide +kernel)) rfl rfl rfl (by decide +kernel) ⟨by decide, by decide⟩).1) (hts (.instanceMethod y_Mo_fails) (by decide +kernel)) (hts (.selects R_Mo y_Mo_fails y_Mo_fails) (by decide +kernel)) (y_recv (ci := 5) (q := (R_Mo, F_Mo, 20)) hK hP rfl (m_at hri (i := 20) (by decide))) hE hP hA hA0 hS rfl hl.1 rfl (lv_room (Nat.le_of_ble_eq_true rfl)) d_Mo_follow_30 (by first | decide | omega) (by first | decide | omega) (fun v9 g9 H locs hq9 hP hA hS => ?_) (fun E9 q9 ce9 g9 H locs hq9 hP hA hS z1 z2 z3 => ?_)
      rotate_left
      · rcases hq9 with z | z | z
        · exact nomatch z.2.2.1
        · exact nomatch z.2.1
        · exact nomatch z.2.2.1
      rcases hq9 with ⟨z1, z2, hv9, hg9⟩ | ⟨z1, hv9, hg9⟩ | ⟨z1, z2, hv9, hg9⟩
      · cases hv9
        rw [hg9] at hP hA
        refine W.eq (g2 := F0 m 33 ls [.int 0]) rfl ?_
        refine lv_if_eq hx hb d_Mo_follow_33 rfl (fun h4 => ?_) (fun h4 => (absurd rfl h4))
        refine lv_aload_n hx hb d_Mo_follow_38 rfl (lv_at hl 0 rfl) ?_
        refine lv_iload_n hx hb d_Mo_follow_39 rfl (lv_at hl 1 rfl) ?_
        refine lv_iload_n hx hb d_Mo_follow_40 rfl (lv_at hl 2 rfl) ?_
        refine lv_iconst (v := 1) hx hb d_Mo_follow_41 (by decide) ?_
        refine w_callV (As := [.int sv, .int k, .int 1]) (C := R_Mo) ⟨hx, hb, hml, hown, hts⟩ (c_Mo_placed l D cK cI cN cZ cL r hri (m_s S 10 0) _ a cn sv k 1 True w_RF1 (Or.inr rfl) hw hc (hR0.err 0)) (x_cb (cwV (own := R_Mo) (index := 104) (C := R_Mo) 3 hts (x_gi (by decide +kernel)) rfl rfl rfl (by decide +kernel) ⟨by decide, by decide⟩).1) (hts (.instanceMethod y_Mo_placed) (by decide +kernel)) (hts (.selects R_Mo y_Mo_placed y_Mo_placed) (by decide +kernel)) (y_recv (ci := 5) (q := (R_Mo, F_Mo, 20)) hK hP rfl (m_at hri (i := 20) (by decide))) hE hP hA hA0 hS rfl hl.1 rfl (lv_room (Nat.le_of_ble_eq_true rfl)) d_Mo_follow_42 (by first | decide | omega) (by first | decide | omega) (fun v9 g9 H locs hq9 hP hA hS => ?_) (fun E9 q9 ce9 g9 H locs hq9 hP hA hS z1 z2 z3 => ?_)
        rotate_left
        · rcases hq9 with ⟨i, -, z, -⟩ | ⟨-, -, -, -, z, -⟩ <;> exact nomatch z
        rcases hq9 with ⟨i, hi, hv9, hg9⟩ | ⟨hs9, ho0, hrr, hspl, hv9, hg9⟩
        · cases hv9
          rw [hg9] at hP hA
          refine W.eq (g2 := F0 m 45 ls [.int 0]) rfl ?_
          refine lv_istore hx hb d_Mo_follow_45 hl (by decide) rfl (fun ls hl => ?_)
          have hl : lv_has ls 5 [(4, .int 0), (0, .ref (r 20)), (1, .int sv), (2, .int k), (3, .int t)] := hl
          refine lv_iload hx hb d_Mo_follow_47 (lv_at hl 0 rfl) ?_
          refine lv_if_ne hx hb d_Mo_follow_49 rfl (fun h5 => (absurd rfl h5)) (fun h5 => ?_)
          refine lv_iconst (v := 0) hx hb d_Mo_follow_52 (by decide) ?_
          refine W.widen (k := 0) (n := 0) (by first | decide | omega) (by first | decide | omega) ?_
          exact x_ret (W.zret (v := 0) hx hb hr rfl (w_fin rfl hAe ⟨m_badI (i := i) ((q_y ht).trans (hi _)), m_bad (i := i) ((q_y ht).trans (hi _)) rfl (((hR0.err 0).err 0).err _)⟩ hP hA hS) hS.2.2 d_Mo_follow_53)
        · cases hv9
          rw [hg9] at hP hA
          refine W.eq (g2 := F0 m 45 ls [.int (nI (a.sl (j_n sv)))]) rfl ?_
          have o1 : 1 ≤ (a.sl (j_n sv)) := by omega
          have o2 := hw.2.2.1 (j_n sv) hs9.j32
          have hR1 := (hR0.err 0).err 0
          obtain ⟨hok, hcl, -⟩ := hR1.ok hw hc o1 o2
          have hne : ¬ nI (a.sl (j_n sv)) = 0 := nI_ne0 (by omega) (by omega)
          refine lv_istore hx hb d_Mo_follow_45 hl (by decide) rfl (fun ls hl => ?_)
          have hl : lv_has ls 5 [(4, .int (nI (a.sl (j_n sv)))), (0, .ref (r 20)), (1, .int sv), (2, .int k), (3, .int t)] := hl
          refine lv_iload hx hb d_Mo_follow_47 (lv_at hl 0 rfl) ?_
          refine lv_if_ne hx hb d_Mo_follow_49 rfl (fun h6 => ?_) (fun h6 => (absurd h6 hne))
          obtain ⟨b, b2, b3⟩ := hw.2.2.2.2.1 (a.sl (j_n sv)) k o1 o2 (hrr.mpr trivial)
          refine lv_aload_n hx hb d_Mo_follow_54 rfl (lv_at hl 1 rfl) ?_
          refine y_get (D := D) (ci := 5) (v := .ref (r 15)) (C := R_Mo) (T := F_Mo) (N := 20) hx hb hts in_Mo hown hK hP (m_at hri (i := 20) (by decide)) rfl 15 (by decide) (hts (.fieldLink R_Mo 47 "MemoryDeskModel" "slots" "[I") (by decide +kernel)) (fun _ h9 => h9) rfl d_Mo_follow_55 ?_
          refine lv_iload_n hx hb d_Mo_follow_58 rfl (lv_at hl 4 rfl) ?_
          refine lv_aload_n hx hb d_Mo_follow_59 rfl (lv_at hl 1 rfl) ?_
          refine lv_iload hx hb d_Mo_follow_60 (lv_at hl 0 rfl) ?_
          refine lv_iload_n hx hb d_Mo_follow_62 rfl (lv_at hl 3 rfl) ?_
          refine w_callV (As := [.int (nI (a.sl (j_n sv))), .int k]) (C := R_Mo) ⟨hx, hb, hml, hown, hts⟩ (c_Mo_latest l D cK cI cN cZ cL r hri (m_s (m_s S 10 0) 10 0) _ (nI (a.sl (j_n sv))) k en r12 (by omega)) (x_cb (cwV (own := R_Mo) (index := 89) (C := R_Mo) 2 hts (x_gi (by decide +kernel)) rfl rfl rfl (by decide +kernel) ⟨by decide, by decide⟩).1) (hts (.instanceMethod y_Mo_latest) (by decide +kernel)) (hts (.selects R_Mo y_Mo_latest y_Mo_latest) (by decide +kernel)) (y_recv (ci := 5) (q := (R_Mo, F_Mo, 20)) hK hP rfl (m_at hri (i := 20) (by decide))) hE hP hA hA0 hS rfl hl.1 rfl (lv_room (Nat.le_of_ble_eq_true rfl)) d_Mo_follow_63 (by first | decide | omega) (by first | decide | omega) (fun v9 g9 H locs hq9 hP hA hS => ?_) (fun E9 q9 ce9 g9 H locs hq9 hP hA hS z1 z2 z3 => ?_)
          rotate_left
          · exact nomatch hq9.1
          obtain ⟨hv9, hg9⟩ := hq9
          cases hv9
          rw [hg9] at hP hA
          refine W.eq (g2 := F0 m 66 ls [.long (m_lat (m_s (m_s S 10 0) 10 0) (nI (a.sl (j_n sv))) k en), .int t, .ref (r 15)]) rfl ?_
          rw [show m_lat (m_s (m_s S 10 0) 10 0) (nI (a.sl (j_n sv))) k en = a.ct (a.sl (j_n sv)) k from (m_latS (S' := (m_s (m_s S 10 0) 10 0)) (S := S) rfl rfl rfl).trans (r14 (a.sl (j_n sv)) k o1 o2).symm]
          rw [b3]
          refine lv_l2i hx hb d_Mo_follow_66 rfl ?_
          rw [lN_i]
          refine y_iast (f := (S.1 15)) hx hb hK hP hA hS 2 (m_at hri (i := 15) (by decide)) rfl ht.v32 d_Mo_follow_67 (fun H locs hP hA hS => ?_)
          have e9 : va_up (m_w r cN cZ cL (m_s (m_s S 10 0) 10 0)) (r 15) (some (.inl (cN, 32, .inl (upd (S.1 15) t.toNatClampNeg (nI b))))) = (m_w r cN cZ cL (m_a (m_s (m_s S 10 0) 10 0) 15 t.toNatClampNeg (nI b))) := m_wa15 hri (m_s (m_s S 10 0) 10 0) t.toNatClampNeg (nI b)
          have hP : y_P D vwCl (m_w r cN cZ cL (m_a (m_s (m_s S 10 0) 10 0) 15 t.toNatClampNeg (nI b))) H := by rw [← e9]; exact hP
          have hA : ∀ q99 e99, (m_w r cN cZ cL (m_a (m_s (m_s S 10 0) 10 0) 15 t.toNatClampNeg (nI b))) q99 = some e99 → A q99 := by rw [← e9]; exact hA
          refine lv_aload_n hx hb d_Mo_follow_68 rfl (lv_at hl 1 rfl) ?_
          refine y_get (D := D) (ci := 5) (v := .ref (r 15)) (C := R_Mo) (T := F_Mo) (N := 20) hx hb hts in_Mo hown hK hP (m_at hri (i := 20) (by decide)) rfl 15 (by decide) (hts (.fieldLink R_Mo 47 "MemoryDeskModel" "slots" "[I") (by decide +kernel)) (fun _ h9 => h9) rfl d_Mo_follow_69 ?_
          refine lv_iload_n hx hb d_Mo_follow_72 rfl (lv_at hl 4 rfl) ?_
          refine y_iald (f := (upd (S.1 15) t.toNatClampNeg (nI b))) hx hb hK hP 2 (m_at hri (i := 15) (by decide)) rfl ht.v32 d_Mo_follow_73 ?_
          rw [upd_s]
          refine lv_if_eq hx hb d_Mo_follow_74 rfl (fun h7 => ?_) (fun h7 => ?_)
          · -- ifeq at 74: to 81
            refine lv_iconst (v := 0) hx hb d_Mo_follow_81 (by decide) ?_
            refine W.widen (k := 0) (n := 0) (by first | decide | omega) (by first | decide | omega) ?_
            exact x_ret (W.zret (v := 0) hx hb hr rfl (w_fin rfl hAe ⟨m_goodI (((q_y ht).trans (hspl _)).trans (by rw [w_b0 (fun z => z (by rw [b3, (nI_eq (b := 0) (by omega) (by omega)).mp h7]; rfl)), b3, w_lN (by omega)])), m_good (((q_y ht).trans (hspl _)).trans (by rw [w_b0 (fun z => z (by rw [b3, (nI_eq (b := 0) (by omega) (by omega)).mp h7]; rfl)), b3, w_lN (by omega)])) rfl ((hR1.puts).up (Nat.le_succ _))⟩ hP hA hS) hS.2.2 d_Mo_follow_82)
          · -- ifeq at 74: to 77
            refine lv_iconst (v := 1) hx hb d_Mo_follow_77 (by decide) ?_
            refine lv_goto hx hb d_Mo_follow_78 rfl ?_
            refine W.widen (k := 0) (n := 0) (by first | decide | omega) (by first | decide | omega) ?_
            exact x_ret (W.zret (v := 1) hx hb hr rfl (w_fin rfl hAe ⟨m_goodI (((q_y ht).trans (hspl _)).trans (by rw [w_b1 (fun z => h7 (by rw [b3] at z; rw [(lN_eq (b := 0) (by omega) (by omega)).mp z]; rfl)), b3, w_lN (by omega)])), m_good (((q_y ht).trans (hspl _)).trans (by rw [w_b1 (fun z => h7 (by rw [b3] at z; rw [(lN_eq (b := 0) (by omega) (by omega)).mp z]; rfl)), b3, w_lN (by omega)])) rfl ((hR1.puts).up (Nat.le_succ _))⟩ hP hA hS) hS.2.2 d_Mo_follow_82)
      · exact absurd rfl z1
      · exact absurd rfl z1
    · -- ifne at 21: to 24
      have ht : ¬ b_in t 32 := fun z => by have hy_ := h3; rw [c_bit.y (show ¬ t < 0 ∧ t ≤ 31 from (b_inI (n := 31) (by decide)).mpr z)] at hy_; exact absurd hy_ (by decide)
      refine lv_iconst (v := 1) hx hb d_Mo_follow_24 (by decide) ?_
      refine lv_goto hx hb d_Mo_follow_25 rfl ?_
      refine lv_iconst (v := 1) hx hb d_Mo_follow_29 (by decide) ?_
      refine w_callV (As := [.int 1, .int 1]) (C := R_Mo) ⟨hx, hb, hml, hown, hts⟩ (c_Mo_fails l D cK cI cN cZ cL r hri (m_s S 10 0) _ 1 1 (by decide)) (x_cb (cwV (own := R_Mo) (index := 96) (C := R_Mo) 2 hts (x_gi (by decide +kernel)) rfl rfl rfl (by decide +kernel) ⟨by decide, by decide⟩).1) (hts (.instanceMethod y_Mo_fails) (by decide +kernel)) (hts (.selects R_Mo y_Mo_fails y_Mo_fails) (by decide +kernel)) (y_recv (ci := 5) (q := (R_Mo, F_Mo, 20)) hK hP rfl (m_at hri (i := 20) (by decide))) hE hP hA hA0 hS rfl hl.1 rfl (lv_room (Nat.le_of_ble_eq_true rfl)) d_Mo_follow_30 (by first | decide | omega) (by first | decide | omega) (fun v9 g9 H locs hq9 hP hA hS => ?_) (fun E9 q9 ce9 g9 H locs hq9 hP hA hS z1 z2 z3 => ?_)
      rotate_left
      · rcases hq9 with z | z | z
        · exact nomatch z.2.2.1
        · exact nomatch z.2.1
        · exact nomatch z.2.2.1
      rcases hq9 with ⟨z1, z2, hv9, hg9⟩ | ⟨z1, hv9, hg9⟩ | ⟨z1, z2, hv9, hg9⟩
      · exact absurd z1 (by decide)
      · exact absurd rfl z1
      · cases hv9
        rw [hg9] at hP hA
        refine W.eq (g2 := F0 m 33 ls [.int 1]) rfl ?_
        refine lv_if_eq hx hb d_Mo_follow_33 rfl (fun h8 => (absurd h8 (by decide))) (fun h8 => ?_)
        refine lv_iconst (v := 0) hx hb d_Mo_follow_36 (by decide) ?_
        refine W.widen (k := 0) (n := 0) (by first | decide | omega) (by first | decide | omega) ?_
        exact x_ret (W.zret (v := 0) hx hb hr rfl (w_fin rfl hAe ⟨m_badI (i := 0) (q_n ht), m_bad (i := 0) (q_n ht) rfl ((hR0.err 0).err 1)⟩ hP hA hS) hS.2.2 d_Mo_follow_37)
set_option maxHeartbeats 4000000 in
set_option maxRecDepth 100000 in
/-- collect() -/
theorem c_Mo_collect (l : Launch) (D : va_G) (cK cI cN cZ cL : ClassId) (r : Nat → Nat) (hri : m_inj r) (S : MS) (sz : Nat) (a : Ab) (cn : Nat)  (hw : a_W a cn) (hc : cn ≤ 512) (hR : m_R a S cn)  : x_M l y_Mo_collect [.code y_Mo_collect b_Mo_collect 1 (some .int)] rmV (w_Pc D (x_tys cK cI cN cZ cL) [.ref (r 20)] (m_w r cN cZ cL S) sz) (w_Qc D (m_w r cN cZ cL S) sz (fun r9 g9 => m_aI (s_collect a) r9 ∧ m_E r cN cZ cL (s_collect a) cn g9)) 0 0 (y_A (m_w r cN cZ cL S) sz) := by
  refine x_ofW (cc := b_Mo_collect) (maxL := 1) (ret := (some .int)) (by decide) rfl ?_
  intro p e s m args below meth c s₁ B hml hno hv
  obtain ⟨rfl, hsz, hP, hE⟩ := hv
  subst hsz
  have hts := hE.hts ([.ref (r 20)] : List Value).toArray
  have hK := hE.1.2.1
  have hA0 : ∀ q, s.heap.size ≤ q → y_A (m_w r cN cZ cL S) s.heap.size q := fun q h => Or.inr h
  have hA : ∀ q e, (m_w r cN cZ cL S) q = some e → y_A (m_w r cN cZ cL S) s.heap.size q := fun q e h => Or.inl (by rw [h]; exact fun z => nomatch z)
  have hS : va_S (y_A (m_w r cN cZ cL S) s.heap.size) s.heap s.heap [] := va_S.rf
  generalize hAe : y_A (m_w r cN cZ cL S) s.heap.size = A at hE hA0 hA hS ⊢
  have hx := B.exec
  have hb := B.bytes
  have hr := B.returns
  have hlocks := B.notSynchronized
  have hown : s.vm.findClass R_Mo = some m.cls := findClass_of_methodNamed B.named
  have hl := lv_entry ([.ref (r 20)]) (n := 1) (Nat.le_of_ble_eq_true rfl)
  rw [lg_entry_eq]
  generalize (lg_sl ([.ref (r 20)]) ++ List.replicate (1 - (lg_sl ([.ref (r 20)])).length) Slot.unset).toArray = ls at hl ⊢
  have hl : lv_has ls 1 [(0, .ref (r 20))] := hl
  have hR0 := hR
  have hn : a.n ≤ cn := hw.2.2.2.2.2.2.2.2.2.1
  have hmm : a.mem ≤ 65536 := hw.2.2.2.2.2.2.2.2.1
  obtain ⟨r1, ⟨r2, r3, r4, r5⟩, r6, r7, r8, r9, r10, en, r11, r12, r13, r14⟩ := hR
  refine lv_aload_n hx hb d_Mo_collect_0 rfl (lv_at hl 0 rfl) ?_
  refine lv_iconst (v := 0) hx hb d_Mo_collect_1 (by decide) ?_
  refine y_put (D := D) (ci := 5) (v := .int 0) (ty := .int) (C := R_Mo) (T := F_Mo) (N := 20) hx hb hts in_Mo t_Mo t_Mo_ok n_Mo hown hK hP hA hS (m_at hri (i := 20) (by decide)) rfl 10 (by decide) (hts (.fieldLink R_Mo 59 "MemoryDeskModel" "err" "I") (by decide +kernel)) (fun _ h9 => h9) rfl (by decide +kernel) rfl rfl (Nat.le_of_ble_eq_true rfl) d_Mo_collect_2 (fun H locs hP hA hS => ?_)
  have e9 : va_up (m_w r cN cZ cL S) (r 20) (some (.inr (5, [.ref (r 0), .ref (r 1), .ref (r 2), .ref (r 3), .ref (r 4), .ref (r 5), .ref (r 6), .int (S.2.2 7), .int (S.2.2 8), .int (S.2.2 9), .int 0, .ref (r 11), .ref (r 12), .ref (r 13), .int (S.2.2 14), .ref (r 15), .ref (r 16), .ref (r 17), .ref (r 18), .int (S.2.2 19)]))) = (m_w r cN cZ cL (m_s S 10 0)) := m_ws10 hri S 0
  have hP : y_P D vwCl (m_w r cN cZ cL (m_s S 10 0)) H := by rw [← e9]; exact hP
  have hA : ∀ q99 e99, (m_w r cN cZ cL (m_s S 10 0)) q99 = some e99 → A q99 := by rw [← e9]; exact hA
  refine lv_aload_n hx hb d_Mo_collect_5 rfl (lv_at hl 0 rfl) ?_
  refine w_callV (As := []) (C := R_Mo) ⟨hx, hb, hml, hown, hts⟩ (c_Mo_reachable l D cK cI cN cZ cL r hri (m_s S 10 0) _ a cn hw hc (hR0.err 0)) (x_cb (cwV (own := R_Mo) (index := 100) (C := R_Mo) 0 hts (x_gi (by decide +kernel)) rfl rfl rfl (by decide +kernel) ⟨by decide, by decide⟩).1) (hts (.instanceMethod y_Mo_reachable) (by decide +kernel)) (hts (.selects R_Mo y_Mo_reachable y_Mo_reachable) (by decide +kernel)) (y_recv (ci := 5) (q := (R_Mo, F_Mo, 20)) hK hP rfl (m_at hri (i := 20) (by decide))) hE hP hA hA0 hS rfl hl.1 rfl (lv_room (Nat.le_of_ble_eq_true rfl)) d_Mo_collect_6 (by first | decide | omega) (by first | decide | omega) (fun v9 g9 H locs hq9 hP hA hS => ?_) (fun E9 q9 ce9 g9 H locs hq9 hP hA hS z1 z2 z3 => ?_)
  rotate_left
  · exact nomatch hq9.1
  obtain ⟨hv9, T, hQT, hg9⟩ := hq9
  cases hv9
  rw [hg9] at hP hA
  refine W.eq (g2 := F0 m 9 ls [.long (lN (a_use a))]) rfl ?_
  have hRT := hQT.R (hR0.err 0)
  have hT10 : T.2.2 10 = 0 := by rw [hQT.1]; rfl
  refine lv_l2i hx hb d_Mo_collect_9 rfl ?_
  rw [lN_i]
  refine W.widen (k := 0) (n := 0) (by first | decide | omega) (by first | decide | omega) ?_
  exact x_ret (W.iret (v := (nI (a_use a))) hx hb hr (w_fin rfl hAe ⟨m_goodI rfl, m_good rfl hT10 (hRT.up (Nat.le_succ _))⟩ hP hA hS) hS.2.2 d_Mo_collect_10)
set_option maxHeartbeats 4000000 in
set_option maxRecDepth 100000 in
/-- memory(words) -/
theorem c_Mo_memory (l : Launch) (D : va_G) (cK cI cN cZ cL : ClassId) (r : Nat → Nat) (hri : m_inj r) (S : MS) (sz : Nat) (a : Ab) (cn : Nat) (w : Int32) (hw : a_W a cn) (hc : cn ≤ 512) (hR : m_R a S cn) (hu : a_use a ≤ 65536) : x_M l y_Mo_memory [.code y_Mo_memory b_Mo_memory 3 (some .boolean)] rmV (w_Pc D (x_tys cK cI cN cZ cL) [.ref (r 20), .int w] (m_w r cN cZ cL S) sz) (w_Qc D (m_w r cN cZ cL S) sz (fun r9 g9 => m_aI (s_memory a w) r9 ∧ m_E r cN cZ cL (s_memory a w) cn g9)) 0 0 (y_A (m_w r cN cZ cL S) sz) := by
  refine x_ofW (cc := b_Mo_memory) (maxL := 3) (ret := (some .boolean)) (by decide) rfl ?_
  intro p e s m args below meth c s₁ B hml hno hv
  obtain ⟨rfl, hsz, hP, hE⟩ := hv
  subst hsz
  have hts := hE.hts ([.ref (r 20), .int w] : List Value).toArray
  have hK := hE.1.2.1
  have hA0 : ∀ q, s.heap.size ≤ q → y_A (m_w r cN cZ cL S) s.heap.size q := fun q h => Or.inr h
  have hA : ∀ q e, (m_w r cN cZ cL S) q = some e → y_A (m_w r cN cZ cL S) s.heap.size q := fun q e h => Or.inl (by rw [h]; exact fun z => nomatch z)
  have hS : va_S (y_A (m_w r cN cZ cL S) s.heap.size) s.heap s.heap [] := va_S.rf
  generalize hAe : y_A (m_w r cN cZ cL S) s.heap.size = A at hE hA0 hA hS ⊢
  have hx := B.exec
  have hb := B.bytes
  have hr := B.returns
  have hlocks := B.notSynchronized
  have hown : s.vm.findClass R_Mo = some m.cls := findClass_of_methodNamed B.named
  have hl := lv_entry ([.ref (r 20), .int w]) (n := 3) (Nat.le_of_ble_eq_true rfl)
  rw [lg_entry_eq]
  generalize (lg_sl ([.ref (r 20), .int w]) ++ List.replicate (3 - (lg_sl ([.ref (r 20), .int w])).length) Slot.unset).toArray = ls at hl ⊢
  have hl : lv_has ls 3 [(0, .ref (r 20)), (1, .int w)] := hl
  have hR0 := hR
  have hn : a.n ≤ cn := hw.2.2.2.2.2.2.2.2.2.1
  have hmm : a.mem ≤ 65536 := hw.2.2.2.2.2.2.2.2.1
  obtain ⟨r1, ⟨r2, r3, r4, r5⟩, r6, r7, r8, r9, r10, en, r11, r12, r13, r14⟩ := hR
  refine lv_aload_n hx hb d_Mo_memory_0 rfl (lv_at hl 0 rfl) ?_
  refine lv_iconst (v := 0) hx hb d_Mo_memory_1 (by decide) ?_
  refine y_put (D := D) (ci := 5) (v := .int 0) (ty := .int) (C := R_Mo) (T := F_Mo) (N := 20) hx hb hts in_Mo t_Mo t_Mo_ok n_Mo hown hK hP hA hS (m_at hri (i := 20) (by decide)) rfl 10 (by decide) (hts (.fieldLink R_Mo 59 "MemoryDeskModel" "err" "I") (by decide +kernel)) (fun _ h9 => h9) rfl (by decide +kernel) rfl rfl (Nat.le_of_ble_eq_true rfl) d_Mo_memory_2 (fun H locs hP hA hS => ?_)
  have e9 : va_up (m_w r cN cZ cL S) (r 20) (some (.inr (5, [.ref (r 0), .ref (r 1), .ref (r 2), .ref (r 3), .ref (r 4), .ref (r 5), .ref (r 6), .int (S.2.2 7), .int (S.2.2 8), .int (S.2.2 9), .int 0, .ref (r 11), .ref (r 12), .ref (r 13), .int (S.2.2 14), .ref (r 15), .ref (r 16), .ref (r 17), .ref (r 18), .int (S.2.2 19)]))) = (m_w r cN cZ cL (m_s S 10 0)) := m_ws10 hri S 0
  have hP : y_P D vwCl (m_w r cN cZ cL (m_s S 10 0)) H := by rw [← e9]; exact hP
  have hA : ∀ q99 e99, (m_w r cN cZ cL (m_s S 10 0)) q99 = some e99 → A q99 := by rw [← e9]; exact hA
  refine lv_aload_n hx hb d_Mo_memory_5 rfl (lv_at hl 0 rfl) ?_
  refine lv_iload_n hx hb d_Mo_memory_6 rfl (lv_at hl 1 rfl) ?_
  refine lv_bipush (v := 16) hx hb d_Mo_memory_7 (by decide) ?_
  refine lv_icmp_lt hx hb d_Mo_memory_9 rfl (fun h1 => ?_) (fun h1 => ?_)
  · -- if_icmplt at 9: to 18
    refine lv_iconst (v := 1) hx hb d_Mo_memory_18 (by decide) ?_
    refine lv_goto hx hb d_Mo_memory_19 rfl ?_
    refine lv_iconst (v := 1) hx hb d_Mo_memory_23 (by decide) ?_
    refine w_callV (As := [.int 1, .int 1]) (C := R_Mo) ⟨hx, hb, hml, hown, hts⟩ (c_Mo_fails l D cK cI cN cZ cL r hri (m_s S 10 0) _ 1 1 (by decide)) (x_cb (cwV (own := R_Mo) (index := 96) (C := R_Mo) 2 hts (x_gi (by decide +kernel)) rfl rfl rfl (by decide +kernel) ⟨by decide, by decide⟩).1) (hts (.instanceMethod y_Mo_fails) (by decide +kernel)) (hts (.selects R_Mo y_Mo_fails y_Mo_fails) (by decide +kernel)) (y_recv (ci := 5) (q := (R_Mo, F_Mo, 20)) hK hP rfl (m_at hri (i := 20) (by decide))) hE hP hA hA0 hS rfl hl.1 rfl (lv_room (Nat.le_of_ble_eq_true rfl)) d_Mo_memory_24 (by first | decide | omega) (by first | decide | omega) (fun v9 g9 H locs hq9 hP hA hS => ?_) (fun E9 q9 ce9 g9 H locs hq9 hP hA hS z1 z2 z3 => ?_)
    rotate_left
    · rcases hq9 with z | z | z
      · exact nomatch z.2.2.1
      · exact nomatch z.2.1
      · exact nomatch z.2.2.1
    rcases hq9 with ⟨z1, z2, hv9, hg9⟩ | ⟨z1, hv9, hg9⟩ | ⟨z1, z2, hv9, hg9⟩
    · exact absurd z1 (by decide)
    · exact absurd rfl z1
    · cases hv9
      rw [hg9] at hP hA
      refine W.eq (g2 := F0 m 27 ls [.int 1]) rfl ?_
      refine lv_if_eq hx hb d_Mo_memory_27 rfl (fun h2 => (absurd h2 (by decide))) (fun h2 => ?_)
      refine lv_iconst (v := 0) hx hb d_Mo_memory_30 (by decide) ?_
      refine W.widen (k := 0) (n := 0) (by first | decide | omega) (by first | decide | omega) ?_
      exact x_ret (W.zret (v := 0) hx hb hr rfl (w_fin rfl hAe ⟨m_badI (i := 0) (q_n (fun z => z.1 h1)), m_bad (i := 0) (q_n (fun z => z.1 h1)) rfl ((hR0.err 0).err 1)⟩ hP hA hS) hS.2.2 d_Mo_memory_31)
  · -- if_icmplt at 9: to 12
    refine lv_iload_n hx hb d_Mo_memory_12 rfl (lv_at hl 1 rfl) ?_
    refine lv_ldc (own := R_Mo) (index := 32) (v := 65536) hx hb hown (hts (.constant R_Mo 32 65536) (by decide +kernel)) d_Mo_memory_13 ?_
    refine lv_icmp_le hx hb d_Mo_memory_15 rfl (fun h3 => ?_) (fun h3 => ?_)
    · -- if_icmple at 15: to 22
      refine lv_iconst (v := 0) hx hb d_Mo_memory_22 (by decide) ?_
      refine lv_iconst (v := 1) hx hb d_Mo_memory_23 (by decide) ?_
      refine w_callV (As := [.int 0, .int 1]) (C := R_Mo) ⟨hx, hb, hml, hown, hts⟩ (c_Mo_fails l D cK cI cN cZ cL r hri (m_s S 10 0) _ 0 1 (by decide)) (x_cb (cwV (own := R_Mo) (index := 96) (C := R_Mo) 2 hts (x_gi (by decide +kernel)) rfl rfl rfl (by decide +kernel) ⟨by decide, by decide⟩).1) (hts (.instanceMethod y_Mo_fails) (by decide +kernel)) (hts (.selects R_Mo y_Mo_fails y_Mo_fails) (by decide +kernel)) (y_recv (ci := 5) (q := (R_Mo, F_Mo, 20)) hK hP rfl (m_at hri (i := 20) (by decide))) hE hP hA hA0 hS rfl hl.1 rfl (lv_room (Nat.le_of_ble_eq_true rfl)) d_Mo_memory_24 (by first | decide | omega) (by first | decide | omega) (fun v9 g9 H locs hq9 hP hA hS => ?_) (fun E9 q9 ce9 g9 H locs hq9 hP hA hS z1 z2 z3 => ?_)
      rotate_left
      · rcases hq9 with z | z | z
        · exact nomatch z.2.2.1
        · exact nomatch z.2.1
        · exact nomatch z.2.2.1
      rcases hq9 with ⟨z1, z2, hv9, hg9⟩ | ⟨z1, hv9, hg9⟩ | ⟨z1, z2, hv9, hg9⟩
      · cases hv9
        rw [hg9] at hP hA
        refine W.eq (g2 := F0 m 27 ls [.int 0]) rfl ?_
        refine lv_if_eq hx hb d_Mo_memory_27 rfl (fun h4 => ?_) (fun h4 => (absurd rfl h4))
        obtain ⟨jw, jw1, jw2⟩ := nI_of2 (n := 65536) (M := 65536) rfl (fun z => h1 (b_lt16 z)) h3
        have hj : j_n w = jw := by rw [jw2]; exact nI_clamp (by omega)
        refine lv_aload_n hx hb d_Mo_memory_32 rfl (lv_at hl 0 rfl) ?_
        refine w_callV (As := []) (C := R_Mo) ⟨hx, hb, hml, hown, hts⟩ (c_Mo_reachable l D cK cI cN cZ cL r hri (m_s S 10 0) _ a cn hw hc (hR0.err 0)) (x_cb (cwV (own := R_Mo) (index := 100) (C := R_Mo) 0 hts (x_gi (by decide +kernel)) rfl rfl rfl (by decide +kernel) ⟨by decide, by decide⟩).1) (hts (.instanceMethod y_Mo_reachable) (by decide +kernel)) (hts (.selects R_Mo y_Mo_reachable y_Mo_reachable) (by decide +kernel)) (y_recv (ci := 5) (q := (R_Mo, F_Mo, 20)) hK hP rfl (m_at hri (i := 20) (by decide))) hE hP hA hA0 hS rfl hl.1 rfl (lv_room (Nat.le_of_ble_eq_true rfl)) d_Mo_memory_33 (by first | decide | omega) (by first | decide | omega) (fun v9 g9 H locs hq9 hP hA hS => ?_) (fun E9 q9 ce9 g9 H locs hq9 hP hA hS z1 z2 z3 => ?_)
        rotate_left
        · exact nomatch hq9.1
        obtain ⟨hv9, T, hQT, hg9⟩ := hq9
        cases hv9
        rw [hg9] at hP hA
        refine W.eq (g2 := F0 m 36 ls [.long (lN (a_use a))]) rfl ?_
        have hRT := hQT.R (hR0.err 0)
        have hT10 : T.2.2 10 = 0 := by rw [hQT.1]; rfl
        refine lv_iload_n hx hb d_Mo_memory_36 rfl (lv_at hl 1 rfl) ?_
        refine lv_i2l hx hb d_Mo_memory_37 rfl ?_
        refine W.lcmp hx hb d_Mo_memory_38 ?_
        have hcmp : ∀ x : Int64, x = lN (a_use a) → (0 < lg_cmp x w.toInt64 ↔ ¬ a_use a ≤ jw) := fun x hx9 => by
          rw [lg_cmp_gt, hx9, jw2, nI_l (by omega), lN_lt (by omega) (by omega)]
          omega
        refine lv_if_gt hx hb d_Mo_memory_39 rfl (fun h5 => ?_) (fun h5 => ?_)
        · -- ifgt at 39: to 46
          refine lv_iconst (v := 0) hx hb d_Mo_memory_46 (by decide) ?_
          refine lv_istore_n hx hb d_Mo_memory_47 rfl hl (by decide) rfl (fun ls hl => ?_)
          have hl : lv_has ls 3 [(2, .int 0), (0, .ref (r 20)), (1, .int w)] := hl
          refine lv_iload_n hx hb d_Mo_memory_48 rfl (lv_at hl 0 rfl) ?_
          refine lv_if_eq hx hb d_Mo_memory_49 rfl (fun h6 => ?_) (fun h6 => (absurd rfl h6))
          refine lv_iload_n hx hb d_Mo_memory_57 rfl (lv_at hl 0 rfl) ?_
          refine W.widen (k := 0) (n := 0) (by first | decide | omega) (by first | decide | omega) ?_
          exact x_ret (W.zret (v := 0) hx hb hr rfl (w_fin rfl hAe ⟨m_goodI (((q_y ⟨h1, h3⟩).trans (q_n (by rw [hj]; exact (hcmp _ rfl).mp h5))).trans (by rw [w_b0 (fun z => z)])), m_good ((q_y ⟨h1, h3⟩).trans (q_n (by rw [hj]; exact (hcmp _ rfl).mp h5))) hT10 (hRT.up (Nat.le_succ _))⟩ hP hA hS) hS.2.2 d_Mo_memory_58)
        · -- ifgt at 39: to 42
          have hfit : a_use a ≤ j_n w := by rw [hj]; exact Classical.byContradiction (fun z => h5 ((hcmp _ rfl).mpr z))
          refine lv_iconst (v := 1) hx hb d_Mo_memory_42 (by decide) ?_
          refine lv_goto hx hb d_Mo_memory_43 rfl ?_
          refine lv_istore_n hx hb d_Mo_memory_47 rfl hl (by decide) rfl (fun ls hl => ?_)
          have hl : lv_has ls 3 [(2, .int 1), (0, .ref (r 20)), (1, .int w)] := hl
          refine lv_iload_n hx hb d_Mo_memory_48 rfl (lv_at hl 0 rfl) ?_
          refine lv_if_eq hx hb d_Mo_memory_49 rfl (fun h7 => (absurd h7 (by decide))) (fun h7 => ?_)
          refine lv_aload_n hx hb d_Mo_memory_52 rfl (lv_at hl 1 rfl) ?_
          refine lv_iload_n hx hb d_Mo_memory_53 rfl (lv_at hl 2 rfl) ?_
          refine y_put (D := D) (ci := 5) (v := .int w) (ty := .int) (C := R_Mo) (T := F_Mo) (N := 20) hx hb hts in_Mo t_Mo t_Mo_ok n_Mo hown hK hP hA hS (m_at hri (i := 20) (by decide)) rfl 9 (by decide) (hts (.fieldLink R_Mo 33 "MemoryDeskModel" "memory" "I") (by decide +kernel)) (fun _ h9 => h9) rfl (by decide +kernel) rfl rfl (Nat.le_of_ble_eq_true rfl) d_Mo_memory_54 (fun H locs hP hA hS => ?_)
          have e9 : va_up (m_w r cN cZ cL T) (r 20) (some (.inr (5, [.ref (r 0), .ref (r 1), .ref (r 2), .ref (r 3), .ref (r 4), .ref (r 5), .ref (r 6), .int (T.2.2 7), .int (T.2.2 8), .int w, .int (T.2.2 10), .ref (r 11), .ref (r 12), .ref (r 13), .int (T.2.2 14), .ref (r 15), .ref (r 16), .ref (r 17), .ref (r 18), .int (T.2.2 19)]))) = (m_w r cN cZ cL (m_s T 9 w)) := m_ws9 hri T w
          have hP : y_P D vwCl (m_w r cN cZ cL (m_s T 9 w)) H := by rw [← e9]; exact hP
          have hA : ∀ q99 e99, (m_w r cN cZ cL (m_s T 9 w)) q99 = some e99 → A q99 := by rw [← e9]; exact hA
          refine lv_iload_n hx hb d_Mo_memory_57 rfl (lv_at hl 0 rfl) ?_
          have hRM : m_R (a_memo a (j_n w)) (m_s T 9 w) (cn + 1) := by
            rw [hj, jw2]
            exact (hRT.memo).up (Nat.le_succ _)
          refine W.widen (k := 0) (n := 0) (by first | decide | omega) (by first | decide | omega) ?_
          exact x_ret (W.zret (v := 1) hx hb hr rfl (w_fin rfl hAe ⟨m_goodI (((q_y ⟨h1, h3⟩).trans (q_y hfit)).trans (by rw [w_b1 trivial])), m_good ((q_y ⟨h1, h3⟩).trans (q_y hfit)) hT10 hRM⟩ hP hA hS) hS.2.2 d_Mo_memory_58)
      · exact absurd rfl z1
      · exact absurd rfl z1
    · -- if_icmple at 15: to 18
      refine lv_iconst (v := 1) hx hb d_Mo_memory_18 (by decide) ?_
      refine lv_goto hx hb d_Mo_memory_19 rfl ?_
      refine lv_iconst (v := 1) hx hb d_Mo_memory_23 (by decide) ?_
      refine w_callV (As := [.int 1, .int 1]) (C := R_Mo) ⟨hx, hb, hml, hown, hts⟩ (c_Mo_fails l D cK cI cN cZ cL r hri (m_s S 10 0) _ 1 1 (by decide)) (x_cb (cwV (own := R_Mo) (index := 96) (C := R_Mo) 2 hts (x_gi (by decide +kernel)) rfl rfl rfl (by decide +kernel) ⟨by decide, by decide⟩).1) (hts (.instanceMethod y_Mo_fails) (by decide +kernel)) (hts (.selects R_Mo y_Mo_fails y_Mo_fails) (by decide +kernel)) (y_recv (ci := 5) (q := (R_Mo, F_Mo, 20)) hK hP rfl (m_at hri (i := 20) (by decide))) hE hP hA hA0 hS rfl hl.1 rfl (lv_room (Nat.le_of_ble_eq_true rfl)) d_Mo_memory_24 (by first | decide | omega) (by first | decide | omega) (fun v9 g9 H locs hq9 hP hA hS => ?_) (fun E9 q9 ce9 g9 H locs hq9 hP hA hS z1 z2 z3 => ?_)
      rotate_left
      · rcases hq9 with z | z | z
        · exact nomatch z.2.2.1
        · exact nomatch z.2.1
        · exact nomatch z.2.2.1
      rcases hq9 with ⟨z1, z2, hv9, hg9⟩ | ⟨z1, hv9, hg9⟩ | ⟨z1, z2, hv9, hg9⟩
      · exact absurd z1 (by decide)
      · exact absurd rfl z1
      · cases hv9
        rw [hg9] at hP hA
        refine W.eq (g2 := F0 m 27 ls [.int 1]) rfl ?_
        refine lv_if_eq hx hb d_Mo_memory_27 rfl (fun h8 => (absurd h8 (by decide))) (fun h8 => ?_)
        refine lv_iconst (v := 0) hx hb d_Mo_memory_30 (by decide) ?_
        refine W.widen (k := 0) (n := 0) (by first | decide | omega) (by first | decide | omega) ?_
        exact x_ret (W.zret (v := 0) hx hb hr rfl (w_fin rfl hAe ⟨m_badI (i := 0) (q_n (fun z => h3 z.2)), m_bad (i := 0) (q_n (fun z => h3 z.2)) rfl ((hR0.err 0).err 1)⟩ hP hA hS) hS.2.2 d_Mo_memory_31)
