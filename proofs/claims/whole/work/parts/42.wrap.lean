/-! the law's wrappers -/
section LWr42
set_option maxHeartbeats 4000000 in
set_option maxRecDepth 100000 in
/-- the law's plain -/
theorem c_La_plain (l : Launch) (hst : l.stackTraces = false) (D : va_G) (cK cI cN cZ cL : ClassId) (g0 g : y_G) (ou : Nat) (f : Nat → Int64) (sz : Nat) (a : Ab) (cn d : Nat) (k : Int32) (w : Int32) (mk : Int32) (hw : a_W a cn) (hcn : cn < 2 ^ 30) (hR : c_R cK cI a g0 d cn) (hJ : y_J g0 (o_1 cL ou f) g) : x_M l y_La_plain [.codeWith y_La_plain b_La_plain 5 (some .int) [(0, 7, 10, 13)]] rmB (w_Pc D (x_tys cK cI cN cZ cL) [.ref d, .int k, .int w, .int mk] g sz) (w_Qc D g sz (l_W cK cI cL ou d cn (s_plain a k w mk))) 6 60 (y_A g sz) := by
  refine x_ofWH (cc := b_La_plain) (maxL := 5) (ret := (some .int)) (hs := [(0, 7, 10, 13)]) (by decide) rfl ?_
  intro p e s m args below meth c s₁ B hml htb hv
  obtain ⟨rfl, hsz, hP, hE⟩ := hv
  subst hsz
  have hts := hE.hts ([.ref d, .int k, .int w, .int mk] : List Value).toArray
  have hK := hE.1.2.1
  have hA0 : ∀ q, s.heap.size ≤ q → y_A g s.heap.size q := fun q h => Or.inr h
  have hA : ∀ q e, g q = some e → y_A g s.heap.size q := fun q e h => Or.inl (by rw [h]; exact fun z => nomatch z)
  have hS : va_S (y_A g s.heap.size) s.heap s.heap [] := va_S.rf
  generalize hAe : y_A g s.heap.size = A at hE hA0 hA hS ⊢
  have hx := B.exec
  have hb := B.bytes
  have hr := B.returns
  have hlocks := B.notSynchronized
  have hown : s.vm.findClass R_La = some m.cls := findClass_of_methodNamed B.named
  have hl := lv_entry ([.ref d, .int k, .int w, .int mk]) (n := 5) (Nat.le_of_ble_eq_true rfl)
  rw [lg_entry_eq]
  generalize (lg_sl ([.ref d, .int k, .int w, .int mk]) ++ List.replicate (5 - (lg_sl ([.ref d, .int k, .int w, .int mk])).length) Slot.unset).toArray = ls at hl ⊢
  have hl : lv_has ls 5 [(0, .ref d), (1, .int k), (2, .int w), (3, .int mk)] := hl
  obtain ⟨fs0, hd0⟩ := hR.obj
  have hd : g d = some (.inr (4, fs0)) := (hJ.1 _ _).mpr (Or.inl hd0)
  refine lv_aload_n hx hb d_La_plain_0 rfl (lv_at hl 0 rfl) ?_
  refine lv_iload_n hx hb d_La_plain_1 rfl (lv_at hl 1 rfl) ?_
  refine lv_iload_n hx hb d_La_plain_2 rfl (lv_at hl 2 rfl) ?_
  refine lv_iload_n hx hb d_La_plain_3 rfl (lv_at hl 3 rfl) ?_
  refine w_callV (As := [.int k, .int w, .int mk]) (C := R_De) ⟨hx, hb, hml, hown, hts⟩ (x_join hJ (c_De_plain l hst D cK cI cN cZ cL g0 _ a cn d k w mk hw hcn hR)) (x_cb (cwV (own := R_La) (index := 7) (C := R_De) 3 hts (x_gi (by decide +kernel)) rfl rfl rfl (by decide +kernel) ⟨by decide, by decide⟩).1) (hts (.instanceMethod y_De_plain) (by decide +kernel)) (hts (.selects R_De y_De_plain y_De_plain) (by decide +kernel)) (y_recv (ci := 4) (q := (R_De, F_De, 11)) hK hP rfl hd) hE hP hA hA0 hS rfl hl.1 rfl (lv_room (Nat.le_of_ble_eq_true rfl)) d_La_plain_4 (by first | decide | omega) (by first | decide | omega) (fun v9 g9 H locs hq9 hP hA hS => ?_) (fun E9 q9 ce9 g9 H locs hq9 hP hA hS z1 z2 z3 => ?_)
  · skip
    obtain ⟨gn, ⟨ho, hRn⟩, hJn⟩ := hq9
    obtain ⟨hs0, hv9⟩ := ho.ret
    have hn9 := l_plain (a := a) k w mk hs0
    rw [hn9] at hv9
    subst hv9
    refine W.eq (g2 := F0 m 7 ls []) rfl ?_
    refine lv_goto hx hb d_La_plain_7 rfl ?_
    refine lv_iconst (v := 0) hx hb d_La_plain_14 (by decide) ?_
    refine W.widen (k := 6) (n := 60) (by first | decide | omega) (by first | decide | omega) ?_
    exact x_ret (W.iret (v := 0) hx hb hr (w_fin rfl hAe (l_okV hs0 hn9 rfl hJn hRn) hP hA hS) hS.2.2 d_La_plain_15)
  · skip
    obtain ⟨gn, ⟨ho, hRn⟩, hJn⟩ := hq9
    obtain ⟨hs0, hE0⟩ := x_thr1 ho
    subst hE0
    refine x_catch (E := xIAE) (name := "java/lang/IllegalArgumentException") hown [] ⟨0, 7, 10, 13⟩ [] (htb.trans rfl) (fun _ h => absurd h List.not_mem_nil) (by decide) (by decide) (hts (.classLink R_La 13 "java/lang/IllegalArgumentException") (by decide +kernel)) (va_Nw.use rfl (hE.1.2.2.1 (.castable "java/lang/IllegalArgumentException" "java/lang/IllegalArgumentException") (by decide +kernel))) z1 z2 z3 ?_
    refine W.eq (g2 := F0 m 10 ls [.ref q9]) rfl ?_
    refine lv_astore hx hb d_La_plain_10 hl (by decide) rfl (fun ls hl => ?_)
    have hl : lv_has ls 5 [(4, .ref q9), (0, .ref d), (1, .int k), (2, .int w), (3, .int mk)] := hl
    refine lv_iconst (v := 1) hx hb d_La_plain_12 (by decide) ?_
    refine W.widen (k := 6) (n := 60) (by first | decide | omega) (by first | decide | omega) ?_
    exact x_ret (W.iret (v := 1) hx hb hr (w_fin rfl hAe (l_bad (i := 0) hs0 (by decide) rfl hJn hRn) hP hA hS) hS.2.2 d_La_plain_13)
set_option maxHeartbeats 4000000 in
set_option maxRecDepth 100000 in
/-- the law's row -/
theorem c_La_row (l : Launch) (hst : l.stackTraces = false) (D : va_G) (cK cI cN cZ cL : ClassId) (g0 g : y_G) (ou : Nat) (f : Nat → Int64) (sz : Nat) (a : Ab) (cn d : Nat) (k : Int32) (el : Int32) (hw : a_W a cn) (hcn : cn < 2 ^ 30) (hR : c_R cK cI a g0 d cn) (hJ : y_J g0 (o_1 cL ou f) g) : x_M l y_La_row [.codeWith y_La_row b_La_row 4 (some .int) [(0, 6, 9, 13)]] rmB (w_Pc D (x_tys cK cI cN cZ cL) [.ref d, .int k, .int el] g sz) (w_Qc D g sz (l_W cK cI cL ou d cn (s_row a k el))) 6 60 (y_A g sz) := by
  refine x_ofWH (cc := b_La_row) (maxL := 4) (ret := (some .int)) (hs := [(0, 6, 9, 13)]) (by decide) rfl ?_
  intro p e s m args below meth c s₁ B hml htb hv
  obtain ⟨rfl, hsz, hP, hE⟩ := hv
  subst hsz
  have hts := hE.hts ([.ref d, .int k, .int el] : List Value).toArray
  have hK := hE.1.2.1
  have hA0 : ∀ q, s.heap.size ≤ q → y_A g s.heap.size q := fun q h => Or.inr h
  have hA : ∀ q e, g q = some e → y_A g s.heap.size q := fun q e h => Or.inl (by rw [h]; exact fun z => nomatch z)
  have hS : va_S (y_A g s.heap.size) s.heap s.heap [] := va_S.rf
  generalize hAe : y_A g s.heap.size = A at hE hA0 hA hS ⊢
  have hx := B.exec
  have hb := B.bytes
  have hr := B.returns
  have hlocks := B.notSynchronized
  have hown : s.vm.findClass R_La = some m.cls := findClass_of_methodNamed B.named
  have hl := lv_entry ([.ref d, .int k, .int el]) (n := 4) (Nat.le_of_ble_eq_true rfl)
  rw [lg_entry_eq]
  generalize (lg_sl ([.ref d, .int k, .int el]) ++ List.replicate (4 - (lg_sl ([.ref d, .int k, .int el])).length) Slot.unset).toArray = ls at hl ⊢
  have hl : lv_has ls 4 [(0, .ref d), (1, .int k), (2, .int el)] := hl
  obtain ⟨fs0, hd0⟩ := hR.obj
  have hd : g d = some (.inr (4, fs0)) := (hJ.1 _ _).mpr (Or.inl hd0)
  refine lv_aload_n hx hb d_La_row_0 rfl (lv_at hl 0 rfl) ?_
  refine lv_iload_n hx hb d_La_row_1 rfl (lv_at hl 1 rfl) ?_
  refine lv_iload_n hx hb d_La_row_2 rfl (lv_at hl 2 rfl) ?_
  refine w_callV (As := [.int k, .int el]) (C := R_De) ⟨hx, hb, hml, hown, hts⟩ (x_join hJ (c_De_row l hst D cK cI cN cZ cL g0 _ a cn d k el hw hcn hR)) (x_cb (cwV (own := R_La) (index := 15) (C := R_De) 2 hts (x_gi (by decide +kernel)) rfl rfl rfl (by decide +kernel) ⟨by decide, by decide⟩).1) (hts (.instanceMethod y_De_row) (by decide +kernel)) (hts (.selects R_De y_De_row y_De_row) (by decide +kernel)) (y_recv (ci := 4) (q := (R_De, F_De, 11)) hK hP rfl hd) hE hP hA hA0 hS rfl hl.1 rfl (lv_room (Nat.le_of_ble_eq_true rfl)) d_La_row_3 (by first | decide | omega) (by first | decide | omega) (fun v9 g9 H locs hq9 hP hA hS => ?_) (fun E9 q9 ce9 g9 H locs hq9 hP hA hS z1 z2 z3 => ?_)
  · skip
    obtain ⟨gn, ⟨ho, hRn⟩, hJn⟩ := hq9
    obtain ⟨hs0, hv9⟩ := ho.ret
    have hn9 := l_row (a := a) k el hs0
    rw [hn9] at hv9
    subst hv9
    refine W.eq (g2 := F0 m 6 ls []) rfl ?_
    refine lv_goto hx hb d_La_row_6 rfl ?_
    refine lv_iconst (v := 0) hx hb d_La_row_12 (by decide) ?_
    refine W.widen (k := 6) (n := 60) (by first | decide | omega) (by first | decide | omega) ?_
    exact x_ret (W.iret (v := 0) hx hb hr (w_fin rfl hAe (l_okV hs0 hn9 rfl hJn hRn) hP hA hS) hS.2.2 d_La_row_13)
  · skip
    obtain ⟨gn, ⟨ho, hRn⟩, hJn⟩ := hq9
    obtain ⟨hs0, hE0⟩ := x_thr1 ho
    subst hE0
    refine x_catch (E := xIAE) (name := "java/lang/IllegalArgumentException") hown [] ⟨0, 6, 9, 13⟩ [] (htb.trans rfl) (fun _ h => absurd h List.not_mem_nil) (by decide) (by decide) (hts (.classLink R_La 13 "java/lang/IllegalArgumentException") (by decide +kernel)) (va_Nw.use rfl (hE.1.2.2.1 (.castable "java/lang/IllegalArgumentException" "java/lang/IllegalArgumentException") (by decide +kernel))) z1 z2 z3 ?_
    refine W.eq (g2 := F0 m 9 ls [.ref q9]) rfl ?_
    refine lv_astore_n hx hb d_La_row_9 rfl hl (by decide) rfl (fun ls hl => ?_)
    have hl : lv_has ls 4 [(3, .ref q9), (0, .ref d), (1, .int k), (2, .int el)] := hl
    refine lv_iconst (v := 1) hx hb d_La_row_10 (by decide) ?_
    refine W.widen (k := 6) (n := 60) (by first | decide | omega) (by first | decide | omega) ?_
    exact x_ret (W.iret (v := 1) hx hb hr (w_fin rfl hAe (l_bad (i := 0) hs0 (by decide) rfl hJn hRn) hP hA hS) hS.2.2 d_La_row_11)
set_option maxHeartbeats 4000000 in
set_option maxRecDepth 100000 in
/-- the law's make -/
theorem c_La_make (l : Launch) (hst : l.stackTraces = false) (D : va_G) (cK cI cN cZ cL : ClassId) (g0 g : y_G) (ou : Nat) (f : Nat → Int64) (sz : Nat) (a : Ab) (cn d : Nat) (sv : Int32) (k : Int32) (n : Int32) (hw : a_W a cn) (hcn : cn < 2 ^ 30) (hR : c_R cK cI a g0 d cn) (hJ : y_J g0 (o_1 cL ou f) g) : x_M l y_La_make [.codeWith y_La_make b_La_make 6 (some .int) [(0, 12, 15, 13), (0, 12, 19, 23), (0, 12, 23, 25)]] rmB (w_Pc D (x_tys cK cI cN cZ cL) [.ref d, .int sv, .int k, .int n, .ref ou] g sz) (w_Qc D g sz (l_W cK cI cL ou d cn (s_make a sv k n))) 6 60 (y_A g sz) := by
  refine x_ofWH (cc := b_La_make) (maxL := 6) (ret := (some .int)) (hs := [(0, 12, 15, 13), (0, 12, 19, 23), (0, 12, 23, 25)]) (by decide) rfl ?_
  intro p e s m args below meth c s₁ B hml htb hv
  obtain ⟨rfl, hsz, hP, hE⟩ := hv
  subst hsz
  have hts := hE.hts ([.ref d, .int sv, .int k, .int n, .ref ou] : List Value).toArray
  have hK := hE.1.2.1
  have hA0 : ∀ q, s.heap.size ≤ q → y_A g s.heap.size q := fun q h => Or.inr h
  have hA : ∀ q e, g q = some e → y_A g s.heap.size q := fun q e h => Or.inl (by rw [h]; exact fun z => nomatch z)
  have hS : va_S (y_A g s.heap.size) s.heap s.heap [] := va_S.rf
  generalize hAe : y_A g s.heap.size = A at hE hA0 hA hS ⊢
  have hx := B.exec
  have hb := B.bytes
  have hr := B.returns
  have hlocks := B.notSynchronized
  have hown : s.vm.findClass R_La = some m.cls := findClass_of_methodNamed B.named
  have hl := lv_entry ([.ref d, .int sv, .int k, .int n, .ref ou]) (n := 6) (Nat.le_of_ble_eq_true rfl)
  rw [lg_entry_eq]
  generalize (lg_sl ([.ref d, .int sv, .int k, .int n, .ref ou]) ++ List.replicate (6 - (lg_sl ([.ref d, .int sv, .int k, .int n, .ref ou])).length) Slot.unset).toArray = ls at hl ⊢
  have hl : lv_has ls 6 [(0, .ref d), (1, .int sv), (2, .int k), (3, .int n), (4, .ref ou)] := hl
  obtain ⟨fs0, hd0⟩ := hR.obj
  have hd : g d = some (.inr (4, fs0)) := (hJ.1 _ _).mpr (Or.inl hd0)
  refine lv_aload hx hb d_La_make_0 (lv_at hl 4 rfl) ?_
  refine lv_iconst (v := 0) hx hb d_La_make_2 (by decide) ?_
  refine lv_aload_n hx hb d_La_make_3 rfl (lv_at hl 0 rfl) ?_
  refine lv_iload_n hx hb d_La_make_4 rfl (lv_at hl 1 rfl) ?_
  refine lv_iload_n hx hb d_La_make_5 rfl (lv_at hl 2 rfl) ?_
  refine lv_iload_n hx hb d_La_make_6 rfl (lv_at hl 3 rfl) ?_
  refine w_callV (As := [.int sv, .int k, .int n]) (C := R_De) ⟨hx, hb, hml, hown, hts⟩ (x_join hJ (c_De_make l hst D cK cI cN cZ cL g0 _ a cn d sv k n hw hcn hR)) (x_cb (cwV (own := R_La) (index := 19) (C := R_De) 3 hts (x_gi (by decide +kernel)) rfl rfl rfl (by decide +kernel) ⟨by decide, by decide⟩).1) (hts (.instanceMethod y_De_make) (by decide +kernel)) (hts (.selects R_De y_De_make y_De_make) (by decide +kernel)) (y_recv (ci := 4) (q := (R_De, F_De, 11)) hK hP rfl hd) hE hP hA hA0 hS rfl hl.1 rfl (lv_room (Nat.le_of_ble_eq_true rfl)) d_La_make_7 (by first | decide | omega) (by first | decide | omega) (fun v9 g9 H locs hq9 hP hA hS => ?_) (fun E9 q9 ce9 g9 H locs hq9 hP hA hS z1 z2 z3 => ?_)
  · skip
    obtain ⟨gn, ⟨ho, hRn⟩, hJn⟩ := hq9
    obtain ⟨hs0, hv9⟩ := ho.ret
    obtain ⟨x9, hx9⟩ := l_make (a := a) sv k n hs0
    rw [hx9] at hv9
    subst hv9
    refine W.eq (g2 := F0 m 10 ls [.int x9, .int 0, .ref ou]) rfl ?_
    refine lv_i2l hx hb d_La_make_10 rfl ?_
    refine y_last (x := x9.toInt64) hx hb hK hP hA hS 4 hJn.out rfl l_in0 d_La_make_11 (fun H locs hP hA hS => ?_)
    refine lv_goto hx hb d_La_make_12 rfl ?_
    refine lv_iconst (v := 0) hx hb d_La_make_27 (by decide) ?_
    refine W.widen (k := 6) (n := 60) (by first | decide | omega) (by first | decide | omega) ?_
    exact x_ret (W.iret (v := 0) hx hb hr (w_fin rfl hAe (l_okI hs0 hx9 (l_upd _ _) rfl (hJn.up _) hRn) hP hA hS) hS.2.2 d_La_make_28)
  · skip
    obtain ⟨gn, ⟨ho, hRn⟩, hJn⟩ := hq9
    rcases x_thr3 ho with ⟨hs0, hE0⟩ | ⟨hs0, hE0⟩ | ⟨hs0, hE0⟩
    · skip
      subst hE0
      refine x_catch (E := xIAE) (name := "java/lang/IllegalArgumentException") hown [] ⟨0, 12, 15, 13⟩ [⟨0, 12, 19, 23⟩, ⟨0, 12, 23, 25⟩] (htb.trans rfl) (fun _ h => absurd h List.not_mem_nil) (by decide) (by decide) (hts (.classLink R_La 13 "java/lang/IllegalArgumentException") (by decide +kernel)) (va_Nw.use rfl (hE.1.2.2.1 (.castable "java/lang/IllegalArgumentException" "java/lang/IllegalArgumentException") (by decide +kernel))) z1 z2 z3 ?_
      refine W.eq (g2 := F0 m 15 ls [.ref q9]) rfl ?_
      refine lv_astore hx hb d_La_make_15 hl (by decide) rfl (fun ls hl => ?_)
      have hl : lv_has ls 6 [(5, .ref q9), (0, .ref d), (1, .int sv), (2, .int k), (3, .int n), (4, .ref ou)] := hl
      refine lv_iconst (v := 1) hx hb d_La_make_17 (by decide) ?_
      refine W.widen (k := 6) (n := 60) (by first | decide | omega) (by first | decide | omega) ?_
      exact x_ret (W.iret (v := 1) hx hb hr (w_fin rfl hAe (l_bad (i := 0) hs0 (by decide) rfl hJn hRn) hP hA hS) hS.2.2 d_La_make_18)
    · skip
      subst hE0
      refine x_catch (E := xISE) (name := "java/lang/IllegalStateException") hown [⟨0, 12, 15, 13⟩] ⟨0, 12, 19, 23⟩ [⟨0, 12, 23, 25⟩] (htb.trans rfl) (List.forall_mem_cons.mpr ⟨Or.inr ⟨by decide, _, (hts (.classLink R_La 13 "java/lang/IllegalArgumentException") (by decide +kernel)), hE.1.2.2.2.2.1 ("java/lang/IllegalStateException", "java/lang/IllegalArgumentException") (by decide)⟩, fun _ h => absurd h List.not_mem_nil⟩) (by decide) (by decide) (hts (.classLink R_La 23 "java/lang/IllegalStateException") (by decide +kernel)) (va_Nw.use rfl (hE.1.2.2.1 (.castable "java/lang/IllegalStateException" "java/lang/IllegalStateException") (by decide +kernel))) z1 z2 z3 ?_
      refine W.eq (g2 := F0 m 19 ls [.ref q9]) rfl ?_
      refine lv_astore hx hb d_La_make_19 hl (by decide) rfl (fun ls hl => ?_)
      have hl : lv_has ls 6 [(5, .ref q9), (0, .ref d), (1, .int sv), (2, .int k), (3, .int n), (4, .ref ou)] := hl
      refine lv_iconst (v := 2) hx hb d_La_make_21 (by decide) ?_
      refine W.widen (k := 6) (n := 60) (by first | decide | omega) (by first | decide | omega) ?_
      exact x_ret (W.iret (v := 2) hx hb hr (w_fin rfl hAe (l_bad (i := 1) hs0 (by decide) rfl hJn hRn) hP hA hS) hS.2.2 d_La_make_22)
    · skip
      subst hE0
      refine x_catch (E := xUOE) (name := "java/lang/UnsupportedOperationException") hown [⟨0, 12, 15, 13⟩, ⟨0, 12, 19, 23⟩] ⟨0, 12, 23, 25⟩ [] (htb.trans rfl) (List.forall_mem_cons.mpr ⟨Or.inr ⟨by decide, _, (hts (.classLink R_La 13 "java/lang/IllegalArgumentException") (by decide +kernel)), hE.1.2.2.2.2.1 ("java/lang/UnsupportedOperationException", "java/lang/IllegalArgumentException") (by decide)⟩, List.forall_mem_cons.mpr ⟨Or.inr ⟨by decide, _, (hts (.classLink R_La 23 "java/lang/IllegalStateException") (by decide +kernel)), hE.1.2.2.2.2.1 ("java/lang/UnsupportedOperationException", "java/lang/IllegalStateException") (by decide)⟩, fun _ h => absurd h List.not_mem_nil⟩⟩) (by decide) (by decide) (hts (.classLink R_La 25 "java/lang/UnsupportedOperationException") (by decide +kernel)) (va_Nw.use rfl (hE.1.2.2.1 (.castable "java/lang/UnsupportedOperationException" "java/lang/UnsupportedOperationException") (by decide +kernel))) z1 z2 z3 ?_
      refine W.eq (g2 := F0 m 23 ls [.ref q9]) rfl ?_
      refine lv_astore hx hb d_La_make_23 hl (by decide) rfl (fun ls hl => ?_)
      have hl : lv_has ls 6 [(5, .ref q9), (0, .ref d), (1, .int sv), (2, .int k), (3, .int n), (4, .ref ou)] := hl
      refine lv_iconst (v := 3) hx hb d_La_make_25 (by decide) ?_
      refine W.widen (k := 6) (n := 60) (by first | decide | omega) (by first | decide | omega) ?_
      exact x_ret (W.iret (v := 3) hx hb hr (w_fin rfl hAe (l_bad (i := 2) hs0 (by decide) rfl hJn hRn) hP hA hS) hS.2.2 d_La_make_26)
set_option maxHeartbeats 4000000 in
set_option maxRecDepth 100000 in
/-- the law's copy -/
theorem c_La_copy (l : Launch) (hst : l.stackTraces = false) (D : va_G) (cK cI cN cZ cL : ClassId) (g0 g : y_G) (ou : Nat) (f : Nat → Int64) (sz : Nat) (a : Ab) (cn d : Nat) (sv : Int32) (t : Int32) (hw : a_W a cn) (hcn : cn < 2 ^ 30) (hR : c_R cK cI a g0 d cn) (hJ : y_J g0 (o_1 cL ou f) g) : x_M l y_La_copy [.codeWith y_La_copy b_La_copy 5 (some .int) [(0, 17, 20, 13)]] rmB (w_Pc D (x_tys cK cI cN cZ cL) [.ref d, .int sv, .int t, .ref ou] g sz) (w_Qc D g sz (l_W cK cI cL ou d cn (s_copy a sv t))) 6 60 (y_A g sz) := by
  refine x_ofWH (cc := b_La_copy) (maxL := 5) (ret := (some .int)) (hs := [(0, 17, 20, 13)]) (by decide) rfl ?_
  intro p e s m args below meth c s₁ B hml htb hv
  obtain ⟨rfl, hsz, hP, hE⟩ := hv
  subst hsz
  have hts := hE.hts ([.ref d, .int sv, .int t, .ref ou] : List Value).toArray
  have hK := hE.1.2.1
  have hA0 : ∀ q, s.heap.size ≤ q → y_A g s.heap.size q := fun q h => Or.inr h
  have hA : ∀ q e, g q = some e → y_A g s.heap.size q := fun q e h => Or.inl (by rw [h]; exact fun z => nomatch z)
  have hS : va_S (y_A g s.heap.size) s.heap s.heap [] := va_S.rf
  generalize hAe : y_A g s.heap.size = A at hE hA0 hA hS ⊢
  have hx := B.exec
  have hb := B.bytes
  have hr := B.returns
  have hlocks := B.notSynchronized
  have hown : s.vm.findClass R_La = some m.cls := findClass_of_methodNamed B.named
  have hl := lv_entry ([.ref d, .int sv, .int t, .ref ou]) (n := 5) (Nat.le_of_ble_eq_true rfl)
  rw [lg_entry_eq]
  generalize (lg_sl ([.ref d, .int sv, .int t, .ref ou]) ++ List.replicate (5 - (lg_sl ([.ref d, .int sv, .int t, .ref ou])).length) Slot.unset).toArray = ls at hl ⊢
  have hl : lv_has ls 5 [(0, .ref d), (1, .int sv), (2, .int t), (3, .ref ou)] := hl
  obtain ⟨fs0, hd0⟩ := hR.obj
  have hd : g d = some (.inr (4, fs0)) := (hJ.1 _ _).mpr (Or.inl hd0)
  refine lv_aload_n hx hb d_La_copy_0 rfl (lv_at hl 3 rfl) ?_
  refine lv_iconst (v := 0) hx hb d_La_copy_1 (by decide) ?_
  refine lv_aload_n hx hb d_La_copy_2 rfl (lv_at hl 0 rfl) ?_
  refine lv_iload_n hx hb d_La_copy_3 rfl (lv_at hl 1 rfl) ?_
  refine lv_iload_n hx hb d_La_copy_4 rfl (lv_at hl 2 rfl) ?_
  refine w_callV (As := [.int sv, .int t]) (C := R_De) ⟨hx, hb, hml, hown, hts⟩ (x_join hJ (c_De_copy l hst D cK cI cN cZ cL g0 _ a cn d sv t hw hcn hR)) (x_cb (cwV (own := R_La) (index := 27) (C := R_De) 2 hts (x_gi (by decide +kernel)) rfl rfl rfl (by decide +kernel) ⟨by decide, by decide⟩).1) (hts (.instanceMethod y_De_copy) (by decide +kernel)) (hts (.selects R_De y_De_copy y_De_copy) (by decide +kernel)) (y_recv (ci := 4) (q := (R_De, F_De, 11)) hK hP rfl hd) hE hP hA hA0 hS rfl hl.1 rfl (lv_room (Nat.le_of_ble_eq_true rfl)) d_La_copy_5 (by first | decide | omega) (by first | decide | omega) (fun v9 g9 H locs hq9 hP hA hS => ?_) (fun E9 q9 ce9 g9 H locs hq9 hP hA hS z1 z2 z3 => ?_)
  · skip
    obtain ⟨gn, ⟨ho, hRn⟩, hJn⟩ := hq9
    obtain ⟨hs0, hv9⟩ := ho.ret
    obtain ⟨X9, hx9⟩ := l_copy (a := a) sv t hs0
    rw [hx9] at hv9
    subst hv9
    refine W.eq (g2 := F0 m 8 ls [.int (c_bit X9), .int 0, .ref ou]) rfl ?_
    refine lv_if_eq hx hb d_La_copy_8 rfl (fun h1 => ?_) (fun h1 => ?_)
    · -- ifeq at 8: to 15
      refine lv_lconst (v := 0) hx hb d_La_copy_15 (by decide) ?_
      refine y_last (x := 0) hx hb hK hP hA hS 4 hJn.out rfl l_in0 d_La_copy_16 (fun H locs hP hA hS => ?_)
      refine lv_goto hx hb d_La_copy_17 rfl ?_
      refine lv_iconst (v := 0) hx hb d_La_copy_24 (by decide) ?_
      refine W.widen (k := 6) (n := 60) (by first | decide | omega) (by first | decide | omega) ?_
      exact x_ret (W.iret (v := 0) hx hb hr (w_fin rfl hAe (l_okI hs0 hx9 ((l_upd _ _).trans (l_b0 h1)) rfl (hJn.up _) hRn) hP hA hS) hS.2.2 d_La_copy_25)
    · -- ifeq at 8: to 11
      refine lv_lconst (v := 1) hx hb d_La_copy_11 (by decide) ?_
      refine lv_goto hx hb d_La_copy_12 rfl ?_
      refine y_last (x := 1) hx hb hK hP hA hS 4 hJn.out rfl l_in0 d_La_copy_16 (fun H locs hP hA hS => ?_)
      refine lv_goto hx hb d_La_copy_17 rfl ?_
      refine lv_iconst (v := 0) hx hb d_La_copy_24 (by decide) ?_
      refine W.widen (k := 6) (n := 60) (by first | decide | omega) (by first | decide | omega) ?_
      exact x_ret (W.iret (v := 0) hx hb hr (w_fin rfl hAe (l_okI hs0 hx9 ((l_upd _ _).trans (l_b1 h1)) rfl (hJn.up _) hRn) hP hA hS) hS.2.2 d_La_copy_25)
  · skip
    obtain ⟨gn, ⟨ho, hRn⟩, hJn⟩ := hq9
    obtain ⟨hs0, hE0⟩ := x_thr1 ho
    subst hE0
    refine x_catch (E := xIAE) (name := "java/lang/IllegalArgumentException") hown [] ⟨0, 17, 20, 13⟩ [] (htb.trans rfl) (fun _ h => absurd h List.not_mem_nil) (by decide) (by decide) (hts (.classLink R_La 13 "java/lang/IllegalArgumentException") (by decide +kernel)) (va_Nw.use rfl (hE.1.2.2.1 (.castable "java/lang/IllegalArgumentException" "java/lang/IllegalArgumentException") (by decide +kernel))) z1 z2 z3 ?_
    refine W.eq (g2 := F0 m 20 ls [.ref q9]) rfl ?_
    refine lv_astore hx hb d_La_copy_20 hl (by decide) rfl (fun ls hl => ?_)
    have hl : lv_has ls 5 [(4, .ref q9), (0, .ref d), (1, .int sv), (2, .int t), (3, .ref ou)] := hl
    refine lv_iconst (v := 1) hx hb d_La_copy_22 (by decide) ?_
    refine W.widen (k := 6) (n := 60) (by first | decide | omega) (by first | decide | omega) ?_
    exact x_ret (W.iret (v := 1) hx hb hr (w_fin rfl hAe (l_bad (i := 0) hs0 (by decide) rfl hJn hRn) hP hA hS) hS.2.2 d_La_copy_23)
set_option maxHeartbeats 4000000 in
set_option maxRecDepth 100000 in
/-- the law's drop -/
theorem c_La_drop (l : Launch) (hst : l.stackTraces = false) (D : va_G) (cK cI cN cZ cL : ClassId) (g0 g : y_G) (ou : Nat) (f : Nat → Int64) (sz : Nat) (a : Ab) (cn d : Nat) (sv : Int32) (hw : a_W a cn) (hcn : cn < 2 ^ 30) (hR : c_R cK cI a g0 d cn) (hJ : y_J g0 (o_1 cL ou f) g) : x_M l y_La_drop [.codeWith y_La_drop b_La_drop 4 (some .int) [(0, 16, 19, 13)]] rmB (w_Pc D (x_tys cK cI cN cZ cL) [.ref d, .int sv, .ref ou] g sz) (w_Qc D g sz (l_W cK cI cL ou d cn (s_drop a sv))) 6 60 (y_A g sz) := by
  refine x_ofWH (cc := b_La_drop) (maxL := 4) (ret := (some .int)) (hs := [(0, 16, 19, 13)]) (by decide) rfl ?_
  intro p e s m args below meth c s₁ B hml htb hv
  obtain ⟨rfl, hsz, hP, hE⟩ := hv
  subst hsz
  have hts := hE.hts ([.ref d, .int sv, .ref ou] : List Value).toArray
  have hK := hE.1.2.1
  have hA0 : ∀ q, s.heap.size ≤ q → y_A g s.heap.size q := fun q h => Or.inr h
  have hA : ∀ q e, g q = some e → y_A g s.heap.size q := fun q e h => Or.inl (by rw [h]; exact fun z => nomatch z)
  have hS : va_S (y_A g s.heap.size) s.heap s.heap [] := va_S.rf
  generalize hAe : y_A g s.heap.size = A at hE hA0 hA hS ⊢
  have hx := B.exec
  have hb := B.bytes
  have hr := B.returns
  have hlocks := B.notSynchronized
  have hown : s.vm.findClass R_La = some m.cls := findClass_of_methodNamed B.named
  have hl := lv_entry ([.ref d, .int sv, .ref ou]) (n := 4) (Nat.le_of_ble_eq_true rfl)
  rw [lg_entry_eq]
  generalize (lg_sl ([.ref d, .int sv, .ref ou]) ++ List.replicate (4 - (lg_sl ([.ref d, .int sv, .ref ou])).length) Slot.unset).toArray = ls at hl ⊢
  have hl : lv_has ls 4 [(0, .ref d), (1, .int sv), (2, .ref ou)] := hl
  obtain ⟨fs0, hd0⟩ := hR.obj
  have hd : g d = some (.inr (4, fs0)) := (hJ.1 _ _).mpr (Or.inl hd0)
  refine lv_aload_n hx hb d_La_drop_0 rfl (lv_at hl 2 rfl) ?_
  refine lv_iconst (v := 0) hx hb d_La_drop_1 (by decide) ?_
  refine lv_aload_n hx hb d_La_drop_2 rfl (lv_at hl 0 rfl) ?_
  refine lv_iload_n hx hb d_La_drop_3 rfl (lv_at hl 1 rfl) ?_
  refine w_callV (As := [.int sv]) (C := R_De) ⟨hx, hb, hml, hown, hts⟩ (x_join hJ (c_De_drop l hst D cK cI cN cZ cL g0 _ a cn d sv hw hcn hR)) (x_cb (cwV (own := R_La) (index := 31) (C := R_De) 1 hts (x_gi (by decide +kernel)) rfl rfl rfl (by decide +kernel) ⟨by decide, by decide⟩).1) (hts (.instanceMethod y_De_drop) (by decide +kernel)) (hts (.selects R_De y_De_drop y_De_drop) (by decide +kernel)) (y_recv (ci := 4) (q := (R_De, F_De, 11)) hK hP rfl hd) hE hP hA hA0 hS rfl hl.1 rfl (lv_room (Nat.le_of_ble_eq_true rfl)) d_La_drop_4 (by first | decide | omega) (by first | decide | omega) (fun v9 g9 H locs hq9 hP hA hS => ?_) (fun E9 q9 ce9 g9 H locs hq9 hP hA hS z1 z2 z3 => ?_)
  · skip
    obtain ⟨gn, ⟨ho, hRn⟩, hJn⟩ := hq9
    obtain ⟨hs0, hv9⟩ := ho.ret
    obtain ⟨X9, hx9⟩ := l_drop (a := a) sv hs0
    rw [hx9] at hv9
    subst hv9
    refine W.eq (g2 := F0 m 7 ls [.int (c_bit X9), .int 0, .ref ou]) rfl ?_
    refine lv_if_eq hx hb d_La_drop_7 rfl (fun h1 => ?_) (fun h1 => ?_)
    · -- ifeq at 7: to 14
      refine lv_lconst (v := 0) hx hb d_La_drop_14 (by decide) ?_
      refine y_last (x := 0) hx hb hK hP hA hS 4 hJn.out rfl l_in0 d_La_drop_15 (fun H locs hP hA hS => ?_)
      refine lv_goto hx hb d_La_drop_16 rfl ?_
      refine lv_iconst (v := 0) hx hb d_La_drop_22 (by decide) ?_
      refine W.widen (k := 6) (n := 60) (by first | decide | omega) (by first | decide | omega) ?_
      exact x_ret (W.iret (v := 0) hx hb hr (w_fin rfl hAe (l_okI hs0 hx9 ((l_upd _ _).trans (l_b0 h1)) rfl (hJn.up _) hRn) hP hA hS) hS.2.2 d_La_drop_23)
    · -- ifeq at 7: to 10
      refine lv_lconst (v := 1) hx hb d_La_drop_10 (by decide) ?_
      refine lv_goto hx hb d_La_drop_11 rfl ?_
      refine y_last (x := 1) hx hb hK hP hA hS 4 hJn.out rfl l_in0 d_La_drop_15 (fun H locs hP hA hS => ?_)
      refine lv_goto hx hb d_La_drop_16 rfl ?_
      refine lv_iconst (v := 0) hx hb d_La_drop_22 (by decide) ?_
      refine W.widen (k := 6) (n := 60) (by first | decide | omega) (by first | decide | omega) ?_
      exact x_ret (W.iret (v := 0) hx hb hr (w_fin rfl hAe (l_okI hs0 hx9 ((l_upd _ _).trans (l_b1 h1)) rfl (hJn.up _) hRn) hP hA hS) hS.2.2 d_La_drop_23)
  · skip
    obtain ⟨gn, ⟨ho, hRn⟩, hJn⟩ := hq9
    obtain ⟨hs0, hE0⟩ := x_thr1 ho
    subst hE0
    refine x_catch (E := xIAE) (name := "java/lang/IllegalArgumentException") hown [] ⟨0, 16, 19, 13⟩ [] (htb.trans rfl) (fun _ h => absurd h List.not_mem_nil) (by decide) (by decide) (hts (.classLink R_La 13 "java/lang/IllegalArgumentException") (by decide +kernel)) (va_Nw.use rfl (hE.1.2.2.1 (.castable "java/lang/IllegalArgumentException" "java/lang/IllegalArgumentException") (by decide +kernel))) z1 z2 z3 ?_
    refine W.eq (g2 := F0 m 19 ls [.ref q9]) rfl ?_
    refine lv_astore_n hx hb d_La_drop_19 rfl hl (by decide) rfl (fun ls hl => ?_)
    have hl : lv_has ls 4 [(3, .ref q9), (0, .ref d), (1, .int sv), (2, .ref ou)] := hl
    refine lv_iconst (v := 1) hx hb d_La_drop_20 (by decide) ?_
    refine W.widen (k := 6) (n := 60) (by first | decide | omega) (by first | decide | omega) ?_
    exact x_ret (W.iret (v := 1) hx hb hr (w_fin rfl hAe (l_bad (i := 0) hs0 (by decide) rfl hJn hRn) hP hA hS) hS.2.2 d_La_drop_21)
set_option maxHeartbeats 4000000 in
set_option maxRecDepth 100000 in
/-- the law's same -/
theorem c_La_same (l : Launch) (hst : l.stackTraces = false) (D : va_G) (cK cI cN cZ cL : ClassId) (g0 g : y_G) (ou : Nat) (f : Nat → Int64) (sz : Nat) (a : Ab) (cn d : Nat) (sv : Int32) (t : Int32) (hw : a_W a cn) (hcn : cn < 2 ^ 30) (hR : c_R cK cI a g0 d cn) (hJ : y_J g0 (o_1 cL ou f) g) : x_M l y_La_same [.codeWith y_La_same b_La_same 5 (some .int) [(0, 17, 20, 13)]] rmB (w_Pc D (x_tys cK cI cN cZ cL) [.ref d, .int sv, .int t, .ref ou] g sz) (w_Qc D g sz (l_W cK cI cL ou d cn (s_same a sv t))) 6 60 (y_A g sz) := by
  refine x_ofWH (cc := b_La_same) (maxL := 5) (ret := (some .int)) (hs := [(0, 17, 20, 13)]) (by decide) rfl ?_
  intro p e s m args below meth c s₁ B hml htb hv
  obtain ⟨rfl, hsz, hP, hE⟩ := hv
  subst hsz
  have hts := hE.hts ([.ref d, .int sv, .int t, .ref ou] : List Value).toArray
  have hK := hE.1.2.1
  have hA0 : ∀ q, s.heap.size ≤ q → y_A g s.heap.size q := fun q h => Or.inr h
  have hA : ∀ q e, g q = some e → y_A g s.heap.size q := fun q e h => Or.inl (by rw [h]; exact fun z => nomatch z)
  have hS : va_S (y_A g s.heap.size) s.heap s.heap [] := va_S.rf
  generalize hAe : y_A g s.heap.size = A at hE hA0 hA hS ⊢
  have hx := B.exec
  have hb := B.bytes
  have hr := B.returns
  have hlocks := B.notSynchronized
  have hown : s.vm.findClass R_La = some m.cls := findClass_of_methodNamed B.named
  have hl := lv_entry ([.ref d, .int sv, .int t, .ref ou]) (n := 5) (Nat.le_of_ble_eq_true rfl)
  rw [lg_entry_eq]
  generalize (lg_sl ([.ref d, .int sv, .int t, .ref ou]) ++ List.replicate (5 - (lg_sl ([.ref d, .int sv, .int t, .ref ou])).length) Slot.unset).toArray = ls at hl ⊢
  have hl : lv_has ls 5 [(0, .ref d), (1, .int sv), (2, .int t), (3, .ref ou)] := hl
  obtain ⟨fs0, hd0⟩ := hR.obj
  have hd : g d = some (.inr (4, fs0)) := (hJ.1 _ _).mpr (Or.inl hd0)
  refine lv_aload_n hx hb d_La_same_0 rfl (lv_at hl 3 rfl) ?_
  refine lv_iconst (v := 0) hx hb d_La_same_1 (by decide) ?_
  refine lv_aload_n hx hb d_La_same_2 rfl (lv_at hl 0 rfl) ?_
  refine lv_iload_n hx hb d_La_same_3 rfl (lv_at hl 1 rfl) ?_
  refine lv_iload_n hx hb d_La_same_4 rfl (lv_at hl 2 rfl) ?_
  refine w_callV (As := [.int sv, .int t]) (C := R_De) ⟨hx, hb, hml, hown, hts⟩ (x_join hJ (c_De_same l hst D cK cI cN cZ cL g0 _ a cn d sv t hw hcn hR)) (x_cb (cwV (own := R_La) (index := 35) (C := R_De) 2 hts (x_gi (by decide +kernel)) rfl rfl rfl (by decide +kernel) ⟨by decide, by decide⟩).1) (hts (.instanceMethod y_De_same) (by decide +kernel)) (hts (.selects R_De y_De_same y_De_same) (by decide +kernel)) (y_recv (ci := 4) (q := (R_De, F_De, 11)) hK hP rfl hd) hE hP hA hA0 hS rfl hl.1 rfl (lv_room (Nat.le_of_ble_eq_true rfl)) d_La_same_5 (by first | decide | omega) (by first | decide | omega) (fun v9 g9 H locs hq9 hP hA hS => ?_) (fun E9 q9 ce9 g9 H locs hq9 hP hA hS z1 z2 z3 => ?_)
  · skip
    obtain ⟨gn, ⟨ho, hRn⟩, hJn⟩ := hq9
    obtain ⟨hs0, hv9⟩ := ho.ret
    obtain ⟨X9, hx9⟩ := l_same (a := a) sv t hs0
    rw [hx9] at hv9
    subst hv9
    refine W.eq (g2 := F0 m 8 ls [.int (c_bit X9), .int 0, .ref ou]) rfl ?_
    refine lv_if_eq hx hb d_La_same_8 rfl (fun h1 => ?_) (fun h1 => ?_)
    · -- ifeq at 8: to 15
      refine lv_lconst (v := 0) hx hb d_La_same_15 (by decide) ?_
      refine y_last (x := 0) hx hb hK hP hA hS 4 hJn.out rfl l_in0 d_La_same_16 (fun H locs hP hA hS => ?_)
      refine lv_goto hx hb d_La_same_17 rfl ?_
      refine lv_iconst (v := 0) hx hb d_La_same_24 (by decide) ?_
      refine W.widen (k := 6) (n := 60) (by first | decide | omega) (by first | decide | omega) ?_
      exact x_ret (W.iret (v := 0) hx hb hr (w_fin rfl hAe (l_okI hs0 hx9 ((l_upd _ _).trans (l_b0 h1)) rfl (hJn.up _) hRn) hP hA hS) hS.2.2 d_La_same_25)
    · -- ifeq at 8: to 11
      refine lv_lconst (v := 1) hx hb d_La_same_11 (by decide) ?_
      refine lv_goto hx hb d_La_same_12 rfl ?_
      refine y_last (x := 1) hx hb hK hP hA hS 4 hJn.out rfl l_in0 d_La_same_16 (fun H locs hP hA hS => ?_)
      refine lv_goto hx hb d_La_same_17 rfl ?_
      refine lv_iconst (v := 0) hx hb d_La_same_24 (by decide) ?_
      refine W.widen (k := 6) (n := 60) (by first | decide | omega) (by first | decide | omega) ?_
      exact x_ret (W.iret (v := 0) hx hb hr (w_fin rfl hAe (l_okI hs0 hx9 ((l_upd _ _).trans (l_b1 h1)) rfl (hJn.up _) hRn) hP hA hS) hS.2.2 d_La_same_25)
  · skip
    obtain ⟨gn, ⟨ho, hRn⟩, hJn⟩ := hq9
    obtain ⟨hs0, hE0⟩ := x_thr1 ho
    subst hE0
    refine x_catch (E := xIAE) (name := "java/lang/IllegalArgumentException") hown [] ⟨0, 17, 20, 13⟩ [] (htb.trans rfl) (fun _ h => absurd h List.not_mem_nil) (by decide) (by decide) (hts (.classLink R_La 13 "java/lang/IllegalArgumentException") (by decide +kernel)) (va_Nw.use rfl (hE.1.2.2.1 (.castable "java/lang/IllegalArgumentException" "java/lang/IllegalArgumentException") (by decide +kernel))) z1 z2 z3 ?_
    refine W.eq (g2 := F0 m 20 ls [.ref q9]) rfl ?_
    refine lv_astore hx hb d_La_same_20 hl (by decide) rfl (fun ls hl => ?_)
    have hl : lv_has ls 5 [(4, .ref q9), (0, .ref d), (1, .int sv), (2, .int t), (3, .ref ou)] := hl
    refine lv_iconst (v := 1) hx hb d_La_same_22 (by decide) ?_
    refine W.widen (k := 6) (n := 60) (by first | decide | omega) (by first | decide | omega) ?_
    exact x_ret (W.iret (v := 1) hx hb hr (w_fin rfl hAe (l_bad (i := 0) hs0 (by decide) rfl hJn hRn) hP hA hS) hS.2.2 d_La_same_23)
set_option maxHeartbeats 4000000 in
set_option maxRecDepth 100000 in
/-- the law's memory -/
theorem c_La_memory (l : Launch) (hst : l.stackTraces = false) (D : va_G) (cK cI cN cZ cL : ClassId) (g0 g : y_G) (ou : Nat) (f : Nat → Int64) (sz : Nat) (a : Ab) (cn d : Nat) (w : Int32) (hw : a_W a cn) (hcn : cn < 2 ^ 30) (hR : c_R cK cI a g0 d cn) (hJ : y_J g0 (o_1 cL ou f) g) : x_M l y_La_memory [.codeWith y_La_memory b_La_memory 4 (some .int) [(0, 16, 19, 13)]] rmB (w_Pc D (x_tys cK cI cN cZ cL) [.ref d, .int w, .ref ou] g sz) (w_Qc D g sz (l_W cK cI cL ou d cn (s_memory a w))) 6 60 (y_A g sz) := by
  refine x_ofWH (cc := b_La_memory) (maxL := 4) (ret := (some .int)) (hs := [(0, 16, 19, 13)]) (by decide) rfl ?_
  intro p e s m args below meth c s₁ B hml htb hv
  obtain ⟨rfl, hsz, hP, hE⟩ := hv
  subst hsz
  have hts := hE.hts ([.ref d, .int w, .ref ou] : List Value).toArray
  have hK := hE.1.2.1
  have hA0 : ∀ q, s.heap.size ≤ q → y_A g s.heap.size q := fun q h => Or.inr h
  have hA : ∀ q e, g q = some e → y_A g s.heap.size q := fun q e h => Or.inl (by rw [h]; exact fun z => nomatch z)
  have hS : va_S (y_A g s.heap.size) s.heap s.heap [] := va_S.rf
  generalize hAe : y_A g s.heap.size = A at hE hA0 hA hS ⊢
  have hx := B.exec
  have hb := B.bytes
  have hr := B.returns
  have hlocks := B.notSynchronized
  have hown : s.vm.findClass R_La = some m.cls := findClass_of_methodNamed B.named
  have hl := lv_entry ([.ref d, .int w, .ref ou]) (n := 4) (Nat.le_of_ble_eq_true rfl)
  rw [lg_entry_eq]
  generalize (lg_sl ([.ref d, .int w, .ref ou]) ++ List.replicate (4 - (lg_sl ([.ref d, .int w, .ref ou])).length) Slot.unset).toArray = ls at hl ⊢
  have hl : lv_has ls 4 [(0, .ref d), (1, .int w), (2, .ref ou)] := hl
  obtain ⟨fs0, hd0⟩ := hR.obj
  have hd : g d = some (.inr (4, fs0)) := (hJ.1 _ _).mpr (Or.inl hd0)
  refine lv_aload_n hx hb d_La_memory_0 rfl (lv_at hl 2 rfl) ?_
  refine lv_iconst (v := 0) hx hb d_La_memory_1 (by decide) ?_
  refine lv_aload_n hx hb d_La_memory_2 rfl (lv_at hl 0 rfl) ?_
  refine lv_iload_n hx hb d_La_memory_3 rfl (lv_at hl 1 rfl) ?_
  refine w_callV (As := [.int w]) (C := R_De) ⟨hx, hb, hml, hown, hts⟩ (x_join hJ (c_De_memory l hst D cK cI cN cZ cL g0 _ a cn d w hw hcn hR)) (x_cb (cwV (own := R_La) (index := 65) (C := R_De) 1 hts (x_gi (by decide +kernel)) rfl rfl rfl (by decide +kernel) ⟨by decide, by decide⟩).1) (hts (.instanceMethod y_De_memory) (by decide +kernel)) (hts (.selects R_De y_De_memory y_De_memory) (by decide +kernel)) (y_recv (ci := 4) (q := (R_De, F_De, 11)) hK hP rfl hd) hE hP hA hA0 hS rfl hl.1 rfl (lv_room (Nat.le_of_ble_eq_true rfl)) d_La_memory_4 (by first | decide | omega) (by first | decide | omega) (fun v9 g9 H locs hq9 hP hA hS => ?_) (fun E9 q9 ce9 g9 H locs hq9 hP hA hS z1 z2 z3 => ?_)
  · skip
    obtain ⟨gn, ⟨ho, hRn⟩, hJn⟩ := hq9
    obtain ⟨hs0, hv9⟩ := ho.ret
    obtain ⟨X9, hx9⟩ := l_memory (a := a) w hs0
    rw [hx9] at hv9
    subst hv9
    refine W.eq (g2 := F0 m 7 ls [.int (c_bit X9), .int 0, .ref ou]) rfl ?_
    refine lv_if_eq hx hb d_La_memory_7 rfl (fun h1 => ?_) (fun h1 => ?_)
    · -- ifeq at 7: to 14
      refine lv_lconst (v := 0) hx hb d_La_memory_14 (by decide) ?_
      refine y_last (x := 0) hx hb hK hP hA hS 4 hJn.out rfl l_in0 d_La_memory_15 (fun H locs hP hA hS => ?_)
      refine lv_goto hx hb d_La_memory_16 rfl ?_
      refine lv_iconst (v := 0) hx hb d_La_memory_22 (by decide) ?_
      refine W.widen (k := 6) (n := 60) (by first | decide | omega) (by first | decide | omega) ?_
      exact x_ret (W.iret (v := 0) hx hb hr (w_fin rfl hAe (l_okI hs0 hx9 ((l_upd _ _).trans (l_b0 h1)) rfl (hJn.up _) hRn) hP hA hS) hS.2.2 d_La_memory_23)
    · -- ifeq at 7: to 10
      refine lv_lconst (v := 1) hx hb d_La_memory_10 (by decide) ?_
      refine lv_goto hx hb d_La_memory_11 rfl ?_
      refine y_last (x := 1) hx hb hK hP hA hS 4 hJn.out rfl l_in0 d_La_memory_15 (fun H locs hP hA hS => ?_)
      refine lv_goto hx hb d_La_memory_16 rfl ?_
      refine lv_iconst (v := 0) hx hb d_La_memory_22 (by decide) ?_
      refine W.widen (k := 6) (n := 60) (by first | decide | omega) (by first | decide | omega) ?_
      exact x_ret (W.iret (v := 0) hx hb hr (w_fin rfl hAe (l_okI hs0 hx9 ((l_upd _ _).trans (l_b1 h1)) rfl (hJn.up _) hRn) hP hA hS) hS.2.2 d_La_memory_23)
  · skip
    obtain ⟨gn, ⟨ho, hRn⟩, hJn⟩ := hq9
    obtain ⟨hs0, hE0⟩ := x_thr1 ho
    subst hE0
    refine x_catch (E := xIAE) (name := "java/lang/IllegalArgumentException") hown [] ⟨0, 16, 19, 13⟩ [] (htb.trans rfl) (fun _ h => absurd h List.not_mem_nil) (by decide) (by decide) (hts (.classLink R_La 13 "java/lang/IllegalArgumentException") (by decide +kernel)) (va_Nw.use rfl (hE.1.2.2.1 (.castable "java/lang/IllegalArgumentException" "java/lang/IllegalArgumentException") (by decide +kernel))) z1 z2 z3 ?_
    refine W.eq (g2 := F0 m 19 ls [.ref q9]) rfl ?_
    refine lv_astore_n hx hb d_La_memory_19 rfl hl (by decide) rfl (fun ls hl => ?_)
    have hl : lv_has ls 4 [(3, .ref q9), (0, .ref d), (1, .int w), (2, .ref ou)] := hl
    refine lv_iconst (v := 1) hx hb d_La_memory_20 (by decide) ?_
    refine W.widen (k := 6) (n := 60) (by first | decide | omega) (by first | decide | omega) ?_
    exact x_ret (W.iret (v := 1) hx hb hr (w_fin rfl hAe (l_bad (i := 0) hs0 (by decide) rfl hJn hRn) hP hA hS) hS.2.2 d_La_memory_21)
set_option maxHeartbeats 4000000 in
set_option maxRecDepth 100000 in
/-- the law's every -/
theorem c_La_every (l : Launch) (hst : l.stackTraces = false) (D : va_G) (cK cI cN cZ cL : ClassId) (g0 g : y_G) (ou : Nat) (f : Nat → Int64) (sz : Nat) (a : Ab) (cn d : Nat) (n : Int32) (hw : a_W a cn) (hcn : cn < 2 ^ 30) (hR : c_R cK cI a g0 d cn) (hJ : y_J g0 (o_1 cL ou f) g) : x_M l y_La_every [.codeWith y_La_every b_La_every 3 (some .int) [(0, 5, 8, 13)]] rmB (w_Pc D (x_tys cK cI cN cZ cL) [.ref d, .int n] g sz) (w_Qc D g sz (l_W cK cI cL ou d cn (s_every a n))) 6 60 (y_A g sz) := by
  refine x_ofWH (cc := b_La_every) (maxL := 3) (ret := (some .int)) (hs := [(0, 5, 8, 13)]) (by decide) rfl ?_
  intro p e s m args below meth c s₁ B hml htb hv
  obtain ⟨rfl, hsz, hP, hE⟩ := hv
  subst hsz
  have hts := hE.hts ([.ref d, .int n] : List Value).toArray
  have hK := hE.1.2.1
  have hA0 : ∀ q, s.heap.size ≤ q → y_A g s.heap.size q := fun q h => Or.inr h
  have hA : ∀ q e, g q = some e → y_A g s.heap.size q := fun q e h => Or.inl (by rw [h]; exact fun z => nomatch z)
  have hS : va_S (y_A g s.heap.size) s.heap s.heap [] := va_S.rf
  generalize hAe : y_A g s.heap.size = A at hE hA0 hA hS ⊢
  have hx := B.exec
  have hb := B.bytes
  have hr := B.returns
  have hlocks := B.notSynchronized
  have hown : s.vm.findClass R_La = some m.cls := findClass_of_methodNamed B.named
  have hl := lv_entry ([.ref d, .int n]) (n := 3) (Nat.le_of_ble_eq_true rfl)
  rw [lg_entry_eq]
  generalize (lg_sl ([.ref d, .int n]) ++ List.replicate (3 - (lg_sl ([.ref d, .int n])).length) Slot.unset).toArray = ls at hl ⊢
  have hl : lv_has ls 3 [(0, .ref d), (1, .int n)] := hl
  obtain ⟨fs0, hd0⟩ := hR.obj
  have hd : g d = some (.inr (4, fs0)) := (hJ.1 _ _).mpr (Or.inl hd0)
  refine lv_aload_n hx hb d_La_every_0 rfl (lv_at hl 0 rfl) ?_
  refine lv_iload_n hx hb d_La_every_1 rfl (lv_at hl 1 rfl) ?_
  refine w_callV (As := [.int n]) (C := R_De) ⟨hx, hb, hml, hown, hts⟩ (x_join hJ (c_De_every l hst D cK cI cN cZ cL g0 _ a cn d n hw hcn hR)) (x_cb (cwV (own := R_La) (index := 68) (C := R_De) 1 hts (x_gi (by decide +kernel)) rfl rfl rfl (by decide +kernel) ⟨by decide, by decide⟩).1) (hts (.instanceMethod y_De_every) (by decide +kernel)) (hts (.selects R_De y_De_every y_De_every) (by decide +kernel)) (y_recv (ci := 4) (q := (R_De, F_De, 11)) hK hP rfl hd) hE hP hA hA0 hS rfl hl.1 rfl (lv_room (Nat.le_of_ble_eq_true rfl)) d_La_every_2 (by first | decide | omega) (by first | decide | omega) (fun v9 g9 H locs hq9 hP hA hS => ?_) (fun E9 q9 ce9 g9 H locs hq9 hP hA hS z1 z2 z3 => ?_)
  · skip
    obtain ⟨gn, ⟨ho, hRn⟩, hJn⟩ := hq9
    obtain ⟨hs0, hv9⟩ := ho.ret
    have hn9 := l_every (a := a) n hs0
    rw [hn9] at hv9
    subst hv9
    refine W.eq (g2 := F0 m 5 ls []) rfl ?_
    refine lv_goto hx hb d_La_every_5 rfl ?_
    refine lv_iconst (v := 0) hx hb d_La_every_11 (by decide) ?_
    refine W.widen (k := 6) (n := 60) (by first | decide | omega) (by first | decide | omega) ?_
    exact x_ret (W.iret (v := 0) hx hb hr (w_fin rfl hAe (l_okV hs0 hn9 rfl hJn hRn) hP hA hS) hS.2.2 d_La_every_12)
  · skip
    obtain ⟨gn, ⟨ho, hRn⟩, hJn⟩ := hq9
    obtain ⟨hs0, hE0⟩ := x_thr1 ho
    subst hE0
    refine x_catch (E := xIAE) (name := "java/lang/IllegalArgumentException") hown [] ⟨0, 5, 8, 13⟩ [] (htb.trans rfl) (fun _ h => absurd h List.not_mem_nil) (by decide) (by decide) (hts (.classLink R_La 13 "java/lang/IllegalArgumentException") (by decide +kernel)) (va_Nw.use rfl (hE.1.2.2.1 (.castable "java/lang/IllegalArgumentException" "java/lang/IllegalArgumentException") (by decide +kernel))) z1 z2 z3 ?_
    refine W.eq (g2 := F0 m 8 ls [.ref q9]) rfl ?_
    refine lv_astore_n hx hb d_La_every_8 rfl hl (by decide) rfl (fun ls hl => ?_)
    have hl : lv_has ls 3 [(2, .ref q9), (0, .ref d), (1, .int n)] := hl
    refine lv_iconst (v := 1) hx hb d_La_every_9 (by decide) ?_
    refine W.widen (k := 6) (n := 60) (by first | decide | omega) (by first | decide | omega) ?_
    exact x_ret (W.iret (v := 1) hx hb hr (w_fin rfl hAe (l_bad (i := 0) hs0 (by decide) rfl hJn hRn) hP hA hS) hS.2.2 d_La_every_10)
end LWr42
