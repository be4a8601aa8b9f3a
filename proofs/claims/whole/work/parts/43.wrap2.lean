/-! the law's wrappers -/
section LWr43
set_option maxHeartbeats 4000000 in
set_option maxRecDepth 100000 in
/-- the law's get -/
theorem c_La_get (l : Launch) (hst : l.stackTraces = false) (D : va_G) (cK cI cN cZ cL : ClassId) (g0 g : y_G) (ou : Nat) (f : Nat → Int64) (sz : Nat) (a : Ab) (cn d : Nat) (sv : Int32) (k : Int32) (hw : a_W a cn) (hcn : cn < 2 ^ 30) (hR : c_R cK cI a g0 d cn) (hJ : y_J g0 (o_1 cL ou f) g) : x_M l y_La_get [.codeWith y_La_get b_La_get 5 (some .int) [(0, 9, 12, 13), (0, 9, 16, 23), (0, 9, 20, 42), (0, 9, 24, 25)]] rmB (w_Pc D (x_tys cK cI cN cZ cL) [.ref d, .int sv, .int k, .ref ou] g sz) (w_Qc D g sz (l_W cK cI cL ou d cn (s_get a sv k))) 6 60 (y_A g sz) := by
  refine x_ofWH (cc := b_La_get) (maxL := 5) (ret := (some .int)) (hs := [(0, 9, 12, 13), (0, 9, 16, 23), (0, 9, 20, 42), (0, 9, 24, 25)]) (by decide) rfl ?_
  intro p e s m args below meth c s₁ B hml htb hv
  obtain ⟨rfl, hsz, hP, hE⟩ := hv
  subst hsz
  have hts := hE.hts ([.ref d, .int sv, .int k, .ref ou] : List Value).toArray
  have hK := hE.1.2.1
  have hA0 : ∀ q, s.heap.size ≤ q → y_A g s.heap.size q := fun q h => Or.inr h
  have hA : ∀ q e, g q = some e → y_A g s.heap.size q := fun q e h => Or.inl (by rw [h]; exact fun z => nomatch z)
  have hS : va_S (y_A g s.heap.size) s.heap s.heap [] := va_S.rf
  generalize hAe : y_A g s.heap.size = A at hE hA0 hA hS ⊢
  have hx := B.exec
  have hb := B.bytes
  have hr := B.returns
  have hlocks := B.notSynchronized
  have hown : s.vm.findClass R_La = some m.cls := findClass_of_methodNamed B.named
  have hl := lv_entry ([.ref d, .int sv, .int k, .ref ou]) (n := 5) (Nat.le_of_ble_eq_true rfl)
  rw [lg_entry_eq]
  generalize (lg_sl ([.ref d, .int sv, .int k, .ref ou]) ++ List.replicate (5 - (lg_sl ([.ref d, .int sv, .int k, .ref ou])).length) Slot.unset).toArray = ls at hl ⊢
  have hl : lv_has ls 5 [(0, .ref d), (1, .int sv), (2, .int k), (3, .ref ou)] := hl
  obtain ⟨fs0, hd0⟩ := hR.obj
  have hd : g d = some (.inr (4, fs0)) := (hJ.1 _ _).mpr (Or.inl hd0)
  refine lv_aload_n hx hb d_La_get_0 rfl (lv_at hl 3 rfl) ?_
  refine lv_iconst (v := 0) hx hb d_La_get_1 (by decide) ?_
  refine lv_aload_n hx hb d_La_get_2 rfl (lv_at hl 0 rfl) ?_
  refine lv_iload_n hx hb d_La_get_3 rfl (lv_at hl 1 rfl) ?_
  refine lv_iload_n hx hb d_La_get_4 rfl (lv_at hl 2 rfl) ?_
  refine w_callV (As := [.int sv, .int k]) (C := R_De) ⟨hx, hb, hml, hown, hts⟩ (x_join hJ (c_De_get l hst D cK cI cN cZ cL g0 _ a cn d sv k hw hcn hR)) (x_cb (cwV (own := R_La) (index := 38) (C := R_De) 2 hts (x_gi (by decide +kernel)) rfl rfl rfl (by decide +kernel) ⟨by decide, by decide⟩).1) (hts (.instanceMethod y_De_get) (by decide +kernel)) (hts (.selects R_De y_De_get y_De_get) (by decide +kernel)) (y_recv (ci := 4) (q := (R_De, F_De, 11)) hK hP rfl hd) hE hP hA hA0 hS rfl hl.1 rfl (lv_room (Nat.le_of_ble_eq_true rfl)) d_La_get_5 (by first | decide | omega) (by first | decide | omega) (fun v9 g9 H locs hq9 hP hA hS => ?_) (fun E9 q9 ce9 g9 H locs hq9 hP hA hS z1 z2 z3 => ?_)
  · skip
    obtain ⟨gn, ⟨ho, hRn⟩, hJn⟩ := hq9
    obtain ⟨hs0, hv9⟩ := ho.ret
    obtain ⟨x9, hx9⟩ := l_get (a := a) sv k hs0
    rw [hx9] at hv9
    subst hv9
    refine W.eq (g2 := F0 m 8 ls [.long x9, .int 0, .ref ou]) rfl ?_
    refine y_last (x := x9) hx hb hK hP hA hS 4 hJn.out rfl l_in0 d_La_get_8 (fun H locs hP hA hS => ?_)
    refine lv_goto hx hb d_La_get_9 rfl ?_
    refine lv_iconst (v := 0) hx hb d_La_get_28 (by decide) ?_
    refine W.widen (k := 6) (n := 60) (by first | decide | omega) (by first | decide | omega) ?_
    exact x_ret (W.iret (v := 0) hx hb hr (w_fin rfl hAe (l_okL hs0 hx9 (l_upd _ _) rfl (hJn.up _) hRn) hP hA hS) hS.2.2 d_La_get_29)
  · skip
    obtain ⟨gn, ⟨ho, hRn⟩, hJn⟩ := hq9
    rcases x_thr4 ho with ⟨hs0, hE0⟩ | ⟨hs0, hE0⟩ | ⟨hs0, hE0⟩ | ⟨hs0, hE0⟩
    · skip
      subst hE0
      refine x_catch (E := xIAE) (name := "java/lang/IllegalArgumentException") hown [] ⟨0, 9, 12, 13⟩ [⟨0, 9, 16, 23⟩, ⟨0, 9, 20, 42⟩, ⟨0, 9, 24, 25⟩] (htb.trans rfl) (fun _ h => absurd h List.not_mem_nil) (by decide) (by decide) (hts (.classLink R_La 13 "java/lang/IllegalArgumentException") (by decide +kernel)) (va_Nw.use rfl (hE.1.2.2.1 (.castable "java/lang/IllegalArgumentException" "java/lang/IllegalArgumentException") (by decide +kernel))) z1 z2 z3 ?_
      refine W.eq (g2 := F0 m 12 ls [.ref q9]) rfl ?_
      refine lv_astore hx hb d_La_get_12 hl (by decide) rfl (fun ls hl => ?_)
      have hl : lv_has ls 5 [(4, .ref q9), (0, .ref d), (1, .int sv), (2, .int k), (3, .ref ou)] := hl
      refine lv_iconst (v := 1) hx hb d_La_get_14 (by decide) ?_
      refine W.widen (k := 6) (n := 60) (by first | decide | omega) (by first | decide | omega) ?_
      exact x_ret (W.iret (v := 1) hx hb hr (w_fin rfl hAe (l_bad (i := 0) hs0 (by decide) rfl hJn hRn) hP hA hS) hS.2.2 d_La_get_15)
    · skip
      subst hE0
      refine x_catch (E := xISE) (name := "java/lang/IllegalStateException") hown [⟨0, 9, 12, 13⟩] ⟨0, 9, 16, 23⟩ [⟨0, 9, 20, 42⟩, ⟨0, 9, 24, 25⟩] (htb.trans rfl) (List.forall_mem_cons.mpr ⟨Or.inr ⟨by decide, _, (hts (.classLink R_La 13 "java/lang/IllegalArgumentException") (by decide +kernel)), hE.1.2.2.2.2.1 ("java/lang/IllegalStateException", "java/lang/IllegalArgumentException") (by decide)⟩, fun _ h => absurd h List.not_mem_nil⟩) (by decide) (by decide) (hts (.classLink R_La 23 "java/lang/IllegalStateException") (by decide +kernel)) (va_Nw.use rfl (hE.1.2.2.1 (.castable "java/lang/IllegalStateException" "java/lang/IllegalStateException") (by decide +kernel))) z1 z2 z3 ?_
      refine W.eq (g2 := F0 m 16 ls [.ref q9]) rfl ?_
      refine lv_astore hx hb d_La_get_16 hl (by decide) rfl (fun ls hl => ?_)
      have hl : lv_has ls 5 [(4, .ref q9), (0, .ref d), (1, .int sv), (2, .int k), (3, .ref ou)] := hl
      refine lv_iconst (v := 2) hx hb d_La_get_18 (by decide) ?_
      refine W.widen (k := 6) (n := 60) (by first | decide | omega) (by first | decide | omega) ?_
      exact x_ret (W.iret (v := 2) hx hb hr (w_fin rfl hAe (l_bad (i := 1) hs0 (by decide) rfl hJn hRn) hP hA hS) hS.2.2 d_La_get_19)
    · skip
      subst hE0
      refine x_catch (E := xIOO) (name := "java/lang/IndexOutOfBoundsException") hown [⟨0, 9, 12, 13⟩, ⟨0, 9, 16, 23⟩] ⟨0, 9, 20, 42⟩ [⟨0, 9, 24, 25⟩] (htb.trans rfl) (List.forall_mem_cons.mpr ⟨Or.inr ⟨by decide, _, (hts (.classLink R_La 13 "java/lang/IllegalArgumentException") (by decide +kernel)), hE.1.2.2.2.2.1 ("java/lang/IndexOutOfBoundsException", "java/lang/IllegalArgumentException") (by decide)⟩, List.forall_mem_cons.mpr ⟨Or.inr ⟨by decide, _, (hts (.classLink R_La 23 "java/lang/IllegalStateException") (by decide +kernel)), hE.1.2.2.2.2.1 ("java/lang/IndexOutOfBoundsException", "java/lang/IllegalStateException") (by decide)⟩, fun _ h => absurd h List.not_mem_nil⟩⟩) (by decide) (by decide) (hts (.classLink R_La 42 "java/lang/IndexOutOfBoundsException") (by decide +kernel)) (va_Nw.use rfl (hE.1.2.2.1 (.castable "java/lang/IndexOutOfBoundsException" "java/lang/IndexOutOfBoundsException") (by decide +kernel))) z1 z2 z3 ?_
      refine W.eq (g2 := F0 m 20 ls [.ref q9]) rfl ?_
      refine lv_astore hx hb d_La_get_20 hl (by decide) rfl (fun ls hl => ?_)
      have hl : lv_has ls 5 [(4, .ref q9), (0, .ref d), (1, .int sv), (2, .int k), (3, .ref ou)] := hl
      refine lv_iconst (v := 3) hx hb d_La_get_22 (by decide) ?_
      refine W.widen (k := 6) (n := 60) (by first | decide | omega) (by first | decide | omega) ?_
      exact x_ret (W.iret (v := 3) hx hb hr (w_fin rfl hAe (l_bad (i := 2) hs0 (by decide) rfl hJn hRn) hP hA hS) hS.2.2 d_La_get_23)
    · skip
      subst hE0
      refine x_catch (E := xUOE) (name := "java/lang/UnsupportedOperationException") hown [⟨0, 9, 12, 13⟩, ⟨0, 9, 16, 23⟩, ⟨0, 9, 20, 42⟩] ⟨0, 9, 24, 25⟩ [] (htb.trans rfl) (List.forall_mem_cons.mpr ⟨Or.inr ⟨by decide, _, (hts (.classLink R_La 13 "java/lang/IllegalArgumentException") (by decide +kernel)), hE.1.2.2.2.2.1 ("java/lang/UnsupportedOperationException", "java/lang/IllegalArgumentException") (by decide)⟩, List.forall_mem_cons.mpr ⟨Or.inr ⟨by decide, _, (hts (.classLink R_La 23 "java/lang/IllegalStateException") (by decide +kernel)), hE.1.2.2.2.2.1 ("java/lang/UnsupportedOperationException", "java/lang/IllegalStateException") (by decide)⟩, List.forall_mem_cons.mpr ⟨Or.inr ⟨by decide, _, (hts (.classLink R_La 42 "java/lang/IndexOutOfBoundsException") (by decide +kernel)), hE.1.2.2.2.2.1 ("java/lang/UnsupportedOperationException", "java/lang/IndexOutOfBoundsException") (by decide)⟩, fun _ h => absurd h List.not_mem_nil⟩⟩⟩) (by decide) (by decide) (hts (.classLink R_La 25 "java/lang/UnsupportedOperationException") (by decide +kernel)) (va_Nw.use rfl (hE.1.2.2.1 (.castable "java/lang/UnsupportedOperationException" "java/lang/UnsupportedOperationException") (by decide +kernel))) z1 z2 z3 ?_
      refine W.eq (g2 := F0 m 24 ls [.ref q9]) rfl ?_
      refine lv_astore hx hb d_La_get_24 hl (by decide) rfl (fun ls hl => ?_)
      have hl : lv_has ls 5 [(4, .ref q9), (0, .ref d), (1, .int sv), (2, .int k), (3, .ref ou)] := hl
      refine lv_iconst (v := 4) hx hb d_La_get_26 (by decide) ?_
      refine W.widen (k := 6) (n := 60) (by first | decide | omega) (by first | decide | omega) ?_
      exact x_ret (W.iret (v := 4) hx hb hr (w_fin rfl hAe (l_bad (i := 3) hs0 (by decide) rfl hJn hRn) hP hA hS) hS.2.2 d_La_get_27)
set_option maxHeartbeats 4000000 in
set_option maxRecDepth 100000 in
/-- the law's put -/
theorem c_La_put (l : Launch) (hst : l.stackTraces = false) (D : va_G) (cK cI cN cZ cL : ClassId) (g0 g : y_G) (ou : Nat) (f : Nat → Int64) (sz : Nat) (a : Ab) (cn d : Nat) (sv : Int32) (k : Int32) (v : Int64) (hw : a_W a cn) (hcn : cn < 2 ^ 30) (hR : c_R cK cI a g0 d cn) (hJ : y_J g0 (o_1 cL ou f) g) : x_M l y_La_put [.codeWith y_La_put b_La_put 6 (some .int) [(0, 7, 10, 13), (0, 7, 14, 23), (0, 7, 18, 42), (0, 7, 22, 25)]] rmB (w_Pc D (x_tys cK cI cN cZ cL) [.ref d, .int sv, .int k, .long v] g sz) (w_Qc D g sz (l_W cK cI cL ou d cn (s_put a sv k v))) 6 60 (y_A g sz) := by
  refine x_ofWH (cc := b_La_put) (maxL := 6) (ret := (some .int)) (hs := [(0, 7, 10, 13), (0, 7, 14, 23), (0, 7, 18, 42), (0, 7, 22, 25)]) (by decide) rfl ?_
  intro p e s m args below meth c s₁ B hml htb hv
  obtain ⟨rfl, hsz, hP, hE⟩ := hv
  subst hsz
  have hts := hE.hts ([.ref d, .int sv, .int k, .long v] : List Value).toArray
  have hK := hE.1.2.1
  have hA0 : ∀ q, s.heap.size ≤ q → y_A g s.heap.size q := fun q h => Or.inr h
  have hA : ∀ q e, g q = some e → y_A g s.heap.size q := fun q e h => Or.inl (by rw [h]; exact fun z => nomatch z)
  have hS : va_S (y_A g s.heap.size) s.heap s.heap [] := va_S.rf
  generalize hAe : y_A g s.heap.size = A at hE hA0 hA hS ⊢
  have hx := B.exec
  have hb := B.bytes
  have hr := B.returns
  have hlocks := B.notSynchronized
  have hown : s.vm.findClass R_La = some m.cls := findClass_of_methodNamed B.named
  have hl := lv_entry ([.ref d, .int sv, .int k, .long v]) (n := 6) (Nat.le_of_ble_eq_true rfl)
  rw [lg_entry_eq]
  generalize (lg_sl ([.ref d, .int sv, .int k, .long v]) ++ List.replicate (6 - (lg_sl ([.ref d, .int sv, .int k, .long v])).length) Slot.unset).toArray = ls at hl ⊢
  have hl : lv_has ls 6 [(0, .ref d), (1, .int sv), (2, .int k), (3, .long v)] := hl
  obtain ⟨fs0, hd0⟩ := hR.obj
  have hd : g d = some (.inr (4, fs0)) := (hJ.1 _ _).mpr (Or.inl hd0)
  refine lv_aload_n hx hb d_La_put_0 rfl (lv_at hl 0 rfl) ?_
  refine lv_iload_n hx hb d_La_put_1 rfl (lv_at hl 1 rfl) ?_
  refine lv_iload_n hx hb d_La_put_2 rfl (lv_at hl 2 rfl) ?_
  refine lv_lload_n hx hb d_La_put_3 rfl (lv_at hl 3 rfl) ?_
  refine w_callV (As := [.int sv, .int k, .long v]) (C := R_De) ⟨hx, hb, hml, hown, hts⟩ (x_join hJ (c_De_put l hst D cK cI cN cZ cL g0 _ a cn d sv k v hw hcn hR)) (x_cb (cwV (own := R_La) (index := 44) (C := R_De) 3 hts (x_gi (by decide +kernel)) rfl rfl rfl (by decide +kernel) ⟨by decide, by decide⟩).1) (hts (.instanceMethod y_De_put) (by decide +kernel)) (hts (.selects R_De y_De_put y_De_put) (by decide +kernel)) (y_recv (ci := 4) (q := (R_De, F_De, 11)) hK hP rfl hd) hE hP hA hA0 hS rfl hl.1 rfl (lv_room (Nat.le_of_ble_eq_true rfl)) d_La_put_4 (by first | decide | omega) (by first | decide | omega) (fun v9 g9 H locs hq9 hP hA hS => ?_) (fun E9 q9 ce9 g9 H locs hq9 hP hA hS z1 z2 z3 => ?_)
  · skip
    obtain ⟨gn, ⟨ho, hRn⟩, hJn⟩ := hq9
    obtain ⟨hs0, hv9⟩ := ho.ret
    have hn9 := l_put (a := a) sv k v hs0
    rw [hn9] at hv9
    subst hv9
    refine W.eq (g2 := F0 m 7 ls []) rfl ?_
    refine lv_goto hx hb d_La_put_7 rfl ?_
    refine lv_iconst (v := 0) hx hb d_La_put_26 (by decide) ?_
    refine W.widen (k := 6) (n := 60) (by first | decide | omega) (by first | decide | omega) ?_
    exact x_ret (W.iret (v := 0) hx hb hr (w_fin rfl hAe (l_okV hs0 hn9 rfl hJn hRn) hP hA hS) hS.2.2 d_La_put_27)
  · skip
    obtain ⟨gn, ⟨ho, hRn⟩, hJn⟩ := hq9
    rcases x_thr4 ho with ⟨hs0, hE0⟩ | ⟨hs0, hE0⟩ | ⟨hs0, hE0⟩ | ⟨hs0, hE0⟩
    · skip
      subst hE0
      refine x_catch (E := xIAE) (name := "java/lang/IllegalArgumentException") hown [] ⟨0, 7, 10, 13⟩ [⟨0, 7, 14, 23⟩, ⟨0, 7, 18, 42⟩, ⟨0, 7, 22, 25⟩] (htb.trans rfl) (fun _ h => absurd h List.not_mem_nil) (by decide) (by decide) (hts (.classLink R_La 13 "java/lang/IllegalArgumentException") (by decide +kernel)) (va_Nw.use rfl (hE.1.2.2.1 (.castable "java/lang/IllegalArgumentException" "java/lang/IllegalArgumentException") (by decide +kernel))) z1 z2 z3 ?_
      refine W.eq (g2 := F0 m 10 ls [.ref q9]) rfl ?_
      refine lv_astore hx hb d_La_put_10 hl (by decide) rfl (fun ls hl => ?_)
      have hl : lv_has ls 6 [(5, .ref q9), (0, .ref d), (1, .int sv), (2, .int k), (3, .long v)] := hl
      refine lv_iconst (v := 1) hx hb d_La_put_12 (by decide) ?_
      refine W.widen (k := 6) (n := 60) (by first | decide | omega) (by first | decide | omega) ?_
      exact x_ret (W.iret (v := 1) hx hb hr (w_fin rfl hAe (l_bad (i := 0) hs0 (by decide) rfl hJn hRn) hP hA hS) hS.2.2 d_La_put_13)
    · skip
      subst hE0
      refine x_catch (E := xISE) (name := "java/lang/IllegalStateException") hown [⟨0, 7, 10, 13⟩] ⟨0, 7, 14, 23⟩ [⟨0, 7, 18, 42⟩, ⟨0, 7, 22, 25⟩] (htb.trans rfl) (List.forall_mem_cons.mpr ⟨Or.inr ⟨by decide, _, (hts (.classLink R_La 13 "java/lang/IllegalArgumentException") (by decide +kernel)), hE.1.2.2.2.2.1 ("java/lang/IllegalStateException", "java/lang/IllegalArgumentException") (by decide)⟩, fun _ h => absurd h List.not_mem_nil⟩) (by decide) (by decide) (hts (.classLink R_La 23 "java/lang/IllegalStateException") (by decide +kernel)) (va_Nw.use rfl (hE.1.2.2.1 (.castable "java/lang/IllegalStateException" "java/lang/IllegalStateException") (by decide +kernel))) z1 z2 z3 ?_
      refine W.eq (g2 := F0 m 14 ls [.ref q9]) rfl ?_
      refine lv_astore hx hb d_La_put_14 hl (by decide) rfl (fun ls hl => ?_)
      have hl : lv_has ls 6 [(5, .ref q9), (0, .ref d), (1, .int sv), (2, .int k), (3, .long v)] := hl
      refine lv_iconst (v := 2) hx hb d_La_put_16 (by decide) ?_
      refine W.widen (k := 6) (n := 60) (by first | decide | omega) (by first | decide | omega) ?_
      exact x_ret (W.iret (v := 2) hx hb hr (w_fin rfl hAe (l_bad (i := 1) hs0 (by decide) rfl hJn hRn) hP hA hS) hS.2.2 d_La_put_17)
    · skip
      subst hE0
      refine x_catch (E := xIOO) (name := "java/lang/IndexOutOfBoundsException") hown [⟨0, 7, 10, 13⟩, ⟨0, 7, 14, 23⟩] ⟨0, 7, 18, 42⟩ [⟨0, 7, 22, 25⟩] (htb.trans rfl) (List.forall_mem_cons.mpr ⟨Or.inr ⟨by decide, _, (hts (.classLink R_La 13 "java/lang/IllegalArgumentException") (by decide +kernel)), hE.1.2.2.2.2.1 ("java/lang/IndexOutOfBoundsException", "java/lang/IllegalArgumentException") (by decide)⟩, List.forall_mem_cons.mpr ⟨Or.inr ⟨by decide, _, (hts (.classLink R_La 23 "java/lang/IllegalStateException") (by decide +kernel)), hE.1.2.2.2.2.1 ("java/lang/IndexOutOfBoundsException", "java/lang/IllegalStateException") (by decide)⟩, fun _ h => absurd h List.not_mem_nil⟩⟩) (by decide) (by decide) (hts (.classLink R_La 42 "java/lang/IndexOutOfBoundsException") (by decide +kernel)) (va_Nw.use rfl (hE.1.2.2.1 (.castable "java/lang/IndexOutOfBoundsException" "java/lang/IndexOutOfBoundsException") (by decide +kernel))) z1 z2 z3 ?_
      refine W.eq (g2 := F0 m 18 ls [.ref q9]) rfl ?_
      refine lv_astore hx hb d_La_put_18 hl (by decide) rfl (fun ls hl => ?_)
      have hl : lv_has ls 6 [(5, .ref q9), (0, .ref d), (1, .int sv), (2, .int k), (3, .long v)] := hl
      refine lv_iconst (v := 3) hx hb d_La_put_20 (by decide) ?_
      refine W.widen (k := 6) (n := 60) (by first | decide | omega) (by first | decide | omega) ?_
      exact x_ret (W.iret (v := 3) hx hb hr (w_fin rfl hAe (l_bad (i := 2) hs0 (by decide) rfl hJn hRn) hP hA hS) hS.2.2 d_La_put_21)
    · skip
      subst hE0
      refine x_catch (E := xUOE) (name := "java/lang/UnsupportedOperationException") hown [⟨0, 7, 10, 13⟩, ⟨0, 7, 14, 23⟩, ⟨0, 7, 18, 42⟩] ⟨0, 7, 22, 25⟩ [] (htb.trans rfl) (List.forall_mem_cons.mpr ⟨Or.inr ⟨by decide, _, (hts (.classLink R_La 13 "java/lang/IllegalArgumentException") (by decide +kernel)), hE.1.2.2.2.2.1 ("java/lang/UnsupportedOperationException", "java/lang/IllegalArgumentException") (by decide)⟩, List.forall_mem_cons.mpr ⟨Or.inr ⟨by decide, _, (hts (.classLink R_La 23 "java/lang/IllegalStateException") (by decide +kernel)), hE.1.2.2.2.2.1 ("java/lang/UnsupportedOperationException", "java/lang/IllegalStateException") (by decide)⟩, List.forall_mem_cons.mpr ⟨Or.inr ⟨by decide, _, (hts (.classLink R_La 42 "java/lang/IndexOutOfBoundsException") (by decide +kernel)), hE.1.2.2.2.2.1 ("java/lang/UnsupportedOperationException", "java/lang/IndexOutOfBoundsException") (by decide)⟩, fun _ h => absurd h List.not_mem_nil⟩⟩⟩) (by decide) (by decide) (hts (.classLink R_La 25 "java/lang/UnsupportedOperationException") (by decide +kernel)) (va_Nw.use rfl (hE.1.2.2.1 (.castable "java/lang/UnsupportedOperationException" "java/lang/UnsupportedOperationException") (by decide +kernel))) z1 z2 z3 ?_
      refine W.eq (g2 := F0 m 22 ls [.ref q9]) rfl ?_
      refine lv_astore hx hb d_La_put_22 hl (by decide) rfl (fun ls hl => ?_)
      have hl : lv_has ls 6 [(5, .ref q9), (0, .ref d), (1, .int sv), (2, .int k), (3, .long v)] := hl
      refine lv_iconst (v := 4) hx hb d_La_put_24 (by decide) ?_
      refine W.widen (k := 6) (n := 60) (by first | decide | omega) (by first | decide | omega) ?_
      exact x_ret (W.iret (v := 4) hx hb hr (w_fin rfl hAe (l_bad (i := 3) hs0 (by decide) rfl hJn hRn) hP hA hS) hS.2.2 d_La_put_25)
set_option maxHeartbeats 4000000 in
set_option maxRecDepth 100000 in
/-- the law's link -/
theorem c_La_link (l : Launch) (hst : l.stackTraces = false) (D : va_G) (cK cI cN cZ cL : ClassId) (g0 g : y_G) (ou : Nat) (f : Nat → Int64) (sz : Nat) (a : Ab) (cn d : Nat) (sv : Int32) (k : Int32) (t : Int32) (hw : a_W a cn) (hcn : cn < 2 ^ 30) (hR : c_R cK cI a g0 d cn) (hJ : y_J g0 (o_1 cL ou f) g) : x_M l y_La_link [.codeWith y_La_link b_La_link 6 (some .int) [(0, 19, 22, 13), (0, 19, 26, 23), (0, 19, 30, 42), (0, 19, 34, 25)]] rmB (w_Pc D (x_tys cK cI cN cZ cL) [.ref d, .int sv, .int k, .int t, .ref ou] g sz) (w_Qc D g sz (l_W cK cI cL ou d cn (s_link a sv k t))) 6 60 (y_A g sz) := by
  refine x_ofWH (cc := b_La_link) (maxL := 6) (ret := (some .int)) (hs := [(0, 19, 22, 13), (0, 19, 26, 23), (0, 19, 30, 42), (0, 19, 34, 25)]) (by decide) rfl ?_
  intro p e s m args below meth c s₁ B hml htb hv
  obtain ⟨rfl, hsz, hP, hE⟩ := hv
  subst hsz
  have hts := hE.hts ([.ref d, .int sv, .int k, .int t, .ref ou] : List Value).toArray
  have hK := hE.1.2.1
  have hA0 : ∀ q, s.heap.size ≤ q → y_A g s.heap.size q := fun q h => Or.inr h
  have hA : ∀ q e, g q = some e → y_A g s.heap.size q := fun q e h => Or.inl (by rw [h]; exact fun z => nomatch z)
  have hS : va_S (y_A g s.heap.size) s.heap s.heap [] := va_S.rf
  generalize hAe : y_A g s.heap.size = A at hE hA0 hA hS ⊢
  have hx := B.exec
  have hb := B.bytes
  have hr := B.returns
  have hlocks := B.notSynchronized
  have hown : s.vm.findClass R_La = some m.cls := findClass_of_methodNamed B.named
  have hl := lv_entry ([.ref d, .int sv, .int k, .int t, .ref ou]) (n := 6) (Nat.le_of_ble_eq_true rfl)
  rw [lg_entry_eq]
  generalize (lg_sl ([.ref d, .int sv, .int k, .int t, .ref ou]) ++ List.replicate (6 - (lg_sl ([.ref d, .int sv, .int k, .int t, .ref ou])).length) Slot.unset).toArray = ls at hl ⊢
  have hl : lv_has ls 6 [(0, .ref d), (1, .int sv), (2, .int k), (3, .int t), (4, .ref ou)] := hl
  obtain ⟨fs0, hd0⟩ := hR.obj
  have hd : g d = some (.inr (4, fs0)) := (hJ.1 _ _).mpr (Or.inl hd0)
  refine lv_aload hx hb d_La_link_0 (lv_at hl 4 rfl) ?_
  refine lv_iconst (v := 0) hx hb d_La_link_2 (by decide) ?_
  refine lv_aload_n hx hb d_La_link_3 rfl (lv_at hl 0 rfl) ?_
  refine lv_iload_n hx hb d_La_link_4 rfl (lv_at hl 1 rfl) ?_
  refine lv_iload_n hx hb d_La_link_5 rfl (lv_at hl 2 rfl) ?_
  refine lv_iload_n hx hb d_La_link_6 rfl (lv_at hl 3 rfl) ?_
  refine w_callV (As := [.int sv, .int k, .int t]) (C := R_De) ⟨hx, hb, hml, hown, hts⟩ (x_join hJ (c_De_link l hst D cK cI cN cZ cL g0 _ a cn d sv k t hw hcn hR)) (x_cb (cwV (own := R_La) (index := 48) (C := R_De) 3 hts (x_gi (by decide +kernel)) rfl rfl rfl (by decide +kernel) ⟨by decide, by decide⟩).1) (hts (.instanceMethod y_De_link) (by decide +kernel)) (hts (.selects R_De y_De_link y_De_link) (by decide +kernel)) (y_recv (ci := 4) (q := (R_De, F_De, 11)) hK hP rfl hd) hE hP hA hA0 hS rfl hl.1 rfl (lv_room (Nat.le_of_ble_eq_true rfl)) d_La_link_7 (by first | decide | omega) (by first | decide | omega) (fun v9 g9 H locs hq9 hP hA hS => ?_) (fun E9 q9 ce9 g9 H locs hq9 hP hA hS z1 z2 z3 => ?_)
  · skip
    obtain ⟨gn, ⟨ho, hRn⟩, hJn⟩ := hq9
    obtain ⟨hs0, hv9⟩ := ho.ret
    obtain ⟨X9, hx9⟩ := l_link (a := a) sv k t hs0
    rw [hx9] at hv9
    subst hv9
    refine W.eq (g2 := F0 m 10 ls [.int (c_bit X9), .int 0, .ref ou]) rfl ?_
    refine lv_if_eq hx hb d_La_link_10 rfl (fun h1 => ?_) (fun h1 => ?_)
    · -- ifeq at 10: to 17
      refine lv_lconst (v := 0) hx hb d_La_link_17 (by decide) ?_
      refine y_last (x := 0) hx hb hK hP hA hS 4 hJn.out rfl l_in0 d_La_link_18 (fun H locs hP hA hS => ?_)
      refine lv_goto hx hb d_La_link_19 rfl ?_
      refine lv_iconst (v := 0) hx hb d_La_link_38 (by decide) ?_
      refine W.widen (k := 6) (n := 60) (by first | decide | omega) (by first | decide | omega) ?_
      exact x_ret (W.iret (v := 0) hx hb hr (w_fin rfl hAe (l_okI hs0 hx9 ((l_upd _ _).trans (l_b0 h1)) rfl (hJn.up _) hRn) hP hA hS) hS.2.2 d_La_link_39)
    · -- ifeq at 10: to 13
      refine lv_lconst (v := 1) hx hb d_La_link_13 (by decide) ?_
      refine lv_goto hx hb d_La_link_14 rfl ?_
      refine y_last (x := 1) hx hb hK hP hA hS 4 hJn.out rfl l_in0 d_La_link_18 (fun H locs hP hA hS => ?_)
      refine lv_goto hx hb d_La_link_19 rfl ?_
      refine lv_iconst (v := 0) hx hb d_La_link_38 (by decide) ?_
      refine W.widen (k := 6) (n := 60) (by first | decide | omega) (by first | decide | omega) ?_
      exact x_ret (W.iret (v := 0) hx hb hr (w_fin rfl hAe (l_okI hs0 hx9 ((l_upd _ _).trans (l_b1 h1)) rfl (hJn.up _) hRn) hP hA hS) hS.2.2 d_La_link_39)
  · skip
    obtain ⟨gn, ⟨ho, hRn⟩, hJn⟩ := hq9
    rcases x_thr4 ho with ⟨hs0, hE0⟩ | ⟨hs0, hE0⟩ | ⟨hs0, hE0⟩ | ⟨hs0, hE0⟩
    · skip
      subst hE0
      refine x_catch (E := xIAE) (name := "java/lang/IllegalArgumentException") hown [] ⟨0, 19, 22, 13⟩ [⟨0, 19, 26, 23⟩, ⟨0, 19, 30, 42⟩, ⟨0, 19, 34, 25⟩] (htb.trans rfl) (fun _ h => absurd h List.not_mem_nil) (by decide) (by decide) (hts (.classLink R_La 13 "java/lang/IllegalArgumentException") (by decide +kernel)) (va_Nw.use rfl (hE.1.2.2.1 (.castable "java/lang/IllegalArgumentException" "java/lang/IllegalArgumentException") (by decide +kernel))) z1 z2 z3 ?_
      refine W.eq (g2 := F0 m 22 ls [.ref q9]) rfl ?_
      refine lv_astore hx hb d_La_link_22 hl (by decide) rfl (fun ls hl => ?_)
      have hl : lv_has ls 6 [(5, .ref q9), (0, .ref d), (1, .int sv), (2, .int k), (3, .int t), (4, .ref ou)] := hl
      refine lv_iconst (v := 1) hx hb d_La_link_24 (by decide) ?_
      refine W.widen (k := 6) (n := 60) (by first | decide | omega) (by first | decide | omega) ?_
      exact x_ret (W.iret (v := 1) hx hb hr (w_fin rfl hAe (l_bad (i := 0) hs0 (by decide) rfl hJn hRn) hP hA hS) hS.2.2 d_La_link_25)
    · skip
      subst hE0
      refine x_catch (E := xISE) (name := "java/lang/IllegalStateException") hown [⟨0, 19, 22, 13⟩] ⟨0, 19, 26, 23⟩ [⟨0, 19, 30, 42⟩, ⟨0, 19, 34, 25⟩] (htb.trans rfl) (List.forall_mem_cons.mpr ⟨Or.inr ⟨by decide, _, (hts (.classLink R_La 13 "java/lang/IllegalArgumentException") (by decide +kernel)), hE.1.2.2.2.2.1 ("java/lang/IllegalStateException", "java/lang/IllegalArgumentException") (by decide)⟩, fun _ h => absurd h List.not_mem_nil⟩) (by decide) (by decide) (hts (.classLink R_La 23 "java/lang/IllegalStateException") (by decide +kernel)) (va_Nw.use rfl (hE.1.2.2.1 (.castable "java/lang/IllegalStateException" "java/lang/IllegalStateException") (by decide +kernel))) z1 z2 z3 ?_
      refine W.eq (g2 := F0 m 26 ls [.ref q9]) rfl ?_
      refine lv_astore hx hb d_La_link_26 hl (by decide) rfl (fun ls hl => ?_)
      have hl : lv_has ls 6 [(5, .ref q9), (0, .ref d), (1, .int sv), (2, .int k), (3, .int t), (4, .ref ou)] := hl
      refine lv_iconst (v := 2) hx hb d_La_link_28 (by decide) ?_
      refine W.widen (k := 6) (n := 60) (by first | decide | omega) (by first | decide | omega) ?_
      exact x_ret (W.iret (v := 2) hx hb hr (w_fin rfl hAe (l_bad (i := 1) hs0 (by decide) rfl hJn hRn) hP hA hS) hS.2.2 d_La_link_29)
    · skip
      subst hE0
      refine x_catch (E := xIOO) (name := "java/lang/IndexOutOfBoundsException") hown [⟨0, 19, 22, 13⟩, ⟨0, 19, 26, 23⟩] ⟨0, 19, 30, 42⟩ [⟨0, 19, 34, 25⟩] (htb.trans rfl) (List.forall_mem_cons.mpr ⟨Or.inr ⟨by decide, _, (hts (.classLink R_La 13 "java/lang/IllegalArgumentException") (by decide +kernel)), hE.1.2.2.2.2.1 ("java/lang/IndexOutOfBoundsException", "java/lang/IllegalArgumentException") (by decide)⟩, List.forall_mem_cons.mpr ⟨Or.inr ⟨by decide, _, (hts (.classLink R_La 23 "java/lang/IllegalStateException") (by decide +kernel)), hE.1.2.2.2.2.1 ("java/lang/IndexOutOfBoundsException", "java/lang/IllegalStateException") (by decide)⟩, fun _ h => absurd h List.not_mem_nil⟩⟩) (by decide) (by decide) (hts (.classLink R_La 42 "java/lang/IndexOutOfBoundsException") (by decide +kernel)) (va_Nw.use rfl (hE.1.2.2.1 (.castable "java/lang/IndexOutOfBoundsException" "java/lang/IndexOutOfBoundsException") (by decide +kernel))) z1 z2 z3 ?_
      refine W.eq (g2 := F0 m 30 ls [.ref q9]) rfl ?_
      refine lv_astore hx hb d_La_link_30 hl (by decide) rfl (fun ls hl => ?_)
      have hl : lv_has ls 6 [(5, .ref q9), (0, .ref d), (1, .int sv), (2, .int k), (3, .int t), (4, .ref ou)] := hl
      refine lv_iconst (v := 3) hx hb d_La_link_32 (by decide) ?_
      refine W.widen (k := 6) (n := 60) (by first | decide | omega) (by first | decide | omega) ?_
      exact x_ret (W.iret (v := 3) hx hb hr (w_fin rfl hAe (l_bad (i := 2) hs0 (by decide) rfl hJn hRn) hP hA hS) hS.2.2 d_La_link_33)
    · skip
      subst hE0
      refine x_catch (E := xUOE) (name := "java/lang/UnsupportedOperationException") hown [⟨0, 19, 22, 13⟩, ⟨0, 19, 26, 23⟩, ⟨0, 19, 30, 42⟩] ⟨0, 19, 34, 25⟩ [] (htb.trans rfl) (List.forall_mem_cons.mpr ⟨Or.inr ⟨by decide, _, (hts (.classLink R_La 13 "java/lang/IllegalArgumentException") (by decide +kernel)), hE.1.2.2.2.2.1 ("java/lang/UnsupportedOperationException", "java/lang/IllegalArgumentException") (by decide)⟩, List.forall_mem_cons.mpr ⟨Or.inr ⟨by decide, _, (hts (.classLink R_La 23 "java/lang/IllegalStateException") (by decide +kernel)), hE.1.2.2.2.2.1 ("java/lang/UnsupportedOperationException", "java/lang/IllegalStateException") (by decide)⟩, List.forall_mem_cons.mpr ⟨Or.inr ⟨by decide, _, (hts (.classLink R_La 42 "java/lang/IndexOutOfBoundsException") (by decide +kernel)), hE.1.2.2.2.2.1 ("java/lang/UnsupportedOperationException", "java/lang/IndexOutOfBoundsException") (by decide)⟩, fun _ h => absurd h List.not_mem_nil⟩⟩⟩) (by decide) (by decide) (hts (.classLink R_La 25 "java/lang/UnsupportedOperationException") (by decide +kernel)) (va_Nw.use rfl (hE.1.2.2.1 (.castable "java/lang/UnsupportedOperationException" "java/lang/UnsupportedOperationException") (by decide +kernel))) z1 z2 z3 ?_
      refine W.eq (g2 := F0 m 34 ls [.ref q9]) rfl ?_
      refine lv_astore hx hb d_La_link_34 hl (by decide) rfl (fun ls hl => ?_)
      have hl : lv_has ls 6 [(5, .ref q9), (0, .ref d), (1, .int sv), (2, .int k), (3, .int t), (4, .ref ou)] := hl
      refine lv_iconst (v := 4) hx hb d_La_link_36 (by decide) ?_
      refine W.widen (k := 6) (n := 60) (by first | decide | omega) (by first | decide | omega) ?_
      exact x_ret (W.iret (v := 4) hx hb hr (w_fin rfl hAe (l_bad (i := 3) hs0 (by decide) rfl hJn hRn) hP hA hS) hS.2.2 d_La_link_37)
set_option maxHeartbeats 4000000 in
set_option maxRecDepth 100000 in
/-- the law's follow -/
theorem c_La_follow (l : Launch) (hst : l.stackTraces = false) (D : va_G) (cK cI cN cZ cL : ClassId) (g0 g : y_G) (ou : Nat) (f : Nat → Int64) (sz : Nat) (a : Ab) (cn d : Nat) (sv : Int32) (k : Int32) (t : Int32) (hw : a_W a cn) (hcn : cn < 2 ^ 30) (hR : c_R cK cI a g0 d cn) (hJ : y_J g0 (o_1 cL ou f) g) : x_M l y_La_follow [.codeWith y_La_follow b_La_follow 6 (some .int) [(0, 19, 22, 13), (0, 19, 26, 23), (0, 19, 30, 42), (0, 19, 34, 25)]] rmB (w_Pc D (x_tys cK cI cN cZ cL) [.ref d, .int sv, .int k, .int t, .ref ou] g sz) (w_Qc D g sz (l_W cK cI cL ou d cn (s_follow a sv k t))) 6 60 (y_A g sz) := by
  refine x_ofWH (cc := b_La_follow) (maxL := 6) (ret := (some .int)) (hs := [(0, 19, 22, 13), (0, 19, 26, 23), (0, 19, 30, 42), (0, 19, 34, 25)]) (by decide) rfl ?_
  intro p e s m args below meth c s₁ B hml htb hv
  obtain ⟨rfl, hsz, hP, hE⟩ := hv
  subst hsz
  have hts := hE.hts ([.ref d, .int sv, .int k, .int t, .ref ou] : List Value).toArray
  have hK := hE.1.2.1
  have hA0 : ∀ q, s.heap.size ≤ q → y_A g s.heap.size q := fun q h => Or.inr h
  have hA : ∀ q e, g q = some e → y_A g s.heap.size q := fun q e h => Or.inl (by rw [h]; exact fun z => nomatch z)
  have hS : va_S (y_A g s.heap.size) s.heap s.heap [] := va_S.rf
  generalize hAe : y_A g s.heap.size = A at hE hA0 hA hS ⊢
  have hx := B.exec
  have hb := B.bytes
  have hr := B.returns
  have hlocks := B.notSynchronized
  have hown : s.vm.findClass R_La = some m.cls := findClass_of_methodNamed B.named
  have hl := lv_entry ([.ref d, .int sv, .int k, .int t, .ref ou]) (n := 6) (Nat.le_of_ble_eq_true rfl)
  rw [lg_entry_eq]
  generalize (lg_sl ([.ref d, .int sv, .int k, .int t, .ref ou]) ++ List.replicate (6 - (lg_sl ([.ref d, .int sv, .int k, .int t, .ref ou])).length) Slot.unset).toArray = ls at hl ⊢
  have hl : lv_has ls 6 [(0, .ref d), (1, .int sv), (2, .int k), (3, .int t), (4, .ref ou)] := hl
  obtain ⟨fs0, hd0⟩ := hR.obj
  have hd : g d = some (.inr (4, fs0)) := (hJ.1 _ _).mpr (Or.inl hd0)
  refine lv_aload hx hb d_La_follow_0 (lv_at hl 4 rfl) ?_
  refine lv_iconst (v := 0) hx hb d_La_follow_2 (by decide) ?_
  refine lv_aload_n hx hb d_La_follow_3 rfl (lv_at hl 0 rfl) ?_
  refine lv_iload_n hx hb d_La_follow_4 rfl (lv_at hl 1 rfl) ?_
  refine lv_iload_n hx hb d_La_follow_5 rfl (lv_at hl 2 rfl) ?_
  refine lv_iload_n hx hb d_La_follow_6 rfl (lv_at hl 3 rfl) ?_
  refine w_callV (As := [.int sv, .int k, .int t]) (C := R_De) ⟨hx, hb, hml, hown, hts⟩ (x_join hJ (c_De_follow l hst D cK cI cN cZ cL g0 _ a cn d sv k t hw hcn hR)) (x_cb (cwV (own := R_La) (index := 52) (C := R_De) 3 hts (x_gi (by decide +kernel)) rfl rfl rfl (by decide +kernel) ⟨by decide, by decide⟩).1) (hts (.instanceMethod y_De_follow) (by decide +kernel)) (hts (.selects R_De y_De_follow y_De_follow) (by decide +kernel)) (y_recv (ci := 4) (q := (R_De, F_De, 11)) hK hP rfl hd) hE hP hA hA0 hS rfl hl.1 rfl (lv_room (Nat.le_of_ble_eq_true rfl)) d_La_follow_7 (by first | decide | omega) (by first | decide | omega) (fun v9 g9 H locs hq9 hP hA hS => ?_) (fun E9 q9 ce9 g9 H locs hq9 hP hA hS z1 z2 z3 => ?_)
  · skip
    obtain ⟨gn, ⟨ho, hRn⟩, hJn⟩ := hq9
    obtain ⟨hs0, hv9⟩ := ho.ret
    obtain ⟨X9, hx9⟩ := l_follow (a := a) sv k t hs0
    rw [hx9] at hv9
    subst hv9
    refine W.eq (g2 := F0 m 10 ls [.int (c_bit X9), .int 0, .ref ou]) rfl ?_
    refine lv_if_eq hx hb d_La_follow_10 rfl (fun h1 => ?_) (fun h1 => ?_)
    · -- ifeq at 10: to 17
      refine lv_lconst (v := 0) hx hb d_La_follow_17 (by decide) ?_
      refine y_last (x := 0) hx hb hK hP hA hS 4 hJn.out rfl l_in0 d_La_follow_18 (fun H locs hP hA hS => ?_)
      refine lv_goto hx hb d_La_follow_19 rfl ?_
      refine lv_iconst (v := 0) hx hb d_La_follow_38 (by decide) ?_
      refine W.widen (k := 6) (n := 60) (by first | decide | omega) (by first | decide | omega) ?_
      exact x_ret (W.iret (v := 0) hx hb hr (w_fin rfl hAe (l_okI hs0 hx9 ((l_upd _ _).trans (l_b0 h1)) rfl (hJn.up _) hRn) hP hA hS) hS.2.2 d_La_follow_39)
    · -- ifeq at 10: to 13
      refine lv_lconst (v := 1) hx hb d_La_follow_13 (by decide) ?_
      refine lv_goto hx hb d_La_follow_14 rfl ?_
      refine y_last (x := 1) hx hb hK hP hA hS 4 hJn.out rfl l_in0 d_La_follow_18 (fun H locs hP hA hS => ?_)
      refine lv_goto hx hb d_La_follow_19 rfl ?_
      refine lv_iconst (v := 0) hx hb d_La_follow_38 (by decide) ?_
      refine W.widen (k := 6) (n := 60) (by first | decide | omega) (by first | decide | omega) ?_
      exact x_ret (W.iret (v := 0) hx hb hr (w_fin rfl hAe (l_okI hs0 hx9 ((l_upd _ _).trans (l_b1 h1)) rfl (hJn.up _) hRn) hP hA hS) hS.2.2 d_La_follow_39)
  · skip
    obtain ⟨gn, ⟨ho, hRn⟩, hJn⟩ := hq9
    rcases x_thr4 ho with ⟨hs0, hE0⟩ | ⟨hs0, hE0⟩ | ⟨hs0, hE0⟩ | ⟨hs0, hE0⟩
    · skip
      subst hE0
      refine x_catch (E := xIAE) (name := "java/lang/IllegalArgumentException") hown [] ⟨0, 19, 22, 13⟩ [⟨0, 19, 26, 23⟩, ⟨0, 19, 30, 42⟩, ⟨0, 19, 34, 25⟩] (htb.trans rfl) (fun _ h => absurd h List.not_mem_nil) (by decide) (by decide) (hts (.classLink R_La 13 "java/lang/IllegalArgumentException") (by decide +kernel)) (va_Nw.use rfl (hE.1.2.2.1 (.castable "java/lang/IllegalArgumentException" "java/lang/IllegalArgumentException") (by decide +kernel))) z1 z2 z3 ?_
      refine W.eq (g2 := F0 m 22 ls [.ref q9]) rfl ?_
      refine lv_astore hx hb d_La_follow_22 hl (by decide) rfl (fun ls hl => ?_)
      have hl : lv_has ls 6 [(5, .ref q9), (0, .ref d), (1, .int sv), (2, .int k), (3, .int t), (4, .ref ou)] := hl
      refine lv_iconst (v := 1) hx hb d_La_follow_24 (by decide) ?_
      refine W.widen (k := 6) (n := 60) (by first | decide | omega) (by first | decide | omega) ?_
      exact x_ret (W.iret (v := 1) hx hb hr (w_fin rfl hAe (l_bad (i := 0) hs0 (by decide) rfl hJn hRn) hP hA hS) hS.2.2 d_La_follow_25)
    · skip
      subst hE0
      refine x_catch (E := xISE) (name := "java/lang/IllegalStateException") hown [⟨0, 19, 22, 13⟩] ⟨0, 19, 26, 23⟩ [⟨0, 19, 30, 42⟩, ⟨0, 19, 34, 25⟩] (htb.trans rfl) (List.forall_mem_cons.mpr ⟨Or.inr ⟨by decide, _, (hts (.classLink R_La 13 "java/lang/IllegalArgumentException") (by decide +kernel)), hE.1.2.2.2.2.1 ("java/lang/IllegalStateException", "java/lang/IllegalArgumentException") (by decide)⟩, fun _ h => absurd h List.not_mem_nil⟩) (by decide) (by decide) (hts (.classLink R_La 23 "java/lang/IllegalStateException") (by decide +kernel)) (va_Nw.use rfl (hE.1.2.2.1 (.castable "java/lang/IllegalStateException" "java/lang/IllegalStateException") (by decide +kernel))) z1 z2 z3 ?_
      refine W.eq (g2 := F0 m 26 ls [.ref q9]) rfl ?_
      refine lv_astore hx hb d_La_follow_26 hl (by decide) rfl (fun ls hl => ?_)
      have hl : lv_has ls 6 [(5, .ref q9), (0, .ref d), (1, .int sv), (2, .int k), (3, .int t), (4, .ref ou)] := hl
      refine lv_iconst (v := 2) hx hb d_La_follow_28 (by decide) ?_
      refine W.widen (k := 6) (n := 60) (by first | decide | omega) (by first | decide | omega) ?_
      exact x_ret (W.iret (v := 2) hx hb hr (w_fin rfl hAe (l_bad (i := 1) hs0 (by decide) rfl hJn hRn) hP hA hS) hS.2.2 d_La_follow_29)
    · skip
      subst hE0
      refine x_catch (E := xIOO) (name := "java/lang/IndexOutOfBoundsException") hown [⟨0, 19, 22, 13⟩, ⟨0, 19, 26, 23⟩] ⟨0, 19, 30, 42⟩ [⟨0, 19, 34, 25⟩] (htb.trans rfl) (List.forall_mem_cons.mpr ⟨Or.inr ⟨by decide, _, (hts (.classLink R_La 13 "java/lang/IllegalArgumentException") (by decide +kernel)), hE.1.2.2.2.2.1 ("java/lang/IndexOutOfBoundsException", "java/lang/IllegalArgumentException") (by decide)⟩, List.forall_mem_cons.mpr ⟨Or.inr ⟨by decide, _, (hts (.classLink R_La 23 "java/lang/IllegalStateException") (by decide +kernel)), hE.1.2.2.2.2.1 ("java/lang/IndexOutOfBoundsException", "java/lang/IllegalStateException") (by decide)⟩, fun _ h => absurd h List.not_mem_nil⟩⟩) (by decide) (by decide) (hts (.classLink R_La 42 "java/lang/IndexOutOfBoundsException") (by decide +kernel)) (va_Nw.use rfl (hE.1.2.2.1 (.castable "java/lang/IndexOutOfBoundsException" "java/lang/IndexOutOfBoundsException") (by decide +kernel))) z1 z2 z3 ?_
      refine W.eq (g2 := F0 m 30 ls [.ref q9]) rfl ?_
      refine lv_astore hx hb d_La_follow_30 hl (by decide) rfl (fun ls hl => ?_)
      have hl : lv_has ls 6 [(5, .ref q9), (0, .ref d), (1, .int sv), (2, .int k), (3, .int t), (4, .ref ou)] := hl
      refine lv_iconst (v := 3) hx hb d_La_follow_32 (by decide) ?_
      refine W.widen (k := 6) (n := 60) (by first | decide | omega) (by first | decide | omega) ?_
      exact x_ret (W.iret (v := 3) hx hb hr (w_fin rfl hAe (l_bad (i := 2) hs0 (by decide) rfl hJn hRn) hP hA hS) hS.2.2 d_La_follow_33)
    · skip
      subst hE0
      refine x_catch (E := xUOE) (name := "java/lang/UnsupportedOperationException") hown [⟨0, 19, 22, 13⟩, ⟨0, 19, 26, 23⟩, ⟨0, 19, 30, 42⟩] ⟨0, 19, 34, 25⟩ [] (htb.trans rfl) (List.forall_mem_cons.mpr ⟨Or.inr ⟨by decide, _, (hts (.classLink R_La 13 "java/lang/IllegalArgumentException") (by decide +kernel)), hE.1.2.2.2.2.1 ("java/lang/UnsupportedOperationException", "java/lang/IllegalArgumentException") (by decide)⟩, List.forall_mem_cons.mpr ⟨Or.inr ⟨by decide, _, (hts (.classLink R_La 23 "java/lang/IllegalStateException") (by decide +kernel)), hE.1.2.2.2.2.1 ("java/lang/UnsupportedOperationException", "java/lang/IllegalStateException") (by decide)⟩, List.forall_mem_cons.mpr ⟨Or.inr ⟨by decide, _, (hts (.classLink R_La 42 "java/lang/IndexOutOfBoundsException") (by decide +kernel)), hE.1.2.2.2.2.1 ("java/lang/UnsupportedOperationException", "java/lang/IndexOutOfBoundsException") (by decide)⟩, fun _ h => absurd h List.not_mem_nil⟩⟩⟩) (by decide) (by decide) (hts (.classLink R_La 25 "java/lang/UnsupportedOperationException") (by decide +kernel)) (va_Nw.use rfl (hE.1.2.2.1 (.castable "java/lang/UnsupportedOperationException" "java/lang/UnsupportedOperationException") (by decide +kernel))) z1 z2 z3 ?_
      refine W.eq (g2 := F0 m 34 ls [.ref q9]) rfl ?_
      refine lv_astore hx hb d_La_follow_34 hl (by decide) rfl (fun ls hl => ?_)
      have hl : lv_has ls 6 [(5, .ref q9), (0, .ref d), (1, .int sv), (2, .int k), (3, .int t), (4, .ref ou)] := hl
      refine lv_iconst (v := 4) hx hb d_La_follow_36 (by decide) ?_
      refine W.widen (k := 6) (n := 60) (by first | decide | omega) (by first | decide | omega) ?_
      exact x_ret (W.iret (v := 4) hx hb hr (w_fin rfl hAe (l_bad (i := 3) hs0 (by decide) rfl hJn hRn) hP hA hS) hS.2.2 d_La_follow_37)
set_option maxHeartbeats 4000000 in
set_option maxRecDepth 100000 in
/-- the law's keep -/
theorem c_La_keep (l : Launch) (hst : l.stackTraces = false) (D : va_G) (cK cI cN cZ cL : ClassId) (g0 g : y_G) (ou : Nat) (f : Nat → Int64) (sz : Nat) (a : Ab) (cn d : Nat) (sv : Int32) (hw : a_W a cn) (hcn : cn < 2 ^ 30) (hR : c_R cK cI a g0 d cn) (hJ : y_J g0 (o_1 cL ou f) g) : x_M l y_La_keep [.codeWith y_La_keep b_La_keep 4 (some .int) [(0, 9, 12, 13), (0, 9, 15, 23)]] rmB (w_Pc D (x_tys cK cI cN cZ cL) [.ref d, .int sv, .ref ou] g sz) (w_Qc D g sz (l_W cK cI cL ou d cn (s_keep a sv))) 6 60 (y_A g sz) := by
  refine x_ofWH (cc := b_La_keep) (maxL := 4) (ret := (some .int)) (hs := [(0, 9, 12, 13), (0, 9, 15, 23)]) (by decide) rfl ?_
  intro p e s m args below meth c s₁ B hml htb hv
  obtain ⟨rfl, hsz, hP, hE⟩ := hv
  subst hsz
  have hts := hE.hts ([.ref d, .int sv, .ref ou] : List Value).toArray
  have hK := hE.1.2.1
  have hA0 : ∀ q, s.heap.size ≤ q → y_A g s.heap.size q := fun q h => Or.inr h
  have hA : ∀ q e, g q = some e → y_A g s.heap.size q := fun q e h => Or.inl (by rw [h]; exact fun z => nomatch z)
  have hS : va_S (y_A g s.heap.size) s.heap s.heap [] := va_S.rf
  generalize hAe : y_A g s.heap.size = A at hE hA0 hA hS ⊢
  have hx := B.exec
  have hb := B.bytes
  have hr := B.returns
  have hlocks := B.notSynchronized
  have hown : s.vm.findClass R_La = some m.cls := findClass_of_methodNamed B.named
  have hl := lv_entry ([.ref d, .int sv, .ref ou]) (n := 4) (Nat.le_of_ble_eq_true rfl)
  rw [lg_entry_eq]
  generalize (lg_sl ([.ref d, .int sv, .ref ou]) ++ List.replicate (4 - (lg_sl ([.ref d, .int sv, .ref ou])).length) Slot.unset).toArray = ls at hl ⊢
  have hl : lv_has ls 4 [(0, .ref d), (1, .int sv), (2, .ref ou)] := hl
  obtain ⟨fs0, hd0⟩ := hR.obj
  have hd : g d = some (.inr (4, fs0)) := (hJ.1 _ _).mpr (Or.inl hd0)
  refine lv_aload_n hx hb d_La_keep_0 rfl (lv_at hl 2 rfl) ?_
  refine lv_iconst (v := 0) hx hb d_La_keep_1 (by decide) ?_
  refine lv_aload_n hx hb d_La_keep_2 rfl (lv_at hl 0 rfl) ?_
  refine lv_iload_n hx hb d_La_keep_3 rfl (lv_at hl 1 rfl) ?_
  refine w_callV (As := [.int sv]) (C := R_De) ⟨hx, hb, hml, hown, hts⟩ (x_join hJ (c_De_keep l hst D cK cI cN cZ cL g0 _ a cn d sv hw hcn hR)) (x_cb (cwV (own := R_La) (index := 55) (C := R_De) 1 hts (x_gi (by decide +kernel)) rfl rfl rfl (by decide +kernel) ⟨by decide, by decide⟩).1) (hts (.instanceMethod y_De_keep) (by decide +kernel)) (hts (.selects R_De y_De_keep y_De_keep) (by decide +kernel)) (y_recv (ci := 4) (q := (R_De, F_De, 11)) hK hP rfl hd) hE hP hA hA0 hS rfl hl.1 rfl (lv_room (Nat.le_of_ble_eq_true rfl)) d_La_keep_4 (by first | decide | omega) (by first | decide | omega) (fun v9 g9 H locs hq9 hP hA hS => ?_) (fun E9 q9 ce9 g9 H locs hq9 hP hA hS z1 z2 z3 => ?_)
  · skip
    obtain ⟨gn, ⟨ho, hRn⟩, hJn⟩ := hq9
    obtain ⟨hs0, hv9⟩ := ho.ret
    obtain ⟨x9, hx9⟩ := l_keep (a := a) sv hs0
    rw [hx9] at hv9
    subst hv9
    refine W.eq (g2 := F0 m 7 ls [.int x9, .int 0, .ref ou]) rfl ?_
    refine lv_i2l hx hb d_La_keep_7 rfl ?_
    refine y_last (x := x9.toInt64) hx hb hK hP hA hS 4 hJn.out rfl l_in0 d_La_keep_8 (fun H locs hP hA hS => ?_)
    refine lv_goto hx hb d_La_keep_9 rfl ?_
    refine lv_iconst (v := 0) hx hb d_La_keep_18 (by decide) ?_
    refine W.widen (k := 6) (n := 60) (by first | decide | omega) (by first | decide | omega) ?_
    exact x_ret (W.iret (v := 0) hx hb hr (w_fin rfl hAe (l_okI hs0 hx9 (l_upd _ _) rfl (hJn.up _) hRn) hP hA hS) hS.2.2 d_La_keep_19)
  · skip
    obtain ⟨gn, ⟨ho, hRn⟩, hJn⟩ := hq9
    rcases x_thr2 ho with ⟨hs0, hE0⟩ | ⟨hs0, hE0⟩
    · skip
      subst hE0
      refine x_catch (E := xIAE) (name := "java/lang/IllegalArgumentException") hown [] ⟨0, 9, 12, 13⟩ [⟨0, 9, 15, 23⟩] (htb.trans rfl) (fun _ h => absurd h List.not_mem_nil) (by decide) (by decide) (hts (.classLink R_La 13 "java/lang/IllegalArgumentException") (by decide +kernel)) (va_Nw.use rfl (hE.1.2.2.1 (.castable "java/lang/IllegalArgumentException" "java/lang/IllegalArgumentException") (by decide +kernel))) z1 z2 z3 ?_
      refine W.eq (g2 := F0 m 12 ls [.ref q9]) rfl ?_
      refine lv_astore_n hx hb d_La_keep_12 rfl hl (by decide) rfl (fun ls hl => ?_)
      have hl : lv_has ls 4 [(3, .ref q9), (0, .ref d), (1, .int sv), (2, .ref ou)] := hl
      refine lv_iconst (v := 1) hx hb d_La_keep_13 (by decide) ?_
      refine W.widen (k := 6) (n := 60) (by first | decide | omega) (by first | decide | omega) ?_
      exact x_ret (W.iret (v := 1) hx hb hr (w_fin rfl hAe (l_bad (i := 0) hs0 (by decide) rfl hJn hRn) hP hA hS) hS.2.2 d_La_keep_14)
    · skip
      subst hE0
      refine x_catch (E := xISE) (name := "java/lang/IllegalStateException") hown [⟨0, 9, 12, 13⟩] ⟨0, 9, 15, 23⟩ [] (htb.trans rfl) (List.forall_mem_cons.mpr ⟨Or.inr ⟨by decide, _, (hts (.classLink R_La 13 "java/lang/IllegalArgumentException") (by decide +kernel)), hE.1.2.2.2.2.1 ("java/lang/IllegalStateException", "java/lang/IllegalArgumentException") (by decide)⟩, fun _ h => absurd h List.not_mem_nil⟩) (by decide) (by decide) (hts (.classLink R_La 23 "java/lang/IllegalStateException") (by decide +kernel)) (va_Nw.use rfl (hE.1.2.2.1 (.castable "java/lang/IllegalStateException" "java/lang/IllegalStateException") (by decide +kernel))) z1 z2 z3 ?_
      refine W.eq (g2 := F0 m 15 ls [.ref q9]) rfl ?_
      refine lv_astore_n hx hb d_La_keep_15 rfl hl (by decide) rfl (fun ls hl => ?_)
      have hl : lv_has ls 4 [(3, .ref q9), (0, .ref d), (1, .int sv), (2, .ref ou)] := hl
      refine lv_iconst (v := 2) hx hb d_La_keep_16 (by decide) ?_
      refine W.widen (k := 6) (n := 60) (by first | decide | omega) (by first | decide | omega) ?_
      exact x_ret (W.iret (v := 2) hx hb hr (w_fin rfl hAe (l_bad (i := 1) hs0 (by decide) rfl hJn hRn) hP hA hS) hS.2.2 d_La_keep_17)
set_option maxHeartbeats 4000000 in
set_option maxRecDepth 100000 in
/-- the law's number -/
theorem c_La_number (l : Launch) (hst : l.stackTraces = false) (D : va_G) (cK cI cN cZ cL : ClassId) (g0 g : y_G) (ou : Nat) (f : Nat → Int64) (sz : Nat) (a : Ab) (cn d : Nat) (sv : Int32) (hw : a_W a cn) (hcn : cn < 2 ^ 30) (hR : c_R cK cI a g0 d cn) (hJ : y_J g0 (o_1 cL ou f) g) : x_M l y_La_number [.codeWith y_La_number b_La_number 4 (some .int) [(0, 9, 12, 13), (0, 9, 15, 23)]] rmB (w_Pc D (x_tys cK cI cN cZ cL) [.ref d, .int sv, .ref ou] g sz) (w_Qc D g sz (l_W cK cI cL ou d cn (s_number a sv))) 6 60 (y_A g sz) := by
  refine x_ofWH (cc := b_La_number) (maxL := 4) (ret := (some .int)) (hs := [(0, 9, 12, 13), (0, 9, 15, 23)]) (by decide) rfl ?_
  intro p e s m args below meth c s₁ B hml htb hv
  obtain ⟨rfl, hsz, hP, hE⟩ := hv
  subst hsz
  have hts := hE.hts ([.ref d, .int sv, .ref ou] : List Value).toArray
  have hK := hE.1.2.1
  have hA0 : ∀ q, s.heap.size ≤ q → y_A g s.heap.size q := fun q h => Or.inr h
  have hA : ∀ q e, g q = some e → y_A g s.heap.size q := fun q e h => Or.inl (by rw [h]; exact fun z => nomatch z)
  have hS : va_S (y_A g s.heap.size) s.heap s.heap [] := va_S.rf
  generalize hAe : y_A g s.heap.size = A at hE hA0 hA hS ⊢
  have hx := B.exec
  have hb := B.bytes
  have hr := B.returns
  have hlocks := B.notSynchronized
  have hown : s.vm.findClass R_La = some m.cls := findClass_of_methodNamed B.named
  have hl := lv_entry ([.ref d, .int sv, .ref ou]) (n := 4) (Nat.le_of_ble_eq_true rfl)
  rw [lg_entry_eq]
  generalize (lg_sl ([.ref d, .int sv, .ref ou]) ++ List.replicate (4 - (lg_sl ([.ref d, .int sv, .ref ou])).length) Slot.unset).toArray = ls at hl ⊢
  have hl : lv_has ls 4 [(0, .ref d), (1, .int sv), (2, .ref ou)] := hl
  obtain ⟨fs0, hd0⟩ := hR.obj
  have hd : g d = some (.inr (4, fs0)) := (hJ.1 _ _).mpr (Or.inl hd0)
  refine lv_aload_n hx hb d_La_number_0 rfl (lv_at hl 2 rfl) ?_
  refine lv_iconst (v := 0) hx hb d_La_number_1 (by decide) ?_
  refine lv_aload_n hx hb d_La_number_2 rfl (lv_at hl 0 rfl) ?_
  refine lv_iload_n hx hb d_La_number_3 rfl (lv_at hl 1 rfl) ?_
  refine w_callV (As := [.int sv]) (C := R_De) ⟨hx, hb, hml, hown, hts⟩ (x_join hJ (c_De_number l hst D cK cI cN cZ cL g0 _ a cn d sv hw hcn hR)) (x_cb (cwV (own := R_La) (index := 59) (C := R_De) 1 hts (x_gi (by decide +kernel)) rfl rfl rfl (by decide +kernel) ⟨by decide, by decide⟩).1) (hts (.instanceMethod y_De_number) (by decide +kernel)) (hts (.selects R_De y_De_number y_De_number) (by decide +kernel)) (y_recv (ci := 4) (q := (R_De, F_De, 11)) hK hP rfl hd) hE hP hA hA0 hS rfl hl.1 rfl (lv_room (Nat.le_of_ble_eq_true rfl)) d_La_number_4 (by first | decide | omega) (by first | decide | omega) (fun v9 g9 H locs hq9 hP hA hS => ?_) (fun E9 q9 ce9 g9 H locs hq9 hP hA hS z1 z2 z3 => ?_)
  · skip
    obtain ⟨gn, ⟨ho, hRn⟩, hJn⟩ := hq9
    obtain ⟨hs0, hv9⟩ := ho.ret
    obtain ⟨x9, hx9⟩ := l_number (a := a) sv hs0
    rw [hx9] at hv9
    subst hv9
    refine W.eq (g2 := F0 m 7 ls [.int x9, .int 0, .ref ou]) rfl ?_
    refine lv_i2l hx hb d_La_number_7 rfl ?_
    refine y_last (x := x9.toInt64) hx hb hK hP hA hS 4 hJn.out rfl l_in0 d_La_number_8 (fun H locs hP hA hS => ?_)
    refine lv_goto hx hb d_La_number_9 rfl ?_
    refine lv_iconst (v := 0) hx hb d_La_number_18 (by decide) ?_
    refine W.widen (k := 6) (n := 60) (by first | decide | omega) (by first | decide | omega) ?_
    exact x_ret (W.iret (v := 0) hx hb hr (w_fin rfl hAe (l_okI hs0 hx9 (l_upd _ _) rfl (hJn.up _) hRn) hP hA hS) hS.2.2 d_La_number_19)
  · skip
    obtain ⟨gn, ⟨ho, hRn⟩, hJn⟩ := hq9
    rcases x_thr2 ho with ⟨hs0, hE0⟩ | ⟨hs0, hE0⟩
    · skip
      subst hE0
      refine x_catch (E := xIAE) (name := "java/lang/IllegalArgumentException") hown [] ⟨0, 9, 12, 13⟩ [⟨0, 9, 15, 23⟩] (htb.trans rfl) (fun _ h => absurd h List.not_mem_nil) (by decide) (by decide) (hts (.classLink R_La 13 "java/lang/IllegalArgumentException") (by decide +kernel)) (va_Nw.use rfl (hE.1.2.2.1 (.castable "java/lang/IllegalArgumentException" "java/lang/IllegalArgumentException") (by decide +kernel))) z1 z2 z3 ?_
      refine W.eq (g2 := F0 m 12 ls [.ref q9]) rfl ?_
      refine lv_astore_n hx hb d_La_number_12 rfl hl (by decide) rfl (fun ls hl => ?_)
      have hl : lv_has ls 4 [(3, .ref q9), (0, .ref d), (1, .int sv), (2, .ref ou)] := hl
      refine lv_iconst (v := 1) hx hb d_La_number_13 (by decide) ?_
      refine W.widen (k := 6) (n := 60) (by first | decide | omega) (by first | decide | omega) ?_
      exact x_ret (W.iret (v := 1) hx hb hr (w_fin rfl hAe (l_bad (i := 0) hs0 (by decide) rfl hJn hRn) hP hA hS) hS.2.2 d_La_number_14)
    · skip
      subst hE0
      refine x_catch (E := xISE) (name := "java/lang/IllegalStateException") hown [⟨0, 9, 12, 13⟩] ⟨0, 9, 15, 23⟩ [] (htb.trans rfl) (List.forall_mem_cons.mpr ⟨Or.inr ⟨by decide, _, (hts (.classLink R_La 13 "java/lang/IllegalArgumentException") (by decide +kernel)), hE.1.2.2.2.2.1 ("java/lang/IllegalStateException", "java/lang/IllegalArgumentException") (by decide)⟩, fun _ h => absurd h List.not_mem_nil⟩) (by decide) (by decide) (hts (.classLink R_La 23 "java/lang/IllegalStateException") (by decide +kernel)) (va_Nw.use rfl (hE.1.2.2.1 (.castable "java/lang/IllegalStateException" "java/lang/IllegalStateException") (by decide +kernel))) z1 z2 z3 ?_
      refine W.eq (g2 := F0 m 15 ls [.ref q9]) rfl ?_
      refine lv_astore_n hx hb d_La_number_15 rfl hl (by decide) rfl (fun ls hl => ?_)
      have hl : lv_has ls 4 [(3, .ref q9), (0, .ref d), (1, .int sv), (2, .ref ou)] := hl
      refine lv_iconst (v := 2) hx hb d_La_number_16 (by decide) ?_
      refine W.widen (k := 6) (n := 60) (by first | decide | omega) (by first | decide | omega) ?_
      exact x_ret (W.iret (v := 2) hx hb hr (w_fin rfl hAe (l_bad (i := 1) hs0 (by decide) rfl hJn hRn) hP hA hS) hS.2.2 d_La_number_17)
set_option maxHeartbeats 4000000 in
set_option maxRecDepth 100000 in
/-- the law's size -/
theorem c_La_size (l : Launch) (hst : l.stackTraces = false) (D : va_G) (cK cI cN cZ cL : ClassId) (g0 g : y_G) (ou : Nat) (f : Nat → Int64) (sz : Nat) (a : Ab) (cn d : Nat) (sv : Int32) (hw : a_W a cn) (hcn : cn < 2 ^ 30) (hR : c_R cK cI a g0 d cn) (hJ : y_J g0 (o_1 cL ou f) g) : x_M l y_La_size [.codeWith y_La_size b_La_size 4 (some .int) [(0, 9, 12, 13), (0, 9, 15, 23)]] rmB (w_Pc D (x_tys cK cI cN cZ cL) [.ref d, .int sv, .ref ou] g sz) (w_Qc D g sz (l_W cK cI cL ou d cn (s_size a sv))) 6 60 (y_A g sz) := by
  refine x_ofWH (cc := b_La_size) (maxL := 4) (ret := (some .int)) (hs := [(0, 9, 12, 13), (0, 9, 15, 23)]) (by decide) rfl ?_
  intro p e s m args below meth c s₁ B hml htb hv
  obtain ⟨rfl, hsz, hP, hE⟩ := hv
  subst hsz
  have hts := hE.hts ([.ref d, .int sv, .ref ou] : List Value).toArray
  have hK := hE.1.2.1
  have hA0 : ∀ q, s.heap.size ≤ q → y_A g s.heap.size q := fun q h => Or.inr h
  have hA : ∀ q e, g q = some e → y_A g s.heap.size q := fun q e h => Or.inl (by rw [h]; exact fun z => nomatch z)
  have hS : va_S (y_A g s.heap.size) s.heap s.heap [] := va_S.rf
  generalize hAe : y_A g s.heap.size = A at hE hA0 hA hS ⊢
  have hx := B.exec
  have hb := B.bytes
  have hr := B.returns
  have hlocks := B.notSynchronized
  have hown : s.vm.findClass R_La = some m.cls := findClass_of_methodNamed B.named
  have hl := lv_entry ([.ref d, .int sv, .ref ou]) (n := 4) (Nat.le_of_ble_eq_true rfl)
  rw [lg_entry_eq]
  generalize (lg_sl ([.ref d, .int sv, .ref ou]) ++ List.replicate (4 - (lg_sl ([.ref d, .int sv, .ref ou])).length) Slot.unset).toArray = ls at hl ⊢
  have hl : lv_has ls 4 [(0, .ref d), (1, .int sv), (2, .ref ou)] := hl
  obtain ⟨fs0, hd0⟩ := hR.obj
  have hd : g d = some (.inr (4, fs0)) := (hJ.1 _ _).mpr (Or.inl hd0)
  refine lv_aload_n hx hb d_La_size_0 rfl (lv_at hl 2 rfl) ?_
  refine lv_iconst (v := 0) hx hb d_La_size_1 (by decide) ?_
  refine lv_aload_n hx hb d_La_size_2 rfl (lv_at hl 0 rfl) ?_
  refine lv_iload_n hx hb d_La_size_3 rfl (lv_at hl 1 rfl) ?_
  refine w_callV (As := [.int sv]) (C := R_De) ⟨hx, hb, hml, hown, hts⟩ (x_join hJ (c_De_size l hst D cK cI cN cZ cL g0 _ a cn d sv hw hcn hR)) (x_cb (cwV (own := R_La) (index := 62) (C := R_De) 1 hts (x_gi (by decide +kernel)) rfl rfl rfl (by decide +kernel) ⟨by decide, by decide⟩).1) (hts (.instanceMethod y_De_size) (by decide +kernel)) (hts (.selects R_De y_De_size y_De_size) (by decide +kernel)) (y_recv (ci := 4) (q := (R_De, F_De, 11)) hK hP rfl hd) hE hP hA hA0 hS rfl hl.1 rfl (lv_room (Nat.le_of_ble_eq_true rfl)) d_La_size_4 (by first | decide | omega) (by first | decide | omega) (fun v9 g9 H locs hq9 hP hA hS => ?_) (fun E9 q9 ce9 g9 H locs hq9 hP hA hS z1 z2 z3 => ?_)
  · skip
    obtain ⟨gn, ⟨ho, hRn⟩, hJn⟩ := hq9
    obtain ⟨hs0, hv9⟩ := ho.ret
    obtain ⟨x9, hx9⟩ := l_size (a := a) sv hs0
    rw [hx9] at hv9
    subst hv9
    refine W.eq (g2 := F0 m 7 ls [.int x9, .int 0, .ref ou]) rfl ?_
    refine lv_i2l hx hb d_La_size_7 rfl ?_
    refine y_last (x := x9.toInt64) hx hb hK hP hA hS 4 hJn.out rfl l_in0 d_La_size_8 (fun H locs hP hA hS => ?_)
    refine lv_goto hx hb d_La_size_9 rfl ?_
    refine lv_iconst (v := 0) hx hb d_La_size_18 (by decide) ?_
    refine W.widen (k := 6) (n := 60) (by first | decide | omega) (by first | decide | omega) ?_
    exact x_ret (W.iret (v := 0) hx hb hr (w_fin rfl hAe (l_okI hs0 hx9 (l_upd _ _) rfl (hJn.up _) hRn) hP hA hS) hS.2.2 d_La_size_19)
  · skip
    obtain ⟨gn, ⟨ho, hRn⟩, hJn⟩ := hq9
    rcases x_thr2 ho with ⟨hs0, hE0⟩ | ⟨hs0, hE0⟩
    · skip
      subst hE0
      refine x_catch (E := xIAE) (name := "java/lang/IllegalArgumentException") hown [] ⟨0, 9, 12, 13⟩ [⟨0, 9, 15, 23⟩] (htb.trans rfl) (fun _ h => absurd h List.not_mem_nil) (by decide) (by decide) (hts (.classLink R_La 13 "java/lang/IllegalArgumentException") (by decide +kernel)) (va_Nw.use rfl (hE.1.2.2.1 (.castable "java/lang/IllegalArgumentException" "java/lang/IllegalArgumentException") (by decide +kernel))) z1 z2 z3 ?_
      refine W.eq (g2 := F0 m 12 ls [.ref q9]) rfl ?_
      refine lv_astore_n hx hb d_La_size_12 rfl hl (by decide) rfl (fun ls hl => ?_)
      have hl : lv_has ls 4 [(3, .ref q9), (0, .ref d), (1, .int sv), (2, .ref ou)] := hl
      refine lv_iconst (v := 1) hx hb d_La_size_13 (by decide) ?_
      refine W.widen (k := 6) (n := 60) (by first | decide | omega) (by first | decide | omega) ?_
      exact x_ret (W.iret (v := 1) hx hb hr (w_fin rfl hAe (l_bad (i := 0) hs0 (by decide) rfl hJn hRn) hP hA hS) hS.2.2 d_La_size_14)
    · skip
      subst hE0
      refine x_catch (E := xISE) (name := "java/lang/IllegalStateException") hown [⟨0, 9, 12, 13⟩] ⟨0, 9, 15, 23⟩ [] (htb.trans rfl) (List.forall_mem_cons.mpr ⟨Or.inr ⟨by decide, _, (hts (.classLink R_La 13 "java/lang/IllegalArgumentException") (by decide +kernel)), hE.1.2.2.2.2.1 ("java/lang/IllegalStateException", "java/lang/IllegalArgumentException") (by decide)⟩, fun _ h => absurd h List.not_mem_nil⟩) (by decide) (by decide) (hts (.classLink R_La 23 "java/lang/IllegalStateException") (by decide +kernel)) (va_Nw.use rfl (hE.1.2.2.1 (.castable "java/lang/IllegalStateException" "java/lang/IllegalStateException") (by decide +kernel))) z1 z2 z3 ?_
      refine W.eq (g2 := F0 m 15 ls [.ref q9]) rfl ?_
      refine lv_astore_n hx hb d_La_size_15 rfl hl (by decide) rfl (fun ls hl => ?_)
      have hl : lv_has ls 4 [(3, .ref q9), (0, .ref d), (1, .int sv), (2, .ref ou)] := hl
      refine lv_iconst (v := 2) hx hb d_La_size_16 (by decide) ?_
      refine W.widen (k := 6) (n := 60) (by first | decide | omega) (by first | decide | omega) ?_
      exact x_ret (W.iret (v := 2) hx hb hr (w_fin rfl hAe (l_bad (i := 1) hs0 (by decide) rfl hJn hRn) hP hA hS) hS.2.2 d_La_size_17)
end LWr43
