/-! the reference: make -/
theorem m_moreP {q : Int32 × Int32 × Int32} {n : Int32} (hk : a_kin q) (h : q.1 < 0) : m_tk q.1 q.2.1.toInt64 = lN (a_more q n) ∧ a_more q n < 2 ^ 33 := by
  obtain ⟨w, m, w1, m1, e1, e2⟩ := hk.neg h
  refine ⟨?_, (f_wdP (n := n) hk h).2⟩
  unfold a_more
  rw [if_pos h, e1, nI_l (by omega), m_takes (by omega), show j_n (nI w) = w from nI_clamp (by omega)]
theorem m_moreR {q : Int32 × Int32 × Int32} {n : Int32} (hk : a_kin q) (h : ¬ q.1 < 0) (hn : ¬ n < 0) : m_tk q.1 n.toInt64 = lN (a_more q n) ∧ a_more q n < 2 ^ 33 := by
  refine ⟨?_, (f_wdR hk h hn).2⟩
  obtain ⟨j, hj, rfl⟩ := nI_of hn
  unfold a_more
  rw [if_neg h, nI_l hj, m_takes hj, show j_n (nI j) = j from nI_clamp hj]
set_option maxHeartbeats 4000000 in
set_option maxRecDepth 100000 in
/-- make(s, k, n) -/
theorem c_Mo_make (l : Launch) (D : va_G) (cK cI cN cZ cL : ClassId) (r : Nat → Nat) (hri : m_inj r) (S : MS) (sz : Nat) (a : Ab) (cn : Nat) (sv k n : Int32) (hw : a_W a cn) (hc : cn ≤ 512) (hR : m_R a S cn) (hu : a_use a ≤ 65536) : x_M l y_Mo_make [.code y_Mo_make b_Mo_make 6 (some .int)] rmV (w_Pc D (x_tys cK cI cN cZ cL) [.ref (r 20), .int sv, .int k, .int n] (m_w r cN cZ cL S) sz) (w_Qc D (m_w r cN cZ cL S) sz (fun r9 g9 => m_aI (s_make a sv k n) r9 ∧ m_E r cN cZ cL (s_make a sv k n) cn g9)) 0 0 (y_A (m_w r cN cZ cL S) sz) := by
  refine x_ofW (cc := b_Mo_make) (maxL := 6) (ret := (some .int)) (by decide) rfl ?_
  intro p e s m args below meth c s₁ B hml hno hv
  obtain ⟨rfl, hsz, hP, hE⟩ := hv
  subst hsz
  have hts := hE.hts ([.ref (r 20), .int sv, .int k, .int n] : List Value).toArray
  have hK := hE.1.2.1
  have hA0 : ∀ q, s.heap.size ≤ q → y_A (m_w r cN cZ cL S) s.heap.size q := fun q h => Or.inr h
  have hA : ∀ q e, (m_w r cN cZ cL S) q = some e → y_A (m_w r cN cZ cL S) s.heap.size q := fun q e h => Or.inl (by rw [h]; exact fun z => nomatch z)
  have hS : va_S (y_A (m_w r cN cZ cL S) s.heap.size) s.heap s.heap [] := va_S.rf
  generalize hAe : y_A (m_w r cN cZ cL S) s.heap.size = A at hE hA0 hA hS ⊢
  have hx := B.exec
  have hb := B.bytes
  have hr := B.returns
  have hlocks := B.notSynchronized
  have hown : s.vm.findClass R_Mo = some m.cls := findClass_of_methodNamed B.named
  have hl := lv_entry ([.ref (r 20), .int sv, .int k, .int n]) (n := 6) (Nat.le_of_ble_eq_true rfl)
  rw [lg_entry_eq]
  generalize (lg_sl ([.ref (r 20), .int sv, .int k, .int n]) ++ List.replicate (6 - (lg_sl ([.ref (r 20), .int sv, .int k, .int n])).length) Slot.unset).toArray = ls at hl ⊢
  have hl : lv_has ls 6 [(0, .ref (r 20)), (1, .int sv), (2, .int k), (3, .int n)] := hl
  have hR0 := hR
  have hn : a.n ≤ cn := hw.2.2.2.2.2.2.2.2.2.1
  have hmm : a.mem ≤ 65536 := hw.2.2.2.2.2.2.2.2.1
  obtain ⟨r1, ⟨r2, r3, r4, r5⟩, r6, r7, r8, r9, r10, en, r11, r12, r13, r14⟩ := hR
  refine lv_aload_n hx hb d_Mo_make_0 rfl (lv_at hl 0 rfl) ?_
  refine lv_iconst (v := 0) hx hb d_Mo_make_1 (by decide) ?_
  refine y_put (D := D) (ci := 5) (v := .int 0) (ty := .int) (C := R_Mo) (T := F_Mo) (N := 20) hx hb hts in_Mo t_Mo t_Mo_ok n_Mo hown hK hP hA hS (m_at hri (i := 20) (by decide)) rfl 10 (by decide) (hts (.fieldLink R_Mo 59 "MemoryDeskModel" "err" "I") (by decide +kernel)) (fun _ h9 => h9) rfl (by decide +kernel) rfl rfl (Nat.le_of_ble_eq_true rfl) d_Mo_make_2 (fun H locs hP hA hS => ?_)
  have e9 : va_up (m_w r cN cZ cL S) (r 20) (some (.inr (5, [.ref (r 0), .ref (r 1), .ref (r 2), .ref (r 3), .ref (r 4), .ref (r 5), .ref (r 6), .int (S.2.2 7), .int (S.2.2 8), .int (S.2.2 9), .int 0, .ref (r 11), .ref (r 12), .ref (r 13), .int (S.2.2 14), .ref (r 15), .ref (r 16), .ref (r 17), .ref (r 18), .int (S.2.2 19)]))) = (m_w r cN cZ cL (m_s S 10 0)) := m_ws10 hri S 0
  have hP : y_P D vwCl (m_w r cN cZ cL (m_s S 10 0)) H := by rw [← e9]; exact hP
  have hA : ∀ q99 e99, (m_w r cN cZ cL (m_s S 10 0)) q99 = some e99 → A q99 := by rw [← e9]; exact hA
  refine lv_aload_n hx hb d_Mo_make_5 rfl (lv_at hl 0 rfl) ?_
  refine lv_iload_n hx hb d_Mo_make_6 rfl (lv_at hl 1 rfl) ?_
  refine lv_bipush (v := 31) hx hb d_Mo_make_7 (by decide) ?_
  refine w_callS (As := [.int sv, .int 31]) ⟨hx, hb, hml, hown, hts⟩ (c_Mo_in l D cK cI cN cZ cL r hri (m_s S 10 0) _ sv 31) (x_cb (va_cwS (own := R_Mo) (index := 93) 2 hts (x_gi (by decide +kernel)) rfl rfl rfl (by decide +kernel) ⟨by decide, by decide⟩).1) (hts (.static y_Mo_in) (by decide +kernel)) hE hP hA hA0 hS rfl hl.1 rfl (lv_room (Nat.le_of_ble_eq_true rfl)) d_Mo_make_9 (by first | decide | omega) (by first | decide | omega) (fun v9 g9 H locs hq9 hP hA hS => ?_) (fun E9 q9 ce9 g9 H locs hq9 hP hA hS z1 z2 z3 => ?_)
  rotate_left
  · exact nomatch hq9.1
  obtain ⟨hv9, hg9⟩ := hq9
  cases hv9
  rw [hg9] at hP hA
  refine W.eq (g2 := F0 m 12 ls [.int (c_bit (¬ sv < 0 ∧ sv ≤ 31)), .ref (r 20)]) rfl ?_
  refine lv_if_eq hx hb d_Mo_make_12 rfl (fun h1 => ?_) (fun h1 => ?_)
  · -- ifeq at 12: to 46
    have hs : ¬ b_in sv 32 := fun z => by have hy_ := h1; rw [c_bit.y (show ¬ sv < 0 ∧ sv ≤ 31 from (b_inI (n := 31) (by decide)).mpr z)] at hy_; exact absurd hy_ (by decide)
    refine lv_iconst (v := 1) hx hb d_Mo_make_46 (by decide) ?_
    refine lv_goto hx hb d_Mo_make_47 rfl ?_
    refine lv_iconst (v := 1) hx hb d_Mo_make_51 (by decide) ?_
    refine w_callV (As := [.int 1, .int 1]) (C := R_Mo) ⟨hx, hb, hml, hown, hts⟩ (c_Mo_fails l D cK cI cN cZ cL r hri (m_s S 10 0) _ 1 1 (by decide)) (x_cb (cwV (own := R_Mo) (index := 96) (C := R_Mo) 2 hts (x_gi (by decide +kernel)) rfl rfl rfl (by decide +kernel) ⟨by decide, by decide⟩).1) (hts (.instanceMethod y_Mo_fails) (by decide +kernel)) (hts (.selects R_Mo y_Mo_fails y_Mo_fails) (by decide +kernel)) (y_recv (ci := 5) (q := (R_Mo, F_Mo, 20)) hK hP rfl (m_at hri (i := 20) (by decide))) hE hP hA hA0 hS rfl hl.1 rfl (lv_room (Nat.le_of_ble_eq_true rfl)) d_Mo_make_52 (by first | decide | omega) (by first | decide | omega) (fun v9 g9 H locs hq9 hP hA hS => ?_) (fun E9 q9 ce9 g9 H locs hq9 hP hA hS z1 z2 z3 => ?_)
    rotate_left
    · rcases hq9 with z | z | z
      · exact nomatch z.2.2.1
      · exact nomatch z.2.1
      · exact nomatch z.2.2.1
    rcases hq9 with ⟨z1, z2, hv9, hg9⟩ | ⟨z1, hv9, hg9⟩ | ⟨z1, z2, hv9, hg9⟩
    · exact absurd z1 (by decide)
    · exact absurd rfl z1
    · cases hv9
      rw [hg9] at hP hA
      refine W.eq (g2 := F0 m 55 ls [.int 1]) rfl ?_
      refine lv_if_ne hx hb d_Mo_make_55 rfl (fun h2 => ?_) (fun h2 => (absurd h2 (by decide)))
      refine lv_iconst (v := 0) hx hb d_Mo_make_80 (by decide) ?_
      refine W.widen (k := 0) (n := 0) (by first | decide | omega) (by first | decide | omega) ?_
      exact x_ret (W.iret (v := 0) hx hb hr (w_fin rfl hAe ⟨m_badI (i := 0) (q_n (fun z => hs z.1)), m_bad (i := 0) (q_n (fun z => hs z.1)) rfl ((hR0.err 0).err 1)⟩ hP hA hS) hS.2.2 d_Mo_make_81)
  · -- ifeq at 12: to 15
    have hs : b_in sv 32 := (b_inI (n := 31) (by decide)).mp (Classical.byContradiction (fun z => h1 (c_bit.n z)))
    refine lv_iload_n hx hb d_Mo_make_15 rfl (lv_at hl 2 rfl) ?_
    refine lv_bipush (v := 15) hx hb d_Mo_make_16 (by decide) ?_
    refine w_callS (As := [.int k, .int 15]) ⟨hx, hb, hml, hown, hts⟩ (c_Mo_in l D cK cI cN cZ cL r hri (m_s S 10 0) _ k 15) (x_cb (va_cwS (own := R_Mo) (index := 93) 2 hts (x_gi (by decide +kernel)) rfl rfl rfl (by decide +kernel) ⟨by decide, by decide⟩).1) (hts (.static y_Mo_in) (by decide +kernel)) hE hP hA hA0 hS rfl hl.1 rfl (lv_room (Nat.le_of_ble_eq_true rfl)) d_Mo_make_18 (by first | decide | omega) (by first | decide | omega) (fun v9 g9 H locs hq9 hP hA hS => ?_) (fun E9 q9 ce9 g9 H locs hq9 hP hA hS z1 z2 z3 => ?_)
    rotate_left
    · exact nomatch hq9.1
    obtain ⟨hv9, hg9⟩ := hq9
    cases hv9
    rw [hg9] at hP hA
    refine W.eq (g2 := F0 m 21 ls [.int (c_bit (¬ k < 0 ∧ k ≤ 15)), .ref (r 20)]) rfl ?_
    refine lv_if_eq hx hb d_Mo_make_21 rfl (fun h3 => ?_) (fun h3 => ?_)
    · -- ifeq at 21: to 46
      have hk : ¬ b_in k 16 := fun z => by have hy_ := h3; rw [c_bit.y (show ¬ k < 0 ∧ k ≤ 15 from (b_inI (n := 15) (by decide)).mpr z)] at hy_; exact absurd hy_ (by decide)
      refine lv_iconst (v := 1) hx hb d_Mo_make_46 (by decide) ?_
      refine lv_goto hx hb d_Mo_make_47 rfl ?_
      refine lv_iconst (v := 1) hx hb d_Mo_make_51 (by decide) ?_
      refine w_callV (As := [.int 1, .int 1]) (C := R_Mo) ⟨hx, hb, hml, hown, hts⟩ (c_Mo_fails l D cK cI cN cZ cL r hri (m_s S 10 0) _ 1 1 (by decide)) (x_cb (cwV (own := R_Mo) (index := 96) (C := R_Mo) 2 hts (x_gi (by decide +kernel)) rfl rfl rfl (by decide +kernel) ⟨by decide, by decide⟩).1) (hts (.instanceMethod y_Mo_fails) (by decide +kernel)) (hts (.selects R_Mo y_Mo_fails y_Mo_fails) (by decide +kernel)) (y_recv (ci := 5) (q := (R_Mo, F_Mo, 20)) hK hP rfl (m_at hri (i := 20) (by decide))) hE hP hA hA0 hS rfl hl.1 rfl (lv_room (Nat.le_of_ble_eq_true rfl)) d_Mo_make_52 (by first | decide | omega) (by first | decide | omega) (fun v9 g9 H locs hq9 hP hA hS => ?_) (fun E9 q9 ce9 g9 H locs hq9 hP hA hS z1 z2 z3 => ?_)
      rotate_left
      · rcases hq9 with z | z | z
        · exact nomatch z.2.2.1
        · exact nomatch z.2.1
        · exact nomatch z.2.2.1
      rcases hq9 with ⟨z1, z2, hv9, hg9⟩ | ⟨z1, hv9, hg9⟩ | ⟨z1, z2, hv9, hg9⟩
      · exact absurd z1 (by decide)
      · exact absurd rfl z1
      · cases hv9
        rw [hg9] at hP hA
        refine W.eq (g2 := F0 m 55 ls [.int 1]) rfl ?_
        refine lv_if_ne hx hb d_Mo_make_55 rfl (fun h4 => ?_) (fun h4 => (absurd h4 (by decide)))
        refine lv_iconst (v := 0) hx hb d_Mo_make_80 (by decide) ?_
        refine W.widen (k := 0) (n := 0) (by first | decide | omega) (by first | decide | omega) ?_
        exact x_ret (W.iret (v := 0) hx hb hr (w_fin rfl hAe ⟨m_badI (i := 0) (q_n (fun z => hk z.2.1)), m_bad (i := 0) (q_n (fun z => hk z.2.1)) rfl ((hR0.err 0).err 1)⟩ hP hA hS) hS.2.2 d_Mo_make_81)
    · -- ifeq at 21: to 24
      have hk : b_in k 16 := (b_inI (n := 15) (by decide)).mp (Classical.byContradiction (fun z => h3 (c_bit.n z)))
      refine lv_aload_n hx hb d_Mo_make_24 rfl (lv_at hl 0 rfl) ?_
      refine y_get (D := D) (ci := 5) (v := .ref (r 3)) (C := R_Mo) (T := F_Mo) (N := 20) hx hb hts in_Mo hown hK hP (m_at hri (i := 20) (by decide)) rfl 3 (by decide) (hts (.fieldLink R_Mo 19 "MemoryDeskModel" "defined" "[Z") (by decide +kernel)) (fun _ h9 => h9) rfl d_Mo_make_25 ?_
      refine lv_iload_n hx hb d_Mo_make_28 rfl (lv_at hl 2 rfl) ?_
      refine y_zald (f := (S.1 3)) hx hb hK hP 3 (m_at hri (i := 3) (by decide)) rfl hk.v16 d_Mo_make_29 ?_
      rcases r1 (j_n k) hk.j16 with ⟨hkd, hdf⟩ | ⟨q, hkd, hdf, hrw, hwm⟩
      · rw [hdf]
        refine lv_if_eq hx hb d_Mo_make_30 rfl (fun h5 => ?_) (fun h5 => (absurd rfl h5))
        refine lv_iconst (v := 0) hx hb d_Mo_make_50 (by decide) ?_
        refine lv_iconst (v := 1) hx hb d_Mo_make_51 (by decide) ?_
        refine w_callV (As := [.int 0, .int 1]) (C := R_Mo) ⟨hx, hb, hml, hown, hts⟩ (c_Mo_fails l D cK cI cN cZ cL r hri (m_s S 10 0) _ 0 1 (by decide)) (x_cb (cwV (own := R_Mo) (index := 96) (C := R_Mo) 2 hts (x_gi (by decide +kernel)) rfl rfl rfl (by decide +kernel) ⟨by decide, by decide⟩).1) (hts (.instanceMethod y_Mo_fails) (by decide +kernel)) (hts (.selects R_Mo y_Mo_fails y_Mo_fails) (by decide +kernel)) (y_recv (ci := 5) (q := (R_Mo, F_Mo, 20)) hK hP rfl (m_at hri (i := 20) (by decide))) hE hP hA hA0 hS rfl hl.1 rfl (lv_room (Nat.le_of_ble_eq_true rfl)) d_Mo_make_52 (by first | decide | omega) (by first | decide | omega) (fun v9 g9 H locs hq9 hP hA hS => ?_) (fun E9 q9 ce9 g9 H locs hq9 hP hA hS z1 z2 z3 => ?_)
        rotate_left
        · rcases hq9 with z | z | z
          · exact nomatch z.2.2.1
          · exact nomatch z.2.1
          · exact nomatch z.2.2.1
        rcases hq9 with ⟨z1, z2, hv9, hg9⟩ | ⟨z1, hv9, hg9⟩ | ⟨z1, z2, hv9, hg9⟩
        · cases hv9
          rw [hg9] at hP hA
          refine W.eq (g2 := F0 m 55 ls [.int 0]) rfl ?_
          refine lv_if_ne hx hb d_Mo_make_55 rfl (fun h6 => (absurd rfl h6)) (fun h6 => ?_)
          refine lv_aload_n hx hb d_Mo_make_58 rfl (lv_at hl 0 rfl) ?_
          refine lv_aload_n hx hb d_Mo_make_59 rfl (lv_at hl 0 rfl) ?_
          refine y_get (D := D) (ci := 5) (v := .ref (r 3)) (C := R_Mo) (T := F_Mo) (N := 20) hx hb hts in_Mo hown hK hP (m_at hri (i := 20) (by decide)) rfl 3 (by decide) (hts (.fieldLink R_Mo 19 "MemoryDeskModel" "defined" "[Z") (by decide +kernel)) (fun _ h9 => h9) rfl d_Mo_make_60 ?_
          refine lv_iload_n hx hb d_Mo_make_63 rfl (lv_at hl 2 rfl) ?_
          refine y_zald (f := (S.1 3)) hx hb hK hP 3 (m_at hri (i := 3) (by decide)) rfl hk.v16 d_Mo_make_64 ?_
          rw [hdf]
          refine lv_if_ne hx hb d_Mo_make_65 rfl (fun h7 => (absurd rfl h7)) (fun h7 => ?_)
          refine lv_iconst (v := 1) hx hb d_Mo_make_68 (by decide) ?_
          refine lv_goto hx hb d_Mo_make_69 rfl ?_
          refine lv_iconst (v := 2) hx hb d_Mo_make_73 (by decide) ?_
          refine w_callV (As := [.int 1, .int 2]) (C := R_Mo) ⟨hx, hb, hml, hown, hts⟩ (c_Mo_fails l D cK cI cN cZ cL r hri (m_s S 10 0) _ 1 2 (by decide)) (x_cb (cwV (own := R_Mo) (index := 96) (C := R_Mo) 2 hts (x_gi (by decide +kernel)) rfl rfl rfl (by decide +kernel) ⟨by decide, by decide⟩).1) (hts (.instanceMethod y_Mo_fails) (by decide +kernel)) (hts (.selects R_Mo y_Mo_fails y_Mo_fails) (by decide +kernel)) (y_recv (ci := 5) (q := (R_Mo, F_Mo, 20)) hK hP rfl (m_at hri (i := 20) (by decide))) hE hP hA hA0 hS rfl hl.1 rfl (lv_room (Nat.le_of_ble_eq_true rfl)) d_Mo_make_74 (by first | decide | omega) (by first | decide | omega) (fun v9 g9 H locs hq9 hP hA hS => ?_) (fun E9 q9 ce9 g9 H locs hq9 hP hA hS z1 z2 z3 => ?_)
          rotate_left
          · rcases hq9 with z | z | z
            · exact nomatch z.2.2.1
            · exact nomatch z.2.1
            · exact nomatch z.2.2.1
          rcases hq9 with ⟨z1, z2, hv9, hg9⟩ | ⟨z1, hv9, hg9⟩ | ⟨z1, z2, hv9, hg9⟩
          · exact absurd z1 (by decide)
          · exact absurd rfl z1
          · cases hv9
            rw [hg9] at hP hA
            refine W.eq (g2 := F0 m 77 ls [.int 1]) rfl ?_
            refine lv_if_eq hx hb d_Mo_make_77 rfl (fun h8 => (absurd h8 (by decide))) (fun h8 => ?_)
            refine lv_iconst (v := 0) hx hb d_Mo_make_80 (by decide) ?_
            refine W.widen (k := 0) (n := 0) (by first | decide | omega) (by first | decide | omega) ?_
            exact x_ret (W.iret (v := 0) hx hb hr (w_fin rfl hAe ⟨m_badI (i := 1) ((q_y ⟨hs, hk, fun q z => by rw [hkd] at z; cases z⟩).trans (by rw [hkd])), m_bad (i := 1) ((q_y ⟨hs, hk, fun q z => by rw [hkd] at z; cases z⟩).trans (by rw [hkd])) rfl ((hR0.err 0).err 2)⟩ hP hA hS) hS.2.2 d_Mo_make_81)
        · exact absurd rfl z1
        · exact absurd rfl z1
      · rw [hdf]
        have hkin := hw.1 _ _ hk.j16 hkd
        refine lv_if_eq hx hb d_Mo_make_30 rfl (fun h9 => (absurd h9 (by decide))) (fun h9 => ?_)
        refine lv_aload_n hx hb d_Mo_make_33 rfl (lv_at hl 0 rfl) ?_
        refine y_get (D := D) (ci := 5) (v := .ref (r 2)) (C := R_Mo) (T := F_Mo) (N := 20) hx hb hts in_Mo hown hK hP (m_at hri (i := 20) (by decide)) rfl 2 (by decide) (hts (.fieldLink R_Mo 16 "MemoryDeskModel" "kindRow" "[I") (by decide +kernel)) (fun _ h9 => h9) rfl d_Mo_make_34 ?_
        refine lv_iload_n hx hb d_Mo_make_37 rfl (lv_at hl 2 rfl) ?_
        refine y_iald (f := (S.1 2)) hx hb hK hP 2 (m_at hri (i := 2) (by decide)) rfl hk.v16 d_Mo_make_38 ?_
        rw [hrw]
        refine lv_if_lt hx hb d_Mo_make_39 rfl (fun h10 => ?_) (fun h10 => ?_)
        · -- iflt at 39: to 50
          have h0 : q.1 < 0 := h10
          obtain ⟨hmo, hm33⟩ := m_moreP (n := n) hkin h0
          have hcond : ∀ q, a.kd (j_n k) = some q → ¬ q.1 < 0 → ¬ n < 0 := fun q z1 z2 => by rw [hkd] at z1; cases z1; exact absurd h0 z2
          refine lv_iconst (v := 0) hx hb d_Mo_make_50 (by decide) ?_
          refine lv_iconst (v := 1) hx hb d_Mo_make_51 (by decide) ?_
          refine w_callV (As := [.int 0, .int 1]) (C := R_Mo) ⟨hx, hb, hml, hown, hts⟩ (c_Mo_fails l D cK cI cN cZ cL r hri (m_s S 10 0) _ 0 1 (by decide)) (x_cb (cwV (own := R_Mo) (index := 96) (C := R_Mo) 2 hts (x_gi (by decide +kernel)) rfl rfl rfl (by decide +kernel) ⟨by decide, by decide⟩).1) (hts (.instanceMethod y_Mo_fails) (by decide +kernel)) (hts (.selects R_Mo y_Mo_fails y_Mo_fails) (by decide +kernel)) (y_recv (ci := 5) (q := (R_Mo, F_Mo, 20)) hK hP rfl (m_at hri (i := 20) (by decide))) hE hP hA hA0 hS rfl hl.1 rfl (lv_room (Nat.le_of_ble_eq_true rfl)) d_Mo_make_52 (by first | decide | omega) (by first | decide | omega) (fun v9 g9 H locs hq9 hP hA hS => ?_) (fun E9 q9 ce9 g9 H locs hq9 hP hA hS z1 z2 z3 => ?_)
          rotate_left
          · rcases hq9 with z | z | z
            · exact nomatch z.2.2.1
            · exact nomatch z.2.1
            · exact nomatch z.2.2.1
          rcases hq9 with ⟨z1, z2, hv9, hg9⟩ | ⟨z1, hv9, hg9⟩ | ⟨z1, z2, hv9, hg9⟩
          · cases hv9
            rw [hg9] at hP hA
            refine W.eq (g2 := F0 m 55 ls [.int 0]) rfl ?_
            refine lv_if_ne hx hb d_Mo_make_55 rfl (fun h11 => (absurd rfl h11)) (fun h11 => ?_)
            refine lv_aload_n hx hb d_Mo_make_58 rfl (lv_at hl 0 rfl) ?_
            refine lv_aload_n hx hb d_Mo_make_59 rfl (lv_at hl 0 rfl) ?_
            refine y_get (D := D) (ci := 5) (v := .ref (r 3)) (C := R_Mo) (T := F_Mo) (N := 20) hx hb hts in_Mo hown hK hP (m_at hri (i := 20) (by decide)) rfl 3 (by decide) (hts (.fieldLink R_Mo 19 "MemoryDeskModel" "defined" "[Z") (by decide +kernel)) (fun _ h9 => h9) rfl d_Mo_make_60 ?_
            refine lv_iload_n hx hb d_Mo_make_63 rfl (lv_at hl 2 rfl) ?_
            refine y_zald (f := (S.1 3)) hx hb hK hP 3 (m_at hri (i := 3) (by decide)) rfl hk.v16 d_Mo_make_64 ?_
            rw [hdf]
            refine lv_if_ne hx hb d_Mo_make_65 rfl (fun h12 => ?_) (fun h12 => (absurd h12 (by decide)))
            refine lv_iconst (v := 0) hx hb d_Mo_make_72 (by decide) ?_
            refine lv_iconst (v := 2) hx hb d_Mo_make_73 (by decide) ?_
            refine w_callV (As := [.int 0, .int 2]) (C := R_Mo) ⟨hx, hb, hml, hown, hts⟩ (c_Mo_fails l D cK cI cN cZ cL r hri (m_s S 10 0) _ 0 2 (by decide)) (x_cb (cwV (own := R_Mo) (index := 96) (C := R_Mo) 2 hts (x_gi (by decide +kernel)) rfl rfl rfl (by decide +kernel) ⟨by decide, by decide⟩).1) (hts (.instanceMethod y_Mo_fails) (by decide +kernel)) (hts (.selects R_Mo y_Mo_fails y_Mo_fails) (by decide +kernel)) (y_recv (ci := 5) (q := (R_Mo, F_Mo, 20)) hK hP rfl (m_at hri (i := 20) (by decide))) hE hP hA hA0 hS rfl hl.1 rfl (lv_room (Nat.le_of_ble_eq_true rfl)) d_Mo_make_74 (by first | decide | omega) (by first | decide | omega) (fun v9 g9 H locs hq9 hP hA hS => ?_) (fun E9 q9 ce9 g9 H locs hq9 hP hA hS z1 z2 z3 => ?_)
            rotate_left
            · rcases hq9 with z | z | z
              · exact nomatch z.2.2.1
              · exact nomatch z.2.1
              · exact nomatch z.2.2.1
            rcases hq9 with ⟨z1, z2, hv9, hg9⟩ | ⟨z1, hv9, hg9⟩ | ⟨z1, z2, hv9, hg9⟩
            · cases hv9
              rw [hg9] at hP hA
              refine W.eq (g2 := F0 m 77 ls [.int 0]) rfl ?_
              refine lv_if_eq hx hb d_Mo_make_77 rfl (fun h13 => ?_) (fun h13 => (absurd rfl h13))
              refine lv_aload_n hx hb d_Mo_make_82 rfl (lv_at hl 0 rfl) ?_
              refine y_get (D := D) (ci := 5) (v := .ref (r 2)) (C := R_Mo) (T := F_Mo) (N := 20) hx hb hts in_Mo hown hK hP (m_at hri (i := 20) (by decide)) rfl 2 (by decide) (hts (.fieldLink R_Mo 16 "MemoryDeskModel" "kindRow" "[I") (by decide +kernel)) (fun _ h9 => h9) rfl d_Mo_make_83 ?_
              refine lv_iload_n hx hb d_Mo_make_86 rfl (lv_at hl 2 rfl) ?_
              refine y_iald (f := (S.1 2)) hx hb hK hP 2 (m_at hri (i := 2) (by decide)) rfl hk.v16 d_Mo_make_87 ?_
              rw [hrw]
              refine lv_aload_n hx hb d_Mo_make_88 rfl (lv_at hl 0 rfl) ?_
              refine y_get (D := D) (ci := 5) (v := .ref (r 2)) (C := R_Mo) (T := F_Mo) (N := 20) hx hb hts in_Mo hown hK hP (m_at hri (i := 20) (by decide)) rfl 2 (by decide) (hts (.fieldLink R_Mo 16 "MemoryDeskModel" "kindRow" "[I") (by decide +kernel)) (fun _ h9 => h9) rfl d_Mo_make_89 ?_
              refine lv_iload_n hx hb d_Mo_make_92 rfl (lv_at hl 2 rfl) ?_
              refine y_iald (f := (S.1 2)) hx hb hK hP 2 (m_at hri (i := 2) (by decide)) rfl hk.v16 d_Mo_make_93 ?_
              rw [hrw]
              refine lv_if_ge hx hb d_Mo_make_94 rfl (fun h14 => (absurd h0 (m_nlt h14))) (fun h14 => ?_)
              refine lv_aload_n hx hb d_Mo_make_97 rfl (lv_at hl 0 rfl) ?_
              refine y_get (D := D) (ci := 5) (v := .ref (r 0)) (C := R_Mo) (T := F_Mo) (N := 20) hx hb hts in_Mo hown hK hP (m_at hri (i := 20) (by decide)) rfl 0 (by decide) (hts (.fieldLink R_Mo 7 "MemoryDeskModel" "kindWords" "[I") (by decide +kernel)) (fun _ h9 => h9) rfl d_Mo_make_98 ?_
              refine lv_iload_n hx hb d_Mo_make_101 rfl (lv_at hl 2 rfl) ?_
              refine y_iald (f := (S.1 0)) hx hb hK hP 2 (m_at hri (i := 0) (by decide)) rfl hk.v16 d_Mo_make_102 ?_
              rw [(hwm h0).1]
              refine lv_i2l hx hb d_Mo_make_103 rfl ?_
              refine lv_goto hx hb d_Mo_make_104 rfl ?_
              refine w_callS (As := [.int q.1, .long q.2.1.toInt64]) ⟨hx, hb, hml, hown, hts⟩ (c_Mo_takes l D cK cI cN cZ cL r hri (m_s S 10 0) _ q.1 q.2.1.toInt64) (x_cb (va_cwS (own := R_Mo) (index := 81) 2 hts (x_gi (by decide +kernel)) rfl rfl rfl (by decide +kernel) ⟨by decide, by decide⟩).1) (hts (.static y_Mo_takes) (by decide +kernel)) hE hP hA hA0 hS rfl hl.1 rfl (lv_room (Nat.le_of_ble_eq_true rfl)) d_Mo_make_109 (by first | decide | omega) (by first | decide | omega) (fun v9 g9 H locs hq9 hP hA hS => ?_) (fun E9 q9 ce9 g9 H locs hq9 hP hA hS z1 z2 z3 => ?_)
              rotate_left
              · exact nomatch hq9.1
              obtain ⟨hv9, hg9⟩ := hq9
              cases hv9
              rw [hg9] at hP hA
              refine W.eq (g2 := F0 m 112 ls [.long (m_tk q.1 q.2.1.toInt64)]) rfl ?_
              rw [hmo]
              refine lv_lstore hx hb d_Mo_make_112 hl (by decide) rfl (fun ls hl => ?_)
              have hl : lv_has ls 6 [(4, .long (lN (a_more q n))), (0, .ref (r 20)), (1, .int sv), (2, .int k), (3, .int n)] := hl
              refine lv_aload_n hx hb d_Mo_make_114 rfl (lv_at hl 1 rfl) ?_
              refine lv_aload_n hx hb d_Mo_make_115 rfl (lv_at hl 1 rfl) ?_
              refine w_callV (As := []) (C := R_Mo) ⟨hx, hb, hml, hown, hts⟩ (c_Mo_reachable l D cK cI cN cZ cL r hri (m_s S 10 0) _ a cn hw hc (hR0.err 0)) (x_cb (cwV (own := R_Mo) (index := 100) (C := R_Mo) 0 hts (x_gi (by decide +kernel)) rfl rfl rfl (by decide +kernel) ⟨by decide, by decide⟩).1) (hts (.instanceMethod y_Mo_reachable) (by decide +kernel)) (hts (.selects R_Mo y_Mo_reachable y_Mo_reachable) (by decide +kernel)) (y_recv (ci := 5) (q := (R_Mo, F_Mo, 20)) hK hP rfl (m_at hri (i := 20) (by decide))) hE hP hA hA0 hS rfl hl.1 rfl (lv_room (Nat.le_of_ble_eq_true rfl)) d_Mo_make_116 (by first | decide | omega) (by first | decide | omega) (fun v9 g9 H locs hq9 hP hA hS => ?_) (fun E9 q9 ce9 g9 H locs hq9 hP hA hS z1 z2 z3 => ?_)
              rotate_left
              · exact nomatch hq9.1
              obtain ⟨hv9, T, hQT, hg9⟩ := hq9
              cases hv9
              rw [hg9] at hP hA
              refine W.eq (g2 := F0 m 119 ls [.long (lN (a_use a)), .ref (r 20)]) rfl ?_
              have hRT := hQT.R (hR0.err 0)
              have hT10 : T.2.2 10 = 0 := by rw [hQT.1]; rfl
              refine lv_lload hx hb d_Mo_make_119 (lv_at hl 0 rfl) ?_
              refine lv_ladd hx hb d_Mo_make_121 ?_
              refine lv_aload_n hx hb d_Mo_make_122 rfl (lv_at hl 1 rfl) ?_
              refine y_get (D := D) (ci := 5) (v := .int (T.2.2 9)) (C := R_Mo) (T := F_Mo) (N := 20) hx hb hts in_Mo hown hK hP (m_at hri (i := 20) (by decide)) rfl 9 (by decide) (hts (.fieldLink R_Mo 33 "MemoryDeskModel" "memory" "I") (by decide +kernel)) (fun _ h9 => h9) rfl d_Mo_make_123 ?_
              rw [show T.2.2 9 = nI a.mem by rw [hQT.1]; exact r4]
              refine lv_i2l hx hb d_Mo_make_126 rfl ?_
              refine W.lcmp hx hb d_Mo_make_127 ?_
              rw [← nI_l (show a_use a < 2 ^ 31 by omega)]
              refine lv_if_le hx hb d_Mo_make_128 rfl (fun h15 => ?_) (fun h15 => ?_)
              · -- ifle at 128: to 135
                have hfit : a_use a + a_more q n ≤ a.mem := (f_cmp (u := a_use a) (by omega) hm33 (by omega)).mp h15
                refine lv_iconst (v := 0) hx hb d_Mo_make_135 (by decide) ?_
                refine lv_iconst (v := 3) hx hb d_Mo_make_136 (by decide) ?_
                refine w_callV (As := [.int 0, .int 3]) (C := R_Mo) ⟨hx, hb, hml, hown, hts⟩ (c_Mo_fails l D cK cI cN cZ cL r hri T _ 0 3 (by decide)) (x_cb (cwV (own := R_Mo) (index := 96) (C := R_Mo) 2 hts (x_gi (by decide +kernel)) rfl rfl rfl (by decide +kernel) ⟨by decide, by decide⟩).1) (hts (.instanceMethod y_Mo_fails) (by decide +kernel)) (hts (.selects R_Mo y_Mo_fails y_Mo_fails) (by decide +kernel)) (y_recv (ci := 5) (q := (R_Mo, F_Mo, 20)) hK hP rfl (m_at hri (i := 20) (by decide))) hE hP hA hA0 hS rfl hl.1 rfl (lv_room (Nat.le_of_ble_eq_true rfl)) d_Mo_make_137 (by first | decide | omega) (by first | decide | omega) (fun v9 g9 H locs hq9 hP hA hS => ?_) (fun E9 q9 ce9 g9 H locs hq9 hP hA hS z1 z2 z3 => ?_)
                rotate_left
                · rcases hq9 with z | z | z
                  · exact nomatch z.2.2.1
                  · exact nomatch z.2.1
                  · exact nomatch z.2.2.1
                rcases hq9 with ⟨z1, z2, hv9, hg9⟩ | ⟨z1, hv9, hg9⟩ | ⟨z1, z2, hv9, hg9⟩
                · cases hv9
                  rw [hg9] at hP hA
                  refine W.eq (g2 := F0 m 140 ls [.int 0]) rfl ?_
                  refine lv_if_eq hx hb d_Mo_make_140 rfl (fun h16 => ?_) (fun h16 => (absurd rfl h16))
                  have hcl9 : (nI (a.n + 1)).toNatClampNeg = a.n + 1 := nI_clamp (by omega)
                  have hkk : k = nI (j_n k) := (b_in.j (n := 16) hk (by decide)).2
                  have hv9 : vp_in (nI (a.n + 1)) 514 := vp_in_nI (by omega) (by decide)
                  refine lv_aload_n hx hb d_Mo_make_145 rfl (lv_at hl 1 rfl) ?_
                  refine lv_dup hx hb d_Mo_make_146 rfl ?_
                  refine y_get (D := D) (ci := 5) (v := .int (T.2.2 7)) (C := R_Mo) (T := F_Mo) (N := 20) hx hb hts in_Mo hown hK hP (m_at hri (i := 20) (by decide)) rfl 7 (by decide) (hts (.fieldLink R_Mo 71 "MemoryDeskModel" "objects" "I") (by decide +kernel)) (fun _ h9 => h9) rfl d_Mo_make_147 ?_
                  rw [show T.2.2 7 = nI a.n by rw [hQT.1]; exact r2]
                  refine lv_iconst (v := 1) hx hb d_Mo_make_150 (by decide) ?_
                  refine lv_iadd hx hb d_Mo_make_151 ?_
                  rw [nI_1]
                  refine y_put (D := D) (ci := 5) (v := .int (nI (a.n + 1))) (ty := .int) (C := R_Mo) (T := F_Mo) (N := 20) hx hb hts in_Mo t_Mo t_Mo_ok n_Mo hown hK hP hA hS (m_at hri (i := 20) (by decide)) rfl 7 (by decide) (hts (.fieldLink R_Mo 71 "MemoryDeskModel" "objects" "I") (by decide +kernel)) (fun _ h9 => h9) rfl (by decide +kernel) rfl rfl (Nat.le_of_ble_eq_true rfl) d_Mo_make_152 (fun H locs hP hA hS => ?_)
                  have e9 : va_up (m_w r cN cZ cL T) (r 20) (some (.inr (5, [.ref (r 0), .ref (r 1), .ref (r 2), .ref (r 3), .ref (r 4), .ref (r 5), .ref (r 6), .int (nI (a.n + 1)), .int (T.2.2 8), .int (T.2.2 9), .int (T.2.2 10), .ref (r 11), .ref (r 12), .ref (r 13), .int (T.2.2 14), .ref (r 15), .ref (r 16), .ref (r 17), .ref (r 18), .int (T.2.2 19)]))) = (m_w r cN cZ cL (m_s T 7 (nI (a.n + 1)))) := m_ws7 hri T (nI (a.n + 1))
                  have hP : y_P D vwCl (m_w r cN cZ cL (m_s T 7 (nI (a.n + 1)))) H := by rw [← e9]; exact hP
                  have hA : ∀ q99 e99, (m_w r cN cZ cL (m_s T 7 (nI (a.n + 1)))) q99 = some e99 → A q99 := by rw [← e9]; exact hA
                  refine lv_aload_n hx hb d_Mo_make_155 rfl (lv_at hl 1 rfl) ?_
                  refine y_get (D := D) (ci := 5) (v := .ref (r 4)) (C := R_Mo) (T := F_Mo) (N := 20) hx hb hts in_Mo hown hK hP (m_at hri (i := 20) (by decide)) rfl 4 (by decide) (hts (.fieldLink R_Mo 23 "MemoryDeskModel" "objectKind" "[I") (by decide +kernel)) (fun _ h9 => h9) rfl d_Mo_make_156 ?_
                  refine lv_aload_n hx hb d_Mo_make_159 rfl (lv_at hl 1 rfl) ?_
                  refine y_get (D := D) (ci := 5) (v := .int (nI (a.n + 1))) (C := R_Mo) (T := F_Mo) (N := 20) hx hb hts in_Mo hown hK hP (m_at hri (i := 20) (by decide)) rfl 7 (by decide) (hts (.fieldLink R_Mo 71 "MemoryDeskModel" "objects" "I") (by decide +kernel)) (fun _ h9 => h9) rfl d_Mo_make_160 ?_
                  refine lv_iload_n hx hb d_Mo_make_163 rfl (lv_at hl 3 rfl) ?_
                  refine y_iast (f := (T.1 4)) hx hb hK hP hA hS 2 (m_at hri (i := 4) (by decide)) rfl hv9 d_Mo_make_164 (fun H locs hP hA hS => ?_)
                  have e9 : va_up (m_w r cN cZ cL (m_s T 7 (nI (a.n + 1)))) (r 4) (some (.inl (cN, 514, .inl (upd (T.1 4) (nI (a.n + 1)).toNatClampNeg k)))) = (m_w r cN cZ cL (m_a (m_s T 7 (nI (a.n + 1))) 4 (nI (a.n + 1)).toNatClampNeg k)) := m_wa4 hri (m_s T 7 (nI (a.n + 1))) (nI (a.n + 1)).toNatClampNeg k
                  have hP : y_P D vwCl (m_w r cN cZ cL (m_a (m_s T 7 (nI (a.n + 1))) 4 (nI (a.n + 1)).toNatClampNeg k)) H := by rw [← e9]; exact hP
                  have hA : ∀ q99 e99, (m_w r cN cZ cL (m_a (m_s T 7 (nI (a.n + 1))) 4 (nI (a.n + 1)).toNatClampNeg k)) q99 = some e99 → A q99 := by rw [← e9]; exact hA
                  refine lv_aload_n hx hb d_Mo_make_165 rfl (lv_at hl 1 rfl) ?_
                  refine y_get (D := D) (ci := 5) (v := .ref (r 5)) (C := R_Mo) (T := F_Mo) (N := 20) hx hb hts in_Mo hown hK hP (m_at hri (i := 20) (by decide)) rfl 5 (by decide) (hts (.fieldLink R_Mo 26 "MemoryDeskModel" "objectSize" "[I") (by decide +kernel)) (fun _ h9 => h9) rfl d_Mo_make_166 ?_
                  refine lv_aload_n hx hb d_Mo_make_169 rfl (lv_at hl 1 rfl) ?_
                  refine y_get (D := D) (ci := 5) (v := .int (nI (a.n + 1))) (C := R_Mo) (T := F_Mo) (N := 20) hx hb hts in_Mo hown hK hP (m_at hri (i := 20) (by decide)) rfl 7 (by decide) (hts (.fieldLink R_Mo 71 "MemoryDeskModel" "objects" "I") (by decide +kernel)) (fun _ h9 => h9) rfl d_Mo_make_170 ?_
                  refine lv_iload_n hx hb d_Mo_make_173 rfl (lv_at hl 4 rfl) ?_
                  refine y_iast (f := (T.1 5)) hx hb hK hP hA hS 2 (m_at hri (i := 5) (by decide)) rfl hv9 d_Mo_make_174 (fun H locs hP hA hS => ?_)
                  have e9 : va_up (m_w r cN cZ cL (m_a (m_s T 7 (nI (a.n + 1))) 4 (nI (a.n + 1)).toNatClampNeg k)) (r 5) (some (.inl (cN, 514, .inl (upd (T.1 5) (nI (a.n + 1)).toNatClampNeg n)))) = (m_w r cN cZ cL (m_a (m_a (m_s T 7 (nI (a.n + 1))) 4 (nI (a.n + 1)).toNatClampNeg k) 5 (nI (a.n + 1)).toNatClampNeg n)) := m_wa5 hri (m_a (m_s T 7 (nI (a.n + 1))) 4 (nI (a.n + 1)).toNatClampNeg k) (nI (a.n + 1)).toNatClampNeg n
                  have hP : y_P D vwCl (m_w r cN cZ cL (m_a (m_a (m_s T 7 (nI (a.n + 1))) 4 (nI (a.n + 1)).toNatClampNeg k) 5 (nI (a.n + 1)).toNatClampNeg n)) H := by rw [← e9]; exact hP
                  have hA : ∀ q99 e99, (m_w r cN cZ cL (m_a (m_a (m_s T 7 (nI (a.n + 1))) 4 (nI (a.n + 1)).toNatClampNeg k) 5 (nI (a.n + 1)).toNatClampNeg n)) q99 = some e99 → A q99 := by rw [← e9]; exact hA
                  refine lv_aload_n hx hb d_Mo_make_175 rfl (lv_at hl 1 rfl) ?_
                  refine y_get (D := D) (ci := 5) (v := .ref (r 15)) (C := R_Mo) (T := F_Mo) (N := 20) hx hb hts in_Mo hown hK hP (m_at hri (i := 20) (by decide)) rfl 15 (by decide) (hts (.fieldLink R_Mo 47 "MemoryDeskModel" "slots" "[I") (by decide +kernel)) (fun _ h9 => h9) rfl d_Mo_make_176 ?_
                  refine lv_iload_n hx hb d_Mo_make_179 rfl (lv_at hl 2 rfl) ?_
                  refine lv_aload_n hx hb d_Mo_make_180 rfl (lv_at hl 1 rfl) ?_
                  refine y_get (D := D) (ci := 5) (v := .int (nI (a.n + 1))) (C := R_Mo) (T := F_Mo) (N := 20) hx hb hts in_Mo hown hK hP (m_at hri (i := 20) (by decide)) rfl 7 (by decide) (hts (.fieldLink R_Mo 71 "MemoryDeskModel" "objects" "I") (by decide +kernel)) (fun _ h9 => h9) rfl d_Mo_make_181 ?_
                  refine y_iast (f := (T.1 15)) hx hb hK hP hA hS 2 (m_at hri (i := 15) (by decide)) rfl hs.v32 d_Mo_make_184 (fun H locs hP hA hS => ?_)
                  have e9 : va_up (m_w r cN cZ cL (m_a (m_a (m_s T 7 (nI (a.n + 1))) 4 (nI (a.n + 1)).toNatClampNeg k) 5 (nI (a.n + 1)).toNatClampNeg n)) (r 15) (some (.inl (cN, 32, .inl (upd (T.1 15) sv.toNatClampNeg (nI (a.n + 1)))))) = (m_w r cN cZ cL (m_a (m_a (m_a (m_s T 7 (nI (a.n + 1))) 4 (nI (a.n + 1)).toNatClampNeg k) 5 (nI (a.n + 1)).toNatClampNeg n) 15 sv.toNatClampNeg (nI (a.n + 1)))) := m_wa15 hri (m_a (m_a (m_s T 7 (nI (a.n + 1))) 4 (nI (a.n + 1)).toNatClampNeg k) 5 (nI (a.n + 1)).toNatClampNeg n) sv.toNatClampNeg (nI (a.n + 1))
                  have hP : y_P D vwCl (m_w r cN cZ cL (m_a (m_a (m_a (m_s T 7 (nI (a.n + 1))) 4 (nI (a.n + 1)).toNatClampNeg k) 5 (nI (a.n + 1)).toNatClampNeg n) 15 sv.toNatClampNeg (nI (a.n + 1)))) H := by rw [← e9]; exact hP
                  have hA : ∀ q99 e99, (m_w r cN cZ cL (m_a (m_a (m_a (m_s T 7 (nI (a.n + 1))) 4 (nI (a.n + 1)).toNatClampNeg k) 5 (nI (a.n + 1)).toNatClampNeg n) 15 sv.toNatClampNeg (nI (a.n + 1)))) q99 = some e99 → A q99 := by rw [← e9]; exact hA
                  refine lv_aload_n hx hb d_Mo_make_185 rfl (lv_at hl 1 rfl) ?_
                  refine y_get (D := D) (ci := 5) (v := .int (nI (a.n + 1))) (C := R_Mo) (T := F_Mo) (N := 20) hx hb hts in_Mo hown hK hP (m_at hri (i := 20) (by decide)) rfl 7 (by decide) (hts (.fieldLink R_Mo 71 "MemoryDeskModel" "objects" "I") (by decide +kernel)) (fun _ h9 => h9) rfl d_Mo_make_186 ?_
                  have hfin : m_R (a_new a (j_n sv) (j_n k) n) (m_a (m_a (m_a (m_s T 7 (nI (a.n + 1))) 4 (nI (a.n + 1)).toNatClampNeg k) 5 (nI (a.n + 1)).toNatClampNeg n) 15 sv.toNatClampNeg (nI (a.n + 1))) (cn + 1) := by
                    have hz := hRT.new hw hc (s := j_n sv) (k := j_n k) (n := n)
                    rw [← hkk] at hz
                    rw [hcl9]
                    exact hz
                  refine W.widen (k := 0) (n := 0) (by first | decide | omega) (by first | decide | omega) ?_
                  exact x_ret (W.iret (v := (nI (a.n + 1))) hx hb hr (w_fin rfl hAe ⟨m_goodI ((s_make_s hs hk hcond hkd).trans (q_y hfit)), m_good ((s_make_s hs hk hcond hkd).trans (q_y hfit)) hT10 hfin⟩ hP hA hS) hS.2.2 d_Mo_make_189)
                · exact absurd hT10 z1
                · exact absurd rfl z1
              · -- ifle at 128: to 131
                have hfit : ¬ a_use a + a_more q n ≤ a.mem := fun z => h15 ((f_cmp (u := a_use a) (by omega) hm33 (by omega)).mpr z)
                refine lv_iconst (v := 1) hx hb d_Mo_make_131 (by decide) ?_
                refine lv_goto hx hb d_Mo_make_132 rfl ?_
                refine lv_iconst (v := 3) hx hb d_Mo_make_136 (by decide) ?_
                refine w_callV (As := [.int 1, .int 3]) (C := R_Mo) ⟨hx, hb, hml, hown, hts⟩ (c_Mo_fails l D cK cI cN cZ cL r hri T _ 1 3 (by decide)) (x_cb (cwV (own := R_Mo) (index := 96) (C := R_Mo) 2 hts (x_gi (by decide +kernel)) rfl rfl rfl (by decide +kernel) ⟨by decide, by decide⟩).1) (hts (.instanceMethod y_Mo_fails) (by decide +kernel)) (hts (.selects R_Mo y_Mo_fails y_Mo_fails) (by decide +kernel)) (y_recv (ci := 5) (q := (R_Mo, F_Mo, 20)) hK hP rfl (m_at hri (i := 20) (by decide))) hE hP hA hA0 hS rfl hl.1 rfl (lv_room (Nat.le_of_ble_eq_true rfl)) d_Mo_make_137 (by first | decide | omega) (by first | decide | omega) (fun v9 g9 H locs hq9 hP hA hS => ?_) (fun E9 q9 ce9 g9 H locs hq9 hP hA hS z1 z2 z3 => ?_)
                rotate_left
                · rcases hq9 with z | z | z
                  · exact nomatch z.2.2.1
                  · exact nomatch z.2.1
                  · exact nomatch z.2.2.1
                rcases hq9 with ⟨z1, z2, hv9, hg9⟩ | ⟨z1, hv9, hg9⟩ | ⟨z1, z2, hv9, hg9⟩
                · exact absurd z1 (by decide)
                · exact absurd hT10 z1
                · cases hv9
                  rw [hg9] at hP hA
                  refine W.eq (g2 := F0 m 140 ls [.int 1]) rfl ?_
                  refine lv_if_eq hx hb d_Mo_make_140 rfl (fun h17 => (absurd h17 (by decide))) (fun h17 => ?_)
                  refine lv_iconst (v := 0) hx hb d_Mo_make_143 (by decide) ?_
                  refine W.widen (k := 0) (n := 0) (by first | decide | omega) (by first | decide | omega) ?_
                  exact x_ret (W.iret (v := 0) hx hb hr (w_fin rfl hAe ⟨m_badI (i := 2) ((s_make_s hs hk hcond hkd).trans (q_n hfit)), m_bad (i := 2) ((s_make_s hs hk hcond hkd).trans (q_n hfit)) rfl (hRT.err 3)⟩ hP hA hS) hS.2.2 d_Mo_make_144)
            · exact absurd rfl z1
            · exact absurd rfl z1
          · exact absurd rfl z1
          · exact absurd rfl z1
        · -- iflt at 39: to 42
          have h0 : ¬ q.1 < 0 := h10
          refine lv_iload_n hx hb d_Mo_make_42 rfl (lv_at hl 3 rfl) ?_
          refine lv_if_ge hx hb d_Mo_make_43 rfl (fun h18 => ?_) (fun h18 => ?_)
          · -- ifge at 43: to 50
            have hn0 : ¬ n < 0 := m_nlt h18
            obtain ⟨hmo, hm33⟩ := m_moreR (n := n) hkin h0 hn0
            have hcond : ∀ q, a.kd (j_n k) = some q → ¬ q.1 < 0 → ¬ n < 0 := fun _ _ _ => hn0
            refine lv_iconst (v := 0) hx hb d_Mo_make_50 (by decide) ?_
            refine lv_iconst (v := 1) hx hb d_Mo_make_51 (by decide) ?_
            refine w_callV (As := [.int 0, .int 1]) (C := R_Mo) ⟨hx, hb, hml, hown, hts⟩ (c_Mo_fails l D cK cI cN cZ cL r hri (m_s S 10 0) _ 0 1 (by decide)) (x_cb (cwV (own := R_Mo) (index := 96) (C := R_Mo) 2 hts (x_gi (by decide +kernel)) rfl rfl rfl (by decide +kernel) ⟨by decide, by decide⟩).1) (hts (.instanceMethod y_Mo_fails) (by decide +kernel)) (hts (.selects R_Mo y_Mo_fails y_Mo_fails) (by decide +kernel)) (y_recv (ci := 5) (q := (R_Mo, F_Mo, 20)) hK hP rfl (m_at hri (i := 20) (by decide))) hE hP hA hA0 hS rfl hl.1 rfl (lv_room (Nat.le_of_ble_eq_true rfl)) d_Mo_make_52 (by first | decide | omega) (by first | decide | omega) (fun v9 g9 H locs hq9 hP hA hS => ?_) (fun E9 q9 ce9 g9 H locs hq9 hP hA hS z1 z2 z3 => ?_)
            rotate_left
            · rcases hq9 with z | z | z
              · exact nomatch z.2.2.1
              · exact nomatch z.2.1
              · exact nomatch z.2.2.1
            rcases hq9 with ⟨z1, z2, hv9, hg9⟩ | ⟨z1, hv9, hg9⟩ | ⟨z1, z2, hv9, hg9⟩
            · cases hv9
              rw [hg9] at hP hA
              refine W.eq (g2 := F0 m 55 ls [.int 0]) rfl ?_
              refine lv_if_ne hx hb d_Mo_make_55 rfl (fun h19 => (absurd rfl h19)) (fun h19 => ?_)
              refine lv_aload_n hx hb d_Mo_make_58 rfl (lv_at hl 0 rfl) ?_
              refine lv_aload_n hx hb d_Mo_make_59 rfl (lv_at hl 0 rfl) ?_
              refine y_get (D := D) (ci := 5) (v := .ref (r 3)) (C := R_Mo) (T := F_Mo) (N := 20) hx hb hts in_Mo hown hK hP (m_at hri (i := 20) (by decide)) rfl 3 (by decide) (hts (.fieldLink R_Mo 19 "MemoryDeskModel" "defined" "[Z") (by decide +kernel)) (fun _ h9 => h9) rfl d_Mo_make_60 ?_
              refine lv_iload_n hx hb d_Mo_make_63 rfl (lv_at hl 2 rfl) ?_
              refine y_zald (f := (S.1 3)) hx hb hK hP 3 (m_at hri (i := 3) (by decide)) rfl hk.v16 d_Mo_make_64 ?_
              rw [hdf]
              refine lv_if_ne hx hb d_Mo_make_65 rfl (fun h20 => ?_) (fun h20 => (absurd h20 (by decide)))
              refine lv_iconst (v := 0) hx hb d_Mo_make_72 (by decide) ?_
              refine lv_iconst (v := 2) hx hb d_Mo_make_73 (by decide) ?_
              refine w_callV (As := [.int 0, .int 2]) (C := R_Mo) ⟨hx, hb, hml, hown, hts⟩ (c_Mo_fails l D cK cI cN cZ cL r hri (m_s S 10 0) _ 0 2 (by decide)) (x_cb (cwV (own := R_Mo) (index := 96) (C := R_Mo) 2 hts (x_gi (by decide +kernel)) rfl rfl rfl (by decide +kernel) ⟨by decide, by decide⟩).1) (hts (.instanceMethod y_Mo_fails) (by decide +kernel)) (hts (.selects R_Mo y_Mo_fails y_Mo_fails) (by decide +kernel)) (y_recv (ci := 5) (q := (R_Mo, F_Mo, 20)) hK hP rfl (m_at hri (i := 20) (by decide))) hE hP hA hA0 hS rfl hl.1 rfl (lv_room (Nat.le_of_ble_eq_true rfl)) d_Mo_make_74 (by first | decide | omega) (by first | decide | omega) (fun v9 g9 H locs hq9 hP hA hS => ?_) (fun E9 q9 ce9 g9 H locs hq9 hP hA hS z1 z2 z3 => ?_)
              rotate_left
              · rcases hq9 with z | z | z
                · exact nomatch z.2.2.1
                · exact nomatch z.2.1
                · exact nomatch z.2.2.1
              rcases hq9 with ⟨z1, z2, hv9, hg9⟩ | ⟨z1, hv9, hg9⟩ | ⟨z1, z2, hv9, hg9⟩
              · cases hv9
                rw [hg9] at hP hA
                refine W.eq (g2 := F0 m 77 ls [.int 0]) rfl ?_
                refine lv_if_eq hx hb d_Mo_make_77 rfl (fun h21 => ?_) (fun h21 => (absurd rfl h21))
                refine lv_aload_n hx hb d_Mo_make_82 rfl (lv_at hl 0 rfl) ?_
                refine y_get (D := D) (ci := 5) (v := .ref (r 2)) (C := R_Mo) (T := F_Mo) (N := 20) hx hb hts in_Mo hown hK hP (m_at hri (i := 20) (by decide)) rfl 2 (by decide) (hts (.fieldLink R_Mo 16 "MemoryDeskModel" "kindRow" "[I") (by decide +kernel)) (fun _ h9 => h9) rfl d_Mo_make_83 ?_
                refine lv_iload_n hx hb d_Mo_make_86 rfl (lv_at hl 2 rfl) ?_
                refine y_iald (f := (S.1 2)) hx hb hK hP 2 (m_at hri (i := 2) (by decide)) rfl hk.v16 d_Mo_make_87 ?_
                rw [hrw]
                refine lv_aload_n hx hb d_Mo_make_88 rfl (lv_at hl 0 rfl) ?_
                refine y_get (D := D) (ci := 5) (v := .ref (r 2)) (C := R_Mo) (T := F_Mo) (N := 20) hx hb hts in_Mo hown hK hP (m_at hri (i := 20) (by decide)) rfl 2 (by decide) (hts (.fieldLink R_Mo 16 "MemoryDeskModel" "kindRow" "[I") (by decide +kernel)) (fun _ h9 => h9) rfl d_Mo_make_89 ?_
                refine lv_iload_n hx hb d_Mo_make_92 rfl (lv_at hl 2 rfl) ?_
                refine y_iald (f := (S.1 2)) hx hb hK hP 2 (m_at hri (i := 2) (by decide)) rfl hk.v16 d_Mo_make_93 ?_
                rw [hrw]
                refine lv_if_ge hx hb d_Mo_make_94 rfl (fun h22 => ?_) (fun h22 => (absurd (b_lt0 h22) h0))
                refine lv_iload_n hx hb d_Mo_make_107 rfl (lv_at hl 3 rfl) ?_
                refine lv_i2l hx hb d_Mo_make_108 rfl ?_
                refine w_callS (As := [.int q.1, .long n.toInt64]) ⟨hx, hb, hml, hown, hts⟩ (c_Mo_takes l D cK cI cN cZ cL r hri (m_s S 10 0) _ q.1 n.toInt64) (x_cb (va_cwS (own := R_Mo) (index := 81) 2 hts (x_gi (by decide +kernel)) rfl rfl rfl (by decide +kernel) ⟨by decide, by decide⟩).1) (hts (.static y_Mo_takes) (by decide +kernel)) hE hP hA hA0 hS rfl hl.1 rfl (lv_room (Nat.le_of_ble_eq_true rfl)) d_Mo_make_109 (by first | decide | omega) (by first | decide | omega) (fun v9 g9 H locs hq9 hP hA hS => ?_) (fun E9 q9 ce9 g9 H locs hq9 hP hA hS z1 z2 z3 => ?_)
                rotate_left
                · exact nomatch hq9.1
                obtain ⟨hv9, hg9⟩ := hq9
                cases hv9
                rw [hg9] at hP hA
                refine W.eq (g2 := F0 m 112 ls [.long (m_tk q.1 n.toInt64)]) rfl ?_
                rw [hmo]
                refine lv_lstore hx hb d_Mo_make_112 hl (by decide) rfl (fun ls hl => ?_)
                have hl : lv_has ls 6 [(4, .long (lN (a_more q n))), (0, .ref (r 20)), (1, .int sv), (2, .int k), (3, .int n)] := hl
                refine lv_aload_n hx hb d_Mo_make_114 rfl (lv_at hl 1 rfl) ?_
                refine lv_aload_n hx hb d_Mo_make_115 rfl (lv_at hl 1 rfl) ?_
                refine w_callV (As := []) (C := R_Mo) ⟨hx, hb, hml, hown, hts⟩ (c_Mo_reachable l D cK cI cN cZ cL r hri (m_s S 10 0) _ a cn hw hc (hR0.err 0)) (x_cb (cwV (own := R_Mo) (index := 100) (C := R_Mo) 0 hts (x_gi (by decide +kernel)) rfl rfl rfl (by decide +kernel) ⟨by decide, by decide⟩).1) (hts (.instanceMethod y_Mo_reachable) (by decide +kernel)) (hts (.selects R_Mo y_Mo_reachable y_Mo_reachable) (by decide +kernel)) (y_recv (ci := 5) (q := (R_Mo, F_Mo, 20)) hK hP rfl (m_at hri (i := 20) (by decide))) hE hP hA hA0 hS rfl hl.1 rfl (lv_room (Nat.le_of_ble_eq_true rfl)) d_Mo_make_116 (by first | decide | omega) (by first | decide | omega) (fun v9 g9 H locs hq9 hP hA hS => ?_) (fun E9 q9 ce9 g9 H locs hq9 hP hA hS z1 z2 z3 => ?_)
                rotate_left
                · exact nomatch hq9.1
                obtain ⟨hv9, T, hQT, hg9⟩ := hq9
                cases hv9
                rw [hg9] at hP hA
                refine W.eq (g2 := F0 m 119 ls [.long (lN (a_use a)), .ref (r 20)]) rfl ?_
                have hRT := hQT.R (hR0.err 0)
                have hT10 : T.2.2 10 = 0 := by rw [hQT.1]; rfl
                refine lv_lload hx hb d_Mo_make_119 (lv_at hl 0 rfl) ?_
                refine lv_ladd hx hb d_Mo_make_121 ?_
                refine lv_aload_n hx hb d_Mo_make_122 rfl (lv_at hl 1 rfl) ?_
                refine y_get (D := D) (ci := 5) (v := .int (T.2.2 9)) (C := R_Mo) (T := F_Mo) (N := 20) hx hb hts in_Mo hown hK hP (m_at hri (i := 20) (by decide)) rfl 9 (by decide) (hts (.fieldLink R_Mo 33 "MemoryDeskModel" "memory" "I") (by decide +kernel)) (fun _ h9 => h9) rfl d_Mo_make_123 ?_
                rw [show T.2.2 9 = nI a.mem by rw [hQT.1]; exact r4]
                refine lv_i2l hx hb d_Mo_make_126 rfl ?_
                refine W.lcmp hx hb d_Mo_make_127 ?_
                rw [← nI_l (show a_use a < 2 ^ 31 by omega)]
                refine lv_if_le hx hb d_Mo_make_128 rfl (fun h23 => ?_) (fun h23 => ?_)
                · -- ifle at 128: to 135
                  have hfit : a_use a + a_more q n ≤ a.mem := (f_cmp (u := a_use a) (by omega) hm33 (by omega)).mp h23
                  refine lv_iconst (v := 0) hx hb d_Mo_make_135 (by decide) ?_
                  refine lv_iconst (v := 3) hx hb d_Mo_make_136 (by decide) ?_
                  refine w_callV (As := [.int 0, .int 3]) (C := R_Mo) ⟨hx, hb, hml, hown, hts⟩ (c_Mo_fails l D cK cI cN cZ cL r hri T _ 0 3 (by decide)) (x_cb (cwV (own := R_Mo) (index := 96) (C := R_Mo) 2 hts (x_gi (by decide +kernel)) rfl rfl rfl (by decide +kernel) ⟨by decide, by decide⟩).1) (hts (.instanceMethod y_Mo_fails) (by decide +kernel)) (hts (.selects R_Mo y_Mo_fails y_Mo_fails) (by decide +kernel)) (y_recv (ci := 5) (q := (R_Mo, F_Mo, 20)) hK hP rfl (m_at hri (i := 20) (by decide))) hE hP hA hA0 hS rfl hl.1 rfl (lv_room (Nat.le_of_ble_eq_true rfl)) d_Mo_make_137 (by first | decide | omega) (by first | decide | omega) (fun v9 g9 H locs hq9 hP hA hS => ?_) (fun E9 q9 ce9 g9 H locs hq9 hP hA hS z1 z2 z3 => ?_)
                  rotate_left
                  · rcases hq9 with z | z | z
                    · exact nomatch z.2.2.1
                    · exact nomatch z.2.1
                    · exact nomatch z.2.2.1
                  rcases hq9 with ⟨z1, z2, hv9, hg9⟩ | ⟨z1, hv9, hg9⟩ | ⟨z1, z2, hv9, hg9⟩
                  · cases hv9
                    rw [hg9] at hP hA
                    refine W.eq (g2 := F0 m 140 ls [.int 0]) rfl ?_
                    refine lv_if_eq hx hb d_Mo_make_140 rfl (fun h24 => ?_) (fun h24 => (absurd rfl h24))
                    have hcl9 : (nI (a.n + 1)).toNatClampNeg = a.n + 1 := nI_clamp (by omega)
                    have hkk : k = nI (j_n k) := (b_in.j (n := 16) hk (by decide)).2
                    have hv9 : vp_in (nI (a.n + 1)) 514 := vp_in_nI (by omega) (by decide)
                    refine lv_aload_n hx hb d_Mo_make_145 rfl (lv_at hl 1 rfl) ?_
                    refine lv_dup hx hb d_Mo_make_146 rfl ?_
                    refine y_get (D := D) (ci := 5) (v := .int (T.2.2 7)) (C := R_Mo) (T := F_Mo) (N := 20) hx hb hts in_Mo hown hK hP (m_at hri (i := 20) (by decide)) rfl 7 (by decide) (hts (.fieldLink R_Mo 71 "MemoryDeskModel" "objects" "I") (by decide +kernel)) (fun _ h9 => h9) rfl d_Mo_make_147 ?_
                    rw [show T.2.2 7 = nI a.n by rw [hQT.1]; exact r2]
                    refine lv_iconst (v := 1) hx hb d_Mo_make_150 (by decide) ?_
                    refine lv_iadd hx hb d_Mo_make_151 ?_
                    rw [nI_1]
                    refine y_put (D := D) (ci := 5) (v := .int (nI (a.n + 1))) (ty := .int) (C := R_Mo) (T := F_Mo) (N := 20) hx hb hts in_Mo t_Mo t_Mo_ok n_Mo hown hK hP hA hS (m_at hri (i := 20) (by decide)) rfl 7 (by decide) (hts (.fieldLink R_Mo 71 "MemoryDeskModel" "objects" "I") (by decide +kernel)) (fun _ h9 => h9) rfl (by decide +kernel) rfl rfl (Nat.le_of_ble_eq_true rfl) d_Mo_make_152 (fun H locs hP hA hS => ?_)
                    have e9 : va_up (m_w r cN cZ cL T) (r 20) (some (.inr (5, [.ref (r 0), .ref (r 1), .ref (r 2), .ref (r 3), .ref (r 4), .ref (r 5), .ref (r 6), .int (nI (a.n + 1)), .int (T.2.2 8), .int (T.2.2 9), .int (T.2.2 10), .ref (r 11), .ref (r 12), .ref (r 13), .int (T.2.2 14), .ref (r 15), .ref (r 16), .ref (r 17), .ref (r 18), .int (T.2.2 19)]))) = (m_w r cN cZ cL (m_s T 7 (nI (a.n + 1)))) := m_ws7 hri T (nI (a.n + 1))
                    have hP : y_P D vwCl (m_w r cN cZ cL (m_s T 7 (nI (a.n + 1)))) H := by rw [← e9]; exact hP
                    have hA : ∀ q99 e99, (m_w r cN cZ cL (m_s T 7 (nI (a.n + 1)))) q99 = some e99 → A q99 := by rw [← e9]; exact hA
                    refine lv_aload_n hx hb d_Mo_make_155 rfl (lv_at hl 1 rfl) ?_
                    refine y_get (D := D) (ci := 5) (v := .ref (r 4)) (C := R_Mo) (T := F_Mo) (N := 20) hx hb hts in_Mo hown hK hP (m_at hri (i := 20) (by decide)) rfl 4 (by decide) (hts (.fieldLink R_Mo 23 "MemoryDeskModel" "objectKind" "[I") (by decide +kernel)) (fun _ h9 => h9) rfl d_Mo_make_156 ?_
                    refine lv_aload_n hx hb d_Mo_make_159 rfl (lv_at hl 1 rfl) ?_
                    refine y_get (D := D) (ci := 5) (v := .int (nI (a.n + 1))) (C := R_Mo) (T := F_Mo) (N := 20) hx hb hts in_Mo hown hK hP (m_at hri (i := 20) (by decide)) rfl 7 (by decide) (hts (.fieldLink R_Mo 71 "MemoryDeskModel" "objects" "I") (by decide +kernel)) (fun _ h9 => h9) rfl d_Mo_make_160 ?_
                    refine lv_iload_n hx hb d_Mo_make_163 rfl (lv_at hl 3 rfl) ?_
                    refine y_iast (f := (T.1 4)) hx hb hK hP hA hS 2 (m_at hri (i := 4) (by decide)) rfl hv9 d_Mo_make_164 (fun H locs hP hA hS => ?_)
                    have e9 : va_up (m_w r cN cZ cL (m_s T 7 (nI (a.n + 1)))) (r 4) (some (.inl (cN, 514, .inl (upd (T.1 4) (nI (a.n + 1)).toNatClampNeg k)))) = (m_w r cN cZ cL (m_a (m_s T 7 (nI (a.n + 1))) 4 (nI (a.n + 1)).toNatClampNeg k)) := m_wa4 hri (m_s T 7 (nI (a.n + 1))) (nI (a.n + 1)).toNatClampNeg k
                    have hP : y_P D vwCl (m_w r cN cZ cL (m_a (m_s T 7 (nI (a.n + 1))) 4 (nI (a.n + 1)).toNatClampNeg k)) H := by rw [← e9]; exact hP
                    have hA : ∀ q99 e99, (m_w r cN cZ cL (m_a (m_s T 7 (nI (a.n + 1))) 4 (nI (a.n + 1)).toNatClampNeg k)) q99 = some e99 → A q99 := by rw [← e9]; exact hA
                    refine lv_aload_n hx hb d_Mo_make_165 rfl (lv_at hl 1 rfl) ?_
                    refine y_get (D := D) (ci := 5) (v := .ref (r 5)) (C := R_Mo) (T := F_Mo) (N := 20) hx hb hts in_Mo hown hK hP (m_at hri (i := 20) (by decide)) rfl 5 (by decide) (hts (.fieldLink R_Mo 26 "MemoryDeskModel" "objectSize" "[I") (by decide +kernel)) (fun _ h9 => h9) rfl d_Mo_make_166 ?_
                    refine lv_aload_n hx hb d_Mo_make_169 rfl (lv_at hl 1 rfl) ?_
                    refine y_get (D := D) (ci := 5) (v := .int (nI (a.n + 1))) (C := R_Mo) (T := F_Mo) (N := 20) hx hb hts in_Mo hown hK hP (m_at hri (i := 20) (by decide)) rfl 7 (by decide) (hts (.fieldLink R_Mo 71 "MemoryDeskModel" "objects" "I") (by decide +kernel)) (fun _ h9 => h9) rfl d_Mo_make_170 ?_
                    refine lv_iload_n hx hb d_Mo_make_173 rfl (lv_at hl 4 rfl) ?_
                    refine y_iast (f := (T.1 5)) hx hb hK hP hA hS 2 (m_at hri (i := 5) (by decide)) rfl hv9 d_Mo_make_174 (fun H locs hP hA hS => ?_)
                    have e9 : va_up (m_w r cN cZ cL (m_a (m_s T 7 (nI (a.n + 1))) 4 (nI (a.n + 1)).toNatClampNeg k)) (r 5) (some (.inl (cN, 514, .inl (upd (T.1 5) (nI (a.n + 1)).toNatClampNeg n)))) = (m_w r cN cZ cL (m_a (m_a (m_s T 7 (nI (a.n + 1))) 4 (nI (a.n + 1)).toNatClampNeg k) 5 (nI (a.n + 1)).toNatClampNeg n)) := m_wa5 hri (m_a (m_s T 7 (nI (a.n + 1))) 4 (nI (a.n + 1)).toNatClampNeg k) (nI (a.n + 1)).toNatClampNeg n
                    have hP : y_P D vwCl (m_w r cN cZ cL (m_a (m_a (m_s T 7 (nI (a.n + 1))) 4 (nI (a.n + 1)).toNatClampNeg k) 5 (nI (a.n + 1)).toNatClampNeg n)) H := by rw [← e9]; exact hP
                    have hA : ∀ q99 e99, (m_w r cN cZ cL (m_a (m_a (m_s T 7 (nI (a.n + 1))) 4 (nI (a.n + 1)).toNatClampNeg k) 5 (nI (a.n + 1)).toNatClampNeg n)) q99 = some e99 → A q99 := by rw [← e9]; exact hA
                    refine lv_aload_n hx hb d_Mo_make_175 rfl (lv_at hl 1 rfl) ?_
                    refine y_get (D := D) (ci := 5) (v := .ref (r 15)) (C := R_Mo) (T := F_Mo) (N := 20) hx hb hts in_Mo hown hK hP (m_at hri (i := 20) (by decide)) rfl 15 (by decide) (hts (.fieldLink R_Mo 47 "MemoryDeskModel" "slots" "[I") (by decide +kernel)) (fun _ h9 => h9) rfl d_Mo_make_176 ?_
                    refine lv_iload_n hx hb d_Mo_make_179 rfl (lv_at hl 2 rfl) ?_
                    refine lv_aload_n hx hb d_Mo_make_180 rfl (lv_at hl 1 rfl) ?_
                    refine y_get (D := D) (ci := 5) (v := .int (nI (a.n + 1))) (C := R_Mo) (T := F_Mo) (N := 20) hx hb hts in_Mo hown hK hP (m_at hri (i := 20) (by decide)) rfl 7 (by decide) (hts (.fieldLink R_Mo 71 "MemoryDeskModel" "objects" "I") (by decide +kernel)) (fun _ h9 => h9) rfl d_Mo_make_181 ?_
                    refine y_iast (f := (T.1 15)) hx hb hK hP hA hS 2 (m_at hri (i := 15) (by decide)) rfl hs.v32 d_Mo_make_184 (fun H locs hP hA hS => ?_)
                    have e9 : va_up (m_w r cN cZ cL (m_a (m_a (m_s T 7 (nI (a.n + 1))) 4 (nI (a.n + 1)).toNatClampNeg k) 5 (nI (a.n + 1)).toNatClampNeg n)) (r 15) (some (.inl (cN, 32, .inl (upd (T.1 15) sv.toNatClampNeg (nI (a.n + 1)))))) = (m_w r cN cZ cL (m_a (m_a (m_a (m_s T 7 (nI (a.n + 1))) 4 (nI (a.n + 1)).toNatClampNeg k) 5 (nI (a.n + 1)).toNatClampNeg n) 15 sv.toNatClampNeg (nI (a.n + 1)))) := m_wa15 hri (m_a (m_a (m_s T 7 (nI (a.n + 1))) 4 (nI (a.n + 1)).toNatClampNeg k) 5 (nI (a.n + 1)).toNatClampNeg n) sv.toNatClampNeg (nI (a.n + 1))
                    have hP : y_P D vwCl (m_w r cN cZ cL (m_a (m_a (m_a (m_s T 7 (nI (a.n + 1))) 4 (nI (a.n + 1)).toNatClampNeg k) 5 (nI (a.n + 1)).toNatClampNeg n) 15 sv.toNatClampNeg (nI (a.n + 1)))) H := by rw [← e9]; exact hP
                    have hA : ∀ q99 e99, (m_w r cN cZ cL (m_a (m_a (m_a (m_s T 7 (nI (a.n + 1))) 4 (nI (a.n + 1)).toNatClampNeg k) 5 (nI (a.n + 1)).toNatClampNeg n) 15 sv.toNatClampNeg (nI (a.n + 1)))) q99 = some e99 → A q99 := by rw [← e9]; exact hA
                    refine lv_aload_n hx hb d_Mo_make_185 rfl (lv_at hl 1 rfl) ?_
                    refine y_get (D := D) (ci := 5) (v := .int (nI (a.n + 1))) (C := R_Mo) (T := F_Mo) (N := 20) hx hb hts in_Mo hown hK hP (m_at hri (i := 20) (by decide)) rfl 7 (by decide) (hts (.fieldLink R_Mo 71 "MemoryDeskModel" "objects" "I") (by decide +kernel)) (fun _ h9 => h9) rfl d_Mo_make_186 ?_
                    have hfin : m_R (a_new a (j_n sv) (j_n k) n) (m_a (m_a (m_a (m_s T 7 (nI (a.n + 1))) 4 (nI (a.n + 1)).toNatClampNeg k) 5 (nI (a.n + 1)).toNatClampNeg n) 15 sv.toNatClampNeg (nI (a.n + 1))) (cn + 1) := by
                      have hz := hRT.new hw hc (s := j_n sv) (k := j_n k) (n := n)
                      rw [← hkk] at hz
                      rw [hcl9]
                      exact hz
                    refine W.widen (k := 0) (n := 0) (by first | decide | omega) (by first | decide | omega) ?_
                    exact x_ret (W.iret (v := (nI (a.n + 1))) hx hb hr (w_fin rfl hAe ⟨m_goodI ((s_make_s hs hk hcond hkd).trans (q_y hfit)), m_good ((s_make_s hs hk hcond hkd).trans (q_y hfit)) hT10 hfin⟩ hP hA hS) hS.2.2 d_Mo_make_189)
                  · exact absurd hT10 z1
                  · exact absurd rfl z1
                · -- ifle at 128: to 131
                  have hfit : ¬ a_use a + a_more q n ≤ a.mem := fun z => h23 ((f_cmp (u := a_use a) (by omega) hm33 (by omega)).mpr z)
                  refine lv_iconst (v := 1) hx hb d_Mo_make_131 (by decide) ?_
                  refine lv_goto hx hb d_Mo_make_132 rfl ?_
                  refine lv_iconst (v := 3) hx hb d_Mo_make_136 (by decide) ?_
                  refine w_callV (As := [.int 1, .int 3]) (C := R_Mo) ⟨hx, hb, hml, hown, hts⟩ (c_Mo_fails l D cK cI cN cZ cL r hri T _ 1 3 (by decide)) (x_cb (cwV (own := R_Mo) (index := 96) (C := R_Mo) 2 hts (x_gi (by decide +kernel)) rfl rfl rfl (by decide +kernel) ⟨by decide, by decide⟩).1) (hts (.instanceMethod y_Mo_fails) (by decide +kernel)) (hts (.selects R_Mo y_Mo_fails y_Mo_fails) (by decide +kernel)) (y_recv (ci := 5) (q := (R_Mo, F_Mo, 20)) hK hP rfl (m_at hri (i := 20) (by decide))) hE hP hA hA0 hS rfl hl.1 rfl (lv_room (Nat.le_of_ble_eq_true rfl)) d_Mo_make_137 (by first | decide | omega) (by first | decide | omega) (fun v9 g9 H locs hq9 hP hA hS => ?_) (fun E9 q9 ce9 g9 H locs hq9 hP hA hS z1 z2 z3 => ?_)
                  rotate_left
                  · rcases hq9 with z | z | z
                    · exact nomatch z.2.2.1
                    · exact nomatch z.2.1
                    · exact nomatch z.2.2.1
                  rcases hq9 with ⟨z1, z2, hv9, hg9⟩ | ⟨z1, hv9, hg9⟩ | ⟨z1, z2, hv9, hg9⟩
                  · exact absurd z1 (by decide)
                  · exact absurd hT10 z1
                  · cases hv9
                    rw [hg9] at hP hA
                    refine W.eq (g2 := F0 m 140 ls [.int 1]) rfl ?_
                    refine lv_if_eq hx hb d_Mo_make_140 rfl (fun h25 => (absurd h25 (by decide))) (fun h25 => ?_)
                    refine lv_iconst (v := 0) hx hb d_Mo_make_143 (by decide) ?_
                    refine W.widen (k := 0) (n := 0) (by first | decide | omega) (by first | decide | omega) ?_
                    exact x_ret (W.iret (v := 0) hx hb hr (w_fin rfl hAe ⟨m_badI (i := 2) ((s_make_s hs hk hcond hkd).trans (q_n hfit)), m_bad (i := 2) ((s_make_s hs hk hcond hkd).trans (q_n hfit)) rfl (hRT.err 3)⟩ hP hA hS) hS.2.2 d_Mo_make_144)
              · exact absurd rfl z1
              · exact absurd rfl z1
            · exact absurd rfl z1
            · exact absurd rfl z1
          · -- ifge at 43: to 46
            refine lv_iconst (v := 1) hx hb d_Mo_make_46 (by decide) ?_
            refine lv_goto hx hb d_Mo_make_47 rfl ?_
            refine lv_iconst (v := 1) hx hb d_Mo_make_51 (by decide) ?_
            refine w_callV (As := [.int 1, .int 1]) (C := R_Mo) ⟨hx, hb, hml, hown, hts⟩ (c_Mo_fails l D cK cI cN cZ cL r hri (m_s S 10 0) _ 1 1 (by decide)) (x_cb (cwV (own := R_Mo) (index := 96) (C := R_Mo) 2 hts (x_gi (by decide +kernel)) rfl rfl rfl (by decide +kernel) ⟨by decide, by decide⟩).1) (hts (.instanceMethod y_Mo_fails) (by decide +kernel)) (hts (.selects R_Mo y_Mo_fails y_Mo_fails) (by decide +kernel)) (y_recv (ci := 5) (q := (R_Mo, F_Mo, 20)) hK hP rfl (m_at hri (i := 20) (by decide))) hE hP hA hA0 hS rfl hl.1 rfl (lv_room (Nat.le_of_ble_eq_true rfl)) d_Mo_make_52 (by first | decide | omega) (by first | decide | omega) (fun v9 g9 H locs hq9 hP hA hS => ?_) (fun E9 q9 ce9 g9 H locs hq9 hP hA hS z1 z2 z3 => ?_)
            rotate_left
            · rcases hq9 with z | z | z
              · exact nomatch z.2.2.1
              · exact nomatch z.2.1
              · exact nomatch z.2.2.1
            rcases hq9 with ⟨z1, z2, hv9, hg9⟩ | ⟨z1, hv9, hg9⟩ | ⟨z1, z2, hv9, hg9⟩
            · exact absurd z1 (by decide)
            · exact absurd rfl z1
            · cases hv9
              rw [hg9] at hP hA
              refine W.eq (g2 := F0 m 55 ls [.int 1]) rfl ?_
              refine lv_if_ne hx hb d_Mo_make_55 rfl (fun h26 => ?_) (fun h26 => (absurd h26 (by decide)))
              refine lv_iconst (v := 0) hx hb d_Mo_make_80 (by decide) ?_
              refine W.widen (k := 0) (n := 0) (by first | decide | omega) (by first | decide | omega) ?_
              exact x_ret (W.iret (v := 0) hx hb hr (w_fin rfl hAe ⟨m_badI (i := 0) (q_n (fun z => z.2.2 q hkd h0 (b_lt0 h18))), m_bad (i := 0) (q_n (fun z => z.2.2 q hkd h0 (b_lt0 h18))) rfl ((hR0.err 0).err 1)⟩ hP hA hS) hS.2.2 d_Mo_make_81)
