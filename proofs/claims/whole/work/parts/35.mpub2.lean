/-! the reference: plain, size, number, keep, placed -/
set_option maxHeartbeats 4000000 in
set_option maxRecDepth 100000 in
/-- plain(k, words, mask) -/
theorem c_Mo_plain (l : Launch) (D : va_G) (cK cI cN cZ cL : ClassId) (r : Nat → Nat) (hri : m_inj r) (S : MS) (sz : Nat) (a : Ab) (cn : Nat) (k w mk : Int32) (hw : a_W a cn) (hc : cn ≤ 512) (hR : m_R a S cn)  : x_M l y_Mo_plain [.code y_Mo_plain b_Mo_plain 4 none] rmV (w_Pc D (x_tys cK cI cN cZ cL) [.ref (r 20), .int k, .int w, .int mk] (m_w r cN cZ cL S) sz) (w_Qc D (m_w r cN cZ cL S) sz (fun r9 g9 => r9 = .inl none ∧ m_E r cN cZ cL (s_plain a k w mk) cn g9)) 0 0 (y_A (m_w r cN cZ cL S) sz) := by
  refine x_ofW (cc := b_Mo_plain) (maxL := 4) (ret := none) (by decide) rfl ?_
  intro p e s m args below meth c s₁ B hml hno hv
  obtain ⟨rfl, hsz, hP, hE⟩ := hv
  subst hsz
  have hts := hE.hts ([.ref (r 20), .int k, .int w, .int mk] : List Value).toArray
  have hK := hE.1.2.1
  have hA0 : ∀ q, s.heap.size ≤ q → y_A (m_w r cN cZ cL S) s.heap.size q := fun q h => Or.inr h
  have hA : ∀ q e, (m_w r cN cZ cL S) q = some e → y_A (m_w r cN cZ cL S) s.heap.size q := fun q e h => Or.inl (by rw [h]; exact fun z => nomatch z)
  have hS : va_S (y_A (m_w r cN cZ cL S) s.heap.size) s.heap s.heap [] := va_S.rf
  generalize hAe : y_A (m_w r cN cZ cL S) s.heap.size = A at hE hA0 hA hS ⊢
  have hx := B.exec
  have hb := B.bytes
  have hr := B.returns
  have hlocks := B.notSynchronized
  have hown : s.vm.findClass R_Mo = some m.cls := findClass_of_methodNamed B.named
  have hl := lv_entry ([.ref (r 20), .int k, .int w, .int mk]) (n := 4) (Nat.le_of_ble_eq_true rfl)
  rw [lg_entry_eq]
  generalize (lg_sl ([.ref (r 20), .int k, .int w, .int mk]) ++ List.replicate (4 - (lg_sl ([.ref (r 20), .int k, .int w, .int mk])).length) Slot.unset).toArray = ls at hl ⊢
  have hl : lv_has ls 4 [(0, .ref (r 20)), (1, .int k), (2, .int w), (3, .int mk)] := hl
  have hR0 := hR
  have hn : a.n ≤ cn := hw.2.2.2.2.2.2.2.2.2.1
  have hmm : a.mem ≤ 65536 := hw.2.2.2.2.2.2.2.2.1
  obtain ⟨r1, ⟨r2, r3, r4, r5⟩, r6, r7, r8, r9, r10, en, r11, r12, r13, r14⟩ := hR
  refine lv_aload_n hx hb d_Mo_plain_0 rfl (lv_at hl 0 rfl) ?_
  refine lv_iconst (v := 0) hx hb d_Mo_plain_1 (by decide) ?_
  refine y_put (D := D) (ci := 5) (v := .int 0) (ty := .int) (C := R_Mo) (T := F_Mo) (N := 20) hx hb hts in_Mo t_Mo t_Mo_ok n_Mo hown hK hP hA hS (m_at hri (i := 20) (by decide)) rfl 10 (by decide) (hts (.fieldLink R_Mo 59 "MemoryDeskModel" "err" "I") (by decide +kernel)) (fun _ h9 => h9) rfl (by decide +kernel) rfl rfl (Nat.le_of_ble_eq_true rfl) d_Mo_plain_2 (fun H locs hP hA hS => ?_)
  have e9 : va_up (m_w r cN cZ cL S) (r 20) (some (.inr (5, [.ref (r 0), .ref (r 1), .ref (r 2), .ref (r 3), .ref (r 4), .ref (r 5), .ref (r 6), .int (S.2.2 7), .int (S.2.2 8), .int (S.2.2 9), .int 0, .ref (r 11), .ref (r 12), .ref (r 13), .int (S.2.2 14), .ref (r 15), .ref (r 16), .ref (r 17), .ref (r 18), .int (S.2.2 19)]))) = (m_w r cN cZ cL (m_s S 10 0)) := m_ws10 hri S 0
  have hP : y_P D vwCl (m_w r cN cZ cL (m_s S 10 0)) H := by rw [← e9]; exact hP
  have hA : ∀ q99 e99, (m_w r cN cZ cL (m_s S 10 0)) q99 = some e99 → A q99 := by rw [← e9]; exact hA
  refine lv_aload_n hx hb d_Mo_plain_5 rfl (lv_at hl 0 rfl) ?_
  refine lv_iload_n hx hb d_Mo_plain_6 rfl (lv_at hl 1 rfl) ?_
  refine lv_bipush (v := 15) hx hb d_Mo_plain_7 (by decide) ?_
  refine w_callS (As := [.int k, .int 15]) ⟨hx, hb, hml, hown, hts⟩ (c_Mo_in l D cK cI cN cZ cL r hri (m_s S 10 0) _ k 15) (x_cb (va_cwS (own := R_Mo) (index := 93) 2 hts (x_gi (by decide +kernel)) rfl rfl rfl (by decide +kernel) ⟨by decide, by decide⟩).1) (hts (.static y_Mo_in) (by decide +kernel)) hE hP hA hA0 hS rfl hl.1 rfl (lv_room (Nat.le_of_ble_eq_true rfl)) d_Mo_plain_9 (by first | decide | omega) (by first | decide | omega) (fun v9 g9 H locs hq9 hP hA hS => ?_) (fun E9 q9 ce9 g9 H locs hq9 hP hA hS z1 z2 z3 => ?_)
  rotate_left
  · exact nomatch hq9.1
  obtain ⟨hv9, hg9⟩ := hq9
  cases hv9
  rw [hg9] at hP hA
  refine W.eq (g2 := F0 m 12 ls [.int (c_bit (¬ k < 0 ∧ k ≤ 15)), .ref (r 20)]) rfl ?_
  refine lv_if_eq hx hb d_Mo_plain_12 rfl (fun h1 => ?_) (fun h1 => ?_)
  · -- ifeq at 12: to 24
    have hk : ¬ b_in k 16 := fun z => by have hy_ := h1; rw [c_bit.y (show ¬ k < 0 ∧ k ≤ 15 from (b_inI (n := 15) (by decide)).mpr z)] at hy_; exact absurd hy_ (by decide)
    refine lv_iconst (v := 1) hx hb d_Mo_plain_24 (by decide) ?_
    refine lv_goto hx hb d_Mo_plain_25 rfl ?_
    refine lv_iconst (v := 1) hx hb d_Mo_plain_29 (by decide) ?_
    refine w_callV (As := [.int 1, .int 1]) (C := R_Mo) ⟨hx, hb, hml, hown, hts⟩ (c_Mo_fails l D cK cI cN cZ cL r hri (m_s S 10 0) _ 1 1 (by decide)) (x_cb (cwV (own := R_Mo) (index := 96) (C := R_Mo) 2 hts (x_gi (by decide +kernel)) rfl rfl rfl (by decide +kernel) ⟨by decide, by decide⟩).1) (hts (.instanceMethod y_Mo_fails) (by decide +kernel)) (hts (.selects R_Mo y_Mo_fails y_Mo_fails) (by decide +kernel)) (y_recv (ci := 5) (q := (R_Mo, F_Mo, 20)) hK hP rfl (m_at hri (i := 20) (by decide))) hE hP hA hA0 hS rfl hl.1 rfl (lv_room (Nat.le_of_ble_eq_true rfl)) d_Mo_plain_30 (by first | decide | omega) (by first | decide | omega) (fun v9 g9 H locs hq9 hP hA hS => ?_) (fun E9 q9 ce9 g9 H locs hq9 hP hA hS z1 z2 z3 => ?_)
    rotate_left
    · rcases hq9 with z | z | z
      · exact nomatch z.2.2.1
      · exact nomatch z.2.1
      · exact nomatch z.2.2.1
    rcases hq9 with ⟨z1, z2, hv9, hg9⟩ | ⟨z1, hv9, hg9⟩ | ⟨z1, z2, hv9, hg9⟩
    · exact absurd z1 (by decide)
    · exact absurd rfl z1
    · cases hv9
      rw [hg9] at hP hA
      refine W.eq (g2 := F0 m 33 ls [.int 1]) rfl ?_
      refine lv_if_ne hx hb d_Mo_plain_33 rfl (fun h2 => ?_) (fun h2 => (absurd h2 (by decide)))
      refine W.widen (k := 0) (n := 0) (by first | decide | omega) (by first | decide | omega) ?_
      exact x_ret (W.vret hx hb hr (w_fin rfl hAe ⟨rfl, m_bad (i := 0) (q_n (fun z => hk z.1)) rfl ((hR0.err 0).err 1)⟩ hP hA hS) hS.2.2 d_Mo_plain_64)
  · -- ifeq at 12: to 15
    have hk : b_in k 16 := (b_inI (n := 15) (by decide)).mp (Classical.byContradiction (fun z => h1 (c_bit.n z)))
    refine lv_iload_n hx hb d_Mo_plain_15 rfl (lv_at hl 2 rfl) ?_
    refine lv_bipush (v := 16) hx hb d_Mo_plain_16 (by decide) ?_
    refine w_callS (As := [.int w, .int 16]) ⟨hx, hb, hml, hown, hts⟩ (c_Mo_in l D cK cI cN cZ cL r hri (m_s S 10 0) _ w 16) (x_cb (va_cwS (own := R_Mo) (index := 93) 2 hts (x_gi (by decide +kernel)) rfl rfl rfl (by decide +kernel) ⟨by decide, by decide⟩).1) (hts (.static y_Mo_in) (by decide +kernel)) hE hP hA hA0 hS rfl hl.1 rfl (lv_room (Nat.le_of_ble_eq_true rfl)) d_Mo_plain_18 (by first | decide | omega) (by first | decide | omega) (fun v9 g9 H locs hq9 hP hA hS => ?_) (fun E9 q9 ce9 g9 H locs hq9 hP hA hS z1 z2 z3 => ?_)
    rotate_left
    · exact nomatch hq9.1
    obtain ⟨hv9, hg9⟩ := hq9
    cases hv9
    rw [hg9] at hP hA
    refine W.eq (g2 := F0 m 21 ls [.int (c_bit (¬ w < 0 ∧ w ≤ 16)), .ref (r 20)]) rfl ?_
    refine lv_if_ne hx hb d_Mo_plain_21 rfl (fun h3 => ?_) (fun h3 => ?_)
    · -- ifne at 21: to 28
      have hwd : b_in w 17 := (b_inI (n := 16) (by decide)).mp (Classical.byContradiction (fun z => h3 (c_bit.n z)))
      refine lv_iconst (v := 0) hx hb d_Mo_plain_28 (by decide) ?_
      refine lv_iconst (v := 1) hx hb d_Mo_plain_29 (by decide) ?_
      refine w_callV (As := [.int 0, .int 1]) (C := R_Mo) ⟨hx, hb, hml, hown, hts⟩ (c_Mo_fails l D cK cI cN cZ cL r hri (m_s S 10 0) _ 0 1 (by decide)) (x_cb (cwV (own := R_Mo) (index := 96) (C := R_Mo) 2 hts (x_gi (by decide +kernel)) rfl rfl rfl (by decide +kernel) ⟨by decide, by decide⟩).1) (hts (.instanceMethod y_Mo_fails) (by decide +kernel)) (hts (.selects R_Mo y_Mo_fails y_Mo_fails) (by decide +kernel)) (y_recv (ci := 5) (q := (R_Mo, F_Mo, 20)) hK hP rfl (m_at hri (i := 20) (by decide))) hE hP hA hA0 hS rfl hl.1 rfl (lv_room (Nat.le_of_ble_eq_true rfl)) d_Mo_plain_30 (by first | decide | omega) (by first | decide | omega) (fun v9 g9 H locs hq9 hP hA hS => ?_) (fun E9 q9 ce9 g9 H locs hq9 hP hA hS z1 z2 z3 => ?_)
      rotate_left
      · rcases hq9 with z | z | z
        · exact nomatch z.2.2.1
        · exact nomatch z.2.1
        · exact nomatch z.2.2.1
      rcases hq9 with ⟨z1, z2, hv9, hg9⟩ | ⟨z1, hv9, hg9⟩ | ⟨z1, z2, hv9, hg9⟩
      · cases hv9
        rw [hg9] at hP hA
        refine W.eq (g2 := F0 m 33 ls [.int 0]) rfl ?_
        refine lv_if_ne hx hb d_Mo_plain_33 rfl (fun h4 => (absurd rfl h4)) (fun h4 => ?_)
        refine lv_aload_n hx hb d_Mo_plain_36 rfl (lv_at hl 0 rfl) ?_
        refine lv_iload_n hx hb d_Mo_plain_37 rfl (lv_at hl 3 rfl) ?_
        refine lv_iload_n hx hb d_Mo_plain_38 rfl (lv_at hl 2 rfl) ?_
        refine lv_iushr hx hb d_Mo_plain_39 rfl ?_
        refine lv_if_ne hx hb d_Mo_plain_40 rfl (fun h5 => ?_) (fun h5 => ?_)
        · -- ifne at 40: to 52
          refine lv_iconst (v := 1) hx hb d_Mo_plain_52 (by decide) ?_
          refine lv_goto hx hb d_Mo_plain_53 rfl ?_
          refine lv_iconst (v := 1) hx hb d_Mo_plain_57 (by decide) ?_
          refine w_callV (As := [.int 1, .int 1]) (C := R_Mo) ⟨hx, hb, hml, hown, hts⟩ (c_Mo_fails l D cK cI cN cZ cL r hri (m_s S 10 0) _ 1 1 (by decide)) (x_cb (cwV (own := R_Mo) (index := 96) (C := R_Mo) 2 hts (x_gi (by decide +kernel)) rfl rfl rfl (by decide +kernel) ⟨by decide, by decide⟩).1) (hts (.instanceMethod y_Mo_fails) (by decide +kernel)) (hts (.selects R_Mo y_Mo_fails y_Mo_fails) (by decide +kernel)) (y_recv (ci := 5) (q := (R_Mo, F_Mo, 20)) hK hP rfl (m_at hri (i := 20) (by decide))) hE hP hA hA0 hS rfl hl.1 rfl (lv_room (Nat.le_of_ble_eq_true rfl)) d_Mo_plain_58 (by first | decide | omega) (by first | decide | omega) (fun v9 g9 H locs hq9 hP hA hS => ?_) (fun E9 q9 ce9 g9 H locs hq9 hP hA hS z1 z2 z3 => ?_)
          rotate_left
          · rcases hq9 with z | z | z
            · exact nomatch z.2.2.1
            · exact nomatch z.2.1
            · exact nomatch z.2.2.1
          rcases hq9 with ⟨z1, z2, hv9, hg9⟩ | ⟨z1, hv9, hg9⟩ | ⟨z1, z2, hv9, hg9⟩
          · exact absurd z1 (by decide)
          · exact absurd rfl z1
          · cases hv9
            rw [hg9] at hP hA
            refine W.eq (g2 := F0 m 61 ls [.int 1]) rfl ?_
            refine lv_if_eq hx hb d_Mo_plain_61 rfl (fun h6 => (absurd h6 (by decide))) (fun h6 => ?_)
            refine W.widen (k := 0) (n := 0) (by first | decide | omega) (by first | decide | omega) ?_
            exact x_ret (W.vret hx hb hr (w_fin rfl hAe ⟨rfl, m_bad (i := 0) (q_n (fun z => h5 z.2.2.1)) rfl ((hR0.err 0).err 1)⟩ hP hA hS) hS.2.2 d_Mo_plain_64)
        · -- ifne at 40: to 43
          refine lv_aload_n hx hb d_Mo_plain_43 rfl (lv_at hl 0 rfl) ?_
          refine y_get (D := D) (ci := 5) (v := .ref (r 3)) (C := R_Mo) (T := F_Mo) (N := 20) hx hb hts in_Mo hown hK hP (m_at hri (i := 20) (by decide)) rfl 3 (by decide) (hts (.fieldLink R_Mo 19 "MemoryDeskModel" "defined" "[Z") (by decide +kernel)) (fun _ h9 => h9) rfl d_Mo_plain_44 ?_
          refine lv_iload_n hx hb d_Mo_plain_47 rfl (lv_at hl 1 rfl) ?_
          refine y_zald (f := (S.1 3)) hx hb hK hP 3 (m_at hri (i := 3) (by decide)) rfl hk.v16 d_Mo_plain_48 ?_
          rcases r1 (j_n k) hk.j16 with ⟨hkd, hdf⟩ | ⟨q, hkd, hdf, -⟩
          · rw [hdf]
            refine lv_if_eq hx hb d_Mo_plain_49 rfl (fun h7 => ?_) (fun h7 => (absurd rfl h7))
            refine lv_iconst (v := 0) hx hb d_Mo_plain_56 (by decide) ?_
            refine lv_iconst (v := 1) hx hb d_Mo_plain_57 (by decide) ?_
            refine w_callV (As := [.int 0, .int 1]) (C := R_Mo) ⟨hx, hb, hml, hown, hts⟩ (c_Mo_fails l D cK cI cN cZ cL r hri (m_s S 10 0) _ 0 1 (by decide)) (x_cb (cwV (own := R_Mo) (index := 96) (C := R_Mo) 2 hts (x_gi (by decide +kernel)) rfl rfl rfl (by decide +kernel) ⟨by decide, by decide⟩).1) (hts (.instanceMethod y_Mo_fails) (by decide +kernel)) (hts (.selects R_Mo y_Mo_fails y_Mo_fails) (by decide +kernel)) (y_recv (ci := 5) (q := (R_Mo, F_Mo, 20)) hK hP rfl (m_at hri (i := 20) (by decide))) hE hP hA hA0 hS rfl hl.1 rfl (lv_room (Nat.le_of_ble_eq_true rfl)) d_Mo_plain_58 (by first | decide | omega) (by first | decide | omega) (fun v9 g9 H locs hq9 hP hA hS => ?_) (fun E9 q9 ce9 g9 H locs hq9 hP hA hS z1 z2 z3 => ?_)
            rotate_left
            · rcases hq9 with z | z | z
              · exact nomatch z.2.2.1
              · exact nomatch z.2.1
              · exact nomatch z.2.2.1
            rcases hq9 with ⟨z1, z2, hv9, hg9⟩ | ⟨z1, hv9, hg9⟩ | ⟨z1, z2, hv9, hg9⟩
            · cases hv9
              rw [hg9] at hP hA
              refine W.eq (g2 := F0 m 61 ls [.int 0]) rfl ?_
              refine lv_if_eq hx hb d_Mo_plain_61 rfl (fun h8 => ?_) (fun h8 => (absurd rfl h8))
              refine lv_aload_n hx hb d_Mo_plain_65 rfl (lv_at hl 0 rfl) ?_
              refine y_get (D := D) (ci := 5) (v := .ref (r 3)) (C := R_Mo) (T := F_Mo) (N := 20) hx hb hts in_Mo hown hK hP (m_at hri (i := 20) (by decide)) rfl 3 (by decide) (hts (.fieldLink R_Mo 19 "MemoryDeskModel" "defined" "[Z") (by decide +kernel)) (fun _ h9 => h9) rfl d_Mo_plain_66 ?_
              refine lv_iload_n hx hb d_Mo_plain_69 rfl (lv_at hl 1 rfl) ?_
              refine lv_iconst (v := 1) hx hb d_Mo_plain_70 (by decide) ?_
              refine y_zast (f := (S.1 3)) hx hb hK hP hA hS 3 (m_at hri (i := 3) (by decide)) rfl hk.v16 m_nar1 d_Mo_plain_71 (fun H locs hP hA hS => ?_)
              have e9 : va_up (m_w r cN cZ cL (m_s S 10 0)) (r 3) (some (.inl (cZ, 16, .inl (upd (S.1 3) k.toNatClampNeg 1)))) = (m_w r cN cZ cL (m_a (m_s S 10 0) 3 k.toNatClampNeg 1)) := m_wa3 hri (m_s S 10 0) k.toNatClampNeg 1
              have hP : y_P D vwCl (m_w r cN cZ cL (m_a (m_s S 10 0) 3 k.toNatClampNeg 1)) H := by rw [← e9]; exact hP
              have hA : ∀ q99 e99, (m_w r cN cZ cL (m_a (m_s S 10 0) 3 k.toNatClampNeg 1)) q99 = some e99 → A q99 := by rw [← e9]; exact hA
              refine lv_aload_n hx hb d_Mo_plain_72 rfl (lv_at hl 0 rfl) ?_
              refine y_get (D := D) (ci := 5) (v := .ref (r 2)) (C := R_Mo) (T := F_Mo) (N := 20) hx hb hts in_Mo hown hK hP (m_at hri (i := 20) (by decide)) rfl 2 (by decide) (hts (.fieldLink R_Mo 16 "MemoryDeskModel" "kindRow" "[I") (by decide +kernel)) (fun _ h9 => h9) rfl d_Mo_plain_73 ?_
              refine lv_iload_n hx hb d_Mo_plain_76 rfl (lv_at hl 1 rfl) ?_
              refine lv_iconst (v := (-1)) hx hb d_Mo_plain_77 (by decide) ?_
              refine y_iast (f := (S.1 2)) hx hb hK hP hA hS 2 (m_at hri (i := 2) (by decide)) rfl hk.v16 d_Mo_plain_78 (fun H locs hP hA hS => ?_)
              have e9 : va_up (m_w r cN cZ cL (m_a (m_s S 10 0) 3 k.toNatClampNeg 1)) (r 2) (some (.inl (cN, 16, .inl (upd (S.1 2) k.toNatClampNeg (-1))))) = (m_w r cN cZ cL (m_a (m_a (m_s S 10 0) 3 k.toNatClampNeg 1) 2 k.toNatClampNeg (-1))) := m_wa2 hri (m_a (m_s S 10 0) 3 k.toNatClampNeg 1) k.toNatClampNeg (-1)
              have hP : y_P D vwCl (m_w r cN cZ cL (m_a (m_a (m_s S 10 0) 3 k.toNatClampNeg 1) 2 k.toNatClampNeg (-1))) H := by rw [← e9]; exact hP
              have hA : ∀ q99 e99, (m_w r cN cZ cL (m_a (m_a (m_s S 10 0) 3 k.toNatClampNeg 1) 2 k.toNatClampNeg (-1))) q99 = some e99 → A q99 := by rw [← e9]; exact hA
              refine lv_aload_n hx hb d_Mo_plain_79 rfl (lv_at hl 0 rfl) ?_
              refine y_get (D := D) (ci := 5) (v := .ref (r 0)) (C := R_Mo) (T := F_Mo) (N := 20) hx hb hts in_Mo hown hK hP (m_at hri (i := 20) (by decide)) rfl 0 (by decide) (hts (.fieldLink R_Mo 7 "MemoryDeskModel" "kindWords" "[I") (by decide +kernel)) (fun _ h9 => h9) rfl d_Mo_plain_80 ?_
              refine lv_iload_n hx hb d_Mo_plain_83 rfl (lv_at hl 1 rfl) ?_
              refine lv_iload_n hx hb d_Mo_plain_84 rfl (lv_at hl 2 rfl) ?_
              refine y_iast (f := (S.1 0)) hx hb hK hP hA hS 2 (m_at hri (i := 0) (by decide)) rfl hk.v16 d_Mo_plain_85 (fun H locs hP hA hS => ?_)
              have e9 : va_up (m_w r cN cZ cL (m_a (m_a (m_s S 10 0) 3 k.toNatClampNeg 1) 2 k.toNatClampNeg (-1))) (r 0) (some (.inl (cN, 16, .inl (upd (S.1 0) k.toNatClampNeg w)))) = (m_w r cN cZ cL (m_a (m_a (m_a (m_s S 10 0) 3 k.toNatClampNeg 1) 2 k.toNatClampNeg (-1)) 0 k.toNatClampNeg w)) := m_wa0 hri (m_a (m_a (m_s S 10 0) 3 k.toNatClampNeg 1) 2 k.toNatClampNeg (-1)) k.toNatClampNeg w
              have hP : y_P D vwCl (m_w r cN cZ cL (m_a (m_a (m_a (m_s S 10 0) 3 k.toNatClampNeg 1) 2 k.toNatClampNeg (-1)) 0 k.toNatClampNeg w)) H := by rw [← e9]; exact hP
              have hA : ∀ q99 e99, (m_w r cN cZ cL (m_a (m_a (m_a (m_s S 10 0) 3 k.toNatClampNeg 1) 2 k.toNatClampNeg (-1)) 0 k.toNatClampNeg w)) q99 = some e99 → A q99 := by rw [← e9]; exact hA
              refine lv_aload_n hx hb d_Mo_plain_86 rfl (lv_at hl 0 rfl) ?_
              refine y_get (D := D) (ci := 5) (v := .ref (r 1)) (C := R_Mo) (T := F_Mo) (N := 20) hx hb hts in_Mo hown hK hP (m_at hri (i := 20) (by decide)) rfl 1 (by decide) (hts (.fieldLink R_Mo 13 "MemoryDeskModel" "kindMask" "[I") (by decide +kernel)) (fun _ h9 => h9) rfl d_Mo_plain_87 ?_
              refine lv_iload_n hx hb d_Mo_plain_90 rfl (lv_at hl 1 rfl) ?_
              refine lv_iload_n hx hb d_Mo_plain_91 rfl (lv_at hl 3 rfl) ?_
              refine y_iast (f := (S.1 1)) hx hb hK hP hA hS 2 (m_at hri (i := 1) (by decide)) rfl hk.v16 d_Mo_plain_92 (fun H locs hP hA hS => ?_)
              have e9 : va_up (m_w r cN cZ cL (m_a (m_a (m_a (m_s S 10 0) 3 k.toNatClampNeg 1) 2 k.toNatClampNeg (-1)) 0 k.toNatClampNeg w)) (r 1) (some (.inl (cN, 16, .inl (upd (S.1 1) k.toNatClampNeg mk)))) = (m_w r cN cZ cL (m_a (m_a (m_a (m_a (m_s S 10 0) 3 k.toNatClampNeg 1) 2 k.toNatClampNeg (-1)) 0 k.toNatClampNeg w) 1 k.toNatClampNeg mk)) := m_wa1 hri (m_a (m_a (m_a (m_s S 10 0) 3 k.toNatClampNeg 1) 2 k.toNatClampNeg (-1)) 0 k.toNatClampNeg w) k.toNatClampNeg mk
              have hP : y_P D vwCl (m_w r cN cZ cL (m_a (m_a (m_a (m_a (m_s S 10 0) 3 k.toNatClampNeg 1) 2 k.toNatClampNeg (-1)) 0 k.toNatClampNeg w) 1 k.toNatClampNeg mk)) H := by rw [← e9]; exact hP
              have hA : ∀ q99 e99, (m_w r cN cZ cL (m_a (m_a (m_a (m_a (m_s S 10 0) 3 k.toNatClampNeg 1) 2 k.toNatClampNeg (-1)) 0 k.toNatClampNeg w) 1 k.toNatClampNeg mk)) q99 = some e99 → A q99 := by rw [← e9]; exact hA
              refine W.widen (k := 0) (n := 0) (by first | decide | omega) (by first | decide | omega) ?_
              exact x_ret (W.vret hx hb hr (w_fin rfl hAe ⟨rfl, m_good (q_y ⟨hk, hwd, h5, hkd⟩) rfl (((hR0.err 0).kindP).up (Nat.le_succ _))⟩ hP hA hS) hS.2.2 d_Mo_plain_93)
            · exact absurd rfl z1
            · exact absurd rfl z1
          · rw [hdf]
            refine lv_if_eq hx hb d_Mo_plain_49 rfl (fun h9 => (absurd h9 (by decide))) (fun h9 => ?_)
            refine lv_iconst (v := 1) hx hb d_Mo_plain_52 (by decide) ?_
            refine lv_goto hx hb d_Mo_plain_53 rfl ?_
            refine lv_iconst (v := 1) hx hb d_Mo_plain_57 (by decide) ?_
            refine w_callV (As := [.int 1, .int 1]) (C := R_Mo) ⟨hx, hb, hml, hown, hts⟩ (c_Mo_fails l D cK cI cN cZ cL r hri (m_s S 10 0) _ 1 1 (by decide)) (x_cb (cwV (own := R_Mo) (index := 96) (C := R_Mo) 2 hts (x_gi (by decide +kernel)) rfl rfl rfl (by decide +kernel) ⟨by decide, by decide⟩).1) (hts (.instanceMethod y_Mo_fails) (by decide +kernel)) (hts (.selects R_Mo y_Mo_fails y_Mo_fails) (by decide +kernel)) (y_recv (ci := 5) (q := (R_Mo, F_Mo, 20)) hK hP rfl (m_at hri (i := 20) (by decide))) hE hP hA hA0 hS rfl hl.1 rfl (lv_room (Nat.le_of_ble_eq_true rfl)) d_Mo_plain_58 (by first | decide | omega) (by first | decide | omega) (fun v9 g9 H locs hq9 hP hA hS => ?_) (fun E9 q9 ce9 g9 H locs hq9 hP hA hS z1 z2 z3 => ?_)
            rotate_left
            · rcases hq9 with z | z | z
              · exact nomatch z.2.2.1
              · exact nomatch z.2.1
              · exact nomatch z.2.2.1
            rcases hq9 with ⟨z1, z2, hv9, hg9⟩ | ⟨z1, hv9, hg9⟩ | ⟨z1, z2, hv9, hg9⟩
            · exact absurd z1 (by decide)
            · exact absurd rfl z1
            · cases hv9
              rw [hg9] at hP hA
              refine W.eq (g2 := F0 m 61 ls [.int 1]) rfl ?_
              refine lv_if_eq hx hb d_Mo_plain_61 rfl (fun h10 => (absurd h10 (by decide))) (fun h10 => ?_)
              refine W.widen (k := 0) (n := 0) (by first | decide | omega) (by first | decide | omega) ?_
              exact x_ret (W.vret hx hb hr (w_fin rfl hAe ⟨rfl, m_bad (i := 0) (q_n (fun z => by rw [hkd] at z; cases z.2.2.2)) rfl ((hR0.err 0).err 1)⟩ hP hA hS) hS.2.2 d_Mo_plain_64)
      · exact absurd rfl z1
      · exact absurd rfl z1
    · -- ifne at 21: to 24
      have hwd : ¬ b_in w 17 := fun z => by have hy_ := h3; rw [c_bit.y (show ¬ w < 0 ∧ w ≤ 16 from (b_inI (n := 16) (by decide)).mpr z)] at hy_; exact absurd hy_ (by decide)
      refine lv_iconst (v := 1) hx hb d_Mo_plain_24 (by decide) ?_
      refine lv_goto hx hb d_Mo_plain_25 rfl ?_
      refine lv_iconst (v := 1) hx hb d_Mo_plain_29 (by decide) ?_
      refine w_callV (As := [.int 1, .int 1]) (C := R_Mo) ⟨hx, hb, hml, hown, hts⟩ (c_Mo_fails l D cK cI cN cZ cL r hri (m_s S 10 0) _ 1 1 (by decide)) (x_cb (cwV (own := R_Mo) (index := 96) (C := R_Mo) 2 hts (x_gi (by decide +kernel)) rfl rfl rfl (by decide +kernel) ⟨by decide, by decide⟩).1) (hts (.instanceMethod y_Mo_fails) (by decide +kernel)) (hts (.selects R_Mo y_Mo_fails y_Mo_fails) (by decide +kernel)) (y_recv (ci := 5) (q := (R_Mo, F_Mo, 20)) hK hP rfl (m_at hri (i := 20) (by decide))) hE hP hA hA0 hS rfl hl.1 rfl (lv_room (Nat.le_of_ble_eq_true rfl)) d_Mo_plain_30 (by first | decide | omega) (by first | decide | omega) (fun v9 g9 H locs hq9 hP hA hS => ?_) (fun E9 q9 ce9 g9 H locs hq9 hP hA hS z1 z2 z3 => ?_)
      rotate_left
      · rcases hq9 with z | z | z
        · exact nomatch z.2.2.1
        · exact nomatch z.2.1
        · exact nomatch z.2.2.1
      rcases hq9 with ⟨z1, z2, hv9, hg9⟩ | ⟨z1, hv9, hg9⟩ | ⟨z1, z2, hv9, hg9⟩
      · exact absurd z1 (by decide)
      · exact absurd rfl z1
      · cases hv9
        rw [hg9] at hP hA
        refine W.eq (g2 := F0 m 33 ls [.int 1]) rfl ?_
        refine lv_if_ne hx hb d_Mo_plain_33 rfl (fun h11 => ?_) (fun h11 => (absurd h11 (by decide)))
        refine W.widen (k := 0) (n := 0) (by first | decide | omega) (by first | decide | omega) ?_
        exact x_ret (W.vret hx hb hr (w_fin rfl hAe ⟨rfl, m_bad (i := 0) (q_n (fun z => hwd z.2.1)) rfl ((hR0.err 0).err 1)⟩ hP hA hS) hS.2.2 d_Mo_plain_64)
set_option maxHeartbeats 4000000 in
set_option maxRecDepth 100000 in
/-- size(s) -/
theorem c_Mo_size (l : Launch) (D : va_G) (cK cI cN cZ cL : ClassId) (r : Nat → Nat) (hri : m_inj r) (S : MS) (sz : Nat) (a : Ab) (cn : Nat) (sv : Int32) (hw : a_W a cn) (hc : cn ≤ 512) (hR : m_R a S cn)  : x_M l y_Mo_size [.code y_Mo_size b_Mo_size 2 (some .int)] rmV (w_Pc D (x_tys cK cI cN cZ cL) [.ref (r 20), .int sv] (m_w r cN cZ cL S) sz) (w_Qc D (m_w r cN cZ cL S) sz (fun r9 g9 => m_aI (s_size a sv) r9 ∧ m_E r cN cZ cL (s_size a sv) cn g9)) 0 0 (y_A (m_w r cN cZ cL S) sz) := by
  refine x_ofW (cc := b_Mo_size) (maxL := 2) (ret := (some .int)) (by decide) rfl ?_
  intro p e s m args below meth c s₁ B hml hno hv
  obtain ⟨rfl, hsz, hP, hE⟩ := hv
  subst hsz
  have hts := hE.hts ([.ref (r 20), .int sv] : List Value).toArray
  have hK := hE.1.2.1
  have hA0 : ∀ q, s.heap.size ≤ q → y_A (m_w r cN cZ cL S) s.heap.size q := fun q h => Or.inr h
  have hA : ∀ q e, (m_w r cN cZ cL S) q = some e → y_A (m_w r cN cZ cL S) s.heap.size q := fun q e h => Or.inl (by rw [h]; exact fun z => nomatch z)
  have hS : va_S (y_A (m_w r cN cZ cL S) s.heap.size) s.heap s.heap [] := va_S.rf
  generalize hAe : y_A (m_w r cN cZ cL S) s.heap.size = A at hE hA0 hA hS ⊢
  have hx := B.exec
  have hb := B.bytes
  have hr := B.returns
  have hlocks := B.notSynchronized
  have hown : s.vm.findClass R_Mo = some m.cls := findClass_of_methodNamed B.named
  have hl := lv_entry ([.ref (r 20), .int sv]) (n := 2) (Nat.le_of_ble_eq_true rfl)
  rw [lg_entry_eq]
  generalize (lg_sl ([.ref (r 20), .int sv]) ++ List.replicate (2 - (lg_sl ([.ref (r 20), .int sv])).length) Slot.unset).toArray = ls at hl ⊢
  have hl : lv_has ls 2 [(0, .ref (r 20)), (1, .int sv)] := hl
  have hR0 := hR
  have hn : a.n ≤ cn := hw.2.2.2.2.2.2.2.2.2.1
  have hmm : a.mem ≤ 65536 := hw.2.2.2.2.2.2.2.2.1
  obtain ⟨r1, ⟨r2, r3, r4, r5⟩, r6, r7, r8, r9, r10, en, r11, r12, r13, r14⟩ := hR
  refine lv_aload_n hx hb d_Mo_size_0 rfl (lv_at hl 0 rfl) ?_
  refine lv_iconst (v := 0) hx hb d_Mo_size_1 (by decide) ?_
  refine y_put (D := D) (ci := 5) (v := .int 0) (ty := .int) (C := R_Mo) (T := F_Mo) (N := 20) hx hb hts in_Mo t_Mo t_Mo_ok n_Mo hown hK hP hA hS (m_at hri (i := 20) (by decide)) rfl 10 (by decide) (hts (.fieldLink R_Mo 59 "MemoryDeskModel" "err" "I") (by decide +kernel)) (fun _ h9 => h9) rfl (by decide +kernel) rfl rfl (Nat.le_of_ble_eq_true rfl) d_Mo_size_2 (fun H locs hP hA hS => ?_)
  have e9 : va_up (m_w r cN cZ cL S) (r 20) (some (.inr (5, [.ref (r 0), .ref (r 1), .ref (r 2), .ref (r 3), .ref (r 4), .ref (r 5), .ref (r 6), .int (S.2.2 7), .int (S.2.2 8), .int (S.2.2 9), .int 0, .ref (r 11), .ref (r 12), .ref (r 13), .int (S.2.2 14), .ref (r 15), .ref (r 16), .ref (r 17), .ref (r 18), .int (S.2.2 19)]))) = (m_w r cN cZ cL (m_s S 10 0)) := m_ws10 hri S 0
  have hP : y_P D vwCl (m_w r cN cZ cL (m_s S 10 0)) H := by rw [← e9]; exact hP
  have hA : ∀ q99 e99, (m_w r cN cZ cL (m_s S 10 0)) q99 = some e99 → A q99 := by rw [← e9]; exact hA
  refine lv_aload_n hx hb d_Mo_size_5 rfl (lv_at hl 0 rfl) ?_
  refine lv_iload_n hx hb d_Mo_size_6 rfl (lv_at hl 1 rfl) ?_
  refine lv_bipush (v := 31) hx hb d_Mo_size_7 (by decide) ?_
  refine w_callS (As := [.int sv, .int 31]) ⟨hx, hb, hml, hown, hts⟩ (c_Mo_in l D cK cI cN cZ cL r hri (m_s S 10 0) _ sv 31) (x_cb (va_cwS (own := R_Mo) (index := 93) 2 hts (x_gi (by decide +kernel)) rfl rfl rfl (by decide +kernel) ⟨by decide, by decide⟩).1) (hts (.static y_Mo_in) (by decide +kernel)) hE hP hA hA0 hS rfl hl.1 rfl (lv_room (Nat.le_of_ble_eq_true rfl)) d_Mo_size_9 (by first | decide | omega) (by first | decide | omega) (fun v9 g9 H locs hq9 hP hA hS => ?_) (fun E9 q9 ce9 g9 H locs hq9 hP hA hS z1 z2 z3 => ?_)
  rotate_left
  · exact nomatch hq9.1
  obtain ⟨hv9, hg9⟩ := hq9
  cases hv9
  rw [hg9] at hP hA
  refine W.eq (g2 := F0 m 12 ls [.int (c_bit (¬ sv < 0 ∧ sv ≤ 31)), .ref (r 20)]) rfl ?_
  refine lv_if_ne hx hb d_Mo_size_12 rfl (fun h1 => ?_) (fun h1 => ?_)
  · -- ifne at 12: to 19
    have hs : b_in sv 32 := (b_inI (n := 31) (by decide)).mp (Classical.byContradiction (fun z => h1 (c_bit.n z)))
    refine lv_iconst (v := 0) hx hb d_Mo_size_19 (by decide) ?_
    refine lv_iconst (v := 1) hx hb d_Mo_size_20 (by decide) ?_
    refine w_callV (As := [.int 0, .int 1]) (C := R_Mo) ⟨hx, hb, hml, hown, hts⟩ (c_Mo_fails l D cK cI cN cZ cL r hri (m_s S 10 0) _ 0 1 (by decide)) (x_cb (cwV (own := R_Mo) (index := 96) (C := R_Mo) 2 hts (x_gi (by decide +kernel)) rfl rfl rfl (by decide +kernel) ⟨by decide, by decide⟩).1) (hts (.instanceMethod y_Mo_fails) (by decide +kernel)) (hts (.selects R_Mo y_Mo_fails y_Mo_fails) (by decide +kernel)) (y_recv (ci := 5) (q := (R_Mo, F_Mo, 20)) hK hP rfl (m_at hri (i := 20) (by decide))) hE hP hA hA0 hS rfl hl.1 rfl (lv_room (Nat.le_of_ble_eq_true rfl)) d_Mo_size_21 (by first | decide | omega) (by first | decide | omega) (fun v9 g9 H locs hq9 hP hA hS => ?_) (fun E9 q9 ce9 g9 H locs hq9 hP hA hS z1 z2 z3 => ?_)
    rotate_left
    · rcases hq9 with z | z | z
      · exact nomatch z.2.2.1
      · exact nomatch z.2.1
      · exact nomatch z.2.2.1
    rcases hq9 with ⟨z1, z2, hv9, hg9⟩ | ⟨z1, hv9, hg9⟩ | ⟨z1, z2, hv9, hg9⟩
    · cases hv9
      rw [hg9] at hP hA
      refine W.eq (g2 := F0 m 24 ls [.int 0]) rfl ?_
      refine lv_if_ne hx hb d_Mo_size_24 rfl (fun h2 => (absurd rfl h2)) (fun h2 => ?_)
      refine lv_aload_n hx hb d_Mo_size_27 rfl (lv_at hl 0 rfl) ?_
      refine lv_aload_n hx hb d_Mo_size_28 rfl (lv_at hl 0 rfl) ?_
      refine y_get (D := D) (ci := 5) (v := .ref (r 15)) (C := R_Mo) (T := F_Mo) (N := 20) hx hb hts in_Mo hown hK hP (m_at hri (i := 20) (by decide)) rfl 15 (by decide) (hts (.fieldLink R_Mo 47 "MemoryDeskModel" "slots" "[I") (by decide +kernel)) (fun _ h9 => h9) rfl d_Mo_size_29 ?_
      refine lv_iload_n hx hb d_Mo_size_32 rfl (lv_at hl 1 rfl) ?_
      refine y_iald (f := (S.1 15)) hx hb hK hP 2 (m_at hri (i := 15) (by decide)) rfl hs.v32 d_Mo_size_33 ?_
      rw [r8 (j_n sv) hs.j32]
      refine lv_if_ne hx hb d_Mo_size_34 rfl (fun h3 => ?_) (fun h3 => ?_)
      · -- ifne at 34: to 41
        have ho0 : a.sl (j_n sv) ≠ 0 := fun z => h3 (by rw [z]; rfl)
        have o1 : 1 ≤ a.sl (j_n sv) := by omega
        have o2 := hw.2.2.1 (j_n sv) hs.j32
        refine lv_iconst (v := 0) hx hb d_Mo_size_41 (by decide) ?_
        refine lv_iconst (v := 2) hx hb d_Mo_size_42 (by decide) ?_
        refine w_callV (As := [.int 0, .int 2]) (C := R_Mo) ⟨hx, hb, hml, hown, hts⟩ (c_Mo_fails l D cK cI cN cZ cL r hri (m_s S 10 0) _ 0 2 (by decide)) (x_cb (cwV (own := R_Mo) (index := 96) (C := R_Mo) 2 hts (x_gi (by decide +kernel)) rfl rfl rfl (by decide +kernel) ⟨by decide, by decide⟩).1) (hts (.instanceMethod y_Mo_fails) (by decide +kernel)) (hts (.selects R_Mo y_Mo_fails y_Mo_fails) (by decide +kernel)) (y_recv (ci := 5) (q := (R_Mo, F_Mo, 20)) hK hP rfl (m_at hri (i := 20) (by decide))) hE hP hA hA0 hS rfl hl.1 rfl (lv_room (Nat.le_of_ble_eq_true rfl)) d_Mo_size_43 (by first | decide | omega) (by first | decide | omega) (fun v9 g9 H locs hq9 hP hA hS => ?_) (fun E9 q9 ce9 g9 H locs hq9 hP hA hS z1 z2 z3 => ?_)
        rotate_left
        · rcases hq9 with z | z | z
          · exact nomatch z.2.2.1
          · exact nomatch z.2.1
          · exact nomatch z.2.2.1
        rcases hq9 with ⟨z1, z2, hv9, hg9⟩ | ⟨z1, hv9, hg9⟩ | ⟨z1, z2, hv9, hg9⟩
        · cases hv9
          rw [hg9] at hP hA
          refine W.eq (g2 := F0 m 46 ls [.int 0]) rfl ?_
          refine lv_if_eq hx hb d_Mo_size_46 rfl (fun h4 => ?_) (fun h4 => (absurd rfl h4))
          refine lv_aload_n hx hb d_Mo_size_51 rfl (lv_at hl 0 rfl) ?_
          refine lv_aload_n hx hb d_Mo_size_52 rfl (lv_at hl 0 rfl) ?_
          refine y_get (D := D) (ci := 5) (v := .ref (r 15)) (C := R_Mo) (T := F_Mo) (N := 20) hx hb hts in_Mo hown hK hP (m_at hri (i := 20) (by decide)) rfl 15 (by decide) (hts (.fieldLink R_Mo 47 "MemoryDeskModel" "slots" "[I") (by decide +kernel)) (fun _ h9 => h9) rfl d_Mo_size_53 ?_
          refine lv_iload_n hx hb d_Mo_size_56 rfl (lv_at hl 1 rfl) ?_
          refine y_iald (f := (S.1 15)) hx hb hK hP 2 (m_at hri (i := 15) (by decide)) rfl hs.v32 d_Mo_size_57 ?_
          rw [r8 (j_n sv) hs.j32]
          obtain ⟨hok, hcl, -⟩ := (hR0.err 0).ok hw hc o1 o2
          refine w_callV (As := [.int (nI (a.sl (j_n sv)))]) (C := R_Mo) ⟨hx, hb, hml, hown, hts⟩ (c_Mo_many l D cK cI cN cZ cL r hri (m_s S 10 0) _ (nI (a.sl (j_n sv))) hok) (x_cb (cwV (own := R_Mo) (index := 77) (C := R_Mo) 1 hts (x_gi (by decide +kernel)) rfl rfl rfl (by decide +kernel) ⟨by decide, by decide⟩).1) (hts (.instanceMethod y_Mo_many) (by decide +kernel)) (hts (.selects R_Mo y_Mo_many y_Mo_many) (by decide +kernel)) (y_recv (ci := 5) (q := (R_Mo, F_Mo, 20)) hK hP rfl (m_at hri (i := 20) (by decide))) hE hP hA hA0 hS rfl hl.1 rfl (lv_room (Nat.le_of_ble_eq_true rfl)) d_Mo_size_58 (by first | decide | omega) (by first | decide | omega) (fun v9 g9 H locs hq9 hP hA hS => ?_) (fun E9 q9 ce9 g9 H locs hq9 hP hA hS z1 z2 z3 => ?_)
          rotate_left
          · exact nomatch hq9.1
          obtain ⟨hv9, hg9⟩ := hq9
          cases hv9
          rw [hg9] at hP hA
          refine W.eq (g2 := F0 m 61 ls [.int (m_many (m_s S 10 0) (nI (a.sl (j_n sv))))]) rfl ?_
          rw [(hR0.err 0).many hw hc o1 o2]
          refine W.widen (k := 0) (n := 0) (by first | decide | omega) (by first | decide | omega) ?_
          exact x_ret (W.iret (v := (a_len a (a.sl (j_n sv)))) hx hb hr (w_fin rfl hAe ⟨m_goodI (s_in0 hs ho0), m_good (s_in0 hs ho0) rfl ((hR0.err 0).up (Nat.le_succ _))⟩ hP hA hS) hS.2.2 d_Mo_size_61)
        · exact absurd rfl z1
        · exact absurd rfl z1
      · -- ifne at 34: to 37
        have ho0 : a.sl (j_n sv) = 0 := ((nI_eq (b := 0) (by have := hw.2.2.1 (j_n sv) hs.j32; omega) (by omega)).mp h3)
        refine lv_iconst (v := 1) hx hb d_Mo_size_37 (by decide) ?_
        refine lv_goto hx hb d_Mo_size_38 rfl ?_
        refine lv_iconst (v := 2) hx hb d_Mo_size_42 (by decide) ?_
        refine w_callV (As := [.int 1, .int 2]) (C := R_Mo) ⟨hx, hb, hml, hown, hts⟩ (c_Mo_fails l D cK cI cN cZ cL r hri (m_s S 10 0) _ 1 2 (by decide)) (x_cb (cwV (own := R_Mo) (index := 96) (C := R_Mo) 2 hts (x_gi (by decide +kernel)) rfl rfl rfl (by decide +kernel) ⟨by decide, by decide⟩).1) (hts (.instanceMethod y_Mo_fails) (by decide +kernel)) (hts (.selects R_Mo y_Mo_fails y_Mo_fails) (by decide +kernel)) (y_recv (ci := 5) (q := (R_Mo, F_Mo, 20)) hK hP rfl (m_at hri (i := 20) (by decide))) hE hP hA hA0 hS rfl hl.1 rfl (lv_room (Nat.le_of_ble_eq_true rfl)) d_Mo_size_43 (by first | decide | omega) (by first | decide | omega) (fun v9 g9 H locs hq9 hP hA hS => ?_) (fun E9 q9 ce9 g9 H locs hq9 hP hA hS z1 z2 z3 => ?_)
        rotate_left
        · rcases hq9 with z | z | z
          · exact nomatch z.2.2.1
          · exact nomatch z.2.1
          · exact nomatch z.2.2.1
        rcases hq9 with ⟨z1, z2, hv9, hg9⟩ | ⟨z1, hv9, hg9⟩ | ⟨z1, z2, hv9, hg9⟩
        · exact absurd z1 (by decide)
        · exact absurd rfl z1
        · cases hv9
          rw [hg9] at hP hA
          refine W.eq (g2 := F0 m 46 ls [.int 1]) rfl ?_
          refine lv_if_eq hx hb d_Mo_size_46 rfl (fun h5 => (absurd h5 (by decide))) (fun h5 => ?_)
          refine lv_iconst (v := 0) hx hb d_Mo_size_49 (by decide) ?_
          refine W.widen (k := 0) (n := 0) (by first | decide | omega) (by first | decide | omega) ?_
          exact x_ret (W.iret (v := 0) hx hb hr (w_fin rfl hAe ⟨m_badI (i := 1) (s_in2 hs ho0), m_bad (i := 1) (s_in2 hs ho0) rfl ((hR0.err 0).err 2)⟩ hP hA hS) hS.2.2 d_Mo_size_50)
    · exact absurd rfl z1
    · exact absurd rfl z1
  · -- ifne at 12: to 15
    have hs : ¬ b_in sv 32 := fun z => by have hy_ := h1; rw [c_bit.y (show ¬ sv < 0 ∧ sv ≤ 31 from (b_inI (n := 31) (by decide)).mpr z)] at hy_; exact absurd hy_ (by decide)
    refine lv_iconst (v := 1) hx hb d_Mo_size_15 (by decide) ?_
    refine lv_goto hx hb d_Mo_size_16 rfl ?_
    refine lv_iconst (v := 1) hx hb d_Mo_size_20 (by decide) ?_
    refine w_callV (As := [.int 1, .int 1]) (C := R_Mo) ⟨hx, hb, hml, hown, hts⟩ (c_Mo_fails l D cK cI cN cZ cL r hri (m_s S 10 0) _ 1 1 (by decide)) (x_cb (cwV (own := R_Mo) (index := 96) (C := R_Mo) 2 hts (x_gi (by decide +kernel)) rfl rfl rfl (by decide +kernel) ⟨by decide, by decide⟩).1) (hts (.instanceMethod y_Mo_fails) (by decide +kernel)) (hts (.selects R_Mo y_Mo_fails y_Mo_fails) (by decide +kernel)) (y_recv (ci := 5) (q := (R_Mo, F_Mo, 20)) hK hP rfl (m_at hri (i := 20) (by decide))) hE hP hA hA0 hS rfl hl.1 rfl (lv_room (Nat.le_of_ble_eq_true rfl)) d_Mo_size_21 (by first | decide | omega) (by first | decide | omega) (fun v9 g9 H locs hq9 hP hA hS => ?_) (fun E9 q9 ce9 g9 H locs hq9 hP hA hS z1 z2 z3 => ?_)
    rotate_left
    · rcases hq9 with z | z | z
      · exact nomatch z.2.2.1
      · exact nomatch z.2.1
      · exact nomatch z.2.2.1
    rcases hq9 with ⟨z1, z2, hv9, hg9⟩ | ⟨z1, hv9, hg9⟩ | ⟨z1, z2, hv9, hg9⟩
    · exact absurd z1 (by decide)
    · exact absurd rfl z1
    · cases hv9
      rw [hg9] at hP hA
      refine W.eq (g2 := F0 m 24 ls [.int 1]) rfl ?_
      refine lv_if_ne hx hb d_Mo_size_24 rfl (fun h6 => ?_) (fun h6 => (absurd h6 (by decide)))
      refine lv_iconst (v := 0) hx hb d_Mo_size_49 (by decide) ?_
      refine W.widen (k := 0) (n := 0) (by first | decide | omega) (by first | decide | omega) ?_
      exact x_ret (W.iret (v := 0) hx hb hr (w_fin rfl hAe ⟨m_badI (i := 0) (q_n hs), m_bad (i := 0) (q_n hs) rfl ((hR0.err 0).err 1)⟩ hP hA hS) hS.2.2 d_Mo_size_50)
set_option maxHeartbeats 4000000 in
set_option maxRecDepth 100000 in
/-- keep(s) -/
theorem c_Mo_keep (l : Launch) (D : va_G) (cK cI cN cZ cL : ClassId) (r : Nat → Nat) (hri : m_inj r) (S : MS) (sz : Nat) (a : Ab) (cn : Nat) (sv : Int32) (hw : a_W a cn) (hc : cn ≤ 512) (hR : m_R a S cn)  : x_M l y_Mo_keep [.code y_Mo_keep b_Mo_keep 2 (some .int)] rmV (w_Pc D (x_tys cK cI cN cZ cL) [.ref (r 20), .int sv] (m_w r cN cZ cL S) sz) (w_Qc D (m_w r cN cZ cL S) sz (fun r9 g9 => m_aI (s_keep a sv) r9 ∧ m_E r cN cZ cL (s_keep a sv) cn g9)) 0 0 (y_A (m_w r cN cZ cL S) sz) := by
  refine x_ofW (cc := b_Mo_keep) (maxL := 2) (ret := (some .int)) (by decide) rfl ?_
  intro p e s m args below meth c s₁ B hml hno hv
  obtain ⟨rfl, hsz, hP, hE⟩ := hv
  subst hsz
  have hts := hE.hts ([.ref (r 20), .int sv] : List Value).toArray
  have hK := hE.1.2.1
  have hA0 : ∀ q, s.heap.size ≤ q → y_A (m_w r cN cZ cL S) s.heap.size q := fun q h => Or.inr h
  have hA : ∀ q e, (m_w r cN cZ cL S) q = some e → y_A (m_w r cN cZ cL S) s.heap.size q := fun q e h => Or.inl (by rw [h]; exact fun z => nomatch z)
  have hS : va_S (y_A (m_w r cN cZ cL S) s.heap.size) s.heap s.heap [] := va_S.rf
  generalize hAe : y_A (m_w r cN cZ cL S) s.heap.size = A at hE hA0 hA hS ⊢
  have hx := B.exec
  have hb := B.bytes
  have hr := B.returns
  have hlocks := B.notSynchronized
  have hown : s.vm.findClass R_Mo = some m.cls := findClass_of_methodNamed B.named
  have hl := lv_entry ([.ref (r 20), .int sv]) (n := 2) (Nat.le_of_ble_eq_true rfl)
  rw [lg_entry_eq]
  generalize (lg_sl ([.ref (r 20), .int sv]) ++ List.replicate (2 - (lg_sl ([.ref (r 20), .int sv])).length) Slot.unset).toArray = ls at hl ⊢
  have hl : lv_has ls 2 [(0, .ref (r 20)), (1, .int sv)] := hl
  have hR0 := hR
  have hn : a.n ≤ cn := hw.2.2.2.2.2.2.2.2.2.1
  have hmm : a.mem ≤ 65536 := hw.2.2.2.2.2.2.2.2.1
  obtain ⟨r1, ⟨r2, r3, r4, r5⟩, r6, r7, r8, r9, r10, en, r11, r12, r13, r14⟩ := hR
  refine lv_aload_n hx hb d_Mo_keep_0 rfl (lv_at hl 0 rfl) ?_
  refine lv_iconst (v := 0) hx hb d_Mo_keep_1 (by decide) ?_
  refine y_put (D := D) (ci := 5) (v := .int 0) (ty := .int) (C := R_Mo) (T := F_Mo) (N := 20) hx hb hts in_Mo t_Mo t_Mo_ok n_Mo hown hK hP hA hS (m_at hri (i := 20) (by decide)) rfl 10 (by decide) (hts (.fieldLink R_Mo 59 "MemoryDeskModel" "err" "I") (by decide +kernel)) (fun _ h9 => h9) rfl (by decide +kernel) rfl rfl (Nat.le_of_ble_eq_true rfl) d_Mo_keep_2 (fun H locs hP hA hS => ?_)
  have e9 : va_up (m_w r cN cZ cL S) (r 20) (some (.inr (5, [.ref (r 0), .ref (r 1), .ref (r 2), .ref (r 3), .ref (r 4), .ref (r 5), .ref (r 6), .int (S.2.2 7), .int (S.2.2 8), .int (S.2.2 9), .int 0, .ref (r 11), .ref (r 12), .ref (r 13), .int (S.2.2 14), .ref (r 15), .ref (r 16), .ref (r 17), .ref (r 18), .int (S.2.2 19)]))) = (m_w r cN cZ cL (m_s S 10 0)) := m_ws10 hri S 0
  have hP : y_P D vwCl (m_w r cN cZ cL (m_s S 10 0)) H := by rw [← e9]; exact hP
  have hA : ∀ q99 e99, (m_w r cN cZ cL (m_s S 10 0)) q99 = some e99 → A q99 := by rw [← e9]; exact hA
  refine lv_aload_n hx hb d_Mo_keep_5 rfl (lv_at hl 0 rfl) ?_
  refine lv_iload_n hx hb d_Mo_keep_6 rfl (lv_at hl 1 rfl) ?_
  refine lv_bipush (v := 31) hx hb d_Mo_keep_7 (by decide) ?_
  refine w_callS (As := [.int sv, .int 31]) ⟨hx, hb, hml, hown, hts⟩ (c_Mo_in l D cK cI cN cZ cL r hri (m_s S 10 0) _ sv 31) (x_cb (va_cwS (own := R_Mo) (index := 93) 2 hts (x_gi (by decide +kernel)) rfl rfl rfl (by decide +kernel) ⟨by decide, by decide⟩).1) (hts (.static y_Mo_in) (by decide +kernel)) hE hP hA hA0 hS rfl hl.1 rfl (lv_room (Nat.le_of_ble_eq_true rfl)) d_Mo_keep_9 (by first | decide | omega) (by first | decide | omega) (fun v9 g9 H locs hq9 hP hA hS => ?_) (fun E9 q9 ce9 g9 H locs hq9 hP hA hS z1 z2 z3 => ?_)
  rotate_left
  · exact nomatch hq9.1
  obtain ⟨hv9, hg9⟩ := hq9
  cases hv9
  rw [hg9] at hP hA
  refine W.eq (g2 := F0 m 12 ls [.int (c_bit (¬ sv < 0 ∧ sv ≤ 31)), .ref (r 20)]) rfl ?_
  refine lv_if_ne hx hb d_Mo_keep_12 rfl (fun h1 => ?_) (fun h1 => ?_)
  · -- ifne at 12: to 19
    have hs : b_in sv 32 := (b_inI (n := 31) (by decide)).mp (Classical.byContradiction (fun z => h1 (c_bit.n z)))
    refine lv_iconst (v := 0) hx hb d_Mo_keep_19 (by decide) ?_
    refine lv_iconst (v := 1) hx hb d_Mo_keep_20 (by decide) ?_
    refine w_callV (As := [.int 0, .int 1]) (C := R_Mo) ⟨hx, hb, hml, hown, hts⟩ (c_Mo_fails l D cK cI cN cZ cL r hri (m_s S 10 0) _ 0 1 (by decide)) (x_cb (cwV (own := R_Mo) (index := 96) (C := R_Mo) 2 hts (x_gi (by decide +kernel)) rfl rfl rfl (by decide +kernel) ⟨by decide, by decide⟩).1) (hts (.instanceMethod y_Mo_fails) (by decide +kernel)) (hts (.selects R_Mo y_Mo_fails y_Mo_fails) (by decide +kernel)) (y_recv (ci := 5) (q := (R_Mo, F_Mo, 20)) hK hP rfl (m_at hri (i := 20) (by decide))) hE hP hA hA0 hS rfl hl.1 rfl (lv_room (Nat.le_of_ble_eq_true rfl)) d_Mo_keep_21 (by first | decide | omega) (by first | decide | omega) (fun v9 g9 H locs hq9 hP hA hS => ?_) (fun E9 q9 ce9 g9 H locs hq9 hP hA hS z1 z2 z3 => ?_)
    rotate_left
    · rcases hq9 with z | z | z
      · exact nomatch z.2.2.1
      · exact nomatch z.2.1
      · exact nomatch z.2.2.1
    rcases hq9 with ⟨z1, z2, hv9, hg9⟩ | ⟨z1, hv9, hg9⟩ | ⟨z1, z2, hv9, hg9⟩
    · cases hv9
      rw [hg9] at hP hA
      refine W.eq (g2 := F0 m 24 ls [.int 0]) rfl ?_
      refine lv_if_ne hx hb d_Mo_keep_24 rfl (fun h2 => (absurd rfl h2)) (fun h2 => ?_)
      refine lv_aload_n hx hb d_Mo_keep_27 rfl (lv_at hl 0 rfl) ?_
      refine lv_aload_n hx hb d_Mo_keep_28 rfl (lv_at hl 0 rfl) ?_
      refine y_get (D := D) (ci := 5) (v := .ref (r 15)) (C := R_Mo) (T := F_Mo) (N := 20) hx hb hts in_Mo hown hK hP (m_at hri (i := 20) (by decide)) rfl 15 (by decide) (hts (.fieldLink R_Mo 47 "MemoryDeskModel" "slots" "[I") (by decide +kernel)) (fun _ h9 => h9) rfl d_Mo_keep_29 ?_
      refine lv_iload_n hx hb d_Mo_keep_32 rfl (lv_at hl 1 rfl) ?_
      refine y_iald (f := (S.1 15)) hx hb hK hP 2 (m_at hri (i := 15) (by decide)) rfl hs.v32 d_Mo_keep_33 ?_
      rw [r8 (j_n sv) hs.j32]
      refine lv_if_ne hx hb d_Mo_keep_34 rfl (fun h3 => ?_) (fun h3 => ?_)
      · -- ifne at 34: to 41
        have ho0 : a.sl (j_n sv) ≠ 0 := fun z => h3 (by rw [z]; rfl)
        have o1 : 1 ≤ a.sl (j_n sv) := by omega
        have o2 := hw.2.2.1 (j_n sv) hs.j32
        refine lv_iconst (v := 0) hx hb d_Mo_keep_41 (by decide) ?_
        refine lv_iconst (v := 2) hx hb d_Mo_keep_42 (by decide) ?_
        refine w_callV (As := [.int 0, .int 2]) (C := R_Mo) ⟨hx, hb, hml, hown, hts⟩ (c_Mo_fails l D cK cI cN cZ cL r hri (m_s S 10 0) _ 0 2 (by decide)) (x_cb (cwV (own := R_Mo) (index := 96) (C := R_Mo) 2 hts (x_gi (by decide +kernel)) rfl rfl rfl (by decide +kernel) ⟨by decide, by decide⟩).1) (hts (.instanceMethod y_Mo_fails) (by decide +kernel)) (hts (.selects R_Mo y_Mo_fails y_Mo_fails) (by decide +kernel)) (y_recv (ci := 5) (q := (R_Mo, F_Mo, 20)) hK hP rfl (m_at hri (i := 20) (by decide))) hE hP hA hA0 hS rfl hl.1 rfl (lv_room (Nat.le_of_ble_eq_true rfl)) d_Mo_keep_43 (by first | decide | omega) (by first | decide | omega) (fun v9 g9 H locs hq9 hP hA hS => ?_) (fun E9 q9 ce9 g9 H locs hq9 hP hA hS z1 z2 z3 => ?_)
        rotate_left
        · rcases hq9 with z | z | z
          · exact nomatch z.2.2.1
          · exact nomatch z.2.1
          · exact nomatch z.2.2.1
        rcases hq9 with ⟨z1, z2, hv9, hg9⟩ | ⟨z1, hv9, hg9⟩ | ⟨z1, z2, hv9, hg9⟩
        · cases hv9
          rw [hg9] at hP hA
          refine W.eq (g2 := F0 m 46 ls [.int 0]) rfl ?_
          refine lv_if_eq hx hb d_Mo_keep_46 rfl (fun h4 => ?_) (fun h4 => (absurd rfl h4))
          have hkc : a.kc ≤ cn := hw.2.2.2.2.2.2.2.2.2.2.2
          have hcl : (nI a.kc).toNatClampNeg = a.kc := nI_clamp (by omega)
          refine lv_aload_n hx hb d_Mo_keep_51 rfl (lv_at hl 0 rfl) ?_
          refine y_get (D := D) (ci := 5) (v := .ref (r 16)) (C := R_Mo) (T := F_Mo) (N := 20) hx hb hts in_Mo hown hK hP (m_at hri (i := 20) (by decide)) rfl 16 (by decide) (hts (.fieldLink R_Mo 50 "MemoryDeskModel" "kept" "[I") (by decide +kernel)) (fun _ h9 => h9) rfl d_Mo_keep_52 ?_
          refine lv_aload_n hx hb d_Mo_keep_55 rfl (lv_at hl 0 rfl) ?_
          refine lv_dup hx hb d_Mo_keep_56 rfl ?_
          refine y_get (D := D) (ci := 5) (v := .int (S.2.2 19)) (C := R_Mo) (T := F_Mo) (N := 20) hx hb hts in_Mo hown hK hP (m_at hri (i := 20) (by decide)) rfl 19 (by decide) (hts (.fieldLink R_Mo 74 "MemoryDeskModel" "keeps" "I") (by decide +kernel)) (fun _ h9 => h9) rfl d_Mo_keep_57 ?_
          rw [r5]
          refine lv_dup_x1 hx hb d_Mo_keep_60 rfl rfl ?_
          refine lv_iconst (v := 1) hx hb d_Mo_keep_61 (by decide) ?_
          refine lv_iadd hx hb d_Mo_keep_62 ?_
          rw [nI_1]
          refine y_put (D := D) (ci := 5) (v := .int (nI (a.kc + 1))) (ty := .int) (C := R_Mo) (T := F_Mo) (N := 20) hx hb hts in_Mo t_Mo t_Mo_ok n_Mo hown hK hP hA hS (m_at hri (i := 20) (by decide)) rfl 19 (by decide) (hts (.fieldLink R_Mo 74 "MemoryDeskModel" "keeps" "I") (by decide +kernel)) (fun _ h9 => h9) rfl (by decide +kernel) rfl rfl (Nat.le_of_ble_eq_true rfl) d_Mo_keep_63 (fun H locs hP hA hS => ?_)
          have e9 : va_up (m_w r cN cZ cL (m_s S 10 0)) (r 20) (some (.inr (5, [.ref (r 0), .ref (r 1), .ref (r 2), .ref (r 3), .ref (r 4), .ref (r 5), .ref (r 6), .int (S.2.2 7), .int (S.2.2 8), .int (S.2.2 9), .int 0, .ref (r 11), .ref (r 12), .ref (r 13), .int (S.2.2 14), .ref (r 15), .ref (r 16), .ref (r 17), .ref (r 18), .int (nI (a.kc + 1))]))) = (m_w r cN cZ cL (m_s (m_s S 10 0) 19 (nI (a.kc + 1)))) := m_ws19 hri (m_s S 10 0) (nI (a.kc + 1))
          have hP : y_P D vwCl (m_w r cN cZ cL (m_s (m_s S 10 0) 19 (nI (a.kc + 1)))) H := by rw [← e9]; exact hP
          have hA : ∀ q99 e99, (m_w r cN cZ cL (m_s (m_s S 10 0) 19 (nI (a.kc + 1)))) q99 = some e99 → A q99 := by rw [← e9]; exact hA
          refine lv_aload_n hx hb d_Mo_keep_66 rfl (lv_at hl 0 rfl) ?_
          refine y_get (D := D) (ci := 5) (v := .ref (r 15)) (C := R_Mo) (T := F_Mo) (N := 20) hx hb hts in_Mo hown hK hP (m_at hri (i := 20) (by decide)) rfl 15 (by decide) (hts (.fieldLink R_Mo 47 "MemoryDeskModel" "slots" "[I") (by decide +kernel)) (fun _ h9 => h9) rfl d_Mo_keep_67 ?_
          refine lv_iload_n hx hb d_Mo_keep_70 rfl (lv_at hl 1 rfl) ?_
          refine y_iald (f := (S.1 15)) hx hb hK hP 2 (m_at hri (i := 15) (by decide)) rfl hs.v32 d_Mo_keep_71 ?_
          rw [r8 (j_n sv) hs.j32]
          refine y_iast (f := (S.1 16)) hx hb hK hP hA hS 2 (m_at hri (i := 16) (by decide)) rfl (vp_in_nI (by omega) (by decide)) d_Mo_keep_72 (fun H locs hP hA hS => ?_)
          have e9 : va_up (m_w r cN cZ cL (m_s (m_s S 10 0) 19 (nI (a.kc + 1)))) (r 16) (some (.inl (cN, 514, .inl (upd (S.1 16) (nI a.kc).toNatClampNeg (nI (a.sl (j_n sv))))))) = (m_w r cN cZ cL (m_a (m_s (m_s S 10 0) 19 (nI (a.kc + 1))) 16 (nI a.kc).toNatClampNeg (nI (a.sl (j_n sv))))) := m_wa16 hri (m_s (m_s S 10 0) 19 (nI (a.kc + 1))) (nI a.kc).toNatClampNeg (nI (a.sl (j_n sv)))
          have hP : y_P D vwCl (m_w r cN cZ cL (m_a (m_s (m_s S 10 0) 19 (nI (a.kc + 1))) 16 (nI a.kc).toNatClampNeg (nI (a.sl (j_n sv))))) H := by rw [← e9]; exact hP
          have hA : ∀ q99 e99, (m_w r cN cZ cL (m_a (m_s (m_s S 10 0) 19 (nI (a.kc + 1))) 16 (nI a.kc).toNatClampNeg (nI (a.sl (j_n sv))))) q99 = some e99 → A q99 := by rw [← e9]; exact hA
          refine lv_aload_n hx hb d_Mo_keep_73 rfl (lv_at hl 0 rfl) ?_
          refine y_get (D := D) (ci := 5) (v := .int (nI (a.kc + 1))) (C := R_Mo) (T := F_Mo) (N := 20) hx hb hts in_Mo hown hK hP (m_at hri (i := 20) (by decide)) rfl 19 (by decide) (hts (.fieldLink R_Mo 74 "MemoryDeskModel" "keeps" "I") (by decide +kernel)) (fun _ h9 => h9) rfl d_Mo_keep_74 ?_
          have hTT : (m_a (m_s (m_s S 10 0) 19 (nI (a.kc + 1))) 16 (nI a.kc).toNatClampNeg (nI (a.sl (j_n sv)))) = (m_a (m_s (m_s S 10 0) 19 (nI (a.kc + 1))) 16 a.kc (nI (a.sl (j_n sv)))) := by rw [hcl]
          rw [hTT] at hP hA
          refine W.widen (k := 0) (n := 0) (by first | decide | omega) (by first | decide | omega) ?_
          exact x_ret (W.iret (v := (nI (a.kc + 1))) hx hb hr (w_fin rfl hAe ⟨m_goodI (s_in0 hs ho0), m_good (s_in0 hs ho0) rfl ((hR0.err 0).keep hw)⟩ hP hA hS) hS.2.2 d_Mo_keep_77)
        · exact absurd rfl z1
        · exact absurd rfl z1
      · -- ifne at 34: to 37
        have ho0 : a.sl (j_n sv) = 0 := ((nI_eq (b := 0) (by have := hw.2.2.1 (j_n sv) hs.j32; omega) (by omega)).mp h3)
        refine lv_iconst (v := 1) hx hb d_Mo_keep_37 (by decide) ?_
        refine lv_goto hx hb d_Mo_keep_38 rfl ?_
        refine lv_iconst (v := 2) hx hb d_Mo_keep_42 (by decide) ?_
        refine w_callV (As := [.int 1, .int 2]) (C := R_Mo) ⟨hx, hb, hml, hown, hts⟩ (c_Mo_fails l D cK cI cN cZ cL r hri (m_s S 10 0) _ 1 2 (by decide)) (x_cb (cwV (own := R_Mo) (index := 96) (C := R_Mo) 2 hts (x_gi (by decide +kernel)) rfl rfl rfl (by decide +kernel) ⟨by decide, by decide⟩).1) (hts (.instanceMethod y_Mo_fails) (by decide +kernel)) (hts (.selects R_Mo y_Mo_fails y_Mo_fails) (by decide +kernel)) (y_recv (ci := 5) (q := (R_Mo, F_Mo, 20)) hK hP rfl (m_at hri (i := 20) (by decide))) hE hP hA hA0 hS rfl hl.1 rfl (lv_room (Nat.le_of_ble_eq_true rfl)) d_Mo_keep_43 (by first | decide | omega) (by first | decide | omega) (fun v9 g9 H locs hq9 hP hA hS => ?_) (fun E9 q9 ce9 g9 H locs hq9 hP hA hS z1 z2 z3 => ?_)
        rotate_left
        · rcases hq9 with z | z | z
          · exact nomatch z.2.2.1
          · exact nomatch z.2.1
          · exact nomatch z.2.2.1
        rcases hq9 with ⟨z1, z2, hv9, hg9⟩ | ⟨z1, hv9, hg9⟩ | ⟨z1, z2, hv9, hg9⟩
        · exact absurd z1 (by decide)
        · exact absurd rfl z1
        · cases hv9
          rw [hg9] at hP hA
          refine W.eq (g2 := F0 m 46 ls [.int 1]) rfl ?_
          refine lv_if_eq hx hb d_Mo_keep_46 rfl (fun h5 => (absurd h5 (by decide))) (fun h5 => ?_)
          refine lv_iconst (v := 0) hx hb d_Mo_keep_49 (by decide) ?_
          refine W.widen (k := 0) (n := 0) (by first | decide | omega) (by first | decide | omega) ?_
          exact x_ret (W.iret (v := 0) hx hb hr (w_fin rfl hAe ⟨m_badI (i := 1) (s_in2 hs ho0), m_bad (i := 1) (s_in2 hs ho0) rfl ((hR0.err 0).err 2)⟩ hP hA hS) hS.2.2 d_Mo_keep_50)
    · exact absurd rfl z1
    · exact absurd rfl z1
  · -- ifne at 12: to 15
    have hs : ¬ b_in sv 32 := fun z => by have hy_ := h1; rw [c_bit.y (show ¬ sv < 0 ∧ sv ≤ 31 from (b_inI (n := 31) (by decide)).mpr z)] at hy_; exact absurd hy_ (by decide)
    refine lv_iconst (v := 1) hx hb d_Mo_keep_15 (by decide) ?_
    refine lv_goto hx hb d_Mo_keep_16 rfl ?_
    refine lv_iconst (v := 1) hx hb d_Mo_keep_20 (by decide) ?_
    refine w_callV (As := [.int 1, .int 1]) (C := R_Mo) ⟨hx, hb, hml, hown, hts⟩ (c_Mo_fails l D cK cI cN cZ cL r hri (m_s S 10 0) _ 1 1 (by decide)) (x_cb (cwV (own := R_Mo) (index := 96) (C := R_Mo) 2 hts (x_gi (by decide +kernel)) rfl rfl rfl (by decide +kernel) ⟨by decide, by decide⟩).1) (hts (.instanceMethod y_Mo_fails) (by decide +kernel)) (hts (.selects R_Mo y_Mo_fails y_Mo_fails) (by decide +kernel)) (y_recv (ci := 5) (q := (R_Mo, F_Mo, 20)) hK hP rfl (m_at hri (i := 20) (by decide))) hE hP hA hA0 hS rfl hl.1 rfl (lv_room (Nat.le_of_ble_eq_true rfl)) d_Mo_keep_21 (by first | decide | omega) (by first | decide | omega) (fun v9 g9 H locs hq9 hP hA hS => ?_) (fun E9 q9 ce9 g9 H locs hq9 hP hA hS z1 z2 z3 => ?_)
    rotate_left
    · rcases hq9 with z | z | z
      · exact nomatch z.2.2.1
      · exact nomatch z.2.1
      · exact nomatch z.2.2.1
    rcases hq9 with ⟨z1, z2, hv9, hg9⟩ | ⟨z1, hv9, hg9⟩ | ⟨z1, z2, hv9, hg9⟩
    · exact absurd z1 (by decide)
    · exact absurd rfl z1
    · cases hv9
      rw [hg9] at hP hA
      refine W.eq (g2 := F0 m 24 ls [.int 1]) rfl ?_
      refine lv_if_ne hx hb d_Mo_keep_24 rfl (fun h6 => ?_) (fun h6 => (absurd h6 (by decide)))
      refine lv_iconst (v := 0) hx hb d_Mo_keep_49 (by decide) ?_
      refine W.widen (k := 0) (n := 0) (by first | decide | omega) (by first | decide | omega) ?_
      exact x_ret (W.iret (v := 0) hx hb hr (w_fin rfl hAe ⟨m_badI (i := 0) (q_n hs), m_bad (i := 0) (q_n hs) rfl ((hR0.err 0).err 1)⟩ hP hA hS) hS.2.2 d_Mo_keep_50)
set_option maxHeartbeats 4000000 in
set_option maxRecDepth 100000 in
/-- number(s) -/
theorem c_Mo_number (l : Launch) (D : va_G) (cK cI cN cZ cL : ClassId) (r : Nat → Nat) (hri : m_inj r) (S : MS) (sz : Nat) (a : Ab) (cn : Nat) (sv : Int32) (hw : a_W a cn) (hc : cn ≤ 512) (hR : m_R a S cn)  : x_M l y_Mo_number [.code y_Mo_number b_Mo_number 2 (some .int)] rmV (w_Pc D (x_tys cK cI cN cZ cL) [.ref (r 20), .int sv] (m_w r cN cZ cL S) sz) (w_Qc D (m_w r cN cZ cL S) sz (fun r9 g9 => m_aI (s_number a sv) r9 ∧ m_E r cN cZ cL (s_number a sv) cn g9)) 0 0 (y_A (m_w r cN cZ cL S) sz) := by
  refine x_ofW (cc := b_Mo_number) (maxL := 2) (ret := (some .int)) (by decide) rfl ?_
  intro p e s m args below meth c s₁ B hml hno hv
  obtain ⟨rfl, hsz, hP, hE⟩ := hv
  subst hsz
  have hts := hE.hts ([.ref (r 20), .int sv] : List Value).toArray
  have hK := hE.1.2.1
  have hA0 : ∀ q, s.heap.size ≤ q → y_A (m_w r cN cZ cL S) s.heap.size q := fun q h => Or.inr h
  have hA : ∀ q e, (m_w r cN cZ cL S) q = some e → y_A (m_w r cN cZ cL S) s.heap.size q := fun q e h => Or.inl (by rw [h]; exact fun z => nomatch z)
  have hS : va_S (y_A (m_w r cN cZ cL S) s.heap.size) s.heap s.heap [] := va_S.rf
  generalize hAe : y_A (m_w r cN cZ cL S) s.heap.size = A at hE hA0 hA hS ⊢
  have hx := B.exec
  have hb := B.bytes
  have hr := B.returns
  have hlocks := B.notSynchronized
  have hown : s.vm.findClass R_Mo = some m.cls := findClass_of_methodNamed B.named
  have hl := lv_entry ([.ref (r 20), .int sv]) (n := 2) (Nat.le_of_ble_eq_true rfl)
  rw [lg_entry_eq]
  generalize (lg_sl ([.ref (r 20), .int sv]) ++ List.replicate (2 - (lg_sl ([.ref (r 20), .int sv])).length) Slot.unset).toArray = ls at hl ⊢
  have hl : lv_has ls 2 [(0, .ref (r 20)), (1, .int sv)] := hl
  have hR0 := hR
  have hn : a.n ≤ cn := hw.2.2.2.2.2.2.2.2.2.1
  have hmm : a.mem ≤ 65536 := hw.2.2.2.2.2.2.2.2.1
  obtain ⟨r1, ⟨r2, r3, r4, r5⟩, r6, r7, r8, r9, r10, en, r11, r12, r13, r14⟩ := hR
  refine lv_aload_n hx hb d_Mo_number_0 rfl (lv_at hl 0 rfl) ?_
  refine lv_iconst (v := 0) hx hb d_Mo_number_1 (by decide) ?_
  refine y_put (D := D) (ci := 5) (v := .int 0) (ty := .int) (C := R_Mo) (T := F_Mo) (N := 20) hx hb hts in_Mo t_Mo t_Mo_ok n_Mo hown hK hP hA hS (m_at hri (i := 20) (by decide)) rfl 10 (by decide) (hts (.fieldLink R_Mo 59 "MemoryDeskModel" "err" "I") (by decide +kernel)) (fun _ h9 => h9) rfl (by decide +kernel) rfl rfl (Nat.le_of_ble_eq_true rfl) d_Mo_number_2 (fun H locs hP hA hS => ?_)
  have e9 : va_up (m_w r cN cZ cL S) (r 20) (some (.inr (5, [.ref (r 0), .ref (r 1), .ref (r 2), .ref (r 3), .ref (r 4), .ref (r 5), .ref (r 6), .int (S.2.2 7), .int (S.2.2 8), .int (S.2.2 9), .int 0, .ref (r 11), .ref (r 12), .ref (r 13), .int (S.2.2 14), .ref (r 15), .ref (r 16), .ref (r 17), .ref (r 18), .int (S.2.2 19)]))) = (m_w r cN cZ cL (m_s S 10 0)) := m_ws10 hri S 0
  have hP : y_P D vwCl (m_w r cN cZ cL (m_s S 10 0)) H := by rw [← e9]; exact hP
  have hA : ∀ q99 e99, (m_w r cN cZ cL (m_s S 10 0)) q99 = some e99 → A q99 := by rw [← e9]; exact hA
  refine lv_aload_n hx hb d_Mo_number_5 rfl (lv_at hl 0 rfl) ?_
  refine lv_iload_n hx hb d_Mo_number_6 rfl (lv_at hl 1 rfl) ?_
  refine lv_bipush (v := 31) hx hb d_Mo_number_7 (by decide) ?_
  refine w_callS (As := [.int sv, .int 31]) ⟨hx, hb, hml, hown, hts⟩ (c_Mo_in l D cK cI cN cZ cL r hri (m_s S 10 0) _ sv 31) (x_cb (va_cwS (own := R_Mo) (index := 93) 2 hts (x_gi (by decide +kernel)) rfl rfl rfl (by decide +kernel) ⟨by decide, by decide⟩).1) (hts (.static y_Mo_in) (by decide +kernel)) hE hP hA hA0 hS rfl hl.1 rfl (lv_room (Nat.le_of_ble_eq_true rfl)) d_Mo_number_9 (by first | decide | omega) (by first | decide | omega) (fun v9 g9 H locs hq9 hP hA hS => ?_) (fun E9 q9 ce9 g9 H locs hq9 hP hA hS z1 z2 z3 => ?_)
  rotate_left
  · exact nomatch hq9.1
  obtain ⟨hv9, hg9⟩ := hq9
  cases hv9
  rw [hg9] at hP hA
  refine W.eq (g2 := F0 m 12 ls [.int (c_bit (¬ sv < 0 ∧ sv ≤ 31)), .ref (r 20)]) rfl ?_
  refine lv_if_ne hx hb d_Mo_number_12 rfl (fun h1 => ?_) (fun h1 => ?_)
  · -- ifne at 12: to 19
    have hs : b_in sv 32 := (b_inI (n := 31) (by decide)).mp (Classical.byContradiction (fun z => h1 (c_bit.n z)))
    refine lv_iconst (v := 0) hx hb d_Mo_number_19 (by decide) ?_
    refine lv_iconst (v := 1) hx hb d_Mo_number_20 (by decide) ?_
    refine w_callV (As := [.int 0, .int 1]) (C := R_Mo) ⟨hx, hb, hml, hown, hts⟩ (c_Mo_fails l D cK cI cN cZ cL r hri (m_s S 10 0) _ 0 1 (by decide)) (x_cb (cwV (own := R_Mo) (index := 96) (C := R_Mo) 2 hts (x_gi (by decide +kernel)) rfl rfl rfl (by decide +kernel) ⟨by decide, by decide⟩).1) (hts (.instanceMethod y_Mo_fails) (by decide +kernel)) (hts (.selects R_Mo y_Mo_fails y_Mo_fails) (by decide +kernel)) (y_recv (ci := 5) (q := (R_Mo, F_Mo, 20)) hK hP rfl (m_at hri (i := 20) (by decide))) hE hP hA hA0 hS rfl hl.1 rfl (lv_room (Nat.le_of_ble_eq_true rfl)) d_Mo_number_21 (by first | decide | omega) (by first | decide | omega) (fun v9 g9 H locs hq9 hP hA hS => ?_) (fun E9 q9 ce9 g9 H locs hq9 hP hA hS z1 z2 z3 => ?_)
    rotate_left
    · rcases hq9 with z | z | z
      · exact nomatch z.2.2.1
      · exact nomatch z.2.1
      · exact nomatch z.2.2.1
    rcases hq9 with ⟨z1, z2, hv9, hg9⟩ | ⟨z1, hv9, hg9⟩ | ⟨z1, z2, hv9, hg9⟩
    · cases hv9
      rw [hg9] at hP hA
      refine W.eq (g2 := F0 m 24 ls [.int 0]) rfl ?_
      refine lv_if_ne hx hb d_Mo_number_24 rfl (fun h2 => (absurd rfl h2)) (fun h2 => ?_)
      refine lv_aload_n hx hb d_Mo_number_27 rfl (lv_at hl 0 rfl) ?_
      refine lv_aload_n hx hb d_Mo_number_28 rfl (lv_at hl 0 rfl) ?_
      refine y_get (D := D) (ci := 5) (v := .ref (r 15)) (C := R_Mo) (T := F_Mo) (N := 20) hx hb hts in_Mo hown hK hP (m_at hri (i := 20) (by decide)) rfl 15 (by decide) (hts (.fieldLink R_Mo 47 "MemoryDeskModel" "slots" "[I") (by decide +kernel)) (fun _ h9 => h9) rfl d_Mo_number_29 ?_
      refine lv_iload_n hx hb d_Mo_number_32 rfl (lv_at hl 1 rfl) ?_
      refine y_iald (f := (S.1 15)) hx hb hK hP 2 (m_at hri (i := 15) (by decide)) rfl hs.v32 d_Mo_number_33 ?_
      rw [r8 (j_n sv) hs.j32]
      refine lv_if_ne hx hb d_Mo_number_34 rfl (fun h3 => ?_) (fun h3 => ?_)
      · -- ifne at 34: to 41
        have ho0 : a.sl (j_n sv) ≠ 0 := fun z => h3 (by rw [z]; rfl)
        have o1 : 1 ≤ a.sl (j_n sv) := by omega
        have o2 := hw.2.2.1 (j_n sv) hs.j32
        refine lv_iconst (v := 0) hx hb d_Mo_number_41 (by decide) ?_
        refine lv_iconst (v := 2) hx hb d_Mo_number_42 (by decide) ?_
        refine w_callV (As := [.int 0, .int 2]) (C := R_Mo) ⟨hx, hb, hml, hown, hts⟩ (c_Mo_fails l D cK cI cN cZ cL r hri (m_s S 10 0) _ 0 2 (by decide)) (x_cb (cwV (own := R_Mo) (index := 96) (C := R_Mo) 2 hts (x_gi (by decide +kernel)) rfl rfl rfl (by decide +kernel) ⟨by decide, by decide⟩).1) (hts (.instanceMethod y_Mo_fails) (by decide +kernel)) (hts (.selects R_Mo y_Mo_fails y_Mo_fails) (by decide +kernel)) (y_recv (ci := 5) (q := (R_Mo, F_Mo, 20)) hK hP rfl (m_at hri (i := 20) (by decide))) hE hP hA hA0 hS rfl hl.1 rfl (lv_room (Nat.le_of_ble_eq_true rfl)) d_Mo_number_43 (by first | decide | omega) (by first | decide | omega) (fun v9 g9 H locs hq9 hP hA hS => ?_) (fun E9 q9 ce9 g9 H locs hq9 hP hA hS z1 z2 z3 => ?_)
        rotate_left
        · rcases hq9 with z | z | z
          · exact nomatch z.2.2.1
          · exact nomatch z.2.1
          · exact nomatch z.2.2.1
        rcases hq9 with ⟨z1, z2, hv9, hg9⟩ | ⟨z1, hv9, hg9⟩ | ⟨z1, z2, hv9, hg9⟩
        · cases hv9
          rw [hg9] at hP hA
          refine W.eq (g2 := F0 m 46 ls [.int 0]) rfl ?_
          refine lv_if_eq hx hb d_Mo_number_46 rfl (fun h4 => ?_) (fun h4 => (absurd rfl h4))
          have hnn : a.nn ≤ cn := hw.2.2.2.2.2.2.2.2.2.2.1
          have hnu : a.nu (a.sl (j_n sv)) ≤ a.nn := hw.2.2.2.2.2.2.1 _
          have hclo : (nI (a.sl (j_n sv))).toNatClampNeg = (a.sl (j_n sv)) := nI_clamp (by omega)
          refine lv_aload_n hx hb d_Mo_number_51 rfl (lv_at hl 0 rfl) ?_
          refine y_get (D := D) (ci := 5) (v := .ref (r 6)) (C := R_Mo) (T := F_Mo) (N := 20) hx hb hts in_Mo hown hK hP (m_at hri (i := 20) (by decide)) rfl 6 (by decide) (hts (.fieldLink R_Mo 29 "MemoryDeskModel" "numberOf" "[I") (by decide +kernel)) (fun _ h9 => h9) rfl d_Mo_number_52 ?_
          refine lv_aload_n hx hb d_Mo_number_55 rfl (lv_at hl 0 rfl) ?_
          refine y_get (D := D) (ci := 5) (v := .ref (r 15)) (C := R_Mo) (T := F_Mo) (N := 20) hx hb hts in_Mo hown hK hP (m_at hri (i := 20) (by decide)) rfl 15 (by decide) (hts (.fieldLink R_Mo 47 "MemoryDeskModel" "slots" "[I") (by decide +kernel)) (fun _ h9 => h9) rfl d_Mo_number_56 ?_
          refine lv_iload_n hx hb d_Mo_number_59 rfl (lv_at hl 1 rfl) ?_
          refine y_iald (f := (S.1 15)) hx hb hK hP 2 (m_at hri (i := 15) (by decide)) rfl hs.v32 d_Mo_number_60 ?_
          rw [r8 (j_n sv) hs.j32]
          refine y_iald (f := (S.1 6)) hx hb hK hP 2 (m_at hri (i := 6) (by decide)) rfl (vp_in_nI (by omega) (by decide)) d_Mo_number_61 ?_
          rw [hclo, r7 (a.sl (j_n sv)) o1 (by omega)]
          refine lv_if_ne hx hb d_Mo_number_62 rfl (fun h5 => ?_) (fun h5 => ?_)
          · -- ifne at 62: to 87
            refine lv_aload_n hx hb d_Mo_number_87 rfl (lv_at hl 0 rfl) ?_
            refine y_get (D := D) (ci := 5) (v := .ref (r 6)) (C := R_Mo) (T := F_Mo) (N := 20) hx hb hts in_Mo hown hK hP (m_at hri (i := 20) (by decide)) rfl 6 (by decide) (hts (.fieldLink R_Mo 29 "MemoryDeskModel" "numberOf" "[I") (by decide +kernel)) (fun _ h9 => h9) rfl d_Mo_number_88 ?_
            refine lv_aload_n hx hb d_Mo_number_91 rfl (lv_at hl 0 rfl) ?_
            refine y_get (D := D) (ci := 5) (v := .ref (r 15)) (C := R_Mo) (T := F_Mo) (N := 20) hx hb hts in_Mo hown hK hP (m_at hri (i := 20) (by decide)) rfl 15 (by decide) (hts (.fieldLink R_Mo 47 "MemoryDeskModel" "slots" "[I") (by decide +kernel)) (fun _ h9 => h9) rfl d_Mo_number_92 ?_
            refine lv_iload_n hx hb d_Mo_number_95 rfl (lv_at hl 1 rfl) ?_
            refine y_iald (f := (S.1 15)) hx hb hK hP 2 (m_at hri (i := 15) (by decide)) rfl hs.v32 d_Mo_number_96 ?_
            rw [r8 (j_n sv) hs.j32]
            refine y_iald (f := (S.1 6)) hx hb hK hP 2 (m_at hri (i := 6) (by decide)) rfl (vp_in_nI (by omega) (by decide)) d_Mo_number_97 ?_
            rw [hclo, r7 (a.sl (j_n sv)) o1 (by omega)]
            refine W.widen (k := 0) (n := 0) (by first | decide | omega) (by first | decide | omega) ?_
            exact x_ret (W.iret (v := (nI (a.nu (a.sl (j_n sv))))) hx hb hr (w_fin rfl hAe ⟨m_goodI ((s_in0 hs ho0).trans (if_neg (fun z => h5 (by rw [z]; rfl)))), m_good ((s_in0 hs ho0).trans (if_neg (fun z => h5 (by rw [z]; rfl)))) rfl ((hR0.err 0).up (Nat.le_succ _))⟩ hP hA hS) hS.2.2 d_Mo_number_98)
          · -- ifne at 62: to 65
            have h0 : a.nu (a.sl (j_n sv)) = 0 := (nI_eq (b := 0) (by omega) (by omega)).mp h5
            refine lv_aload_n hx hb d_Mo_number_65 rfl (lv_at hl 0 rfl) ?_
            refine y_get (D := D) (ci := 5) (v := .ref (r 6)) (C := R_Mo) (T := F_Mo) (N := 20) hx hb hts in_Mo hown hK hP (m_at hri (i := 20) (by decide)) rfl 6 (by decide) (hts (.fieldLink R_Mo 29 "MemoryDeskModel" "numberOf" "[I") (by decide +kernel)) (fun _ h9 => h9) rfl d_Mo_number_66 ?_
            refine lv_aload_n hx hb d_Mo_number_69 rfl (lv_at hl 0 rfl) ?_
            refine y_get (D := D) (ci := 5) (v := .ref (r 15)) (C := R_Mo) (T := F_Mo) (N := 20) hx hb hts in_Mo hown hK hP (m_at hri (i := 20) (by decide)) rfl 15 (by decide) (hts (.fieldLink R_Mo 47 "MemoryDeskModel" "slots" "[I") (by decide +kernel)) (fun _ h9 => h9) rfl d_Mo_number_70 ?_
            refine lv_iload_n hx hb d_Mo_number_73 rfl (lv_at hl 1 rfl) ?_
            refine y_iald (f := (S.1 15)) hx hb hK hP 2 (m_at hri (i := 15) (by decide)) rfl hs.v32 d_Mo_number_74 ?_
            rw [r8 (j_n sv) hs.j32]
            refine lv_aload_n hx hb d_Mo_number_75 rfl (lv_at hl 0 rfl) ?_
            refine lv_dup hx hb d_Mo_number_76 rfl ?_
            refine y_get (D := D) (ci := 5) (v := .int (S.2.2 8)) (C := R_Mo) (T := F_Mo) (N := 20) hx hb hts in_Mo hown hK hP (m_at hri (i := 20) (by decide)) rfl 8 (by decide) (hts (.fieldLink R_Mo 115 "MemoryDeskModel" "numbered" "I") (by decide +kernel)) (fun _ h9 => h9) rfl d_Mo_number_77 ?_
            rw [r3]
            refine lv_iconst (v := 1) hx hb d_Mo_number_80 (by decide) ?_
            refine lv_iadd hx hb d_Mo_number_81 ?_
            rw [nI_1]
            refine lv_dup_x1 hx hb d_Mo_number_82 rfl rfl ?_
            refine y_put (D := D) (ci := 5) (v := .int (nI (a.nn + 1))) (ty := .int) (C := R_Mo) (T := F_Mo) (N := 20) hx hb hts in_Mo t_Mo t_Mo_ok n_Mo hown hK hP hA hS (m_at hri (i := 20) (by decide)) rfl 8 (by decide) (hts (.fieldLink R_Mo 115 "MemoryDeskModel" "numbered" "I") (by decide +kernel)) (fun _ h9 => h9) rfl (by decide +kernel) rfl rfl (Nat.le_of_ble_eq_true rfl) d_Mo_number_83 (fun H locs hP hA hS => ?_)
            have e9 : va_up (m_w r cN cZ cL (m_s S 10 0)) (r 20) (some (.inr (5, [.ref (r 0), .ref (r 1), .ref (r 2), .ref (r 3), .ref (r 4), .ref (r 5), .ref (r 6), .int (S.2.2 7), .int (nI (a.nn + 1)), .int (S.2.2 9), .int 0, .ref (r 11), .ref (r 12), .ref (r 13), .int (S.2.2 14), .ref (r 15), .ref (r 16), .ref (r 17), .ref (r 18), .int (S.2.2 19)]))) = (m_w r cN cZ cL (m_s (m_s S 10 0) 8 (nI (a.nn + 1)))) := m_ws8 hri (m_s S 10 0) (nI (a.nn + 1))
            have hP : y_P D vwCl (m_w r cN cZ cL (m_s (m_s S 10 0) 8 (nI (a.nn + 1)))) H := by rw [← e9]; exact hP
            have hA : ∀ q99 e99, (m_w r cN cZ cL (m_s (m_s S 10 0) 8 (nI (a.nn + 1)))) q99 = some e99 → A q99 := by rw [← e9]; exact hA
            refine y_iast (f := (S.1 6)) hx hb hK hP hA hS 2 (m_at hri (i := 6) (by decide)) rfl (vp_in_nI (by omega) (by decide)) d_Mo_number_86 (fun H locs hP hA hS => ?_)
            have e9 : va_up (m_w r cN cZ cL (m_s (m_s S 10 0) 8 (nI (a.nn + 1)))) (r 6) (some (.inl (cN, 514, .inl (upd (S.1 6) (nI (a.sl (j_n sv))).toNatClampNeg (nI (a.nn + 1)))))) = (m_w r cN cZ cL (m_a (m_s (m_s S 10 0) 8 (nI (a.nn + 1))) 6 (nI (a.sl (j_n sv))).toNatClampNeg (nI (a.nn + 1)))) := m_wa6 hri (m_s (m_s S 10 0) 8 (nI (a.nn + 1))) (nI (a.sl (j_n sv))).toNatClampNeg (nI (a.nn + 1))
            have hP : y_P D vwCl (m_w r cN cZ cL (m_a (m_s (m_s S 10 0) 8 (nI (a.nn + 1))) 6 (nI (a.sl (j_n sv))).toNatClampNeg (nI (a.nn + 1)))) H := by rw [← e9]; exact hP
            have hA : ∀ q99 e99, (m_w r cN cZ cL (m_a (m_s (m_s S 10 0) 8 (nI (a.nn + 1))) 6 (nI (a.sl (j_n sv))).toNatClampNeg (nI (a.nn + 1)))) q99 = some e99 → A q99 := by rw [← e9]; exact hA
            refine lv_aload_n hx hb d_Mo_number_87 rfl (lv_at hl 0 rfl) ?_
            refine y_get (D := D) (ci := 5) (v := .ref (r 6)) (C := R_Mo) (T := F_Mo) (N := 20) hx hb hts in_Mo hown hK hP (m_at hri (i := 20) (by decide)) rfl 6 (by decide) (hts (.fieldLink R_Mo 29 "MemoryDeskModel" "numberOf" "[I") (by decide +kernel)) (fun _ h9 => h9) rfl d_Mo_number_88 ?_
            refine lv_aload_n hx hb d_Mo_number_91 rfl (lv_at hl 0 rfl) ?_
            refine y_get (D := D) (ci := 5) (v := .ref (r 15)) (C := R_Mo) (T := F_Mo) (N := 20) hx hb hts in_Mo hown hK hP (m_at hri (i := 20) (by decide)) rfl 15 (by decide) (hts (.fieldLink R_Mo 47 "MemoryDeskModel" "slots" "[I") (by decide +kernel)) (fun _ h9 => h9) rfl d_Mo_number_92 ?_
            refine lv_iload_n hx hb d_Mo_number_95 rfl (lv_at hl 1 rfl) ?_
            refine y_iald (f := (S.1 15)) hx hb hK hP 2 (m_at hri (i := 15) (by decide)) rfl hs.v32 d_Mo_number_96 ?_
            rw [r8 (j_n sv) hs.j32]
            refine y_iald (f := (upd (S.1 6) (nI (a.sl (j_n sv))).toNatClampNeg (nI (a.nn + 1)))) hx hb hK hP 2 (m_at hri (i := 6) (by decide)) rfl (vp_in_nI (by omega) (by decide)) d_Mo_number_97 ?_
            rw [hclo, upd_s]
            have hTT : (m_a (m_s (m_s S 10 0) 8 (nI (a.nn + 1))) 6 (nI (a.sl (j_n sv))).toNatClampNeg (nI (a.nn + 1))) = (m_a (m_s (m_s S 10 0) 8 (nI (a.nn + 1))) 6 (a.sl (j_n sv)) (nI (a.nn + 1))) := by rw [hclo]
            rw [hTT] at hP hA
            refine W.widen (k := 0) (n := 0) (by first | decide | omega) (by first | decide | omega) ?_
            exact x_ret (W.iret (v := (nI (a.nn + 1))) hx hb hr (w_fin rfl hAe ⟨m_goodI ((s_in0 hs ho0).trans (if_pos h0)), m_good ((s_in0 hs ho0).trans (if_pos h0)) rfl ((hR0.err 0).numb)⟩ hP hA hS) hS.2.2 d_Mo_number_98)
        · exact absurd rfl z1
        · exact absurd rfl z1
      · -- ifne at 34: to 37
        have ho0 : a.sl (j_n sv) = 0 := ((nI_eq (b := 0) (by have := hw.2.2.1 (j_n sv) hs.j32; omega) (by omega)).mp h3)
        refine lv_iconst (v := 1) hx hb d_Mo_number_37 (by decide) ?_
        refine lv_goto hx hb d_Mo_number_38 rfl ?_
        refine lv_iconst (v := 2) hx hb d_Mo_number_42 (by decide) ?_
        refine w_callV (As := [.int 1, .int 2]) (C := R_Mo) ⟨hx, hb, hml, hown, hts⟩ (c_Mo_fails l D cK cI cN cZ cL r hri (m_s S 10 0) _ 1 2 (by decide)) (x_cb (cwV (own := R_Mo) (index := 96) (C := R_Mo) 2 hts (x_gi (by decide +kernel)) rfl rfl rfl (by decide +kernel) ⟨by decide, by decide⟩).1) (hts (.instanceMethod y_Mo_fails) (by decide +kernel)) (hts (.selects R_Mo y_Mo_fails y_Mo_fails) (by decide +kernel)) (y_recv (ci := 5) (q := (R_Mo, F_Mo, 20)) hK hP rfl (m_at hri (i := 20) (by decide))) hE hP hA hA0 hS rfl hl.1 rfl (lv_room (Nat.le_of_ble_eq_true rfl)) d_Mo_number_43 (by first | decide | omega) (by first | decide | omega) (fun v9 g9 H locs hq9 hP hA hS => ?_) (fun E9 q9 ce9 g9 H locs hq9 hP hA hS z1 z2 z3 => ?_)
        rotate_left
        · rcases hq9 with z | z | z
          · exact nomatch z.2.2.1
          · exact nomatch z.2.1
          · exact nomatch z.2.2.1
        rcases hq9 with ⟨z1, z2, hv9, hg9⟩ | ⟨z1, hv9, hg9⟩ | ⟨z1, z2, hv9, hg9⟩
        · exact absurd z1 (by decide)
        · exact absurd rfl z1
        · cases hv9
          rw [hg9] at hP hA
          refine W.eq (g2 := F0 m 46 ls [.int 1]) rfl ?_
          refine lv_if_eq hx hb d_Mo_number_46 rfl (fun h6 => (absurd h6 (by decide))) (fun h6 => ?_)
          refine lv_iconst (v := 0) hx hb d_Mo_number_49 (by decide) ?_
          refine W.widen (k := 0) (n := 0) (by first | decide | omega) (by first | decide | omega) ?_
          exact x_ret (W.iret (v := 0) hx hb hr (w_fin rfl hAe ⟨m_badI (i := 1) (s_in2 hs ho0), m_bad (i := 1) (s_in2 hs ho0) rfl ((hR0.err 0).err 2)⟩ hP hA hS) hS.2.2 d_Mo_number_50)
    · exact absurd rfl z1
    · exact absurd rfl z1
  · -- ifne at 12: to 15
    have hs : ¬ b_in sv 32 := fun z => by have hy_ := h1; rw [c_bit.y (show ¬ sv < 0 ∧ sv ≤ 31 from (b_inI (n := 31) (by decide)).mpr z)] at hy_; exact absurd hy_ (by decide)
    refine lv_iconst (v := 1) hx hb d_Mo_number_15 (by decide) ?_
    refine lv_goto hx hb d_Mo_number_16 rfl ?_
    refine lv_iconst (v := 1) hx hb d_Mo_number_20 (by decide) ?_
    refine w_callV (As := [.int 1, .int 1]) (C := R_Mo) ⟨hx, hb, hml, hown, hts⟩ (c_Mo_fails l D cK cI cN cZ cL r hri (m_s S 10 0) _ 1 1 (by decide)) (x_cb (cwV (own := R_Mo) (index := 96) (C := R_Mo) 2 hts (x_gi (by decide +kernel)) rfl rfl rfl (by decide +kernel) ⟨by decide, by decide⟩).1) (hts (.instanceMethod y_Mo_fails) (by decide +kernel)) (hts (.selects R_Mo y_Mo_fails y_Mo_fails) (by decide +kernel)) (y_recv (ci := 5) (q := (R_Mo, F_Mo, 20)) hK hP rfl (m_at hri (i := 20) (by decide))) hE hP hA hA0 hS rfl hl.1 rfl (lv_room (Nat.le_of_ble_eq_true rfl)) d_Mo_number_21 (by first | decide | omega) (by first | decide | omega) (fun v9 g9 H locs hq9 hP hA hS => ?_) (fun E9 q9 ce9 g9 H locs hq9 hP hA hS z1 z2 z3 => ?_)
    rotate_left
    · rcases hq9 with z | z | z
      · exact nomatch z.2.2.1
      · exact nomatch z.2.1
      · exact nomatch z.2.2.1
    rcases hq9 with ⟨z1, z2, hv9, hg9⟩ | ⟨z1, hv9, hg9⟩ | ⟨z1, z2, hv9, hg9⟩
    · exact absurd z1 (by decide)
    · exact absurd rfl z1
    · cases hv9
      rw [hg9] at hP hA
      refine W.eq (g2 := F0 m 24 ls [.int 1]) rfl ?_
      refine lv_if_ne hx hb d_Mo_number_24 rfl (fun h7 => ?_) (fun h7 => (absurd h7 (by decide)))
      refine lv_iconst (v := 0) hx hb d_Mo_number_49 (by decide) ?_
      refine W.widen (k := 0) (n := 0) (by first | decide | omega) (by first | decide | omega) ?_
      exact x_ret (W.iret (v := 0) hx hb hr (w_fin rfl hAe ⟨m_badI (i := 0) (q_n hs), m_bad (i := 0) (q_n hs) rfl ((hR0.err 0).err 1)⟩ hP hA hS) hS.2.2 d_Mo_number_50)
theorem c_bit_iff {X : Prop} {rf : Int32} (h : c_bit X = rf) : X ↔ rf = 1 := by
  by_cases hX : X
  · rw [c_bit.y hX] at h; exact ⟨fun _ => h.symm, fun _ => hX⟩
  · rw [c_bit.n hX] at h; exact ⟨fun z => absurd z hX, fun z => by rw [z] at h; exact absurd h (by decide)⟩
theorem c_bit_of {X : Prop} {rf : Int32} (hrf : rf = 0 ∨ rf = 1) (h : X ↔ rf = 1) : c_bit X = rf := by
  rcases hrf with rfl | rfl
  · exact c_bit.n (fun z => absurd (h.mp z) (by decide))
  · exact c_bit.y (h.mpr rfl)
set_option maxHeartbeats 4000000 in
set_option maxRecDepth 100000 in
/-- placed(s, k, reference) -/
theorem c_Mo_placed (l : Launch) (D : va_G) (cK cI cN cZ cL : ClassId) (r : Nat → Nat) (hri : m_inj r) (S : MS) (sz : Nat) (a : Ab) (cn : Nat) (sv k rf : Int32) (RF : Prop) (hRF : RF ↔ rf = 1) (hrf : rf = 0 ∨ rf = 1) (hw : a_W a cn) (hc : cn ≤ 512) (hR : m_R a S cn) : x_M l y_Mo_placed [.code y_Mo_placed b_Mo_placed 5 (some .int)] rmV (w_Pc D (x_tys cK cI cN cZ cL) [.ref (r 20), .int sv, .int k, .int rf] (m_w r cN cZ cL S) sz) (w_Qc D (m_w r cN cZ cL S) sz (fun r9 g9 => (∃ i, (∀ f, s_pl a sv k RF f = (i + 1, none, a)) ∧ r9 = .inl (some (.int 0)) ∧ g9 = m_w r cN cZ cL (m_s (m_s S 10 0) 10 (nI (i + 1)))) ∨ (b_in sv 32 ∧ a.sl (j_n sv) ≠ 0 ∧ (a_ref a (a.sl (j_n sv)) k ↔ RF) ∧ (∀ f, s_pl a sv k RF f = f (a.sl (j_n sv))) ∧ r9 = .inl (some (.int (nI (a.sl (j_n sv))))) ∧ g9 = m_w r cN cZ cL (m_s S 10 0)))) 0 0 (y_A (m_w r cN cZ cL S) sz) := by
  refine x_ofW (cc := b_Mo_placed) (maxL := 5) (ret := (some .int)) (by decide) rfl ?_
  intro p e s m args below meth c s₁ B hml hno hv
  obtain ⟨rfl, hsz, hP, hE⟩ := hv
  subst hsz
  have hts := hE.hts ([.ref (r 20), .int sv, .int k, .int rf] : List Value).toArray
  have hK := hE.1.2.1
  have hA0 : ∀ q, s.heap.size ≤ q → y_A (m_w r cN cZ cL S) s.heap.size q := fun q h => Or.inr h
  have hA : ∀ q e, (m_w r cN cZ cL S) q = some e → y_A (m_w r cN cZ cL S) s.heap.size q := fun q e h => Or.inl (by rw [h]; exact fun z => nomatch z)
  have hS : va_S (y_A (m_w r cN cZ cL S) s.heap.size) s.heap s.heap [] := va_S.rf
  generalize hAe : y_A (m_w r cN cZ cL S) s.heap.size = A at hE hA0 hA hS ⊢
  have hx := B.exec
  have hb := B.bytes
  have hr := B.returns
  have hlocks := B.notSynchronized
  have hown : s.vm.findClass R_Mo = some m.cls := findClass_of_methodNamed B.named
  have hl := lv_entry ([.ref (r 20), .int sv, .int k, .int rf]) (n := 5) (Nat.le_of_ble_eq_true rfl)
  rw [lg_entry_eq]
  generalize (lg_sl ([.ref (r 20), .int sv, .int k, .int rf]) ++ List.replicate (5 - (lg_sl ([.ref (r 20), .int sv, .int k, .int rf])).length) Slot.unset).toArray = ls at hl ⊢
  have hl : lv_has ls 5 [(0, .ref (r 20)), (1, .int sv), (2, .int k), (3, .int rf)] := hl
  have hR0 := hR
  have hn : a.n ≤ cn := hw.2.2.2.2.2.2.2.2.2.1
  obtain ⟨r1, ⟨r2, r3, r4, r5⟩, r6, r7, r8, r9, r10, en, r11, r12, r13, r14⟩ := hR
  refine lv_aload_n hx hb d_Mo_placed_0 rfl (lv_at hl 0 rfl) ?_
  refine lv_iconst (v := 0) hx hb d_Mo_placed_1 (by decide) ?_
  refine y_put (D := D) (ci := 5) (v := .int 0) (ty := .int) (C := R_Mo) (T := F_Mo) (N := 20) hx hb hts in_Mo t_Mo t_Mo_ok n_Mo hown hK hP hA hS (m_at hri (i := 20) (by decide)) rfl 10 (by decide) (hts (.fieldLink R_Mo 59 "MemoryDeskModel" "err" "I") (by decide +kernel)) (fun _ h9 => h9) rfl (by decide +kernel) rfl rfl (Nat.le_of_ble_eq_true rfl) d_Mo_placed_2 (fun H locs hP hA hS => ?_)
  have e9 : va_up (m_w r cN cZ cL S) (r 20) (some (.inr (5, [.ref (r 0), .ref (r 1), .ref (r 2), .ref (r 3), .ref (r 4), .ref (r 5), .ref (r 6), .int (S.2.2 7), .int (S.2.2 8), .int (S.2.2 9), .int 0, .ref (r 11), .ref (r 12), .ref (r 13), .int (S.2.2 14), .ref (r 15), .ref (r 16), .ref (r 17), .ref (r 18), .int (S.2.2 19)]))) = (m_w r cN cZ cL (m_s S 10 0)) := m_ws10 hri S 0
  have hP : y_P D vwCl (m_w r cN cZ cL (m_s S 10 0)) H := by rw [← e9]; exact hP
  have hA : ∀ q99 e99, (m_w r cN cZ cL (m_s S 10 0)) q99 = some e99 → A q99 := by rw [← e9]; exact hA
  refine lv_aload_n hx hb d_Mo_placed_5 rfl (lv_at hl 0 rfl) ?_
  refine lv_iload_n hx hb d_Mo_placed_6 rfl (lv_at hl 1 rfl) ?_
  refine lv_bipush (v := 31) hx hb d_Mo_placed_7 (by decide) ?_
  refine w_callS (As := [.int sv, .int 31]) ⟨hx, hb, hml, hown, hts⟩ (c_Mo_in l D cK cI cN cZ cL r hri (m_s S 10 0) _ sv 31) (x_cb (va_cwS (own := R_Mo) (index := 93) 2 hts (x_gi (by decide +kernel)) rfl rfl rfl (by decide +kernel) ⟨by decide, by decide⟩).1) (hts (.static y_Mo_in) (by decide +kernel)) hE hP hA hA0 hS rfl hl.1 rfl (lv_room (Nat.le_of_ble_eq_true rfl)) d_Mo_placed_9 (by first | decide | omega) (by first | decide | omega) (fun v9 g9 H locs hq9 hP hA hS => ?_) (fun E9 q9 ce9 g9 H locs hq9 hP hA hS z1 z2 z3 => ?_)
  rotate_left
  · exact nomatch hq9.1
  obtain ⟨hv9, hg9⟩ := hq9
  cases hv9
  rw [hg9] at hP hA
  refine W.eq (g2 := F0 m 12 ls [.int (c_bit (¬ sv < 0 ∧ sv ≤ 31)), .ref (r 20)]) rfl ?_
  refine lv_if_ne hx hb d_Mo_placed_12 rfl (fun h1 => ?_) (fun h1 => ?_)
  · -- ifne at 12: to 19
    have hs : b_in sv 32 := (b_inI (n := 31) (by decide)).mp (Classical.byContradiction (fun z => h1 (c_bit.n z)))
    refine lv_iconst (v := 0) hx hb d_Mo_placed_19 (by decide) ?_
    refine lv_iconst (v := 1) hx hb d_Mo_placed_20 (by decide) ?_
    refine w_callV (As := [.int 0, .int 1]) (C := R_Mo) ⟨hx, hb, hml, hown, hts⟩ (c_Mo_fails l D cK cI cN cZ cL r hri (m_s S 10 0) _ 0 1 (by decide)) (x_cb (cwV (own := R_Mo) (index := 96) (C := R_Mo) 2 hts (x_gi (by decide +kernel)) rfl rfl rfl (by decide +kernel) ⟨by decide, by decide⟩).1) (hts (.instanceMethod y_Mo_fails) (by decide +kernel)) (hts (.selects R_Mo y_Mo_fails y_Mo_fails) (by decide +kernel)) (y_recv (ci := 5) (q := (R_Mo, F_Mo, 20)) hK hP rfl (m_at hri (i := 20) (by decide))) hE hP hA hA0 hS rfl hl.1 rfl (lv_room (Nat.le_of_ble_eq_true rfl)) d_Mo_placed_21 (by first | decide | omega) (by first | decide | omega) (fun v9 g9 H locs hq9 hP hA hS => ?_) (fun E9 q9 ce9 g9 H locs hq9 hP hA hS z1 z2 z3 => ?_)
    rotate_left
    · rcases hq9 with z | z | z
      · exact nomatch z.2.2.1
      · exact nomatch z.2.1
      · exact nomatch z.2.2.1
    rcases hq9 with ⟨z1, z2, hv9, hg9⟩ | ⟨z1, hv9, hg9⟩ | ⟨z1, z2, hv9, hg9⟩
    · cases hv9
      rw [hg9] at hP hA
      refine W.eq (g2 := F0 m 24 ls [.int 0]) rfl ?_
      refine lv_if_ne hx hb d_Mo_placed_24 rfl (fun h2 => (absurd rfl h2)) (fun h2 => ?_)
      refine lv_aload_n hx hb d_Mo_placed_27 rfl (lv_at hl 0 rfl) ?_
      refine lv_aload_n hx hb d_Mo_placed_28 rfl (lv_at hl 0 rfl) ?_
      refine y_get (D := D) (ci := 5) (v := .ref (r 15)) (C := R_Mo) (T := F_Mo) (N := 20) hx hb hts in_Mo hown hK hP (m_at hri (i := 20) (by decide)) rfl 15 (by decide) (hts (.fieldLink R_Mo 47 "MemoryDeskModel" "slots" "[I") (by decide +kernel)) (fun _ h9 => h9) rfl d_Mo_placed_29 ?_
      refine lv_iload_n hx hb d_Mo_placed_32 rfl (lv_at hl 1 rfl) ?_
      refine y_iald (f := (S.1 15)) hx hb hK hP 2 (m_at hri (i := 15) (by decide)) rfl hs.v32 d_Mo_placed_33 ?_
      rw [r8 (j_n sv) hs.j32]
      refine lv_if_ne hx hb d_Mo_placed_34 rfl (fun h3 => ?_) (fun h3 => ?_)
      · -- ifne at 34: to 41
        have ho0 : a.sl (j_n sv) ≠ 0 := fun z => h3 (by rw [z]; rfl)
        have o1 : 1 ≤ a.sl (j_n sv) := by omega
        have o2 := hw.2.2.1 (j_n sv) hs.j32
        refine lv_iconst (v := 0) hx hb d_Mo_placed_41 (by decide) ?_
        refine lv_iconst (v := 2) hx hb d_Mo_placed_42 (by decide) ?_
        refine w_callV (As := [.int 0, .int 2]) (C := R_Mo) ⟨hx, hb, hml, hown, hts⟩ (c_Mo_fails l D cK cI cN cZ cL r hri (m_s S 10 0) _ 0 2 (by decide)) (x_cb (cwV (own := R_Mo) (index := 96) (C := R_Mo) 2 hts (x_gi (by decide +kernel)) rfl rfl rfl (by decide +kernel) ⟨by decide, by decide⟩).1) (hts (.instanceMethod y_Mo_fails) (by decide +kernel)) (hts (.selects R_Mo y_Mo_fails y_Mo_fails) (by decide +kernel)) (y_recv (ci := 5) (q := (R_Mo, F_Mo, 20)) hK hP rfl (m_at hri (i := 20) (by decide))) hE hP hA hA0 hS rfl hl.1 rfl (lv_room (Nat.le_of_ble_eq_true rfl)) d_Mo_placed_43 (by first | decide | omega) (by first | decide | omega) (fun v9 g9 H locs hq9 hP hA hS => ?_) (fun E9 q9 ce9 g9 H locs hq9 hP hA hS z1 z2 z3 => ?_)
        rotate_left
        · rcases hq9 with z | z | z
          · exact nomatch z.2.2.1
          · exact nomatch z.2.1
          · exact nomatch z.2.2.1
        rcases hq9 with ⟨z1, z2, hv9, hg9⟩ | ⟨z1, hv9, hg9⟩ | ⟨z1, z2, hv9, hg9⟩
        · cases hv9
          rw [hg9] at hP hA
          refine W.eq (g2 := F0 m 46 ls [.int 0]) rfl ?_
          refine lv_if_eq hx hb d_Mo_placed_46 rfl (fun h4 => ?_) (fun h4 => (absurd rfl h4))
          obtain ⟨hok, hcl, -⟩ := (hR0.err 0).ok hw hc o1 o2
          refine lv_aload_n hx hb d_Mo_placed_51 rfl (lv_at hl 0 rfl) ?_
          refine y_get (D := D) (ci := 5) (v := .ref (r 15)) (C := R_Mo) (T := F_Mo) (N := 20) hx hb hts in_Mo hown hK hP (m_at hri (i := 20) (by decide)) rfl 15 (by decide) (hts (.fieldLink R_Mo 47 "MemoryDeskModel" "slots" "[I") (by decide +kernel)) (fun _ h9 => h9) rfl d_Mo_placed_52 ?_
          refine lv_iload_n hx hb d_Mo_placed_55 rfl (lv_at hl 1 rfl) ?_
          refine y_iald (f := (S.1 15)) hx hb hK hP 2 (m_at hri (i := 15) (by decide)) rfl hs.v32 d_Mo_placed_56 ?_
          rw [r8 (j_n sv) hs.j32]
          refine lv_istore hx hb d_Mo_placed_57 hl (by decide) rfl (fun ls hl => ?_)
          have hl : lv_has ls 5 [(4, .int (nI (a.sl (j_n sv)))), (0, .ref (r 20)), (1, .int sv), (2, .int k), (3, .int rf)] := hl
          refine lv_aload_n hx hb d_Mo_placed_59 rfl (lv_at hl 1 rfl) ?_
          refine lv_iload_n hx hb d_Mo_placed_60 rfl (lv_at hl 3 rfl) ?_
          refine lv_if_lt hx hb d_Mo_placed_61 rfl (fun h5 => ?_) (fun h5 => ?_)
          · -- iflt at 61: to 74
            refine lv_iconst (v := 1) hx hb d_Mo_placed_74 (by decide) ?_
            refine lv_goto hx hb d_Mo_placed_75 rfl ?_
            refine lv_iconst (v := 3) hx hb d_Mo_placed_79 (by decide) ?_
            refine w_callV (As := [.int 1, .int 3]) (C := R_Mo) ⟨hx, hb, hml, hown, hts⟩ (c_Mo_fails l D cK cI cN cZ cL r hri (m_s S 10 0) _ 1 3 (by decide)) (x_cb (cwV (own := R_Mo) (index := 96) (C := R_Mo) 2 hts (x_gi (by decide +kernel)) rfl rfl rfl (by decide +kernel) ⟨by decide, by decide⟩).1) (hts (.instanceMethod y_Mo_fails) (by decide +kernel)) (hts (.selects R_Mo y_Mo_fails y_Mo_fails) (by decide +kernel)) (y_recv (ci := 5) (q := (R_Mo, F_Mo, 20)) hK hP rfl (m_at hri (i := 20) (by decide))) hE hP hA hA0 hS rfl hl.1 rfl (lv_room (Nat.le_of_ble_eq_true rfl)) d_Mo_placed_80 (by first | decide | omega) (by first | decide | omega) (fun v9 g9 H locs hq9 hP hA hS => ?_) (fun E9 q9 ce9 g9 H locs hq9 hP hA hS z1 z2 z3 => ?_)
            rotate_left
            · rcases hq9 with z | z | z
              · exact nomatch z.2.2.1
              · exact nomatch z.2.1
              · exact nomatch z.2.2.1
            rcases hq9 with ⟨z1, z2, hv9, hg9⟩ | ⟨z1, hv9, hg9⟩ | ⟨z1, z2, hv9, hg9⟩
            · exact absurd z1 (by decide)
            · exact absurd rfl z1
            · cases hv9
              rw [hg9] at hP hA
              refine W.eq (g2 := F0 m 83 ls [.int 1]) rfl ?_
              refine lv_if_ne hx hb d_Mo_placed_83 rfl (fun h6 => ?_) (fun h6 => (absurd h6 (by decide)))
              refine lv_iconst (v := 0) hx hb d_Mo_placed_110 (by decide) ?_
              refine W.widen (k := 0) (n := 0) (by first | decide | omega) (by first | decide | omega) ?_
              exact x_ret (W.iret (v := 0) hx hb hr (w_fin rfl hAe (Or.inl ⟨2, fun f => s_pl3 hs ho0 (fun z => z.1 h5), rfl, rfl⟩) hP hA hS) hS.2.2 d_Mo_placed_111)
          · -- iflt at 61: to 64
            refine lv_iload_n hx hb d_Mo_placed_64 rfl (lv_at hl 3 rfl) ?_
            refine lv_aload_n hx hb d_Mo_placed_65 rfl (lv_at hl 1 rfl) ?_
            refine lv_iload hx hb d_Mo_placed_66 (lv_at hl 0 rfl) ?_
            refine w_callV (As := [.int (nI (a.sl (j_n sv)))]) (C := R_Mo) ⟨hx, hb, hml, hown, hts⟩ (c_Mo_many l D cK cI cN cZ cL r hri (m_s S 10 0) _ (nI (a.sl (j_n sv))) hok) (x_cb (cwV (own := R_Mo) (index := 77) (C := R_Mo) 1 hts (x_gi (by decide +kernel)) rfl rfl rfl (by decide +kernel) ⟨by decide, by decide⟩).1) (hts (.instanceMethod y_Mo_many) (by decide +kernel)) (hts (.selects R_Mo y_Mo_many y_Mo_many) (by decide +kernel)) (y_recv (ci := 5) (q := (R_Mo, F_Mo, 20)) hK hP rfl (m_at hri (i := 20) (by decide))) hE hP hA hA0 hS rfl hl.1 rfl (lv_room (Nat.le_of_ble_eq_true rfl)) d_Mo_placed_68 (by first | decide | omega) (by first | decide | omega) (fun v9 g9 H locs hq9 hP hA hS => ?_) (fun E9 q9 ce9 g9 H locs hq9 hP hA hS z1 z2 z3 => ?_)
            rotate_left
            · exact nomatch hq9.1
            obtain ⟨hv9, hg9⟩ := hq9
            cases hv9
            rw [hg9] at hP hA
            refine W.eq (g2 := F0 m 71 ls [.int (m_many (m_s S 10 0) (nI (a.sl (j_n sv)))), .int k, .ref (r 20)]) rfl ?_
            rw [(hR0.err 0).many hw hc o1 o2]
            refine lv_icmp_lt hx hb d_Mo_placed_71 rfl (fun h7 => ?_) (fun h7 => ?_)
            · -- if_icmplt at 71: to 78
              have hki : b_in k (a_len a (a.sl (j_n sv))) := ⟨h5, h7⟩
              refine lv_iconst (v := 0) hx hb d_Mo_placed_78 (by decide) ?_
              refine lv_iconst (v := 3) hx hb d_Mo_placed_79 (by decide) ?_
              refine w_callV (As := [.int 0, .int 3]) (C := R_Mo) ⟨hx, hb, hml, hown, hts⟩ (c_Mo_fails l D cK cI cN cZ cL r hri (m_s S 10 0) _ 0 3 (by decide)) (x_cb (cwV (own := R_Mo) (index := 96) (C := R_Mo) 2 hts (x_gi (by decide +kernel)) rfl rfl rfl (by decide +kernel) ⟨by decide, by decide⟩).1) (hts (.instanceMethod y_Mo_fails) (by decide +kernel)) (hts (.selects R_Mo y_Mo_fails y_Mo_fails) (by decide +kernel)) (y_recv (ci := 5) (q := (R_Mo, F_Mo, 20)) hK hP rfl (m_at hri (i := 20) (by decide))) hE hP hA hA0 hS rfl hl.1 rfl (lv_room (Nat.le_of_ble_eq_true rfl)) d_Mo_placed_80 (by first | decide | omega) (by first | decide | omega) (fun v9 g9 H locs hq9 hP hA hS => ?_) (fun E9 q9 ce9 g9 H locs hq9 hP hA hS z1 z2 z3 => ?_)
              rotate_left
              · rcases hq9 with z | z | z
                · exact nomatch z.2.2.1
                · exact nomatch z.2.1
                · exact nomatch z.2.2.1
              rcases hq9 with ⟨z1, z2, hv9, hg9⟩ | ⟨z1, hv9, hg9⟩ | ⟨z1, z2, hv9, hg9⟩
              · cases hv9
                rw [hg9] at hP hA
                refine W.eq (g2 := F0 m 83 ls [.int 0]) rfl ?_
                refine lv_if_ne hx hb d_Mo_placed_83 rfl (fun h8 => (absurd rfl h8)) (fun h8 => ?_)
                refine lv_aload_n hx hb d_Mo_placed_86 rfl (lv_at hl 1 rfl) ?_
                refine lv_aload_n hx hb d_Mo_placed_87 rfl (lv_at hl 1 rfl) ?_
                refine lv_iload hx hb d_Mo_placed_88 (lv_at hl 0 rfl) ?_
                refine lv_iload_n hx hb d_Mo_placed_90 rfl (lv_at hl 3 rfl) ?_
                refine w_callV (As := [.int (nI (a.sl (j_n sv))), .int k]) (C := R_Mo) ⟨hx, hb, hml, hown, hts⟩ (c_Mo_isReference l D cK cI cN cZ cL r hri (m_s S 10 0) _ (nI (a.sl (j_n sv))) k hok) (x_cb (cwV (own := R_Mo) (index := 85) (C := R_Mo) 2 hts (x_gi (by decide +kernel)) rfl rfl rfl (by decide +kernel) ⟨by decide, by decide⟩).1) (hts (.instanceMethod y_Mo_isReference) (by decide +kernel)) (hts (.selects R_Mo y_Mo_isReference y_Mo_isReference) (by decide +kernel)) (y_recv (ci := 5) (q := (R_Mo, F_Mo, 20)) hK hP rfl (m_at hri (i := 20) (by decide))) hE hP hA hA0 hS rfl hl.1 rfl (lv_room (Nat.le_of_ble_eq_true rfl)) d_Mo_placed_91 (by first | decide | omega) (by first | decide | omega) (fun v9 g9 H locs hq9 hP hA hS => ?_) (fun E9 q9 ce9 g9 H locs hq9 hP hA hS z1 z2 z3 => ?_)
                rotate_left
                · exact nomatch hq9.1
                obtain ⟨hv9, hg9⟩ := hq9
                cases hv9
                rw [hg9] at hP hA
                refine W.eq (g2 := F0 m 94 ls [.int (m_isr (m_s S 10 0) (nI (a.sl (j_n sv))) k), .ref (r 20)]) rfl ?_
                rw [(hR0.err 0).isr hw hc o1 o2]
                refine lv_iload_n hx hb d_Mo_placed_94 rfl (lv_at hl 4 rfl) ?_
                refine lv_icmp_eq hx hb d_Mo_placed_95 rfl (fun h9 => ?_) (fun h9 => ?_)
                · -- if_icmpeq at 95: to 102
                  have hrr : a_ref a (a.sl (j_n sv)) k ↔ RF := (c_bit_iff h9).trans hRF.symm
                  refine lv_iconst (v := 0) hx hb d_Mo_placed_102 (by decide) ?_
                  refine lv_iconst (v := 4) hx hb d_Mo_placed_103 (by decide) ?_
                  refine w_callV (As := [.int 0, .int 4]) (C := R_Mo) ⟨hx, hb, hml, hown, hts⟩ (c_Mo_fails l D cK cI cN cZ cL r hri (m_s S 10 0) _ 0 4 (by decide)) (x_cb (cwV (own := R_Mo) (index := 96) (C := R_Mo) 2 hts (x_gi (by decide +kernel)) rfl rfl rfl (by decide +kernel) ⟨by decide, by decide⟩).1) (hts (.instanceMethod y_Mo_fails) (by decide +kernel)) (hts (.selects R_Mo y_Mo_fails y_Mo_fails) (by decide +kernel)) (y_recv (ci := 5) (q := (R_Mo, F_Mo, 20)) hK hP rfl (m_at hri (i := 20) (by decide))) hE hP hA hA0 hS rfl hl.1 rfl (lv_room (Nat.le_of_ble_eq_true rfl)) d_Mo_placed_104 (by first | decide | omega) (by first | decide | omega) (fun v9 g9 H locs hq9 hP hA hS => ?_) (fun E9 q9 ce9 g9 H locs hq9 hP hA hS z1 z2 z3 => ?_)
                  rotate_left
                  · rcases hq9 with z | z | z
                    · exact nomatch z.2.2.1
                    · exact nomatch z.2.1
                    · exact nomatch z.2.2.1
                  rcases hq9 with ⟨z1, z2, hv9, hg9⟩ | ⟨z1, hv9, hg9⟩ | ⟨z1, z2, hv9, hg9⟩
                  · cases hv9
                    rw [hg9] at hP hA
                    refine W.eq (g2 := F0 m 107 ls [.int 0]) rfl ?_
                    refine lv_if_eq hx hb d_Mo_placed_107 rfl (fun h10 => ?_) (fun h10 => (absurd rfl h10))
                    refine lv_iload hx hb d_Mo_placed_112 (lv_at hl 0 rfl) ?_
                    refine W.widen (k := 0) (n := 0) (by first | decide | omega) (by first | decide | omega) ?_
                    exact x_ret (W.iret (v := (nI (a.sl (j_n sv)))) hx hb hr (w_fin rfl hAe (Or.inr ⟨hs, ho0, hrr, fun f => s_pl0 hs ho0 hki hrr, rfl, rfl⟩) hP hA hS) hS.2.2 d_Mo_placed_114)
                  · exact absurd rfl z1
                  · exact absurd rfl z1
                · -- if_icmpeq at 95: to 98
                  refine lv_iconst (v := 1) hx hb d_Mo_placed_98 (by decide) ?_
                  refine lv_goto hx hb d_Mo_placed_99 rfl ?_
                  refine lv_iconst (v := 4) hx hb d_Mo_placed_103 (by decide) ?_
                  refine w_callV (As := [.int 1, .int 4]) (C := R_Mo) ⟨hx, hb, hml, hown, hts⟩ (c_Mo_fails l D cK cI cN cZ cL r hri (m_s S 10 0) _ 1 4 (by decide)) (x_cb (cwV (own := R_Mo) (index := 96) (C := R_Mo) 2 hts (x_gi (by decide +kernel)) rfl rfl rfl (by decide +kernel) ⟨by decide, by decide⟩).1) (hts (.instanceMethod y_Mo_fails) (by decide +kernel)) (hts (.selects R_Mo y_Mo_fails y_Mo_fails) (by decide +kernel)) (y_recv (ci := 5) (q := (R_Mo, F_Mo, 20)) hK hP rfl (m_at hri (i := 20) (by decide))) hE hP hA hA0 hS rfl hl.1 rfl (lv_room (Nat.le_of_ble_eq_true rfl)) d_Mo_placed_104 (by first | decide | omega) (by first | decide | omega) (fun v9 g9 H locs hq9 hP hA hS => ?_) (fun E9 q9 ce9 g9 H locs hq9 hP hA hS z1 z2 z3 => ?_)
                  rotate_left
                  · rcases hq9 with z | z | z
                    · exact nomatch z.2.2.1
                    · exact nomatch z.2.1
                    · exact nomatch z.2.2.1
                  rcases hq9 with ⟨z1, z2, hv9, hg9⟩ | ⟨z1, hv9, hg9⟩ | ⟨z1, z2, hv9, hg9⟩
                  · exact absurd z1 (by decide)
                  · exact absurd rfl z1
                  · cases hv9
                    rw [hg9] at hP hA
                    refine W.eq (g2 := F0 m 107 ls [.int 1]) rfl ?_
                    refine lv_if_eq hx hb d_Mo_placed_107 rfl (fun h11 => (absurd h11 (by decide))) (fun h11 => ?_)
                    refine lv_iconst (v := 0) hx hb d_Mo_placed_110 (by decide) ?_
                    refine W.widen (k := 0) (n := 0) (by first | decide | omega) (by first | decide | omega) ?_
                    exact x_ret (W.iret (v := 0) hx hb hr (w_fin rfl hAe (Or.inl ⟨3, fun f => s_pl4 hs ho0 hki (fun z => h9 (c_bit_of hrf (z.trans hRF))), rfl, rfl⟩) hP hA hS) hS.2.2 d_Mo_placed_111)
              · exact absurd rfl z1
              · exact absurd rfl z1
            · -- if_icmplt at 71: to 74
              refine lv_iconst (v := 1) hx hb d_Mo_placed_74 (by decide) ?_
              refine lv_goto hx hb d_Mo_placed_75 rfl ?_
              refine lv_iconst (v := 3) hx hb d_Mo_placed_79 (by decide) ?_
              refine w_callV (As := [.int 1, .int 3]) (C := R_Mo) ⟨hx, hb, hml, hown, hts⟩ (c_Mo_fails l D cK cI cN cZ cL r hri (m_s S 10 0) _ 1 3 (by decide)) (x_cb (cwV (own := R_Mo) (index := 96) (C := R_Mo) 2 hts (x_gi (by decide +kernel)) rfl rfl rfl (by decide +kernel) ⟨by decide, by decide⟩).1) (hts (.instanceMethod y_Mo_fails) (by decide +kernel)) (hts (.selects R_Mo y_Mo_fails y_Mo_fails) (by decide +kernel)) (y_recv (ci := 5) (q := (R_Mo, F_Mo, 20)) hK hP rfl (m_at hri (i := 20) (by decide))) hE hP hA hA0 hS rfl hl.1 rfl (lv_room (Nat.le_of_ble_eq_true rfl)) d_Mo_placed_80 (by first | decide | omega) (by first | decide | omega) (fun v9 g9 H locs hq9 hP hA hS => ?_) (fun E9 q9 ce9 g9 H locs hq9 hP hA hS z1 z2 z3 => ?_)
              rotate_left
              · rcases hq9 with z | z | z
                · exact nomatch z.2.2.1
                · exact nomatch z.2.1
                · exact nomatch z.2.2.1
              rcases hq9 with ⟨z1, z2, hv9, hg9⟩ | ⟨z1, hv9, hg9⟩ | ⟨z1, z2, hv9, hg9⟩
              · exact absurd z1 (by decide)
              · exact absurd rfl z1
              · cases hv9
                rw [hg9] at hP hA
                refine W.eq (g2 := F0 m 83 ls [.int 1]) rfl ?_
                refine lv_if_ne hx hb d_Mo_placed_83 rfl (fun h12 => ?_) (fun h12 => (absurd h12 (by decide)))
                refine lv_iconst (v := 0) hx hb d_Mo_placed_110 (by decide) ?_
                refine W.widen (k := 0) (n := 0) (by first | decide | omega) (by first | decide | omega) ?_
                exact x_ret (W.iret (v := 0) hx hb hr (w_fin rfl hAe (Or.inl ⟨2, fun f => s_pl3 hs ho0 (fun z => h7 z.2), rfl, rfl⟩) hP hA hS) hS.2.2 d_Mo_placed_111)
        · exact absurd rfl z1
        · exact absurd rfl z1
      · -- ifne at 34: to 37
        have ho0 : a.sl (j_n sv) = 0 := ((nI_eq (b := 0) (by have := hw.2.2.1 (j_n sv) hs.j32; omega) (by omega)).mp h3)
        refine lv_iconst (v := 1) hx hb d_Mo_placed_37 (by decide) ?_
        refine lv_goto hx hb d_Mo_placed_38 rfl ?_
        refine lv_iconst (v := 2) hx hb d_Mo_placed_42 (by decide) ?_
        refine w_callV (As := [.int 1, .int 2]) (C := R_Mo) ⟨hx, hb, hml, hown, hts⟩ (c_Mo_fails l D cK cI cN cZ cL r hri (m_s S 10 0) _ 1 2 (by decide)) (x_cb (cwV (own := R_Mo) (index := 96) (C := R_Mo) 2 hts (x_gi (by decide +kernel)) rfl rfl rfl (by decide +kernel) ⟨by decide, by decide⟩).1) (hts (.instanceMethod y_Mo_fails) (by decide +kernel)) (hts (.selects R_Mo y_Mo_fails y_Mo_fails) (by decide +kernel)) (y_recv (ci := 5) (q := (R_Mo, F_Mo, 20)) hK hP rfl (m_at hri (i := 20) (by decide))) hE hP hA hA0 hS rfl hl.1 rfl (lv_room (Nat.le_of_ble_eq_true rfl)) d_Mo_placed_43 (by first | decide | omega) (by first | decide | omega) (fun v9 g9 H locs hq9 hP hA hS => ?_) (fun E9 q9 ce9 g9 H locs hq9 hP hA hS z1 z2 z3 => ?_)
        rotate_left
        · rcases hq9 with z | z | z
          · exact nomatch z.2.2.1
          · exact nomatch z.2.1
          · exact nomatch z.2.2.1
        rcases hq9 with ⟨z1, z2, hv9, hg9⟩ | ⟨z1, hv9, hg9⟩ | ⟨z1, z2, hv9, hg9⟩
        · exact absurd z1 (by decide)
        · exact absurd rfl z1
        · cases hv9
          rw [hg9] at hP hA
          refine W.eq (g2 := F0 m 46 ls [.int 1]) rfl ?_
          refine lv_if_eq hx hb d_Mo_placed_46 rfl (fun h13 => (absurd h13 (by decide))) (fun h13 => ?_)
          refine lv_iconst (v := 0) hx hb d_Mo_placed_49 (by decide) ?_
          refine W.widen (k := 0) (n := 0) (by first | decide | omega) (by first | decide | omega) ?_
          exact x_ret (W.iret (v := 0) hx hb hr (w_fin rfl hAe (Or.inl ⟨1, fun f => s_pl2 hs ho0, rfl, rfl⟩) hP hA hS) hS.2.2 d_Mo_placed_50)
    · exact absurd rfl z1
    · exact absurd rfl z1
  · -- ifne at 12: to 15
    have hs : ¬ b_in sv 32 := fun z => by have hy_ := h1; rw [c_bit.y (show ¬ sv < 0 ∧ sv ≤ 31 from (b_inI (n := 31) (by decide)).mpr z)] at hy_; exact absurd hy_ (by decide)
    refine lv_iconst (v := 1) hx hb d_Mo_placed_15 (by decide) ?_
    refine lv_goto hx hb d_Mo_placed_16 rfl ?_
    refine lv_iconst (v := 1) hx hb d_Mo_placed_20 (by decide) ?_
    refine w_callV (As := [.int 1, .int 1]) (C := R_Mo) ⟨hx, hb, hml, hown, hts⟩ (c_Mo_fails l D cK cI cN cZ cL r hri (m_s S 10 0) _ 1 1 (by decide)) (x_cb (cwV (own := R_Mo) (index := 96) (C := R_Mo) 2 hts (x_gi (by decide +kernel)) rfl rfl rfl (by decide +kernel) ⟨by decide, by decide⟩).1) (hts (.instanceMethod y_Mo_fails) (by decide +kernel)) (hts (.selects R_Mo y_Mo_fails y_Mo_fails) (by decide +kernel)) (y_recv (ci := 5) (q := (R_Mo, F_Mo, 20)) hK hP rfl (m_at hri (i := 20) (by decide))) hE hP hA hA0 hS rfl hl.1 rfl (lv_room (Nat.le_of_ble_eq_true rfl)) d_Mo_placed_21 (by first | decide | omega) (by first | decide | omega) (fun v9 g9 H locs hq9 hP hA hS => ?_) (fun E9 q9 ce9 g9 H locs hq9 hP hA hS z1 z2 z3 => ?_)
    rotate_left
    · rcases hq9 with z | z | z
      · exact nomatch z.2.2.1
      · exact nomatch z.2.1
      · exact nomatch z.2.2.1
    rcases hq9 with ⟨z1, z2, hv9, hg9⟩ | ⟨z1, hv9, hg9⟩ | ⟨z1, z2, hv9, hg9⟩
    · exact absurd z1 (by decide)
    · exact absurd rfl z1
    · cases hv9
      rw [hg9] at hP hA
      refine W.eq (g2 := F0 m 24 ls [.int 1]) rfl ?_
      refine lv_if_ne hx hb d_Mo_placed_24 rfl (fun h14 => ?_) (fun h14 => (absurd h14 (by decide)))
      refine lv_iconst (v := 0) hx hb d_Mo_placed_49 (by decide) ?_
      refine W.widen (k := 0) (n := 0) (by first | decide | omega) (by first | decide | omega) ?_
      exact x_ret (W.iret (v := 0) hx hb hr (w_fin rfl hAe (Or.inl ⟨0, fun f => s_pl1 hs, rfl, rfl⟩) hP hA hS) hS.2.2 d_Mo_placed_50)
