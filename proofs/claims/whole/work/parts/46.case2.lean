/-! the law's cases -/
section LCa46
set_option maxHeartbeats 4000000 in
set_option maxRecDepth 100000 in
/-- case 6: get -/
theorem la_get (l : Launch) (hst : l.stackTraces = false) {p : Program} {e : Env} {s : State} {m : MethodId} {below : List Frame} {meth : Method} {c : Code} {H : Heap} {locs : List Loc} {cells slots : Nat} {Q : State → Prop} {b L : Nat} {xs : Nat → Int32} {A : Nat → Prop} {D : va_G} (cK cI cN cZ cL : ClassId) {d ou : Nat} {r : Nat → Nat} (hri : m_inj r) (hC : la_C p s m c b L xs D cK cI cN cZ cL A) {ls : Array Slot} {k : Nat} {i x1 x2 x3 x4 : Int32} (hk : k < 512) (hI : la_I cK cI cN cZ cL D A s d ou r k H locs) (hl : lv_has ls 8 [(4, .int i), (0, .ref b), (1, .ref d), (2, .ref (r 20)), (3, .ref ou)]) (hi : la_x xs L i x1 x2 x3 x4) (hcc : cells + 6 ≤ room_1.cells) (hss : slots + 60 ≤ room_1.slots)
    (kk : ∀ (ls : Array Slot) (H : Heap) (locs : List Loc), lv_has ls 8 [(4, .int i), (0, .ref b), (1, .ref d), (2, .ref (r 20)), (3, .ref ou)] → la_I cK cI cN cZ cL D A s d ou r (k + 1) H locs → W p l e room_1 s m #[Value.ref b] below meth c H locs (cells + 6) (slots + 60) Q (F0 m 1130 ls [])) : W p l e room_1 s m #[Value.ref b] below meth c H locs cells slots Q (F0 m 517 ls []) := by
  obtain ⟨hx, hb, hml, hown, hE, hA0, hX, hbl, hbA⟩ := hC
  have hts := hE.hts #[Value.ref b]
  have hK := hE.1.2.1
  obtain ⟨a, g, G0, g9, S, f, hw, hR, hM, hJ0, hJ, hP, hA, hS⟩ := hI
  obtain ⟨⟨i1, e1⟩, ⟨i2, e2⟩, ⟨i3, e3⟩, i4, e4⟩ := hi
  refine lv_aload_n hx hb d_La_law_517 rfl (lv_at hl 2 rfl) ?_
  refine lv_aload_n hx hb d_La_law_518 rfl (lv_at hl 1 rfl) ?_
  refine lv_iload hx hb d_La_law_519 (lv_at hl 0 rfl) ?_
  refine lv_iconst (v := 1) hx hb d_La_law_521 (by decide) ?_
  refine lv_iadd hx hb d_La_law_522 ?_
  refine la_sld hx hb hX hbl hbA hS i1 e1 d_La_law_523 ?_
  refine lv_aload_n hx hb d_La_law_524 rfl (lv_at hl 1 rfl) ?_
  refine lv_iload hx hb d_La_law_525 (lv_at hl 0 rfl) ?_
  refine lv_iconst (v := 2) hx hb d_La_law_527 (by decide) ?_
  refine lv_iadd hx hb d_La_law_528 ?_
  refine la_sld hx hb hX hbl hbA hS i2 e2 d_La_law_529 ?_
  refine lv_aload_n hx hb d_La_law_530 rfl (lv_at hl 4 rfl) ?_
  refine w_callS (As := [.ref d, .int x1, .int x2, .ref ou]) ⟨hx, hb, hml, hown, hts⟩ (x_join hJ (c_La_get l hst D cK cI cN cZ cL g G0 ou f _ a k d x1 x2 hw (by omega) hR hJ0)) (x_cbH (own := R_La) (index := 105) 4 hts (by decide +kernel) (by decide +kernel) (by decide +kernel) rfl rfl (by decide +kernel) ⟨by decide, by decide⟩) (hts (.static y_La_get) (by decide +kernel)) hE hP hA hA0 hS rfl hl.1 rfl (lv_room (Nat.le_of_ble_eq_true rfl)) d_La_law_531 (by omega) (by omega) (fun v9 g9 H locs hq9 hP hA hS => ?_) (fun E9 q9 ce9 g9 H locs hq9 hP hA hS z1 z2 z3 => ?_)
  rotate_left
  · obtain ⟨_, ⟨hz, -⟩, -⟩ := hq9
    cases hz
  obtain ⟨Gn, ⟨hv9, hle, gn, fn, hJ0, hR, hal⟩, hJ⟩ := hq9
  cases hv9
  refine W.eq (g2 := F0 m 534 ls [.int (nI (s_get a x1 x2).1)]) rfl ?_
  refine lv_topi (fun kv1 e_kv1 => ?_)
  refine lv_istore hx hb d_La_law_534 hl (by decide) rfl (fun ls hl => ?_)
  have hl : lv_has ls 8 [(5, .int kv1), (4, .int i), (0, .ref b), (1, .ref d), (2, .ref (r 20)), (3, .ref ou)] := hl
  refine lv_aload_n hx hb d_La_law_536 rfl (lv_at hl 4 rfl) ?_
  refine lv_aload_n hx hb d_La_law_537 rfl (lv_at hl 2 rfl) ?_
  refine lv_iload hx hb d_La_law_538 (lv_at hl 1 rfl) ?_
  refine lv_iconst (v := 1) hx hb d_La_law_540 (by decide) ?_
  refine lv_iadd hx hb d_La_law_541 ?_
  refine la_sld hx hb hX hbl hbA hS i1 e1 d_La_law_542 ?_
  refine lv_aload_n hx hb d_La_law_543 rfl (lv_at hl 2 rfl) ?_
  refine lv_iload hx hb d_La_law_544 (lv_at hl 1 rfl) ?_
  refine lv_iconst (v := 2) hx hb d_La_law_546 (by decide) ?_
  refine lv_iadd hx hb d_La_law_547 ?_
  refine la_sld hx hb hX hbl hbA hS i2 e2 d_La_law_548 ?_
  have hm : g9 (r 20) = some (m_F r cN cZ cL S 20) := (hJ.1 _ _).mpr (Or.inr (m_at hri (by decide)))
  refine w_callV (As := [.int x1, .int x2]) (C := R_Mo) ⟨hx, hb, hml, hown, hts⟩ (x_join hJ.sym (c_Mo_get l D cK cI cN cZ cL r hri S _ a k x1 x2 hw (by omega) hM)) (x_cb (cwV (own := R_La) (index := 107) (C := R_Mo) 2 hts (x_gi (by decide +kernel)) rfl rfl rfl (by decide +kernel) ⟨by decide, by decide⟩).1) (hts (.instanceMethod y_Mo_get) (by decide +kernel)) (hts (.selects R_Mo y_Mo_get y_Mo_get) (by decide +kernel)) (y_recv (ci := 5) (q := (R_Mo, F_Mo, 20)) hK hP rfl hm) hE hP hA hA0 hS rfl hl.1 rfl (lv_room (Nat.le_of_ble_eq_true rfl)) d_La_law_549 (by omega) (by omega) (fun v9 g9 H locs hq9 hP hA hS => ?_) (fun E9 q9 ce9 g9 H locs hq9 hP hA hS z1 z2 z3 => ?_)
  rotate_left
  · obtain ⟨_, ⟨⟨_, hz, -⟩, -⟩, -⟩ := hq9
    cases hz
  obtain ⟨gm, ⟨⟨x9, hv9, hx9⟩, S1, hgm, herr, hM1⟩, hJs⟩ := hq9
  cases hv9
  subst hgm
  have hJ := hJs.sym
  refine W.eq (g2 := F0 m 552 ls [.long x9]) rfl ?_
  refine lv_lstore hx hb d_La_law_552 hl (by decide) rfl (fun ls hl => ?_)
  have hl : lv_has ls 8 [(6, .long x9), (5, .int kv1), (4, .int i), (0, .ref b), (1, .ref d), (2, .ref (r 20)), (3, .ref ou)] := hl
  refine lv_aload_n hx hb d_La_law_554 rfl (lv_at hl 5 rfl) ?_
  have hm : g9 (r 20) = some (m_F r cN cZ cL S1 20) := (hJ.1 _ _).mpr (Or.inr (m_at hri (by decide)))
  refine w_callV (As := []) (C := R_Mo) ⟨hx, hb, hml, hown, hts⟩ (x_join hJ.sym (c_Mo_thrown l D cK cI cN cZ cL r hri S1 _)) (x_cb (cwV (own := R_La) (index := 82) (C := R_Mo) 0 hts (x_gi (by decide +kernel)) rfl rfl rfl (by decide +kernel) ⟨by decide, by decide⟩).1) (hts (.instanceMethod y_Mo_thrown) (by decide +kernel)) (hts (.selects R_Mo y_Mo_thrown y_Mo_thrown) (by decide +kernel)) (y_recv (ci := 5) (q := (R_Mo, F_Mo, 20)) hK hP rfl hm) hE hP hA hA0 hS rfl hl.1 rfl (lv_room (Nat.le_of_ble_eq_true rfl)) d_La_law_555 (by omega) (by omega) (fun v9 g9 H locs hq9 hP hA hS => ?_) (fun E9 q9 ce9 g9 H locs hq9 hP hA hS z1 z2 z3 => ?_)
  rotate_left
  · obtain ⟨_, ⟨hz, -⟩, -⟩ := hq9
    cases hz
  obtain ⟨gm, ⟨hv9, hgm⟩, hJs⟩ := hq9
  cases hv9
  subst hgm
  have hJ := hJs.sym
  refine W.eq (g2 := F0 m 558 ls [.int (S1.2.2 10)]) rfl ?_
  refine lv_iload hx hb d_La_law_558 (lv_at hl 1 rfl) ?_
  refine lv_icmp_eq hx hb d_La_law_560 rfl (fun h2 => ?_) (fun h2 => (absurd (herr.trans e_kv1.symm) h2))
  refine lv_iload hx hb d_La_law_565 (lv_at hl 1 rfl) ?_
  refine lv_if_ne hx hb d_La_law_567 rfl (fun h3 => ?_) (fun h3 => ?_)
  · -- ifne at 567: to 581
    refine lv_goto hx hb d_La_law_581 rfl ?_
    have hl : lv_has ls 8 [(4, .int i), (0, .ref b), (1, .ref d), (2, .ref (r 20)), (3, .ref ou)] := lv_sub hl [2, 3, 4, 5, 6] rfl
    refine W.widen (k := cells + 6) (n := slots + 60) (by omega) (by omega) ?_
    exact kk ls H locs hl ⟨_, gn, Gn, _, S1, fn, k_get hw x1 x2, hR, hM1, hJ0, hJ, hP, hA, hS⟩
  · -- ifne at 567: to 570
    have hs0 : (s_get a x1 x2).1 = 0 := l_z (e_kv1.symm.trans h3) hle
    have hcv := (hal hs0).2 _ (hx9 hs0)
    have hou : g9 ou = some (.inl (cL, 1, .inr (.inl fn))) := (hJ.1 _ _).mpr (Or.inl hJ0.out)
    refine lv_aload_n hx hb d_La_law_570 rfl (lv_at hl 6 rfl) ?_
    refine lv_iconst (v := 0) hx hb d_La_law_571 (by decide) ?_
    refine y_lald (f := fn) hx hb hK hP 4 hou rfl l_in0 d_La_law_572 ?_
    refine lv_lload hx hb d_La_law_573 (lv_at hl 0 rfl) ?_
    refine W.lcmp hx hb d_La_law_575 ?_
    refine lv_if_eq hx hb d_La_law_576 rfl (fun h4 => ?_) (fun h4 => (absurd ((lg_cmp_eq _ _).mpr (hcv)) h4))
    refine lv_goto hx hb d_La_law_581 rfl ?_
    have hl : lv_has ls 8 [(4, .int i), (0, .ref b), (1, .ref d), (2, .ref (r 20)), (3, .ref ou)] := lv_sub hl [2, 3, 4, 5, 6] rfl
    refine W.widen (k := cells + 6) (n := slots + 60) (by omega) (by omega) ?_
    exact kk ls H locs hl ⟨_, gn, Gn, _, S1, fn, k_get hw x1 x2, hR, hM1, hJ0, hJ, hP, hA, hS⟩
set_option maxHeartbeats 4000000 in
set_option maxRecDepth 100000 in
/-- case 7: put -/
theorem la_put (l : Launch) (hst : l.stackTraces = false) {p : Program} {e : Env} {s : State} {m : MethodId} {below : List Frame} {meth : Method} {c : Code} {H : Heap} {locs : List Loc} {cells slots : Nat} {Q : State → Prop} {b L : Nat} {xs : Nat → Int32} {A : Nat → Prop} {D : va_G} (cK cI cN cZ cL : ClassId) {d ou : Nat} {r : Nat → Nat} (hri : m_inj r) (hC : la_C p s m c b L xs D cK cI cN cZ cL A) {ls : Array Slot} {k : Nat} {i x1 x2 x3 x4 : Int32} (hk : k < 512) (hI : la_I cK cI cN cZ cL D A s d ou r k H locs) (hl : lv_has ls 8 [(4, .int i), (0, .ref b), (1, .ref d), (2, .ref (r 20)), (3, .ref ou)]) (hi : la_x xs L i x1 x2 x3 x4) (hcc : cells + 6 ≤ room_1.cells) (hss : slots + 60 ≤ room_1.slots)
    (kk : ∀ (ls : Array Slot) (H : Heap) (locs : List Loc), lv_has ls 8 [(4, .int i), (0, .ref b), (1, .ref d), (2, .ref (r 20)), (3, .ref ou)] → la_I cK cI cN cZ cL D A s d ou r (k + 1) H locs → W p l e room_1 s m #[Value.ref b] below meth c H locs (cells + 6) (slots + 60) Q (F0 m 1130 ls [])) : W p l e room_1 s m #[Value.ref b] below meth c H locs cells slots Q (F0 m 584 ls []) := by
  obtain ⟨hx, hb, hml, hown, hE, hA0, hX, hbl, hbA⟩ := hC
  have hts := hE.hts #[Value.ref b]
  have hK := hE.1.2.1
  obtain ⟨a, g, G0, g9, S, f, hw, hR, hM, hJ0, hJ, hP, hA, hS⟩ := hI
  obtain ⟨⟨i1, e1⟩, ⟨i2, e2⟩, ⟨i3, e3⟩, i4, e4⟩ := hi
  refine lv_aload_n hx hb d_La_law_584 rfl (lv_at hl 2 rfl) ?_
  refine lv_aload_n hx hb d_La_law_585 rfl (lv_at hl 1 rfl) ?_
  refine lv_iload hx hb d_La_law_586 (lv_at hl 0 rfl) ?_
  refine lv_iconst (v := 1) hx hb d_La_law_588 (by decide) ?_
  refine lv_iadd hx hb d_La_law_589 ?_
  refine la_sld hx hb hX hbl hbA hS i1 e1 d_La_law_590 ?_
  refine lv_aload_n hx hb d_La_law_591 rfl (lv_at hl 1 rfl) ?_
  refine lv_iload hx hb d_La_law_592 (lv_at hl 0 rfl) ?_
  refine lv_iconst (v := 2) hx hb d_La_law_594 (by decide) ?_
  refine lv_iadd hx hb d_La_law_595 ?_
  refine la_sld hx hb hX hbl hbA hS i2 e2 d_La_law_596 ?_
  refine lv_aload_n hx hb d_La_law_597 rfl (lv_at hl 1 rfl) ?_
  refine lv_iload hx hb d_La_law_598 (lv_at hl 0 rfl) ?_
  refine lv_iconst (v := 3) hx hb d_La_law_600 (by decide) ?_
  refine lv_iadd hx hb d_La_law_601 ?_
  refine la_sld hx hb hX hbl hbA hS i3 e3 d_La_law_602 ?_
  refine lv_i2l hx hb d_La_law_603 rfl ?_
  refine lv_bipush (v := 32) hx hb d_La_law_604 (by decide) ?_
  refine lv_lshl hx hb d_La_law_606 rfl ?_
  refine lv_aload_n hx hb d_La_law_607 rfl (lv_at hl 1 rfl) ?_
  refine lv_iload hx hb d_La_law_608 (lv_at hl 0 rfl) ?_
  refine lv_iconst (v := 4) hx hb d_La_law_610 (by decide) ?_
  refine lv_iadd hx hb d_La_law_611 ?_
  refine la_sld hx hb hX hbl hbA hS i4 e4 d_La_law_612 ?_
  refine lv_i2l hx hb d_La_law_613 rfl ?_
  refine lv_ldc2 (own := R_La) (index := 108) (v := 4294967295) hx hb hown (hts (.constantLong R_La 108 4294967295) (by decide +kernel)) d_La_law_614 ?_
  refine lv_land hx hb d_La_law_617 ?_
  refine lv_lor hx hb d_La_law_618 ?_
  refine w_callS (As := [.ref d, .int x1, .int x2, .long ((x3.toInt64 <<< ((32 : Int32).toInt64 &&& 63)) ||| (x4.toInt64 &&& 4294967295))]) ⟨hx, hb, hml, hown, hts⟩ (x_join hJ (c_La_put l hst D cK cI cN cZ cL g G0 ou f _ a k d x1 x2 ((x3.toInt64 <<< ((32 : Int32).toInt64 &&& 63)) ||| (x4.toInt64 &&& 4294967295)) hw (by omega) hR hJ0)) (x_cbH (own := R_La) (index := 110) 4 hts (by decide +kernel) (by decide +kernel) (by decide +kernel) rfl rfl (by decide +kernel) ⟨by decide, by decide⟩) (hts (.static y_La_put) (by decide +kernel)) hE hP hA hA0 hS rfl hl.1 rfl (lv_room (Nat.le_of_ble_eq_true rfl)) d_La_law_619 (by omega) (by omega) (fun v9 g9 H locs hq9 hP hA hS => ?_) (fun E9 q9 ce9 g9 H locs hq9 hP hA hS z1 z2 z3 => ?_)
  rotate_left
  · obtain ⟨_, ⟨hz, -⟩, -⟩ := hq9
    cases hz
  obtain ⟨Gn, ⟨hv9, hle, gn, fn, hJ0, hR, hal⟩, hJ⟩ := hq9
  cases hv9
  refine W.eq (g2 := F0 m 622 ls [.int (nI (s_put a x1 x2 ((x3.toInt64 <<< ((32 : Int32).toInt64 &&& 63)) ||| (x4.toInt64 &&& 4294967295))).1)]) rfl ?_
  refine lv_topi (fun kv1 e_kv1 => ?_)
  refine lv_istore hx hb d_La_law_622 hl (by decide) rfl (fun ls hl => ?_)
  have hl : lv_has ls 8 [(5, .int kv1), (4, .int i), (0, .ref b), (1, .ref d), (2, .ref (r 20)), (3, .ref ou)] := hl
  refine lv_aload_n hx hb d_La_law_624 rfl (lv_at hl 4 rfl) ?_
  refine lv_aload_n hx hb d_La_law_625 rfl (lv_at hl 2 rfl) ?_
  refine lv_iload hx hb d_La_law_626 (lv_at hl 1 rfl) ?_
  refine lv_iconst (v := 1) hx hb d_La_law_628 (by decide) ?_
  refine lv_iadd hx hb d_La_law_629 ?_
  refine la_sld hx hb hX hbl hbA hS i1 e1 d_La_law_630 ?_
  refine lv_aload_n hx hb d_La_law_631 rfl (lv_at hl 2 rfl) ?_
  refine lv_iload hx hb d_La_law_632 (lv_at hl 1 rfl) ?_
  refine lv_iconst (v := 2) hx hb d_La_law_634 (by decide) ?_
  refine lv_iadd hx hb d_La_law_635 ?_
  refine la_sld hx hb hX hbl hbA hS i2 e2 d_La_law_636 ?_
  refine lv_aload_n hx hb d_La_law_637 rfl (lv_at hl 2 rfl) ?_
  refine lv_iload hx hb d_La_law_638 (lv_at hl 1 rfl) ?_
  refine lv_iconst (v := 3) hx hb d_La_law_640 (by decide) ?_
  refine lv_iadd hx hb d_La_law_641 ?_
  refine la_sld hx hb hX hbl hbA hS i3 e3 d_La_law_642 ?_
  refine lv_i2l hx hb d_La_law_643 rfl ?_
  refine lv_bipush (v := 32) hx hb d_La_law_644 (by decide) ?_
  refine lv_lshl hx hb d_La_law_646 rfl ?_
  refine lv_aload_n hx hb d_La_law_647 rfl (lv_at hl 2 rfl) ?_
  refine lv_iload hx hb d_La_law_648 (lv_at hl 1 rfl) ?_
  refine lv_iconst (v := 4) hx hb d_La_law_650 (by decide) ?_
  refine lv_iadd hx hb d_La_law_651 ?_
  refine la_sld hx hb hX hbl hbA hS i4 e4 d_La_law_652 ?_
  refine lv_i2l hx hb d_La_law_653 rfl ?_
  refine lv_ldc2 (own := R_La) (index := 108) (v := 4294967295) hx hb hown (hts (.constantLong R_La 108 4294967295) (by decide +kernel)) d_La_law_654 ?_
  refine lv_land hx hb d_La_law_657 ?_
  refine lv_lor hx hb d_La_law_658 ?_
  have hm : g9 (r 20) = some (m_F r cN cZ cL S 20) := (hJ.1 _ _).mpr (Or.inr (m_at hri (by decide)))
  refine w_callV (As := [.int x1, .int x2, .long ((x3.toInt64 <<< ((32 : Int32).toInt64 &&& 63)) ||| (x4.toInt64 &&& 4294967295))]) (C := R_Mo) ⟨hx, hb, hml, hown, hts⟩ (x_join hJ.sym (c_Mo_put l D cK cI cN cZ cL r hri S _ a k x1 x2 ((x3.toInt64 <<< ((32 : Int32).toInt64 &&& 63)) ||| (x4.toInt64 &&& 4294967295)) hw (by omega) hM)) (x_cb (cwV (own := R_La) (index := 113) (C := R_Mo) 3 hts (x_gi (by decide +kernel)) rfl rfl rfl (by decide +kernel) ⟨by decide, by decide⟩).1) (hts (.instanceMethod y_Mo_put) (by decide +kernel)) (hts (.selects R_Mo y_Mo_put y_Mo_put) (by decide +kernel)) (y_recv (ci := 5) (q := (R_Mo, F_Mo, 20)) hK hP rfl hm) hE hP hA hA0 hS rfl hl.1 rfl (lv_room (Nat.le_of_ble_eq_true rfl)) d_La_law_659 (by omega) (by omega) (fun v9 g9 H locs hq9 hP hA hS => ?_) (fun E9 q9 ce9 g9 H locs hq9 hP hA hS z1 z2 z3 => ?_)
  rotate_left
  · obtain ⟨_, ⟨hz, -⟩, -⟩ := hq9
    cases hz
  obtain ⟨gm, ⟨hv9, S1, hgm, herr, hM1⟩, hJs⟩ := hq9
  cases hv9
  subst hgm
  have hJ := hJs.sym
  refine W.eq (g2 := F0 m 662 ls []) rfl ?_
  refine lv_aload_n hx hb d_La_law_662 rfl (lv_at hl 4 rfl) ?_
  have hm : g9 (r 20) = some (m_F r cN cZ cL S1 20) := (hJ.1 _ _).mpr (Or.inr (m_at hri (by decide)))
  refine w_callV (As := []) (C := R_Mo) ⟨hx, hb, hml, hown, hts⟩ (x_join hJ.sym (c_Mo_thrown l D cK cI cN cZ cL r hri S1 _)) (x_cb (cwV (own := R_La) (index := 82) (C := R_Mo) 0 hts (x_gi (by decide +kernel)) rfl rfl rfl (by decide +kernel) ⟨by decide, by decide⟩).1) (hts (.instanceMethod y_Mo_thrown) (by decide +kernel)) (hts (.selects R_Mo y_Mo_thrown y_Mo_thrown) (by decide +kernel)) (y_recv (ci := 5) (q := (R_Mo, F_Mo, 20)) hK hP rfl hm) hE hP hA hA0 hS rfl hl.1 rfl (lv_room (Nat.le_of_ble_eq_true rfl)) d_La_law_663 (by omega) (by omega) (fun v9 g9 H locs hq9 hP hA hS => ?_) (fun E9 q9 ce9 g9 H locs hq9 hP hA hS z1 z2 z3 => ?_)
  rotate_left
  · obtain ⟨_, ⟨hz, -⟩, -⟩ := hq9
    cases hz
  obtain ⟨gm, ⟨hv9, hgm⟩, hJs⟩ := hq9
  cases hv9
  subst hgm
  have hJ := hJs.sym
  refine W.eq (g2 := F0 m 666 ls [.int (S1.2.2 10)]) rfl ?_
  refine lv_iload hx hb d_La_law_666 (lv_at hl 0 rfl) ?_
  refine lv_icmp_eq hx hb d_La_law_668 rfl (fun h2 => ?_) (fun h2 => (absurd (herr.trans e_kv1.symm) h2))
  refine lv_goto hx hb d_La_law_673 rfl ?_
  have hl : lv_has ls 8 [(4, .int i), (0, .ref b), (1, .ref d), (2, .ref (r 20)), (3, .ref ou)] := lv_sub hl [1, 2, 3, 4, 5] rfl
  refine W.widen (k := cells + 6) (n := slots + 60) (by omega) (by omega) ?_
  exact kk ls H locs hl ⟨_, gn, Gn, _, S1, fn, k_put hw x1 x2 ((x3.toInt64 <<< ((32 : Int32).toInt64 &&& 63)) ||| (x4.toInt64 &&& 4294967295)), hR, hM1, hJ0, hJ, hP, hA, hS⟩
set_option maxHeartbeats 4000000 in
set_option maxRecDepth 100000 in
/-- case 8: link -/
theorem la_link (l : Launch) (hst : l.stackTraces = false) {p : Program} {e : Env} {s : State} {m : MethodId} {below : List Frame} {meth : Method} {c : Code} {H : Heap} {locs : List Loc} {cells slots : Nat} {Q : State → Prop} {b L : Nat} {xs : Nat → Int32} {A : Nat → Prop} {D : va_G} (cK cI cN cZ cL : ClassId) {d ou : Nat} {r : Nat → Nat} (hri : m_inj r) (hC : la_C p s m c b L xs D cK cI cN cZ cL A) {ls : Array Slot} {k : Nat} {i x1 x2 x3 x4 : Int32} (hk : k < 512) (hI : la_I cK cI cN cZ cL D A s d ou r k H locs) (hl : lv_has ls 8 [(4, .int i), (0, .ref b), (1, .ref d), (2, .ref (r 20)), (3, .ref ou)]) (hi : la_x xs L i x1 x2 x3 x4) (hcc : cells + 6 ≤ room_1.cells) (hss : slots + 60 ≤ room_1.slots)
    (kk : ∀ (ls : Array Slot) (H : Heap) (locs : List Loc), lv_has ls 8 [(4, .int i), (0, .ref b), (1, .ref d), (2, .ref (r 20)), (3, .ref ou)] → la_I cK cI cN cZ cL D A s d ou r (k + 1) H locs → W p l e room_1 s m #[Value.ref b] below meth c H locs (cells + 6) (slots + 60) Q (F0 m 1130 ls [])) : W p l e room_1 s m #[Value.ref b] below meth c H locs cells slots Q (F0 m 676 ls []) := by
  obtain ⟨hx, hb, hml, hown, hE, hA0, hX, hbl, hbA⟩ := hC
  have hts := hE.hts #[Value.ref b]
  have hK := hE.1.2.1
  obtain ⟨a, g, G0, g9, S, f, hw, hR, hM, hJ0, hJ, hP, hA, hS⟩ := hI
  obtain ⟨⟨i1, e1⟩, ⟨i2, e2⟩, ⟨i3, e3⟩, i4, e4⟩ := hi
  refine lv_aload_n hx hb d_La_law_676 rfl (lv_at hl 2 rfl) ?_
  refine lv_aload_n hx hb d_La_law_677 rfl (lv_at hl 1 rfl) ?_
  refine lv_iload hx hb d_La_law_678 (lv_at hl 0 rfl) ?_
  refine lv_iconst (v := 1) hx hb d_La_law_680 (by decide) ?_
  refine lv_iadd hx hb d_La_law_681 ?_
  refine la_sld hx hb hX hbl hbA hS i1 e1 d_La_law_682 ?_
  refine lv_aload_n hx hb d_La_law_683 rfl (lv_at hl 1 rfl) ?_
  refine lv_iload hx hb d_La_law_684 (lv_at hl 0 rfl) ?_
  refine lv_iconst (v := 2) hx hb d_La_law_686 (by decide) ?_
  refine lv_iadd hx hb d_La_law_687 ?_
  refine la_sld hx hb hX hbl hbA hS i2 e2 d_La_law_688 ?_
  refine lv_aload_n hx hb d_La_law_689 rfl (lv_at hl 1 rfl) ?_
  refine lv_iload hx hb d_La_law_690 (lv_at hl 0 rfl) ?_
  refine lv_iconst (v := 3) hx hb d_La_law_692 (by decide) ?_
  refine lv_iadd hx hb d_La_law_693 ?_
  refine la_sld hx hb hX hbl hbA hS i3 e3 d_La_law_694 ?_
  refine lv_aload_n hx hb d_La_law_695 rfl (lv_at hl 4 rfl) ?_
  refine w_callS (As := [.ref d, .int x1, .int x2, .int x3, .ref ou]) ⟨hx, hb, hml, hown, hts⟩ (x_join hJ (c_La_link l hst D cK cI cN cZ cL g G0 ou f _ a k d x1 x2 x3 hw (by omega) hR hJ0)) (x_cbH (own := R_La) (index := 114) 5 hts (by decide +kernel) (by decide +kernel) (by decide +kernel) rfl rfl (by decide +kernel) ⟨by decide, by decide⟩) (hts (.static y_La_link) (by decide +kernel)) hE hP hA hA0 hS rfl hl.1 rfl (lv_room (Nat.le_of_ble_eq_true rfl)) d_La_law_696 (by omega) (by omega) (fun v9 g9 H locs hq9 hP hA hS => ?_) (fun E9 q9 ce9 g9 H locs hq9 hP hA hS z1 z2 z3 => ?_)
  rotate_left
  · obtain ⟨_, ⟨hz, -⟩, -⟩ := hq9
    cases hz
  obtain ⟨Gn, ⟨hv9, hle, gn, fn, hJ0, hR, hal⟩, hJ⟩ := hq9
  cases hv9
  refine W.eq (g2 := F0 m 699 ls [.int (nI (s_link a x1 x2 x3).1)]) rfl ?_
  refine lv_topi (fun kv1 e_kv1 => ?_)
  refine lv_istore hx hb d_La_law_699 hl (by decide) rfl (fun ls hl => ?_)
  have hl : lv_has ls 8 [(5, .int kv1), (4, .int i), (0, .ref b), (1, .ref d), (2, .ref (r 20)), (3, .ref ou)] := hl
  refine lv_aload_n hx hb d_La_law_701 rfl (lv_at hl 4 rfl) ?_
  refine lv_aload_n hx hb d_La_law_702 rfl (lv_at hl 2 rfl) ?_
  refine lv_iload hx hb d_La_law_703 (lv_at hl 1 rfl) ?_
  refine lv_iconst (v := 1) hx hb d_La_law_705 (by decide) ?_
  refine lv_iadd hx hb d_La_law_706 ?_
  refine la_sld hx hb hX hbl hbA hS i1 e1 d_La_law_707 ?_
  refine lv_aload_n hx hb d_La_law_708 rfl (lv_at hl 2 rfl) ?_
  refine lv_iload hx hb d_La_law_709 (lv_at hl 1 rfl) ?_
  refine lv_iconst (v := 2) hx hb d_La_law_711 (by decide) ?_
  refine lv_iadd hx hb d_La_law_712 ?_
  refine la_sld hx hb hX hbl hbA hS i2 e2 d_La_law_713 ?_
  refine lv_aload_n hx hb d_La_law_714 rfl (lv_at hl 2 rfl) ?_
  refine lv_iload hx hb d_La_law_715 (lv_at hl 1 rfl) ?_
  refine lv_iconst (v := 3) hx hb d_La_law_717 (by decide) ?_
  refine lv_iadd hx hb d_La_law_718 ?_
  refine la_sld hx hb hX hbl hbA hS i3 e3 d_La_law_719 ?_
  have hm : g9 (r 20) = some (m_F r cN cZ cL S 20) := (hJ.1 _ _).mpr (Or.inr (m_at hri (by decide)))
  refine w_callV (As := [.int x1, .int x2, .int x3]) (C := R_Mo) ⟨hx, hb, hml, hown, hts⟩ (x_join hJ.sym (c_Mo_link l D cK cI cN cZ cL r hri S _ a k x1 x2 x3 hw (by omega) hM)) (x_cb (cwV (own := R_La) (index := 116) (C := R_Mo) 3 hts (x_gi (by decide +kernel)) rfl rfl rfl (by decide +kernel) ⟨by decide, by decide⟩).1) (hts (.instanceMethod y_Mo_link) (by decide +kernel)) (hts (.selects R_Mo y_Mo_link y_Mo_link) (by decide +kernel)) (y_recv (ci := 5) (q := (R_Mo, F_Mo, 20)) hK hP rfl hm) hE hP hA hA0 hS rfl hl.1 rfl (lv_room (Nat.le_of_ble_eq_true rfl)) d_La_law_720 (by omega) (by omega) (fun v9 g9 H locs hq9 hP hA hS => ?_) (fun E9 q9 ce9 g9 H locs hq9 hP hA hS z1 z2 z3 => ?_)
  rotate_left
  · obtain ⟨_, ⟨⟨_, hz, -⟩, -⟩, -⟩ := hq9
    cases hz
  obtain ⟨gm, ⟨⟨x9, hv9, hx9⟩, S1, hgm, herr, hM1⟩, hJs⟩ := hq9
  cases hv9
  subst hgm
  have hJ := hJs.sym
  refine W.eq (g2 := F0 m 723 ls [.int x9]) rfl ?_
  refine lv_istore hx hb d_La_law_723 hl (by decide) rfl (fun ls hl => ?_)
  have hl : lv_has ls 8 [(6, .int x9), (5, .int kv1), (4, .int i), (0, .ref b), (1, .ref d), (2, .ref (r 20)), (3, .ref ou)] := hl
  refine lv_aload_n hx hb d_La_law_725 rfl (lv_at hl 5 rfl) ?_
  have hm : g9 (r 20) = some (m_F r cN cZ cL S1 20) := (hJ.1 _ _).mpr (Or.inr (m_at hri (by decide)))
  refine w_callV (As := []) (C := R_Mo) ⟨hx, hb, hml, hown, hts⟩ (x_join hJ.sym (c_Mo_thrown l D cK cI cN cZ cL r hri S1 _)) (x_cb (cwV (own := R_La) (index := 82) (C := R_Mo) 0 hts (x_gi (by decide +kernel)) rfl rfl rfl (by decide +kernel) ⟨by decide, by decide⟩).1) (hts (.instanceMethod y_Mo_thrown) (by decide +kernel)) (hts (.selects R_Mo y_Mo_thrown y_Mo_thrown) (by decide +kernel)) (y_recv (ci := 5) (q := (R_Mo, F_Mo, 20)) hK hP rfl hm) hE hP hA hA0 hS rfl hl.1 rfl (lv_room (Nat.le_of_ble_eq_true rfl)) d_La_law_726 (by omega) (by omega) (fun v9 g9 H locs hq9 hP hA hS => ?_) (fun E9 q9 ce9 g9 H locs hq9 hP hA hS z1 z2 z3 => ?_)
  rotate_left
  · obtain ⟨_, ⟨hz, -⟩, -⟩ := hq9
    cases hz
  obtain ⟨gm, ⟨hv9, hgm⟩, hJs⟩ := hq9
  cases hv9
  subst hgm
  have hJ := hJs.sym
  refine W.eq (g2 := F0 m 729 ls [.int (S1.2.2 10)]) rfl ?_
  refine lv_iload hx hb d_La_law_729 (lv_at hl 1 rfl) ?_
  refine lv_icmp_eq hx hb d_La_law_731 rfl (fun h2 => ?_) (fun h2 => (absurd (herr.trans e_kv1.symm) h2))
  refine lv_iload hx hb d_La_law_736 (lv_at hl 1 rfl) ?_
  refine lv_if_ne hx hb d_La_law_738 rfl (fun h3 => ?_) (fun h3 => ?_)
  · -- ifne at 738: to 760
    refine lv_goto hx hb d_La_law_760 rfl ?_
    have hl : lv_has ls 8 [(4, .int i), (0, .ref b), (1, .ref d), (2, .ref (r 20)), (3, .ref ou)] := lv_sub hl [2, 3, 4, 5, 6] rfl
    refine W.widen (k := cells + 6) (n := slots + 60) (by omega) (by omega) ?_
    exact kk ls H locs hl ⟨_, gn, Gn, _, S1, fn, k_link hw x1 x2 x3, hR, hM1, hJ0, hJ, hP, hA, hS⟩
  · -- ifne at 738: to 741
    have hs0 : (s_link a x1 x2 x3).1 = 0 := l_z (e_kv1.symm.trans h3) hle
    have hcv := (hal hs0).1 _ (hx9 hs0)
    have hou : g9 ou = some (.inl (cL, 1, .inr (.inl fn))) := (hJ.1 _ _).mpr (Or.inl hJ0.out)
    refine lv_aload_n hx hb d_La_law_741 rfl (lv_at hl 6 rfl) ?_
    refine lv_iconst (v := 0) hx hb d_La_law_742 (by decide) ?_
    refine y_lald (f := fn) hx hb hK hP 4 hou rfl l_in0 d_La_law_743 ?_
    refine lv_iload hx hb d_La_law_744 (lv_at hl 0 rfl) ?_
    obtain ⟨X9, hX9⟩ := l_link (a := a) x1 x2 x3 hs0
    have hb9 : c_bit X9 = x9 := Value.int.inj (Option.some.inj (hX9.symm.trans (hx9 hs0)))
    refine lv_if_eq hx hb d_La_law_746 rfl (fun h4 => ?_) (fun h4 => ?_)
    · -- ifeq at 746: to 753
      refine lv_lconst (v := 0) hx hb d_La_law_753 (by decide) ?_
      refine W.lcmp hx hb d_La_law_754 ?_
      refine lv_if_eq hx hb d_La_law_755 rfl (fun h5 => ?_) (fun h5 => (absurd ((lg_cmp_eq _ _).mpr (hcv.trans ((congrArg Int32.toInt64 h4).trans l_t0))) h5))
      refine lv_goto hx hb d_La_law_760 rfl ?_
      have hl : lv_has ls 8 [(4, .int i), (0, .ref b), (1, .ref d), (2, .ref (r 20)), (3, .ref ou)] := lv_sub hl [2, 3, 4, 5, 6] rfl
      refine W.widen (k := cells + 6) (n := slots + 60) (by omega) (by omega) ?_
      exact kk ls H locs hl ⟨_, gn, Gn, _, S1, fn, k_link hw x1 x2 x3, hR, hM1, hJ0, hJ, hP, hA, hS⟩
    · -- ifeq at 746: to 749
      refine lv_lconst (v := 1) hx hb d_La_law_749 (by decide) ?_
      refine lv_goto hx hb d_La_law_750 rfl ?_
      refine W.lcmp hx hb d_La_law_754 ?_
      refine lv_if_eq hx hb d_La_law_755 rfl (fun h6 => ?_) (fun h6 => (absurd ((lg_cmp_eq _ _).mpr (hcv.trans (l_b2 hb9 h4).symm)) h6))
      refine lv_goto hx hb d_La_law_760 rfl ?_
      have hl : lv_has ls 8 [(4, .int i), (0, .ref b), (1, .ref d), (2, .ref (r 20)), (3, .ref ou)] := lv_sub hl [2, 3, 4, 5, 6] rfl
      refine W.widen (k := cells + 6) (n := slots + 60) (by omega) (by omega) ?_
      exact kk ls H locs hl ⟨_, gn, Gn, _, S1, fn, k_link hw x1 x2 x3, hR, hM1, hJ0, hJ, hP, hA, hS⟩
set_option maxHeartbeats 4000000 in
set_option maxRecDepth 100000 in
/-- case 9: follow -/
theorem la_follow (l : Launch) (hst : l.stackTraces = false) {p : Program} {e : Env} {s : State} {m : MethodId} {below : List Frame} {meth : Method} {c : Code} {H : Heap} {locs : List Loc} {cells slots : Nat} {Q : State → Prop} {b L : Nat} {xs : Nat → Int32} {A : Nat → Prop} {D : va_G} (cK cI cN cZ cL : ClassId) {d ou : Nat} {r : Nat → Nat} (hri : m_inj r) (hC : la_C p s m c b L xs D cK cI cN cZ cL A) {ls : Array Slot} {k : Nat} {i x1 x2 x3 x4 : Int32} (hk : k < 512) (hI : la_I cK cI cN cZ cL D A s d ou r k H locs) (hl : lv_has ls 8 [(4, .int i), (0, .ref b), (1, .ref d), (2, .ref (r 20)), (3, .ref ou)]) (hi : la_x xs L i x1 x2 x3 x4) (hcc : cells + 6 ≤ room_1.cells) (hss : slots + 60 ≤ room_1.slots)
    (kk : ∀ (ls : Array Slot) (H : Heap) (locs : List Loc), lv_has ls 8 [(4, .int i), (0, .ref b), (1, .ref d), (2, .ref (r 20)), (3, .ref ou)] → la_I cK cI cN cZ cL D A s d ou r (k + 1) H locs → W p l e room_1 s m #[Value.ref b] below meth c H locs (cells + 6) (slots + 60) Q (F0 m 1130 ls [])) : W p l e room_1 s m #[Value.ref b] below meth c H locs cells slots Q (F0 m 763 ls []) := by
  obtain ⟨hx, hb, hml, hown, hE, hA0, hX, hbl, hbA⟩ := hC
  have hts := hE.hts #[Value.ref b]
  have hK := hE.1.2.1
  obtain ⟨a, g, G0, g9, S, f, hw, hR, hM, hJ0, hJ, hP, hA, hS⟩ := hI
  obtain ⟨⟨i1, e1⟩, ⟨i2, e2⟩, ⟨i3, e3⟩, i4, e4⟩ := hi
  refine lv_aload_n hx hb d_La_law_763 rfl (lv_at hl 2 rfl) ?_
  refine lv_aload_n hx hb d_La_law_764 rfl (lv_at hl 1 rfl) ?_
  refine lv_iload hx hb d_La_law_765 (lv_at hl 0 rfl) ?_
  refine lv_iconst (v := 1) hx hb d_La_law_767 (by decide) ?_
  refine lv_iadd hx hb d_La_law_768 ?_
  refine la_sld hx hb hX hbl hbA hS i1 e1 d_La_law_769 ?_
  refine lv_aload_n hx hb d_La_law_770 rfl (lv_at hl 1 rfl) ?_
  refine lv_iload hx hb d_La_law_771 (lv_at hl 0 rfl) ?_
  refine lv_iconst (v := 2) hx hb d_La_law_773 (by decide) ?_
  refine lv_iadd hx hb d_La_law_774 ?_
  refine la_sld hx hb hX hbl hbA hS i2 e2 d_La_law_775 ?_
  refine lv_aload_n hx hb d_La_law_776 rfl (lv_at hl 1 rfl) ?_
  refine lv_iload hx hb d_La_law_777 (lv_at hl 0 rfl) ?_
  refine lv_iconst (v := 3) hx hb d_La_law_779 (by decide) ?_
  refine lv_iadd hx hb d_La_law_780 ?_
  refine la_sld hx hb hX hbl hbA hS i3 e3 d_La_law_781 ?_
  refine lv_aload_n hx hb d_La_law_782 rfl (lv_at hl 4 rfl) ?_
  refine w_callS (As := [.ref d, .int x1, .int x2, .int x3, .ref ou]) ⟨hx, hb, hml, hown, hts⟩ (x_join hJ (c_La_follow l hst D cK cI cN cZ cL g G0 ou f _ a k d x1 x2 x3 hw (by omega) hR hJ0)) (x_cbH (own := R_La) (index := 117) 5 hts (by decide +kernel) (by decide +kernel) (by decide +kernel) rfl rfl (by decide +kernel) ⟨by decide, by decide⟩) (hts (.static y_La_follow) (by decide +kernel)) hE hP hA hA0 hS rfl hl.1 rfl (lv_room (Nat.le_of_ble_eq_true rfl)) d_La_law_783 (by omega) (by omega) (fun v9 g9 H locs hq9 hP hA hS => ?_) (fun E9 q9 ce9 g9 H locs hq9 hP hA hS z1 z2 z3 => ?_)
  rotate_left
  · obtain ⟨_, ⟨hz, -⟩, -⟩ := hq9
    cases hz
  obtain ⟨Gn, ⟨hv9, hle, gn, fn, hJ0, hR, hal⟩, hJ⟩ := hq9
  cases hv9
  refine W.eq (g2 := F0 m 786 ls [.int (nI (s_follow a x1 x2 x3).1)]) rfl ?_
  refine lv_topi (fun kv1 e_kv1 => ?_)
  refine lv_istore hx hb d_La_law_786 hl (by decide) rfl (fun ls hl => ?_)
  have hl : lv_has ls 8 [(5, .int kv1), (4, .int i), (0, .ref b), (1, .ref d), (2, .ref (r 20)), (3, .ref ou)] := hl
  refine lv_aload_n hx hb d_La_law_788 rfl (lv_at hl 4 rfl) ?_
  refine lv_aload_n hx hb d_La_law_789 rfl (lv_at hl 2 rfl) ?_
  refine lv_iload hx hb d_La_law_790 (lv_at hl 1 rfl) ?_
  refine lv_iconst (v := 1) hx hb d_La_law_792 (by decide) ?_
  refine lv_iadd hx hb d_La_law_793 ?_
  refine la_sld hx hb hX hbl hbA hS i1 e1 d_La_law_794 ?_
  refine lv_aload_n hx hb d_La_law_795 rfl (lv_at hl 2 rfl) ?_
  refine lv_iload hx hb d_La_law_796 (lv_at hl 1 rfl) ?_
  refine lv_iconst (v := 2) hx hb d_La_law_798 (by decide) ?_
  refine lv_iadd hx hb d_La_law_799 ?_
  refine la_sld hx hb hX hbl hbA hS i2 e2 d_La_law_800 ?_
  refine lv_aload_n hx hb d_La_law_801 rfl (lv_at hl 2 rfl) ?_
  refine lv_iload hx hb d_La_law_802 (lv_at hl 1 rfl) ?_
  refine lv_iconst (v := 3) hx hb d_La_law_804 (by decide) ?_
  refine lv_iadd hx hb d_La_law_805 ?_
  refine la_sld hx hb hX hbl hbA hS i3 e3 d_La_law_806 ?_
  have hm : g9 (r 20) = some (m_F r cN cZ cL S 20) := (hJ.1 _ _).mpr (Or.inr (m_at hri (by decide)))
  refine w_callV (As := [.int x1, .int x2, .int x3]) (C := R_Mo) ⟨hx, hb, hml, hown, hts⟩ (x_join hJ.sym (c_Mo_follow l D cK cI cN cZ cL r hri S _ a k x1 x2 x3 hw (by omega) hM)) (x_cb (cwV (own := R_La) (index := 119) (C := R_Mo) 3 hts (x_gi (by decide +kernel)) rfl rfl rfl (by decide +kernel) ⟨by decide, by decide⟩).1) (hts (.instanceMethod y_Mo_follow) (by decide +kernel)) (hts (.selects R_Mo y_Mo_follow y_Mo_follow) (by decide +kernel)) (y_recv (ci := 5) (q := (R_Mo, F_Mo, 20)) hK hP rfl hm) hE hP hA hA0 hS rfl hl.1 rfl (lv_room (Nat.le_of_ble_eq_true rfl)) d_La_law_807 (by omega) (by omega) (fun v9 g9 H locs hq9 hP hA hS => ?_) (fun E9 q9 ce9 g9 H locs hq9 hP hA hS z1 z2 z3 => ?_)
  rotate_left
  · obtain ⟨_, ⟨⟨_, hz, -⟩, -⟩, -⟩ := hq9
    cases hz
  obtain ⟨gm, ⟨⟨x9, hv9, hx9⟩, S1, hgm, herr, hM1⟩, hJs⟩ := hq9
  cases hv9
  subst hgm
  have hJ := hJs.sym
  refine W.eq (g2 := F0 m 810 ls [.int x9]) rfl ?_
  refine lv_istore hx hb d_La_law_810 hl (by decide) rfl (fun ls hl => ?_)
  have hl : lv_has ls 8 [(6, .int x9), (5, .int kv1), (4, .int i), (0, .ref b), (1, .ref d), (2, .ref (r 20)), (3, .ref ou)] := hl
  refine lv_aload_n hx hb d_La_law_812 rfl (lv_at hl 5 rfl) ?_
  have hm : g9 (r 20) = some (m_F r cN cZ cL S1 20) := (hJ.1 _ _).mpr (Or.inr (m_at hri (by decide)))
  refine w_callV (As := []) (C := R_Mo) ⟨hx, hb, hml, hown, hts⟩ (x_join hJ.sym (c_Mo_thrown l D cK cI cN cZ cL r hri S1 _)) (x_cb (cwV (own := R_La) (index := 82) (C := R_Mo) 0 hts (x_gi (by decide +kernel)) rfl rfl rfl (by decide +kernel) ⟨by decide, by decide⟩).1) (hts (.instanceMethod y_Mo_thrown) (by decide +kernel)) (hts (.selects R_Mo y_Mo_thrown y_Mo_thrown) (by decide +kernel)) (y_recv (ci := 5) (q := (R_Mo, F_Mo, 20)) hK hP rfl hm) hE hP hA hA0 hS rfl hl.1 rfl (lv_room (Nat.le_of_ble_eq_true rfl)) d_La_law_813 (by omega) (by omega) (fun v9 g9 H locs hq9 hP hA hS => ?_) (fun E9 q9 ce9 g9 H locs hq9 hP hA hS z1 z2 z3 => ?_)
  rotate_left
  · obtain ⟨_, ⟨hz, -⟩, -⟩ := hq9
    cases hz
  obtain ⟨gm, ⟨hv9, hgm⟩, hJs⟩ := hq9
  cases hv9
  subst hgm
  have hJ := hJs.sym
  refine W.eq (g2 := F0 m 816 ls [.int (S1.2.2 10)]) rfl ?_
  refine lv_iload hx hb d_La_law_816 (lv_at hl 1 rfl) ?_
  refine lv_icmp_eq hx hb d_La_law_818 rfl (fun h2 => ?_) (fun h2 => (absurd (herr.trans e_kv1.symm) h2))
  refine lv_iload hx hb d_La_law_823 (lv_at hl 1 rfl) ?_
  refine lv_if_ne hx hb d_La_law_825 rfl (fun h3 => ?_) (fun h3 => ?_)
  · -- ifne at 825: to 847
    refine lv_goto hx hb d_La_law_847 rfl ?_
    have hl : lv_has ls 8 [(4, .int i), (0, .ref b), (1, .ref d), (2, .ref (r 20)), (3, .ref ou)] := lv_sub hl [2, 3, 4, 5, 6] rfl
    refine W.widen (k := cells + 6) (n := slots + 60) (by omega) (by omega) ?_
    exact kk ls H locs hl ⟨_, gn, Gn, _, S1, fn, k_follow hw (by omega) x1 x2 x3, hR, hM1, hJ0, hJ, hP, hA, hS⟩
  · -- ifne at 825: to 828
    have hs0 : (s_follow a x1 x2 x3).1 = 0 := l_z (e_kv1.symm.trans h3) hle
    have hcv := (hal hs0).1 _ (hx9 hs0)
    have hou : g9 ou = some (.inl (cL, 1, .inr (.inl fn))) := (hJ.1 _ _).mpr (Or.inl hJ0.out)
    refine lv_aload_n hx hb d_La_law_828 rfl (lv_at hl 6 rfl) ?_
    refine lv_iconst (v := 0) hx hb d_La_law_829 (by decide) ?_
    refine y_lald (f := fn) hx hb hK hP 4 hou rfl l_in0 d_La_law_830 ?_
    refine lv_iload hx hb d_La_law_831 (lv_at hl 0 rfl) ?_
    obtain ⟨X9, hX9⟩ := l_follow (a := a) x1 x2 x3 hs0
    have hb9 : c_bit X9 = x9 := Value.int.inj (Option.some.inj (hX9.symm.trans (hx9 hs0)))
    refine lv_if_eq hx hb d_La_law_833 rfl (fun h4 => ?_) (fun h4 => ?_)
    · -- ifeq at 833: to 840
      refine lv_lconst (v := 0) hx hb d_La_law_840 (by decide) ?_
      refine W.lcmp hx hb d_La_law_841 ?_
      refine lv_if_eq hx hb d_La_law_842 rfl (fun h5 => ?_) (fun h5 => (absurd ((lg_cmp_eq _ _).mpr (hcv.trans ((congrArg Int32.toInt64 h4).trans l_t0))) h5))
      refine lv_goto hx hb d_La_law_847 rfl ?_
      have hl : lv_has ls 8 [(4, .int i), (0, .ref b), (1, .ref d), (2, .ref (r 20)), (3, .ref ou)] := lv_sub hl [2, 3, 4, 5, 6] rfl
      refine W.widen (k := cells + 6) (n := slots + 60) (by omega) (by omega) ?_
      exact kk ls H locs hl ⟨_, gn, Gn, _, S1, fn, k_follow hw (by omega) x1 x2 x3, hR, hM1, hJ0, hJ, hP, hA, hS⟩
    · -- ifeq at 833: to 836
      refine lv_lconst (v := 1) hx hb d_La_law_836 (by decide) ?_
      refine lv_goto hx hb d_La_law_837 rfl ?_
      refine W.lcmp hx hb d_La_law_841 ?_
      refine lv_if_eq hx hb d_La_law_842 rfl (fun h6 => ?_) (fun h6 => (absurd ((lg_cmp_eq _ _).mpr (hcv.trans (l_b2 hb9 h4).symm)) h6))
      refine lv_goto hx hb d_La_law_847 rfl ?_
      have hl : lv_has ls 8 [(4, .int i), (0, .ref b), (1, .ref d), (2, .ref (r 20)), (3, .ref ou)] := lv_sub hl [2, 3, 4, 5, 6] rfl
      refine W.widen (k := cells + 6) (n := slots + 60) (by omega) (by omega) ?_
      exact kk ls H locs hl ⟨_, gn, Gn, _, S1, fn, k_follow hw (by omega) x1 x2 x3, hR, hM1, hJ0, hJ, hP, hA, hS⟩
set_option maxHeartbeats 4000000 in
set_option maxRecDepth 100000 in
/-- case 10: keep -/
theorem la_keep (l : Launch) (hst : l.stackTraces = false) {p : Program} {e : Env} {s : State} {m : MethodId} {below : List Frame} {meth : Method} {c : Code} {H : Heap} {locs : List Loc} {cells slots : Nat} {Q : State → Prop} {b L : Nat} {xs : Nat → Int32} {A : Nat → Prop} {D : va_G} (cK cI cN cZ cL : ClassId) {d ou : Nat} {r : Nat → Nat} (hri : m_inj r) (hC : la_C p s m c b L xs D cK cI cN cZ cL A) {ls : Array Slot} {k : Nat} {i x1 x2 x3 x4 : Int32} (hk : k < 512) (hI : la_I cK cI cN cZ cL D A s d ou r k H locs) (hl : lv_has ls 8 [(4, .int i), (0, .ref b), (1, .ref d), (2, .ref (r 20)), (3, .ref ou)]) (hi : la_x xs L i x1 x2 x3 x4) (hcc : cells + 6 ≤ room_1.cells) (hss : slots + 60 ≤ room_1.slots)
    (kk : ∀ (ls : Array Slot) (H : Heap) (locs : List Loc), lv_has ls 8 [(4, .int i), (0, .ref b), (1, .ref d), (2, .ref (r 20)), (3, .ref ou)] → la_I cK cI cN cZ cL D A s d ou r (k + 1) H locs → W p l e room_1 s m #[Value.ref b] below meth c H locs (cells + 6) (slots + 60) Q (F0 m 1130 ls [])) : W p l e room_1 s m #[Value.ref b] below meth c H locs cells slots Q (F0 m 850 ls []) := by
  obtain ⟨hx, hb, hml, hown, hE, hA0, hX, hbl, hbA⟩ := hC
  have hts := hE.hts #[Value.ref b]
  have hK := hE.1.2.1
  obtain ⟨a, g, G0, g9, S, f, hw, hR, hM, hJ0, hJ, hP, hA, hS⟩ := hI
  obtain ⟨⟨i1, e1⟩, ⟨i2, e2⟩, ⟨i3, e3⟩, i4, e4⟩ := hi
  refine lv_aload_n hx hb d_La_law_850 rfl (lv_at hl 2 rfl) ?_
  refine lv_aload_n hx hb d_La_law_851 rfl (lv_at hl 1 rfl) ?_
  refine lv_iload hx hb d_La_law_852 (lv_at hl 0 rfl) ?_
  refine lv_iconst (v := 1) hx hb d_La_law_854 (by decide) ?_
  refine lv_iadd hx hb d_La_law_855 ?_
  refine la_sld hx hb hX hbl hbA hS i1 e1 d_La_law_856 ?_
  refine lv_aload_n hx hb d_La_law_857 rfl (lv_at hl 4 rfl) ?_
  refine w_callS (As := [.ref d, .int x1, .ref ou]) ⟨hx, hb, hml, hown, hts⟩ (x_join hJ (c_La_keep l hst D cK cI cN cZ cL g G0 ou f _ a k d x1 hw (by omega) hR hJ0)) (x_cbH (own := R_La) (index := 120) 3 hts (by decide +kernel) (by decide +kernel) (by decide +kernel) rfl rfl (by decide +kernel) ⟨by decide, by decide⟩) (hts (.static y_La_keep) (by decide +kernel)) hE hP hA hA0 hS rfl hl.1 rfl (lv_room (Nat.le_of_ble_eq_true rfl)) d_La_law_858 (by omega) (by omega) (fun v9 g9 H locs hq9 hP hA hS => ?_) (fun E9 q9 ce9 g9 H locs hq9 hP hA hS z1 z2 z3 => ?_)
  rotate_left
  · obtain ⟨_, ⟨hz, -⟩, -⟩ := hq9
    cases hz
  obtain ⟨Gn, ⟨hv9, hle, gn, fn, hJ0, hR, hal⟩, hJ⟩ := hq9
  cases hv9
  refine W.eq (g2 := F0 m 861 ls [.int (nI (s_keep a x1).1)]) rfl ?_
  refine lv_topi (fun kv1 e_kv1 => ?_)
  refine lv_istore hx hb d_La_law_861 hl (by decide) rfl (fun ls hl => ?_)
  have hl : lv_has ls 8 [(5, .int kv1), (4, .int i), (0, .ref b), (1, .ref d), (2, .ref (r 20)), (3, .ref ou)] := hl
  refine lv_aload_n hx hb d_La_law_863 rfl (lv_at hl 4 rfl) ?_
  refine lv_aload_n hx hb d_La_law_864 rfl (lv_at hl 2 rfl) ?_
  refine lv_iload hx hb d_La_law_865 (lv_at hl 1 rfl) ?_
  refine lv_iconst (v := 1) hx hb d_La_law_867 (by decide) ?_
  refine lv_iadd hx hb d_La_law_868 ?_
  refine la_sld hx hb hX hbl hbA hS i1 e1 d_La_law_869 ?_
  have hm : g9 (r 20) = some (m_F r cN cZ cL S 20) := (hJ.1 _ _).mpr (Or.inr (m_at hri (by decide)))
  refine w_callV (As := [.int x1]) (C := R_Mo) ⟨hx, hb, hml, hown, hts⟩ (x_join hJ.sym (c_Mo_keep l D cK cI cN cZ cL r hri S _ a k x1 hw (by omega) hM)) (x_cb (cwV (own := R_La) (index := 122) (C := R_Mo) 1 hts (x_gi (by decide +kernel)) rfl rfl rfl (by decide +kernel) ⟨by decide, by decide⟩).1) (hts (.instanceMethod y_Mo_keep) (by decide +kernel)) (hts (.selects R_Mo y_Mo_keep y_Mo_keep) (by decide +kernel)) (y_recv (ci := 5) (q := (R_Mo, F_Mo, 20)) hK hP rfl hm) hE hP hA hA0 hS rfl hl.1 rfl (lv_room (Nat.le_of_ble_eq_true rfl)) d_La_law_870 (by omega) (by omega) (fun v9 g9 H locs hq9 hP hA hS => ?_) (fun E9 q9 ce9 g9 H locs hq9 hP hA hS z1 z2 z3 => ?_)
  rotate_left
  · obtain ⟨_, ⟨⟨_, hz, -⟩, -⟩, -⟩ := hq9
    cases hz
  obtain ⟨gm, ⟨⟨x9, hv9, hx9⟩, S1, hgm, herr, hM1⟩, hJs⟩ := hq9
  cases hv9
  subst hgm
  have hJ := hJs.sym
  refine W.eq (g2 := F0 m 873 ls [.int x9]) rfl ?_
  refine lv_istore hx hb d_La_law_873 hl (by decide) rfl (fun ls hl => ?_)
  have hl : lv_has ls 8 [(6, .int x9), (5, .int kv1), (4, .int i), (0, .ref b), (1, .ref d), (2, .ref (r 20)), (3, .ref ou)] := hl
  refine lv_aload_n hx hb d_La_law_875 rfl (lv_at hl 5 rfl) ?_
  have hm : g9 (r 20) = some (m_F r cN cZ cL S1 20) := (hJ.1 _ _).mpr (Or.inr (m_at hri (by decide)))
  refine w_callV (As := []) (C := R_Mo) ⟨hx, hb, hml, hown, hts⟩ (x_join hJ.sym (c_Mo_thrown l D cK cI cN cZ cL r hri S1 _)) (x_cb (cwV (own := R_La) (index := 82) (C := R_Mo) 0 hts (x_gi (by decide +kernel)) rfl rfl rfl (by decide +kernel) ⟨by decide, by decide⟩).1) (hts (.instanceMethod y_Mo_thrown) (by decide +kernel)) (hts (.selects R_Mo y_Mo_thrown y_Mo_thrown) (by decide +kernel)) (y_recv (ci := 5) (q := (R_Mo, F_Mo, 20)) hK hP rfl hm) hE hP hA hA0 hS rfl hl.1 rfl (lv_room (Nat.le_of_ble_eq_true rfl)) d_La_law_876 (by omega) (by omega) (fun v9 g9 H locs hq9 hP hA hS => ?_) (fun E9 q9 ce9 g9 H locs hq9 hP hA hS z1 z2 z3 => ?_)
  rotate_left
  · obtain ⟨_, ⟨hz, -⟩, -⟩ := hq9
    cases hz
  obtain ⟨gm, ⟨hv9, hgm⟩, hJs⟩ := hq9
  cases hv9
  subst hgm
  have hJ := hJs.sym
  refine W.eq (g2 := F0 m 879 ls [.int (S1.2.2 10)]) rfl ?_
  refine lv_iload hx hb d_La_law_879 (lv_at hl 1 rfl) ?_
  refine lv_icmp_eq hx hb d_La_law_881 rfl (fun h2 => ?_) (fun h2 => (absurd (herr.trans e_kv1.symm) h2))
  refine lv_iload hx hb d_La_law_886 (lv_at hl 1 rfl) ?_
  refine lv_if_ne hx hb d_La_law_888 rfl (fun h3 => ?_) (fun h3 => ?_)
  · -- ifne at 888: to 903
    refine lv_goto hx hb d_La_law_903 rfl ?_
    have hl : lv_has ls 8 [(4, .int i), (0, .ref b), (1, .ref d), (2, .ref (r 20)), (3, .ref ou)] := lv_sub hl [2, 3, 4, 5, 6] rfl
    refine W.widen (k := cells + 6) (n := slots + 60) (by omega) (by omega) ?_
    exact kk ls H locs hl ⟨_, gn, Gn, _, S1, fn, k_keep hw x1, hR, hM1, hJ0, hJ, hP, hA, hS⟩
  · -- ifne at 888: to 891
    have hs0 : (s_keep a x1).1 = 0 := l_z (e_kv1.symm.trans h3) hle
    have hcv := (hal hs0).1 _ (hx9 hs0)
    have hou : g9 ou = some (.inl (cL, 1, .inr (.inl fn))) := (hJ.1 _ _).mpr (Or.inl hJ0.out)
    refine lv_aload_n hx hb d_La_law_891 rfl (lv_at hl 6 rfl) ?_
    refine lv_iconst (v := 0) hx hb d_La_law_892 (by decide) ?_
    refine y_lald (f := fn) hx hb hK hP 4 hou rfl l_in0 d_La_law_893 ?_
    refine lv_iload hx hb d_La_law_894 (lv_at hl 0 rfl) ?_
    refine lv_i2l hx hb d_La_law_896 rfl ?_
    refine W.lcmp hx hb d_La_law_897 ?_
    refine lv_if_eq hx hb d_La_law_898 rfl (fun h4 => ?_) (fun h4 => (absurd ((lg_cmp_eq _ _).mpr (hcv)) h4))
    refine lv_goto hx hb d_La_law_903 rfl ?_
    have hl : lv_has ls 8 [(4, .int i), (0, .ref b), (1, .ref d), (2, .ref (r 20)), (3, .ref ou)] := lv_sub hl [2, 3, 4, 5, 6] rfl
    refine W.widen (k := cells + 6) (n := slots + 60) (by omega) (by omega) ?_
    exact kk ls H locs hl ⟨_, gn, Gn, _, S1, fn, k_keep hw x1, hR, hM1, hJ0, hJ, hP, hA, hS⟩
end LCa46
