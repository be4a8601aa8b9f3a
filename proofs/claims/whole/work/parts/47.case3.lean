/-! the law's cases -/
section LCa47
set_option maxHeartbeats 4000000 in
set_option maxRecDepth 100000 in
/-- case 11: number -/
theorem la_number (l : Launch) (hst : l.stackTraces = false) {p : Program} {e : Env} {s : State} {m : MethodId} {below : List Frame} {meth : Method} {c : Code} {H : Heap} {locs : List Loc} {cells slots : Nat} {Q : State → Prop} {b L : Nat} {xs : Nat → Int32} {A : Nat → Prop} {D : va_G} (cK cI cN cZ cL : ClassId) {d ou : Nat} {r : Nat → Nat} (hri : m_inj r) (hC : la_C p s m c b L xs D cK cI cN cZ cL A) {ls : Array Slot} {k : Nat} {i x1 x2 x3 x4 : Int32} (hk : k < 512) (hI : la_I cK cI cN cZ cL D A s d ou r k H locs) (hl : lv_has ls 8 [(4, .int i), (0, .ref b), (1, .ref d), (2, .ref (r 20)), (3, .ref ou)]) (hi : la_x xs L i x1 x2 x3 x4) (hcc : cells + 6 ≤ room_1.cells) (hss : slots + 60 ≤ room_1.slots)
    (kk : ∀ (ls : Array Slot) (H : Heap) (locs : List Loc), lv_has ls 8 [(4, .int i), (0, .ref b), (1, .ref d), (2, .ref (r 20)), (3, .ref ou)] → la_I cK cI cN cZ cL D A s d ou r (k + 1) H locs → W p l e room_1 s m #[Value.ref b] below meth c H locs (cells + 6) (slots + 60) Q (F0 m 1130 ls [])) : W p l e room_1 s m #[Value.ref b] below meth c H locs cells slots Q (F0 m 906 ls []) := by
  obtain ⟨hx, hb, hml, hown, hE, hA0, hX, hbl, hbA⟩ := hC
  have hts := hE.hts #[Value.ref b]
  have hK := hE.1.2.1
  obtain ⟨a, g, G0, g9, S, f, hw, hR, hM, hJ0, hJ, hP, hA, hS⟩ := hI
  obtain ⟨⟨i1, e1⟩, ⟨i2, e2⟩, ⟨i3, e3⟩, i4, e4⟩ := hi
  refine lv_aload_n hx hb d_La_law_906 rfl (lv_at hl 2 rfl) ?_
  refine lv_aload_n hx hb d_La_law_907 rfl (lv_at hl 1 rfl) ?_
  refine lv_iload hx hb d_La_law_908 (lv_at hl 0 rfl) ?_
  refine lv_iconst (v := 1) hx hb d_La_law_910 (by decide) ?_
  refine lv_iadd hx hb d_La_law_911 ?_
  refine la_sld hx hb hX hbl hbA hS i1 e1 d_La_law_912 ?_
  refine lv_aload_n hx hb d_La_law_913 rfl (lv_at hl 4 rfl) ?_
  refine w_callS (As := [.ref d, .int x1, .ref ou]) ⟨hx, hb, hml, hown, hts⟩ (x_join hJ (c_La_number l hst D cK cI cN cZ cL g G0 ou f _ a k d x1 hw (by omega) hR hJ0)) (x_cbH (own := R_La) (index := 123) 3 hts (by decide +kernel) (by decide +kernel) (by decide +kernel) rfl rfl (by decide +kernel) ⟨by decide, by decide⟩) (hts (.static y_La_number) (by decide +kernel)) hE hP hA hA0 hS rfl hl.1 rfl (lv_room (Nat.le_of_ble_eq_true rfl)) d_La_law_914 (by omega) (by omega) (fun v9 g9 H locs hq9 hP hA hS => ?_) (fun E9 q9 ce9 g9 H locs hq9 hP hA hS z1 z2 z3 => ?_)
  rotate_left
  · obtain ⟨_, ⟨hz, -⟩, -⟩ := hq9
    cases hz
  obtain ⟨Gn, ⟨hv9, hle, gn, fn, hJ0, hR, hal⟩, hJ⟩ := hq9
  cases hv9
  refine W.eq (g2 := F0 m 917 ls [.int (nI (s_number a x1).1)]) rfl ?_
  refine lv_topi (fun kv1 e_kv1 => ?_)
  refine lv_istore hx hb d_La_law_917 hl (by decide) rfl (fun ls hl => ?_)
  have hl : lv_has ls 8 [(5, .int kv1), (4, .int i), (0, .ref b), (1, .ref d), (2, .ref (r 20)), (3, .ref ou)] := hl
  refine lv_aload_n hx hb d_La_law_919 rfl (lv_at hl 4 rfl) ?_
  refine lv_aload_n hx hb d_La_law_920 rfl (lv_at hl 2 rfl) ?_
  refine lv_iload hx hb d_La_law_921 (lv_at hl 1 rfl) ?_
  refine lv_iconst (v := 1) hx hb d_La_law_923 (by decide) ?_
  refine lv_iadd hx hb d_La_law_924 ?_
  refine la_sld hx hb hX hbl hbA hS i1 e1 d_La_law_925 ?_
  have hm : g9 (r 20) = some (m_F r cN cZ cL S 20) := (hJ.1 _ _).mpr (Or.inr (m_at hri (by decide)))
  refine w_callV (As := [.int x1]) (C := R_Mo) ⟨hx, hb, hml, hown, hts⟩ (x_join hJ.sym (c_Mo_number l D cK cI cN cZ cL r hri S _ a k x1 hw (by omega) hM)) (x_cb (cwV (own := R_La) (index := 125) (C := R_Mo) 1 hts (x_gi (by decide +kernel)) rfl rfl rfl (by decide +kernel) ⟨by decide, by decide⟩).1) (hts (.instanceMethod y_Mo_number) (by decide +kernel)) (hts (.selects R_Mo y_Mo_number y_Mo_number) (by decide +kernel)) (y_recv (ci := 5) (q := (R_Mo, F_Mo, 20)) hK hP rfl hm) hE hP hA hA0 hS rfl hl.1 rfl (lv_room (Nat.le_of_ble_eq_true rfl)) d_La_law_926 (by omega) (by omega) (fun v9 g9 H locs hq9 hP hA hS => ?_) (fun E9 q9 ce9 g9 H locs hq9 hP hA hS z1 z2 z3 => ?_)
  rotate_left
  · obtain ⟨_, ⟨⟨_, hz, -⟩, -⟩, -⟩ := hq9
    cases hz
  obtain ⟨gm, ⟨⟨x9, hv9, hx9⟩, S1, hgm, herr, hM1⟩, hJs⟩ := hq9
  cases hv9
  subst hgm
  have hJ := hJs.sym
  refine W.eq (g2 := F0 m 929 ls [.int x9]) rfl ?_
  refine lv_istore hx hb d_La_law_929 hl (by decide) rfl (fun ls hl => ?_)
  have hl : lv_has ls 8 [(6, .int x9), (5, .int kv1), (4, .int i), (0, .ref b), (1, .ref d), (2, .ref (r 20)), (3, .ref ou)] := hl
  refine lv_aload_n hx hb d_La_law_931 rfl (lv_at hl 5 rfl) ?_
  have hm : g9 (r 20) = some (m_F r cN cZ cL S1 20) := (hJ.1 _ _).mpr (Or.inr (m_at hri (by decide)))
  refine w_callV (As := []) (C := R_Mo) ⟨hx, hb, hml, hown, hts⟩ (x_join hJ.sym (c_Mo_thrown l D cK cI cN cZ cL r hri S1 _)) (x_cb (cwV (own := R_La) (index := 82) (C := R_Mo) 0 hts (x_gi (by decide +kernel)) rfl rfl rfl (by decide +kernel) ⟨by decide, by decide⟩).1) (hts (.instanceMethod y_Mo_thrown) (by decide +kernel)) (hts (.selects R_Mo y_Mo_thrown y_Mo_thrown) (by decide +kernel)) (y_recv (ci := 5) (q := (R_Mo, F_Mo, 20)) hK hP rfl hm) hE hP hA hA0 hS rfl hl.1 rfl (lv_room (Nat.le_of_ble_eq_true rfl)) d_La_law_932 (by omega) (by omega) (fun v9 g9 H locs hq9 hP hA hS => ?_) (fun E9 q9 ce9 g9 H locs hq9 hP hA hS z1 z2 z3 => ?_)
  rotate_left
  · obtain ⟨_, ⟨hz, -⟩, -⟩ := hq9
    cases hz
  obtain ⟨gm, ⟨hv9, hgm⟩, hJs⟩ := hq9
  cases hv9
  subst hgm
  have hJ := hJs.sym
  refine W.eq (g2 := F0 m 935 ls [.int (S1.2.2 10)]) rfl ?_
  refine lv_iload hx hb d_La_law_935 (lv_at hl 1 rfl) ?_
  refine lv_icmp_eq hx hb d_La_law_937 rfl (fun h2 => ?_) (fun h2 => (absurd (herr.trans e_kv1.symm) h2))
  refine lv_iload hx hb d_La_law_942 (lv_at hl 1 rfl) ?_
  refine lv_if_ne hx hb d_La_law_944 rfl (fun h3 => ?_) (fun h3 => ?_)
  · -- ifne at 944: to 959
    refine lv_goto hx hb d_La_law_959 rfl ?_
    have hl : lv_has ls 8 [(4, .int i), (0, .ref b), (1, .ref d), (2, .ref (r 20)), (3, .ref ou)] := lv_sub hl [2, 3, 4, 5, 6] rfl
    refine W.widen (k := cells + 6) (n := slots + 60) (by omega) (by omega) ?_
    exact kk ls H locs hl ⟨_, gn, Gn, _, S1, fn, k_number hw x1, hR, hM1, hJ0, hJ, hP, hA, hS⟩
  · -- ifne at 944: to 947
    have hs0 : (s_number a x1).1 = 0 := l_z (e_kv1.symm.trans h3) hle
    have hcv := (hal hs0).1 _ (hx9 hs0)
    have hou : g9 ou = some (.inl (cL, 1, .inr (.inl fn))) := (hJ.1 _ _).mpr (Or.inl hJ0.out)
    refine lv_aload_n hx hb d_La_law_947 rfl (lv_at hl 6 rfl) ?_
    refine lv_iconst (v := 0) hx hb d_La_law_948 (by decide) ?_
    refine y_lald (f := fn) hx hb hK hP 4 hou rfl l_in0 d_La_law_949 ?_
    refine lv_iload hx hb d_La_law_950 (lv_at hl 0 rfl) ?_
    refine lv_i2l hx hb d_La_law_952 rfl ?_
    refine W.lcmp hx hb d_La_law_953 ?_
    refine lv_if_eq hx hb d_La_law_954 rfl (fun h4 => ?_) (fun h4 => (absurd ((lg_cmp_eq _ _).mpr (hcv)) h4))
    refine lv_goto hx hb d_La_law_959 rfl ?_
    have hl : lv_has ls 8 [(4, .int i), (0, .ref b), (1, .ref d), (2, .ref (r 20)), (3, .ref ou)] := lv_sub hl [2, 3, 4, 5, 6] rfl
    refine W.widen (k := cells + 6) (n := slots + 60) (by omega) (by omega) ?_
    exact kk ls H locs hl ⟨_, gn, Gn, _, S1, fn, k_number hw x1, hR, hM1, hJ0, hJ, hP, hA, hS⟩
set_option maxHeartbeats 4000000 in
set_option maxRecDepth 100000 in
/-- case 12: size -/
theorem la_size (l : Launch) (hst : l.stackTraces = false) {p : Program} {e : Env} {s : State} {m : MethodId} {below : List Frame} {meth : Method} {c : Code} {H : Heap} {locs : List Loc} {cells slots : Nat} {Q : State → Prop} {b L : Nat} {xs : Nat → Int32} {A : Nat → Prop} {D : va_G} (cK cI cN cZ cL : ClassId) {d ou : Nat} {r : Nat → Nat} (hri : m_inj r) (hC : la_C p s m c b L xs D cK cI cN cZ cL A) {ls : Array Slot} {k : Nat} {i x1 x2 x3 x4 : Int32} (hk : k < 512) (hI : la_I cK cI cN cZ cL D A s d ou r k H locs) (hl : lv_has ls 8 [(4, .int i), (0, .ref b), (1, .ref d), (2, .ref (r 20)), (3, .ref ou)]) (hi : la_x xs L i x1 x2 x3 x4) (hcc : cells + 6 ≤ room_1.cells) (hss : slots + 60 ≤ room_1.slots)
    (kk : ∀ (ls : Array Slot) (H : Heap) (locs : List Loc), lv_has ls 8 [(4, .int i), (0, .ref b), (1, .ref d), (2, .ref (r 20)), (3, .ref ou)] → la_I cK cI cN cZ cL D A s d ou r (k + 1) H locs → W p l e room_1 s m #[Value.ref b] below meth c H locs (cells + 6) (slots + 60) Q (F0 m 1130 ls [])) : W p l e room_1 s m #[Value.ref b] below meth c H locs cells slots Q (F0 m 962 ls []) := by
  obtain ⟨hx, hb, hml, hown, hE, hA0, hX, hbl, hbA⟩ := hC
  have hts := hE.hts #[Value.ref b]
  have hK := hE.1.2.1
  obtain ⟨a, g, G0, g9, S, f, hw, hR, hM, hJ0, hJ, hP, hA, hS⟩ := hI
  obtain ⟨⟨i1, e1⟩, ⟨i2, e2⟩, ⟨i3, e3⟩, i4, e4⟩ := hi
  refine lv_aload_n hx hb d_La_law_962 rfl (lv_at hl 2 rfl) ?_
  refine lv_aload_n hx hb d_La_law_963 rfl (lv_at hl 1 rfl) ?_
  refine lv_iload hx hb d_La_law_964 (lv_at hl 0 rfl) ?_
  refine lv_iconst (v := 1) hx hb d_La_law_966 (by decide) ?_
  refine lv_iadd hx hb d_La_law_967 ?_
  refine la_sld hx hb hX hbl hbA hS i1 e1 d_La_law_968 ?_
  refine lv_aload_n hx hb d_La_law_969 rfl (lv_at hl 4 rfl) ?_
  refine w_callS (As := [.ref d, .int x1, .ref ou]) ⟨hx, hb, hml, hown, hts⟩ (x_join hJ (c_La_size l hst D cK cI cN cZ cL g G0 ou f _ a k d x1 hw (by omega) hR hJ0)) (x_cbH (own := R_La) (index := 126) 3 hts (by decide +kernel) (by decide +kernel) (by decide +kernel) rfl rfl (by decide +kernel) ⟨by decide, by decide⟩) (hts (.static y_La_size) (by decide +kernel)) hE hP hA hA0 hS rfl hl.1 rfl (lv_room (Nat.le_of_ble_eq_true rfl)) d_La_law_970 (by omega) (by omega) (fun v9 g9 H locs hq9 hP hA hS => ?_) (fun E9 q9 ce9 g9 H locs hq9 hP hA hS z1 z2 z3 => ?_)
  rotate_left
  · obtain ⟨_, ⟨hz, -⟩, -⟩ := hq9
    cases hz
  obtain ⟨Gn, ⟨hv9, hle, gn, fn, hJ0, hR, hal⟩, hJ⟩ := hq9
  cases hv9
  refine W.eq (g2 := F0 m 973 ls [.int (nI (s_size a x1).1)]) rfl ?_
  refine lv_topi (fun kv1 e_kv1 => ?_)
  refine lv_istore hx hb d_La_law_973 hl (by decide) rfl (fun ls hl => ?_)
  have hl : lv_has ls 8 [(5, .int kv1), (4, .int i), (0, .ref b), (1, .ref d), (2, .ref (r 20)), (3, .ref ou)] := hl
  refine lv_aload_n hx hb d_La_law_975 rfl (lv_at hl 4 rfl) ?_
  refine lv_aload_n hx hb d_La_law_976 rfl (lv_at hl 2 rfl) ?_
  refine lv_iload hx hb d_La_law_977 (lv_at hl 1 rfl) ?_
  refine lv_iconst (v := 1) hx hb d_La_law_979 (by decide) ?_
  refine lv_iadd hx hb d_La_law_980 ?_
  refine la_sld hx hb hX hbl hbA hS i1 e1 d_La_law_981 ?_
  have hm : g9 (r 20) = some (m_F r cN cZ cL S 20) := (hJ.1 _ _).mpr (Or.inr (m_at hri (by decide)))
  refine w_callV (As := [.int x1]) (C := R_Mo) ⟨hx, hb, hml, hown, hts⟩ (x_join hJ.sym (c_Mo_size l D cK cI cN cZ cL r hri S _ a k x1 hw (by omega) hM)) (x_cb (cwV (own := R_La) (index := 128) (C := R_Mo) 1 hts (x_gi (by decide +kernel)) rfl rfl rfl (by decide +kernel) ⟨by decide, by decide⟩).1) (hts (.instanceMethod y_Mo_size) (by decide +kernel)) (hts (.selects R_Mo y_Mo_size y_Mo_size) (by decide +kernel)) (y_recv (ci := 5) (q := (R_Mo, F_Mo, 20)) hK hP rfl hm) hE hP hA hA0 hS rfl hl.1 rfl (lv_room (Nat.le_of_ble_eq_true rfl)) d_La_law_982 (by omega) (by omega) (fun v9 g9 H locs hq9 hP hA hS => ?_) (fun E9 q9 ce9 g9 H locs hq9 hP hA hS z1 z2 z3 => ?_)
  rotate_left
  · obtain ⟨_, ⟨⟨_, hz, -⟩, -⟩, -⟩ := hq9
    cases hz
  obtain ⟨gm, ⟨⟨x9, hv9, hx9⟩, S1, hgm, herr, hM1⟩, hJs⟩ := hq9
  cases hv9
  subst hgm
  have hJ := hJs.sym
  refine W.eq (g2 := F0 m 985 ls [.int x9]) rfl ?_
  refine lv_istore hx hb d_La_law_985 hl (by decide) rfl (fun ls hl => ?_)
  have hl : lv_has ls 8 [(6, .int x9), (5, .int kv1), (4, .int i), (0, .ref b), (1, .ref d), (2, .ref (r 20)), (3, .ref ou)] := hl
  refine lv_aload_n hx hb d_La_law_987 rfl (lv_at hl 5 rfl) ?_
  have hm : g9 (r 20) = some (m_F r cN cZ cL S1 20) := (hJ.1 _ _).mpr (Or.inr (m_at hri (by decide)))
  refine w_callV (As := []) (C := R_Mo) ⟨hx, hb, hml, hown, hts⟩ (x_join hJ.sym (c_Mo_thrown l D cK cI cN cZ cL r hri S1 _)) (x_cb (cwV (own := R_La) (index := 82) (C := R_Mo) 0 hts (x_gi (by decide +kernel)) rfl rfl rfl (by decide +kernel) ⟨by decide, by decide⟩).1) (hts (.instanceMethod y_Mo_thrown) (by decide +kernel)) (hts (.selects R_Mo y_Mo_thrown y_Mo_thrown) (by decide +kernel)) (y_recv (ci := 5) (q := (R_Mo, F_Mo, 20)) hK hP rfl hm) hE hP hA hA0 hS rfl hl.1 rfl (lv_room (Nat.le_of_ble_eq_true rfl)) d_La_law_988 (by omega) (by omega) (fun v9 g9 H locs hq9 hP hA hS => ?_) (fun E9 q9 ce9 g9 H locs hq9 hP hA hS z1 z2 z3 => ?_)
  rotate_left
  · obtain ⟨_, ⟨hz, -⟩, -⟩ := hq9
    cases hz
  obtain ⟨gm, ⟨hv9, hgm⟩, hJs⟩ := hq9
  cases hv9
  subst hgm
  have hJ := hJs.sym
  refine W.eq (g2 := F0 m 991 ls [.int (S1.2.2 10)]) rfl ?_
  refine lv_iload hx hb d_La_law_991 (lv_at hl 1 rfl) ?_
  refine lv_icmp_eq hx hb d_La_law_993 rfl (fun h2 => ?_) (fun h2 => (absurd (herr.trans e_kv1.symm) h2))
  refine lv_iload hx hb d_La_law_998 (lv_at hl 1 rfl) ?_
  refine lv_if_ne hx hb d_La_law_1000 rfl (fun h3 => ?_) (fun h3 => ?_)
  · -- ifne at 1000: to 1015
    refine lv_goto hx hb d_La_law_1015 rfl ?_
    have hl : lv_has ls 8 [(4, .int i), (0, .ref b), (1, .ref d), (2, .ref (r 20)), (3, .ref ou)] := lv_sub hl [2, 3, 4, 5, 6] rfl
    refine W.widen (k := cells + 6) (n := slots + 60) (by omega) (by omega) ?_
    exact kk ls H locs hl ⟨_, gn, Gn, _, S1, fn, k_size hw x1, hR, hM1, hJ0, hJ, hP, hA, hS⟩
  · -- ifne at 1000: to 1003
    have hs0 : (s_size a x1).1 = 0 := l_z (e_kv1.symm.trans h3) hle
    have hcv := (hal hs0).1 _ (hx9 hs0)
    have hou : g9 ou = some (.inl (cL, 1, .inr (.inl fn))) := (hJ.1 _ _).mpr (Or.inl hJ0.out)
    refine lv_aload_n hx hb d_La_law_1003 rfl (lv_at hl 6 rfl) ?_
    refine lv_iconst (v := 0) hx hb d_La_law_1004 (by decide) ?_
    refine y_lald (f := fn) hx hb hK hP 4 hou rfl l_in0 d_La_law_1005 ?_
    refine lv_iload hx hb d_La_law_1006 (lv_at hl 0 rfl) ?_
    refine lv_i2l hx hb d_La_law_1008 rfl ?_
    refine W.lcmp hx hb d_La_law_1009 ?_
    refine lv_if_eq hx hb d_La_law_1010 rfl (fun h4 => ?_) (fun h4 => (absurd ((lg_cmp_eq _ _).mpr (hcv)) h4))
    refine lv_goto hx hb d_La_law_1015 rfl ?_
    have hl : lv_has ls 8 [(4, .int i), (0, .ref b), (1, .ref d), (2, .ref (r 20)), (3, .ref ou)] := lv_sub hl [2, 3, 4, 5, 6] rfl
    refine W.widen (k := cells + 6) (n := slots + 60) (by omega) (by omega) ?_
    exact kk ls H locs hl ⟨_, gn, Gn, _, S1, fn, k_size hw x1, hR, hM1, hJ0, hJ, hP, hA, hS⟩
set_option maxHeartbeats 4000000 in
set_option maxRecDepth 100000 in
/-- case 13: memory -/
theorem la_memory (l : Launch) (hst : l.stackTraces = false) {p : Program} {e : Env} {s : State} {m : MethodId} {below : List Frame} {meth : Method} {c : Code} {H : Heap} {locs : List Loc} {cells slots : Nat} {Q : State → Prop} {b L : Nat} {xs : Nat → Int32} {A : Nat → Prop} {D : va_G} (cK cI cN cZ cL : ClassId) {d ou : Nat} {r : Nat → Nat} (hri : m_inj r) (hC : la_C p s m c b L xs D cK cI cN cZ cL A) {ls : Array Slot} {k : Nat} {i x1 x2 x3 x4 : Int32} (hk : k < 512) (hI : la_I cK cI cN cZ cL D A s d ou r k H locs) (hl : lv_has ls 8 [(4, .int i), (0, .ref b), (1, .ref d), (2, .ref (r 20)), (3, .ref ou)]) (hi : la_x xs L i x1 x2 x3 x4) (hcc : cells + 6 ≤ room_1.cells) (hss : slots + 60 ≤ room_1.slots)
    (kk : ∀ (ls : Array Slot) (H : Heap) (locs : List Loc), lv_has ls 8 [(4, .int i), (0, .ref b), (1, .ref d), (2, .ref (r 20)), (3, .ref ou)] → la_I cK cI cN cZ cL D A s d ou r (k + 1) H locs → W p l e room_1 s m #[Value.ref b] below meth c H locs (cells + 6) (slots + 60) Q (F0 m 1130 ls [])) : W p l e room_1 s m #[Value.ref b] below meth c H locs cells slots Q (F0 m 1018 ls []) := by
  obtain ⟨hx, hb, hml, hown, hE, hA0, hX, hbl, hbA⟩ := hC
  have hts := hE.hts #[Value.ref b]
  have hK := hE.1.2.1
  obtain ⟨a, g, G0, g9, S, f, hw, hR, hM, hJ0, hJ, hP, hA, hS⟩ := hI
  obtain ⟨⟨i1, e1⟩, ⟨i2, e2⟩, ⟨i3, e3⟩, i4, e4⟩ := hi
  have hu : a_use a ≤ 65536 := Nat.le_trans hR.use hw.2.2.2.2.2.2.2.2.1
  refine lv_aload_n hx hb d_La_law_1018 rfl (lv_at hl 2 rfl) ?_
  refine lv_aload_n hx hb d_La_law_1019 rfl (lv_at hl 1 rfl) ?_
  refine lv_iload hx hb d_La_law_1020 (lv_at hl 0 rfl) ?_
  refine lv_iconst (v := 1) hx hb d_La_law_1022 (by decide) ?_
  refine lv_iadd hx hb d_La_law_1023 ?_
  refine la_sld hx hb hX hbl hbA hS i1 e1 d_La_law_1024 ?_
  refine lv_aload_n hx hb d_La_law_1025 rfl (lv_at hl 4 rfl) ?_
  refine w_callS (As := [.ref d, .int x1, .ref ou]) ⟨hx, hb, hml, hown, hts⟩ (x_join hJ (c_La_memory l hst D cK cI cN cZ cL g G0 ou f _ a k d x1 hw (by omega) hR hJ0)) (x_cbH (own := R_La) (index := 129) 3 hts (by decide +kernel) (by decide +kernel) (by decide +kernel) rfl rfl (by decide +kernel) ⟨by decide, by decide⟩) (hts (.static y_La_memory) (by decide +kernel)) hE hP hA hA0 hS rfl hl.1 rfl (lv_room (Nat.le_of_ble_eq_true rfl)) d_La_law_1026 (by omega) (by omega) (fun v9 g9 H locs hq9 hP hA hS => ?_) (fun E9 q9 ce9 g9 H locs hq9 hP hA hS z1 z2 z3 => ?_)
  rotate_left
  · obtain ⟨_, ⟨hz, -⟩, -⟩ := hq9
    cases hz
  obtain ⟨Gn, ⟨hv9, hle, gn, fn, hJ0, hR, hal⟩, hJ⟩ := hq9
  cases hv9
  refine W.eq (g2 := F0 m 1029 ls [.int (nI (s_memory a x1).1)]) rfl ?_
  refine lv_topi (fun kv1 e_kv1 => ?_)
  refine lv_istore hx hb d_La_law_1029 hl (by decide) rfl (fun ls hl => ?_)
  have hl : lv_has ls 8 [(5, .int kv1), (4, .int i), (0, .ref b), (1, .ref d), (2, .ref (r 20)), (3, .ref ou)] := hl
  refine lv_aload_n hx hb d_La_law_1031 rfl (lv_at hl 4 rfl) ?_
  refine lv_aload_n hx hb d_La_law_1032 rfl (lv_at hl 2 rfl) ?_
  refine lv_iload hx hb d_La_law_1033 (lv_at hl 1 rfl) ?_
  refine lv_iconst (v := 1) hx hb d_La_law_1035 (by decide) ?_
  refine lv_iadd hx hb d_La_law_1036 ?_
  refine la_sld hx hb hX hbl hbA hS i1 e1 d_La_law_1037 ?_
  have hm : g9 (r 20) = some (m_F r cN cZ cL S 20) := (hJ.1 _ _).mpr (Or.inr (m_at hri (by decide)))
  refine w_callV (As := [.int x1]) (C := R_Mo) ⟨hx, hb, hml, hown, hts⟩ (x_join hJ.sym (c_Mo_memory l D cK cI cN cZ cL r hri S _ a k x1 hw (by omega) hM hu)) (x_cb (cwV (own := R_La) (index := 131) (C := R_Mo) 1 hts (x_gi (by decide +kernel)) rfl rfl rfl (by decide +kernel) ⟨by decide, by decide⟩).1) (hts (.instanceMethod y_Mo_memory) (by decide +kernel)) (hts (.selects R_Mo y_Mo_memory y_Mo_memory) (by decide +kernel)) (y_recv (ci := 5) (q := (R_Mo, F_Mo, 20)) hK hP rfl hm) hE hP hA hA0 hS rfl hl.1 rfl (lv_room (Nat.le_of_ble_eq_true rfl)) d_La_law_1038 (by omega) (by omega) (fun v9 g9 H locs hq9 hP hA hS => ?_) (fun E9 q9 ce9 g9 H locs hq9 hP hA hS z1 z2 z3 => ?_)
  rotate_left
  · obtain ⟨_, ⟨⟨_, hz, -⟩, -⟩, -⟩ := hq9
    cases hz
  obtain ⟨gm, ⟨⟨x9, hv9, hx9⟩, S1, hgm, herr, hM1⟩, hJs⟩ := hq9
  cases hv9
  subst hgm
  have hJ := hJs.sym
  refine W.eq (g2 := F0 m 1041 ls [.int x9]) rfl ?_
  refine lv_istore hx hb d_La_law_1041 hl (by decide) rfl (fun ls hl => ?_)
  have hl : lv_has ls 8 [(6, .int x9), (5, .int kv1), (4, .int i), (0, .ref b), (1, .ref d), (2, .ref (r 20)), (3, .ref ou)] := hl
  refine lv_aload_n hx hb d_La_law_1043 rfl (lv_at hl 5 rfl) ?_
  have hm : g9 (r 20) = some (m_F r cN cZ cL S1 20) := (hJ.1 _ _).mpr (Or.inr (m_at hri (by decide)))
  refine w_callV (As := []) (C := R_Mo) ⟨hx, hb, hml, hown, hts⟩ (x_join hJ.sym (c_Mo_thrown l D cK cI cN cZ cL r hri S1 _)) (x_cb (cwV (own := R_La) (index := 82) (C := R_Mo) 0 hts (x_gi (by decide +kernel)) rfl rfl rfl (by decide +kernel) ⟨by decide, by decide⟩).1) (hts (.instanceMethod y_Mo_thrown) (by decide +kernel)) (hts (.selects R_Mo y_Mo_thrown y_Mo_thrown) (by decide +kernel)) (y_recv (ci := 5) (q := (R_Mo, F_Mo, 20)) hK hP rfl hm) hE hP hA hA0 hS rfl hl.1 rfl (lv_room (Nat.le_of_ble_eq_true rfl)) d_La_law_1044 (by omega) (by omega) (fun v9 g9 H locs hq9 hP hA hS => ?_) (fun E9 q9 ce9 g9 H locs hq9 hP hA hS z1 z2 z3 => ?_)
  rotate_left
  · obtain ⟨_, ⟨hz, -⟩, -⟩ := hq9
    cases hz
  obtain ⟨gm, ⟨hv9, hgm⟩, hJs⟩ := hq9
  cases hv9
  subst hgm
  have hJ := hJs.sym
  refine W.eq (g2 := F0 m 1047 ls [.int (S1.2.2 10)]) rfl ?_
  refine lv_iload hx hb d_La_law_1047 (lv_at hl 1 rfl) ?_
  refine lv_icmp_eq hx hb d_La_law_1049 rfl (fun h2 => ?_) (fun h2 => (absurd (herr.trans e_kv1.symm) h2))
  refine lv_iload hx hb d_La_law_1054 (lv_at hl 1 rfl) ?_
  refine lv_if_ne hx hb d_La_law_1056 rfl (fun h3 => ?_) (fun h3 => ?_)
  · -- ifne at 1056: to 1078
    refine lv_goto hx hb d_La_law_1078 rfl ?_
    have hl : lv_has ls 8 [(4, .int i), (0, .ref b), (1, .ref d), (2, .ref (r 20)), (3, .ref ou)] := lv_sub hl [2, 3, 4, 5, 6] rfl
    refine W.widen (k := cells + 6) (n := slots + 60) (by omega) (by omega) ?_
    exact kk ls H locs hl ⟨_, gn, Gn, _, S1, fn, k_memory hw x1, hR, hM1, hJ0, hJ, hP, hA, hS⟩
  · -- ifne at 1056: to 1059
    have hs0 : (s_memory a x1).1 = 0 := l_z (e_kv1.symm.trans h3) hle
    have hcv := (hal hs0).1 _ (hx9 hs0)
    have hou : g9 ou = some (.inl (cL, 1, .inr (.inl fn))) := (hJ.1 _ _).mpr (Or.inl hJ0.out)
    refine lv_aload_n hx hb d_La_law_1059 rfl (lv_at hl 6 rfl) ?_
    refine lv_iconst (v := 0) hx hb d_La_law_1060 (by decide) ?_
    refine y_lald (f := fn) hx hb hK hP 4 hou rfl l_in0 d_La_law_1061 ?_
    refine lv_iload hx hb d_La_law_1062 (lv_at hl 0 rfl) ?_
    obtain ⟨X9, hX9⟩ := l_memory (a := a) x1 hs0
    have hb9 : c_bit X9 = x9 := Value.int.inj (Option.some.inj (hX9.symm.trans (hx9 hs0)))
    refine lv_if_eq hx hb d_La_law_1064 rfl (fun h4 => ?_) (fun h4 => ?_)
    · -- ifeq at 1064: to 1071
      refine lv_lconst (v := 0) hx hb d_La_law_1071 (by decide) ?_
      refine W.lcmp hx hb d_La_law_1072 ?_
      refine lv_if_eq hx hb d_La_law_1073 rfl (fun h5 => ?_) (fun h5 => (absurd ((lg_cmp_eq _ _).mpr (hcv.trans ((congrArg Int32.toInt64 h4).trans l_t0))) h5))
      refine lv_goto hx hb d_La_law_1078 rfl ?_
      have hl : lv_has ls 8 [(4, .int i), (0, .ref b), (1, .ref d), (2, .ref (r 20)), (3, .ref ou)] := lv_sub hl [2, 3, 4, 5, 6] rfl
      refine W.widen (k := cells + 6) (n := slots + 60) (by omega) (by omega) ?_
      exact kk ls H locs hl ⟨_, gn, Gn, _, S1, fn, k_memory hw x1, hR, hM1, hJ0, hJ, hP, hA, hS⟩
    · -- ifeq at 1064: to 1067
      refine lv_lconst (v := 1) hx hb d_La_law_1067 (by decide) ?_
      refine lv_goto hx hb d_La_law_1068 rfl ?_
      refine W.lcmp hx hb d_La_law_1072 ?_
      refine lv_if_eq hx hb d_La_law_1073 rfl (fun h6 => ?_) (fun h6 => (absurd ((lg_cmp_eq _ _).mpr (hcv.trans (l_b2 hb9 h4).symm)) h6))
      refine lv_goto hx hb d_La_law_1078 rfl ?_
      have hl : lv_has ls 8 [(4, .int i), (0, .ref b), (1, .ref d), (2, .ref (r 20)), (3, .ref ou)] := lv_sub hl [2, 3, 4, 5, 6] rfl
      refine W.widen (k := cells + 6) (n := slots + 60) (by omega) (by omega) ?_
      exact kk ls H locs hl ⟨_, gn, Gn, _, S1, fn, k_memory hw x1, hR, hM1, hJ0, hJ, hP, hA, hS⟩
set_option maxHeartbeats 4000000 in
set_option maxRecDepth 100000 in
/-- case 14: every -/
theorem la_every (l : Launch) (hst : l.stackTraces = false) {p : Program} {e : Env} {s : State} {m : MethodId} {below : List Frame} {meth : Method} {c : Code} {H : Heap} {locs : List Loc} {cells slots : Nat} {Q : State → Prop} {b L : Nat} {xs : Nat → Int32} {A : Nat → Prop} {D : va_G} (cK cI cN cZ cL : ClassId) {d ou : Nat} {r : Nat → Nat} (hri : m_inj r) (hC : la_C p s m c b L xs D cK cI cN cZ cL A) {ls : Array Slot} {k : Nat} {i x1 x2 x3 x4 : Int32} (hk : k < 512) (hI : la_I cK cI cN cZ cL D A s d ou r k H locs) (hl : lv_has ls 8 [(4, .int i), (0, .ref b), (1, .ref d), (2, .ref (r 20)), (3, .ref ou)]) (hi : la_x xs L i x1 x2 x3 x4) (hcc : cells + 6 ≤ room_1.cells) (hss : slots + 60 ≤ room_1.slots)
    (kk : ∀ (ls : Array Slot) (H : Heap) (locs : List Loc), lv_has ls 8 [(4, .int i), (0, .ref b), (1, .ref d), (2, .ref (r 20)), (3, .ref ou)] → la_I cK cI cN cZ cL D A s d ou r (k + 1) H locs → W p l e room_1 s m #[Value.ref b] below meth c H locs (cells + 6) (slots + 60) Q (F0 m 1130 ls [])) : W p l e room_1 s m #[Value.ref b] below meth c H locs cells slots Q (F0 m 1081 ls []) := by
  obtain ⟨hx, hb, hml, hown, hE, hA0, hX, hbl, hbA⟩ := hC
  have hts := hE.hts #[Value.ref b]
  have hK := hE.1.2.1
  obtain ⟨a, g, G0, g9, S, f, hw, hR, hM, hJ0, hJ, hP, hA, hS⟩ := hI
  obtain ⟨⟨i1, e1⟩, ⟨i2, e2⟩, ⟨i3, e3⟩, i4, e4⟩ := hi
  refine lv_aload_n hx hb d_La_law_1081 rfl (lv_at hl 2 rfl) ?_
  refine lv_aload_n hx hb d_La_law_1082 rfl (lv_at hl 1 rfl) ?_
  refine lv_iload hx hb d_La_law_1083 (lv_at hl 0 rfl) ?_
  refine lv_iconst (v := 1) hx hb d_La_law_1085 (by decide) ?_
  refine lv_iadd hx hb d_La_law_1086 ?_
  refine la_sld hx hb hX hbl hbA hS i1 e1 d_La_law_1087 ?_
  refine w_callS (As := [.ref d, .int x1]) ⟨hx, hb, hml, hown, hts⟩ (x_join hJ (c_La_every l hst D cK cI cN cZ cL g G0 ou f _ a k d x1 hw (by omega) hR hJ0)) (x_cbH (own := R_La) (index := 132) 2 hts (by decide +kernel) (by decide +kernel) (by decide +kernel) rfl rfl (by decide +kernel) ⟨by decide, by decide⟩) (hts (.static y_La_every) (by decide +kernel)) hE hP hA hA0 hS rfl hl.1 rfl (lv_room (Nat.le_of_ble_eq_true rfl)) d_La_law_1088 (by omega) (by omega) (fun v9 g9 H locs hq9 hP hA hS => ?_) (fun E9 q9 ce9 g9 H locs hq9 hP hA hS z1 z2 z3 => ?_)
  rotate_left
  · obtain ⟨_, ⟨hz, -⟩, -⟩ := hq9
    cases hz
  obtain ⟨Gn, ⟨hv9, hle, gn, fn, hJ0, hR, hal⟩, hJ⟩ := hq9
  cases hv9
  refine W.eq (g2 := F0 m 1091 ls [.int (nI (s_every a x1).1)]) rfl ?_
  refine lv_topi (fun kv1 e_kv1 => ?_)
  refine lv_istore hx hb d_La_law_1091 hl (by decide) rfl (fun ls hl => ?_)
  have hl : lv_has ls 8 [(5, .int kv1), (4, .int i), (0, .ref b), (1, .ref d), (2, .ref (r 20)), (3, .ref ou)] := hl
  refine lv_aload_n hx hb d_La_law_1093 rfl (lv_at hl 4 rfl) ?_
  refine lv_aload_n hx hb d_La_law_1094 rfl (lv_at hl 2 rfl) ?_
  refine lv_iload hx hb d_La_law_1095 (lv_at hl 1 rfl) ?_
  refine lv_iconst (v := 1) hx hb d_La_law_1097 (by decide) ?_
  refine lv_iadd hx hb d_La_law_1098 ?_
  refine la_sld hx hb hX hbl hbA hS i1 e1 d_La_law_1099 ?_
  have hm : g9 (r 20) = some (m_F r cN cZ cL S 20) := (hJ.1 _ _).mpr (Or.inr (m_at hri (by decide)))
  refine w_callV (As := [.int x1]) (C := R_Mo) ⟨hx, hb, hml, hown, hts⟩ (x_join hJ.sym (c_Mo_every l D cK cI cN cZ cL r hri S _ a k x1 hw (by omega) hM)) (x_cb (cwV (own := R_La) (index := 135) (C := R_Mo) 1 hts (x_gi (by decide +kernel)) rfl rfl rfl (by decide +kernel) ⟨by decide, by decide⟩).1) (hts (.instanceMethod y_Mo_every) (by decide +kernel)) (hts (.selects R_Mo y_Mo_every y_Mo_every) (by decide +kernel)) (y_recv (ci := 5) (q := (R_Mo, F_Mo, 20)) hK hP rfl hm) hE hP hA hA0 hS rfl hl.1 rfl (lv_room (Nat.le_of_ble_eq_true rfl)) d_La_law_1100 (by omega) (by omega) (fun v9 g9 H locs hq9 hP hA hS => ?_) (fun E9 q9 ce9 g9 H locs hq9 hP hA hS z1 z2 z3 => ?_)
  rotate_left
  · obtain ⟨_, ⟨hz, -⟩, -⟩ := hq9
    cases hz
  obtain ⟨gm, ⟨hv9, S1, hgm, herr, hM1⟩, hJs⟩ := hq9
  cases hv9
  subst hgm
  have hJ := hJs.sym
  refine W.eq (g2 := F0 m 1103 ls []) rfl ?_
  refine lv_aload_n hx hb d_La_law_1103 rfl (lv_at hl 4 rfl) ?_
  have hm : g9 (r 20) = some (m_F r cN cZ cL S1 20) := (hJ.1 _ _).mpr (Or.inr (m_at hri (by decide)))
  refine w_callV (As := []) (C := R_Mo) ⟨hx, hb, hml, hown, hts⟩ (x_join hJ.sym (c_Mo_thrown l D cK cI cN cZ cL r hri S1 _)) (x_cb (cwV (own := R_La) (index := 82) (C := R_Mo) 0 hts (x_gi (by decide +kernel)) rfl rfl rfl (by decide +kernel) ⟨by decide, by decide⟩).1) (hts (.instanceMethod y_Mo_thrown) (by decide +kernel)) (hts (.selects R_Mo y_Mo_thrown y_Mo_thrown) (by decide +kernel)) (y_recv (ci := 5) (q := (R_Mo, F_Mo, 20)) hK hP rfl hm) hE hP hA hA0 hS rfl hl.1 rfl (lv_room (Nat.le_of_ble_eq_true rfl)) d_La_law_1104 (by omega) (by omega) (fun v9 g9 H locs hq9 hP hA hS => ?_) (fun E9 q9 ce9 g9 H locs hq9 hP hA hS z1 z2 z3 => ?_)
  rotate_left
  · obtain ⟨_, ⟨hz, -⟩, -⟩ := hq9
    cases hz
  obtain ⟨gm, ⟨hv9, hgm⟩, hJs⟩ := hq9
  cases hv9
  subst hgm
  have hJ := hJs.sym
  refine W.eq (g2 := F0 m 1107 ls [.int (S1.2.2 10)]) rfl ?_
  refine lv_iload hx hb d_La_law_1107 (lv_at hl 0 rfl) ?_
  refine lv_icmp_eq hx hb d_La_law_1109 rfl (fun h2 => ?_) (fun h2 => (absurd (herr.trans e_kv1.symm) h2))
  refine lv_goto hx hb d_La_law_1114 rfl ?_
  have hl : lv_has ls 8 [(4, .int i), (0, .ref b), (1, .ref d), (2, .ref (r 20)), (3, .ref ou)] := lv_sub hl [1, 2, 3, 4, 5] rfl
  refine W.widen (k := cells + 6) (n := slots + 60) (by omega) (by omega) ?_
  exact kk ls H locs hl ⟨_, gn, Gn, _, S1, fn, k_every hw x1, hR, hM1, hJ0, hJ, hP, hA, hS⟩
set_option maxHeartbeats 4000000 in
set_option maxRecDepth 100000 in
/-- case 15: collect -/
theorem la_collect (l : Launch) (hst : l.stackTraces = false) {p : Program} {e : Env} {s : State} {m : MethodId} {below : List Frame} {meth : Method} {c : Code} {H : Heap} {locs : List Loc} {cells slots : Nat} {Q : State → Prop} {b L : Nat} {xs : Nat → Int32} {A : Nat → Prop} {D : va_G} (cK cI cN cZ cL : ClassId) {d ou : Nat} {r : Nat → Nat} (hri : m_inj r) (hC : la_C p s m c b L xs D cK cI cN cZ cL A) {ls : Array Slot} {k : Nat} {i x1 x2 x3 x4 : Int32} (hk : k < 512) (hI : la_I cK cI cN cZ cL D A s d ou r k H locs) (hl : lv_has ls 8 [(4, .int i), (0, .ref b), (1, .ref d), (2, .ref (r 20)), (3, .ref ou)]) (hi : la_x xs L i x1 x2 x3 x4) (hcc : cells + 6 ≤ room_1.cells) (hss : slots + 60 ≤ room_1.slots)
    (kk : ∀ (ls : Array Slot) (H : Heap) (locs : List Loc), lv_has ls 8 [(4, .int i), (0, .ref b), (1, .ref d), (2, .ref (r 20)), (3, .ref ou)] → la_I cK cI cN cZ cL D A s d ou r (k + 1) H locs → W p l e room_1 s m #[Value.ref b] below meth c H locs (cells + 6) (slots + 60) Q (F0 m 1130 ls [])) : W p l e room_1 s m #[Value.ref b] below meth c H locs cells slots Q (F0 m 1117 ls []) := by
  obtain ⟨hx, hb, hml, hown, hE, hA0, hX, hbl, hbA⟩ := hC
  have hts := hE.hts #[Value.ref b]
  have hK := hE.1.2.1
  obtain ⟨a, g, G0, g9, S, f, hw, hR, hM, hJ0, hJ, hP, hA, hS⟩ := hI
  obtain ⟨⟨i1, e1⟩, ⟨i2, e2⟩, ⟨i3, e3⟩, i4, e4⟩ := hi
  have hu : a_use a ≤ 65536 := Nat.le_trans hR.use hw.2.2.2.2.2.2.2.2.1
  obtain ⟨fs0, hd0⟩ := hR.obj
  have hd : g9 d = some (.inr (4, fs0)) := (hJ.1 _ _).mpr (Or.inl ((hJ0.1 _ _).mpr (Or.inl hd0)))
  refine lv_aload_n hx hb d_La_law_1117 rfl (lv_at hl 2 rfl) ?_
  refine w_callV (As := []) (C := R_De) ⟨hx, hb, hml, hown, hts⟩ (x_join hJ (x_join hJ0 (c_De_collect l hst D cK cI cN cZ cL g _ a k d hw (by omega) hR))) (x_cb (cwV (own := R_La) (index := 136) (C := R_De) 0 hts (x_gi (by decide +kernel)) rfl rfl rfl (by decide +kernel) ⟨by decide, by decide⟩).1) (hts (.instanceMethod y_De_collect) (by decide +kernel)) (hts (.selects R_De y_De_collect y_De_collect) (by decide +kernel)) (y_recv (ci := 4) (q := (R_De, F_De, 11)) hK hP rfl hd) hE hP hA hA0 hS rfl hl.1 rfl (lv_room (Nat.le_of_ble_eq_true rfl)) d_La_law_1118 (by omega) (by omega) (fun v9 g9 H locs hq9 hP hA hS => ?_) (fun E9 q9 ce9 g9 H locs hq9 hP hA hS z1 z2 z3 => ?_)
  rotate_left
  · obtain ⟨_, ⟨_, ⟨ho, -⟩, -⟩, -⟩ := hq9
    obtain ⟨i9, -, hz⟩ := ho.thr
    simp at hz
  obtain ⟨Gn, ⟨gn, ⟨ho, hR⟩, hJ0⟩, hJ⟩ := hq9
  have hv9 : v9 = some (.int (nI (a_use a))) := ho.ret.2
  subst hv9
  refine W.eq (g2 := F0 m 1121 ls [.int (nI (a_use a))]) rfl ?_
  have hJ0 : y_J gn (o_1 cL ou f) Gn := hJ0
  refine lv_aload_n hx hb d_La_law_1121 rfl (lv_at hl 3 rfl) ?_
  have hm : g9 (r 20) = some (m_F r cN cZ cL S 20) := (hJ.1 _ _).mpr (Or.inr (m_at hri (by decide)))
  refine w_callV (As := []) (C := R_Mo) ⟨hx, hb, hml, hown, hts⟩ (x_join hJ.sym (c_Mo_collect l D cK cI cN cZ cL r hri S _ a k hw (by omega) hM)) (x_cb (cwV (own := R_La) (index := 139) (C := R_Mo) 0 hts (x_gi (by decide +kernel)) rfl rfl rfl (by decide +kernel) ⟨by decide, by decide⟩).1) (hts (.instanceMethod y_Mo_collect) (by decide +kernel)) (hts (.selects R_Mo y_Mo_collect y_Mo_collect) (by decide +kernel)) (y_recv (ci := 5) (q := (R_Mo, F_Mo, 20)) hK hP rfl hm) hE hP hA hA0 hS rfl hl.1 rfl (lv_room (Nat.le_of_ble_eq_true rfl)) d_La_law_1122 (by omega) (by omega) (fun v9 g9 H locs hq9 hP hA hS => ?_) (fun E9 q9 ce9 g9 H locs hq9 hP hA hS z1 z2 z3 => ?_)
  rotate_left
  · obtain ⟨_, ⟨⟨_, hz, -⟩, -⟩, -⟩ := hq9
    cases hz
  obtain ⟨gm, ⟨⟨x9, hv9, hx9⟩, S1, hgm, herr, hM1⟩, hJs⟩ := hq9
  cases hv9
  subst hgm
  have hJ := hJs.sym
  refine W.eq (g2 := F0 m 1125 ls [.int x9, .int (nI (a_use a))]) rfl ?_
  refine lv_icmp_eq hx hb d_La_law_1125 rfl (fun h1 => ?_) (fun h1 => (absurd (Value.int.inj (Option.some.inj (hx9 rfl))) h1))
  have hl : lv_has ls 8 [(4, .int i), (0, .ref b), (1, .ref d), (2, .ref (r 20)), (3, .ref ou)] := lv_sub hl [0, 1, 2, 3, 4] rfl
  refine W.widen (k := cells + 6) (n := slots + 60) (by omega) (by omega) ?_
  exact kk ls H locs hl ⟨a, gn, Gn, _, S1, f, hw.up (Nat.le_succ _), hR, hM1, hJ0, hJ, hP, hA, hS⟩
end LCa47
