/-! the law's cases -/
section LCa45
set_option maxHeartbeats 4000000 in
set_option maxRecDepth 100000 in
/-- case 0: plain -/
theorem la_plain (l : Launch) (hst : l.stackTraces = false) {p : Program} {e : Env} {s : State} {m : MethodId} {below : List Frame} {meth : Method} {c : Code} {H : Heap} {locs : List Loc} {cells slots : Nat} {Q : State → Prop} {b L : Nat} {xs : Nat → Int32} {A : Nat → Prop} {D : va_G} (cK cI cN cZ cL : ClassId) {d ou : Nat} {r : Nat → Nat} (hri : m_inj r) (hC : la_C p s m c b L xs D cK cI cN cZ cL A) {ls : Array Slot} {k : Nat} {i x1 x2 x3 x4 : Int32} (hk : k < 512) (hI : la_I cK cI cN cZ cL D A s d ou r k H locs) (hl : lv_has ls 8 [(4, .int i), (0, .ref b), (1, .ref d), (2, .ref (r 20)), (3, .ref ou)]) (hi : la_x xs L i x1 x2 x3 x4) (hcc : cells + 6 ≤ room_1.cells) (hss : slots + 60 ≤ room_1.slots)
    (kk : ∀ (ls : Array Slot) (H : Heap) (locs : List Loc), lv_has ls 8 [(4, .int i), (0, .ref b), (1, .ref d), (2, .ref (r 20)), (3, .ref ou)] → la_I cK cI cN cZ cL D A s d ou r (k + 1) H locs → W p l e room_1 s m #[Value.ref b] below meth c H locs (cells + 6) (slots + 60) Q (F0 m 1130 ls [])) : W p l e room_1 s m #[Value.ref b] below meth c H locs cells slots Q (F0 m 116 ls []) := by
  obtain ⟨hx, hb, hml, hown, hE, hA0, hX, hbl, hbA⟩ := hC
  have hts := hE.hts #[Value.ref b]
  have hK := hE.1.2.1
  obtain ⟨a, g, G0, g9, S, f, hw, hR, hM, hJ0, hJ, hP, hA, hS⟩ := hI
  obtain ⟨⟨i1, e1⟩, ⟨i2, e2⟩, ⟨i3, e3⟩, i4, e4⟩ := hi
  refine lv_aload_n hx hb d_La_law_116 rfl (lv_at hl 2 rfl) ?_
  refine lv_aload_n hx hb d_La_law_117 rfl (lv_at hl 1 rfl) ?_
  refine lv_iload hx hb d_La_law_118 (lv_at hl 0 rfl) ?_
  refine lv_iconst (v := 1) hx hb d_La_law_120 (by decide) ?_
  refine lv_iadd hx hb d_La_law_121 ?_
  refine la_sld hx hb hX hbl hbA hS i1 e1 d_La_law_122 ?_
  refine lv_aload_n hx hb d_La_law_123 rfl (lv_at hl 1 rfl) ?_
  refine lv_iload hx hb d_La_law_124 (lv_at hl 0 rfl) ?_
  refine lv_iconst (v := 2) hx hb d_La_law_126 (by decide) ?_
  refine lv_iadd hx hb d_La_law_127 ?_
  refine la_sld hx hb hX hbl hbA hS i2 e2 d_La_law_128 ?_
  refine lv_aload_n hx hb d_La_law_129 rfl (lv_at hl 1 rfl) ?_
  refine lv_iload hx hb d_La_law_130 (lv_at hl 0 rfl) ?_
  refine lv_iconst (v := 3) hx hb d_La_law_132 (by decide) ?_
  refine lv_iadd hx hb d_La_law_133 ?_
  refine la_sld hx hb hX hbl hbA hS i3 e3 d_La_law_134 ?_
  refine w_callS (As := [.ref d, .int x1, .int x2, .int x3]) ⟨hx, hb, hml, hown, hts⟩ (x_join hJ (c_La_plain l hst D cK cI cN cZ cL g G0 ou f _ a k d x1 x2 x3 hw (by omega) hR hJ0)) (x_cbH (own := R_La) (index := 76) 4 hts (by decide +kernel) (by decide +kernel) (by decide +kernel) rfl rfl (by decide +kernel) ⟨by decide, by decide⟩) (hts (.static y_La_plain) (by decide +kernel)) hE hP hA hA0 hS rfl hl.1 rfl (lv_room (Nat.le_of_ble_eq_true rfl)) d_La_law_135 (by omega) (by omega) (fun v9 g9 H locs hq9 hP hA hS => ?_) (fun E9 q9 ce9 g9 H locs hq9 hP hA hS z1 z2 z3 => ?_)
  rotate_left
  · obtain ⟨_, ⟨hz, -⟩, -⟩ := hq9
    cases hz
  obtain ⟨Gn, ⟨hv9, hle, gn, fn, hJ0, hR, hal⟩, hJ⟩ := hq9
  cases hv9
  refine W.eq (g2 := F0 m 138 ls [.int (nI (s_plain a x1 x2 x3).1)]) rfl ?_
  refine lv_topi (fun kv1 e_kv1 => ?_)
  refine lv_istore hx hb d_La_law_138 hl (by decide) rfl (fun ls hl => ?_)
  have hl : lv_has ls 8 [(5, .int kv1), (4, .int i), (0, .ref b), (1, .ref d), (2, .ref (r 20)), (3, .ref ou)] := hl
  refine lv_aload_n hx hb d_La_law_140 rfl (lv_at hl 4 rfl) ?_
  refine lv_aload_n hx hb d_La_law_141 rfl (lv_at hl 2 rfl) ?_
  refine lv_iload hx hb d_La_law_142 (lv_at hl 1 rfl) ?_
  refine lv_iconst (v := 1) hx hb d_La_law_144 (by decide) ?_
  refine lv_iadd hx hb d_La_law_145 ?_
  refine la_sld hx hb hX hbl hbA hS i1 e1 d_La_law_146 ?_
  refine lv_aload_n hx hb d_La_law_147 rfl (lv_at hl 2 rfl) ?_
  refine lv_iload hx hb d_La_law_148 (lv_at hl 1 rfl) ?_
  refine lv_iconst (v := 2) hx hb d_La_law_150 (by decide) ?_
  refine lv_iadd hx hb d_La_law_151 ?_
  refine la_sld hx hb hX hbl hbA hS i2 e2 d_La_law_152 ?_
  refine lv_aload_n hx hb d_La_law_153 rfl (lv_at hl 2 rfl) ?_
  refine lv_iload hx hb d_La_law_154 (lv_at hl 1 rfl) ?_
  refine lv_iconst (v := 3) hx hb d_La_law_156 (by decide) ?_
  refine lv_iadd hx hb d_La_law_157 ?_
  refine la_sld hx hb hX hbl hbA hS i3 e3 d_La_law_158 ?_
  have hm : g9 (r 20) = some (m_F r cN cZ cL S 20) := (hJ.1 _ _).mpr (Or.inr (m_at hri (by decide)))
  refine w_callV (As := [.int x1, .int x2, .int x3]) (C := R_Mo) ⟨hx, hb, hml, hown, hts⟩ (x_join hJ.sym (c_Mo_plain l D cK cI cN cZ cL r hri S _ a k x1 x2 x3 hw (by omega) hM)) (x_cb (cwV (own := R_La) (index := 81) (C := R_Mo) 3 hts (x_gi (by decide +kernel)) rfl rfl rfl (by decide +kernel) ⟨by decide, by decide⟩).1) (hts (.instanceMethod y_Mo_plain) (by decide +kernel)) (hts (.selects R_Mo y_Mo_plain y_Mo_plain) (by decide +kernel)) (y_recv (ci := 5) (q := (R_Mo, F_Mo, 20)) hK hP rfl hm) hE hP hA hA0 hS rfl hl.1 rfl (lv_room (Nat.le_of_ble_eq_true rfl)) d_La_law_159 (by omega) (by omega) (fun v9 g9 H locs hq9 hP hA hS => ?_) (fun E9 q9 ce9 g9 H locs hq9 hP hA hS z1 z2 z3 => ?_)
  rotate_left
  · obtain ⟨_, ⟨hz, -⟩, -⟩ := hq9
    cases hz
  obtain ⟨gm, ⟨hv9, S1, hgm, herr, hM1⟩, hJs⟩ := hq9
  cases hv9
  subst hgm
  have hJ := hJs.sym
  refine W.eq (g2 := F0 m 162 ls []) rfl ?_
  refine lv_aload_n hx hb d_La_law_162 rfl (lv_at hl 4 rfl) ?_
  have hm : g9 (r 20) = some (m_F r cN cZ cL S1 20) := (hJ.1 _ _).mpr (Or.inr (m_at hri (by decide)))
  refine w_callV (As := []) (C := R_Mo) ⟨hx, hb, hml, hown, hts⟩ (x_join hJ.sym (c_Mo_thrown l D cK cI cN cZ cL r hri S1 _)) (x_cb (cwV (own := R_La) (index := 82) (C := R_Mo) 0 hts (x_gi (by decide +kernel)) rfl rfl rfl (by decide +kernel) ⟨by decide, by decide⟩).1) (hts (.instanceMethod y_Mo_thrown) (by decide +kernel)) (hts (.selects R_Mo y_Mo_thrown y_Mo_thrown) (by decide +kernel)) (y_recv (ci := 5) (q := (R_Mo, F_Mo, 20)) hK hP rfl hm) hE hP hA hA0 hS rfl hl.1 rfl (lv_room (Nat.le_of_ble_eq_true rfl)) d_La_law_163 (by omega) (by omega) (fun v9 g9 H locs hq9 hP hA hS => ?_) (fun E9 q9 ce9 g9 H locs hq9 hP hA hS z1 z2 z3 => ?_)
  rotate_left
  · obtain ⟨_, ⟨hz, -⟩, -⟩ := hq9
    cases hz
  obtain ⟨gm, ⟨hv9, hgm⟩, hJs⟩ := hq9
  cases hv9
  subst hgm
  have hJ := hJs.sym
  refine W.eq (g2 := F0 m 166 ls [.int (S1.2.2 10)]) rfl ?_
  refine lv_iload hx hb d_La_law_166 (lv_at hl 0 rfl) ?_
  refine lv_icmp_eq hx hb d_La_law_168 rfl (fun h2 => ?_) (fun h2 => (absurd (herr.trans e_kv1.symm) h2))
  refine lv_goto hx hb d_La_law_173 rfl ?_
  have hl : lv_has ls 8 [(4, .int i), (0, .ref b), (1, .ref d), (2, .ref (r 20)), (3, .ref ou)] := lv_sub hl [1, 2, 3, 4, 5] rfl
  refine W.widen (k := cells + 6) (n := slots + 60) (by omega) (by omega) ?_
  exact kk ls H locs hl ⟨_, gn, Gn, _, S1, fn, k_plain hw x1 x2 x3, hR, hM1, hJ0, hJ, hP, hA, hS⟩
set_option maxHeartbeats 4000000 in
set_option maxRecDepth 100000 in
/-- case 1: row -/
theorem la_row (l : Launch) (hst : l.stackTraces = false) {p : Program} {e : Env} {s : State} {m : MethodId} {below : List Frame} {meth : Method} {c : Code} {H : Heap} {locs : List Loc} {cells slots : Nat} {Q : State → Prop} {b L : Nat} {xs : Nat → Int32} {A : Nat → Prop} {D : va_G} (cK cI cN cZ cL : ClassId) {d ou : Nat} {r : Nat → Nat} (hri : m_inj r) (hC : la_C p s m c b L xs D cK cI cN cZ cL A) {ls : Array Slot} {k : Nat} {i x1 x2 x3 x4 : Int32} (hk : k < 512) (hI : la_I cK cI cN cZ cL D A s d ou r k H locs) (hl : lv_has ls 8 [(4, .int i), (0, .ref b), (1, .ref d), (2, .ref (r 20)), (3, .ref ou)]) (hi : la_x xs L i x1 x2 x3 x4) (hcc : cells + 6 ≤ room_1.cells) (hss : slots + 60 ≤ room_1.slots)
    (kk : ∀ (ls : Array Slot) (H : Heap) (locs : List Loc), lv_has ls 8 [(4, .int i), (0, .ref b), (1, .ref d), (2, .ref (r 20)), (3, .ref ou)] → la_I cK cI cN cZ cL D A s d ou r (k + 1) H locs → W p l e room_1 s m #[Value.ref b] below meth c H locs (cells + 6) (slots + 60) Q (F0 m 1130 ls [])) : W p l e room_1 s m #[Value.ref b] below meth c H locs cells slots Q (F0 m 176 ls []) := by
  obtain ⟨hx, hb, hml, hown, hE, hA0, hX, hbl, hbA⟩ := hC
  have hts := hE.hts #[Value.ref b]
  have hK := hE.1.2.1
  obtain ⟨a, g, G0, g9, S, f, hw, hR, hM, hJ0, hJ, hP, hA, hS⟩ := hI
  obtain ⟨⟨i1, e1⟩, ⟨i2, e2⟩, ⟨i3, e3⟩, i4, e4⟩ := hi
  refine lv_aload_n hx hb d_La_law_176 rfl (lv_at hl 2 rfl) ?_
  refine lv_aload_n hx hb d_La_law_177 rfl (lv_at hl 1 rfl) ?_
  refine lv_iload hx hb d_La_law_178 (lv_at hl 0 rfl) ?_
  refine lv_iconst (v := 1) hx hb d_La_law_180 (by decide) ?_
  refine lv_iadd hx hb d_La_law_181 ?_
  refine la_sld hx hb hX hbl hbA hS i1 e1 d_La_law_182 ?_
  refine lv_aload_n hx hb d_La_law_183 rfl (lv_at hl 1 rfl) ?_
  refine lv_iload hx hb d_La_law_184 (lv_at hl 0 rfl) ?_
  refine lv_iconst (v := 2) hx hb d_La_law_186 (by decide) ?_
  refine lv_iadd hx hb d_La_law_187 ?_
  refine la_sld hx hb hX hbl hbA hS i2 e2 d_La_law_188 ?_
  refine w_callS (As := [.ref d, .int x1, .int x2]) ⟨hx, hb, hml, hown, hts⟩ (x_join hJ (c_La_row l hst D cK cI cN cZ cL g G0 ou f _ a k d x1 x2 hw (by omega) hR hJ0)) (x_cbH (own := R_La) (index := 86) 3 hts (by decide +kernel) (by decide +kernel) (by decide +kernel) rfl rfl (by decide +kernel) ⟨by decide, by decide⟩) (hts (.static y_La_row) (by decide +kernel)) hE hP hA hA0 hS rfl hl.1 rfl (lv_room (Nat.le_of_ble_eq_true rfl)) d_La_law_189 (by omega) (by omega) (fun v9 g9 H locs hq9 hP hA hS => ?_) (fun E9 q9 ce9 g9 H locs hq9 hP hA hS z1 z2 z3 => ?_)
  rotate_left
  · obtain ⟨_, ⟨hz, -⟩, -⟩ := hq9
    cases hz
  obtain ⟨Gn, ⟨hv9, hle, gn, fn, hJ0, hR, hal⟩, hJ⟩ := hq9
  cases hv9
  refine W.eq (g2 := F0 m 192 ls [.int (nI (s_row a x1 x2).1)]) rfl ?_
  refine lv_topi (fun kv1 e_kv1 => ?_)
  refine lv_istore hx hb d_La_law_192 hl (by decide) rfl (fun ls hl => ?_)
  have hl : lv_has ls 8 [(5, .int kv1), (4, .int i), (0, .ref b), (1, .ref d), (2, .ref (r 20)), (3, .ref ou)] := hl
  refine lv_aload_n hx hb d_La_law_194 rfl (lv_at hl 4 rfl) ?_
  refine lv_aload_n hx hb d_La_law_195 rfl (lv_at hl 2 rfl) ?_
  refine lv_iload hx hb d_La_law_196 (lv_at hl 1 rfl) ?_
  refine lv_iconst (v := 1) hx hb d_La_law_198 (by decide) ?_
  refine lv_iadd hx hb d_La_law_199 ?_
  refine la_sld hx hb hX hbl hbA hS i1 e1 d_La_law_200 ?_
  refine lv_aload_n hx hb d_La_law_201 rfl (lv_at hl 2 rfl) ?_
  refine lv_iload hx hb d_La_law_202 (lv_at hl 1 rfl) ?_
  refine lv_iconst (v := 2) hx hb d_La_law_204 (by decide) ?_
  refine lv_iadd hx hb d_La_law_205 ?_
  refine la_sld hx hb hX hbl hbA hS i2 e2 d_La_law_206 ?_
  have hm : g9 (r 20) = some (m_F r cN cZ cL S 20) := (hJ.1 _ _).mpr (Or.inr (m_at hri (by decide)))
  refine w_callV (As := [.int x1, .int x2]) (C := R_Mo) ⟨hx, hb, hml, hown, hts⟩ (x_join hJ.sym (c_Mo_row l D cK cI cN cZ cL r hri S _ a k x1 x2 hw (by omega) hM)) (x_cb (cwV (own := R_La) (index := 89) (C := R_Mo) 2 hts (x_gi (by decide +kernel)) rfl rfl rfl (by decide +kernel) ⟨by decide, by decide⟩).1) (hts (.instanceMethod y_Mo_row) (by decide +kernel)) (hts (.selects R_Mo y_Mo_row y_Mo_row) (by decide +kernel)) (y_recv (ci := 5) (q := (R_Mo, F_Mo, 20)) hK hP rfl hm) hE hP hA hA0 hS rfl hl.1 rfl (lv_room (Nat.le_of_ble_eq_true rfl)) d_La_law_207 (by omega) (by omega) (fun v9 g9 H locs hq9 hP hA hS => ?_) (fun E9 q9 ce9 g9 H locs hq9 hP hA hS z1 z2 z3 => ?_)
  rotate_left
  · obtain ⟨_, ⟨hz, -⟩, -⟩ := hq9
    cases hz
  obtain ⟨gm, ⟨hv9, S1, hgm, herr, hM1⟩, hJs⟩ := hq9
  cases hv9
  subst hgm
  have hJ := hJs.sym
  refine W.eq (g2 := F0 m 210 ls []) rfl ?_
  refine lv_aload_n hx hb d_La_law_210 rfl (lv_at hl 4 rfl) ?_
  have hm : g9 (r 20) = some (m_F r cN cZ cL S1 20) := (hJ.1 _ _).mpr (Or.inr (m_at hri (by decide)))
  refine w_callV (As := []) (C := R_Mo) ⟨hx, hb, hml, hown, hts⟩ (x_join hJ.sym (c_Mo_thrown l D cK cI cN cZ cL r hri S1 _)) (x_cb (cwV (own := R_La) (index := 82) (C := R_Mo) 0 hts (x_gi (by decide +kernel)) rfl rfl rfl (by decide +kernel) ⟨by decide, by decide⟩).1) (hts (.instanceMethod y_Mo_thrown) (by decide +kernel)) (hts (.selects R_Mo y_Mo_thrown y_Mo_thrown) (by decide +kernel)) (y_recv (ci := 5) (q := (R_Mo, F_Mo, 20)) hK hP rfl hm) hE hP hA hA0 hS rfl hl.1 rfl (lv_room (Nat.le_of_ble_eq_true rfl)) d_La_law_211 (by omega) (by omega) (fun v9 g9 H locs hq9 hP hA hS => ?_) (fun E9 q9 ce9 g9 H locs hq9 hP hA hS z1 z2 z3 => ?_)
  rotate_left
  · obtain ⟨_, ⟨hz, -⟩, -⟩ := hq9
    cases hz
  obtain ⟨gm, ⟨hv9, hgm⟩, hJs⟩ := hq9
  cases hv9
  subst hgm
  have hJ := hJs.sym
  refine W.eq (g2 := F0 m 214 ls [.int (S1.2.2 10)]) rfl ?_
  refine lv_iload hx hb d_La_law_214 (lv_at hl 0 rfl) ?_
  refine lv_icmp_eq hx hb d_La_law_216 rfl (fun h2 => ?_) (fun h2 => (absurd (herr.trans e_kv1.symm) h2))
  refine lv_goto hx hb d_La_law_221 rfl ?_
  have hl : lv_has ls 8 [(4, .int i), (0, .ref b), (1, .ref d), (2, .ref (r 20)), (3, .ref ou)] := lv_sub hl [1, 2, 3, 4, 5] rfl
  refine W.widen (k := cells + 6) (n := slots + 60) (by omega) (by omega) ?_
  exact kk ls H locs hl ⟨_, gn, Gn, _, S1, fn, k_row hw x1 x2, hR, hM1, hJ0, hJ, hP, hA, hS⟩
set_option maxHeartbeats 4000000 in
set_option maxRecDepth 100000 in
/-- case 2: make -/
theorem la_make (l : Launch) (hst : l.stackTraces = false) {p : Program} {e : Env} {s : State} {m : MethodId} {below : List Frame} {meth : Method} {c : Code} {H : Heap} {locs : List Loc} {cells slots : Nat} {Q : State → Prop} {b L : Nat} {xs : Nat → Int32} {A : Nat → Prop} {D : va_G} (cK cI cN cZ cL : ClassId) {d ou : Nat} {r : Nat → Nat} (hri : m_inj r) (hC : la_C p s m c b L xs D cK cI cN cZ cL A) {ls : Array Slot} {k : Nat} {i x1 x2 x3 x4 : Int32} (hk : k < 512) (hI : la_I cK cI cN cZ cL D A s d ou r k H locs) (hl : lv_has ls 8 [(4, .int i), (0, .ref b), (1, .ref d), (2, .ref (r 20)), (3, .ref ou)]) (hi : la_x xs L i x1 x2 x3 x4) (hcc : cells + 6 ≤ room_1.cells) (hss : slots + 60 ≤ room_1.slots)
    (kk : ∀ (ls : Array Slot) (H : Heap) (locs : List Loc), lv_has ls 8 [(4, .int i), (0, .ref b), (1, .ref d), (2, .ref (r 20)), (3, .ref ou)] → la_I cK cI cN cZ cL D A s d ou r (k + 1) H locs → W p l e room_1 s m #[Value.ref b] below meth c H locs (cells + 6) (slots + 60) Q (F0 m 1130 ls [])) : W p l e room_1 s m #[Value.ref b] below meth c H locs cells slots Q (F0 m 224 ls []) := by
  obtain ⟨hx, hb, hml, hown, hE, hA0, hX, hbl, hbA⟩ := hC
  have hts := hE.hts #[Value.ref b]
  have hK := hE.1.2.1
  obtain ⟨a, g, G0, g9, S, f, hw, hR, hM, hJ0, hJ, hP, hA, hS⟩ := hI
  obtain ⟨⟨i1, e1⟩, ⟨i2, e2⟩, ⟨i3, e3⟩, i4, e4⟩ := hi
  have hu : a_use a ≤ 65536 := Nat.le_trans hR.use hw.2.2.2.2.2.2.2.2.1
  refine lv_aload_n hx hb d_La_law_224 rfl (lv_at hl 2 rfl) ?_
  refine lv_aload_n hx hb d_La_law_225 rfl (lv_at hl 1 rfl) ?_
  refine lv_iload hx hb d_La_law_226 (lv_at hl 0 rfl) ?_
  refine lv_iconst (v := 1) hx hb d_La_law_228 (by decide) ?_
  refine lv_iadd hx hb d_La_law_229 ?_
  refine la_sld hx hb hX hbl hbA hS i1 e1 d_La_law_230 ?_
  refine lv_aload_n hx hb d_La_law_231 rfl (lv_at hl 1 rfl) ?_
  refine lv_iload hx hb d_La_law_232 (lv_at hl 0 rfl) ?_
  refine lv_iconst (v := 2) hx hb d_La_law_234 (by decide) ?_
  refine lv_iadd hx hb d_La_law_235 ?_
  refine la_sld hx hb hX hbl hbA hS i2 e2 d_La_law_236 ?_
  refine lv_aload_n hx hb d_La_law_237 rfl (lv_at hl 1 rfl) ?_
  refine lv_iload hx hb d_La_law_238 (lv_at hl 0 rfl) ?_
  refine lv_iconst (v := 3) hx hb d_La_law_240 (by decide) ?_
  refine lv_iadd hx hb d_La_law_241 ?_
  refine la_sld hx hb hX hbl hbA hS i3 e3 d_La_law_242 ?_
  refine lv_aload_n hx hb d_La_law_243 rfl (lv_at hl 4 rfl) ?_
  refine w_callS (As := [.ref d, .int x1, .int x2, .int x3, .ref ou]) ⟨hx, hb, hml, hown, hts⟩ (x_join hJ (c_La_make l hst D cK cI cN cZ cL g G0 ou f _ a k d x1 x2 x3 hw (by omega) hR hJ0)) (x_cbH (own := R_La) (index := 90) 5 hts (by decide +kernel) (by decide +kernel) (by decide +kernel) rfl rfl (by decide +kernel) ⟨by decide, by decide⟩) (hts (.static y_La_make) (by decide +kernel)) hE hP hA hA0 hS rfl hl.1 rfl (lv_room (Nat.le_of_ble_eq_true rfl)) d_La_law_244 (by omega) (by omega) (fun v9 g9 H locs hq9 hP hA hS => ?_) (fun E9 q9 ce9 g9 H locs hq9 hP hA hS z1 z2 z3 => ?_)
  rotate_left
  · obtain ⟨_, ⟨hz, -⟩, -⟩ := hq9
    cases hz
  obtain ⟨Gn, ⟨hv9, hle, gn, fn, hJ0, hR, hal⟩, hJ⟩ := hq9
  cases hv9
  refine W.eq (g2 := F0 m 247 ls [.int (nI (s_make a x1 x2 x3).1)]) rfl ?_
  refine lv_topi (fun kv1 e_kv1 => ?_)
  refine lv_istore hx hb d_La_law_247 hl (by decide) rfl (fun ls hl => ?_)
  have hl : lv_has ls 8 [(5, .int kv1), (4, .int i), (0, .ref b), (1, .ref d), (2, .ref (r 20)), (3, .ref ou)] := hl
  refine lv_aload_n hx hb d_La_law_249 rfl (lv_at hl 4 rfl) ?_
  refine lv_aload_n hx hb d_La_law_250 rfl (lv_at hl 2 rfl) ?_
  refine lv_iload hx hb d_La_law_251 (lv_at hl 1 rfl) ?_
  refine lv_iconst (v := 1) hx hb d_La_law_253 (by decide) ?_
  refine lv_iadd hx hb d_La_law_254 ?_
  refine la_sld hx hb hX hbl hbA hS i1 e1 d_La_law_255 ?_
  refine lv_aload_n hx hb d_La_law_256 rfl (lv_at hl 2 rfl) ?_
  refine lv_iload hx hb d_La_law_257 (lv_at hl 1 rfl) ?_
  refine lv_iconst (v := 2) hx hb d_La_law_259 (by decide) ?_
  refine lv_iadd hx hb d_La_law_260 ?_
  refine la_sld hx hb hX hbl hbA hS i2 e2 d_La_law_261 ?_
  refine lv_aload_n hx hb d_La_law_262 rfl (lv_at hl 2 rfl) ?_
  refine lv_iload hx hb d_La_law_263 (lv_at hl 1 rfl) ?_
  refine lv_iconst (v := 3) hx hb d_La_law_265 (by decide) ?_
  refine lv_iadd hx hb d_La_law_266 ?_
  refine la_sld hx hb hX hbl hbA hS i3 e3 d_La_law_267 ?_
  have hm : g9 (r 20) = some (m_F r cN cZ cL S 20) := (hJ.1 _ _).mpr (Or.inr (m_at hri (by decide)))
  refine w_callV (As := [.int x1, .int x2, .int x3]) (C := R_Mo) ⟨hx, hb, hml, hown, hts⟩ (x_join hJ.sym (c_Mo_make l D cK cI cN cZ cL r hri S _ a k x1 x2 x3 hw (by omega) hM hu)) (x_cb (cwV (own := R_La) (index := 93) (C := R_Mo) 3 hts (x_gi (by decide +kernel)) rfl rfl rfl (by decide +kernel) ⟨by decide, by decide⟩).1) (hts (.instanceMethod y_Mo_make) (by decide +kernel)) (hts (.selects R_Mo y_Mo_make y_Mo_make) (by decide +kernel)) (y_recv (ci := 5) (q := (R_Mo, F_Mo, 20)) hK hP rfl hm) hE hP hA hA0 hS rfl hl.1 rfl (lv_room (Nat.le_of_ble_eq_true rfl)) d_La_law_268 (by omega) (by omega) (fun v9 g9 H locs hq9 hP hA hS => ?_) (fun E9 q9 ce9 g9 H locs hq9 hP hA hS z1 z2 z3 => ?_)
  rotate_left
  · obtain ⟨_, ⟨⟨_, hz, -⟩, -⟩, -⟩ := hq9
    cases hz
  obtain ⟨gm, ⟨⟨x9, hv9, hx9⟩, S1, hgm, herr, hM1⟩, hJs⟩ := hq9
  cases hv9
  subst hgm
  have hJ := hJs.sym
  refine W.eq (g2 := F0 m 271 ls [.int x9]) rfl ?_
  refine lv_istore hx hb d_La_law_271 hl (by decide) rfl (fun ls hl => ?_)
  have hl : lv_has ls 8 [(6, .int x9), (5, .int kv1), (4, .int i), (0, .ref b), (1, .ref d), (2, .ref (r 20)), (3, .ref ou)] := hl
  refine lv_aload_n hx hb d_La_law_273 rfl (lv_at hl 5 rfl) ?_
  have hm : g9 (r 20) = some (m_F r cN cZ cL S1 20) := (hJ.1 _ _).mpr (Or.inr (m_at hri (by decide)))
  refine w_callV (As := []) (C := R_Mo) ⟨hx, hb, hml, hown, hts⟩ (x_join hJ.sym (c_Mo_thrown l D cK cI cN cZ cL r hri S1 _)) (x_cb (cwV (own := R_La) (index := 82) (C := R_Mo) 0 hts (x_gi (by decide +kernel)) rfl rfl rfl (by decide +kernel) ⟨by decide, by decide⟩).1) (hts (.instanceMethod y_Mo_thrown) (by decide +kernel)) (hts (.selects R_Mo y_Mo_thrown y_Mo_thrown) (by decide +kernel)) (y_recv (ci := 5) (q := (R_Mo, F_Mo, 20)) hK hP rfl hm) hE hP hA hA0 hS rfl hl.1 rfl (lv_room (Nat.le_of_ble_eq_true rfl)) d_La_law_274 (by omega) (by omega) (fun v9 g9 H locs hq9 hP hA hS => ?_) (fun E9 q9 ce9 g9 H locs hq9 hP hA hS z1 z2 z3 => ?_)
  rotate_left
  · obtain ⟨_, ⟨hz, -⟩, -⟩ := hq9
    cases hz
  obtain ⟨gm, ⟨hv9, hgm⟩, hJs⟩ := hq9
  cases hv9
  subst hgm
  have hJ := hJs.sym
  refine W.eq (g2 := F0 m 277 ls [.int (S1.2.2 10)]) rfl ?_
  refine lv_iload hx hb d_La_law_277 (lv_at hl 1 rfl) ?_
  refine lv_icmp_eq hx hb d_La_law_279 rfl (fun h2 => ?_) (fun h2 => (absurd (herr.trans e_kv1.symm) h2))
  refine lv_iload hx hb d_La_law_284 (lv_at hl 1 rfl) ?_
  refine lv_if_ne hx hb d_La_law_286 rfl (fun h3 => ?_) (fun h3 => ?_)
  · -- ifne at 286: to 301
    refine lv_goto hx hb d_La_law_301 rfl ?_
    have hl : lv_has ls 8 [(4, .int i), (0, .ref b), (1, .ref d), (2, .ref (r 20)), (3, .ref ou)] := lv_sub hl [2, 3, 4, 5, 6] rfl
    refine W.widen (k := cells + 6) (n := slots + 60) (by omega) (by omega) ?_
    exact kk ls H locs hl ⟨_, gn, Gn, _, S1, fn, k_make hw x1 x2 x3, hR, hM1, hJ0, hJ, hP, hA, hS⟩
  · -- ifne at 286: to 289
    have hs0 : (s_make a x1 x2 x3).1 = 0 := l_z (e_kv1.symm.trans h3) hle
    have hcv := (hal hs0).1 _ (hx9 hs0)
    have hou : g9 ou = some (.inl (cL, 1, .inr (.inl fn))) := (hJ.1 _ _).mpr (Or.inl hJ0.out)
    refine lv_aload_n hx hb d_La_law_289 rfl (lv_at hl 6 rfl) ?_
    refine lv_iconst (v := 0) hx hb d_La_law_290 (by decide) ?_
    refine y_lald (f := fn) hx hb hK hP 4 hou rfl l_in0 d_La_law_291 ?_
    refine lv_iload hx hb d_La_law_292 (lv_at hl 0 rfl) ?_
    refine lv_i2l hx hb d_La_law_294 rfl ?_
    refine W.lcmp hx hb d_La_law_295 ?_
    refine lv_if_eq hx hb d_La_law_296 rfl (fun h4 => ?_) (fun h4 => (absurd ((lg_cmp_eq _ _).mpr (hcv)) h4))
    refine lv_goto hx hb d_La_law_301 rfl ?_
    have hl : lv_has ls 8 [(4, .int i), (0, .ref b), (1, .ref d), (2, .ref (r 20)), (3, .ref ou)] := lv_sub hl [2, 3, 4, 5, 6] rfl
    refine W.widen (k := cells + 6) (n := slots + 60) (by omega) (by omega) ?_
    exact kk ls H locs hl ⟨_, gn, Gn, _, S1, fn, k_make hw x1 x2 x3, hR, hM1, hJ0, hJ, hP, hA, hS⟩
set_option maxHeartbeats 4000000 in
set_option maxRecDepth 100000 in
/-- case 3: copy -/
theorem la_copy (l : Launch) (hst : l.stackTraces = false) {p : Program} {e : Env} {s : State} {m : MethodId} {below : List Frame} {meth : Method} {c : Code} {H : Heap} {locs : List Loc} {cells slots : Nat} {Q : State → Prop} {b L : Nat} {xs : Nat → Int32} {A : Nat → Prop} {D : va_G} (cK cI cN cZ cL : ClassId) {d ou : Nat} {r : Nat → Nat} (hri : m_inj r) (hC : la_C p s m c b L xs D cK cI cN cZ cL A) {ls : Array Slot} {k : Nat} {i x1 x2 x3 x4 : Int32} (hk : k < 512) (hI : la_I cK cI cN cZ cL D A s d ou r k H locs) (hl : lv_has ls 8 [(4, .int i), (0, .ref b), (1, .ref d), (2, .ref (r 20)), (3, .ref ou)]) (hi : la_x xs L i x1 x2 x3 x4) (hcc : cells + 6 ≤ room_1.cells) (hss : slots + 60 ≤ room_1.slots)
    (kk : ∀ (ls : Array Slot) (H : Heap) (locs : List Loc), lv_has ls 8 [(4, .int i), (0, .ref b), (1, .ref d), (2, .ref (r 20)), (3, .ref ou)] → la_I cK cI cN cZ cL D A s d ou r (k + 1) H locs → W p l e room_1 s m #[Value.ref b] below meth c H locs (cells + 6) (slots + 60) Q (F0 m 1130 ls [])) : W p l e room_1 s m #[Value.ref b] below meth c H locs cells slots Q (F0 m 304 ls []) := by
  obtain ⟨hx, hb, hml, hown, hE, hA0, hX, hbl, hbA⟩ := hC
  have hts := hE.hts #[Value.ref b]
  have hK := hE.1.2.1
  obtain ⟨a, g, G0, g9, S, f, hw, hR, hM, hJ0, hJ, hP, hA, hS⟩ := hI
  obtain ⟨⟨i1, e1⟩, ⟨i2, e2⟩, ⟨i3, e3⟩, i4, e4⟩ := hi
  refine lv_aload_n hx hb d_La_law_304 rfl (lv_at hl 2 rfl) ?_
  refine lv_aload_n hx hb d_La_law_305 rfl (lv_at hl 1 rfl) ?_
  refine lv_iload hx hb d_La_law_306 (lv_at hl 0 rfl) ?_
  refine lv_iconst (v := 1) hx hb d_La_law_308 (by decide) ?_
  refine lv_iadd hx hb d_La_law_309 ?_
  refine la_sld hx hb hX hbl hbA hS i1 e1 d_La_law_310 ?_
  refine lv_aload_n hx hb d_La_law_311 rfl (lv_at hl 1 rfl) ?_
  refine lv_iload hx hb d_La_law_312 (lv_at hl 0 rfl) ?_
  refine lv_iconst (v := 2) hx hb d_La_law_314 (by decide) ?_
  refine lv_iadd hx hb d_La_law_315 ?_
  refine la_sld hx hb hX hbl hbA hS i2 e2 d_La_law_316 ?_
  refine lv_aload_n hx hb d_La_law_317 rfl (lv_at hl 4 rfl) ?_
  refine w_callS (As := [.ref d, .int x1, .int x2, .ref ou]) ⟨hx, hb, hml, hown, hts⟩ (x_join hJ (c_La_copy l hst D cK cI cN cZ cL g G0 ou f _ a k d x1 x2 hw (by omega) hR hJ0)) (x_cbH (own := R_La) (index := 94) 4 hts (by decide +kernel) (by decide +kernel) (by decide +kernel) rfl rfl (by decide +kernel) ⟨by decide, by decide⟩) (hts (.static y_La_copy) (by decide +kernel)) hE hP hA hA0 hS rfl hl.1 rfl (lv_room (Nat.le_of_ble_eq_true rfl)) d_La_law_318 (by omega) (by omega) (fun v9 g9 H locs hq9 hP hA hS => ?_) (fun E9 q9 ce9 g9 H locs hq9 hP hA hS z1 z2 z3 => ?_)
  rotate_left
  · obtain ⟨_, ⟨hz, -⟩, -⟩ := hq9
    cases hz
  obtain ⟨Gn, ⟨hv9, hle, gn, fn, hJ0, hR, hal⟩, hJ⟩ := hq9
  cases hv9
  refine W.eq (g2 := F0 m 321 ls [.int (nI (s_copy a x1 x2).1)]) rfl ?_
  refine lv_topi (fun kv1 e_kv1 => ?_)
  refine lv_istore hx hb d_La_law_321 hl (by decide) rfl (fun ls hl => ?_)
  have hl : lv_has ls 8 [(5, .int kv1), (4, .int i), (0, .ref b), (1, .ref d), (2, .ref (r 20)), (3, .ref ou)] := hl
  refine lv_aload_n hx hb d_La_law_323 rfl (lv_at hl 4 rfl) ?_
  refine lv_aload_n hx hb d_La_law_324 rfl (lv_at hl 2 rfl) ?_
  refine lv_iload hx hb d_La_law_325 (lv_at hl 1 rfl) ?_
  refine lv_iconst (v := 1) hx hb d_La_law_327 (by decide) ?_
  refine lv_iadd hx hb d_La_law_328 ?_
  refine la_sld hx hb hX hbl hbA hS i1 e1 d_La_law_329 ?_
  refine lv_aload_n hx hb d_La_law_330 rfl (lv_at hl 2 rfl) ?_
  refine lv_iload hx hb d_La_law_331 (lv_at hl 1 rfl) ?_
  refine lv_iconst (v := 2) hx hb d_La_law_333 (by decide) ?_
  refine lv_iadd hx hb d_La_law_334 ?_
  refine la_sld hx hb hX hbl hbA hS i2 e2 d_La_law_335 ?_
  have hm : g9 (r 20) = some (m_F r cN cZ cL S 20) := (hJ.1 _ _).mpr (Or.inr (m_at hri (by decide)))
  refine w_callV (As := [.int x1, .int x2]) (C := R_Mo) ⟨hx, hb, hml, hown, hts⟩ (x_join hJ.sym (c_Mo_copy l D cK cI cN cZ cL r hri S _ a k x1 x2 hw (by omega) hM)) (x_cb (cwV (own := R_La) (index := 97) (C := R_Mo) 2 hts (x_gi (by decide +kernel)) rfl rfl rfl (by decide +kernel) ⟨by decide, by decide⟩).1) (hts (.instanceMethod y_Mo_copy) (by decide +kernel)) (hts (.selects R_Mo y_Mo_copy y_Mo_copy) (by decide +kernel)) (y_recv (ci := 5) (q := (R_Mo, F_Mo, 20)) hK hP rfl hm) hE hP hA hA0 hS rfl hl.1 rfl (lv_room (Nat.le_of_ble_eq_true rfl)) d_La_law_336 (by omega) (by omega) (fun v9 g9 H locs hq9 hP hA hS => ?_) (fun E9 q9 ce9 g9 H locs hq9 hP hA hS z1 z2 z3 => ?_)
  rotate_left
  · obtain ⟨_, ⟨⟨_, hz, -⟩, -⟩, -⟩ := hq9
    cases hz
  obtain ⟨gm, ⟨⟨x9, hv9, hx9⟩, S1, hgm, herr, hM1⟩, hJs⟩ := hq9
  cases hv9
  subst hgm
  have hJ := hJs.sym
  refine W.eq (g2 := F0 m 339 ls [.int x9]) rfl ?_
  refine lv_istore hx hb d_La_law_339 hl (by decide) rfl (fun ls hl => ?_)
  have hl : lv_has ls 8 [(6, .int x9), (5, .int kv1), (4, .int i), (0, .ref b), (1, .ref d), (2, .ref (r 20)), (3, .ref ou)] := hl
  refine lv_aload_n hx hb d_La_law_341 rfl (lv_at hl 5 rfl) ?_
  have hm : g9 (r 20) = some (m_F r cN cZ cL S1 20) := (hJ.1 _ _).mpr (Or.inr (m_at hri (by decide)))
  refine w_callV (As := []) (C := R_Mo) ⟨hx, hb, hml, hown, hts⟩ (x_join hJ.sym (c_Mo_thrown l D cK cI cN cZ cL r hri S1 _)) (x_cb (cwV (own := R_La) (index := 82) (C := R_Mo) 0 hts (x_gi (by decide +kernel)) rfl rfl rfl (by decide +kernel) ⟨by decide, by decide⟩).1) (hts (.instanceMethod y_Mo_thrown) (by decide +kernel)) (hts (.selects R_Mo y_Mo_thrown y_Mo_thrown) (by decide +kernel)) (y_recv (ci := 5) (q := (R_Mo, F_Mo, 20)) hK hP rfl hm) hE hP hA hA0 hS rfl hl.1 rfl (lv_room (Nat.le_of_ble_eq_true rfl)) d_La_law_342 (by omega) (by omega) (fun v9 g9 H locs hq9 hP hA hS => ?_) (fun E9 q9 ce9 g9 H locs hq9 hP hA hS z1 z2 z3 => ?_)
  rotate_left
  · obtain ⟨_, ⟨hz, -⟩, -⟩ := hq9
    cases hz
  obtain ⟨gm, ⟨hv9, hgm⟩, hJs⟩ := hq9
  cases hv9
  subst hgm
  have hJ := hJs.sym
  refine W.eq (g2 := F0 m 345 ls [.int (S1.2.2 10)]) rfl ?_
  refine lv_iload hx hb d_La_law_345 (lv_at hl 1 rfl) ?_
  refine lv_icmp_eq hx hb d_La_law_347 rfl (fun h2 => ?_) (fun h2 => (absurd (herr.trans e_kv1.symm) h2))
  refine lv_iload hx hb d_La_law_352 (lv_at hl 1 rfl) ?_
  refine lv_if_ne hx hb d_La_law_354 rfl (fun h3 => ?_) (fun h3 => ?_)
  · -- ifne at 354: to 376
    refine lv_goto hx hb d_La_law_376 rfl ?_
    have hl : lv_has ls 8 [(4, .int i), (0, .ref b), (1, .ref d), (2, .ref (r 20)), (3, .ref ou)] := lv_sub hl [2, 3, 4, 5, 6] rfl
    refine W.widen (k := cells + 6) (n := slots + 60) (by omega) (by omega) ?_
    exact kk ls H locs hl ⟨_, gn, Gn, _, S1, fn, k_copy hw x1 x2, hR, hM1, hJ0, hJ, hP, hA, hS⟩
  · -- ifne at 354: to 357
    have hs0 : (s_copy a x1 x2).1 = 0 := l_z (e_kv1.symm.trans h3) hle
    have hcv := (hal hs0).1 _ (hx9 hs0)
    have hou : g9 ou = some (.inl (cL, 1, .inr (.inl fn))) := (hJ.1 _ _).mpr (Or.inl hJ0.out)
    refine lv_aload_n hx hb d_La_law_357 rfl (lv_at hl 6 rfl) ?_
    refine lv_iconst (v := 0) hx hb d_La_law_358 (by decide) ?_
    refine y_lald (f := fn) hx hb hK hP 4 hou rfl l_in0 d_La_law_359 ?_
    refine lv_iload hx hb d_La_law_360 (lv_at hl 0 rfl) ?_
    obtain ⟨X9, hX9⟩ := l_copy (a := a) x1 x2 hs0
    have hb9 : c_bit X9 = x9 := Value.int.inj (Option.some.inj (hX9.symm.trans (hx9 hs0)))
    refine lv_if_eq hx hb d_La_law_362 rfl (fun h4 => ?_) (fun h4 => ?_)
    · -- ifeq at 362: to 369
      refine lv_lconst (v := 0) hx hb d_La_law_369 (by decide) ?_
      refine W.lcmp hx hb d_La_law_370 ?_
      refine lv_if_eq hx hb d_La_law_371 rfl (fun h5 => ?_) (fun h5 => (absurd ((lg_cmp_eq _ _).mpr (hcv.trans ((congrArg Int32.toInt64 h4).trans l_t0))) h5))
      refine lv_goto hx hb d_La_law_376 rfl ?_
      have hl : lv_has ls 8 [(4, .int i), (0, .ref b), (1, .ref d), (2, .ref (r 20)), (3, .ref ou)] := lv_sub hl [2, 3, 4, 5, 6] rfl
      refine W.widen (k := cells + 6) (n := slots + 60) (by omega) (by omega) ?_
      exact kk ls H locs hl ⟨_, gn, Gn, _, S1, fn, k_copy hw x1 x2, hR, hM1, hJ0, hJ, hP, hA, hS⟩
    · -- ifeq at 362: to 365
      refine lv_lconst (v := 1) hx hb d_La_law_365 (by decide) ?_
      refine lv_goto hx hb d_La_law_366 rfl ?_
      refine W.lcmp hx hb d_La_law_370 ?_
      refine lv_if_eq hx hb d_La_law_371 rfl (fun h6 => ?_) (fun h6 => (absurd ((lg_cmp_eq _ _).mpr (hcv.trans (l_b2 hb9 h4).symm)) h6))
      refine lv_goto hx hb d_La_law_376 rfl ?_
      have hl : lv_has ls 8 [(4, .int i), (0, .ref b), (1, .ref d), (2, .ref (r 20)), (3, .ref ou)] := lv_sub hl [2, 3, 4, 5, 6] rfl
      refine W.widen (k := cells + 6) (n := slots + 60) (by omega) (by omega) ?_
      exact kk ls H locs hl ⟨_, gn, Gn, _, S1, fn, k_copy hw x1 x2, hR, hM1, hJ0, hJ, hP, hA, hS⟩
set_option maxHeartbeats 4000000 in
set_option maxRecDepth 100000 in
/-- case 4: drop -/
theorem la_drop (l : Launch) (hst : l.stackTraces = false) {p : Program} {e : Env} {s : State} {m : MethodId} {below : List Frame} {meth : Method} {c : Code} {H : Heap} {locs : List Loc} {cells slots : Nat} {Q : State → Prop} {b L : Nat} {xs : Nat → Int32} {A : Nat → Prop} {D : va_G} (cK cI cN cZ cL : ClassId) {d ou : Nat} {r : Nat → Nat} (hri : m_inj r) (hC : la_C p s m c b L xs D cK cI cN cZ cL A) {ls : Array Slot} {k : Nat} {i x1 x2 x3 x4 : Int32} (hk : k < 512) (hI : la_I cK cI cN cZ cL D A s d ou r k H locs) (hl : lv_has ls 8 [(4, .int i), (0, .ref b), (1, .ref d), (2, .ref (r 20)), (3, .ref ou)]) (hi : la_x xs L i x1 x2 x3 x4) (hcc : cells + 6 ≤ room_1.cells) (hss : slots + 60 ≤ room_1.slots)
    (kk : ∀ (ls : Array Slot) (H : Heap) (locs : List Loc), lv_has ls 8 [(4, .int i), (0, .ref b), (1, .ref d), (2, .ref (r 20)), (3, .ref ou)] → la_I cK cI cN cZ cL D A s d ou r (k + 1) H locs → W p l e room_1 s m #[Value.ref b] below meth c H locs (cells + 6) (slots + 60) Q (F0 m 1130 ls [])) : W p l e room_1 s m #[Value.ref b] below meth c H locs cells slots Q (F0 m 379 ls []) := by
  obtain ⟨hx, hb, hml, hown, hE, hA0, hX, hbl, hbA⟩ := hC
  have hts := hE.hts #[Value.ref b]
  have hK := hE.1.2.1
  obtain ⟨a, g, G0, g9, S, f, hw, hR, hM, hJ0, hJ, hP, hA, hS⟩ := hI
  obtain ⟨⟨i1, e1⟩, ⟨i2, e2⟩, ⟨i3, e3⟩, i4, e4⟩ := hi
  refine lv_aload_n hx hb d_La_law_379 rfl (lv_at hl 2 rfl) ?_
  refine lv_aload_n hx hb d_La_law_380 rfl (lv_at hl 1 rfl) ?_
  refine lv_iload hx hb d_La_law_381 (lv_at hl 0 rfl) ?_
  refine lv_iconst (v := 1) hx hb d_La_law_383 (by decide) ?_
  refine lv_iadd hx hb d_La_law_384 ?_
  refine la_sld hx hb hX hbl hbA hS i1 e1 d_La_law_385 ?_
  refine lv_aload_n hx hb d_La_law_386 rfl (lv_at hl 4 rfl) ?_
  refine w_callS (As := [.ref d, .int x1, .ref ou]) ⟨hx, hb, hml, hown, hts⟩ (x_join hJ (c_La_drop l hst D cK cI cN cZ cL g G0 ou f _ a k d x1 hw (by omega) hR hJ0)) (x_cbH (own := R_La) (index := 98) 3 hts (by decide +kernel) (by decide +kernel) (by decide +kernel) rfl rfl (by decide +kernel) ⟨by decide, by decide⟩) (hts (.static y_La_drop) (by decide +kernel)) hE hP hA hA0 hS rfl hl.1 rfl (lv_room (Nat.le_of_ble_eq_true rfl)) d_La_law_387 (by omega) (by omega) (fun v9 g9 H locs hq9 hP hA hS => ?_) (fun E9 q9 ce9 g9 H locs hq9 hP hA hS z1 z2 z3 => ?_)
  rotate_left
  · obtain ⟨_, ⟨hz, -⟩, -⟩ := hq9
    cases hz
  obtain ⟨Gn, ⟨hv9, hle, gn, fn, hJ0, hR, hal⟩, hJ⟩ := hq9
  cases hv9
  refine W.eq (g2 := F0 m 390 ls [.int (nI (s_drop a x1).1)]) rfl ?_
  refine lv_topi (fun kv1 e_kv1 => ?_)
  refine lv_istore hx hb d_La_law_390 hl (by decide) rfl (fun ls hl => ?_)
  have hl : lv_has ls 8 [(5, .int kv1), (4, .int i), (0, .ref b), (1, .ref d), (2, .ref (r 20)), (3, .ref ou)] := hl
  refine lv_aload_n hx hb d_La_law_392 rfl (lv_at hl 4 rfl) ?_
  refine lv_aload_n hx hb d_La_law_393 rfl (lv_at hl 2 rfl) ?_
  refine lv_iload hx hb d_La_law_394 (lv_at hl 1 rfl) ?_
  refine lv_iconst (v := 1) hx hb d_La_law_396 (by decide) ?_
  refine lv_iadd hx hb d_La_law_397 ?_
  refine la_sld hx hb hX hbl hbA hS i1 e1 d_La_law_398 ?_
  have hm : g9 (r 20) = some (m_F r cN cZ cL S 20) := (hJ.1 _ _).mpr (Or.inr (m_at hri (by decide)))
  refine w_callV (As := [.int x1]) (C := R_Mo) ⟨hx, hb, hml, hown, hts⟩ (x_join hJ.sym (c_Mo_drop l D cK cI cN cZ cL r hri S _ a k x1 hw (by omega) hM)) (x_cb (cwV (own := R_La) (index := 101) (C := R_Mo) 1 hts (x_gi (by decide +kernel)) rfl rfl rfl (by decide +kernel) ⟨by decide, by decide⟩).1) (hts (.instanceMethod y_Mo_drop) (by decide +kernel)) (hts (.selects R_Mo y_Mo_drop y_Mo_drop) (by decide +kernel)) (y_recv (ci := 5) (q := (R_Mo, F_Mo, 20)) hK hP rfl hm) hE hP hA hA0 hS rfl hl.1 rfl (lv_room (Nat.le_of_ble_eq_true rfl)) d_La_law_399 (by omega) (by omega) (fun v9 g9 H locs hq9 hP hA hS => ?_) (fun E9 q9 ce9 g9 H locs hq9 hP hA hS z1 z2 z3 => ?_)
  rotate_left
  · obtain ⟨_, ⟨⟨_, hz, -⟩, -⟩, -⟩ := hq9
    cases hz
  obtain ⟨gm, ⟨⟨x9, hv9, hx9⟩, S1, hgm, herr, hM1⟩, hJs⟩ := hq9
  cases hv9
  subst hgm
  have hJ := hJs.sym
  refine W.eq (g2 := F0 m 402 ls [.int x9]) rfl ?_
  refine lv_istore hx hb d_La_law_402 hl (by decide) rfl (fun ls hl => ?_)
  have hl : lv_has ls 8 [(6, .int x9), (5, .int kv1), (4, .int i), (0, .ref b), (1, .ref d), (2, .ref (r 20)), (3, .ref ou)] := hl
  refine lv_aload_n hx hb d_La_law_404 rfl (lv_at hl 5 rfl) ?_
  have hm : g9 (r 20) = some (m_F r cN cZ cL S1 20) := (hJ.1 _ _).mpr (Or.inr (m_at hri (by decide)))
  refine w_callV (As := []) (C := R_Mo) ⟨hx, hb, hml, hown, hts⟩ (x_join hJ.sym (c_Mo_thrown l D cK cI cN cZ cL r hri S1 _)) (x_cb (cwV (own := R_La) (index := 82) (C := R_Mo) 0 hts (x_gi (by decide +kernel)) rfl rfl rfl (by decide +kernel) ⟨by decide, by decide⟩).1) (hts (.instanceMethod y_Mo_thrown) (by decide +kernel)) (hts (.selects R_Mo y_Mo_thrown y_Mo_thrown) (by decide +kernel)) (y_recv (ci := 5) (q := (R_Mo, F_Mo, 20)) hK hP rfl hm) hE hP hA hA0 hS rfl hl.1 rfl (lv_room (Nat.le_of_ble_eq_true rfl)) d_La_law_405 (by omega) (by omega) (fun v9 g9 H locs hq9 hP hA hS => ?_) (fun E9 q9 ce9 g9 H locs hq9 hP hA hS z1 z2 z3 => ?_)
  rotate_left
  · obtain ⟨_, ⟨hz, -⟩, -⟩ := hq9
    cases hz
  obtain ⟨gm, ⟨hv9, hgm⟩, hJs⟩ := hq9
  cases hv9
  subst hgm
  have hJ := hJs.sym
  refine W.eq (g2 := F0 m 408 ls [.int (S1.2.2 10)]) rfl ?_
  refine lv_iload hx hb d_La_law_408 (lv_at hl 1 rfl) ?_
  refine lv_icmp_eq hx hb d_La_law_410 rfl (fun h2 => ?_) (fun h2 => (absurd (herr.trans e_kv1.symm) h2))
  refine lv_iload hx hb d_La_law_415 (lv_at hl 1 rfl) ?_
  refine lv_if_ne hx hb d_La_law_417 rfl (fun h3 => ?_) (fun h3 => ?_)
  · -- ifne at 417: to 439
    refine lv_goto hx hb d_La_law_439 rfl ?_
    have hl : lv_has ls 8 [(4, .int i), (0, .ref b), (1, .ref d), (2, .ref (r 20)), (3, .ref ou)] := lv_sub hl [2, 3, 4, 5, 6] rfl
    refine W.widen (k := cells + 6) (n := slots + 60) (by omega) (by omega) ?_
    exact kk ls H locs hl ⟨_, gn, Gn, _, S1, fn, k_drop hw x1, hR, hM1, hJ0, hJ, hP, hA, hS⟩
  · -- ifne at 417: to 420
    have hs0 : (s_drop a x1).1 = 0 := l_z (e_kv1.symm.trans h3) hle
    have hcv := (hal hs0).1 _ (hx9 hs0)
    have hou : g9 ou = some (.inl (cL, 1, .inr (.inl fn))) := (hJ.1 _ _).mpr (Or.inl hJ0.out)
    refine lv_aload_n hx hb d_La_law_420 rfl (lv_at hl 6 rfl) ?_
    refine lv_iconst (v := 0) hx hb d_La_law_421 (by decide) ?_
    refine y_lald (f := fn) hx hb hK hP 4 hou rfl l_in0 d_La_law_422 ?_
    refine lv_iload hx hb d_La_law_423 (lv_at hl 0 rfl) ?_
    obtain ⟨X9, hX9⟩ := l_drop (a := a) x1 hs0
    have hb9 : c_bit X9 = x9 := Value.int.inj (Option.some.inj (hX9.symm.trans (hx9 hs0)))
    refine lv_if_eq hx hb d_La_law_425 rfl (fun h4 => ?_) (fun h4 => ?_)
    · -- ifeq at 425: to 432
      refine lv_lconst (v := 0) hx hb d_La_law_432 (by decide) ?_
      refine W.lcmp hx hb d_La_law_433 ?_
      refine lv_if_eq hx hb d_La_law_434 rfl (fun h5 => ?_) (fun h5 => (absurd ((lg_cmp_eq _ _).mpr (hcv.trans ((congrArg Int32.toInt64 h4).trans l_t0))) h5))
      refine lv_goto hx hb d_La_law_439 rfl ?_
      have hl : lv_has ls 8 [(4, .int i), (0, .ref b), (1, .ref d), (2, .ref (r 20)), (3, .ref ou)] := lv_sub hl [2, 3, 4, 5, 6] rfl
      refine W.widen (k := cells + 6) (n := slots + 60) (by omega) (by omega) ?_
      exact kk ls H locs hl ⟨_, gn, Gn, _, S1, fn, k_drop hw x1, hR, hM1, hJ0, hJ, hP, hA, hS⟩
    · -- ifeq at 425: to 428
      refine lv_lconst (v := 1) hx hb d_La_law_428 (by decide) ?_
      refine lv_goto hx hb d_La_law_429 rfl ?_
      refine W.lcmp hx hb d_La_law_433 ?_
      refine lv_if_eq hx hb d_La_law_434 rfl (fun h6 => ?_) (fun h6 => (absurd ((lg_cmp_eq _ _).mpr (hcv.trans (l_b2 hb9 h4).symm)) h6))
      refine lv_goto hx hb d_La_law_439 rfl ?_
      have hl : lv_has ls 8 [(4, .int i), (0, .ref b), (1, .ref d), (2, .ref (r 20)), (3, .ref ou)] := lv_sub hl [2, 3, 4, 5, 6] rfl
      refine W.widen (k := cells + 6) (n := slots + 60) (by omega) (by omega) ?_
      exact kk ls H locs hl ⟨_, gn, Gn, _, S1, fn, k_drop hw x1, hR, hM1, hJ0, hJ, hP, hA, hS⟩
set_option maxHeartbeats 4000000 in
set_option maxRecDepth 100000 in
/-- case 5: same -/
theorem la_same (l : Launch) (hst : l.stackTraces = false) {p : Program} {e : Env} {s : State} {m : MethodId} {below : List Frame} {meth : Method} {c : Code} {H : Heap} {locs : List Loc} {cells slots : Nat} {Q : State → Prop} {b L : Nat} {xs : Nat → Int32} {A : Nat → Prop} {D : va_G} (cK cI cN cZ cL : ClassId) {d ou : Nat} {r : Nat → Nat} (hri : m_inj r) (hC : la_C p s m c b L xs D cK cI cN cZ cL A) {ls : Array Slot} {k : Nat} {i x1 x2 x3 x4 : Int32} (hk : k < 512) (hI : la_I cK cI cN cZ cL D A s d ou r k H locs) (hl : lv_has ls 8 [(4, .int i), (0, .ref b), (1, .ref d), (2, .ref (r 20)), (3, .ref ou)]) (hi : la_x xs L i x1 x2 x3 x4) (hcc : cells + 6 ≤ room_1.cells) (hss : slots + 60 ≤ room_1.slots)
    (kk : ∀ (ls : Array Slot) (H : Heap) (locs : List Loc), lv_has ls 8 [(4, .int i), (0, .ref b), (1, .ref d), (2, .ref (r 20)), (3, .ref ou)] → la_I cK cI cN cZ cL D A s d ou r (k + 1) H locs → W p l e room_1 s m #[Value.ref b] below meth c H locs (cells + 6) (slots + 60) Q (F0 m 1130 ls [])) : W p l e room_1 s m #[Value.ref b] below meth c H locs cells slots Q (F0 m 442 ls []) := by
  obtain ⟨hx, hb, hml, hown, hE, hA0, hX, hbl, hbA⟩ := hC
  have hts := hE.hts #[Value.ref b]
  have hK := hE.1.2.1
  obtain ⟨a, g, G0, g9, S, f, hw, hR, hM, hJ0, hJ, hP, hA, hS⟩ := hI
  obtain ⟨⟨i1, e1⟩, ⟨i2, e2⟩, ⟨i3, e3⟩, i4, e4⟩ := hi
  refine lv_aload_n hx hb d_La_law_442 rfl (lv_at hl 2 rfl) ?_
  refine lv_aload_n hx hb d_La_law_443 rfl (lv_at hl 1 rfl) ?_
  refine lv_iload hx hb d_La_law_444 (lv_at hl 0 rfl) ?_
  refine lv_iconst (v := 1) hx hb d_La_law_446 (by decide) ?_
  refine lv_iadd hx hb d_La_law_447 ?_
  refine la_sld hx hb hX hbl hbA hS i1 e1 d_La_law_448 ?_
  refine lv_aload_n hx hb d_La_law_449 rfl (lv_at hl 1 rfl) ?_
  refine lv_iload hx hb d_La_law_450 (lv_at hl 0 rfl) ?_
  refine lv_iconst (v := 2) hx hb d_La_law_452 (by decide) ?_
  refine lv_iadd hx hb d_La_law_453 ?_
  refine la_sld hx hb hX hbl hbA hS i2 e2 d_La_law_454 ?_
  refine lv_aload_n hx hb d_La_law_455 rfl (lv_at hl 4 rfl) ?_
  refine w_callS (As := [.ref d, .int x1, .int x2, .ref ou]) ⟨hx, hb, hml, hown, hts⟩ (x_join hJ (c_La_same l hst D cK cI cN cZ cL g G0 ou f _ a k d x1 x2 hw (by omega) hR hJ0)) (x_cbH (own := R_La) (index := 102) 4 hts (by decide +kernel) (by decide +kernel) (by decide +kernel) rfl rfl (by decide +kernel) ⟨by decide, by decide⟩) (hts (.static y_La_same) (by decide +kernel)) hE hP hA hA0 hS rfl hl.1 rfl (lv_room (Nat.le_of_ble_eq_true rfl)) d_La_law_456 (by omega) (by omega) (fun v9 g9 H locs hq9 hP hA hS => ?_) (fun E9 q9 ce9 g9 H locs hq9 hP hA hS z1 z2 z3 => ?_)
  rotate_left
  · obtain ⟨_, ⟨hz, -⟩, -⟩ := hq9
    cases hz
  obtain ⟨Gn, ⟨hv9, hle, gn, fn, hJ0, hR, hal⟩, hJ⟩ := hq9
  cases hv9
  refine W.eq (g2 := F0 m 459 ls [.int (nI (s_same a x1 x2).1)]) rfl ?_
  refine lv_topi (fun kv1 e_kv1 => ?_)
  refine lv_istore hx hb d_La_law_459 hl (by decide) rfl (fun ls hl => ?_)
  have hl : lv_has ls 8 [(5, .int kv1), (4, .int i), (0, .ref b), (1, .ref d), (2, .ref (r 20)), (3, .ref ou)] := hl
  refine lv_aload_n hx hb d_La_law_461 rfl (lv_at hl 4 rfl) ?_
  refine lv_aload_n hx hb d_La_law_462 rfl (lv_at hl 2 rfl) ?_
  refine lv_iload hx hb d_La_law_463 (lv_at hl 1 rfl) ?_
  refine lv_iconst (v := 1) hx hb d_La_law_465 (by decide) ?_
  refine lv_iadd hx hb d_La_law_466 ?_
  refine la_sld hx hb hX hbl hbA hS i1 e1 d_La_law_467 ?_
  refine lv_aload_n hx hb d_La_law_468 rfl (lv_at hl 2 rfl) ?_
  refine lv_iload hx hb d_La_law_469 (lv_at hl 1 rfl) ?_
  refine lv_iconst (v := 2) hx hb d_La_law_471 (by decide) ?_
  refine lv_iadd hx hb d_La_law_472 ?_
  refine la_sld hx hb hX hbl hbA hS i2 e2 d_La_law_473 ?_
  have hm : g9 (r 20) = some (m_F r cN cZ cL S 20) := (hJ.1 _ _).mpr (Or.inr (m_at hri (by decide)))
  refine w_callV (As := [.int x1, .int x2]) (C := R_Mo) ⟨hx, hb, hml, hown, hts⟩ (x_join hJ.sym (c_Mo_same l D cK cI cN cZ cL r hri S _ a k x1 x2 hw (by omega) hM)) (x_cb (cwV (own := R_La) (index := 104) (C := R_Mo) 2 hts (x_gi (by decide +kernel)) rfl rfl rfl (by decide +kernel) ⟨by decide, by decide⟩).1) (hts (.instanceMethod y_Mo_same) (by decide +kernel)) (hts (.selects R_Mo y_Mo_same y_Mo_same) (by decide +kernel)) (y_recv (ci := 5) (q := (R_Mo, F_Mo, 20)) hK hP rfl hm) hE hP hA hA0 hS rfl hl.1 rfl (lv_room (Nat.le_of_ble_eq_true rfl)) d_La_law_474 (by omega) (by omega) (fun v9 g9 H locs hq9 hP hA hS => ?_) (fun E9 q9 ce9 g9 H locs hq9 hP hA hS z1 z2 z3 => ?_)
  rotate_left
  · obtain ⟨_, ⟨⟨_, hz, -⟩, -⟩, -⟩ := hq9
    cases hz
  obtain ⟨gm, ⟨⟨x9, hv9, hx9⟩, S1, hgm, herr, hM1⟩, hJs⟩ := hq9
  cases hv9
  subst hgm
  have hJ := hJs.sym
  refine W.eq (g2 := F0 m 477 ls [.int x9]) rfl ?_
  refine lv_istore hx hb d_La_law_477 hl (by decide) rfl (fun ls hl => ?_)
  have hl : lv_has ls 8 [(6, .int x9), (5, .int kv1), (4, .int i), (0, .ref b), (1, .ref d), (2, .ref (r 20)), (3, .ref ou)] := hl
  refine lv_aload_n hx hb d_La_law_479 rfl (lv_at hl 5 rfl) ?_
  have hm : g9 (r 20) = some (m_F r cN cZ cL S1 20) := (hJ.1 _ _).mpr (Or.inr (m_at hri (by decide)))
  refine w_callV (As := []) (C := R_Mo) ⟨hx, hb, hml, hown, hts⟩ (x_join hJ.sym (c_Mo_thrown l D cK cI cN cZ cL r hri S1 _)) (x_cb (cwV (own := R_La) (index := 82) (C := R_Mo) 0 hts (x_gi (by decide +kernel)) rfl rfl rfl (by decide +kernel) ⟨by decide, by decide⟩).1) (hts (.instanceMethod y_Mo_thrown) (by decide +kernel)) (hts (.selects R_Mo y_Mo_thrown y_Mo_thrown) (by decide +kernel)) (y_recv (ci := 5) (q := (R_Mo, F_Mo, 20)) hK hP rfl hm) hE hP hA hA0 hS rfl hl.1 rfl (lv_room (Nat.le_of_ble_eq_true rfl)) d_La_law_480 (by omega) (by omega) (fun v9 g9 H locs hq9 hP hA hS => ?_) (fun E9 q9 ce9 g9 H locs hq9 hP hA hS z1 z2 z3 => ?_)
  rotate_left
  · obtain ⟨_, ⟨hz, -⟩, -⟩ := hq9
    cases hz
  obtain ⟨gm, ⟨hv9, hgm⟩, hJs⟩ := hq9
  cases hv9
  subst hgm
  have hJ := hJs.sym
  refine W.eq (g2 := F0 m 483 ls [.int (S1.2.2 10)]) rfl ?_
  refine lv_iload hx hb d_La_law_483 (lv_at hl 1 rfl) ?_
  refine lv_icmp_eq hx hb d_La_law_485 rfl (fun h2 => ?_) (fun h2 => (absurd (herr.trans e_kv1.symm) h2))
  refine lv_iload hx hb d_La_law_490 (lv_at hl 1 rfl) ?_
  refine lv_if_ne hx hb d_La_law_492 rfl (fun h3 => ?_) (fun h3 => ?_)
  · -- ifne at 492: to 514
    refine lv_goto hx hb d_La_law_514 rfl ?_
    have hl : lv_has ls 8 [(4, .int i), (0, .ref b), (1, .ref d), (2, .ref (r 20)), (3, .ref ou)] := lv_sub hl [2, 3, 4, 5, 6] rfl
    refine W.widen (k := cells + 6) (n := slots + 60) (by omega) (by omega) ?_
    exact kk ls H locs hl ⟨_, gn, Gn, _, S1, fn, k_same hw x1 x2, hR, hM1, hJ0, hJ, hP, hA, hS⟩
  · -- ifne at 492: to 495
    have hs0 : (s_same a x1 x2).1 = 0 := l_z (e_kv1.symm.trans h3) hle
    have hcv := (hal hs0).1 _ (hx9 hs0)
    have hou : g9 ou = some (.inl (cL, 1, .inr (.inl fn))) := (hJ.1 _ _).mpr (Or.inl hJ0.out)
    refine lv_aload_n hx hb d_La_law_495 rfl (lv_at hl 6 rfl) ?_
    refine lv_iconst (v := 0) hx hb d_La_law_496 (by decide) ?_
    refine y_lald (f := fn) hx hb hK hP 4 hou rfl l_in0 d_La_law_497 ?_
    refine lv_iload hx hb d_La_law_498 (lv_at hl 0 rfl) ?_
    obtain ⟨X9, hX9⟩ := l_same (a := a) x1 x2 hs0
    have hb9 : c_bit X9 = x9 := Value.int.inj (Option.some.inj (hX9.symm.trans (hx9 hs0)))
    refine lv_if_eq hx hb d_La_law_500 rfl (fun h4 => ?_) (fun h4 => ?_)
    · -- ifeq at 500: to 507
      refine lv_lconst (v := 0) hx hb d_La_law_507 (by decide) ?_
      refine W.lcmp hx hb d_La_law_508 ?_
      refine lv_if_eq hx hb d_La_law_509 rfl (fun h5 => ?_) (fun h5 => (absurd ((lg_cmp_eq _ _).mpr (hcv.trans ((congrArg Int32.toInt64 h4).trans l_t0))) h5))
      refine lv_goto hx hb d_La_law_514 rfl ?_
      have hl : lv_has ls 8 [(4, .int i), (0, .ref b), (1, .ref d), (2, .ref (r 20)), (3, .ref ou)] := lv_sub hl [2, 3, 4, 5, 6] rfl
      refine W.widen (k := cells + 6) (n := slots + 60) (by omega) (by omega) ?_
      exact kk ls H locs hl ⟨_, gn, Gn, _, S1, fn, k_same hw x1 x2, hR, hM1, hJ0, hJ, hP, hA, hS⟩
    · -- ifeq at 500: to 503
      refine lv_lconst (v := 1) hx hb d_La_law_503 (by decide) ?_
      refine lv_goto hx hb d_La_law_504 rfl ?_
      refine W.lcmp hx hb d_La_law_508 ?_
      refine lv_if_eq hx hb d_La_law_509 rfl (fun h6 => ?_) (fun h6 => (absurd ((lg_cmp_eq _ _).mpr (hcv.trans (l_b2 hb9 h4).symm)) h6))
      refine lv_goto hx hb d_La_law_514 rfl ?_
      have hl : lv_has ls 8 [(4, .int i), (0, .ref b), (1, .ref d), (2, .ref (r 20)), (3, .ref ou)] := lv_sub hl [2, 3, 4, 5, 6] rfl
      refine W.widen (k := cells + 6) (n := slots + 60) (by omega) (by omega) ?_
      exact kk ls H locs hl ⟨_, gn, Gn, _, S1, fn, k_same hw x1 x2, hR, hM1, hJ0, hJ, hP, hA, hS⟩
end LCa45
