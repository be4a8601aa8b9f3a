/-! the reference's face: plain, row, copy, drop, same, size, every, collect -/
section MPub
def m_E (r : Nat → Nat) (cN cZ cL : ClassId) (s : An) (cn : Nat) (g9 : y_G) : Prop := ∃ S', g9 = m_w r cN cZ cL S' ∧ S'.2.2 10 = nI s.1 ∧ m_R s.2.2 S' (cn + 1)
def m_aI (s : An) (r9 : Option Value ⊕ String) : Prop := ∃ x : Int32, r9 = .inl (some (.int x)) ∧ (s.1 = 0 → s.2.1 = some (.int x))
def m_aL (s : An) (r9 : Option Value ⊕ String) : Prop := ∃ x : Int64, r9 = .inl (some (.long x)) ∧ (s.1 = 0 → s.2.1 = some (.long x))
variable {r : Nat → Nat} {cN cZ cL : ClassId} {s : An} {a : Ab} {cn i : Nat} {S' : MS}
theorem m_bad (h : s = (i + 1, none, a)) (he : S'.2.2 10 = nI (i + 1)) (hR : m_R a S' cn) : m_E r cN cZ cL s cn (m_w r cN cZ cL S') := by
  subst h
  exact ⟨S', rfl, he, hR.up (Nat.le_succ _)⟩
theorem m_badI {x : Int32} (h : s = (i + 1, none, a)) : m_aI s (.inl (some (.int x))) := by
  subst h
  exact ⟨x, rfl, fun z => absurd z (Nat.succ_ne_zero _)⟩
theorem m_badL {x : Int64} (h : s = (i + 1, none, a)) : m_aL s (.inl (some (.long x))) := by
  subst h
  exact ⟨x, rfl, fun z => absurd z (Nat.succ_ne_zero _)⟩
theorem m_good {v : Option Value} (h : s = (0, v, a)) (he : S'.2.2 10 = nI 0) (hR : m_R a S' (cn + 1)) : m_E r cN cZ cL s cn (m_w r cN cZ cL S') := by
  subst h
  exact ⟨S', rfl, he, hR⟩
theorem m_goodI {x : Int32} (h : s = (0, some (.int x), a)) : m_aI s (.inl (some (.int x))) := by
  subst h
  exact ⟨x, rfl, fun _ => rfl⟩
theorem m_goodL {x : Int64} (h : s = (0, some (.long x), a)) : m_aL s (.inl (some (.long x))) := by
  subst h
  exact ⟨x, rfl, fun _ => rfl⟩
theorem b_inI {v : Int32} {n : Nat} (hn : n < 2 ^ 30) : (¬ v < 0 ∧ v ≤ nI n) ↔ b_in v (nI (n + 1)) := by
  constructor
  · rintro ⟨h1, h2⟩
    obtain ⟨j, hj, rfl⟩ := nI_of h1
    have := (nI_leI hj (by omega)).mp h2
    exact ⟨h1, (nI_ltI hj (by omega)).mpr (by omega)⟩
  · rintro ⟨h1, h2⟩
    obtain ⟨j, hj, rfl⟩ := nI_of h1
    have := (nI_ltI hj (by omega)).mp h2
    exact ⟨h1, (nI_leI hj (by omega)).mpr (by omega)⟩
abbrev rmV : Room := { frames := 2, cells := 0, slots := 0, locals := 60 }
end MPub
set_option maxHeartbeats 4000000 in
set_option maxRecDepth 100000 in
/-- copy(s, t) -/
theorem c_Mo_copy (l : Launch) (D : va_G) (cK cI cN cZ cL : ClassId) (r : Nat → Nat) (hri : m_inj r) (S : MS) (sz : Nat) (a : Ab) (cn : Nat) (sv t : Int32) (hw : a_W a cn) (hc : cn ≤ 512) (hR : m_R a S cn)  : x_M l y_Mo_copy [.code y_Mo_copy b_Mo_copy 3 (some .boolean)] rmV (w_Pc D (x_tys cK cI cN cZ cL) [.ref (r 20), .int sv, .int t] (m_w r cN cZ cL S) sz) (w_Qc D (m_w r cN cZ cL S) sz (fun r9 g9 => m_aI (s_copy a sv t) r9 ∧ m_E r cN cZ cL (s_copy a sv t) cn g9)) 0 0 (y_A (m_w r cN cZ cL S) sz) := by
  refine x_ofW (cc := b_Mo_copy) (maxL := 3) (ret := (some .boolean)) (by decide) rfl ?_
  intro p e s m args below meth c s₁ B hml hno hv
  obtain ⟨rfl, hsz, hP, hE⟩ := hv
  subst hsz
  have hts := hE.hts ([.ref (r 20), .int sv, .int t] : List Value).toArray
  have hK := hE.1.2.1
  have hA0 : ∀ q, s.heap.size ≤ q → y_A (m_w r cN cZ cL S) s.heap.size q := fun q h => Or.inr h
  have hA : ∀ q e, (m_w r cN cZ cL S) q = some e → y_A (m_w r cN cZ cL S) s.heap.size q := fun q e h => Or.inl (by rw [h]; exact fun z => nomatch z)
  have hS : va_S (y_A (m_w r cN cZ cL S) s.heap.size) s.heap s.heap [] := va_S.rf
  generalize hAe : y_A (m_w r cN cZ cL S) s.heap.size = A at hE hA0 hA hS ⊢
  have hx := B.exec
  have hb := B.bytes
  have hr := B.returns
  have hlocks := B.notSynchronized
  have hown : s.vm.findClass R_Mo = some m.cls := findClass_of_methodNamed B.named
  have hl := lv_entry ([.ref (r 20), .int sv, .int t]) (n := 3) (Nat.le_of_ble_eq_true rfl)
  rw [lg_entry_eq]
  generalize (lg_sl ([.ref (r 20), .int sv, .int t]) ++ List.replicate (3 - (lg_sl ([.ref (r 20), .int sv, .int t])).length) Slot.unset).toArray = ls at hl ⊢
  have hl : lv_has ls 3 [(0, .ref (r 20)), (1, .int sv), (2, .int t)] := hl
  have hR0 := hR
  have hn : a.n ≤ cn := hw.2.2.2.2.2.2.2.2.2.1
  have hmm : a.mem ≤ 65536 := hw.2.2.2.2.2.2.2.2.1
  obtain ⟨r1, ⟨r2, r3, r4, r5⟩, r6, r7, r8, r9, r10, en, r11, r12, r13, r14⟩ := hR
  refine lv_aload_n hx hb d_Mo_copy_0 rfl (lv_at hl 0 rfl) ?_
  refine lv_iconst (v := 0) hx hb d_Mo_copy_1 (by decide) ?_
  refine y_put (D := D) (ci := 5) (v := .int 0) (ty := .int) (C := R_Mo) (T := F_Mo) (N := 20) hx hb hts in_Mo t_Mo t_Mo_ok n_Mo hown hK hP hA hS (m_at hri (i := 20) (by decide)) rfl 10 (by decide) (hts (.fieldLink R_Mo 59 "MemoryDeskModel" "err" "I") (by decide +kernel)) (fun _ h9 => h9) rfl (by decide +kernel) rfl rfl (Nat.le_of_ble_eq_true rfl) d_Mo_copy_2 (fun H locs hP hA hS => ?_)
  have e9 : va_up (m_w r cN cZ cL S) (r 20) (some (.inr (5, [.ref (r 0), .ref (r 1), .ref (r 2), .ref (r 3), .ref (r 4), .ref (r 5), .ref (r 6), .int (S.2.2 7), .int (S.2.2 8), .int (S.2.2 9), .int 0, .ref (r 11), .ref (r 12), .ref (r 13), .int (S.2.2 14), .ref (r 15), .ref (r 16), .ref (r 17), .ref (r 18), .int (S.2.2 19)]))) = (m_w r cN cZ cL (m_s S 10 0)) := m_ws10 hri S 0
  have hP : y_P D vwCl (m_w r cN cZ cL (m_s S 10 0)) H := by rw [← e9]; exact hP
  have hA : ∀ q99 e99, (m_w r cN cZ cL (m_s S 10 0)) q99 = some e99 → A q99 := by rw [← e9]; exact hA
  refine lv_aload_n hx hb d_Mo_copy_5 rfl (lv_at hl 0 rfl) ?_
  refine lv_iload_n hx hb d_Mo_copy_6 rfl (lv_at hl 1 rfl) ?_
  refine lv_bipush (v := 31) hx hb d_Mo_copy_7 (by decide) ?_
  refine w_callS (As := [.int sv, .int 31]) ⟨hx, hb, hml, hown, hts⟩ (c_Mo_in l D cK cI cN cZ cL r hri (m_s S 10 0) _ sv 31) (x_cb (va_cwS (own := R_Mo) (index := 93) 2 hts (x_gi (by decide +kernel)) rfl rfl rfl (by decide +kernel) ⟨by decide, by decide⟩).1) (hts (.static y_Mo_in) (by decide +kernel)) hE hP hA hA0 hS rfl hl.1 rfl (lv_room (Nat.le_of_ble_eq_true rfl)) d_Mo_copy_9 (by first | decide | omega) (by first | decide | omega) (fun v9 g9 H locs hq9 hP hA hS => ?_) (fun E9 q9 ce9 g9 H locs hq9 hP hA hS z1 z2 z3 => ?_)
  rotate_left
  · exact nomatch hq9.1
  obtain ⟨hv9, hg9⟩ := hq9
  cases hv9
  rw [hg9] at hP hA
  refine W.eq (g2 := F0 m 12 ls [.int (c_bit (¬ sv < 0 ∧ sv ≤ 31)), .ref (r 20)]) rfl ?_
  refine lv_if_eq hx hb d_Mo_copy_12 rfl (fun h1 => ?_) (fun h1 => ?_)
  · -- ifeq at 12: to 24
    have hs : ¬ b_in sv 32 := fun z => by have hy_ := h1; rw [c_bit.y (show ¬ sv < 0 ∧ sv ≤ 31 from (b_inI (n := 31) (by decide)).mpr z)] at hy_; exact absurd hy_ (by decide)
    refine lv_iconst (v := 1) hx hb d_Mo_copy_24 (by decide) ?_
    refine lv_goto hx hb d_Mo_copy_25 rfl ?_
    refine lv_iconst (v := 1) hx hb d_Mo_copy_29 (by decide) ?_
    refine w_callV (As := [.int 1, .int 1]) (C := R_Mo) ⟨hx, hb, hml, hown, hts⟩ (c_Mo_fails l D cK cI cN cZ cL r hri (m_s S 10 0) _ 1 1 (by decide)) (x_cb (cwV (own := R_Mo) (index := 96) (C := R_Mo) 2 hts (x_gi (by decide +kernel)) rfl rfl rfl (by decide +kernel) ⟨by decide, by decide⟩).1) (hts (.instanceMethod y_Mo_fails) (by decide +kernel)) (hts (.selects R_Mo y_Mo_fails y_Mo_fails) (by decide +kernel)) (y_recv (ci := 5) (q := (R_Mo, F_Mo, 20)) hK hP rfl (m_at hri (i := 20) (by decide))) hE hP hA hA0 hS rfl hl.1 rfl (lv_room (Nat.le_of_ble_eq_true rfl)) d_Mo_copy_30 (by first | decide | omega) (by first | decide | omega) (fun v9 g9 H locs hq9 hP hA hS => ?_) (fun E9 q9 ce9 g9 H locs hq9 hP hA hS z1 z2 z3 => ?_)
    rotate_left
    · rcases hq9 with z | z | z
      · exact nomatch z.2.2.1
      · exact nomatch z.2.1
      · exact nomatch z.2.2.1
    rcases hq9 with ⟨z1, z2, hv9, hg9⟩ | ⟨z1, hv9, hg9⟩ | ⟨z1, z2, hv9, hg9⟩
    · exact absurd z1 (by decide)
    · exact absurd rfl z1
    · cases hv9
      rw [hg9] at hP hA
      refine W.eq (g2 := F0 m 33 ls [.int 1]) rfl ?_
      refine lv_if_eq hx hb d_Mo_copy_33 rfl (fun h2 => (absurd h2 (by decide))) (fun h2 => ?_)
      refine lv_iconst (v := 0) hx hb d_Mo_copy_36 (by decide) ?_
      refine W.widen (k := 0) (n := 0) (by first | decide | omega) (by first | decide | omega) ?_
      exact x_ret (W.zret (v := 0) hx hb hr rfl (w_fin rfl hAe ⟨m_badI (i := 0) (q_n (fun z => hs z.1)), m_bad (i := 0) (q_n (fun z => hs z.1)) rfl ((hR0.err 0).err 1)⟩ hP hA hS) hS.2.2 d_Mo_copy_37)
  · -- ifeq at 12: to 15
    have hs : b_in sv 32 := (b_inI (n := 31) (by decide)).mp (Classical.byContradiction (fun z => h1 (c_bit.n z)))
    refine lv_iload_n hx hb d_Mo_copy_15 rfl (lv_at hl 2 rfl) ?_
    refine lv_bipush (v := 31) hx hb d_Mo_copy_16 (by decide) ?_
    refine w_callS (As := [.int t, .int 31]) ⟨hx, hb, hml, hown, hts⟩ (c_Mo_in l D cK cI cN cZ cL r hri (m_s S 10 0) _ t 31) (x_cb (va_cwS (own := R_Mo) (index := 93) 2 hts (x_gi (by decide +kernel)) rfl rfl rfl (by decide +kernel) ⟨by decide, by decide⟩).1) (hts (.static y_Mo_in) (by decide +kernel)) hE hP hA hA0 hS rfl hl.1 rfl (lv_room (Nat.le_of_ble_eq_true rfl)) d_Mo_copy_18 (by first | decide | omega) (by first | decide | omega) (fun v9 g9 H locs hq9 hP hA hS => ?_) (fun E9 q9 ce9 g9 H locs hq9 hP hA hS z1 z2 z3 => ?_)
    rotate_left
    · exact nomatch hq9.1
    obtain ⟨hv9, hg9⟩ := hq9
    cases hv9
    rw [hg9] at hP hA
    refine W.eq (g2 := F0 m 21 ls [.int (c_bit (¬ t < 0 ∧ t ≤ 31)), .ref (r 20)]) rfl ?_
    refine lv_if_ne hx hb d_Mo_copy_21 rfl (fun h3 => ?_) (fun h3 => ?_)
    · -- ifne at 21: to 28
      have ht : b_in t 32 := (b_inI (n := 31) (by decide)).mp (Classical.byContradiction (fun z => h3 (c_bit.n z)))
      refine lv_iconst (v := 0) hx hb d_Mo_copy_28 (by decide) ?_
      refine lv_iconst (v := 1) hx hb d_Mo_copy_29 (by decide) ?_
      refine w_callV (As := [.int 0, .int 1]) (C := R_Mo) ⟨hx, hb, hml, hown, hts⟩ (c_Mo_fails l D cK cI cN cZ cL r hri (m_s S 10 0) _ 0 1 (by decide)) (x_cb (cwV (own := R_Mo) (index := 96) (C := R_Mo) 2 hts (x_gi (by decide +kernel)) rfl rfl rfl (by decide +kernel) ⟨by decide, by decide⟩).1) (hts (.instanceMethod y_Mo_fails) (by decide +kernel)) (hts (.selects R_Mo y_Mo_fails y_Mo_fails) (by decide +kernel)) (y_recv (ci := 5) (q := (R_Mo, F_Mo, 20)) hK hP rfl (m_at hri (i := 20) (by decide))) hE hP hA hA0 hS rfl hl.1 rfl (lv_room (Nat.le_of_ble_eq_true rfl)) d_Mo_copy_30 (by first | decide | omega) (by first | decide | omega) (fun v9 g9 H locs hq9 hP hA hS => ?_) (fun E9 q9 ce9 g9 H locs hq9 hP hA hS z1 z2 z3 => ?_)
      rotate_left
      · rcases hq9 with z | z | z
        · exact nomatch z.2.2.1
        · exact nomatch z.2.1
        · exact nomatch z.2.2.1
      rcases hq9 with ⟨z1, z2, hv9, hg9⟩ | ⟨z1, hv9, hg9⟩ | ⟨z1, z2, hv9, hg9⟩
      · cases hv9
        rw [hg9] at hP hA
        refine W.eq (g2 := F0 m 33 ls [.int 0]) rfl ?_
        refine lv_if_eq hx hb d_Mo_copy_33 rfl (fun h4 => ?_) (fun h4 => (absurd rfl h4))
        refine lv_aload_n hx hb d_Mo_copy_38 rfl (lv_at hl 0 rfl) ?_
        refine y_get (D := D) (ci := 5) (v := .ref (r 15)) (C := R_Mo) (T := F_Mo) (N := 20) hx hb hts in_Mo hown hK hP (m_at hri (i := 20) (by decide)) rfl 15 (by decide) (hts (.fieldLink R_Mo 47 "MemoryDeskModel" "slots" "[I") (by decide +kernel)) (fun _ h9 => h9) rfl d_Mo_copy_39 ?_
        refine lv_iload_n hx hb d_Mo_copy_42 rfl (lv_at hl 1 rfl) ?_
        refine lv_aload_n hx hb d_Mo_copy_43 rfl (lv_at hl 0 rfl) ?_
        refine y_get (D := D) (ci := 5) (v := .ref (r 15)) (C := R_Mo) (T := F_Mo) (N := 20) hx hb hts in_Mo hown hK hP (m_at hri (i := 20) (by decide)) rfl 15 (by decide) (hts (.fieldLink R_Mo 47 "MemoryDeskModel" "slots" "[I") (by decide +kernel)) (fun _ h9 => h9) rfl d_Mo_copy_44 ?_
        refine lv_iload_n hx hb d_Mo_copy_47 rfl (lv_at hl 2 rfl) ?_
        refine y_iald (f := (S.1 15)) hx hb hK hP 2 (m_at hri (i := 15) (by decide)) rfl ht.v32 d_Mo_copy_48 ?_
        rw [r8 (j_n t) ht.j32]
        refine y_iast (f := (S.1 15)) hx hb hK hP hA hS 2 (m_at hri (i := 15) (by decide)) rfl hs.v32 d_Mo_copy_49 (fun H locs hP hA hS => ?_)
        have e9 : va_up (m_w r cN cZ cL (m_s S 10 0)) (r 15) (some (.inl (cN, 32, .inl (upd (S.1 15) sv.toNatClampNeg (nI (a.sl (j_n t))))))) = (m_w r cN cZ cL (m_a (m_s S 10 0) 15 sv.toNatClampNeg (nI (a.sl (j_n t))))) := m_wa15 hri (m_s S 10 0) sv.toNatClampNeg (nI (a.sl (j_n t)))
        have hP : y_P D vwCl (m_w r cN cZ cL (m_a (m_s S 10 0) 15 sv.toNatClampNeg (nI (a.sl (j_n t))))) H := by rw [← e9]; exact hP
        have hA : ∀ q99 e99, (m_w r cN cZ cL (m_a (m_s S 10 0) 15 sv.toNatClampNeg (nI (a.sl (j_n t))))) q99 = some e99 → A q99 := by rw [← e9]; exact hA
        refine lv_aload_n hx hb d_Mo_copy_50 rfl (lv_at hl 0 rfl) ?_
        refine y_get (D := D) (ci := 5) (v := .ref (r 15)) (C := R_Mo) (T := F_Mo) (N := 20) hx hb hts in_Mo hown hK hP (m_at hri (i := 20) (by decide)) rfl 15 (by decide) (hts (.fieldLink R_Mo 47 "MemoryDeskModel" "slots" "[I") (by decide +kernel)) (fun _ h9 => h9) rfl d_Mo_copy_51 ?_
        refine lv_iload_n hx hb d_Mo_copy_54 rfl (lv_at hl 1 rfl) ?_
        refine y_iald (f := (upd (S.1 15) sv.toNatClampNeg (nI (a.sl (j_n t))))) hx hb hK hP 2 (m_at hri (i := 15) (by decide)) rfl hs.v32 d_Mo_copy_55 ?_
        rw [upd_s]
        refine lv_if_eq hx hb d_Mo_copy_56 rfl (fun h5 => ?_) (fun h5 => ?_)
        · -- ifeq at 56: to 63
          refine lv_iconst (v := 0) hx hb d_Mo_copy_63 (by decide) ?_
          refine W.widen (k := 0) (n := 0) (by first | decide | omega) (by first | decide | omega) ?_
          exact x_ret (W.zret (v := 0) hx hb hr rfl (w_fin rfl hAe ⟨m_goodI ((q_y ⟨hs, ht⟩).trans (by rw [w_b0 (fun z => z ((nI_eq (b := 0) (by have := hw.2.2.1 (j_n t) ht.j32; omega) (by omega)).mp h5))])), m_good ((q_y ⟨hs, ht⟩).trans (by rw [w_b0 (fun z => z ((nI_eq (b := 0) (by have := hw.2.2.1 (j_n t) ht.j32; omega) (by omega)).mp h5))])) rfl (((hR0.err 0).puts).up (Nat.le_succ _))⟩ hP hA hS) hS.2.2 d_Mo_copy_64)
        · -- ifeq at 56: to 59
          refine lv_iconst (v := 1) hx hb d_Mo_copy_59 (by decide) ?_
          refine lv_goto hx hb d_Mo_copy_60 rfl ?_
          refine W.widen (k := 0) (n := 0) (by first | decide | omega) (by first | decide | omega) ?_
          exact x_ret (W.zret (v := 1) hx hb hr rfl (w_fin rfl hAe ⟨m_goodI ((q_y ⟨hs, ht⟩).trans (by rw [w_b1 (fun z => h5 (by rw [z]; rfl))])), m_good ((q_y ⟨hs, ht⟩).trans (by rw [w_b1 (fun z => h5 (by rw [z]; rfl))])) rfl (((hR0.err 0).puts).up (Nat.le_succ _))⟩ hP hA hS) hS.2.2 d_Mo_copy_64)
      · exact absurd rfl z1
      · exact absurd rfl z1
    · -- ifne at 21: to 24
      have ht : ¬ b_in t 32 := fun z => by have hy_ := h3; rw [c_bit.y (show ¬ t < 0 ∧ t ≤ 31 from (b_inI (n := 31) (by decide)).mpr z)] at hy_; exact absurd hy_ (by decide)
      refine lv_iconst (v := 1) hx hb d_Mo_copy_24 (by decide) ?_
      refine lv_goto hx hb d_Mo_copy_25 rfl ?_
      refine lv_iconst (v := 1) hx hb d_Mo_copy_29 (by decide) ?_
      refine w_callV (As := [.int 1, .int 1]) (C := R_Mo) ⟨hx, hb, hml, hown, hts⟩ (c_Mo_fails l D cK cI cN cZ cL r hri (m_s S 10 0) _ 1 1 (by decide)) (x_cb (cwV (own := R_Mo) (index := 96) (C := R_Mo) 2 hts (x_gi (by decide +kernel)) rfl rfl rfl (by decide +kernel) ⟨by decide, by decide⟩).1) (hts (.instanceMethod y_Mo_fails) (by decide +kernel)) (hts (.selects R_Mo y_Mo_fails y_Mo_fails) (by decide +kernel)) (y_recv (ci := 5) (q := (R_Mo, F_Mo, 20)) hK hP rfl (m_at hri (i := 20) (by decide))) hE hP hA hA0 hS rfl hl.1 rfl (lv_room (Nat.le_of_ble_eq_true rfl)) d_Mo_copy_30 (by first | decide | omega) (by first | decide | omega) (fun v9 g9 H locs hq9 hP hA hS => ?_) (fun E9 q9 ce9 g9 H locs hq9 hP hA hS z1 z2 z3 => ?_)
      rotate_left
      · rcases hq9 with z | z | z
        · exact nomatch z.2.2.1
        · exact nomatch z.2.1
        · exact nomatch z.2.2.1
      rcases hq9 with ⟨z1, z2, hv9, hg9⟩ | ⟨z1, hv9, hg9⟩ | ⟨z1, z2, hv9, hg9⟩
      · exact absurd z1 (by decide)
      · exact absurd rfl z1
      · cases hv9
        rw [hg9] at hP hA
        refine W.eq (g2 := F0 m 33 ls [.int 1]) rfl ?_
        refine lv_if_eq hx hb d_Mo_copy_33 rfl (fun h6 => (absurd h6 (by decide))) (fun h6 => ?_)
        refine lv_iconst (v := 0) hx hb d_Mo_copy_36 (by decide) ?_
        refine W.widen (k := 0) (n := 0) (by first | decide | omega) (by first | decide | omega) ?_
        exact x_ret (W.zret (v := 0) hx hb hr rfl (w_fin rfl hAe ⟨m_badI (i := 0) (q_n (fun z => ht z.2)), m_bad (i := 0) (q_n (fun z => ht z.2)) rfl ((hR0.err 0).err 1)⟩ hP hA hS) hS.2.2 d_Mo_copy_37)
set_option maxHeartbeats 4000000 in
set_option maxRecDepth 100000 in
/-- same(s, t) -/
theorem c_Mo_same (l : Launch) (D : va_G) (cK cI cN cZ cL : ClassId) (r : Nat → Nat) (hri : m_inj r) (S : MS) (sz : Nat) (a : Ab) (cn : Nat) (sv t : Int32) (hw : a_W a cn) (hc : cn ≤ 512) (hR : m_R a S cn)  : x_M l y_Mo_same [.code y_Mo_same b_Mo_same 3 (some .boolean)] rmV (w_Pc D (x_tys cK cI cN cZ cL) [.ref (r 20), .int sv, .int t] (m_w r cN cZ cL S) sz) (w_Qc D (m_w r cN cZ cL S) sz (fun r9 g9 => m_aI (s_same a sv t) r9 ∧ m_E r cN cZ cL (s_same a sv t) cn g9)) 0 0 (y_A (m_w r cN cZ cL S) sz) := by
  refine x_ofW (cc := b_Mo_same) (maxL := 3) (ret := (some .boolean)) (by decide) rfl ?_
  intro p e s m args below meth c s₁ B hml hno hv
  obtain ⟨rfl, hsz, hP, hE⟩ := hv
  subst hsz
  have hts := hE.hts ([.ref (r 20), .int sv, .int t] : List Value).toArray
  have hK := hE.1.2.1
  have hA0 : ∀ q, s.heap.size ≤ q → y_A (m_w r cN cZ cL S) s.heap.size q := fun q h => Or.inr h
  have hA : ∀ q e, (m_w r cN cZ cL S) q = some e → y_A (m_w r cN cZ cL S) s.heap.size q := fun q e h => Or.inl (by rw [h]; exact fun z => nomatch z)
  have hS : va_S (y_A (m_w r cN cZ cL S) s.heap.size) s.heap s.heap [] := va_S.rf
  generalize hAe : y_A (m_w r cN cZ cL S) s.heap.size = A at hE hA0 hA hS ⊢
  have hx := B.exec
  have hb := B.bytes
  have hr := B.returns
  have hlocks := B.notSynchronized
  have hown : s.vm.findClass R_Mo = some m.cls := findClass_of_methodNamed B.named
  have hl := lv_entry ([.ref (r 20), .int sv, .int t]) (n := 3) (Nat.le_of_ble_eq_true rfl)
  rw [lg_entry_eq]
  generalize (lg_sl ([.ref (r 20), .int sv, .int t]) ++ List.replicate (3 - (lg_sl ([.ref (r 20), .int sv, .int t])).length) Slot.unset).toArray = ls at hl ⊢
  have hl : lv_has ls 3 [(0, .ref (r 20)), (1, .int sv), (2, .int t)] := hl
  have hR0 := hR
  have hn : a.n ≤ cn := hw.2.2.2.2.2.2.2.2.2.1
  have hmm : a.mem ≤ 65536 := hw.2.2.2.2.2.2.2.2.1
  obtain ⟨r1, ⟨r2, r3, r4, r5⟩, r6, r7, r8, r9, r10, en, r11, r12, r13, r14⟩ := hR
  refine lv_aload_n hx hb d_Mo_same_0 rfl (lv_at hl 0 rfl) ?_
  refine lv_iconst (v := 0) hx hb d_Mo_same_1 (by decide) ?_
  refine y_put (D := D) (ci := 5) (v := .int 0) (ty := .int) (C := R_Mo) (T := F_Mo) (N := 20) hx hb hts in_Mo t_Mo t_Mo_ok n_Mo hown hK hP hA hS (m_at hri (i := 20) (by decide)) rfl 10 (by decide) (hts (.fieldLink R_Mo 59 "MemoryDeskModel" "err" "I") (by decide +kernel)) (fun _ h9 => h9) rfl (by decide +kernel) rfl rfl (Nat.le_of_ble_eq_true rfl) d_Mo_same_2 (fun H locs hP hA hS => ?_)
  have e9 : va_up (m_w r cN cZ cL S) (r 20) (some (.inr (5, [.ref (r 0), .ref (r 1), .ref (r 2), .ref (r 3), .ref (r 4), .ref (r 5), .ref (r 6), .int (S.2.2 7), .int (S.2.2 8), .int (S.2.2 9), .int 0, .ref (r 11), .ref (r 12), .ref (r 13), .int (S.2.2 14), .ref (r 15), .ref (r 16), .ref (r 17), .ref (r 18), .int (S.2.2 19)]))) = (m_w r cN cZ cL (m_s S 10 0)) := m_ws10 hri S 0
  have hP : y_P D vwCl (m_w r cN cZ cL (m_s S 10 0)) H := by rw [← e9]; exact hP
  have hA : ∀ q99 e99, (m_w r cN cZ cL (m_s S 10 0)) q99 = some e99 → A q99 := by rw [← e9]; exact hA
  refine lv_aload_n hx hb d_Mo_same_5 rfl (lv_at hl 0 rfl) ?_
  refine lv_iload_n hx hb d_Mo_same_6 rfl (lv_at hl 1 rfl) ?_
  refine lv_bipush (v := 31) hx hb d_Mo_same_7 (by decide) ?_
  refine w_callS (As := [.int sv, .int 31]) ⟨hx, hb, hml, hown, hts⟩ (c_Mo_in l D cK cI cN cZ cL r hri (m_s S 10 0) _ sv 31) (x_cb (va_cwS (own := R_Mo) (index := 93) 2 hts (x_gi (by decide +kernel)) rfl rfl rfl (by decide +kernel) ⟨by decide, by decide⟩).1) (hts (.static y_Mo_in) (by decide +kernel)) hE hP hA hA0 hS rfl hl.1 rfl (lv_room (Nat.le_of_ble_eq_true rfl)) d_Mo_same_9 (by first | decide | omega) (by first | decide | omega) (fun v9 g9 H locs hq9 hP hA hS => ?_) (fun E9 q9 ce9 g9 H locs hq9 hP hA hS z1 z2 z3 => ?_)
  rotate_left
  · exact nomatch hq9.1
  obtain ⟨hv9, hg9⟩ := hq9
  cases hv9
  rw [hg9] at hP hA
  refine W.eq (g2 := F0 m 12 ls [.int (c_bit (¬ sv < 0 ∧ sv ≤ 31)), .ref (r 20)]) rfl ?_
  refine lv_if_eq hx hb d_Mo_same_12 rfl (fun h1 => ?_) (fun h1 => ?_)
  · -- ifeq at 12: to 24
    have hs : ¬ b_in sv 32 := fun z => by have hy_ := h1; rw [c_bit.y (show ¬ sv < 0 ∧ sv ≤ 31 from (b_inI (n := 31) (by decide)).mpr z)] at hy_; exact absurd hy_ (by decide)
    refine lv_iconst (v := 1) hx hb d_Mo_same_24 (by decide) ?_
    refine lv_goto hx hb d_Mo_same_25 rfl ?_
    refine lv_iconst (v := 1) hx hb d_Mo_same_29 (by decide) ?_
    refine w_callV (As := [.int 1, .int 1]) (C := R_Mo) ⟨hx, hb, hml, hown, hts⟩ (c_Mo_fails l D cK cI cN cZ cL r hri (m_s S 10 0) _ 1 1 (by decide)) (x_cb (cwV (own := R_Mo) (index := 96) (C := R_Mo) 2 hts (x_gi (by decide +kernel)) rfl rfl rfl (by decide +kernel) ⟨by decide, by decide⟩).1) (hts (.instanceMethod y_Mo_fails) (by decide +kernel)) (hts (.selects R_Mo y_Mo_fails y_Mo_fails) (by decide +kernel)) (y_recv (ci := 5) (q := (R_Mo, F_Mo, 20)) hK hP rfl (m_at hri (i := 20) (by decide))) hE hP hA hA0 hS rfl hl.1 rfl (lv_room (Nat.le_of_ble_eq_true rfl)) d_Mo_same_30 (by first | decide | omega) (by first | decide | omega) (fun v9 g9 H locs hq9 hP hA hS => ?_) (fun E9 q9 ce9 g9 H locs hq9 hP hA hS z1 z2 z3 => ?_)
    rotate_left
    · rcases hq9 with z | z | z
      · exact nomatch z.2.2.1
      · exact nomatch z.2.1
      · exact nomatch z.2.2.1
    rcases hq9 with ⟨z1, z2, hv9, hg9⟩ | ⟨z1, hv9, hg9⟩ | ⟨z1, z2, hv9, hg9⟩
    · exact absurd z1 (by decide)
    · exact absurd rfl z1
    · cases hv9
      rw [hg9] at hP hA
      refine W.eq (g2 := F0 m 33 ls [.int 1]) rfl ?_
      refine lv_if_ne hx hb d_Mo_same_33 rfl (fun h2 => ?_) (fun h2 => (absurd h2 (by decide)))
      refine lv_iconst (v := 0) hx hb d_Mo_same_55 (by decide) ?_
      refine W.widen (k := 0) (n := 0) (by first | decide | omega) (by first | decide | omega) ?_
      exact x_ret (W.zret (v := 0) hx hb hr rfl (w_fin rfl hAe ⟨m_badI (i := 0) (q_n (fun z => hs z.1)), m_bad (i := 0) (q_n (fun z => hs z.1)) rfl ((hR0.err 0).err 1)⟩ hP hA hS) hS.2.2 d_Mo_same_56)
  · -- ifeq at 12: to 15
    have hs : b_in sv 32 := (b_inI (n := 31) (by decide)).mp (Classical.byContradiction (fun z => h1 (c_bit.n z)))
    refine lv_iload_n hx hb d_Mo_same_15 rfl (lv_at hl 2 rfl) ?_
    refine lv_bipush (v := 31) hx hb d_Mo_same_16 (by decide) ?_
    refine w_callS (As := [.int t, .int 31]) ⟨hx, hb, hml, hown, hts⟩ (c_Mo_in l D cK cI cN cZ cL r hri (m_s S 10 0) _ t 31) (x_cb (va_cwS (own := R_Mo) (index := 93) 2 hts (x_gi (by decide +kernel)) rfl rfl rfl (by decide +kernel) ⟨by decide, by decide⟩).1) (hts (.static y_Mo_in) (by decide +kernel)) hE hP hA hA0 hS rfl hl.1 rfl (lv_room (Nat.le_of_ble_eq_true rfl)) d_Mo_same_18 (by first | decide | omega) (by first | decide | omega) (fun v9 g9 H locs hq9 hP hA hS => ?_) (fun E9 q9 ce9 g9 H locs hq9 hP hA hS z1 z2 z3 => ?_)
    rotate_left
    · exact nomatch hq9.1
    obtain ⟨hv9, hg9⟩ := hq9
    cases hv9
    rw [hg9] at hP hA
    refine W.eq (g2 := F0 m 21 ls [.int (c_bit (¬ t < 0 ∧ t ≤ 31)), .ref (r 20)]) rfl ?_
    refine lv_if_ne hx hb d_Mo_same_21 rfl (fun h3 => ?_) (fun h3 => ?_)
    · -- ifne at 21: to 28
      have ht : b_in t 32 := (b_inI (n := 31) (by decide)).mp (Classical.byContradiction (fun z => h3 (c_bit.n z)))
      refine lv_iconst (v := 0) hx hb d_Mo_same_28 (by decide) ?_
      refine lv_iconst (v := 1) hx hb d_Mo_same_29 (by decide) ?_
      refine w_callV (As := [.int 0, .int 1]) (C := R_Mo) ⟨hx, hb, hml, hown, hts⟩ (c_Mo_fails l D cK cI cN cZ cL r hri (m_s S 10 0) _ 0 1 (by decide)) (x_cb (cwV (own := R_Mo) (index := 96) (C := R_Mo) 2 hts (x_gi (by decide +kernel)) rfl rfl rfl (by decide +kernel) ⟨by decide, by decide⟩).1) (hts (.instanceMethod y_Mo_fails) (by decide +kernel)) (hts (.selects R_Mo y_Mo_fails y_Mo_fails) (by decide +kernel)) (y_recv (ci := 5) (q := (R_Mo, F_Mo, 20)) hK hP rfl (m_at hri (i := 20) (by decide))) hE hP hA hA0 hS rfl hl.1 rfl (lv_room (Nat.le_of_ble_eq_true rfl)) d_Mo_same_30 (by first | decide | omega) (by first | decide | omega) (fun v9 g9 H locs hq9 hP hA hS => ?_) (fun E9 q9 ce9 g9 H locs hq9 hP hA hS z1 z2 z3 => ?_)
      rotate_left
      · rcases hq9 with z | z | z
        · exact nomatch z.2.2.1
        · exact nomatch z.2.1
        · exact nomatch z.2.2.1
      rcases hq9 with ⟨z1, z2, hv9, hg9⟩ | ⟨z1, hv9, hg9⟩ | ⟨z1, z2, hv9, hg9⟩
      · cases hv9
        rw [hg9] at hP hA
        refine W.eq (g2 := F0 m 33 ls [.int 0]) rfl ?_
        refine lv_if_ne hx hb d_Mo_same_33 rfl (fun h4 => (absurd rfl h4)) (fun h4 => ?_)
        refine lv_aload_n hx hb d_Mo_same_36 rfl (lv_at hl 0 rfl) ?_
        refine y_get (D := D) (ci := 5) (v := .ref (r 15)) (C := R_Mo) (T := F_Mo) (N := 20) hx hb hts in_Mo hown hK hP (m_at hri (i := 20) (by decide)) rfl 15 (by decide) (hts (.fieldLink R_Mo 47 "MemoryDeskModel" "slots" "[I") (by decide +kernel)) (fun _ h9 => h9) rfl d_Mo_same_37 ?_
        refine lv_iload_n hx hb d_Mo_same_40 rfl (lv_at hl 1 rfl) ?_
        refine y_iald (f := (S.1 15)) hx hb hK hP 2 (m_at hri (i := 15) (by decide)) rfl hs.v32 d_Mo_same_41 ?_
        rw [r8 (j_n sv) hs.j32]
        refine lv_aload_n hx hb d_Mo_same_42 rfl (lv_at hl 0 rfl) ?_
        refine y_get (D := D) (ci := 5) (v := .ref (r 15)) (C := R_Mo) (T := F_Mo) (N := 20) hx hb hts in_Mo hown hK hP (m_at hri (i := 20) (by decide)) rfl 15 (by decide) (hts (.fieldLink R_Mo 47 "MemoryDeskModel" "slots" "[I") (by decide +kernel)) (fun _ h9 => h9) rfl d_Mo_same_43 ?_
        refine lv_iload_n hx hb d_Mo_same_46 rfl (lv_at hl 2 rfl) ?_
        refine y_iald (f := (S.1 15)) hx hb hK hP 2 (m_at hri (i := 15) (by decide)) rfl ht.v32 d_Mo_same_47 ?_
        rw [r8 (j_n t) ht.j32]
        refine lv_icmp_ne hx hb d_Mo_same_48 rfl (fun h5 => ?_) (fun h5 => ?_)
        · -- if_icmpne at 48: to 55
          refine lv_iconst (v := 0) hx hb d_Mo_same_55 (by decide) ?_
          refine W.widen (k := 0) (n := 0) (by first | decide | omega) (by first | decide | omega) ?_
          exact x_ret (W.zret (v := 0) hx hb hr rfl (w_fin rfl hAe ⟨m_goodI ((q_y ⟨hs, ht⟩).trans (by rw [w_b0 (fun z => h5 (by rw [z]))])), m_good ((q_y ⟨hs, ht⟩).trans (by rw [w_b0 (fun z => h5 (by rw [z]))])) rfl ((hR0.err 0).up (Nat.le_succ _))⟩ hP hA hS) hS.2.2 d_Mo_same_56)
        · -- if_icmpne at 48: to 51
          refine lv_iconst (v := 1) hx hb d_Mo_same_51 (by decide) ?_
          refine lv_goto hx hb d_Mo_same_52 rfl ?_
          refine W.widen (k := 0) (n := 0) (by first | decide | omega) (by first | decide | omega) ?_
          exact x_ret (W.zret (v := 1) hx hb hr rfl (w_fin rfl hAe ⟨m_goodI ((q_y ⟨hs, ht⟩).trans (by rw [w_b1 ((nI_eq (by have := hw.2.2.1 (j_n sv) hs.j32; omega) (by have := hw.2.2.1 (j_n t) ht.j32; omega)).mp h5)])), m_good ((q_y ⟨hs, ht⟩).trans (by rw [w_b1 ((nI_eq (by have := hw.2.2.1 (j_n sv) hs.j32; omega) (by have := hw.2.2.1 (j_n t) ht.j32; omega)).mp h5)])) rfl ((hR0.err 0).up (Nat.le_succ _))⟩ hP hA hS) hS.2.2 d_Mo_same_56)
      · exact absurd rfl z1
      · exact absurd rfl z1
    · -- ifne at 21: to 24
      have ht : ¬ b_in t 32 := fun z => by have hy_ := h3; rw [c_bit.y (show ¬ t < 0 ∧ t ≤ 31 from (b_inI (n := 31) (by decide)).mpr z)] at hy_; exact absurd hy_ (by decide)
      refine lv_iconst (v := 1) hx hb d_Mo_same_24 (by decide) ?_
      refine lv_goto hx hb d_Mo_same_25 rfl ?_
      refine lv_iconst (v := 1) hx hb d_Mo_same_29 (by decide) ?_
      refine w_callV (As := [.int 1, .int 1]) (C := R_Mo) ⟨hx, hb, hml, hown, hts⟩ (c_Mo_fails l D cK cI cN cZ cL r hri (m_s S 10 0) _ 1 1 (by decide)) (x_cb (cwV (own := R_Mo) (index := 96) (C := R_Mo) 2 hts (x_gi (by decide +kernel)) rfl rfl rfl (by decide +kernel) ⟨by decide, by decide⟩).1) (hts (.instanceMethod y_Mo_fails) (by decide +kernel)) (hts (.selects R_Mo y_Mo_fails y_Mo_fails) (by decide +kernel)) (y_recv (ci := 5) (q := (R_Mo, F_Mo, 20)) hK hP rfl (m_at hri (i := 20) (by decide))) hE hP hA hA0 hS rfl hl.1 rfl (lv_room (Nat.le_of_ble_eq_true rfl)) d_Mo_same_30 (by first | decide | omega) (by first | decide | omega) (fun v9 g9 H locs hq9 hP hA hS => ?_) (fun E9 q9 ce9 g9 H locs hq9 hP hA hS z1 z2 z3 => ?_)
      rotate_left
      · rcases hq9 with z | z | z
        · exact nomatch z.2.2.1
        · exact nomatch z.2.1
        · exact nomatch z.2.2.1
      rcases hq9 with ⟨z1, z2, hv9, hg9⟩ | ⟨z1, hv9, hg9⟩ | ⟨z1, z2, hv9, hg9⟩
      · exact absurd z1 (by decide)
      · exact absurd rfl z1
      · cases hv9
        rw [hg9] at hP hA
        refine W.eq (g2 := F0 m 33 ls [.int 1]) rfl ?_
        refine lv_if_ne hx hb d_Mo_same_33 rfl (fun h6 => ?_) (fun h6 => (absurd h6 (by decide)))
        refine lv_iconst (v := 0) hx hb d_Mo_same_55 (by decide) ?_
        refine W.widen (k := 0) (n := 0) (by first | decide | omega) (by first | decide | omega) ?_
        exact x_ret (W.zret (v := 0) hx hb hr rfl (w_fin rfl hAe ⟨m_badI (i := 0) (q_n (fun z => ht z.2)), m_bad (i := 0) (q_n (fun z => ht z.2)) rfl ((hR0.err 0).err 1)⟩ hP hA hS) hS.2.2 d_Mo_same_56)
set_option maxHeartbeats 4000000 in
set_option maxRecDepth 100000 in
/-- drop(s) -/
theorem c_Mo_drop (l : Launch) (D : va_G) (cK cI cN cZ cL : ClassId) (r : Nat → Nat) (hri : m_inj r) (S : MS) (sz : Nat) (a : Ab) (cn : Nat) (sv : Int32) (hw : a_W a cn) (hc : cn ≤ 512) (hR : m_R a S cn)  : x_M l y_Mo_drop [.code y_Mo_drop b_Mo_drop 3 (some .boolean)] rmV (w_Pc D (x_tys cK cI cN cZ cL) [.ref (r 20), .int sv] (m_w r cN cZ cL S) sz) (w_Qc D (m_w r cN cZ cL S) sz (fun r9 g9 => m_aI (s_drop a sv) r9 ∧ m_E r cN cZ cL (s_drop a sv) cn g9)) 0 0 (y_A (m_w r cN cZ cL S) sz) := by
  refine x_ofW (cc := b_Mo_drop) (maxL := 3) (ret := (some .boolean)) (by decide) rfl ?_
  intro p e s m args below meth c s₁ B hml hno hv
  obtain ⟨rfl, hsz, hP, hE⟩ := hv
  subst hsz
  have hts := hE.hts ([.ref (r 20), .int sv] : List Value).toArray
  have hK := hE.1.2.1
  have hA0 : ∀ q, s.heap.size ≤ q → y_A (m_w r cN cZ cL S) s.heap.size q := fun q h => Or.inr h
  have hA : ∀ q e, (m_w r cN cZ cL S) q = some e → y_A (m_w r cN cZ cL S) s.heap.size q := fun q e h => Or.inl (by rw [h]; exact fun z => nomatch z)
  have hS : va_S (y_A (m_w r cN cZ cL S) s.heap.size) s.heap s.heap [] := va_S.rf
  generalize hAe : y_A (m_w r cN cZ cL S) s.heap.size = A at hE hA0 hA hS ⊢
  have hx := B.exec
  have hb := B.bytes
  have hr := B.returns
  have hlocks := B.notSynchronized
  have hown : s.vm.findClass R_Mo = some m.cls := findClass_of_methodNamed B.named
  have hl := lv_entry ([.ref (r 20), .int sv]) (n := 3) (Nat.le_of_ble_eq_true rfl)
  rw [lg_entry_eq]
  generalize (lg_sl ([.ref (r 20), .int sv]) ++ List.replicate (3 - (lg_sl ([.ref (r 20), .int sv])).length) Slot.unset).toArray = ls at hl ⊢
  have hl : lv_has ls 3 [(0, .ref (r 20)), (1, .int sv)] := hl
  have hR0 := hR
  have hn : a.n ≤ cn := hw.2.2.2.2.2.2.2.2.2.1
  have hmm : a.mem ≤ 65536 := hw.2.2.2.2.2.2.2.2.1
  obtain ⟨r1, ⟨r2, r3, r4, r5⟩, r6, r7, r8, r9, r10, en, r11, r12, r13, r14⟩ := hR
  refine lv_aload_n hx hb d_Mo_drop_0 rfl (lv_at hl 0 rfl) ?_
  refine lv_iconst (v := 0) hx hb d_Mo_drop_1 (by decide) ?_
  refine y_put (D := D) (ci := 5) (v := .int 0) (ty := .int) (C := R_Mo) (T := F_Mo) (N := 20) hx hb hts in_Mo t_Mo t_Mo_ok n_Mo hown hK hP hA hS (m_at hri (i := 20) (by decide)) rfl 10 (by decide) (hts (.fieldLink R_Mo 59 "MemoryDeskModel" "err" "I") (by decide +kernel)) (fun _ h9 => h9) rfl (by decide +kernel) rfl rfl (Nat.le_of_ble_eq_true rfl) d_Mo_drop_2 (fun H locs hP hA hS => ?_)
  have e9 : va_up (m_w r cN cZ cL S) (r 20) (some (.inr (5, [.ref (r 0), .ref (r 1), .ref (r 2), .ref (r 3), .ref (r 4), .ref (r 5), .ref (r 6), .int (S.2.2 7), .int (S.2.2 8), .int (S.2.2 9), .int 0, .ref (r 11), .ref (r 12), .ref (r 13), .int (S.2.2 14), .ref (r 15), .ref (r 16), .ref (r 17), .ref (r 18), .int (S.2.2 19)]))) = (m_w r cN cZ cL (m_s S 10 0)) := m_ws10 hri S 0
  have hP : y_P D vwCl (m_w r cN cZ cL (m_s S 10 0)) H := by rw [← e9]; exact hP
  have hA : ∀ q99 e99, (m_w r cN cZ cL (m_s S 10 0)) q99 = some e99 → A q99 := by rw [← e9]; exact hA
  refine lv_aload_n hx hb d_Mo_drop_5 rfl (lv_at hl 0 rfl) ?_
  refine lv_iload_n hx hb d_Mo_drop_6 rfl (lv_at hl 1 rfl) ?_
  refine lv_bipush (v := 31) hx hb d_Mo_drop_7 (by decide) ?_
  refine w_callS (As := [.int sv, .int 31]) ⟨hx, hb, hml, hown, hts⟩ (c_Mo_in l D cK cI cN cZ cL r hri (m_s S 10 0) _ sv 31) (x_cb (va_cwS (own := R_Mo) (index := 93) 2 hts (x_gi (by decide +kernel)) rfl rfl rfl (by decide +kernel) ⟨by decide, by decide⟩).1) (hts (.static y_Mo_in) (by decide +kernel)) hE hP hA hA0 hS rfl hl.1 rfl (lv_room (Nat.le_of_ble_eq_true rfl)) d_Mo_drop_9 (by first | decide | omega) (by first | decide | omega) (fun v9 g9 H locs hq9 hP hA hS => ?_) (fun E9 q9 ce9 g9 H locs hq9 hP hA hS z1 z2 z3 => ?_)
  rotate_left
  · exact nomatch hq9.1
  obtain ⟨hv9, hg9⟩ := hq9
  cases hv9
  rw [hg9] at hP hA
  refine W.eq (g2 := F0 m 12 ls [.int (c_bit (¬ sv < 0 ∧ sv ≤ 31)), .ref (r 20)]) rfl ?_
  refine lv_if_ne hx hb d_Mo_drop_12 rfl (fun h1 => ?_) (fun h1 => ?_)
  · -- ifne at 12: to 19
    have hs : b_in sv 32 := (b_inI (n := 31) (by decide)).mp (Classical.byContradiction (fun z => h1 (c_bit.n z)))
    refine lv_iconst (v := 0) hx hb d_Mo_drop_19 (by decide) ?_
    refine lv_iconst (v := 1) hx hb d_Mo_drop_20 (by decide) ?_
    refine w_callV (As := [.int 0, .int 1]) (C := R_Mo) ⟨hx, hb, hml, hown, hts⟩ (c_Mo_fails l D cK cI cN cZ cL r hri (m_s S 10 0) _ 0 1 (by decide)) (x_cb (cwV (own := R_Mo) (index := 96) (C := R_Mo) 2 hts (x_gi (by decide +kernel)) rfl rfl rfl (by decide +kernel) ⟨by decide, by decide⟩).1) (hts (.instanceMethod y_Mo_fails) (by decide +kernel)) (hts (.selects R_Mo y_Mo_fails y_Mo_fails) (by decide +kernel)) (y_recv (ci := 5) (q := (R_Mo, F_Mo, 20)) hK hP rfl (m_at hri (i := 20) (by decide))) hE hP hA hA0 hS rfl hl.1 rfl (lv_room (Nat.le_of_ble_eq_true rfl)) d_Mo_drop_21 (by first | decide | omega) (by first | decide | omega) (fun v9 g9 H locs hq9 hP hA hS => ?_) (fun E9 q9 ce9 g9 H locs hq9 hP hA hS z1 z2 z3 => ?_)
    rotate_left
    · rcases hq9 with z | z | z
      · exact nomatch z.2.2.1
      · exact nomatch z.2.1
      · exact nomatch z.2.2.1
    rcases hq9 with ⟨z1, z2, hv9, hg9⟩ | ⟨z1, hv9, hg9⟩ | ⟨z1, z2, hv9, hg9⟩
    · cases hv9
      rw [hg9] at hP hA
      refine W.eq (g2 := F0 m 24 ls [.int 0]) rfl ?_
      refine lv_if_eq hx hb d_Mo_drop_24 rfl (fun h2 => ?_) (fun h2 => (absurd rfl h2))
      refine lv_aload_n hx hb d_Mo_drop_29 rfl (lv_at hl 0 rfl) ?_
      refine y_get (D := D) (ci := 5) (v := .ref (r 15)) (C := R_Mo) (T := F_Mo) (N := 20) hx hb hts in_Mo hown hK hP (m_at hri (i := 20) (by decide)) rfl 15 (by decide) (hts (.fieldLink R_Mo 47 "MemoryDeskModel" "slots" "[I") (by decide +kernel)) (fun _ h9 => h9) rfl d_Mo_drop_30 ?_
      refine lv_iload_n hx hb d_Mo_drop_33 rfl (lv_at hl 1 rfl) ?_
      refine y_iald (f := (S.1 15)) hx hb hK hP 2 (m_at hri (i := 15) (by decide)) rfl hs.v32 d_Mo_drop_34 ?_
      rw [r8 (j_n sv) hs.j32]
      refine lv_if_eq hx hb d_Mo_drop_35 rfl (fun h3 => ?_) (fun h3 => ?_)
      · -- ifeq at 35: to 42
        refine lv_iconst (v := 0) hx hb d_Mo_drop_42 (by decide) ?_
        refine lv_istore_n hx hb d_Mo_drop_43 rfl hl (by decide) rfl (fun ls hl => ?_)
        have hl : lv_has ls 3 [(2, .int 0), (0, .ref (r 20)), (1, .int sv)] := hl
        refine lv_aload_n hx hb d_Mo_drop_44 rfl (lv_at hl 1 rfl) ?_
        refine y_get (D := D) (ci := 5) (v := .ref (r 15)) (C := R_Mo) (T := F_Mo) (N := 20) hx hb hts in_Mo hown hK hP (m_at hri (i := 20) (by decide)) rfl 15 (by decide) (hts (.fieldLink R_Mo 47 "MemoryDeskModel" "slots" "[I") (by decide +kernel)) (fun _ h9 => h9) rfl d_Mo_drop_45 ?_
        refine lv_iload_n hx hb d_Mo_drop_48 rfl (lv_at hl 2 rfl) ?_
        refine lv_iconst (v := 0) hx hb d_Mo_drop_49 (by decide) ?_
        refine y_iast (f := (S.1 15)) hx hb hK hP hA hS 2 (m_at hri (i := 15) (by decide)) rfl hs.v32 d_Mo_drop_50 (fun H locs hP hA hS => ?_)
        have e9 : va_up (m_w r cN cZ cL (m_s S 10 0)) (r 15) (some (.inl (cN, 32, .inl (upd (S.1 15) sv.toNatClampNeg 0)))) = (m_w r cN cZ cL (m_a (m_s S 10 0) 15 sv.toNatClampNeg 0)) := m_wa15 hri (m_s S 10 0) sv.toNatClampNeg 0
        have hP : y_P D vwCl (m_w r cN cZ cL (m_a (m_s S 10 0) 15 sv.toNatClampNeg 0)) H := by rw [← e9]; exact hP
        have hA : ∀ q99 e99, (m_w r cN cZ cL (m_a (m_s S 10 0) 15 sv.toNatClampNeg 0)) q99 = some e99 → A q99 := by rw [← e9]; exact hA
        refine lv_iload_n hx hb d_Mo_drop_51 rfl (lv_at hl 0 rfl) ?_
        refine W.widen (k := 0) (n := 0) (by first | decide | omega) (by first | decide | omega) ?_
        exact x_ret (W.zret (v := 0) hx hb hr rfl (w_fin rfl hAe ⟨m_goodI ((q_y hs).trans (by rw [w_b0 (fun z => z ((nI_eq (b := 0) (by have := hw.2.2.1 (j_n sv) hs.j32; omega) (by omega)).mp h3))])), m_good ((q_y hs).trans (by rw [w_b0 (fun z => z ((nI_eq (b := 0) (by have := hw.2.2.1 (j_n sv) hs.j32; omega) (by omega)).mp h3))])) rfl (((hR0.err 0).puts (o := 0)).up (Nat.le_succ _))⟩ hP hA hS) hS.2.2 d_Mo_drop_52)
      · -- ifeq at 35: to 38
        refine lv_iconst (v := 1) hx hb d_Mo_drop_38 (by decide) ?_
        refine lv_goto hx hb d_Mo_drop_39 rfl ?_
        refine lv_istore_n hx hb d_Mo_drop_43 rfl hl (by decide) rfl (fun ls hl => ?_)
        have hl : lv_has ls 3 [(2, .int 1), (0, .ref (r 20)), (1, .int sv)] := hl
        refine lv_aload_n hx hb d_Mo_drop_44 rfl (lv_at hl 1 rfl) ?_
        refine y_get (D := D) (ci := 5) (v := .ref (r 15)) (C := R_Mo) (T := F_Mo) (N := 20) hx hb hts in_Mo hown hK hP (m_at hri (i := 20) (by decide)) rfl 15 (by decide) (hts (.fieldLink R_Mo 47 "MemoryDeskModel" "slots" "[I") (by decide +kernel)) (fun _ h9 => h9) rfl d_Mo_drop_45 ?_
        refine lv_iload_n hx hb d_Mo_drop_48 rfl (lv_at hl 2 rfl) ?_
        refine lv_iconst (v := 0) hx hb d_Mo_drop_49 (by decide) ?_
        refine y_iast (f := (S.1 15)) hx hb hK hP hA hS 2 (m_at hri (i := 15) (by decide)) rfl hs.v32 d_Mo_drop_50 (fun H locs hP hA hS => ?_)
        have e9 : va_up (m_w r cN cZ cL (m_s S 10 0)) (r 15) (some (.inl (cN, 32, .inl (upd (S.1 15) sv.toNatClampNeg 0)))) = (m_w r cN cZ cL (m_a (m_s S 10 0) 15 sv.toNatClampNeg 0)) := m_wa15 hri (m_s S 10 0) sv.toNatClampNeg 0
        have hP : y_P D vwCl (m_w r cN cZ cL (m_a (m_s S 10 0) 15 sv.toNatClampNeg 0)) H := by rw [← e9]; exact hP
        have hA : ∀ q99 e99, (m_w r cN cZ cL (m_a (m_s S 10 0) 15 sv.toNatClampNeg 0)) q99 = some e99 → A q99 := by rw [← e9]; exact hA
        refine lv_iload_n hx hb d_Mo_drop_51 rfl (lv_at hl 0 rfl) ?_
        refine W.widen (k := 0) (n := 0) (by first | decide | omega) (by first | decide | omega) ?_
        exact x_ret (W.zret (v := 1) hx hb hr rfl (w_fin rfl hAe ⟨m_goodI ((q_y hs).trans (by rw [w_b1 (fun z => h3 (by rw [z]; rfl))])), m_good ((q_y hs).trans (by rw [w_b1 (fun z => h3 (by rw [z]; rfl))])) rfl (((hR0.err 0).puts (o := 0)).up (Nat.le_succ _))⟩ hP hA hS) hS.2.2 d_Mo_drop_52)
    · exact absurd rfl z1
    · exact absurd rfl z1
  · -- ifne at 12: to 15
    have hs : ¬ b_in sv 32 := fun z => by have hy_ := h1; rw [c_bit.y (show ¬ sv < 0 ∧ sv ≤ 31 from (b_inI (n := 31) (by decide)).mpr z)] at hy_; exact absurd hy_ (by decide)
    refine lv_iconst (v := 1) hx hb d_Mo_drop_15 (by decide) ?_
    refine lv_goto hx hb d_Mo_drop_16 rfl ?_
    refine lv_iconst (v := 1) hx hb d_Mo_drop_20 (by decide) ?_
    refine w_callV (As := [.int 1, .int 1]) (C := R_Mo) ⟨hx, hb, hml, hown, hts⟩ (c_Mo_fails l D cK cI cN cZ cL r hri (m_s S 10 0) _ 1 1 (by decide)) (x_cb (cwV (own := R_Mo) (index := 96) (C := R_Mo) 2 hts (x_gi (by decide +kernel)) rfl rfl rfl (by decide +kernel) ⟨by decide, by decide⟩).1) (hts (.instanceMethod y_Mo_fails) (by decide +kernel)) (hts (.selects R_Mo y_Mo_fails y_Mo_fails) (by decide +kernel)) (y_recv (ci := 5) (q := (R_Mo, F_Mo, 20)) hK hP rfl (m_at hri (i := 20) (by decide))) hE hP hA hA0 hS rfl hl.1 rfl (lv_room (Nat.le_of_ble_eq_true rfl)) d_Mo_drop_21 (by first | decide | omega) (by first | decide | omega) (fun v9 g9 H locs hq9 hP hA hS => ?_) (fun E9 q9 ce9 g9 H locs hq9 hP hA hS z1 z2 z3 => ?_)
    rotate_left
    · rcases hq9 with z | z | z
      · exact nomatch z.2.2.1
      · exact nomatch z.2.1
      · exact nomatch z.2.2.1
    rcases hq9 with ⟨z1, z2, hv9, hg9⟩ | ⟨z1, hv9, hg9⟩ | ⟨z1, z2, hv9, hg9⟩
    · exact absurd z1 (by decide)
    · exact absurd rfl z1
    · cases hv9
      rw [hg9] at hP hA
      refine W.eq (g2 := F0 m 24 ls [.int 1]) rfl ?_
      refine lv_if_eq hx hb d_Mo_drop_24 rfl (fun h4 => (absurd h4 (by decide))) (fun h4 => ?_)
      refine lv_iconst (v := 0) hx hb d_Mo_drop_27 (by decide) ?_
      refine W.widen (k := 0) (n := 0) (by first | decide | omega) (by first | decide | omega) ?_
      exact x_ret (W.zret (v := 0) hx hb hr rfl (w_fin rfl hAe ⟨m_badI (i := 0) (q_n hs), m_bad (i := 0) (q_n hs) rfl ((hR0.err 0).err 1)⟩ hP hA hS) hS.2.2 d_Mo_drop_28)
set_option maxHeartbeats 4000000 in
set_option maxRecDepth 100000 in
/-- every(n) -/
theorem c_Mo_every (l : Launch) (D : va_G) (cK cI cN cZ cL : ClassId) (r : Nat → Nat) (hri : m_inj r) (S : MS) (sz : Nat) (a : Ab) (cn : Nat) (n : Int32) (hw : a_W a cn) (hc : cn ≤ 512) (hR : m_R a S cn)  : x_M l y_Mo_every [.code y_Mo_every b_Mo_every 2 none] rmV (w_Pc D (x_tys cK cI cN cZ cL) [.ref (r 20), .int n] (m_w r cN cZ cL S) sz) (w_Qc D (m_w r cN cZ cL S) sz (fun r9 g9 => r9 = .inl none ∧ m_E r cN cZ cL (s_every a n) cn g9)) 0 0 (y_A (m_w r cN cZ cL S) sz) := by
  refine x_ofW (cc := b_Mo_every) (maxL := 2) (ret := none) (by decide) rfl ?_
  intro p e s m args below meth c s₁ B hml hno hv
  obtain ⟨rfl, hsz, hP, hE⟩ := hv
  subst hsz
  have hts := hE.hts ([.ref (r 20), .int n] : List Value).toArray
  have hK := hE.1.2.1
  have hA0 : ∀ q, s.heap.size ≤ q → y_A (m_w r cN cZ cL S) s.heap.size q := fun q h => Or.inr h
  have hA : ∀ q e, (m_w r cN cZ cL S) q = some e → y_A (m_w r cN cZ cL S) s.heap.size q := fun q e h => Or.inl (by rw [h]; exact fun z => nomatch z)
  have hS : va_S (y_A (m_w r cN cZ cL S) s.heap.size) s.heap s.heap [] := va_S.rf
  generalize hAe : y_A (m_w r cN cZ cL S) s.heap.size = A at hE hA0 hA hS ⊢
  have hx := B.exec
  have hb := B.bytes
  have hr := B.returns
  have hlocks := B.notSynchronized
  have hown : s.vm.findClass R_Mo = some m.cls := findClass_of_methodNamed B.named
  have hl := lv_entry ([.ref (r 20), .int n]) (n := 2) (Nat.le_of_ble_eq_true rfl)
  rw [lg_entry_eq]
  generalize (lg_sl ([.ref (r 20), .int n]) ++ List.replicate (2 - (lg_sl ([.ref (r 20), .int n])).length) Slot.unset).toArray = ls at hl ⊢
  have hl : lv_has ls 2 [(0, .ref (r 20)), (1, .int n)] := hl
  have hR0 := hR
  have hn : a.n ≤ cn := hw.2.2.2.2.2.2.2.2.2.1
  have hmm : a.mem ≤ 65536 := hw.2.2.2.2.2.2.2.2.1
  obtain ⟨r1, ⟨r2, r3, r4, r5⟩, r6, r7, r8, r9, r10, en, r11, r12, r13, r14⟩ := hR
  refine lv_aload_n hx hb d_Mo_every_0 rfl (lv_at hl 0 rfl) ?_
  refine lv_iconst (v := 0) hx hb d_Mo_every_1 (by decide) ?_
  refine y_put (D := D) (ci := 5) (v := .int 0) (ty := .int) (C := R_Mo) (T := F_Mo) (N := 20) hx hb hts in_Mo t_Mo t_Mo_ok n_Mo hown hK hP hA hS (m_at hri (i := 20) (by decide)) rfl 10 (by decide) (hts (.fieldLink R_Mo 59 "MemoryDeskModel" "err" "I") (by decide +kernel)) (fun _ h9 => h9) rfl (by decide +kernel) rfl rfl (Nat.le_of_ble_eq_true rfl) d_Mo_every_2 (fun H locs hP hA hS => ?_)
  have e9 : va_up (m_w r cN cZ cL S) (r 20) (some (.inr (5, [.ref (r 0), .ref (r 1), .ref (r 2), .ref (r 3), .ref (r 4), .ref (r 5), .ref (r 6), .int (S.2.2 7), .int (S.2.2 8), .int (S.2.2 9), .int 0, .ref (r 11), .ref (r 12), .ref (r 13), .int (S.2.2 14), .ref (r 15), .ref (r 16), .ref (r 17), .ref (r 18), .int (S.2.2 19)]))) = (m_w r cN cZ cL (m_s S 10 0)) := m_ws10 hri S 0
  have hP : y_P D vwCl (m_w r cN cZ cL (m_s S 10 0)) H := by rw [← e9]; exact hP
  have hA : ∀ q99 e99, (m_w r cN cZ cL (m_s S 10 0)) q99 = some e99 → A q99 := by rw [← e9]; exact hA
  refine lv_aload_n hx hb d_Mo_every_5 rfl (lv_at hl 0 rfl) ?_
  refine lv_iload_n hx hb d_Mo_every_6 rfl (lv_at hl 1 rfl) ?_
  refine lv_if_ge hx hb d_Mo_every_7 rfl (fun h1 => ?_) (fun h1 => ?_)
  · -- ifge at 7: to 14
    refine lv_iconst (v := 0) hx hb d_Mo_every_14 (by decide) ?_
    refine lv_iconst (v := 1) hx hb d_Mo_every_15 (by decide) ?_
    refine w_callV (As := [.int 0, .int 1]) (C := R_Mo) ⟨hx, hb, hml, hown, hts⟩ (c_Mo_fails l D cK cI cN cZ cL r hri (m_s S 10 0) _ 0 1 (by decide)) (x_cb (cwV (own := R_Mo) (index := 96) (C := R_Mo) 2 hts (x_gi (by decide +kernel)) rfl rfl rfl (by decide +kernel) ⟨by decide, by decide⟩).1) (hts (.instanceMethod y_Mo_fails) (by decide +kernel)) (hts (.selects R_Mo y_Mo_fails y_Mo_fails) (by decide +kernel)) (y_recv (ci := 5) (q := (R_Mo, F_Mo, 20)) hK hP rfl (m_at hri (i := 20) (by decide))) hE hP hA hA0 hS rfl hl.1 rfl (lv_room (Nat.le_of_ble_eq_true rfl)) d_Mo_every_16 (by first | decide | omega) (by first | decide | omega) (fun v9 g9 H locs hq9 hP hA hS => ?_) (fun E9 q9 ce9 g9 H locs hq9 hP hA hS z1 z2 z3 => ?_)
    rotate_left
    · rcases hq9 with z | z | z
      · exact nomatch z.2.2.1
      · exact nomatch z.2.1
      · exact nomatch z.2.2.1
    rcases hq9 with ⟨z1, z2, hv9, hg9⟩ | ⟨z1, hv9, hg9⟩ | ⟨z1, z2, hv9, hg9⟩
    · cases hv9
      rw [hg9] at hP hA
      refine W.eq (g2 := F0 m 19 ls [.int 0]) rfl ?_
      refine lv_pop hx hb d_Mo_every_19 rfl ?_
      refine W.widen (k := 0) (n := 0) (by first | decide | omega) (by first | decide | omega) ?_
      exact x_ret (W.vret hx hb hr (w_fin rfl hAe ⟨rfl, m_good (q_y (m_nlt h1)) rfl ((hR0.err 0).up (Nat.le_succ _))⟩ hP hA hS) hS.2.2 d_Mo_every_20)
    · exact absurd rfl z1
    · exact absurd rfl z1
  · -- ifge at 7: to 10
    refine lv_iconst (v := 1) hx hb d_Mo_every_10 (by decide) ?_
    refine lv_goto hx hb d_Mo_every_11 rfl ?_
    refine lv_iconst (v := 1) hx hb d_Mo_every_15 (by decide) ?_
    refine w_callV (As := [.int 1, .int 1]) (C := R_Mo) ⟨hx, hb, hml, hown, hts⟩ (c_Mo_fails l D cK cI cN cZ cL r hri (m_s S 10 0) _ 1 1 (by decide)) (x_cb (cwV (own := R_Mo) (index := 96) (C := R_Mo) 2 hts (x_gi (by decide +kernel)) rfl rfl rfl (by decide +kernel) ⟨by decide, by decide⟩).1) (hts (.instanceMethod y_Mo_fails) (by decide +kernel)) (hts (.selects R_Mo y_Mo_fails y_Mo_fails) (by decide +kernel)) (y_recv (ci := 5) (q := (R_Mo, F_Mo, 20)) hK hP rfl (m_at hri (i := 20) (by decide))) hE hP hA hA0 hS rfl hl.1 rfl (lv_room (Nat.le_of_ble_eq_true rfl)) d_Mo_every_16 (by first | decide | omega) (by first | decide | omega) (fun v9 g9 H locs hq9 hP hA hS => ?_) (fun E9 q9 ce9 g9 H locs hq9 hP hA hS z1 z2 z3 => ?_)
    rotate_left
    · rcases hq9 with z | z | z
      · exact nomatch z.2.2.1
      · exact nomatch z.2.1
      · exact nomatch z.2.2.1
    rcases hq9 with ⟨z1, z2, hv9, hg9⟩ | ⟨z1, hv9, hg9⟩ | ⟨z1, z2, hv9, hg9⟩
    · exact absurd z1 (by decide)
    · exact absurd rfl z1
    · cases hv9
      rw [hg9] at hP hA
      refine W.eq (g2 := F0 m 19 ls [.int 1]) rfl ?_
      refine lv_pop hx hb d_Mo_every_19 rfl ?_
      refine W.widen (k := 0) (n := 0) (by first | decide | omega) (by first | decide | omega) ?_
      exact x_ret (W.vret hx hb hr (w_fin rfl hAe ⟨rfl, m_bad (i := 0) (q_n (fun z => z (b_lt0 h1))) rfl ((hR0.err 0).err 1)⟩ hP hA hS) hS.2.2 d_Mo_every_20)
set_option maxHeartbeats 4000000 in
set_option maxRecDepth 100000 in
/-- row(k, elements) -/
theorem c_Mo_row (l : Launch) (D : va_G) (cK cI cN cZ cL : ClassId) (r : Nat → Nat) (hri : m_inj r) (S : MS) (sz : Nat) (a : Ab) (cn : Nat) (k el : Int32) (hw : a_W a cn) (hc : cn ≤ 512) (hR : m_R a S cn)  : x_M l y_Mo_row [.code y_Mo_row b_Mo_row 3 none] rmV (w_Pc D (x_tys cK cI cN cZ cL) [.ref (r 20), .int k, .int el] (m_w r cN cZ cL S) sz) (w_Qc D (m_w r cN cZ cL S) sz (fun r9 g9 => r9 = .inl none ∧ m_E r cN cZ cL (s_row a k el) cn g9)) 0 0 (y_A (m_w r cN cZ cL S) sz) := by
  refine x_ofW (cc := b_Mo_row) (maxL := 3) (ret := none) (by decide) rfl ?_
  intro p e s m args below meth c s₁ B hml hno hv
  obtain ⟨rfl, hsz, hP, hE⟩ := hv
  subst hsz
  have hts := hE.hts ([.ref (r 20), .int k, .int el] : List Value).toArray
  have hK := hE.1.2.1
  have hA0 : ∀ q, s.heap.size ≤ q → y_A (m_w r cN cZ cL S) s.heap.size q := fun q h => Or.inr h
  have hA : ∀ q e, (m_w r cN cZ cL S) q = some e → y_A (m_w r cN cZ cL S) s.heap.size q := fun q e h => Or.inl (by rw [h]; exact fun z => nomatch z)
  have hS : va_S (y_A (m_w r cN cZ cL S) s.heap.size) s.heap s.heap [] := va_S.rf
  generalize hAe : y_A (m_w r cN cZ cL S) s.heap.size = A at hE hA0 hA hS ⊢
  have hx := B.exec
  have hb := B.bytes
  have hr := B.returns
  have hlocks := B.notSynchronized
  have hown : s.vm.findClass R_Mo = some m.cls := findClass_of_methodNamed B.named
  have hl := lv_entry ([.ref (r 20), .int k, .int el]) (n := 3) (Nat.le_of_ble_eq_true rfl)
  rw [lg_entry_eq]
  generalize (lg_sl ([.ref (r 20), .int k, .int el]) ++ List.replicate (3 - (lg_sl ([.ref (r 20), .int k, .int el])).length) Slot.unset).toArray = ls at hl ⊢
  have hl : lv_has ls 3 [(0, .ref (r 20)), (1, .int k), (2, .int el)] := hl
  have hR0 := hR
  have hn : a.n ≤ cn := hw.2.2.2.2.2.2.2.2.2.1
  have hmm : a.mem ≤ 65536 := hw.2.2.2.2.2.2.2.2.1
  obtain ⟨r1, ⟨r2, r3, r4, r5⟩, r6, r7, r8, r9, r10, en, r11, r12, r13, r14⟩ := hR
  refine lv_aload_n hx hb d_Mo_row_0 rfl (lv_at hl 0 rfl) ?_
  refine lv_iconst (v := 0) hx hb d_Mo_row_1 (by decide) ?_
  refine y_put (D := D) (ci := 5) (v := .int 0) (ty := .int) (C := R_Mo) (T := F_Mo) (N := 20) hx hb hts in_Mo t_Mo t_Mo_ok n_Mo hown hK hP hA hS (m_at hri (i := 20) (by decide)) rfl 10 (by decide) (hts (.fieldLink R_Mo 59 "MemoryDeskModel" "err" "I") (by decide +kernel)) (fun _ h9 => h9) rfl (by decide +kernel) rfl rfl (Nat.le_of_ble_eq_true rfl) d_Mo_row_2 (fun H locs hP hA hS => ?_)
  have e9 : va_up (m_w r cN cZ cL S) (r 20) (some (.inr (5, [.ref (r 0), .ref (r 1), .ref (r 2), .ref (r 3), .ref (r 4), .ref (r 5), .ref (r 6), .int (S.2.2 7), .int (S.2.2 8), .int (S.2.2 9), .int 0, .ref (r 11), .ref (r 12), .ref (r 13), .int (S.2.2 14), .ref (r 15), .ref (r 16), .ref (r 17), .ref (r 18), .int (S.2.2 19)]))) = (m_w r cN cZ cL (m_s S 10 0)) := m_ws10 hri S 0
  have hP : y_P D vwCl (m_w r cN cZ cL (m_s S 10 0)) H := by rw [← e9]; exact hP
  have hA : ∀ q99 e99, (m_w r cN cZ cL (m_s S 10 0)) q99 = some e99 → A q99 := by rw [← e9]; exact hA
  refine lv_aload_n hx hb d_Mo_row_5 rfl (lv_at hl 0 rfl) ?_
  refine lv_iload_n hx hb d_Mo_row_6 rfl (lv_at hl 1 rfl) ?_
  refine lv_bipush (v := 15) hx hb d_Mo_row_7 (by decide) ?_
  refine w_callS (As := [.int k, .int 15]) ⟨hx, hb, hml, hown, hts⟩ (c_Mo_in l D cK cI cN cZ cL r hri (m_s S 10 0) _ k 15) (x_cb (va_cwS (own := R_Mo) (index := 93) 2 hts (x_gi (by decide +kernel)) rfl rfl rfl (by decide +kernel) ⟨by decide, by decide⟩).1) (hts (.static y_Mo_in) (by decide +kernel)) hE hP hA hA0 hS rfl hl.1 rfl (lv_room (Nat.le_of_ble_eq_true rfl)) d_Mo_row_9 (by first | decide | omega) (by first | decide | omega) (fun v9 g9 H locs hq9 hP hA hS => ?_) (fun E9 q9 ce9 g9 H locs hq9 hP hA hS z1 z2 z3 => ?_)
  rotate_left
  · exact nomatch hq9.1
  obtain ⟨hv9, hg9⟩ := hq9
  cases hv9
  rw [hg9] at hP hA
  refine W.eq (g2 := F0 m 12 ls [.int (c_bit (¬ k < 0 ∧ k ≤ 15)), .ref (r 20)]) rfl ?_
  refine lv_if_eq hx hb d_Mo_row_12 rfl (fun h1 => ?_) (fun h1 => ?_)
  · -- ifeq at 12: to 23
    have hk : ¬ b_in k 16 := fun z => by have hy_ := h1; rw [c_bit.y (show ¬ k < 0 ∧ k ≤ 15 from (b_inI (n := 15) (by decide)).mpr z)] at hy_; exact absurd hy_ (by decide)
    refine lv_iconst (v := 1) hx hb d_Mo_row_23 (by decide) ?_
    refine lv_goto hx hb d_Mo_row_24 rfl ?_
    refine lv_iconst (v := 1) hx hb d_Mo_row_28 (by decide) ?_
    refine w_callV (As := [.int 1, .int 1]) (C := R_Mo) ⟨hx, hb, hml, hown, hts⟩ (c_Mo_fails l D cK cI cN cZ cL r hri (m_s S 10 0) _ 1 1 (by decide)) (x_cb (cwV (own := R_Mo) (index := 96) (C := R_Mo) 2 hts (x_gi (by decide +kernel)) rfl rfl rfl (by decide +kernel) ⟨by decide, by decide⟩).1) (hts (.instanceMethod y_Mo_fails) (by decide +kernel)) (hts (.selects R_Mo y_Mo_fails y_Mo_fails) (by decide +kernel)) (y_recv (ci := 5) (q := (R_Mo, F_Mo, 20)) hK hP rfl (m_at hri (i := 20) (by decide))) hE hP hA hA0 hS rfl hl.1 rfl (lv_room (Nat.le_of_ble_eq_true rfl)) d_Mo_row_29 (by first | decide | omega) (by first | decide | omega) (fun v9 g9 H locs hq9 hP hA hS => ?_) (fun E9 q9 ce9 g9 H locs hq9 hP hA hS z1 z2 z3 => ?_)
    rotate_left
    · rcases hq9 with z | z | z
      · exact nomatch z.2.2.1
      · exact nomatch z.2.1
      · exact nomatch z.2.2.1
    rcases hq9 with ⟨z1, z2, hv9, hg9⟩ | ⟨z1, hv9, hg9⟩ | ⟨z1, z2, hv9, hg9⟩
    · exact absurd z1 (by decide)
    · exact absurd rfl z1
    · cases hv9
      rw [hg9] at hP hA
      refine W.eq (g2 := F0 m 32 ls [.int 1]) rfl ?_
      refine lv_if_ne hx hb d_Mo_row_32 rfl (fun h2 => ?_) (fun h2 => (absurd h2 (by decide)))
      refine W.widen (k := 0) (n := 0) (by first | decide | omega) (by first | decide | omega) ?_
      exact x_ret (W.vret hx hb hr (w_fin rfl hAe ⟨rfl, m_bad (i := 0) (q_n (fun z => hk z.1)) rfl ((hR0.err 0).err 1)⟩ hP hA hS) hS.2.2 d_Mo_row_49)
  · -- ifeq at 12: to 15
    have hk : b_in k 16 := (b_inI (n := 15) (by decide)).mp (Classical.byContradiction (fun z => h1 (c_bit.n z)))
    refine lv_iload_n hx hb d_Mo_row_15 rfl (lv_at hl 2 rfl) ?_
    refine lv_iconst (v := 4) hx hb d_Mo_row_16 (by decide) ?_
    refine w_callS (As := [.int el, .int 4]) ⟨hx, hb, hml, hown, hts⟩ (c_Mo_in l D cK cI cN cZ cL r hri (m_s S 10 0) _ el 4) (x_cb (va_cwS (own := R_Mo) (index := 93) 2 hts (x_gi (by decide +kernel)) rfl rfl rfl (by decide +kernel) ⟨by decide, by decide⟩).1) (hts (.static y_Mo_in) (by decide +kernel)) hE hP hA hA0 hS rfl hl.1 rfl (lv_room (Nat.le_of_ble_eq_true rfl)) d_Mo_row_17 (by first | decide | omega) (by first | decide | omega) (fun v9 g9 H locs hq9 hP hA hS => ?_) (fun E9 q9 ce9 g9 H locs hq9 hP hA hS z1 z2 z3 => ?_)
    rotate_left
    · exact nomatch hq9.1
    obtain ⟨hv9, hg9⟩ := hq9
    cases hv9
    rw [hg9] at hP hA
    refine W.eq (g2 := F0 m 20 ls [.int (c_bit (¬ el < 0 ∧ el ≤ 4)), .ref (r 20)]) rfl ?_
    refine lv_if_ne hx hb d_Mo_row_20 rfl (fun h3 => ?_) (fun h3 => ?_)
    · -- ifne at 20: to 27
      have hel : b_in el 5 := (b_inI (n := 4) (by decide)).mp (Classical.byContradiction (fun z => h3 (c_bit.n z)))
      refine lv_iconst (v := 0) hx hb d_Mo_row_27 (by decide) ?_
      refine lv_iconst (v := 1) hx hb d_Mo_row_28 (by decide) ?_
      refine w_callV (As := [.int 0, .int 1]) (C := R_Mo) ⟨hx, hb, hml, hown, hts⟩ (c_Mo_fails l D cK cI cN cZ cL r hri (m_s S 10 0) _ 0 1 (by decide)) (x_cb (cwV (own := R_Mo) (index := 96) (C := R_Mo) 2 hts (x_gi (by decide +kernel)) rfl rfl rfl (by decide +kernel) ⟨by decide, by decide⟩).1) (hts (.instanceMethod y_Mo_fails) (by decide +kernel)) (hts (.selects R_Mo y_Mo_fails y_Mo_fails) (by decide +kernel)) (y_recv (ci := 5) (q := (R_Mo, F_Mo, 20)) hK hP rfl (m_at hri (i := 20) (by decide))) hE hP hA hA0 hS rfl hl.1 rfl (lv_room (Nat.le_of_ble_eq_true rfl)) d_Mo_row_29 (by first | decide | omega) (by first | decide | omega) (fun v9 g9 H locs hq9 hP hA hS => ?_) (fun E9 q9 ce9 g9 H locs hq9 hP hA hS z1 z2 z3 => ?_)
      rotate_left
      · rcases hq9 with z | z | z
        · exact nomatch z.2.2.1
        · exact nomatch z.2.1
        · exact nomatch z.2.2.1
      rcases hq9 with ⟨z1, z2, hv9, hg9⟩ | ⟨z1, hv9, hg9⟩ | ⟨z1, z2, hv9, hg9⟩
      · cases hv9
        rw [hg9] at hP hA
        refine W.eq (g2 := F0 m 32 ls [.int 0]) rfl ?_
        refine lv_if_ne hx hb d_Mo_row_32 rfl (fun h4 => (absurd rfl h4)) (fun h4 => ?_)
        refine lv_aload_n hx hb d_Mo_row_35 rfl (lv_at hl 0 rfl) ?_
        refine lv_aload_n hx hb d_Mo_row_36 rfl (lv_at hl 0 rfl) ?_
        refine y_get (D := D) (ci := 5) (v := .ref (r 3)) (C := R_Mo) (T := F_Mo) (N := 20) hx hb hts in_Mo hown hK hP (m_at hri (i := 20) (by decide)) rfl 3 (by decide) (hts (.fieldLink R_Mo 19 "MemoryDeskModel" "defined" "[Z") (by decide +kernel)) (fun _ h9 => h9) rfl d_Mo_row_37 ?_
        refine lv_iload_n hx hb d_Mo_row_40 rfl (lv_at hl 1 rfl) ?_
        refine y_zald (f := (S.1 3)) hx hb hK hP 3 (m_at hri (i := 3) (by decide)) rfl hk.v16 d_Mo_row_41 ?_
        rcases r1 (j_n k) hk.j16 with ⟨hkd, hdf⟩ | ⟨q, hkd, hdf, -⟩
        · rw [hdf]
          refine lv_iconst (v := 1) hx hb d_Mo_row_42 (by decide) ?_
          refine w_callV (As := [.int 0, .int 1]) (C := R_Mo) ⟨hx, hb, hml, hown, hts⟩ (c_Mo_fails l D cK cI cN cZ cL r hri (m_s S 10 0) _ 0 1 (by decide)) (x_cb (cwV (own := R_Mo) (index := 96) (C := R_Mo) 2 hts (x_gi (by decide +kernel)) rfl rfl rfl (by decide +kernel) ⟨by decide, by decide⟩).1) (hts (.instanceMethod y_Mo_fails) (by decide +kernel)) (hts (.selects R_Mo y_Mo_fails y_Mo_fails) (by decide +kernel)) (y_recv (ci := 5) (q := (R_Mo, F_Mo, 20)) hK hP rfl (m_at hri (i := 20) (by decide))) hE hP hA hA0 hS rfl hl.1 rfl (lv_room (Nat.le_of_ble_eq_true rfl)) d_Mo_row_43 (by first | decide | omega) (by first | decide | omega) (fun v9 g9 H locs hq9 hP hA hS => ?_) (fun E9 q9 ce9 g9 H locs hq9 hP hA hS z1 z2 z3 => ?_)
          rotate_left
          · rcases hq9 with z | z | z
            · exact nomatch z.2.2.1
            · exact nomatch z.2.1
            · exact nomatch z.2.2.1
          rcases hq9 with ⟨z1, z2, hv9, hg9⟩ | ⟨z1, hv9, hg9⟩ | ⟨z1, z2, hv9, hg9⟩
          · cases hv9
            rw [hg9] at hP hA
            refine W.eq (g2 := F0 m 46 ls [.int 0]) rfl ?_
            refine lv_if_eq hx hb d_Mo_row_46 rfl (fun h5 => ?_) (fun h5 => (absurd rfl h5))
            refine lv_aload_n hx hb d_Mo_row_50 rfl (lv_at hl 0 rfl) ?_
            refine y_get (D := D) (ci := 5) (v := .ref (r 3)) (C := R_Mo) (T := F_Mo) (N := 20) hx hb hts in_Mo hown hK hP (m_at hri (i := 20) (by decide)) rfl 3 (by decide) (hts (.fieldLink R_Mo 19 "MemoryDeskModel" "defined" "[Z") (by decide +kernel)) (fun _ h9 => h9) rfl d_Mo_row_51 ?_
            refine lv_iload_n hx hb d_Mo_row_54 rfl (lv_at hl 1 rfl) ?_
            refine lv_iconst (v := 1) hx hb d_Mo_row_55 (by decide) ?_
            refine y_zast (f := (S.1 3)) hx hb hK hP hA hS 3 (m_at hri (i := 3) (by decide)) rfl hk.v16 m_nar1 d_Mo_row_56 (fun H locs hP hA hS => ?_)
            have e9 : va_up (m_w r cN cZ cL (m_s S 10 0)) (r 3) (some (.inl (cZ, 16, .inl (upd (S.1 3) k.toNatClampNeg 1)))) = (m_w r cN cZ cL (m_a (m_s S 10 0) 3 k.toNatClampNeg 1)) := m_wa3 hri (m_s S 10 0) k.toNatClampNeg 1
            have hP : y_P D vwCl (m_w r cN cZ cL (m_a (m_s S 10 0) 3 k.toNatClampNeg 1)) H := by rw [← e9]; exact hP
            have hA : ∀ q99 e99, (m_w r cN cZ cL (m_a (m_s S 10 0) 3 k.toNatClampNeg 1)) q99 = some e99 → A q99 := by rw [← e9]; exact hA
            refine lv_aload_n hx hb d_Mo_row_57 rfl (lv_at hl 0 rfl) ?_
            refine y_get (D := D) (ci := 5) (v := .ref (r 2)) (C := R_Mo) (T := F_Mo) (N := 20) hx hb hts in_Mo hown hK hP (m_at hri (i := 20) (by decide)) rfl 2 (by decide) (hts (.fieldLink R_Mo 16 "MemoryDeskModel" "kindRow" "[I") (by decide +kernel)) (fun _ h9 => h9) rfl d_Mo_row_58 ?_
            refine lv_iload_n hx hb d_Mo_row_61 rfl (lv_at hl 1 rfl) ?_
            refine lv_iload_n hx hb d_Mo_row_62 rfl (lv_at hl 2 rfl) ?_
            refine y_iast (f := (S.1 2)) hx hb hK hP hA hS 2 (m_at hri (i := 2) (by decide)) rfl hk.v16 d_Mo_row_63 (fun H locs hP hA hS => ?_)
            have e9 : va_up (m_w r cN cZ cL (m_a (m_s S 10 0) 3 k.toNatClampNeg 1)) (r 2) (some (.inl (cN, 16, .inl (upd (S.1 2) k.toNatClampNeg el)))) = (m_w r cN cZ cL (m_a (m_a (m_s S 10 0) 3 k.toNatClampNeg 1) 2 k.toNatClampNeg el)) := m_wa2 hri (m_a (m_s S 10 0) 3 k.toNatClampNeg 1) k.toNatClampNeg el
            have hP : y_P D vwCl (m_w r cN cZ cL (m_a (m_a (m_s S 10 0) 3 k.toNatClampNeg 1) 2 k.toNatClampNeg el)) H := by rw [← e9]; exact hP
            have hA : ∀ q99 e99, (m_w r cN cZ cL (m_a (m_a (m_s S 10 0) 3 k.toNatClampNeg 1) 2 k.toNatClampNeg el)) q99 = some e99 → A q99 := by rw [← e9]; exact hA
            refine W.widen (k := 0) (n := 0) (by first | decide | omega) (by first | decide | omega) ?_
            exact x_ret (W.vret hx hb hr (w_fin rfl hAe ⟨rfl, m_good (q_y ⟨hk, hel, hkd⟩) rfl (((hR0.err 0).kindR hel.1).up (Nat.le_succ _))⟩ hP hA hS) hS.2.2 d_Mo_row_64)
          · exact absurd rfl z1
          · exact absurd rfl z1
        · rw [hdf]
          refine lv_iconst (v := 1) hx hb d_Mo_row_42 (by decide) ?_
          refine w_callV (As := [.int 1, .int 1]) (C := R_Mo) ⟨hx, hb, hml, hown, hts⟩ (c_Mo_fails l D cK cI cN cZ cL r hri (m_s S 10 0) _ 1 1 (by decide)) (x_cb (cwV (own := R_Mo) (index := 96) (C := R_Mo) 2 hts (x_gi (by decide +kernel)) rfl rfl rfl (by decide +kernel) ⟨by decide, by decide⟩).1) (hts (.instanceMethod y_Mo_fails) (by decide +kernel)) (hts (.selects R_Mo y_Mo_fails y_Mo_fails) (by decide +kernel)) (y_recv (ci := 5) (q := (R_Mo, F_Mo, 20)) hK hP rfl (m_at hri (i := 20) (by decide))) hE hP hA hA0 hS rfl hl.1 rfl (lv_room (Nat.le_of_ble_eq_true rfl)) d_Mo_row_43 (by first | decide | omega) (by first | decide | omega) (fun v9 g9 H locs hq9 hP hA hS => ?_) (fun E9 q9 ce9 g9 H locs hq9 hP hA hS z1 z2 z3 => ?_)
          rotate_left
          · rcases hq9 with z | z | z
            · exact nomatch z.2.2.1
            · exact nomatch z.2.1
            · exact nomatch z.2.2.1
          rcases hq9 with ⟨z1, z2, hv9, hg9⟩ | ⟨z1, hv9, hg9⟩ | ⟨z1, z2, hv9, hg9⟩
          · exact absurd z1 (by decide)
          · exact absurd rfl z1
          · cases hv9
            rw [hg9] at hP hA
            refine W.eq (g2 := F0 m 46 ls [.int 1]) rfl ?_
            refine lv_if_eq hx hb d_Mo_row_46 rfl (fun h6 => (absurd h6 (by decide))) (fun h6 => ?_)
            refine W.widen (k := 0) (n := 0) (by first | decide | omega) (by first | decide | omega) ?_
            exact x_ret (W.vret hx hb hr (w_fin rfl hAe ⟨rfl, m_bad (i := 0) (q_n (fun z => by rw [hkd] at z; cases z.2.2)) rfl ((hR0.err 0).err 1)⟩ hP hA hS) hS.2.2 d_Mo_row_49)
      · exact absurd rfl z1
      · exact absurd rfl z1
    · -- ifne at 20: to 23
      have hel : ¬ b_in el 5 := fun z => by have hy_ := h3; rw [c_bit.y (show ¬ el < 0 ∧ el ≤ 4 from (b_inI (n := 4) (by decide)).mpr z)] at hy_; exact absurd hy_ (by decide)
      refine lv_iconst (v := 1) hx hb d_Mo_row_23 (by decide) ?_
      refine lv_goto hx hb d_Mo_row_24 rfl ?_
      refine lv_iconst (v := 1) hx hb d_Mo_row_28 (by decide) ?_
      refine w_callV (As := [.int 1, .int 1]) (C := R_Mo) ⟨hx, hb, hml, hown, hts⟩ (c_Mo_fails l D cK cI cN cZ cL r hri (m_s S 10 0) _ 1 1 (by decide)) (x_cb (cwV (own := R_Mo) (index := 96) (C := R_Mo) 2 hts (x_gi (by decide +kernel)) rfl rfl rfl (by decide +kernel) ⟨by decide, by decide⟩).1) (hts (.instanceMethod y_Mo_fails) (by decide +kernel)) (hts (.selects R_Mo y_Mo_fails y_Mo_fails) (by decide +kernel)) (y_recv (ci := 5) (q := (R_Mo, F_Mo, 20)) hK hP rfl (m_at hri (i := 20) (by decide))) hE hP hA hA0 hS rfl hl.1 rfl (lv_room (Nat.le_of_ble_eq_true rfl)) d_Mo_row_29 (by first | decide | omega) (by first | decide | omega) (fun v9 g9 H locs hq9 hP hA hS => ?_) (fun E9 q9 ce9 g9 H locs hq9 hP hA hS z1 z2 z3 => ?_)
      rotate_left
      · rcases hq9 with z | z | z
        · exact nomatch z.2.2.1
        · exact nomatch z.2.1
        · exact nomatch z.2.2.1
      rcases hq9 with ⟨z1, z2, hv9, hg9⟩ | ⟨z1, hv9, hg9⟩ | ⟨z1, z2, hv9, hg9⟩
      · exact absurd z1 (by decide)
      · exact absurd rfl z1
      · cases hv9
        rw [hg9] at hP hA
        refine W.eq (g2 := F0 m 32 ls [.int 1]) rfl ?_
        refine lv_if_ne hx hb d_Mo_row_32 rfl (fun h7 => ?_) (fun h7 => (absurd h7 (by decide)))
        refine W.widen (k := 0) (n := 0) (by first | decide | omega) (by first | decide | omega) ?_
        exact x_ret (W.vret hx hb hr (w_fin rfl hAe ⟨rfl, m_bad (i := 0) (q_n (fun z => hel z.2.1)) rfl ((hR0.err 0).err 1)⟩ hP hA hS) hS.2.2 d_Mo_row_49)
