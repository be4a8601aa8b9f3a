/-! takeRoom -/
section CRoom
theorem f_cmp {u wd mm : Nat} (h1 : u < 2 ^ 31) (h2 : wd < 2 ^ 33) (h3 : mm < 2 ^ 31) : lg_cmp ((nI u).toInt64 + lN wd) (nI mm).toInt64 ≤ 0 ↔ u + wd ≤ mm := by
  rw [lg_cmp_le, nI_l h1, nI_l h3, lN_add, Int64.le_iff_toInt_le, show (lN (u + wd)).toInt = ((u + wd : Nat) : Int) from lg_ofNat_toInt (by omega), show (lN mm).toInt = (mm : Int) from lg_ofNat_toInt (by omega)]
  omega
/-- the class holds a; u words are counted as used -/
def c_T (cK cI : ClassId) (a : Ab) (g : y_G) (d ka sa : Nat) (fk fs : Nat → Option Nat) (ad : Nat → Nat) (cs : Nat → List CL) (ks : List Nat) (itv : Int32) (w u us : Nat) : Prop := ∃ (wk : Nat) (sn : Nat → Nat) (np : Nat → Option Nat) (lv : Nat → Prop),
  c_S a g d ka sa cK cI fk fs ad cs ks itv (nI us) wk sn np none ∧ (∀ o, 1 ≤ o → o ≤ a.n → sn o ≤ wk) ∧ wk ≤ w ∧ u = z_sum (a_wd a) lv a.n ∧ u ≤ a.mem ∧ ∀ o, a_R a o → lv o
theorem c_T.le {cK cI : ClassId} {a : Ab} {g : y_G} {d ka sa : Nat} {fk fs : Nat → Option Nat} {ad : Nat → Nat} {cs : Nat → List CL} {ks : List Nat} {itv : Int32} {w u us : Nat} (h : c_T cK cI a g d ka sa fk fs ad cs ks itv w u us) : a_use a ≤ u := by
  obtain ⟨wk, sn, np, lv, -, -, -, h4, -, h6⟩ := h
  rw [h4]
  exact z_le (fun o _ _ z => h6 o z)
theorem c_T.R {cK cI : ClassId} {a : Ab} {g : y_G} {d ka sa : Nat} {fk fs : Nat → Option Nat} {ad : Nat → Nat} {cs : Nat → List CL} {ks : List Nat} {itv : Int32} {w u : Nat} (h : c_T cK cI a g d ka sa fk fs ad cs ks itv w u u) : c_R cK cI a g d w := by
  obtain ⟨wk, sn, np, lv, h⟩ := h
  exact ⟨ka, sa, fk, fs, ad, cs, ks, itv, u, wk, sn, np, lv, h⟩
theorem c_R.T {cK cI : ClassId} {a : Ab} {g : y_G} {d w : Nat} (h : c_R cK cI a g d w) : ∃ ka sa fk fs ad cs ks itv u, c_T cK cI a g d ka sa fk fs ad cs ks itv w u u := by
  obtain ⟨ka, sa, fk, fs, ad, cs, ks, itv, u, wk, sn, np, lv, h⟩ := h
  exact ⟨ka, sa, fk, fs, ad, cs, ks, itv, u, wk, sn, np, lv, h⟩
end CRoom
set_option maxHeartbeats 4000000 in
set_option maxRecDepth 100000 in
/-- takeRoom(words): there is room, or it throws -/
theorem c_De_takeRoom (l : Launch) (hst : l.stackTraces = false) (D : va_G) (cK cI cN cZ cL : ClassId) (g : y_G) (sz : Nat) (a : Ab) (cn : Nat) (d ka sa : Nat) (fk fs : Nat → Option Nat) (ad : Nat → Nat) (cs : Nat → List CL) (ks : List Nat) (itv : Int32) (w u wd : Nat) (hw : a_W a cn) (hcn : cn < 2 ^ 30) (hwd : wd < 2 ^ 33) (hwk : w < 2 ^ 30)
    (hT : c_T cK cI a g d ka sa fk fs ad cs ks itv w u u) :
    x_M l y_De_takeRoom [.code y_De_takeRoom b_De_takeRoom 4 (some .int)] rmT (w_Pc D (x_tys cK cI cN cZ cL) [.ref d, .long (lN wd)] g sz) (w_Qc D g sz (fun r g9 => (r = .inr xUOE ∧ ¬ (a_use a + wd ≤ a.mem) ∧ c_T cK cI a g9 d ka sa fk fs ad cs ks itv (w + 1) (a_use a) (a_use a)) ∨ (r = .inl (some (.int (nI wd))) ∧ a_use a + wd ≤ a.mem ∧ ∃ u1, u1 + wd ≤ a.mem ∧ c_T cK cI a g9 d ka sa fk fs ad cs ks itv (w + 1) u1 (u1 + wd)))) 1 6 (y_A g sz) := by
  refine x_ofW (cc := b_De_takeRoom) (maxL := 4) (ret := (some .int)) (by decide) rfl ?_
  intro p e s m args below meth c s₁ B hml hno hv
  obtain ⟨rfl, hsz, hP, hE⟩ := hv
  subst hsz
  have hts := hE.hts ([.ref d, .long (lN wd)] : List Value).toArray
  have hK := hE.1.2.1
  have hA0 : ∀ q, s.heap.size ≤ q → y_A g s.heap.size q := fun q h => Or.inr h
  have hA : ∀ q e, g q = some e → y_A g s.heap.size q := fun q e h => Or.inl (by rw [h]; exact fun z => nomatch z)
  have hS : va_S (y_A g s.heap.size) s.heap s.heap [] := va_S.rf
  generalize hAe : y_A g s.heap.size = A at hE hA0 hA hS ⊢
  have hx := B.exec
  have hb := B.bytes
  have hr := B.returns
  have hlocks := B.notSynchronized
  have hown : s.vm.findClass R_De = some m.cls := findClass_of_methodNamed B.named
  have hl := lv_entry ([.ref d, .long (lN wd)]) (n := 4) (Nat.le_of_ble_eq_true rfl)
  rw [lg_entry_eq]
  generalize (lg_sl ([.ref d, .long (lN wd)]) ++ List.replicate (4 - (lg_sl ([.ref d, .long (lN wd)])).length) Slot.unset).toArray = ls at hl ⊢
  have hl : lv_has ls 4 [(0, .ref d), (1, .long (lN wd))] := hl
  obtain ⟨QQ, hQ⟩ : ∃ z, z = x_Q below (w_Qc D g s.heap.size (fun r g9 => (r = .inr xUOE ∧ ¬ (a_use a + wd ≤ a.mem) ∧ c_T cK cI a g9 d ka sa fk fs ad cs ks itv (w + 1) (a_use a) (a_use a)) ∨ (r = .inl (some (.int (nI wd))) ∧ a_use a + wd ≤ a.mem ∧ ∃ u1, u1 + wd ≤ a.mem ∧ c_T cK cI a g9 d ka sa fk fs ad cs ks itv (w + 1) u1 (u1 + wd)))) ([.ref d, .long (lN wd)] : List Value).toArray s 1 6 A := ⟨_, rfl⟩
  rw [← hQ]
  have hn : a.n ≤ cn := hw.2.2.2.2.2.2.2.2.2.1
  have hmm : a.mem ≤ 65536 := hw.2.2.2.2.2.2.2.2.1
  have tail : ∀ (ls : Array Slot) (H : Heap) (locs : List Loc) (g : y_G) (u1 : Nat), lv_has ls 4 [(1, .long (lN wd)), (0, .ref d)] → y_P D vwCl g H → (∀ q99 e99, g q99 = some e99 → A q99) → va_S A s.heap H locs → c_T cK cI a g d ka sa fk fs ad cs ks itv (w + 1) u1 u1 → (u1 + wd ≤ a.mem ∨ u1 = a_use a) → W p l e rmT s m ([.ref d, .long (lN wd)] : List Value).toArray below meth c H locs 0 0 QQ (F0 m 51 ls []) := by
    intro ls H locs g u1 hl hP hA hS hT hor
    have hle := hT.le
    have hT0 := hT
    obtain ⟨wk1, sn1, np1, lv1, hC, hsn, hwk1, hu, hum, hlv⟩ := hT
    refine lv_aload_n hx hb d_De_takeRoom_51 rfl (lv_at hl 1 rfl) ?_
    refine y_get (D := D) (ci := 4) (v := .int (nI u1)) (C := R_De) (T := F_De) (N := 11) hx hb hts in_De hown hK hP hC.1.1 rfl 8 (by decide) (hts (.fieldLink R_De 145 "MemoryDesk" "used" "I") (by decide +kernel)) (fun _ h9 => h9) rfl d_De_takeRoom_52 ?_
    refine lv_i2l hx hb d_De_takeRoom_55 rfl ?_
    refine lv_lload_n hx hb d_De_takeRoom_56 rfl (lv_at hl 0 rfl) ?_
    refine lv_ladd hx hb d_De_takeRoom_57 ?_
    refine lv_aload_n hx hb d_De_takeRoom_58 rfl (lv_at hl 1 rfl) ?_
    refine y_get (D := D) (ci := 4) (v := .int (nI a.mem)) (C := R_De) (T := F_De) (N := 11) hx hb hts in_De hown hK hP hC.1.1 rfl 2 (by decide) (hts (.fieldLink R_De 22 "MemoryDesk" "limit" "I") (by decide +kernel)) (fun _ h9 => h9) rfl d_De_takeRoom_59 ?_
    refine lv_i2l hx hb d_De_takeRoom_62 rfl ?_
    refine W.lcmp hx hb d_De_takeRoom_63 ?_
    refine lv_if_le hx hb d_De_takeRoom_64 rfl (fun h1 => ?_) (fun h1 => ?_)
    · -- ifle at 64: to 77
      have hfit : u1 + wd ≤ a.mem := (f_cmp (by omega) hwd (by omega)).mp h1
      refine lv_aload_n hx hb d_De_takeRoom_77 rfl (lv_at hl 1 rfl) ?_
      refine lv_dup hx hb d_De_takeRoom_78 rfl ?_
      refine y_get (D := D) (ci := 4) (v := .int (nI u1)) (C := R_De) (T := F_De) (N := 11) hx hb hts in_De hown hK hP hC.1.1 rfl 8 (by decide) (hts (.fieldLink R_De 145 "MemoryDesk" "used" "I") (by decide +kernel)) (fun _ h9 => h9) rfl d_De_takeRoom_79 ?_
      refine lv_lload_n hx hb d_De_takeRoom_82 rfl (lv_at hl 0 rfl) ?_
      refine lv_l2i hx hb d_De_takeRoom_83 rfl ?_
      refine lv_iadd hx hb d_De_takeRoom_84 ?_
      rw [lN_i, nI_add]
      refine y_put (D := D) (ci := 4) (v := .int (nI (u1 + wd))) (ty := .int) (C := R_De) (T := F_De) (N := 11) hx hb hts in_De t_De t_De_ok n_De hown hK hP hA hS hC.1.1 rfl 8 (by decide) (hts (.fieldLink R_De 145 "MemoryDesk" "used" "I") (by decide +kernel)) (fun _ h9 => h9) rfl (by decide +kernel) rfl rfl (Nat.le_of_ble_eq_true rfl) d_De_takeRoom_85 (fun H locs hP hA hS => ?_)
      have hP : y_P D vwCl (va_up g d (some (e_desk ka sa (nI a.mem) (nI a.n) (nI a.kc) (nI a.nn) itv (ks.head?.map ad) (nI (u1 + wd)) (nI wk1) none))) H := hP
      have hA : ∀ q99 e99, (va_up g d (some (e_desk ka sa (nI a.mem) (nI a.n) (nI a.kc) (nI a.nn) itv (ks.head?.map ad) (nI (u1 + wd)) (nI wk1) none))) q99 = some e99 → A q99 := hA
      refine lv_lload_n hx hb d_De_takeRoom_88 rfl (lv_at hl 0 rfl) ?_
      refine lv_l2i hx hb d_De_takeRoom_89 rfl ?_
      rw [lN_i]
      rw [hQ]
      refine W.widen (k := 1) (n := 6) (by first | decide | omega) (by first | decide | omega) ?_
      exact x_ret (W.iret (v := (nI wd)) hx hb hr (w_fin rfl hAe (Or.inr ⟨rfl, by omega, u1, hfit, wk1, sn1, np1, lv1, hC.desk, hsn, hwk1, hu, hum, hlv⟩) hP hA hS) hS.2.2 d_De_takeRoom_90)
    · -- ifle at 64: to 67
      have hfit : ¬ u1 + wd ≤ a.mem := fun z => h1 ((f_cmp (by omega) hwd (by omega)).mpr z)
      have he := hor.resolve_left hfit
      subst he
      rw [hQ]
      obtain ⟨sa, hstr⟩ := hE.1.2.2.2.1 (175, "there is no room") (by decide)
      refine W.widen (k := 1 - 1) (n := 6 - 6) (by first | decide | omega) (by first | decide | omega) ?_
      exact x_throw (A := A) (cls := "java/lang/UnsupportedOperationException") (names := ["java/lang/RuntimeException", "java/lang/Exception"]) hx hb hst hown (by decide) (by decide) (hts (.classLink R_De 170 "java/lang/UnsupportedOperationException") (by decide +kernel)) (hts (.initialized "java/lang/UnsupportedOperationException") (by decide +kernel)) hstr (fun w hw ho => hE.1.at _ ho (at_UOE w hw ho)) nt_UOE hE.2.1 hE.2.2.1 hS (hl.1.trans hml.symm) d_De_takeRoom_67 d_De_takeRoom_70 d_De_takeRoom_71 d_De_takeRoom_73 d_De_takeRoom_76 (hno 76) (by decide) (by decide) (by decide) (by decide) hlocks (w_thr rfl hAe (Or.inl ⟨rfl, hfit, hT0⟩) hP hA hS) hS.2.2
  have mid : ∀ (ls : Array Slot) (H : Heap) (locs : List Loc) (g : y_G), lv_has ls 4 [(1, .long (lN wd)), (0, .ref d)] → y_P D vwCl g H → (∀ q99 e99, g q99 = some e99 → A q99) → va_S A s.heap H locs → c_T cK cI a g d ka sa fk fs ad cs ks itv w u u → W p l e rmT s m ([.ref d, .long (lN wd)] : List Value).toArray below meth c H locs 0 0 QQ (F0 m 47 ls []) := by
    intro ls H locs g hl hP hA hS hT
    obtain ⟨wk1, sn1, np1, lv1, hC, hsn, hwk1, hu, hum, hlv⟩ := hT
    have hle : a_use a ≤ u := by rw [hu]; exact z_le (fun o _ _ z => hlv o z)
    refine lv_aload_n hx hb d_De_takeRoom_47 rfl (lv_at hl 1 rfl) ?_
    refine w_callV (As := []) (C := R_De) ⟨hx, hb, hml, hown, hts⟩ (c_De_clearAway l D cK cI cN cZ cL g H.size a cn d ka sa fk fs ad cs ks itv (nI u) wk1 sn1 np1 hw hcn hC hsn (by omega)) (x_cb (cwV (own := R_De) (index := 148) (C := R_De) 0 hts (x_gi (by decide +kernel)) rfl rfl rfl (by decide +kernel) ⟨by decide, by decide⟩).1) (hts (.instanceMethod y_De_clearAway) (by decide +kernel)) (hts (.selects R_De y_De_clearAway y_De_clearAway) (by decide +kernel)) (y_recv (ci := 4) (q := (R_De, F_De, 11)) hK hP rfl hC.1.1) hE hP hA hA0 hS rfl hl.1 rfl (lv_room (Nat.le_of_ble_eq_true rfl)) d_De_takeRoom_48 (by first | decide | omega) (by first | decide | omega) (fun v9 g9 H locs hq9 hP hA hS => ?_) (fun E9 q9 ce9 g9 H locs hq9 hP hA hS z1 z2 z3 => ?_)
    · skip
      obtain ⟨hv9, sn2, np2, hC2, hsn2⟩ := hq9
      cases hv9
      exact tail ls H locs g9 (a_use a) hl hP hA hS ⟨wk1 + 1, sn2, np2, a_R a, hC2, hsn2, by omega, rfl, by omega, fun _ z => z⟩ (Or.inr rfl)
    · skip
      exact nomatch hq9.1
  have turn : ∀ (ls : Array Slot) (t : Int32), lv_has ls 4 [(3, .int t), (1, .long (lN wd)), (0, .ref d)] → W p l e rmT s m ([.ref d, .long (lN wd)] : List Value).toArray below meth c s.heap [] 0 0 QQ (F0 m 27 ls []) := by
    intro ls t hl
    have hT0 := hT
    obtain ⟨wk1, sn1, np1, lv1, hC, hsn, hwk1, hu, hum, hlv⟩ := hT
    refine lv_iload_n hx hb d_De_takeRoom_27 rfl (lv_at hl 0 rfl) ?_
    refine lv_if_ne hx hb d_De_takeRoom_28 rfl (fun h2 => ?_) (fun h2 => ?_)
    · -- ifne at 28: to 47
      have hl : lv_has ls 4 [(1, .long (lN wd)), (0, .ref d)] := lv_sub hl [1, 2] rfl
      exact mid ls s.heap [] g hl hP hA hS hT0
    · -- ifne at 28: to 31
      refine lv_aload_n hx hb d_De_takeRoom_31 rfl (lv_at hl 2 rfl) ?_
      refine y_get (D := D) (ci := 4) (v := .int (nI u)) (C := R_De) (T := F_De) (N := 11) hx hb hts in_De hown hK hP hC.1.1 rfl 8 (by decide) (hts (.fieldLink R_De 145 "MemoryDesk" "used" "I") (by decide +kernel)) (fun _ h9 => h9) rfl d_De_takeRoom_32 ?_
      refine lv_i2l hx hb d_De_takeRoom_35 rfl ?_
      refine lv_lload_n hx hb d_De_takeRoom_36 rfl (lv_at hl 1 rfl) ?_
      refine lv_ladd hx hb d_De_takeRoom_37 ?_
      refine lv_aload_n hx hb d_De_takeRoom_38 rfl (lv_at hl 2 rfl) ?_
      refine y_get (D := D) (ci := 4) (v := .int (nI a.mem)) (C := R_De) (T := F_De) (N := 11) hx hb hts in_De hown hK hP hC.1.1 rfl 2 (by decide) (hts (.fieldLink R_De 22 "MemoryDesk" "limit" "I") (by decide +kernel)) (fun _ h9 => h9) rfl d_De_takeRoom_39 ?_
      refine lv_i2l hx hb d_De_takeRoom_42 rfl ?_
      refine W.lcmp hx hb d_De_takeRoom_43 ?_
      refine lv_if_le hx hb d_De_takeRoom_44 rfl (fun h3 => ?_) (fun h3 => ?_)
      · -- ifle at 44: to 51
        have hl : lv_has ls 4 [(1, .long (lN wd)), (0, .ref d)] := lv_sub hl [1, 2] rfl
        exact tail ls s.heap [] g u hl hP hA hS ⟨wk1, sn1, np1, lv1, hC, hsn, by omega, hu, hum, hlv⟩ (Or.inl ((f_cmp (by omega) hwd (by omega)).mp h3))
      · -- ifle at 44: to 47
        have hl : lv_has ls 4 [(1, .long (lN wd)), (0, .ref d)] := lv_sub hl [1, 2] rfl
        exact mid ls s.heap [] g hl hP hA hS hT0
  obtain ⟨wk1, sn1, np1, lv1, hC, hsn, hwk1, hu, hum, hlv⟩ := hT
  refine lv_aload_n hx hb d_De_takeRoom_0 rfl (lv_at hl 0 rfl) ?_
  refine y_get (D := D) (ci := 4) (v := .int itv) (C := R_De) (T := F_De) (N := 11) hx hb hts in_De hown hK hP hC.1.1 rfl 6 (by decide) (hts (.fieldLink R_De 151 "MemoryDesk" "interval" "I") (by decide +kernel)) (fun _ h9 => h9) rfl d_De_takeRoom_1 ?_
  refine lv_if_le hx hb d_De_takeRoom_4 rfl (fun h4 => ?_) (fun h4 => ?_)
  · -- ifle at 4: to 25
    refine lv_iconst (v := 0) hx hb d_De_takeRoom_25 (by decide) ?_
    refine lv_istore_n hx hb d_De_takeRoom_26 rfl hl (by decide) rfl (fun ls hl => ?_)
    have hl : lv_has ls 4 [(3, .int 0), (0, .ref d), (1, .long (lN wd))] := hl
    have hl : lv_has ls 4 [(3, .int 0), (1, .long (lN wd)), (0, .ref d)] := lv_sub hl [0, 2, 1] rfl
    exact turn ls 0 hl
  · -- ifle at 4: to 7
    refine lv_aload_n hx hb d_De_takeRoom_7 rfl (lv_at hl 0 rfl) ?_
    refine y_get (D := D) (ci := 4) (v := .int (nI a.n)) (C := R_De) (T := F_De) (N := 11) hx hb hts in_De hown hK hP hC.1.1 rfl 3 (by decide) (hts (.fieldLink R_De 85 "MemoryDesk" "made" "I") (by decide +kernel)) (fun _ h9 => h9) rfl d_De_takeRoom_8 ?_
    refine lv_iconst (v := 1) hx hb d_De_takeRoom_11 (by decide) ?_
    refine lv_iadd hx hb d_De_takeRoom_12 ?_
    refine lv_aload_n hx hb d_De_takeRoom_13 rfl (lv_at hl 0 rfl) ?_
    refine y_get (D := D) (ci := 4) (v := .int itv) (C := R_De) (T := F_De) (N := 11) hx hb hts in_De hown hK hP hC.1.1 rfl 6 (by decide) (hts (.fieldLink R_De 151 "MemoryDesk" "interval" "I") (by decide +kernel)) (fun _ h9 => h9) rfl d_De_takeRoom_14 ?_
    refine lv_irem hx hb d_De_takeRoom_17 (fun z => h4 (by rw [z]; decide)) ?_
    refine lv_if_ne hx hb d_De_takeRoom_18 rfl (fun h5 => ?_) (fun h5 => ?_)
    · -- ifne at 18: to 25
      refine lv_iconst (v := 0) hx hb d_De_takeRoom_25 (by decide) ?_
      refine lv_istore_n hx hb d_De_takeRoom_26 rfl hl (by decide) rfl (fun ls hl => ?_)
      have hl : lv_has ls 4 [(3, .int 0), (0, .ref d), (1, .long (lN wd))] := hl
      have hl : lv_has ls 4 [(3, .int 0), (1, .long (lN wd)), (0, .ref d)] := lv_sub hl [0, 2, 1] rfl
      exact turn ls 0 hl
    · -- ifne at 18: to 21
      refine lv_iconst (v := 1) hx hb d_De_takeRoom_21 (by decide) ?_
      refine lv_goto hx hb d_De_takeRoom_22 rfl ?_
      refine lv_istore_n hx hb d_De_takeRoom_26 rfl hl (by decide) rfl (fun ls hl => ?_)
      have hl : lv_has ls 4 [(3, .int 1), (0, .ref d), (1, .long (lN wd))] := hl
      have hl : lv_has ls 4 [(3, .int 1), (1, .long (lN wd)), (0, .ref d)] := lv_sub hl [0, 2, 1] rfl
      exact turn ls 1 hl
