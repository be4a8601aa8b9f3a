/-! the face's methods: plain, row, copy, drop, same -/
section CPub
variable {p : Program} {l : Launch} {e : Env} {R : Room} {s : State} {m : MethodId} {args : Array Value} {below : List Frame} {meth : Method} {c : Code} {H : Heap} {locs : List Loc} {cells slots : Nat} {Q : State → Prop} {cc : ByteArray} {pc a : Nat} {ls : Array Slot} {rest : List Value} {D : va_G} {cl : List vw_C} {tys : List (ClassId × FieldType)} {g : y_G} {A : Nat → Prop} {H0 : Heap}
/-- a store of an object of the array's own class -/
theorem y_astS (hexec : p.tables.exec = Jvm.exec) (hb : c.code = cc) (hK : va_K D cl tys s) (hP : y_P D cl g H) (hA : ∀ q e, g q = some e → A q) (hS : va_S A H0 H locs) (t0 ci : Nat) {cA : ClassId} {r : vw_C} {n v : Nat} {vs : List Value} {f : Nat → Option Nat} (ha : g a = some (.inl (cA, n, .inr (.inr (.inr (.inr f)))))) (ht : tys[t0]? = some (cA, .object r.1)) (hv : g v = some (.inr (ci, vs))) (hc : cl[ci]? = some r) {i : Int32} (hin : vp_in i n) (hdg : decode cc pc = .ok (.aastore, 1))
    (kk : ∀ (H1 : Heap) (locs1 : List Loc), y_P D cl (va_up g a (some (.inl (cA, n, .inr (.inr (.inr (.inr (va_up f i.toNatClampNeg (some v))))))))) H1 → (∀ q e, va_up g a (some (.inl (cA, n, .inr (.inr (.inr (.inr (va_up f i.toNatClampNeg (some v)))))))) q = some e → A q) → va_S A H0 H1 locs1 → W p l e R s m args below meth c H1 locs1 cells slots Q (F0 m (pc + 1) ls rest)) :
    W p l e R s m args below meth c H locs cells slots Q (F0 m pc ls (.ref v :: .int i :: .ref a :: rest)) := by
  have hlt : ∀ q e, g q = some e → q < H.size := fun q e h => y_lt hP h
  obtain ⟨j, hj⟩ := y_idx (hlt a _ ha) ha
  obtain ⟨k, hk⟩ := y_idx (hlt v _ hv) hv
  refine va_astq hexec hb hK (y_toL hP H.size) (y_D hA H.size) hS j t0 k ci hj ht hk hc hin hdg (fun H1 locs1 h1 _ h3 => ?_)
  refine kk H1 locs1 (y_ofSet hlt hj h1) (fun q e h => ?_) h3
  by_cases hq : q = a
  · rw [hq]; exact hA a _ ha
  · rw [va_up_ne _ _ hq] at h; exact hA q e h
abbrev rmP : Room := { frames := 8, cells := 6, slots := 60, locals := 200 }
theorem c_ob.none {ad : Nat → Nat} {o : Nat} (h : c_ob ad o = none) : o = 0 := by
  unfold c_ob at h
  by_cases e : o = 0
  · exact e
  · rw [if_neg e] at h; cases h
theorem c_ob.some {ad : Nat → Nat} {o q : Nat} (h : c_ob ad o = some q) : o ≠ 0 ∧ q = ad o := by
  unfold c_ob at h
  by_cases e : o = 0
  · rw [if_pos e] at h; cases h
  · rw [if_neg e] at h; cases h; exact ⟨e, rfl⟩
theorem c_ob.at {ad : Nat → Nat} {o : Nat} (h : o ≠ 0) : c_ob ad o = .some (ad o) := if_neg h
theorem c_ob.inj {a : Ab} {cn : Nat} {g : y_G} {d ka sa : Nat} {cK cI : ClassId} {fk fs : Nat → Option Nat} {ad : Nat → Nat} {cs : Nat → List CL} {ks : List Nat} {itv us : Int32} {wk : Nat} {sn : Nat → Nat} {np : Nat → Option Nat} {pe : Option Nat} (hC : c_S a g d ka sa cK cI fk fs ad cs ks itv us wk sn np pe) {o o' : Nat} (h1 : o ≤ a.n) (h2 : o' ≤ a.n) : c_ob ad o = c_ob ad o' ↔ o = o' := by
  refine ⟨fun h => ?_, fun h => by rw [h]⟩
  by_cases e : o = 0
  · rw [e] at h
    have h : c_ob ad o' = Option.none := h.symm
    rw [c_ob.none h, e]
  · rw [c_ob.at e] at h
    obtain ⟨z1, z2⟩ := c_ob.some h.symm
    exact hC.2.2.2.2.1 o o' (by omega) h1 (by omega) h2 z2
theorem w_b1 {X : Prop} (h : X) : q_bit X = some (.int 1) := congrArg (fun z => some (Value.int z)) (c_bit.y h)
theorem w_b0 {X : Prop} (h : ¬ X) : q_bit X = some (.int 0) := congrArg (fun z => some (Value.int z)) (c_bit.n h)
end CPub
theorem b_lt17 {w : Int32} (h : w ≤ 16) : w < 17 := by
  rw [Int32.le_iff_toInt_le] at h
  rw [Int32.lt_iff_toInt_lt]
  have e1 : (16 : Int32).toInt = 16 := rfl
  have e2 : (17 : Int32).toInt = 17 := rfl
  omega
theorem b_le17 {w : Int32} (h : w < 17) : w ≤ 16 := by
  rw [Int32.lt_iff_toInt_lt] at h
  rw [Int32.le_iff_toInt_le]
  have e1 : (16 : Int32).toInt = 16 := rfl
  have e2 : (17 : Int32).toInt = 17 := rfl
  omega
theorem b_lt5 {w : Int32} (h : w ≤ 4) : w < 5 := by
  rw [Int32.le_iff_toInt_le] at h
  rw [Int32.lt_iff_toInt_lt]
  have e1 : (4 : Int32).toInt = 4 := rfl
  have e2 : (5 : Int32).toInt = 5 := rfl
  omega
theorem b_le5 {w : Int32} (h : w < 5) : w ≤ 4 := by
  rw [Int32.lt_iff_toInt_lt] at h
  rw [Int32.le_iff_toInt_le]
  have e1 : (4 : Int32).toInt = 4 := rfl
  have e2 : (5 : Int32).toInt = 5 := rfl
  omega
set_option maxHeartbeats 4000000 in
set_option maxRecDepth 100000 in
/-- plain(k, words, mask) -/
theorem c_De_plain (l : Launch) (hst : l.stackTraces = false) (D : va_G) (cK cI cN cZ cL : ClassId) (g : y_G) (sz : Nat) (a : Ab) (cn d : Nat) (k w mk : Int32) (hw : a_W a cn) (hcn : cn < 2 ^ 30) (hR : c_R cK cI a g d cn) : x_M l y_De_plain [.code y_De_plain b_De_plain 4 none] rmP (w_Pc D (x_tys cK cI cN cZ cL) [.ref d, .int k, .int w, .int mk] g sz) (w_Qc D g sz (fun r g9 => x_out [xIAE] (s_plain a k w mk) r ∧ c_R cK cI (s_plain a k w mk).2.2 g9 d (cn + 1))) 6 60 (y_A g sz) := by
  refine x_ofW (cc := b_De_plain) (maxL := 4) (ret := none) (by decide) rfl ?_
  intro p e s m args below meth c s₁ B hml hno hv
  obtain ⟨rfl, hsz, hP, hE⟩ := hv
  subst hsz
  have hts := hE.hts ([.ref d, .int k, .int w, .int mk] : List Value).toArray
  have hK := hE.1.2.1
  have hA0 : ∀ q, s.heap.size ≤ q → y_A g s.heap.size q := fun q h => Or.inr h
  have hA : ∀ q e, g q = some e → y_A g s.heap.size q := fun q e h => Or.inl (by rw [h]; exact fun z => nomatch z)
  have hS : va_S (y_A g s.heap.size) s.heap s.heap [] := va_S.rf
  generalize hAe : y_A g s.heap.size = A at hE hA0 hA hS ⊢
  have hx := B.exec
  have hb := B.bytes
  have hr := B.returns
  have hlocks := B.notSynchronized
  have hown : s.vm.findClass R_De = some m.cls := findClass_of_methodNamed B.named
  have hl := lv_entry ([.ref d, .int k, .int w, .int mk]) (n := 4) (Nat.le_of_ble_eq_true rfl)
  rw [lg_entry_eq]
  generalize (lg_sl ([.ref d, .int k, .int w, .int mk]) ++ List.replicate (4 - (lg_sl ([.ref d, .int k, .int w, .int mk])).length) Slot.unset).toArray = ls at hl ⊢
  have hl : lv_has ls 4 [(0, .ref d), (1, .int k), (2, .int w), (3, .int mk)] := hl
  have hR0 := hR
  obtain ⟨ka, sa, fk, fs, ad, cs, ks, itv, u, wk, sn, np, lv, hC, hsn, hwk, hu, hum, hlv⟩ := hR
  have hn9 : a.n ≤ cn := hw.2.2.2.2.2.2.2.2.2.1
  have hmm : a.mem ≤ 65536 := hw.2.2.2.2.2.2.2.2.1
  refine lv_aload_n hx hb d_De_plain_0 rfl (lv_at hl 0 rfl) ?_
  refine lv_iload_n hx hb d_De_plain_1 rfl (lv_at hl 1 rfl) ?_
  refine w_callV (As := [.int k]) (C := R_De) ⟨hx, hb, hml, hown, hts⟩ (c_De_checkUndefined l hst D cK cI cN cZ cL _ _ d ka sa _ _ _ _ _ _ _ _ _ k fk hC.1.1 hC.1.2.1) (x_cb (cwV (own := R_De) (index := 26) (C := R_De) 1 hts (x_gi (by decide +kernel)) rfl rfl rfl (by decide +kernel) ⟨by decide, by decide⟩).1) (hts (.instanceMethod y_De_checkUndefined) (by decide +kernel)) (hts (.selects R_De y_De_checkUndefined y_De_checkUndefined) (by decide +kernel)) (y_recv (ci := 4) (q := (R_De, F_De, 11)) hK hP rfl hC.1.1) hE hP hA hA0 hS rfl hl.1 rfl (lv_room (Nat.le_of_ble_eq_true rfl)) d_De_plain_2 (by first | decide | omega) (by first | decide | omega) (fun v9 g9 H locs hq9 hP hA hS => ?_) (fun E9 q9 ce9 g9 H locs hq9 hP hA hS z1 z2 z3 => ?_)
  · skip
    obtain ⟨hg9, hq9⟩ := hq9
    rw [hg9] at hP hA
    rcases hq9 with ⟨hv9, hki, hfk⟩ | ⟨hv9, -⟩
    · cases hv9
      refine W.eq (g2 := F0 m 5 ls []) rfl ?_
      have hkd : a.kd (j_n k) = none := by
        rcases hC.2.1 (j_n k) hki.j16 with z | ⟨q, x, z1, z2, -⟩
        · exact z.1
        · rw [hfk] at z2; cases z2
      refine lv_iload_n hx hb d_De_plain_5 rfl (lv_at hl 2 rfl) ?_
      refine lv_if_lt hx hb d_De_plain_6 rfl (fun h1 => ?_) (fun h1 => ?_)
      · -- iflt at 6: to 15
        obtain ⟨sa, hstr⟩ := hE.1.2.2.2.1 (32, "words is not 0..16") (by decide)
        refine W.widen (k := 6 - 1) (n := 60 - 6) (by first | decide | omega) (by first | decide | omega) ?_
        exact x_throw (A := A) (cls := "java/lang/IllegalArgumentException") (names := ["java/lang/RuntimeException", "java/lang/Exception"]) hx hb hst hown (by decide) (by decide) (hts (.classLink R_De 30 "java/lang/IllegalArgumentException") (by decide +kernel)) (hts (.initialized "java/lang/IllegalArgumentException") (by decide +kernel)) hstr (fun w hw ho => hE.1.at _ ho (at_IAE w hw ho)) nt_IAE hE.2.1 hE.2.2.1 hS (hl.1.trans hml.symm) d_De_plain_15 d_De_plain_18 d_De_plain_19 d_De_plain_21 d_De_plain_24 (hno 24) (by decide) (by decide) (by decide) (by decide) hlocks (w_thr rfl hAe (w_bad (i := 0) rfl (q_n (fun z => z.2.1.1 h1)) hR0 (Nat.le_succ _)) hP hA hS) hS.2.2
      · -- iflt at 6: to 9
        refine lv_iload_n hx hb d_De_plain_9 rfl (lv_at hl 2 rfl) ?_
        refine lv_bipush (v := 16) hx hb d_De_plain_10 (by decide) ?_
        refine lv_icmp_le hx hb d_De_plain_12 rfl (fun h2 => ?_) (fun h2 => ?_)
        · -- if_icmple at 12: to 25
          refine lv_iload_n hx hb d_De_plain_25 rfl (lv_at hl 3 rfl) ?_
          refine lv_iload_n hx hb d_De_plain_26 rfl (lv_at hl 2 rfl) ?_
          refine lv_iushr hx hb d_De_plain_27 rfl ?_
          refine lv_if_eq hx hb d_De_plain_28 rfl (fun h3 => ?_) (fun h3 => ?_)
          · -- ifeq at 28: to 41
            refine lv_aload_n hx hb d_De_plain_41 rfl (lv_at hl 0 rfl) ?_
            refine y_get (D := D) (ci := 4) (v := .ref ka) (C := R_De) (T := F_De) (N := 11) hx hb hts in_De hown hK hP hC.1.1 rfl 0 (by decide) (hts (.fieldLink R_De 11 "MemoryDesk" "kinds" "[LMemoryDesk$Kind;") (by decide +kernel)) (fun _ h9 => h9) rfl d_De_plain_42 ?_
            refine lv_iload_n hx hb d_De_plain_45 rfl (lv_at hl 1 rfl) ?_
            refine y_new (ci := 2) (fs := [.int 0, .int 0]) (C := R_Pk) (T := F_Pk) (N := 2) hx hb hts in_Pk t_Pk t_Pk_ok hown (hts (.classLink R_De 39 R_Pk) (by decide +kernel)) (hts (.instantiable R_Pk 2) (by decide +kernel)) (hts (.initialized R_Pk) (by decide +kernel)) hK hP hA hS hA0 rfl (fun j hj => by rcases (show j = 0 ∨ j = 1 by omega) with rfl | rfl <;> rfl) (by first | decide | omega) (by first | decide | omega) d_De_plain_46 (fun x H hg_x hP hA hS => ?_)
            refine lv_dup hx hb d_De_plain_49 rfl ?_
            refine lv_iload_n hx hb d_De_plain_50 rfl (lv_at hl 2 rfl) ?_
            refine lv_iload_n hx hb d_De_plain_51 rfl (lv_at hl 3 rfl) ?_
            refine w_callI (As := [.int w, .int mk]) (bytes := b_Pk_init) ⟨hx, hb, hml, hown, hts⟩ (c_Pk_init l D _ _ _ x w mk (va_up_self _ _ _)) (x_cb (cwI (own := R_De) (index := 41) 2 hts (x_gi (by decide +kernel)) rfl rfl rfl (hts (.initialized R_Pk) (by decide +kernel)) (hts (.methodLink R_De 41 y_Pk_init) (by decide +kernel)) (hts (.instanceMethod y_Pk_init) (by decide +kernel)) rfl (by decide +kernel) ⟨by decide, by decide⟩).1) rfl (hts (.instanceMethod y_Pk_init) (by decide +kernel)) (hts (.code y_Pk_init b_Pk_init 3 none) (by decide +kernel)) hE hP hA hA0 hS (fun _ _ z => nomatch z.1) rfl hl.1 rfl (lv_room (Nat.le_of_ble_eq_true rfl)) d_De_plain_52 (by first | decide | omega) (by first | decide | omega) (fun v9 g9 H locs hq9 hP hA hS => ?_)
            obtain ⟨hv9, hg9⟩ := hq9
            cases hv9
            rw [hg9] at hP hA
            refine W.eq (g2 := F0 m 55 ls [.ref x, .int k, .ref ka]) rfl ?_
            rw [bx_uu] at hP hA
            have hP : y_P D vwCl (va_up g x (some (e_plain w mk))) H := hP
            have hA : ∀ q99 e99, (va_up g x (some (e_plain w mk))) q99 = some e99 → A q99 := hA
            have hkx : ka ≠ x := fun z => by rw [← z, hC.1.2.1] at hg_x; cases hg_x
            have hka : (va_up g x (some (e_plain w mk))) ka = some (e_refs cK 16 fk) := by rw [va_up_ne _ _ hkx]; exact hC.1.2.1
            refine y_astO (r := (R_Pk, F_Pk, 2)) hx hb hK hP hA hS 0 2 hka rfl (hE.1.2.2.1 (.castable R_Pk "MemoryDesk$Kind") (by decide +kernel)) (va_up_self _ _ _) rfl hki.v16 d_De_plain_55 (fun H locs hP hA hS => ?_)
            refine W.widen (k := 6) (n := 60) (by first | decide | omega) (by first | decide | omega) ?_
            exact x_ret (W.vret hx hb hr (w_fin rfl hAe (w_good (v := none) (q_y ⟨hki, ⟨h1, b_lt17 h2⟩, h3, hkd⟩) (c_R.of (hC.kind (q := (-1, w, mk)) hki.j16 hkd hg_x (Or.inl ⟨show (-1 : Int32) < 0 by decide, va_up_self _ _ _⟩)) hsn hwk hu hum hlv rfl (fun o a1 a2 => a_wd.eq (a_kind.old hw hkd a1 a2) rfl) (fun o z => r_kind hw hkd z))) hP hA hS) hS.2.2 d_De_plain_56)
          · -- ifeq at 28: to 31
            obtain ⟨sa, hstr⟩ := hE.1.2.2.2.1 (37, "the mask names words that there are not") (by decide)
            refine W.widen (k := 6 - 1) (n := 60 - 6) (by first | decide | omega) (by first | decide | omega) ?_
            exact x_throw (A := A) (cls := "java/lang/IllegalArgumentException") (names := ["java/lang/RuntimeException", "java/lang/Exception"]) hx hb hst hown (by decide) (by decide) (hts (.classLink R_De 30 "java/lang/IllegalArgumentException") (by decide +kernel)) (hts (.initialized "java/lang/IllegalArgumentException") (by decide +kernel)) hstr (fun w hw ho => hE.1.at _ ho (at_IAE w hw ho)) nt_IAE hE.2.1 hE.2.2.1 hS (hl.1.trans hml.symm) d_De_plain_31 d_De_plain_34 d_De_plain_35 d_De_plain_37 d_De_plain_40 (hno 40) (by decide) (by decide) (by decide) (by decide) hlocks (w_thr rfl hAe (w_bad (i := 0) rfl (q_n (fun z => h3 z.2.2.1)) hR0 (Nat.le_succ _)) hP hA hS) hS.2.2
        · -- if_icmple at 12: to 15
          obtain ⟨sa, hstr⟩ := hE.1.2.2.2.1 (32, "words is not 0..16") (by decide)
          refine W.widen (k := 6 - 1) (n := 60 - 6) (by first | decide | omega) (by first | decide | omega) ?_
          exact x_throw (A := A) (cls := "java/lang/IllegalArgumentException") (names := ["java/lang/RuntimeException", "java/lang/Exception"]) hx hb hst hown (by decide) (by decide) (hts (.classLink R_De 30 "java/lang/IllegalArgumentException") (by decide +kernel)) (hts (.initialized "java/lang/IllegalArgumentException") (by decide +kernel)) hstr (fun w hw ho => hE.1.at _ ho (at_IAE w hw ho)) nt_IAE hE.2.1 hE.2.2.1 hS (hl.1.trans hml.symm) d_De_plain_15 d_De_plain_18 d_De_plain_19 d_De_plain_21 d_De_plain_24 (hno 24) (by decide) (by decide) (by decide) (by decide) hlocks (w_thr rfl hAe (w_bad (i := 0) rfl (q_n (fun z => h2 (b_le17 z.2.1.2))) hR0 (Nat.le_succ _)) hP hA hS) hS.2.2
    · cases hv9
  · skip
    obtain ⟨hg9, hq9⟩ := hq9
    rw [hg9] at hP hA
    rcases hq9 with ⟨hv9, -⟩ | ⟨hv9, hno9⟩
    · cases hv9
    · cases hv9
      have hno8 : ¬ (b_in k 16 ∧ a.kd (j_n k) = none) := fun z => hno9 ⟨z.1, by
        rcases hC.2.1 (j_n k) z.1.j16 with y | ⟨q, x, z1, z2, -⟩
        · exact y.2
        · rw [z.2] at z1; cases z1⟩
      refine x_W.widen (k := 6) (n := 60) (by first | decide | omega) (by first | decide | omega) ?_
      exact x_leave (hno 2) hlocks (w_lea rfl hAe (w_bad (i := 0) rfl (q_n (fun z => hno8 ⟨z.1, z.2.2.2⟩)) hR0 (Nat.le_succ _)) hP hA hS z1 z2 z3) hS.2.2
set_option maxHeartbeats 4000000 in
set_option maxRecDepth 100000 in
/-- row(k, elements) -/
theorem c_De_row (l : Launch) (hst : l.stackTraces = false) (D : va_G) (cK cI cN cZ cL : ClassId) (g : y_G) (sz : Nat) (a : Ab) (cn d : Nat) (k el : Int32) (hw : a_W a cn) (hcn : cn < 2 ^ 30) (hR : c_R cK cI a g d cn) : x_M l y_De_row [.code y_De_row b_De_row 3 none] rmP (w_Pc D (x_tys cK cI cN cZ cL) [.ref d, .int k, .int el] g sz) (w_Qc D g sz (fun r g9 => x_out [xIAE] (s_row a k el) r ∧ c_R cK cI (s_row a k el).2.2 g9 d (cn + 1))) 6 60 (y_A g sz) := by
  refine x_ofW (cc := b_De_row) (maxL := 3) (ret := none) (by decide) rfl ?_
  intro p e s m args below meth c s₁ B hml hno hv
  obtain ⟨rfl, hsz, hP, hE⟩ := hv
  subst hsz
  have hts := hE.hts ([.ref d, .int k, .int el] : List Value).toArray
  have hK := hE.1.2.1
  have hA0 : ∀ q, s.heap.size ≤ q → y_A g s.heap.size q := fun q h => Or.inr h
  have hA : ∀ q e, g q = some e → y_A g s.heap.size q := fun q e h => Or.inl (by rw [h]; exact fun z => nomatch z)
  have hS : va_S (y_A g s.heap.size) s.heap s.heap [] := va_S.rf
  generalize hAe : y_A g s.heap.size = A at hE hA0 hA hS ⊢
  have hx := B.exec
  have hb := B.bytes
  have hr := B.returns
  have hlocks := B.notSynchronized
  have hown : s.vm.findClass R_De = some m.cls := findClass_of_methodNamed B.named
  have hl := lv_entry ([.ref d, .int k, .int el]) (n := 3) (Nat.le_of_ble_eq_true rfl)
  rw [lg_entry_eq]
  generalize (lg_sl ([.ref d, .int k, .int el]) ++ List.replicate (3 - (lg_sl ([.ref d, .int k, .int el])).length) Slot.unset).toArray = ls at hl ⊢
  have hl : lv_has ls 3 [(0, .ref d), (1, .int k), (2, .int el)] := hl
  have hR0 := hR
  obtain ⟨ka, sa, fk, fs, ad, cs, ks, itv, u, wk, sn, np, lv, hC, hsn, hwk, hu, hum, hlv⟩ := hR
  have hn9 : a.n ≤ cn := hw.2.2.2.2.2.2.2.2.2.1
  have hmm : a.mem ≤ 65536 := hw.2.2.2.2.2.2.2.2.1
  refine lv_aload_n hx hb d_De_row_0 rfl (lv_at hl 0 rfl) ?_
  refine lv_iload_n hx hb d_De_row_1 rfl (lv_at hl 1 rfl) ?_
  refine w_callV (As := [.int k]) (C := R_De) ⟨hx, hb, hml, hown, hts⟩ (c_De_checkUndefined l hst D cK cI cN cZ cL _ _ d ka sa _ _ _ _ _ _ _ _ _ k fk hC.1.1 hC.1.2.1) (x_cb (cwV (own := R_De) (index := 26) (C := R_De) 1 hts (x_gi (by decide +kernel)) rfl rfl rfl (by decide +kernel) ⟨by decide, by decide⟩).1) (hts (.instanceMethod y_De_checkUndefined) (by decide +kernel)) (hts (.selects R_De y_De_checkUndefined y_De_checkUndefined) (by decide +kernel)) (y_recv (ci := 4) (q := (R_De, F_De, 11)) hK hP rfl hC.1.1) hE hP hA hA0 hS rfl hl.1 rfl (lv_room (Nat.le_of_ble_eq_true rfl)) d_De_row_2 (by first | decide | omega) (by first | decide | omega) (fun v9 g9 H locs hq9 hP hA hS => ?_) (fun E9 q9 ce9 g9 H locs hq9 hP hA hS z1 z2 z3 => ?_)
  · skip
    obtain ⟨hg9, hq9⟩ := hq9
    rw [hg9] at hP hA
    rcases hq9 with ⟨hv9, hki, hfk⟩ | ⟨hv9, -⟩
    · cases hv9
      refine W.eq (g2 := F0 m 5 ls []) rfl ?_
      have hkd : a.kd (j_n k) = none := by
        rcases hC.2.1 (j_n k) hki.j16 with z | ⟨q, x, z1, z2, -⟩
        · exact z.1
        · rw [hfk] at z2; cases z2
      refine lv_iload_n hx hb d_De_row_5 rfl (lv_at hl 2 rfl) ?_
      refine lv_if_lt hx hb d_De_row_6 rfl (fun h1 => ?_) (fun h1 => ?_)
      · -- iflt at 6: to 14
        obtain ⟨sa, hstr⟩ := hE.1.2.2.2.1 (44, "elements is not 0..4") (by decide)
        refine W.widen (k := 6 - 1) (n := 60 - 6) (by first | decide | omega) (by first | decide | omega) ?_
        exact x_throw (A := A) (cls := "java/lang/IllegalArgumentException") (names := ["java/lang/RuntimeException", "java/lang/Exception"]) hx hb hst hown (by decide) (by decide) (hts (.classLink R_De 30 "java/lang/IllegalArgumentException") (by decide +kernel)) (hts (.initialized "java/lang/IllegalArgumentException") (by decide +kernel)) hstr (fun w hw ho => hE.1.at _ ho (at_IAE w hw ho)) nt_IAE hE.2.1 hE.2.2.1 hS (hl.1.trans hml.symm) d_De_row_14 d_De_row_17 d_De_row_18 d_De_row_20 d_De_row_23 (hno 23) (by decide) (by decide) (by decide) (by decide) hlocks (w_thr rfl hAe (w_bad (i := 0) rfl (q_n (fun z => z.2.1.1 h1)) hR0 (Nat.le_succ _)) hP hA hS) hS.2.2
      · -- iflt at 6: to 9
        refine lv_iload_n hx hb d_De_row_9 rfl (lv_at hl 2 rfl) ?_
        refine lv_iconst (v := 4) hx hb d_De_row_10 (by decide) ?_
        refine lv_icmp_le hx hb d_De_row_11 rfl (fun h2 => ?_) (fun h2 => ?_)
        · -- if_icmple at 11: to 24
          have hel : b_in el 5 := ⟨h1, b_lt5 h2⟩
          have vel : vp_in el 5 := by
            obtain ⟨j1, j2⟩ := b_in.j (n := 5) hel (by decide)
            rw [j2]
            exact vp_in_nI j1 (by decide)
          refine lv_aload_n hx hb d_De_row_24 rfl (lv_at hl 0 rfl) ?_
          refine y_get (D := D) (ci := 4) (v := .ref ka) (C := R_De) (T := F_De) (N := 11) hx hb hts in_De hown hK hP hC.1.1 rfl 0 (by decide) (hts (.fieldLink R_De 11 "MemoryDesk" "kinds" "[LMemoryDesk$Kind;") (by decide +kernel)) (fun _ h9 => h9) rfl d_De_row_25 ?_
          refine lv_iload_n hx hb d_De_row_28 rfl (lv_at hl 1 rfl) ?_
          refine y_new (ci := 3) (fs := [.int 0, .int 0]) (C := R_Rk) (T := F_Rk) (N := 2) hx hb hts in_Rk t_Rk t_Rk_ok hown (hts (.classLink R_De 46 R_Rk) (by decide +kernel)) (hts (.instantiable R_Rk 2) (by decide +kernel)) (hts (.initialized R_Rk) (by decide +kernel)) hK hP hA hS hA0 rfl (fun j hj => by rcases (show j = 0 ∨ j = 1 by omega) with rfl | rfl <;> rfl) (by first | decide | omega) (by first | decide | omega) d_De_row_29 (fun x H hg_x hP hA hS => ?_)
          refine lv_dup hx hb d_De_row_32 rfl ?_
          refine lv_iload_n hx hb d_De_row_33 rfl (lv_at hl 2 rfl) ?_
          obtain ⟨t9, hZ9, hT9⟩ := hE.2.2.2
          refine va_gets (C := R_De) (ref := R_De) hx hb hZ9 hS hown (hts (.fieldLink R_De 48 R_De "ELEMENT_BITS" "[I") (by decide +kernel)) (fun _ h9 => h9) d_De_row_34 ?_
          refine lv_iload_n hx hb d_De_row_37 rfl (lv_at hl 2 rfl) ?_
          refine va_ti hx hb hT9 hS (vel) (v := .int (c_bits el)) rfl d_De_row_38 ?_
          refine w_callI (As := [.int el, .int (c_bits el)]) (bytes := b_Rk_init) ⟨hx, hb, hml, hown, hts⟩ (c_Rk_init l D _ _ _ x el (c_bits el) (va_up_self _ _ _)) (x_cb (cwI (own := R_De) (index := 52) 2 hts (x_gi (by decide +kernel)) rfl rfl rfl (hts (.initialized R_Rk) (by decide +kernel)) (hts (.methodLink R_De 52 y_Rk_init) (by decide +kernel)) (hts (.instanceMethod y_Rk_init) (by decide +kernel)) rfl (by decide +kernel) ⟨by decide, by decide⟩).1) rfl (hts (.instanceMethod y_Rk_init) (by decide +kernel)) (hts (.code y_Rk_init b_Rk_init 3 none) (by decide +kernel)) hE hP hA hA0 hS (fun _ _ z => nomatch z.1) rfl hl.1 rfl (lv_room (Nat.le_of_ble_eq_true rfl)) d_De_row_39 (by first | decide | omega) (by first | decide | omega) (fun v9 g9 H locs hq9 hP hA hS => ?_)
          obtain ⟨hv9, hg9⟩ := hq9
          cases hv9
          rw [hg9] at hP hA
          refine W.eq (g2 := F0 m 42 ls [.ref x, .int k, .ref ka]) rfl ?_
          rw [bx_uu] at hP hA
          have hP : y_P D vwCl (va_up g x (some (e_row el (c_bits el)))) H := hP
          have hA : ∀ q99 e99, (va_up g x (some (e_row el (c_bits el)))) q99 = some e99 → A q99 := hA
          have hkx : ka ≠ x := fun z => by rw [← z, hC.1.2.1] at hg_x; cases hg_x
          have hka : (va_up g x (some (e_row el (c_bits el)))) ka = some (e_refs cK 16 fk) := by rw [va_up_ne _ _ hkx]; exact hC.1.2.1
          refine y_astO (r := (R_Rk, F_Rk, 2)) hx hb hK hP hA hS 0 3 hka rfl (hE.1.2.2.1 (.castable R_Rk "MemoryDesk$Kind") (by decide +kernel)) (va_up_self _ _ _) rfl hki.v16 d_De_row_42 (fun H locs hP hA hS => ?_)
          refine W.widen (k := 6) (n := 60) (by first | decide | omega) (by first | decide | omega) ?_
          exact x_ret (W.vret hx hb hr (w_fin rfl hAe (w_good (v := none) (q_y ⟨hki, hel, hkd⟩) (c_R.of (hC.kind (q := (el, 0, 0)) hki.j16 hkd hg_x (Or.inr ⟨hel.1, va_up_self _ _ _⟩)) hsn hwk hu hum hlv rfl (fun o a1 a2 => a_wd.eq (a_kind.old hw hkd a1 a2) rfl) (fun o z => r_kind hw hkd z))) hP hA hS) hS.2.2 d_De_row_43)
        · -- if_icmple at 11: to 14
          obtain ⟨sa, hstr⟩ := hE.1.2.2.2.1 (44, "elements is not 0..4") (by decide)
          refine W.widen (k := 6 - 1) (n := 60 - 6) (by first | decide | omega) (by first | decide | omega) ?_
          exact x_throw (A := A) (cls := "java/lang/IllegalArgumentException") (names := ["java/lang/RuntimeException", "java/lang/Exception"]) hx hb hst hown (by decide) (by decide) (hts (.classLink R_De 30 "java/lang/IllegalArgumentException") (by decide +kernel)) (hts (.initialized "java/lang/IllegalArgumentException") (by decide +kernel)) hstr (fun w hw ho => hE.1.at _ ho (at_IAE w hw ho)) nt_IAE hE.2.1 hE.2.2.1 hS (hl.1.trans hml.symm) d_De_row_14 d_De_row_17 d_De_row_18 d_De_row_20 d_De_row_23 (hno 23) (by decide) (by decide) (by decide) (by decide) hlocks (w_thr rfl hAe (w_bad (i := 0) rfl (q_n (fun z => h2 (b_le5 z.2.1.2))) hR0 (Nat.le_succ _)) hP hA hS) hS.2.2
    · cases hv9
  · skip
    obtain ⟨hg9, hq9⟩ := hq9
    rw [hg9] at hP hA
    rcases hq9 with ⟨hv9, -⟩ | ⟨hv9, hno9⟩
    · cases hv9
    · cases hv9
      have hno8 : ¬ (b_in k 16 ∧ a.kd (j_n k) = none) := fun z => hno9 ⟨z.1, by
        rcases hC.2.1 (j_n k) z.1.j16 with y | ⟨q, x, z1, z2, -⟩
        · exact y.2
        · rw [z.2] at z1; cases z1⟩
      refine x_W.widen (k := 6) (n := 60) (by first | decide | omega) (by first | decide | omega) ?_
      exact x_leave (hno 2) hlocks (w_lea rfl hAe (w_bad (i := 0) rfl (q_n (fun z => hno8 ⟨z.1, z.2.2⟩)) hR0 (Nat.le_succ _)) hP hA hS z1 z2 z3) hS.2.2
set_option maxHeartbeats 4000000 in
set_option maxRecDepth 100000 in
/-- copy(s, t) -/
theorem c_De_copy (l : Launch) (hst : l.stackTraces = false) (D : va_G) (cK cI cN cZ cL : ClassId) (g : y_G) (sz : Nat) (a : Ab) (cn d : Nat) (sv t : Int32) (hw : a_W a cn) (hcn : cn < 2 ^ 30) (hR : c_R cK cI a g d cn) : x_M l y_De_copy [.code y_De_copy b_De_copy 3 (some .boolean)] rmP (w_Pc D (x_tys cK cI cN cZ cL) [.ref d, .int sv, .int t] g sz) (w_Qc D g sz (fun r g9 => x_out [xIAE] (s_copy a sv t) r ∧ c_R cK cI (s_copy a sv t).2.2 g9 d (cn + 1))) 6 60 (y_A g sz) := by
  refine x_ofW (cc := b_De_copy) (maxL := 3) (ret := (some .boolean)) (by decide) rfl ?_
  intro p e s m args below meth c s₁ B hml hno hv
  obtain ⟨rfl, hsz, hP, hE⟩ := hv
  subst hsz
  have hts := hE.hts ([.ref d, .int sv, .int t] : List Value).toArray
  have hK := hE.1.2.1
  have hA0 : ∀ q, s.heap.size ≤ q → y_A g s.heap.size q := fun q h => Or.inr h
  have hA : ∀ q e, g q = some e → y_A g s.heap.size q := fun q e h => Or.inl (by rw [h]; exact fun z => nomatch z)
  have hS : va_S (y_A g s.heap.size) s.heap s.heap [] := va_S.rf
  generalize hAe : y_A g s.heap.size = A at hE hA0 hA hS ⊢
  have hx := B.exec
  have hb := B.bytes
  have hr := B.returns
  have hlocks := B.notSynchronized
  have hown : s.vm.findClass R_De = some m.cls := findClass_of_methodNamed B.named
  have hl := lv_entry ([.ref d, .int sv, .int t]) (n := 3) (Nat.le_of_ble_eq_true rfl)
  rw [lg_entry_eq]
  generalize (lg_sl ([.ref d, .int sv, .int t]) ++ List.replicate (3 - (lg_sl ([.ref d, .int sv, .int t])).length) Slot.unset).toArray = ls at hl ⊢
  have hl : lv_has ls 3 [(0, .ref d), (1, .int sv), (2, .int t)] := hl
  have hR0 := hR
  obtain ⟨ka, sa, fk, fs, ad, cs, ks, itv, u, wk, sn, np, lv, hC, hsn, hwk, hu, hum, hlv⟩ := hR
  have hn9 : a.n ≤ cn := hw.2.2.2.2.2.2.2.2.2.1
  have hmm : a.mem ≤ 65536 := hw.2.2.2.2.2.2.2.2.1
  refine lv_iload_n hx hb d_De_copy_0 rfl (lv_at hl 1 rfl) ?_
  refine w_callS (As := [.int sv]) ⟨hx, hb, hml, hown, hts⟩ (c_De_checkSlot l hst D _ _ _ sv) (x_cb (va_cwS (own := R_De) (index := 53) 1 hts (x_gi (by decide +kernel)) rfl rfl rfl (by decide +kernel) ⟨by decide, by decide⟩).1) (hts (.static y_De_checkSlot) (by decide +kernel)) hE hP hA hA0 hS rfl hl.1 rfl (lv_room (Nat.le_of_ble_eq_true rfl)) d_De_copy_1 (by first | decide | omega) (by first | decide | omega) (fun v9 g9 H locs hq9 hP hA hS => ?_) (fun E9 q9 ce9 g9 H locs hq9 hP hA hS z1 z2 z3 => ?_)
  · skip
    obtain ⟨hg9, hq9⟩ := hq9
    rw [hg9] at hP hA
    rcases hq9 with ⟨hv9, hs⟩ | ⟨hv9, -⟩
    · cases hv9
      refine W.eq (g2 := F0 m 4 ls []) rfl ?_
      refine lv_iload_n hx hb d_De_copy_4 rfl (lv_at hl 2 rfl) ?_
      refine w_callS (As := [.int t]) ⟨hx, hb, hml, hown, hts⟩ (c_De_checkSlot l hst D _ _ _ t) (x_cb (va_cwS (own := R_De) (index := 53) 1 hts (x_gi (by decide +kernel)) rfl rfl rfl (by decide +kernel) ⟨by decide, by decide⟩).1) (hts (.static y_De_checkSlot) (by decide +kernel)) hE hP hA hA0 hS rfl hl.1 rfl (lv_room (Nat.le_of_ble_eq_true rfl)) d_De_copy_5 (by first | decide | omega) (by first | decide | omega) (fun v9 g9 H locs hq9 hP hA hS => ?_) (fun E9 q9 ce9 g9 H locs hq9 hP hA hS z1 z2 z3 => ?_)
      · skip
        obtain ⟨hg9, hq9⟩ := hq9
        rw [hg9] at hP hA
        rcases hq9 with ⟨hv9, ht⟩ | ⟨hv9, -⟩
        · cases hv9
          refine W.eq (g2 := F0 m 8 ls []) rfl ?_
          refine lv_aload_n hx hb d_De_copy_8 rfl (lv_at hl 0 rfl) ?_
          refine y_get (D := D) (ci := 4) (v := .ref sa) (C := R_De) (T := F_De) (N := 11) hx hb hts in_De hown hK hP hC.1.1 rfl 1 (by decide) (hts (.fieldLink R_De 17 "MemoryDesk" "slots" "[LMemoryDesk$Item;") (by decide +kernel)) (fun _ h9 => h9) rfl d_De_copy_9 ?_
          refine lv_iload_n hx hb d_De_copy_12 rfl (lv_at hl 1 rfl) ?_
          refine lv_aload_n hx hb d_De_copy_13 rfl (lv_at hl 0 rfl) ?_
          refine y_get (D := D) (ci := 4) (v := .ref sa) (C := R_De) (T := F_De) (N := 11) hx hb hts in_De hown hK hP hC.1.1 rfl 1 (by decide) (hts (.fieldLink R_De 17 "MemoryDesk" "slots" "[LMemoryDesk$Item;") (by decide +kernel)) (fun _ h9 => h9) rfl d_De_copy_14 ?_
          refine lv_iload_n hx hb d_De_copy_17 rfl (lv_at hl 2 rfl) ?_
          refine y_aldq hx hb hK hP 1 hC.1.2.2 rfl ht.v32 d_De_copy_18 ?_
          have hft := hC.2.2.1 (j_n t) ht.j32
          obtain ⟨o_q, hq⟩ : ∃ z, (fs t.toNatClampNeg) = z := ⟨_, rfl⟩
          refine W.eq (g2 := F0 m 19 ls [va_rf o_q, .int sv, .ref sa]) (congrArg (fun z => F0 m 19 ls [va_rf z, .int sv, .ref sa]) hq) ?_
          cases o_q with
          | none =>
            refine y_astN hx hb hK hP hA hS 1 hC.1.2.2 rfl hs.v32 d_De_copy_19 (fun H locs hP hA hS => ?_)
            have hP : y_P D vwCl (va_up g sa (some (e_refs cI 32 (va_up fs (j_n sv) none)))) H := hP
            have hA : ∀ q99 e99, (va_up g sa (some (e_refs cI 32 (va_up fs (j_n sv) none)))) q99 = some e99 → A q99 := hA
            refine lv_aload_n hx hb d_De_copy_20 rfl (lv_at hl 0 rfl) ?_
            have hd1 : (va_up g sa (some (e_refs cI 32 (va_up fs (j_n sv) none)))) d = some (.inr (4, [.ref ka, .ref sa, .int (nI a.mem), .int (nI a.n), .int (nI a.kc), .int (nI a.nn), .int itv, va_rf (ks.head?.map ad), .int (nI u), .int (nI wk), .null])) := by rw [va_up_ne _ _ hC.dne.2.1.symm]; exact hC.1.1
            refine y_get (D := D) (ci := 4) (v := .ref sa) (C := R_De) (T := F_De) (N := 11) hx hb hts in_De hown hK hP hd1 rfl 1 (by decide) (hts (.fieldLink R_De 17 "MemoryDesk" "slots" "[LMemoryDesk$Item;") (by decide +kernel)) (fun _ h9 => h9) rfl d_De_copy_21 ?_
            refine lv_iload_n hx hb d_De_copy_24 rfl (lv_at hl 1 rfl) ?_
            refine y_aldq hx hb hK hP 1 (va_up_self _ _ _) rfl hs.v32 d_De_copy_25 ?_
            rw [va_up_self]
            refine lv_ifnullN hx hb d_De_copy_26 rfl ?_
            refine lv_iconst (v := 0) hx hb d_De_copy_33 (by decide) ?_
            refine W.widen (k := 6) (n := 60) (by first | decide | omega) (by first | decide | omega) ?_
            exact x_ret (W.zret (v := 0) hx hb hr rfl (w_fin rfl hAe (w_good (v := some (.int 0)) ((q_y ⟨hs, ht⟩).trans (by rw [w_b0 (fun z => z (c_ob.none (hft.symm.trans hq)))])) (c_R.of (hC.slot (s := j_n sv) (o := a.sl (j_n t)) (hq.symm.trans hft)) hsn hwk hu hum hlv rfl (fun _ _ _ => rfl) (fun o z => r_puts (Classical.byCases Or.inl (fun h0 => Or.inr (a_R.sl ht.j32 h0))) z))) hP hA hS) hS.2.2 d_De_copy_34)
          | some q =>
            obtain ⟨hq0, hq1⟩ := c_ob.some (hft.symm.trans hq)
            obtain ⟨x, -, hit⟩ := hC.2.2.2.1 (a.sl (j_n t)) (by omega) (hw.2.2.1 _ ht.j32)
            rw [← hq1] at hit
            refine y_astS (r := (R_It, F_It, 9)) hx hb hK hP hA hS 1 1 hC.1.2.2 rfl hit rfl hs.v32 d_De_copy_19 (fun H locs hP hA hS => ?_)
            have hP : y_P D vwCl (va_up g sa (some (e_refs cI 32 (va_up fs (j_n sv) (some q))))) H := hP
            have hA : ∀ q99 e99, (va_up g sa (some (e_refs cI 32 (va_up fs (j_n sv) (some q))))) q99 = some e99 → A q99 := hA
            refine lv_aload_n hx hb d_De_copy_20 rfl (lv_at hl 0 rfl) ?_
            have hd1 : (va_up g sa (some (e_refs cI 32 (va_up fs (j_n sv) (some q))))) d = some (.inr (4, [.ref ka, .ref sa, .int (nI a.mem), .int (nI a.n), .int (nI a.kc), .int (nI a.nn), .int itv, va_rf (ks.head?.map ad), .int (nI u), .int (nI wk), .null])) := by rw [va_up_ne _ _ hC.dne.2.1.symm]; exact hC.1.1
            refine y_get (D := D) (ci := 4) (v := .ref sa) (C := R_De) (T := F_De) (N := 11) hx hb hts in_De hown hK hP hd1 rfl 1 (by decide) (hts (.fieldLink R_De 17 "MemoryDesk" "slots" "[LMemoryDesk$Item;") (by decide +kernel)) (fun _ h9 => h9) rfl d_De_copy_21 ?_
            refine lv_iload_n hx hb d_De_copy_24 rfl (lv_at hl 1 rfl) ?_
            refine y_aldq hx hb hK hP 1 (va_up_self _ _ _) rfl hs.v32 d_De_copy_25 ?_
            rw [va_up_self]
            refine lv_ifnull hx hb d_De_copy_26 ?_
            refine lv_iconst (v := 1) hx hb d_De_copy_29 (by decide) ?_
            refine lv_goto hx hb d_De_copy_30 rfl ?_
            refine W.widen (k := 6) (n := 60) (by first | decide | omega) (by first | decide | omega) ?_
            exact x_ret (W.zret (v := 1) hx hb hr rfl (w_fin rfl hAe (w_good (v := some (.int 1)) ((q_y ⟨hs, ht⟩).trans (by rw [w_b1 (c_ob.some (hft.symm.trans hq)).1])) (c_R.of (hC.slot (s := j_n sv) (o := a.sl (j_n t)) (hq.symm.trans hft)) hsn hwk hu hum hlv rfl (fun _ _ _ => rfl) (fun o z => r_puts (Classical.byCases Or.inl (fun h0 => Or.inr (a_R.sl ht.j32 h0))) z))) hP hA hS) hS.2.2 d_De_copy_34)
        · cases hv9
      · skip
        obtain ⟨hg9, hq9⟩ := hq9
        rw [hg9] at hP hA
        rcases hq9 with ⟨hv9, -⟩ | ⟨hv9, ht⟩
        · cases hv9
        · cases hv9
          refine x_W.widen (k := 6) (n := 60) (by first | decide | omega) (by first | decide | omega) ?_
          exact x_leave (hno 5) hlocks (w_lea rfl hAe (w_bad (i := 0) rfl (q_n (fun z => ht z.2)) hR0 (Nat.le_succ _)) hP hA hS z1 z2 z3) hS.2.2
    · cases hv9
  · skip
    obtain ⟨hg9, hq9⟩ := hq9
    rw [hg9] at hP hA
    rcases hq9 with ⟨hv9, -⟩ | ⟨hv9, hs⟩
    · cases hv9
    · cases hv9
      refine x_W.widen (k := 6) (n := 60) (by first | decide | omega) (by first | decide | omega) ?_
      exact x_leave (hno 1) hlocks (w_lea rfl hAe (w_bad (i := 0) rfl (q_n (fun z => hs z.1)) hR0 (Nat.le_succ _)) hP hA hS z1 z2 z3) hS.2.2
set_option maxHeartbeats 4000000 in
set_option maxRecDepth 100000 in
/-- drop(s) -/
theorem c_De_drop (l : Launch) (hst : l.stackTraces = false) (D : va_G) (cK cI cN cZ cL : ClassId) (g : y_G) (sz : Nat) (a : Ab) (cn d : Nat) (sv : Int32) (hw : a_W a cn) (hcn : cn < 2 ^ 30) (hR : c_R cK cI a g d cn) : x_M l y_De_drop [.code y_De_drop b_De_drop 3 (some .boolean)] rmP (w_Pc D (x_tys cK cI cN cZ cL) [.ref d, .int sv] g sz) (w_Qc D g sz (fun r g9 => x_out [xIAE] (s_drop a sv) r ∧ c_R cK cI (s_drop a sv).2.2 g9 d (cn + 1))) 6 60 (y_A g sz) := by
  refine x_ofW (cc := b_De_drop) (maxL := 3) (ret := (some .boolean)) (by decide) rfl ?_
  intro p e s m args below meth c s₁ B hml hno hv
  obtain ⟨rfl, hsz, hP, hE⟩ := hv
  subst hsz
  have hts := hE.hts ([.ref d, .int sv] : List Value).toArray
  have hK := hE.1.2.1
  have hA0 : ∀ q, s.heap.size ≤ q → y_A g s.heap.size q := fun q h => Or.inr h
  have hA : ∀ q e, g q = some e → y_A g s.heap.size q := fun q e h => Or.inl (by rw [h]; exact fun z => nomatch z)
  have hS : va_S (y_A g s.heap.size) s.heap s.heap [] := va_S.rf
  generalize hAe : y_A g s.heap.size = A at hE hA0 hA hS ⊢
  have hx := B.exec
  have hb := B.bytes
  have hr := B.returns
  have hlocks := B.notSynchronized
  have hown : s.vm.findClass R_De = some m.cls := findClass_of_methodNamed B.named
  have hl := lv_entry ([.ref d, .int sv]) (n := 3) (Nat.le_of_ble_eq_true rfl)
  rw [lg_entry_eq]
  generalize (lg_sl ([.ref d, .int sv]) ++ List.replicate (3 - (lg_sl ([.ref d, .int sv])).length) Slot.unset).toArray = ls at hl ⊢
  have hl : lv_has ls 3 [(0, .ref d), (1, .int sv)] := hl
  have hR0 := hR
  obtain ⟨ka, sa, fk, fs, ad, cs, ks, itv, u, wk, sn, np, lv, hC, hsn, hwk, hu, hum, hlv⟩ := hR
  have hn9 : a.n ≤ cn := hw.2.2.2.2.2.2.2.2.2.1
  have hmm : a.mem ≤ 65536 := hw.2.2.2.2.2.2.2.2.1
  refine lv_iload_n hx hb d_De_drop_0 rfl (lv_at hl 1 rfl) ?_
  refine w_callS (As := [.int sv]) ⟨hx, hb, hml, hown, hts⟩ (c_De_checkSlot l hst D _ _ _ sv) (x_cb (va_cwS (own := R_De) (index := 53) 1 hts (x_gi (by decide +kernel)) rfl rfl rfl (by decide +kernel) ⟨by decide, by decide⟩).1) (hts (.static y_De_checkSlot) (by decide +kernel)) hE hP hA hA0 hS rfl hl.1 rfl (lv_room (Nat.le_of_ble_eq_true rfl)) d_De_drop_1 (by first | decide | omega) (by first | decide | omega) (fun v9 g9 H locs hq9 hP hA hS => ?_) (fun E9 q9 ce9 g9 H locs hq9 hP hA hS z1 z2 z3 => ?_)
  · skip
    obtain ⟨hg9, hq9⟩ := hq9
    rw [hg9] at hP hA
    rcases hq9 with ⟨hv9, hs⟩ | ⟨hv9, -⟩
    · cases hv9
      refine W.eq (g2 := F0 m 4 ls []) rfl ?_
      refine lv_aload_n hx hb d_De_drop_4 rfl (lv_at hl 0 rfl) ?_
      refine y_get (D := D) (ci := 4) (v := .ref sa) (C := R_De) (T := F_De) (N := 11) hx hb hts in_De hown hK hP hC.1.1 rfl 1 (by decide) (hts (.fieldLink R_De 17 "MemoryDesk" "slots" "[LMemoryDesk$Item;") (by decide +kernel)) (fun _ h9 => h9) rfl d_De_drop_5 ?_
      refine lv_iload_n hx hb d_De_drop_8 rfl (lv_at hl 1 rfl) ?_
      refine y_aldq hx hb hK hP 1 hC.1.2.2 rfl hs.v32 d_De_drop_9 ?_
      have hft := hC.2.2.1 (j_n sv) hs.j32
      obtain ⟨o_q, hq⟩ : ∃ z, (fs sv.toNatClampNeg) = z := ⟨_, rfl⟩
      refine W.eq (g2 := F0 m 10 ls [va_rf o_q]) (congrArg (fun z => F0 m 10 ls [va_rf z]) hq) ?_
      cases o_q with
      | none =>
        refine lv_ifnullN hx hb d_De_drop_10 rfl ?_
        refine lv_iconst (v := 0) hx hb d_De_drop_17 (by decide) ?_
        refine lv_istore_n hx hb d_De_drop_18 rfl hl (by decide) rfl (fun ls hl => ?_)
        have hl : lv_has ls 3 [(2, .int 0), (0, .ref d), (1, .int sv)] := hl
        refine lv_aload_n hx hb d_De_drop_19 rfl (lv_at hl 1 rfl) ?_
        refine y_get (D := D) (ci := 4) (v := .ref sa) (C := R_De) (T := F_De) (N := 11) hx hb hts in_De hown hK hP hC.1.1 rfl 1 (by decide) (hts (.fieldLink R_De 17 "MemoryDesk" "slots" "[LMemoryDesk$Item;") (by decide +kernel)) (fun _ h9 => h9) rfl d_De_drop_20 ?_
        refine lv_iload_n hx hb d_De_drop_23 rfl (lv_at hl 2 rfl) ?_
        refine lv_null hx hb d_De_drop_24 ?_
        refine y_astN hx hb hK hP hA hS 1 hC.1.2.2 rfl hs.v32 d_De_drop_25 (fun H locs hP hA hS => ?_)
        refine lv_iload_n hx hb d_De_drop_26 rfl (lv_at hl 0 rfl) ?_
        refine W.widen (k := 6) (n := 60) (by first | decide | omega) (by first | decide | omega) ?_
        exact x_ret (W.zret (v := 0) hx hb hr rfl (w_fin rfl hAe (w_good (v := some (.int 0)) ((q_y hs).trans (by rw [w_b0 (fun z => z (c_ob.none (hft.symm.trans hq)))])) (c_R.of (hC.slot (s := j_n sv) (o := 0) rfl) hsn hwk hu hum hlv rfl (fun _ _ _ => rfl) (fun o z => r_puts (Or.inl rfl) z))) hP hA hS) hS.2.2 d_De_drop_27)
      | some q =>
        refine lv_ifnull hx hb d_De_drop_10 ?_
        refine lv_iconst (v := 1) hx hb d_De_drop_13 (by decide) ?_
        refine lv_goto hx hb d_De_drop_14 rfl ?_
        refine lv_istore_n hx hb d_De_drop_18 rfl hl (by decide) rfl (fun ls hl => ?_)
        have hl : lv_has ls 3 [(2, .int 1), (0, .ref d), (1, .int sv)] := hl
        refine lv_aload_n hx hb d_De_drop_19 rfl (lv_at hl 1 rfl) ?_
        refine y_get (D := D) (ci := 4) (v := .ref sa) (C := R_De) (T := F_De) (N := 11) hx hb hts in_De hown hK hP hC.1.1 rfl 1 (by decide) (hts (.fieldLink R_De 17 "MemoryDesk" "slots" "[LMemoryDesk$Item;") (by decide +kernel)) (fun _ h9 => h9) rfl d_De_drop_20 ?_
        refine lv_iload_n hx hb d_De_drop_23 rfl (lv_at hl 2 rfl) ?_
        refine lv_null hx hb d_De_drop_24 ?_
        refine y_astN hx hb hK hP hA hS 1 hC.1.2.2 rfl hs.v32 d_De_drop_25 (fun H locs hP hA hS => ?_)
        refine lv_iload_n hx hb d_De_drop_26 rfl (lv_at hl 0 rfl) ?_
        refine W.widen (k := 6) (n := 60) (by first | decide | omega) (by first | decide | omega) ?_
        exact x_ret (W.zret (v := 1) hx hb hr rfl (w_fin rfl hAe (w_good (v := some (.int 1)) ((q_y hs).trans (by rw [w_b1 (c_ob.some (hft.symm.trans hq)).1])) (c_R.of (hC.slot (s := j_n sv) (o := 0) rfl) hsn hwk hu hum hlv rfl (fun _ _ _ => rfl) (fun o z => r_puts (Or.inl rfl) z))) hP hA hS) hS.2.2 d_De_drop_27)
    · cases hv9
  · skip
    obtain ⟨hg9, hq9⟩ := hq9
    rw [hg9] at hP hA
    rcases hq9 with ⟨hv9, -⟩ | ⟨hv9, hs⟩
    · cases hv9
    · cases hv9
      refine x_W.widen (k := 6) (n := 60) (by first | decide | omega) (by first | decide | omega) ?_
      exact x_leave (hno 1) hlocks (w_lea rfl hAe (w_bad (i := 0) rfl (q_n hs) hR0 (Nat.le_succ _)) hP hA hS z1 z2 z3) hS.2.2
set_option maxHeartbeats 4000000 in
set_option maxRecDepth 100000 in
/-- same(s, t) -/
theorem c_De_same (l : Launch) (hst : l.stackTraces = false) (D : va_G) (cK cI cN cZ cL : ClassId) (g : y_G) (sz : Nat) (a : Ab) (cn d : Nat) (sv t : Int32) (hw : a_W a cn) (hcn : cn < 2 ^ 30) (hR : c_R cK cI a g d cn) : x_M l y_De_same [.code y_De_same b_De_same 3 (some .boolean)] rmP (w_Pc D (x_tys cK cI cN cZ cL) [.ref d, .int sv, .int t] g sz) (w_Qc D g sz (fun r g9 => x_out [xIAE] (s_same a sv t) r ∧ c_R cK cI (s_same a sv t).2.2 g9 d (cn + 1))) 6 60 (y_A g sz) := by
  refine x_ofW (cc := b_De_same) (maxL := 3) (ret := (some .boolean)) (by decide) rfl ?_
  intro p e s m args below meth c s₁ B hml hno hv
  obtain ⟨rfl, hsz, hP, hE⟩ := hv
  subst hsz
  have hts := hE.hts ([.ref d, .int sv, .int t] : List Value).toArray
  have hK := hE.1.2.1
  have hA0 : ∀ q, s.heap.size ≤ q → y_A g s.heap.size q := fun q h => Or.inr h
  have hA : ∀ q e, g q = some e → y_A g s.heap.size q := fun q e h => Or.inl (by rw [h]; exact fun z => nomatch z)
  have hS : va_S (y_A g s.heap.size) s.heap s.heap [] := va_S.rf
  generalize hAe : y_A g s.heap.size = A at hE hA0 hA hS ⊢
  have hx := B.exec
  have hb := B.bytes
  have hr := B.returns
  have hlocks := B.notSynchronized
  have hown : s.vm.findClass R_De = some m.cls := findClass_of_methodNamed B.named
  have hl := lv_entry ([.ref d, .int sv, .int t]) (n := 3) (Nat.le_of_ble_eq_true rfl)
  rw [lg_entry_eq]
  generalize (lg_sl ([.ref d, .int sv, .int t]) ++ List.replicate (3 - (lg_sl ([.ref d, .int sv, .int t])).length) Slot.unset).toArray = ls at hl ⊢
  have hl : lv_has ls 3 [(0, .ref d), (1, .int sv), (2, .int t)] := hl
  have hR0 := hR
  obtain ⟨ka, sa, fk, fs, ad, cs, ks, itv, u, wk, sn, np, lv, hC, hsn, hwk, hu, hum, hlv⟩ := hR
  have hn9 : a.n ≤ cn := hw.2.2.2.2.2.2.2.2.2.1
  have hmm : a.mem ≤ 65536 := hw.2.2.2.2.2.2.2.2.1
  refine lv_iload_n hx hb d_De_same_0 rfl (lv_at hl 1 rfl) ?_
  refine w_callS (As := [.int sv]) ⟨hx, hb, hml, hown, hts⟩ (c_De_checkSlot l hst D _ _ _ sv) (x_cb (va_cwS (own := R_De) (index := 53) 1 hts (x_gi (by decide +kernel)) rfl rfl rfl (by decide +kernel) ⟨by decide, by decide⟩).1) (hts (.static y_De_checkSlot) (by decide +kernel)) hE hP hA hA0 hS rfl hl.1 rfl (lv_room (Nat.le_of_ble_eq_true rfl)) d_De_same_1 (by first | decide | omega) (by first | decide | omega) (fun v9 g9 H locs hq9 hP hA hS => ?_) (fun E9 q9 ce9 g9 H locs hq9 hP hA hS z1 z2 z3 => ?_)
  · skip
    obtain ⟨hg9, hq9⟩ := hq9
    rw [hg9] at hP hA
    rcases hq9 with ⟨hv9, hs⟩ | ⟨hv9, -⟩
    · cases hv9
      refine W.eq (g2 := F0 m 4 ls []) rfl ?_
      refine lv_iload_n hx hb d_De_same_4 rfl (lv_at hl 2 rfl) ?_
      refine w_callS (As := [.int t]) ⟨hx, hb, hml, hown, hts⟩ (c_De_checkSlot l hst D _ _ _ t) (x_cb (va_cwS (own := R_De) (index := 53) 1 hts (x_gi (by decide +kernel)) rfl rfl rfl (by decide +kernel) ⟨by decide, by decide⟩).1) (hts (.static y_De_checkSlot) (by decide +kernel)) hE hP hA hA0 hS rfl hl.1 rfl (lv_room (Nat.le_of_ble_eq_true rfl)) d_De_same_5 (by first | decide | omega) (by first | decide | omega) (fun v9 g9 H locs hq9 hP hA hS => ?_) (fun E9 q9 ce9 g9 H locs hq9 hP hA hS z1 z2 z3 => ?_)
      · skip
        obtain ⟨hg9, hq9⟩ := hq9
        rw [hg9] at hP hA
        rcases hq9 with ⟨hv9, ht⟩ | ⟨hv9, -⟩
        · cases hv9
          refine W.eq (g2 := F0 m 8 ls []) rfl ?_
          refine lv_aload_n hx hb d_De_same_8 rfl (lv_at hl 0 rfl) ?_
          refine y_get (D := D) (ci := 4) (v := .ref sa) (C := R_De) (T := F_De) (N := 11) hx hb hts in_De hown hK hP hC.1.1 rfl 1 (by decide) (hts (.fieldLink R_De 17 "MemoryDesk" "slots" "[LMemoryDesk$Item;") (by decide +kernel)) (fun _ h9 => h9) rfl d_De_same_9 ?_
          refine lv_iload_n hx hb d_De_same_12 rfl (lv_at hl 1 rfl) ?_
          refine y_aldq hx hb hK hP 1 hC.1.2.2 rfl hs.v32 d_De_same_13 ?_
          refine lv_aload_n hx hb d_De_same_14 rfl (lv_at hl 0 rfl) ?_
          refine y_get (D := D) (ci := 4) (v := .ref sa) (C := R_De) (T := F_De) (N := 11) hx hb hts in_De hown hK hP hC.1.1 rfl 1 (by decide) (hts (.fieldLink R_De 17 "MemoryDesk" "slots" "[LMemoryDesk$Item;") (by decide +kernel)) (fun _ h9 => h9) rfl d_De_same_15 ?_
          refine lv_iload_n hx hb d_De_same_18 rfl (lv_at hl 2 rfl) ?_
          refine y_aldq hx hb hK hP 1 hC.1.2.2 rfl ht.v32 d_De_same_19 ?_
          have hfs := hC.2.2.1 (j_n sv) hs.j32
          have hft := hC.2.2.1 (j_n t) ht.j32
          have hiff : fs (j_n sv) = fs (j_n t) ↔ a.sl (j_n sv) = a.sl (j_n t) := by rw [hfs, hft]; exact c_ob.inj (cn := cn) hC (hw.2.2.1 _ hs.j32) (hw.2.2.1 _ ht.j32)
          refine lv_acmp_ne hx hb d_De_same_20 rfl (fun h9 => ?_) (fun h9 => ?_)
          · skip
            refine lv_iconst (v := 0) hx hb d_De_same_27 (by decide) ?_
            refine W.widen (k := 6) (n := 60) (by first | decide | omega) (by first | decide | omega) ?_
            exact x_ret (W.zret (v := 0) hx hb hr rfl (w_fin rfl hAe (w_good (v := some (.int 0)) ((q_y ⟨hs, ht⟩).trans (by rw [w_b0 (fun z => h9 (hiff.mpr z))])) (hR0.up (Nat.le_succ _))) hP hA hS) hS.2.2 d_De_same_28)
          · skip
            refine lv_iconst (v := 1) hx hb d_De_same_23 (by decide) ?_
            refine lv_goto hx hb d_De_same_24 rfl ?_
            refine W.widen (k := 6) (n := 60) (by first | decide | omega) (by first | decide | omega) ?_
            exact x_ret (W.zret (v := 1) hx hb hr rfl (w_fin rfl hAe (w_good (v := some (.int 1)) ((q_y ⟨hs, ht⟩).trans (by rw [w_b1 (hiff.mp h9)])) (hR0.up (Nat.le_succ _))) hP hA hS) hS.2.2 d_De_same_28)
        · cases hv9
      · skip
        obtain ⟨hg9, hq9⟩ := hq9
        rw [hg9] at hP hA
        rcases hq9 with ⟨hv9, -⟩ | ⟨hv9, ht⟩
        · cases hv9
        · cases hv9
          refine x_W.widen (k := 6) (n := 60) (by first | decide | omega) (by first | decide | omega) ?_
          exact x_leave (hno 5) hlocks (w_lea rfl hAe (w_bad (i := 0) rfl (q_n (fun z => ht z.2)) hR0 (Nat.le_succ _)) hP hA hS z1 z2 z3) hS.2.2
    · cases hv9
  · skip
    obtain ⟨hg9, hq9⟩ := hq9
    rw [hg9] at hP hA
    rcases hq9 with ⟨hv9, -⟩ | ⟨hv9, hs⟩
    · cases hv9
    · cases hv9
      refine x_W.widen (k := 6) (n := 60) (by first | decide | omega) (by first | decide | omega) ?_
      exact x_leave (hno 1) hlocks (w_lea rfl hAe (w_bad (i := 0) rfl (q_n (fun z => hs z.1)) hR0 (Nat.le_succ _)) hP hA hS z1 z2 z3) hS.2.2
