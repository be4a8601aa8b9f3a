/-! the face's methods that look into an object: get, put, link, follow, keep, number, size -/
section CPub2
theorem s_pl1 {a : Ab} {s k : Int32} {rf : Prop} {f : Nat → An} (hs : ¬ b_in s 32) : s_pl a s k rf f = (1, none, a) := q_n hs
theorem s_pl2 {a : Ab} {s k : Int32} {rf : Prop} {f : Nat → An} (hs : b_in s 32) (h0 : a.sl (j_n s) = 0) : s_pl a s k rf f = (2, none, a) := (q_y hs).trans (q_y h0)
theorem s_pl3 {a : Ab} {s k : Int32} {rf : Prop} {f : Nat → An} (hs : b_in s 32) (h0 : a.sl (j_n s) ≠ 0) (hk : ¬ b_in k (a_len a (a.sl (j_n s)))) : s_pl a s k rf f = (3, none, a) := (q_y hs).trans ((q_n h0).trans (q_n hk))
theorem s_pl4 {a : Ab} {s k : Int32} {rf : Prop} {f : Nat → An} (hs : b_in s 32) (h0 : a.sl (j_n s) ≠ 0) (hk : b_in k (a_len a (a.sl (j_n s)))) (hr : ¬ (a_ref a (a.sl (j_n s)) k ↔ rf)) : s_pl a s k rf f = (4, none, a) := (q_y hs).trans ((q_n h0).trans ((q_y hk).trans (q_n hr)))
theorem s_pl0 {a : Ab} {s k : Int32} {rf : Prop} {f : Nat → An} (hs : b_in s 32) (h0 : a.sl (j_n s) ≠ 0) (hk : b_in k (a_len a (a.sl (j_n s)))) (hr : a_ref a (a.sl (j_n s)) k ↔ rf) : s_pl a s k rf f = f (a.sl (j_n s)) := (q_y hs).trans ((q_n h0).trans ((q_y hk).trans (q_y hr)))
theorem s_in2 {a : Ab} {s : Int32} {f : Nat → An} (hs : b_in s 32) (h0 : a.sl (j_n s) = 0) : s_in a s f = (2, none, a) := (q_y hs).trans (q_y h0)
theorem s_in0 {a : Ab} {s : Int32} {f : Nat → An} (hs : b_in s 32) (h0 : a.sl (j_n s) ≠ 0) : s_in a s f = f (a.sl (j_n s)) := (q_y hs).trans (q_n h0)
variable {a : Ab} {cn : Nat} {g : y_G} {d ka sa : Nat} {cK cI : ClassId} {fk fs : Nat → Option Nat} {ad : Nat → Nat} {cs : Nat → List CL} {ks : List Nat} {itv us : Int32} {wk : Nat} {sn : Nat → Nat} {np : Nat → Option Nat} {pe : Option Nat}
/-- an object's kind -/
theorem c_S.kq (hC : c_S a g d ka sa cK cI fk fs ad cs ks itv us wk sn np pe) (hw : a_W a cn) {o x : Nat} (o1 : 1 ≤ o) (o2 : o ≤ a.n) (hx : fk (a.ok o) = some x) : ∃ q, a.kd (a.ok o) = some q ∧ a_kin q ∧ c_kq g x q := by
  obtain ⟨k1, q, k2, -⟩ := hw.2.1 o o1 o2
  rcases hC.2.1 (a.ok o) k1 with ⟨-, z⟩ | ⟨q', x', z1, z2, z3⟩
  · rw [hx] at z; cases z
  · rw [hx] at z2; cases z2
    exact ⟨q', z1, hw.1 _ _ k1 z1, z3⟩
theorem c_S.hit (hC : c_S a g d ka sa cK cI fk fs ad cs ks itv us wk sn np pe) (hw : a_W a cn) {s : Int32} (hs : b_in s 32) : ∀ q, fs s.toNatClampNeg = some q → ∃ kx len wd cs tg kp nk sn np, g q = some (e_item kx len wd cs tg kp nk sn np) ∧ c_kd g kx := fun q hq => by
  have h0 := hC.2.2.1 (j_n s) hs.j32
  obtain ⟨z1, z2⟩ := c_ob.some (h0.symm.trans hq)
  have o2 := hw.2.2.1 (j_n s) hs.j32
  obtain ⟨x, z3, z4⟩ := hC.2.2.2.1 _ (by omega) o2
  obtain ⟨qq, -, -, hk⟩ := hC.kq hw (by omega) o2 z3
  rw [z2]
  refine ⟨_, _, _, _, _, _, _, _, _, z4, ?_⟩
  rcases hk with hk | hk
  · exact Or.inl ⟨_, _, hk.2⟩
  · exact Or.inr ⟨_, _, hk.2⟩
/-- what a slot holds -/
theorem c_S.place (hC : c_S a g d ka sa cK cI fk fs ad cs ks itv us wk sn np pe) (hw : a_W a cn) {s : Int32} (hs : b_in s 32) {q kx : Nat} {len wd tg kp sv : Int32} {cs' nk np' : Option Nat} (hfq : fs (j_n s) = some q) (hq : g q = some (e_item kx len wd cs' tg kp nk sv np')) :
    a.sl (j_n s) ≠ 0 ∧ 1 ≤ a.sl (j_n s) ∧ a.sl (j_n s) ≤ a.n ∧ q = ad (a.sl (j_n s)) ∧ len = a_len a (a.sl (j_n s)) ∧ fk (a.ok (a.sl (j_n s))) = some kx ∧ g (ad (a.sl (j_n s))) = some (c_it a ad cs ks kx (nI (sn (a.sl (j_n s)))) (np (a.sl (j_n s))) (a.sl (j_n s))) := by
  have h0 := hC.2.2.1 (j_n s) hs.j32
  obtain ⟨z1, z2⟩ := c_ob.some (h0.symm.trans hfq)
  have o2 := hw.2.2.1 (j_n s) hs.j32
  obtain ⟨x, z3, z4⟩ := hC.2.2.2.1 _ (by omega) o2
  rw [z2] at hq
  have e := hq.symm.trans z4
  injection e with e
  injection e with e
  injection e with e0 e
  injection e with e1 e
  injection e with e2 e
  injection e1 with e1
  injection e2 with e2
  exact ⟨z1, by omega, o2, z2, e2, by rw [z3, e1], by rw [e1]; exact z4⟩
theorem c_S.refs (hC : c_S a g d ka sa cK cI fk fs ad cs ks itv us wk sn np pe) (hw : a_W a cn) {o x : Nat} {k : Int32} (o1 : 1 ≤ o) (o2 : o ≤ a.n) (hx : fk (a.ok o) = some x) (hk : b_in k (a_len a o)) : c_rf g x k ↔ a_ref a o k := by
  obtain ⟨q, z1, z2, z3⟩ := hC.kq hw o1 o2 hx
  rw [f_ref z3 z2 (fun hq => ?_)]
  · constructor
    · exact fun z => ⟨q, z1, z⟩
    · rintro ⟨q', y1, y2⟩
      rw [z1] at y1; cases y1; exact y2
  · unfold a_len at hk
    rw [z1] at hk
    have hk : b_in k (if q.1 < 0 then q.2.1 else a.sz o) := hk
    rw [if_pos hq] at hk
    exact hk
theorem w_rf0 {X : Prop} : (X ↔ (0 : Int32) = 1) ↔ (X ↔ False) := by
  have : ((0 : Int32) = 1) ↔ False := ⟨fun z => absurd z (by decide), False.elim⟩
  rw [this]
theorem w_rf1 {X : Prop} : (X ↔ (1 : Int32) = 1) ↔ (X ↔ True) := by
  have : ((1 : Int32) = 1) ↔ True := ⟨fun _ => trivial, fun _ => rfl⟩
  rw [this]
/-- findOrAdd: a cell is there now -/
theorem c_S.foa (hC : c_S a g d ka sa cK cI fk fs ad cs ks itv us wk sn np pe) {o x : Nat} {k : Int32} (o1 : 1 ≤ o) (o2 : o ≤ a.n) (hx : fk (a.ok o) = some x) {r : Option Value ⊕ String} {g9 : y_G}
    (h : (∃ y, c_fd k (cs o) = some y ∧ r = .inl (some (.ref y)) ∧ g9 = g) ∨ (c_fd k (cs o) = none ∧ ∃ q, g q = none ∧ r = .inl (some (.ref q)) ∧ g9 = va_up (va_up g q (some (e_cell k (c_hd (cs o)) 0 none))) (ad o) (some (e_item x (a_len a o) (nI (a_wd a o)) (some q) (nI (a.nu o)) (c_bit (a.kp o)) ((c_nx ks o).map ad) (nI (sn o)) (np o))))) :
    ∃ (cs1 : Nat → List CL) (q1 : CL) (nx : Option Nat), r = .inl (some (.ref q1.1)) ∧ c_S a g9 d ka sa cK cI fk fs ad cs1 ks itv us wk sn np pe ∧ q1 ∈ cs1 o ∧ q1.2.1 = k ∧ g9 q1.1 = some (e_cell k nx q1.2.2.1 q1.2.2.2) := by
  rcases h with ⟨y, h1, h2, h3⟩ | ⟨h1, q, h2, h3, h4⟩
  · obtain ⟨q1, z1, z2, z3⟩ := c_fd_s h1
    obtain ⟨nx, z4⟩ := (hC.2.2.2.2.2.1 o o1 o2).1.at q1 z1
    refine ⟨cs, q1, nx, by rw [h2, z3], by rw [h3]; exact hC, z1, z2, ?_⟩
    rw [h3, ← z2]; exact z4
  · have hC1 := hC.add o1 o2 hx h2 h1
    rw [← h4] at hC1
    have hm : (q, k, (0 : Int64), (none : Option Nat)) ∈ va_up cs o ((q, k, 0, none) :: cs o) o := by rw [va_up_self]; exact List.mem_cons_self
    obtain ⟨nx, z4⟩ := (hC1.2.2.2.2.2.1 o o1 o2).1.at _ hm
    exact ⟨_, (q, k, 0, none), nx, h3, hC1, hm, rfl, z4⟩
theorem w_lN {b : Nat} (h : b < 2 ^ 31) : (lN b).toInt.toNat = b := by rw [lN_toInt h]; rfl
end CPub2
set_option maxHeartbeats 4000000 in
set_option maxRecDepth 100000 in
/-- get(s, k) -/
theorem c_De_get (l : Launch) (hst : l.stackTraces = false) (D : va_G) (cK cI cN cZ cL : ClassId) (g : y_G) (sz : Nat) (a : Ab) (cn d : Nat) (sv k : Int32) (hw : a_W a cn) (hcn : cn < 2 ^ 30) (hR : c_R cK cI a g d cn) : x_M l y_De_get [.code y_De_get b_De_get 4 (some .long)] rmP (w_Pc D (x_tys cK cI cN cZ cL) [.ref d, .int sv, .int k] g sz) (w_Qc D g sz (fun r g9 => x_out [xIAE, xISE, xIOO, xUOE] (s_get a sv k) r ∧ c_R cK cI (s_get a sv k).2.2 g9 d (cn + 1))) 6 60 (y_A g sz) := by
  refine x_ofW (cc := b_De_get) (maxL := 4) (ret := (some .long)) (by decide) rfl ?_
  intro p e s m args below meth c s₁ B hml hno hv
  obtain ⟨rfl, hsz, hP, hE⟩ := hv
  subst hsz
  have hts := hE.hts ([.ref d, .int sv, .int k] : List Value).toArray
  have hK := hE.1.2.1
  have hA0 : ∀ q, s.heap.size ≤ q → y_A g s.heap.size q := fun q h => Or.inr h
  have hA : ∀ q e, g q = some e → y_A g s.heap.size q := fun q e h => Or.inl (by rw [h]; exact fun z => nomatch z)
  have hS : va_S (y_A g s.heap.size) s.heap s.heap [] := va_S.rf
  generalize hAe : y_A g s.heap.size = A at hE hA0 hA hS ⊢
  have hx := B.exec
  have hb := B.bytes
  have hr := B.returns
  have hlocks := B.notSynchronized
  have hown : s.vm.findClass R_De = some m.cls := findClass_of_methodNamed B.named
  have hl := lv_entry ([.ref d, .int sv, .int k]) (n := 4) (Nat.le_of_ble_eq_true rfl)
  rw [lg_entry_eq]
  generalize (lg_sl ([.ref d, .int sv, .int k]) ++ List.replicate (4 - (lg_sl ([.ref d, .int sv, .int k])).length) Slot.unset).toArray = ls at hl ⊢
  have hl : lv_has ls 4 [(0, .ref d), (1, .int sv), (2, .int k)] := hl
  have hR0 := hR
  obtain ⟨ka, sa, fk, fs, ad, cs, ks, itv, u, wk, sn, np, lv, hC, hsn, hwk, hu, hum, hlv⟩ := hR
  have hn9 : a.n ≤ cn := hw.2.2.2.2.2.2.2.2.2.1
  have hmm : a.mem ≤ 65536 := hw.2.2.2.2.2.2.2.2.1
  refine lv_iload_n hx hb d_De_get_0 rfl (lv_at hl 1 rfl) ?_
  refine w_callS (As := [.int sv]) ⟨hx, hb, hml, hown, hts⟩ (c_De_checkSlot l hst D _ _ _ sv) (x_cb (va_cwS (own := R_De) (index := 53) 1 hts (x_gi (by decide +kernel)) rfl rfl rfl (by decide +kernel) ⟨by decide, by decide⟩).1) (hts (.static y_De_checkSlot) (by decide +kernel)) hE hP hA hA0 hS rfl hl.1 rfl (lv_room (Nat.le_of_ble_eq_true rfl)) d_De_get_1 (by first | decide | omega) (by first | decide | omega) (fun v9 g9 H locs hq9 hP hA hS => ?_) (fun E9 q9 ce9 g9 H locs hq9 hP hA hS z1 z2 z3 => ?_)
  · skip
    obtain ⟨hg9, hq9⟩ := hq9
    rw [hg9] at hP hA
    rcases hq9 with ⟨hv9, hs⟩ | ⟨hv9, -⟩
    · cases hv9
      refine W.eq (g2 := F0 m 4 ls []) rfl ?_
      refine lv_aload_n hx hb d_De_get_4 rfl (lv_at hl 0 rfl) ?_
      refine lv_iload_n hx hb d_De_get_5 rfl (lv_at hl 1 rfl) ?_
      refine lv_iload_n hx hb d_De_get_6 rfl (lv_at hl 2 rfl) ?_
      refine lv_iconst (v := 0) hx hb d_De_get_7 (by decide) ?_
      refine w_callV (As := [.int sv, .int k, .int 0]) (C := R_De) ⟨hx, hb, hml, hown, hts⟩ (c_De_heldWithPlace l hst D cK cI cN cZ cL _ _ d ka sa _ _ _ _ _ _ _ _ _ sv k 0 fs hC.1.1 hC.1.2.2 hs (Or.inl rfl) (hC.hit hw hs)) (x_cb (cwV (own := R_De) (index := 88) (C := R_De) 3 hts (x_gi (by decide +kernel)) rfl rfl rfl (by decide +kernel) ⟨by decide, by decide⟩).1) (hts (.instanceMethod y_De_heldWithPlace) (by decide +kernel)) (hts (.selects R_De y_De_heldWithPlace y_De_heldWithPlace) (by decide +kernel)) (y_recv (ci := 4) (q := (R_De, F_De, 11)) hK hP rfl hC.1.1) hE hP hA hA0 hS rfl hl.1 rfl (lv_room (Nat.le_of_ble_eq_true rfl)) d_De_get_8 (by first | decide | omega) (by first | decide | omega) (fun v9 g9 H locs hq9 hP hA hS => ?_) (fun E9 q9 ce9 g9 H locs hq9 hP hA hS z1 z2 z3 => ?_)
      · skip
        obtain ⟨hg9, hq9⟩ := hq9
        rw [hg9] at hP hA
        rcases hq9 with ⟨-, hv9⟩ | ⟨q9, kx, len9, wd9, cs9, tg9, kp9, nk9, sn9, np9, hfq, hq, ⟨-, hv9⟩ | ⟨-, -, hv9⟩ | ⟨hki, hrf, hv9⟩⟩
        · cases hv9
        · cases hv9
        · cases hv9
        · cases hv9
          obtain ⟨o0, o1, o2, hqo, hlen, hfx, hit⟩ := hC.place hw hs hfq hq
          rw [hlen] at hki
          have hrf := (hC.refs hw o1 o2 hfx hki).symm.trans (w_rf0.mp hrf)
          rw [hqo]
          refine W.eq (g2 := F0 m 11 ls [.ref (ad (a.sl (j_n sv)))]) rfl ?_
          refine lv_iload_n hx hb d_De_get_11 rfl (lv_at hl 2 rfl) ?_
          refine va_csq (W.runV (As := [.int k]) (C := R_It) ⟨hx, hb, hml, hown, hts⟩ (c_It_find l D _ g (ad (a.sl (j_n sv))) k kx _ _ _ _ _ _ _ (cs (a.sl (j_n sv))) hit (hC.2.2.2.2.2.1 _ o1 o2).1) (cwV (own := R_De) (index := 92) 1 hts (x_gi (by decide +kernel)) rfl rfl rfl (by decide +kernel) ⟨by decide, by decide⟩) ⟨w_Pp.blind, y_recv (ci := 1) (q := (R_It, F_It, 9)) hK hP rfl hit, fun U hU hW => ⟨rfl, by rw [hU]; exact hP, hE.1.to hW⟩⟩ rfl rfl hl.1 rfl (lv_room (Nat.le_of_ble_eq_true rfl)) d_De_get_12 ⟨by first | decide | omega, by first | decide | omega⟩) (fun r9 hr9 => ?_)
          have hL := (hC.2.2.2.2.2.1 (a.sl (j_n sv)) o1 o2).2
          cases r9 with
          | none =>
            refine lv_astore_nN hx hb d_De_get_15 rfl hl (by decide) rfl (fun ls hl => ?_)
            have hl : lv_has ls 4 [(3, .null), (0, .ref d), (1, .int sv), (2, .int k)] := hl
            refine lv_aload_nN hx hb d_De_get_16 rfl (lv_at hl 0 rfl) ?_
            refine lv_ifnonnullN hx hb d_De_get_17 ?_
            refine lv_lconst (v := 0) hx hb d_De_get_20 (by decide) ?_
            refine lv_goto hx hb d_De_get_21 rfl ?_
            refine W.widen (k := 6) (n := 60) (by first | decide | omega) (by first | decide | omega) ?_
            exact x_ret (W.lret (v := 0) hx hb hr (w_fin rfl hAe (w_good (v := some (.long 0)) ((s_pl0 hs o0 hki hrf).trans (by rw [hL.2.2 k (c_fd_n hr9.symm)])) (hR0.up (Nat.le_succ _))) hP hA hS) hS.2.2 d_De_get_28)
          | some y =>
            refine lv_astore_n hx hb d_De_get_15 rfl hl (by decide) rfl (fun ls hl => ?_)
            have hl : lv_has ls 4 [(3, .ref y), (0, .ref d), (1, .int sv), (2, .int k)] := hl
            refine lv_aload_n hx hb d_De_get_16 rfl (lv_at hl 0 rfl) ?_
            refine lv_ifnonnull hx hb d_De_get_17 rfl ?_
            refine lv_aload_n hx hb d_De_get_24 rfl (lv_at hl 0 rfl) ?_
            obtain ⟨q1, z1, z2, z3⟩ := c_fd_s hr9.symm
            obtain ⟨nx, z4⟩ := (hC.2.2.2.2.2.1 (a.sl (j_n sv)) o1 o2).1.at q1 z1
            rw [z3] at z4
            have hv1 := ((hL.1 q1 z1).1 (by rw [z2]; exact fun z => hrf.mp z)).1
            rw [z2] at hv1
            refine y_get (D := D) (ci := 0) (v := .long q1.2.2.1) (C := R_Ce) (T := F_Ce) (N := 4) hx hb hts in_Ce hown hK hP z4 rfl 2 (by decide) (hts (.fieldLink R_De 96 "MemoryDesk$Cell" "value" "J") (by decide +kernel)) (fun _ h9 => h9) rfl d_De_get_25 ?_
            refine W.widen (k := 6) (n := 60) (by first | decide | omega) (by first | decide | omega) ?_
            exact x_ret (W.lret (v := q1.2.2.1) hx hb hr (w_fin rfl hAe (w_good (v := some (.long q1.2.2.1)) ((s_pl0 hs o0 hki hrf).trans (by rw [hv1])) (hR0.up (Nat.le_succ _))) hP hA hS) hS.2.2 d_De_get_28)
      · skip
        obtain ⟨hg9, hq9⟩ := hq9
        rw [hg9] at hP hA
        rcases hq9 with ⟨hfn, hv9⟩ | ⟨q9, kx, len9, wd9, cs9, tg9, kp9, nk9, sn9, np9, hfq, hq, ⟨hki, hv9⟩ | ⟨hki, hrf, hv9⟩ | ⟨-, -, hv9⟩⟩
        · cases hv9
          refine x_W.widen (k := 6) (n := 60) (by first | decide | omega) (by first | decide | omega) ?_
          exact x_leave (hno 8) hlocks (w_lea rfl hAe (w_bad (i := 1) rfl (s_pl2 hs (c_ob.none ((hC.2.2.1 _ hs.j32).symm.trans hfn))) hR0 (Nat.le_succ _)) hP hA hS z1 z2 z3) hS.2.2
        · cases hv9
          obtain ⟨o0, o1, o2, hqo, hlen, hfx, hit⟩ := hC.place hw hs hfq hq
          rw [hlen] at hki
          refine x_W.widen (k := 6) (n := 60) (by first | decide | omega) (by first | decide | omega) ?_
          exact x_leave (hno 8) hlocks (w_lea rfl hAe (w_bad (i := 2) rfl (s_pl3 hs o0 hki) hR0 (Nat.le_succ _)) hP hA hS z1 z2 z3) hS.2.2
        · cases hv9
          obtain ⟨o0, o1, o2, hqo, hlen, hfx, hit⟩ := hC.place hw hs hfq hq
          rw [hlen] at hki
          refine x_W.widen (k := 6) (n := 60) (by first | decide | omega) (by first | decide | omega) ?_
          exact x_leave (hno 8) hlocks (w_lea rfl hAe (w_bad (i := 3) rfl (s_pl4 hs o0 hki (fun z => hrf (w_rf0.mpr ((hC.refs hw o1 o2 hfx hki).trans z)))) hR0 (Nat.le_succ _)) hP hA hS z1 z2 z3) hS.2.2
        · cases hv9
    · cases hv9
  · skip
    obtain ⟨hg9, hq9⟩ := hq9
    rw [hg9] at hP hA
    rcases hq9 with ⟨hv9, -⟩ | ⟨hv9, hs⟩
    · cases hv9
    · cases hv9
      refine x_W.widen (k := 6) (n := 60) (by first | decide | omega) (by first | decide | omega) ?_
      exact x_leave (hno 1) hlocks (w_lea rfl hAe (w_bad (i := 0) rfl (s_pl1 hs) hR0 (Nat.le_succ _)) hP hA hS z1 z2 z3) hS.2.2
set_option maxHeartbeats 4000000 in
set_option maxRecDepth 100000 in
/-- put(s, k, v) -/
theorem c_De_put (l : Launch) (hst : l.stackTraces = false) (D : va_G) (cK cI cN cZ cL : ClassId) (g : y_G) (sz : Nat) (a : Ab) (cn d : Nat) (sv k : Int32) (v : Int64) (hw : a_W a cn) (hcn : cn < 2 ^ 30) (hR : c_R cK cI a g d cn) : x_M l y_De_put [.code y_De_put b_De_put 6 none] rmP (w_Pc D (x_tys cK cI cN cZ cL) [.ref d, .int sv, .int k, .long v] g sz) (w_Qc D g sz (fun r g9 => x_out [xIAE, xISE, xIOO, xUOE] (s_put a sv k v) r ∧ c_R cK cI (s_put a sv k v).2.2 g9 d (cn + 1))) 6 60 (y_A g sz) := by
  refine x_ofW (cc := b_De_put) (maxL := 6) (ret := none) (by decide) rfl ?_
  intro p e s m args below meth c s₁ B hml hno hv
  obtain ⟨rfl, hsz, hP, hE⟩ := hv
  subst hsz
  have hts := hE.hts ([.ref d, .int sv, .int k, .long v] : List Value).toArray
  have hK := hE.1.2.1
  have hA0 : ∀ q, s.heap.size ≤ q → y_A g s.heap.size q := fun q h => Or.inr h
  have hA : ∀ q e, g q = some e → y_A g s.heap.size q := fun q e h => Or.inl (by rw [h]; exact fun z => nomatch z)
  have hS : va_S (y_A g s.heap.size) s.heap s.heap [] := va_S.rf
  generalize hAe : y_A g s.heap.size = A at hE hA0 hA hS ⊢
  have hx := B.exec
  have hb := B.bytes
  have hr := B.returns
  have hlocks := B.notSynchronized
  have hown : s.vm.findClass R_De = some m.cls := findClass_of_methodNamed B.named
  have hl := lv_entry ([.ref d, .int sv, .int k, .long v]) (n := 6) (Nat.le_of_ble_eq_true rfl)
  rw [lg_entry_eq]
  generalize (lg_sl ([.ref d, .int sv, .int k, .long v]) ++ List.replicate (6 - (lg_sl ([.ref d, .int sv, .int k, .long v])).length) Slot.unset).toArray = ls at hl ⊢
  have hl : lv_has ls 6 [(0, .ref d), (1, .int sv), (2, .int k), (3, .long v)] := hl
  have hR0 := hR
  obtain ⟨ka, sa, fk, fs, ad, cs, ks, itv, u, wk, sn, np, lv, hC, hsn, hwk, hu, hum, hlv⟩ := hR
  have hn9 : a.n ≤ cn := hw.2.2.2.2.2.2.2.2.2.1
  have hmm : a.mem ≤ 65536 := hw.2.2.2.2.2.2.2.2.1
  refine lv_iload_n hx hb d_De_put_0 rfl (lv_at hl 1 rfl) ?_
  refine w_callS (As := [.int sv]) ⟨hx, hb, hml, hown, hts⟩ (c_De_checkSlot l hst D _ _ _ sv) (x_cb (va_cwS (own := R_De) (index := 53) 1 hts (x_gi (by decide +kernel)) rfl rfl rfl (by decide +kernel) ⟨by decide, by decide⟩).1) (hts (.static y_De_checkSlot) (by decide +kernel)) hE hP hA hA0 hS rfl hl.1 rfl (lv_room (Nat.le_of_ble_eq_true rfl)) d_De_put_1 (by first | decide | omega) (by first | decide | omega) (fun v9 g9 H locs hq9 hP hA hS => ?_) (fun E9 q9 ce9 g9 H locs hq9 hP hA hS z1 z2 z3 => ?_)
  · skip
    obtain ⟨hg9, hq9⟩ := hq9
    rw [hg9] at hP hA
    rcases hq9 with ⟨hv9, hs⟩ | ⟨hv9, -⟩
    · cases hv9
      refine W.eq (g2 := F0 m 4 ls []) rfl ?_
      refine lv_aload_n hx hb d_De_put_4 rfl (lv_at hl 0 rfl) ?_
      refine lv_iload_n hx hb d_De_put_5 rfl (lv_at hl 1 rfl) ?_
      refine lv_iload_n hx hb d_De_put_6 rfl (lv_at hl 2 rfl) ?_
      refine lv_iconst (v := 0) hx hb d_De_put_7 (by decide) ?_
      refine w_callV (As := [.int sv, .int k, .int 0]) (C := R_De) ⟨hx, hb, hml, hown, hts⟩ (c_De_heldWithPlace l hst D cK cI cN cZ cL _ _ d ka sa _ _ _ _ _ _ _ _ _ sv k 0 fs hC.1.1 hC.1.2.2 hs (Or.inl rfl) (hC.hit hw hs)) (x_cb (cwV (own := R_De) (index := 88) (C := R_De) 3 hts (x_gi (by decide +kernel)) rfl rfl rfl (by decide +kernel) ⟨by decide, by decide⟩).1) (hts (.instanceMethod y_De_heldWithPlace) (by decide +kernel)) (hts (.selects R_De y_De_heldWithPlace y_De_heldWithPlace) (by decide +kernel)) (y_recv (ci := 4) (q := (R_De, F_De, 11)) hK hP rfl hC.1.1) hE hP hA hA0 hS rfl hl.1 rfl (lv_room (Nat.le_of_ble_eq_true rfl)) d_De_put_8 (by first | decide | omega) (by first | decide | omega) (fun v9 g9 H locs hq9 hP hA hS => ?_) (fun E9 q9 ce9 g9 H locs hq9 hP hA hS z1 z2 z3 => ?_)
      · skip
        obtain ⟨hg9, hq9⟩ := hq9
        rw [hg9] at hP hA
        rcases hq9 with ⟨-, hv9⟩ | ⟨q9, kx, len9, wd9, cs9, tg9, kp9, nk9, sn9, np9, hfq, hq, ⟨-, hv9⟩ | ⟨-, -, hv9⟩ | ⟨hki, hrf, hv9⟩⟩
        · cases hv9
        · cases hv9
        · cases hv9
        · cases hv9
          obtain ⟨o0, o1, o2, hqo, hlen, hfx, hit⟩ := hC.place hw hs hfq hq
          rw [hlen] at hki
          have hrf := (hC.refs hw o1 o2 hfx hki).symm.trans (w_rf0.mp hrf)
          rw [hqo]
          refine W.eq (g2 := F0 m 11 ls [.ref (ad (a.sl (j_n sv)))]) rfl ?_
          refine lv_astore hx hb d_De_put_11 hl (by decide) rfl (fun ls hl => ?_)
          have hl : lv_has ls 6 [(5, .ref (ad (a.sl (j_n sv)))), (0, .ref d), (1, .int sv), (2, .int k), (3, .long v)] := hl
          refine lv_aload hx hb d_De_put_13 (lv_at hl 0 rfl) ?_
          refine lv_iload_n hx hb d_De_put_15 rfl (lv_at hl 3 rfl) ?_
          refine w_callV (As := [.int k]) (C := R_It) ⟨hx, hb, hml, hown, hts⟩ (c_It_findOrAdd l D _ _ _ (ad (a.sl (j_n sv))) k kx _ _ _ _ _ _ _ (cs (a.sl (j_n sv))) hit (hC.2.2.2.2.2.1 _ o1 o2).1) (x_cb (cwV (own := R_De) (index := 102) (C := R_It) 1 hts (x_gi (by decide +kernel)) rfl rfl rfl (by decide +kernel) ⟨by decide, by decide⟩).1) (hts (.instanceMethod y_It_findOrAdd) (by decide +kernel)) (hts (.selects R_It y_It_findOrAdd y_It_findOrAdd) (by decide +kernel)) (y_recv (ci := 1) (q := (R_It, F_It, 9)) hK hP rfl hit) hE hP hA hA0 hS rfl hl.1 rfl (lv_room (Nat.le_of_ble_eq_true rfl)) d_De_put_16 (by first | decide | omega) (by first | decide | omega) (fun v9 g9 H locs hq9 hP hA hS => ?_) (fun E9 q9 ce9 g9 H locs hq9 hP hA hS z1 z2 z3 => ?_)
          · skip
            obtain ⟨cs1, q1, nx, hr1, hC1, hm1, hk1, hy1⟩ := hC.foa o1 o2 hfx hq9
            cases hr1
            refine W.eq (g2 := F0 m 19 ls [.ref q1.1]) rfl ?_
            refine lv_aload hx hb d_De_put_19 (lv_at hl 0 rfl) ?_
            obtain ⟨x9, hx9, hit9⟩ := hC1.2.2.2.1 (a.sl (j_n sv)) o1 o2
            rw [hfx] at hx9
            cases hx9
            refine y_get (D := D) (ci := 1) (v := .ref kx) (C := R_It) (T := F_It) (N := 9) hx hb hts in_It hown hK hP hit9 rfl 0 (by decide) (hts (.fieldLink R_De 105 "MemoryDesk$Item" "kind" "LMemoryDesk$Kind;") (by decide +kernel)) (fun _ h9 => h9) rfl d_De_put_21 ?_
            refine lv_lload_n hx hb d_De_put_24 rfl (lv_at hl 4 rfl) ?_
            obtain ⟨qk, hqk, hkin, hkq⟩ := hC1.kq hw o1 o2 hfx
            have hrow : a_row a (a.sl (j_n sv)) = qk.1 := by unfold a_row; rw [hqk]
            have hL := (hC1.2.2.2.2.2.1 (a.sl (j_n sv)) o1 o2).2
            have hnr : ¬ a_ref a (a.sl (j_n sv)) k := fun z => hrf.mp z
            have hnn := ((hL.1 q1 hm1).1 (by rw [hk1]; exact hnr)).2
            rcases hkq with ⟨h0, hk⟩ | ⟨h0, hk⟩
            · skip
              refine vp_callSl (va_Run.run (va_runU (C := R_Pk) (owner := R_Ki) (x := ⟨R_Ki, "cut", "(J)J"⟩) (As := [.long v]) ⟨hx, hb, hml, hown, hts⟩ (c_Pk_cut l D _ _ kx v) (va_cwA (own := R_De) (index := 109) 1 hts (x_gi (by decide +kernel)) rfl rfl rfl (hE.1.2.2.1 (.declares ⟨R_Ki, "cut", "(J)J"⟩) (by decide +kernel)) (by decide +kernel) ⟨by decide, by decide⟩) ⟨w_Pp.blind, y_recv (ci := 2) (q := (R_Pk, F_Pk, 2)) hK hP rfl hk, fun U hU hW => ⟨rfl, by rw [hU]; exact hP, hE.1.to hW⟩⟩ rfl rfl hl.1 rfl (lv_room (Nat.le_of_ble_eq_true rfl)) d_De_put_25 ⟨by first | decide | omega, by first | decide | omega⟩)) (fun r9 hr9 => ?_)
              have hcut : r9 = a_cut a (a.sl (j_n sv)) v := hr9.trans (f_cutP v (by rw [hrow]; exact h0))
              refine y_put (D := D) (ci := 0) (v := .long r9) (ty := .long) (C := R_Ce) (T := F_Ce) (N := 4) hx hb hts in_Ce t_Ce t_Ce_ok n_Ce hown hK hP hA hS hy1 rfl 2 (by decide) (hts (.fieldLink R_De 96 "MemoryDesk$Cell" "value" "J") (by decide +kernel)) (fun _ h9 => h9) rfl (by decide +kernel) rfl rfl (Nat.le_of_ble_eq_true rfl) d_De_put_28 (fun H locs hP hA hS => ?_)
              have hP : y_P D vwCl (va_up g9 q1.1 (some (e_cell k nx r9 q1.2.2.2))) H := hP
              have hA : ∀ q99 e99, (va_up g9 q1.1 (some (e_cell k nx r9 q1.2.2.2))) q99 = some e99 → A q99 := hA
              have hok : ∀ y, c_okc (a_putc a (a.sl (j_n sv)) k (a_cut a (a.sl (j_n sv)) v)) ad (a.sl (j_n sv)) (y, k, r9, q1.2.2.2) := fun y => ⟨fun _ => ⟨hcut.trans a_putc.self.symm, hnn⟩, fun z => absurd z hnr⟩
              refine W.widen (k := 6) (n := 60) (by first | decide | omega) (by first | decide | omega) ?_
              exact x_ret (W.vret hx hb hr (w_fin rfl hAe (w_good (v := none) (s_pl0 hs o0 hki hrf) (c_R.of (hC1.putc o1 o2 hm1 hk1 hy1 hok) hsn hwk hu hum hlv rfl (fun _ _ _ => rfl) (fun o z => r_putv hnr z))) hP hA hS) hS.2.2 d_De_put_31)
            · skip
              refine vp_callSl (va_Run.run (va_runU (C := R_Rk) (owner := R_Ki) (x := ⟨R_Ki, "cut", "(J)J"⟩) (As := [.long v]) ⟨hx, hb, hml, hown, hts⟩ (c_Rk_cut l D _ _ kx v _ _ hk) (va_cwA (own := R_De) (index := 109) 1 hts (x_gi (by decide +kernel)) rfl rfl rfl (hE.1.2.2.1 (.declares ⟨R_Ki, "cut", "(J)J"⟩) (by decide +kernel)) (by decide +kernel) ⟨by decide, by decide⟩) ⟨w_Pp.blind, y_recv (ci := 3) (q := (R_Rk, F_Rk, 2)) hK hP rfl hk, fun U hU hW => ⟨rfl, by rw [hU]; exact hP, hE.1.to hW⟩⟩ rfl rfl hl.1 rfl (lv_room (Nat.le_of_ble_eq_true rfl)) d_De_put_25 ⟨by first | decide | omega, by first | decide | omega⟩)) (fun r9 hr9 => ?_)
              have hcut : r9 = a_cut a (a.sl (j_n sv)) v := (by obtain ⟨rr, rr1, rr2⟩ := hkin.row h0; exact f_cutR v r9 hrow.symm (by rw [hrow]; exact rr2) rr1 hr9)
              refine y_put (D := D) (ci := 0) (v := .long r9) (ty := .long) (C := R_Ce) (T := F_Ce) (N := 4) hx hb hts in_Ce t_Ce t_Ce_ok n_Ce hown hK hP hA hS hy1 rfl 2 (by decide) (hts (.fieldLink R_De 96 "MemoryDesk$Cell" "value" "J") (by decide +kernel)) (fun _ h9 => h9) rfl (by decide +kernel) rfl rfl (Nat.le_of_ble_eq_true rfl) d_De_put_28 (fun H locs hP hA hS => ?_)
              have hP : y_P D vwCl (va_up g9 q1.1 (some (e_cell k nx r9 q1.2.2.2))) H := hP
              have hA : ∀ q99 e99, (va_up g9 q1.1 (some (e_cell k nx r9 q1.2.2.2))) q99 = some e99 → A q99 := hA
              have hok : ∀ y, c_okc (a_putc a (a.sl (j_n sv)) k (a_cut a (a.sl (j_n sv)) v)) ad (a.sl (j_n sv)) (y, k, r9, q1.2.2.2) := fun y => ⟨fun _ => ⟨hcut.trans a_putc.self.symm, hnn⟩, fun z => absurd z hnr⟩
              refine W.widen (k := 6) (n := 60) (by first | decide | omega) (by first | decide | omega) ?_
              exact x_ret (W.vret hx hb hr (w_fin rfl hAe (w_good (v := none) (s_pl0 hs o0 hki hrf) (c_R.of (hC1.putc o1 o2 hm1 hk1 hy1 hok) hsn hwk hu hum hlv rfl (fun _ _ _ => rfl) (fun o z => r_putv hnr z))) hP hA hS) hS.2.2 d_De_put_31)
          · skip
            obtain ⟨cs1, q1, nx, hr1, -⟩ := hC.foa o1 o2 hfx hq9
            cases hr1
      · skip
        obtain ⟨hg9, hq9⟩ := hq9
        rw [hg9] at hP hA
        rcases hq9 with ⟨hfn, hv9⟩ | ⟨q9, kx, len9, wd9, cs9, tg9, kp9, nk9, sn9, np9, hfq, hq, ⟨hki, hv9⟩ | ⟨hki, hrf, hv9⟩ | ⟨-, -, hv9⟩⟩
        · cases hv9
          refine x_W.widen (k := 6) (n := 60) (by first | decide | omega) (by first | decide | omega) ?_
          exact x_leave (hno 8) hlocks (w_lea rfl hAe (w_bad (i := 1) rfl (s_pl2 hs (c_ob.none ((hC.2.2.1 _ hs.j32).symm.trans hfn))) hR0 (Nat.le_succ _)) hP hA hS z1 z2 z3) hS.2.2
        · cases hv9
          obtain ⟨o0, o1, o2, hqo, hlen, hfx, hit⟩ := hC.place hw hs hfq hq
          rw [hlen] at hki
          refine x_W.widen (k := 6) (n := 60) (by first | decide | omega) (by first | decide | omega) ?_
          exact x_leave (hno 8) hlocks (w_lea rfl hAe (w_bad (i := 2) rfl (s_pl3 hs o0 hki) hR0 (Nat.le_succ _)) hP hA hS z1 z2 z3) hS.2.2
        · cases hv9
          obtain ⟨o0, o1, o2, hqo, hlen, hfx, hit⟩ := hC.place hw hs hfq hq
          rw [hlen] at hki
          refine x_W.widen (k := 6) (n := 60) (by first | decide | omega) (by first | decide | omega) ?_
          exact x_leave (hno 8) hlocks (w_lea rfl hAe (w_bad (i := 3) rfl (s_pl4 hs o0 hki (fun z => hrf (w_rf0.mpr ((hC.refs hw o1 o2 hfx hki).trans z)))) hR0 (Nat.le_succ _)) hP hA hS z1 z2 z3) hS.2.2
        · cases hv9
    · cases hv9
  · skip
    obtain ⟨hg9, hq9⟩ := hq9
    rw [hg9] at hP hA
    rcases hq9 with ⟨hv9, -⟩ | ⟨hv9, hs⟩
    · cases hv9
    · cases hv9
      refine x_W.widen (k := 6) (n := 60) (by first | decide | omega) (by first | decide | omega) ?_
      exact x_leave (hno 1) hlocks (w_lea rfl hAe (w_bad (i := 0) rfl (s_pl1 hs) hR0 (Nat.le_succ _)) hP hA hS z1 z2 z3) hS.2.2
set_option maxHeartbeats 4000000 in
set_option maxRecDepth 100000 in
/-- link(s, k, t) -/
theorem c_De_link (l : Launch) (hst : l.stackTraces = false) (D : va_G) (cK cI cN cZ cL : ClassId) (g : y_G) (sz : Nat) (a : Ab) (cn d : Nat) (sv k t : Int32) (hw : a_W a cn) (hcn : cn < 2 ^ 30) (hR : c_R cK cI a g d cn) : x_M l y_De_link [.code y_De_link b_De_link 6 (some .boolean)] rmP (w_Pc D (x_tys cK cI cN cZ cL) [.ref d, .int sv, .int k, .int t] g sz) (w_Qc D g sz (fun r g9 => x_out [xIAE, xISE, xIOO, xUOE] (s_link a sv k t) r ∧ c_R cK cI (s_link a sv k t).2.2 g9 d (cn + 1))) 6 60 (y_A g sz) := by
  refine x_ofW (cc := b_De_link) (maxL := 6) (ret := (some .boolean)) (by decide) rfl ?_
  intro p e s m args below meth c s₁ B hml hno hv
  obtain ⟨rfl, hsz, hP, hE⟩ := hv
  subst hsz
  have hts := hE.hts ([.ref d, .int sv, .int k, .int t] : List Value).toArray
  have hK := hE.1.2.1
  have hA0 : ∀ q, s.heap.size ≤ q → y_A g s.heap.size q := fun q h => Or.inr h
  have hA : ∀ q e, g q = some e → y_A g s.heap.size q := fun q e h => Or.inl (by rw [h]; exact fun z => nomatch z)
  have hS : va_S (y_A g s.heap.size) s.heap s.heap [] := va_S.rf
  generalize hAe : y_A g s.heap.size = A at hE hA0 hA hS ⊢
  have hx := B.exec
  have hb := B.bytes
  have hr := B.returns
  have hlocks := B.notSynchronized
  have hown : s.vm.findClass R_De = some m.cls := findClass_of_methodNamed B.named
  have hl := lv_entry ([.ref d, .int sv, .int k, .int t]) (n := 6) (Nat.le_of_ble_eq_true rfl)
  rw [lg_entry_eq]
  generalize (lg_sl ([.ref d, .int sv, .int k, .int t]) ++ List.replicate (6 - (lg_sl ([.ref d, .int sv, .int k, .int t])).length) Slot.unset).toArray = ls at hl ⊢
  have hl : lv_has ls 6 [(0, .ref d), (1, .int sv), (2, .int k), (3, .int t)] := hl
  have hR0 := hR
  obtain ⟨ka, sa, fk, fs, ad, cs, ks, itv, u, wk, sn, np, lv, hC, hsn, hwk, hu, hum, hlv⟩ := hR
  have hn9 : a.n ≤ cn := hw.2.2.2.2.2.2.2.2.2.1
  have hmm : a.mem ≤ 65536 := hw.2.2.2.2.2.2.2.2.1
  refine lv_iload_n hx hb d_De_link_0 rfl (lv_at hl 1 rfl) ?_
  refine w_callS (As := [.int sv]) ⟨hx, hb, hml, hown, hts⟩ (c_De_checkSlot l hst D _ _ _ sv) (x_cb (va_cwS (own := R_De) (index := 53) 1 hts (x_gi (by decide +kernel)) rfl rfl rfl (by decide +kernel) ⟨by decide, by decide⟩).1) (hts (.static y_De_checkSlot) (by decide +kernel)) hE hP hA hA0 hS rfl hl.1 rfl (lv_room (Nat.le_of_ble_eq_true rfl)) d_De_link_1 (by first | decide | omega) (by first | decide | omega) (fun v9 g9 H locs hq9 hP hA hS => ?_) (fun E9 q9 ce9 g9 H locs hq9 hP hA hS z1 z2 z3 => ?_)
  · skip
    obtain ⟨hg9, hq9⟩ := hq9
    rw [hg9] at hP hA
    rcases hq9 with ⟨hv9, hs⟩ | ⟨hv9, -⟩
    · cases hv9
      refine W.eq (g2 := F0 m 4 ls []) rfl ?_
      refine lv_iload_n hx hb d_De_link_4 rfl (lv_at hl 3 rfl) ?_
      refine w_callS (As := [.int t]) ⟨hx, hb, hml, hown, hts⟩ (c_De_checkSlot l hst D _ _ _ t) (x_cb (va_cwS (own := R_De) (index := 53) 1 hts (x_gi (by decide +kernel)) rfl rfl rfl (by decide +kernel) ⟨by decide, by decide⟩).1) (hts (.static y_De_checkSlot) (by decide +kernel)) hE hP hA hA0 hS rfl hl.1 rfl (lv_room (Nat.le_of_ble_eq_true rfl)) d_De_link_5 (by first | decide | omega) (by first | decide | omega) (fun v9 g9 H locs hq9 hP hA hS => ?_) (fun E9 q9 ce9 g9 H locs hq9 hP hA hS z1 z2 z3 => ?_)
      · skip
        obtain ⟨hg9, hq9⟩ := hq9
        rw [hg9] at hP hA
        rcases hq9 with ⟨hv9, ht⟩ | ⟨hv9, -⟩
        · cases hv9
          refine W.eq (g2 := F0 m 8 ls []) rfl ?_
          refine lv_aload_n hx hb d_De_link_8 rfl (lv_at hl 0 rfl) ?_
          refine lv_iload_n hx hb d_De_link_9 rfl (lv_at hl 1 rfl) ?_
          refine lv_iload_n hx hb d_De_link_10 rfl (lv_at hl 2 rfl) ?_
          refine lv_iconst (v := 1) hx hb d_De_link_11 (by decide) ?_
          refine w_callV (As := [.int sv, .int k, .int 1]) (C := R_De) ⟨hx, hb, hml, hown, hts⟩ (c_De_heldWithPlace l hst D cK cI cN cZ cL _ _ d ka sa _ _ _ _ _ _ _ _ _ sv k 1 fs hC.1.1 hC.1.2.2 hs (Or.inr rfl) (hC.hit hw hs)) (x_cb (cwV (own := R_De) (index := 88) (C := R_De) 3 hts (x_gi (by decide +kernel)) rfl rfl rfl (by decide +kernel) ⟨by decide, by decide⟩).1) (hts (.instanceMethod y_De_heldWithPlace) (by decide +kernel)) (hts (.selects R_De y_De_heldWithPlace y_De_heldWithPlace) (by decide +kernel)) (y_recv (ci := 4) (q := (R_De, F_De, 11)) hK hP rfl hC.1.1) hE hP hA hA0 hS rfl hl.1 rfl (lv_room (Nat.le_of_ble_eq_true rfl)) d_De_link_12 (by first | decide | omega) (by first | decide | omega) (fun v9 g9 H locs hq9 hP hA hS => ?_) (fun E9 q9 ce9 g9 H locs hq9 hP hA hS z1 z2 z3 => ?_)
          · skip
            obtain ⟨hg9, hq9⟩ := hq9
            rw [hg9] at hP hA
            rcases hq9 with ⟨-, hv9⟩ | ⟨q9, kx, len9, wd9, cs9, tg9, kp9, nk9, sn9, np9, hfq, hq, ⟨-, hv9⟩ | ⟨-, -, hv9⟩ | ⟨hki, hrf, hv9⟩⟩
            · cases hv9
            · cases hv9
            · cases hv9
            · cases hv9
              obtain ⟨o0, o1, o2, hqo, hlen, hfx, hit⟩ := hC.place hw hs hfq hq
              rw [hlen] at hki
              have hrf := (hC.refs hw o1 o2 hfx hki).symm.trans (w_rf1.mp hrf)
              rw [hqo]
              refine W.eq (g2 := F0 m 15 ls [.ref (ad (a.sl (j_n sv)))]) rfl ?_
              refine lv_iload_n hx hb d_De_link_15 rfl (lv_at hl 2 rfl) ?_
              refine w_callV (As := [.int k]) (C := R_It) ⟨hx, hb, hml, hown, hts⟩ (c_It_findOrAdd l D _ _ _ (ad (a.sl (j_n sv))) k kx _ _ _ _ _ _ _ (cs (a.sl (j_n sv))) hit (hC.2.2.2.2.2.1 _ o1 o2).1) (x_cb (cwV (own := R_De) (index := 102) (C := R_It) 1 hts (x_gi (by decide +kernel)) rfl rfl rfl (by decide +kernel) ⟨by decide, by decide⟩).1) (hts (.instanceMethod y_It_findOrAdd) (by decide +kernel)) (hts (.selects R_It y_It_findOrAdd y_It_findOrAdd) (by decide +kernel)) (y_recv (ci := 1) (q := (R_It, F_It, 9)) hK hP rfl hit) hE hP hA hA0 hS rfl hl.1 rfl (lv_room (Nat.le_of_ble_eq_true rfl)) d_De_link_16 (by first | decide | omega) (by first | decide | omega) (fun v9 g9 H locs hq9 hP hA hS => ?_) (fun E9 q9 ce9 g9 H locs hq9 hP hA hS z1 z2 z3 => ?_)
              · skip
                obtain ⟨cs1, q1, nx, hr1, hC1, hm1, hk1, hy1⟩ := hC.foa o1 o2 hfx hq9
                cases hr1
                refine W.eq (g2 := F0 m 19 ls [.ref q1.1]) rfl ?_
                refine lv_astore hx hb d_De_link_19 hl (by decide) rfl (fun ls hl => ?_)
                have hl : lv_has ls 6 [(4, .ref q1.1), (0, .ref d), (1, .int sv), (2, .int k), (3, .int t)] := hl
                refine lv_aload hx hb d_De_link_21 (lv_at hl 0 rfl) ?_
                refine y_get (D := D) (ci := 0) (v := va_rf q1.2.2.2) (C := R_Ce) (T := F_Ce) (N := 4) hx hb hts in_Ce hown hK hP hy1 rfl 3 (by decide) (hts (.fieldLink R_De 113 "MemoryDesk$Cell" "named" "LMemoryDesk$Item;") (by decide +kernel)) (fun _ h9 => h9) rfl d_De_link_23 ?_
                have hL := (hC1.2.2.2.2.2.1 (a.sl (j_n sv)) o1 o2).2
                have hr1 : a_ref a (a.sl (j_n sv)) k := hrf.mpr trivial
                have hcell := (hL.1 q1 hm1).2 (by rw [hk1]; exact hr1)
                rw [hk1] at hcell
                have hft := hC1.2.2.1 (j_n t) ht.j32
                have hst2 := hw.2.2.1 (j_n t) ht.j32
                have hok : ∀ y, c_okc (a_putc a (a.sl (j_n sv)) k (lN (a.sl (j_n t)))) ad (a.sl (j_n sv)) (y, k, q1.2.2.1, fs (j_n t)) := fun y => by
                  refine ⟨fun z => absurd hr1 z, fun _ => ?_⟩
                  show ((a_putc a _ k _).ct _ k = 0 ∧ _) ∨ ∃ b, _ ∧ _ ∧ (a_putc a _ k _).ct _ k = _ ∧ _
                  rw [a_putc.self]
                  by_cases e0 : a.sl (j_n t) = 0
                  · exact Or.inl ⟨by rw [e0]; rfl, by rw [hft, e0]; rfl⟩
                  · exact Or.inr ⟨_, by omega, hst2, rfl, by rw [hft]; exact c_ob.at e0⟩
                obtain ⟨o_q, hq⟩ : ∃ z, q1.2.2.2 = z := ⟨_, rfl⟩
                refine W.eq (g2 := F0 m 26 ls [va_rf o_q]) (congrArg (fun z => F0 m 26 ls [va_rf z]) hq) ?_
                cases o_q with
                | none =>
                  refine lv_ifnullN hx hb d_De_link_26 rfl ?_
                  refine lv_iconst (v := 0) hx hb d_De_link_33 (by decide) ?_
                  refine lv_istore hx hb d_De_link_34 hl (by decide) rfl (fun ls hl => ?_)
                  have hl : lv_has ls 6 [(5, .int 0), (4, .ref q1.1), (0, .ref d), (1, .int sv), (2, .int k), (3, .int t)] := hl
                  refine lv_aload hx hb d_De_link_36 (lv_at hl 1 rfl) ?_
                  refine lv_aload_n hx hb d_De_link_38 rfl (lv_at hl 2 rfl) ?_
                  refine y_get (D := D) (ci := 4) (v := .ref sa) (C := R_De) (T := F_De) (N := 11) hx hb hts in_De hown hK hP hC1.1.1 rfl 1 (by decide) (hts (.fieldLink R_De 17 "MemoryDesk" "slots" "[LMemoryDesk$Item;") (by decide +kernel)) (fun _ h9 => h9) rfl d_De_link_39 ?_
                  refine lv_iload_n hx hb d_De_link_42 rfl (lv_at hl 5 rfl) ?_
                  refine y_aldq hx hb hK hP 1 hC1.1.2.2 rfl ht.v32 d_De_link_43 ?_
                  refine y_put (D := D) (ci := 0) (v := va_rf (fs t.toNatClampNeg)) (ty := .object "MemoryDesk$Item") (C := R_Ce) (T := F_Ce) (N := 4) hx hb hts in_Ce t_Ce t_Ce_ok n_Ce hown hK hP hA hS hy1 rfl 3 (by decide) (hts (.fieldLink R_De 113 "MemoryDesk$Cell" "named" "LMemoryDesk$Item;") (by decide +kernel)) (fun _ h9 => h9) rfl (by decide +kernel) (by rcases va_rf_or (fs t.toNatClampNeg) with h | ⟨z, h⟩ <;> rw [h] <;> rfl) (by rcases va_rf_or (fs t.toNatClampNeg) with h | ⟨z, h⟩ <;> rw [h] <;> rfl) (Nat.le_of_ble_eq_true rfl) d_De_link_44 (fun H locs hP hA hS => ?_)
                  have hP : y_P D vwCl (va_up g9 q1.1 (some (e_cell k nx q1.2.2.1 (fs (j_n t))))) H := hP
                  have hA : ∀ q99 e99, (va_up g9 q1.1 (some (e_cell k nx q1.2.2.1 (fs (j_n t))))) q99 = some e99 → A q99 := hA
                  refine lv_iload hx hb d_De_link_47 (lv_at hl 0 rfl) ?_
                  have hb9 : ¬ a.ct (a.sl (j_n sv)) k ≠ 0 := by
                    rcases hcell with z | ⟨b, -, -, -, z⟩
                    · exact fun y => y z.1
                    · rw [hq] at z; cases z
                  refine W.widen (k := 6) (n := 60) (by first | decide | omega) (by first | decide | omega) ?_
                  exact x_ret (W.zret (v := 0) hx hb hr rfl (w_fin rfl hAe (w_good (v := some (.int 0)) (((q_y ht).trans (s_pl0 hs o0 hki hrf)).trans (by rw [w_b0 hb9])) (c_R.of (hC1.putc o1 o2 hm1 hk1 hy1 hok) hsn hwk hu hum hlv rfl (fun _ _ _ => rfl) (fun o z => r_putr hw hcn ht.j32 z))) hP hA hS) hS.2.2 d_De_link_49)
                | some q =>
                  refine lv_ifnull hx hb d_De_link_26 ?_
                  refine lv_iconst (v := 1) hx hb d_De_link_29 (by decide) ?_
                  refine lv_goto hx hb d_De_link_30 rfl ?_
                  refine lv_istore hx hb d_De_link_34 hl (by decide) rfl (fun ls hl => ?_)
                  have hl : lv_has ls 6 [(5, .int 1), (4, .ref q1.1), (0, .ref d), (1, .int sv), (2, .int k), (3, .int t)] := hl
                  refine lv_aload hx hb d_De_link_36 (lv_at hl 1 rfl) ?_
                  refine lv_aload_n hx hb d_De_link_38 rfl (lv_at hl 2 rfl) ?_
                  refine y_get (D := D) (ci := 4) (v := .ref sa) (C := R_De) (T := F_De) (N := 11) hx hb hts in_De hown hK hP hC1.1.1 rfl 1 (by decide) (hts (.fieldLink R_De 17 "MemoryDesk" "slots" "[LMemoryDesk$Item;") (by decide +kernel)) (fun _ h9 => h9) rfl d_De_link_39 ?_
                  refine lv_iload_n hx hb d_De_link_42 rfl (lv_at hl 5 rfl) ?_
                  refine y_aldq hx hb hK hP 1 hC1.1.2.2 rfl ht.v32 d_De_link_43 ?_
                  refine y_put (D := D) (ci := 0) (v := va_rf (fs t.toNatClampNeg)) (ty := .object "MemoryDesk$Item") (C := R_Ce) (T := F_Ce) (N := 4) hx hb hts in_Ce t_Ce t_Ce_ok n_Ce hown hK hP hA hS hy1 rfl 3 (by decide) (hts (.fieldLink R_De 113 "MemoryDesk$Cell" "named" "LMemoryDesk$Item;") (by decide +kernel)) (fun _ h9 => h9) rfl (by decide +kernel) (by rcases va_rf_or (fs t.toNatClampNeg) with h | ⟨z, h⟩ <;> rw [h] <;> rfl) (by rcases va_rf_or (fs t.toNatClampNeg) with h | ⟨z, h⟩ <;> rw [h] <;> rfl) (Nat.le_of_ble_eq_true rfl) d_De_link_44 (fun H locs hP hA hS => ?_)
                  have hP : y_P D vwCl (va_up g9 q1.1 (some (e_cell k nx q1.2.2.1 (fs (j_n t))))) H := hP
                  have hA : ∀ q99 e99, (va_up g9 q1.1 (some (e_cell k nx q1.2.2.1 (fs (j_n t))))) q99 = some e99 → A q99 := hA
                  refine lv_iload hx hb d_De_link_47 (lv_at hl 0 rfl) ?_
                  have hb9 : a.ct (a.sl (j_n sv)) k ≠ 0 := by
                    rcases hcell with z | ⟨b, b1, b2, b3, -⟩
                    · rw [hq] at z; cases z.2
                    · rw [b3]; exact fun y => absurd ((lN_eq (b := 0) (by omega) (by omega)).mp y) (by omega)
                  refine W.widen (k := 6) (n := 60) (by first | decide | omega) (by first | decide | omega) ?_
                  exact x_ret (W.zret (v := 1) hx hb hr rfl (w_fin rfl hAe (w_good (v := some (.int 1)) (((q_y ht).trans (s_pl0 hs o0 hki hrf)).trans (by rw [w_b1 hb9])) (c_R.of (hC1.putc o1 o2 hm1 hk1 hy1 hok) hsn hwk hu hum hlv rfl (fun _ _ _ => rfl) (fun o z => r_putr hw hcn ht.j32 z))) hP hA hS) hS.2.2 d_De_link_49)
              · skip
                obtain ⟨cs1, q1, nx, hr1, -⟩ := hC.foa o1 o2 hfx hq9
                cases hr1
          · skip
            obtain ⟨hg9, hq9⟩ := hq9
            rw [hg9] at hP hA
            rcases hq9 with ⟨hfn, hv9⟩ | ⟨q9, kx, len9, wd9, cs9, tg9, kp9, nk9, sn9, np9, hfq, hq, ⟨hki, hv9⟩ | ⟨hki, hrf, hv9⟩ | ⟨-, -, hv9⟩⟩
            · cases hv9
              refine x_W.widen (k := 6) (n := 60) (by first | decide | omega) (by first | decide | omega) ?_
              exact x_leave (hno 12) hlocks (w_lea rfl hAe (w_bad (i := 1) rfl ((q_y ht).trans (s_pl2 hs (c_ob.none ((hC.2.2.1 _ hs.j32).symm.trans hfn)))) hR0 (Nat.le_succ _)) hP hA hS z1 z2 z3) hS.2.2
            · cases hv9
              obtain ⟨o0, o1, o2, hqo, hlen, hfx, hit⟩ := hC.place hw hs hfq hq
              rw [hlen] at hki
              refine x_W.widen (k := 6) (n := 60) (by first | decide | omega) (by first | decide | omega) ?_
              exact x_leave (hno 12) hlocks (w_lea rfl hAe (w_bad (i := 2) rfl ((q_y ht).trans (s_pl3 hs o0 hki)) hR0 (Nat.le_succ _)) hP hA hS z1 z2 z3) hS.2.2
            · cases hv9
              obtain ⟨o0, o1, o2, hqo, hlen, hfx, hit⟩ := hC.place hw hs hfq hq
              rw [hlen] at hki
              refine x_W.widen (k := 6) (n := 60) (by first | decide | omega) (by first | decide | omega) ?_
              exact x_leave (hno 12) hlocks (w_lea rfl hAe (w_bad (i := 3) rfl ((q_y ht).trans (s_pl4 hs o0 hki (fun z => hrf (w_rf1.mpr ((hC.refs hw o1 o2 hfx hki).trans z))))) hR0 (Nat.le_succ _)) hP hA hS z1 z2 z3) hS.2.2
            · cases hv9
        · cases hv9
      · skip
        obtain ⟨hg9, hq9⟩ := hq9
        rw [hg9] at hP hA
        rcases hq9 with ⟨hv9, -⟩ | ⟨hv9, ht⟩
        · cases hv9
        · cases hv9
          refine x_W.widen (k := 6) (n := 60) (by first | decide | omega) (by first | decide | omega) ?_
          exact x_leave (hno 5) hlocks (w_lea rfl hAe (w_bad (i := 0) rfl (q_n ht) hR0 (Nat.le_succ _)) hP hA hS z1 z2 z3) hS.2.2
    · cases hv9
  · skip
    obtain ⟨hg9, hq9⟩ := hq9
    rw [hg9] at hP hA
    rcases hq9 with ⟨hv9, -⟩ | ⟨hv9, hs⟩
    · cases hv9
    · cases hv9
      refine x_W.widen (k := 6) (n := 60) (by first | decide | omega) (by first | decide | omega) ?_
      exact x_leave (hno 1) hlocks (w_lea rfl hAe (w_bad (i := 0) rfl (Classical.byCases (fun ht : b_in t 32 => (q_y ht).trans (s_pl1 hs)) (fun ht => q_n ht)) hR0 (Nat.le_succ _)) hP hA hS z1 z2 z3) hS.2.2
set_option maxHeartbeats 4000000 in
set_option maxRecDepth 100000 in
/-- follow(s, k, t) -/
theorem c_De_follow (l : Launch) (hst : l.stackTraces = false) (D : va_G) (cK cI cN cZ cL : ClassId) (g : y_G) (sz : Nat) (a : Ab) (cn d : Nat) (sv k t : Int32) (hw : a_W a cn) (hcn : cn < 2 ^ 30) (hR : c_R cK cI a g d cn) : x_M l y_De_follow [.code y_De_follow b_De_follow 5 (some .boolean)] rmP (w_Pc D (x_tys cK cI cN cZ cL) [.ref d, .int sv, .int k, .int t] g sz) (w_Qc D g sz (fun r g9 => x_out [xIAE, xISE, xIOO, xUOE] (s_follow a sv k t) r ∧ c_R cK cI (s_follow a sv k t).2.2 g9 d (cn + 1))) 6 60 (y_A g sz) := by
  refine x_ofW (cc := b_De_follow) (maxL := 5) (ret := (some .boolean)) (by decide) rfl ?_
  intro p e s m args below meth c s₁ B hml hno hv
  obtain ⟨rfl, hsz, hP, hE⟩ := hv
  subst hsz
  have hts := hE.hts ([.ref d, .int sv, .int k, .int t] : List Value).toArray
  have hK := hE.1.2.1
  have hA0 : ∀ q, s.heap.size ≤ q → y_A g s.heap.size q := fun q h => Or.inr h
  have hA : ∀ q e, g q = some e → y_A g s.heap.size q := fun q e h => Or.inl (by rw [h]; exact fun z => nomatch z)
  have hS : va_S (y_A g s.heap.size) s.heap s.heap [] := va_S.rf
  generalize hAe : y_A g s.heap.size = A at hE hA0 hA hS ⊢
  have hx := B.exec
  have hb := B.bytes
  have hr := B.returns
  have hlocks := B.notSynchronized
  have hown : s.vm.findClass R_De = some m.cls := findClass_of_methodNamed B.named
  have hl := lv_entry ([.ref d, .int sv, .int k, .int t]) (n := 5) (Nat.le_of_ble_eq_true rfl)
  rw [lg_entry_eq]
  generalize (lg_sl ([.ref d, .int sv, .int k, .int t]) ++ List.replicate (5 - (lg_sl ([.ref d, .int sv, .int k, .int t])).length) Slot.unset).toArray = ls at hl ⊢
  have hl : lv_has ls 5 [(0, .ref d), (1, .int sv), (2, .int k), (3, .int t)] := hl
  have hR0 := hR
  obtain ⟨ka, sa, fk, fs, ad, cs, ks, itv, u, wk, sn, np, lv, hC, hsn, hwk, hu, hum, hlv⟩ := hR
  have hn9 : a.n ≤ cn := hw.2.2.2.2.2.2.2.2.2.1
  have hmm : a.mem ≤ 65536 := hw.2.2.2.2.2.2.2.2.1
  refine lv_iload_n hx hb d_De_follow_0 rfl (lv_at hl 1 rfl) ?_
  refine w_callS (As := [.int sv]) ⟨hx, hb, hml, hown, hts⟩ (c_De_checkSlot l hst D _ _ _ sv) (x_cb (va_cwS (own := R_De) (index := 53) 1 hts (x_gi (by decide +kernel)) rfl rfl rfl (by decide +kernel) ⟨by decide, by decide⟩).1) (hts (.static y_De_checkSlot) (by decide +kernel)) hE hP hA hA0 hS rfl hl.1 rfl (lv_room (Nat.le_of_ble_eq_true rfl)) d_De_follow_1 (by first | decide | omega) (by first | decide | omega) (fun v9 g9 H locs hq9 hP hA hS => ?_) (fun E9 q9 ce9 g9 H locs hq9 hP hA hS z1 z2 z3 => ?_)
  · skip
    obtain ⟨hg9, hq9⟩ := hq9
    rw [hg9] at hP hA
    rcases hq9 with ⟨hv9, hs⟩ | ⟨hv9, -⟩
    · cases hv9
      refine W.eq (g2 := F0 m 4 ls []) rfl ?_
      refine lv_iload_n hx hb d_De_follow_4 rfl (lv_at hl 3 rfl) ?_
      refine w_callS (As := [.int t]) ⟨hx, hb, hml, hown, hts⟩ (c_De_checkSlot l hst D _ _ _ t) (x_cb (va_cwS (own := R_De) (index := 53) 1 hts (x_gi (by decide +kernel)) rfl rfl rfl (by decide +kernel) ⟨by decide, by decide⟩).1) (hts (.static y_De_checkSlot) (by decide +kernel)) hE hP hA hA0 hS rfl hl.1 rfl (lv_room (Nat.le_of_ble_eq_true rfl)) d_De_follow_5 (by first | decide | omega) (by first | decide | omega) (fun v9 g9 H locs hq9 hP hA hS => ?_) (fun E9 q9 ce9 g9 H locs hq9 hP hA hS z1 z2 z3 => ?_)
      · skip
        obtain ⟨hg9, hq9⟩ := hq9
        rw [hg9] at hP hA
        rcases hq9 with ⟨hv9, ht⟩ | ⟨hv9, -⟩
        · cases hv9
          refine W.eq (g2 := F0 m 8 ls []) rfl ?_
          refine lv_aload_n hx hb d_De_follow_8 rfl (lv_at hl 0 rfl) ?_
          refine lv_iload_n hx hb d_De_follow_9 rfl (lv_at hl 1 rfl) ?_
          refine lv_iload_n hx hb d_De_follow_10 rfl (lv_at hl 2 rfl) ?_
          refine lv_iconst (v := 1) hx hb d_De_follow_11 (by decide) ?_
          refine w_callV (As := [.int sv, .int k, .int 1]) (C := R_De) ⟨hx, hb, hml, hown, hts⟩ (c_De_heldWithPlace l hst D cK cI cN cZ cL _ _ d ka sa _ _ _ _ _ _ _ _ _ sv k 1 fs hC.1.1 hC.1.2.2 hs (Or.inr rfl) (hC.hit hw hs)) (x_cb (cwV (own := R_De) (index := 88) (C := R_De) 3 hts (x_gi (by decide +kernel)) rfl rfl rfl (by decide +kernel) ⟨by decide, by decide⟩).1) (hts (.instanceMethod y_De_heldWithPlace) (by decide +kernel)) (hts (.selects R_De y_De_heldWithPlace y_De_heldWithPlace) (by decide +kernel)) (y_recv (ci := 4) (q := (R_De, F_De, 11)) hK hP rfl hC.1.1) hE hP hA hA0 hS rfl hl.1 rfl (lv_room (Nat.le_of_ble_eq_true rfl)) d_De_follow_12 (by first | decide | omega) (by first | decide | omega) (fun v9 g9 H locs hq9 hP hA hS => ?_) (fun E9 q9 ce9 g9 H locs hq9 hP hA hS z1 z2 z3 => ?_)
          · skip
            obtain ⟨hg9, hq9⟩ := hq9
            rw [hg9] at hP hA
            rcases hq9 with ⟨-, hv9⟩ | ⟨q9, kx, len9, wd9, cs9, tg9, kp9, nk9, sn9, np9, hfq, hq, ⟨-, hv9⟩ | ⟨-, -, hv9⟩ | ⟨hki, hrf, hv9⟩⟩
            · cases hv9
            · cases hv9
            · cases hv9
            · cases hv9
              obtain ⟨o0, o1, o2, hqo, hlen, hfx, hit⟩ := hC.place hw hs hfq hq
              rw [hlen] at hki
              have hrf := (hC.refs hw o1 o2 hfx hki).symm.trans (w_rf1.mp hrf)
              rw [hqo]
              refine W.eq (g2 := F0 m 15 ls [.ref (ad (a.sl (j_n sv)))]) rfl ?_
              refine lv_iload_n hx hb d_De_follow_15 rfl (lv_at hl 2 rfl) ?_
              refine va_csq (W.runV (As := [.int k]) (C := R_It) ⟨hx, hb, hml, hown, hts⟩ (c_It_find l D _ g (ad (a.sl (j_n sv))) k kx _ _ _ _ _ _ _ (cs (a.sl (j_n sv))) hit (hC.2.2.2.2.2.1 _ o1 o2).1) (cwV (own := R_De) (index := 92) 1 hts (x_gi (by decide +kernel)) rfl rfl rfl (by decide +kernel) ⟨by decide, by decide⟩) ⟨w_Pp.blind, y_recv (ci := 1) (q := (R_It, F_It, 9)) hK hP rfl hit, fun U hU hW => ⟨rfl, by rw [hU]; exact hP, hE.1.to hW⟩⟩ rfl rfl hl.1 rfl (lv_room (Nat.le_of_ble_eq_true rfl)) d_De_follow_16 ⟨by first | decide | omega, by first | decide | omega⟩) (fun r9 hr9 => ?_)
              have hL := (hC.2.2.2.2.2.1 (a.sl (j_n sv)) o1 o2).2
              have hr1 : a_ref a (a.sl (j_n sv)) k := hrf.mpr trivial
              cases r9 with
              | none =>
                refine lv_astoreN hx hb d_De_follow_19 hl (by decide) rfl (fun ls hl => ?_)
                have hl : lv_has ls 5 [(4, .null), (0, .ref d), (1, .int sv), (2, .int k), (3, .int t)] := hl
                refine lv_aload_n hx hb d_De_follow_21 rfl (lv_at hl 1 rfl) ?_
                refine y_get (D := D) (ci := 4) (v := .ref sa) (C := R_De) (T := F_De) (N := 11) hx hb hts in_De hown hK hP hC.1.1 rfl 1 (by decide) (hts (.fieldLink R_De 17 "MemoryDesk" "slots" "[LMemoryDesk$Item;") (by decide +kernel)) (fun _ h9 => h9) rfl d_De_follow_22 ?_
                refine lv_iload_n hx hb d_De_follow_25 rfl (lv_at hl 4 rfl) ?_
                refine lv_aloadN hx hb d_De_follow_26 (lv_at hl 0 rfl) ?_
                refine lv_ifnonnullN hx hb d_De_follow_28 ?_
                refine lv_null hx hb d_De_follow_31 ?_
                refine lv_goto hx hb d_De_follow_32 rfl ?_
                have hct : a.ct (a.sl (j_n sv)) k = 0 := hL.2.2 k (c_fd_n hr9.symm)
                refine y_astN hx hb hK hP hA hS 1 hC.1.2.2 rfl ht.v32 d_De_follow_40 (fun H locs hP hA hS => ?_)
                have hP : y_P D vwCl (va_up g sa (some (e_refs cI 32 (va_up fs (j_n t) none)))) H := hP
                have hA : ∀ q99 e99, (va_up g sa (some (e_refs cI 32 (va_up fs (j_n t) none)))) q99 = some e99 → A q99 := hA
                refine lv_aload_n hx hb d_De_follow_41 rfl (lv_at hl 1 rfl) ?_
                have hd1 : (va_up g sa (some (e_refs cI 32 (va_up fs (j_n t) none)))) d = some (.inr (4, [.ref ka, .ref sa, .int (nI a.mem), .int (nI a.n), .int (nI a.kc), .int (nI a.nn), .int itv, va_rf (ks.head?.map ad), .int (nI u), .int (nI wk), .null])) := by rw [va_up_ne _ _ hC.dne.2.1.symm]; exact hC.1.1
                refine y_get (D := D) (ci := 4) (v := .ref sa) (C := R_De) (T := F_De) (N := 11) hx hb hts in_De hown hK hP hd1 rfl 1 (by decide) (hts (.fieldLink R_De 17 "MemoryDesk" "slots" "[LMemoryDesk$Item;") (by decide +kernel)) (fun _ h9 => h9) rfl d_De_follow_42 ?_
                refine lv_iload_n hx hb d_De_follow_45 rfl (lv_at hl 4 rfl) ?_
                refine y_aldq hx hb hK hP 1 (va_up_self _ _ _) rfl ht.v32 d_De_follow_46 ?_
                rw [va_up_self]
                refine lv_ifnullN hx hb d_De_follow_47 rfl ?_
                refine lv_iconst (v := 0) hx hb d_De_follow_54 (by decide) ?_
                refine W.widen (k := 6) (n := 60) (by first | decide | omega) (by first | decide | omega) ?_
                exact x_ret (W.zret (v := 0) hx hb hr rfl (w_fin rfl hAe (w_good (v := some (.int 0)) (((q_y ht).trans (s_pl0 hs o0 hki hrf)).trans (by rw [w_b0 (fun z => z hct), hct]; rfl)) (c_R.of (hC.slot (s := j_n t) (o := 0) rfl) hsn hwk hu hum hlv rfl (fun _ _ _ => rfl) (fun o z => r_puts (Or.inl rfl) z))) hP hA hS) hS.2.2 d_De_follow_55)
              | some y =>
                refine lv_astore hx hb d_De_follow_19 hl (by decide) rfl (fun ls hl => ?_)
                have hl : lv_has ls 5 [(4, .ref y), (0, .ref d), (1, .int sv), (2, .int k), (3, .int t)] := hl
                refine lv_aload_n hx hb d_De_follow_21 rfl (lv_at hl 1 rfl) ?_
                refine y_get (D := D) (ci := 4) (v := .ref sa) (C := R_De) (T := F_De) (N := 11) hx hb hts in_De hown hK hP hC.1.1 rfl 1 (by decide) (hts (.fieldLink R_De 17 "MemoryDesk" "slots" "[LMemoryDesk$Item;") (by decide +kernel)) (fun _ h9 => h9) rfl d_De_follow_22 ?_
                refine lv_iload_n hx hb d_De_follow_25 rfl (lv_at hl 4 rfl) ?_
                refine lv_aload hx hb d_De_follow_26 (lv_at hl 0 rfl) ?_
                refine lv_ifnonnull hx hb d_De_follow_28 rfl ?_
                refine lv_aload hx hb d_De_follow_35 (lv_at hl 0 rfl) ?_
                obtain ⟨q1, z1, z2, z3⟩ := c_fd_s hr9.symm
                obtain ⟨nx, z4⟩ := (hC.2.2.2.2.2.1 (a.sl (j_n sv)) o1 o2).1.at q1 z1
                rw [z3] at z4
                have hcell := (hL.1 q1 z1).2 (by rw [z2]; exact hr1)
                rw [z2] at hcell
                refine y_get (D := D) (ci := 0) (v := va_rf q1.2.2.2) (C := R_Ce) (T := F_Ce) (N := 4) hx hb hts in_Ce hown hK hP z4 rfl 3 (by decide) (hts (.fieldLink R_De 113 "MemoryDesk$Cell" "named" "LMemoryDesk$Item;") (by decide +kernel)) (fun _ h9 => h9) rfl d_De_follow_37 ?_
                obtain ⟨o_z, hz⟩ : ∃ z, q1.2.2.2 = z := ⟨_, rfl⟩
                refine W.eq (g2 := F0 m 40 ls [va_rf o_z, .int t, .ref sa]) (congrArg (fun z => F0 m 40 ls [va_rf z, .int t, .ref sa]) hz) ?_
                cases o_z with
                | none =>
                  have hct : a.ct (a.sl (j_n sv)) k = 0 := by
                    rcases hcell with z | ⟨b, -, -, -, z⟩
                    · exact z.1
                    · rw [hz] at z; cases z
                  refine y_astN hx hb hK hP hA hS 1 hC.1.2.2 rfl ht.v32 d_De_follow_40 (fun H locs hP hA hS => ?_)
                  have hP : y_P D vwCl (va_up g sa (some (e_refs cI 32 (va_up fs (j_n t) none)))) H := hP
                  have hA : ∀ q99 e99, (va_up g sa (some (e_refs cI 32 (va_up fs (j_n t) none)))) q99 = some e99 → A q99 := hA
                  refine lv_aload_n hx hb d_De_follow_41 rfl (lv_at hl 1 rfl) ?_
                  have hd1 : (va_up g sa (some (e_refs cI 32 (va_up fs (j_n t) none)))) d = some (.inr (4, [.ref ka, .ref sa, .int (nI a.mem), .int (nI a.n), .int (nI a.kc), .int (nI a.nn), .int itv, va_rf (ks.head?.map ad), .int (nI u), .int (nI wk), .null])) := by rw [va_up_ne _ _ hC.dne.2.1.symm]; exact hC.1.1
                  refine y_get (D := D) (ci := 4) (v := .ref sa) (C := R_De) (T := F_De) (N := 11) hx hb hts in_De hown hK hP hd1 rfl 1 (by decide) (hts (.fieldLink R_De 17 "MemoryDesk" "slots" "[LMemoryDesk$Item;") (by decide +kernel)) (fun _ h9 => h9) rfl d_De_follow_42 ?_
                  refine lv_iload_n hx hb d_De_follow_45 rfl (lv_at hl 4 rfl) ?_
                  refine y_aldq hx hb hK hP 1 (va_up_self _ _ _) rfl ht.v32 d_De_follow_46 ?_
                  rw [va_up_self]
                  refine lv_ifnullN hx hb d_De_follow_47 rfl ?_
                  refine lv_iconst (v := 0) hx hb d_De_follow_54 (by decide) ?_
                  refine W.widen (k := 6) (n := 60) (by first | decide | omega) (by first | decide | omega) ?_
                  exact x_ret (W.zret (v := 0) hx hb hr rfl (w_fin rfl hAe (w_good (v := some (.int 0)) (((q_y ht).trans (s_pl0 hs o0 hki hrf)).trans (by rw [w_b0 (fun z => z hct), hct]; rfl)) (c_R.of (hC.slot (s := j_n t) (o := 0) rfl) hsn hwk hu hum hlv rfl (fun _ _ _ => rfl) (fun o z => r_puts (Or.inl rfl) z))) hP hA hS) hS.2.2 d_De_follow_55)
                | some z =>
                  rcases hcell with y9 | ⟨b, b1, b2, b3, b4⟩
                  · rw [hz] at y9; cases y9.2
                  · rw [hz] at b4
                    injection b4 with b4
                    have hRb : a_R a b := z_R.step (a_R.sl hs.j32 o0) ⟨o1, o2, b1, b2, k, hr1, b3⟩
                    obtain ⟨xb, -, hitb⟩ := hC.2.2.2.1 b b1 b2
                    rw [← b4] at hitb
                    have hb9 : a.ct (a.sl (j_n sv)) k ≠ 0 := by rw [b3]; exact fun y => absurd ((lN_eq (b := 0) (by omega) (by omega)).mp y) (by omega)
                    refine y_astS (r := (R_It, F_It, 9)) hx hb hK hP hA hS 1 1 hC.1.2.2 rfl hitb rfl ht.v32 d_De_follow_40 (fun H locs hP hA hS => ?_)
                    have hP : y_P D vwCl (va_up g sa (some (e_refs cI 32 (va_up fs (j_n t) (some z))))) H := hP
                    have hA : ∀ q99 e99, (va_up g sa (some (e_refs cI 32 (va_up fs (j_n t) (some z))))) q99 = some e99 → A q99 := hA
                    refine lv_aload_n hx hb d_De_follow_41 rfl (lv_at hl 1 rfl) ?_
                    have hd1 : (va_up g sa (some (e_refs cI 32 (va_up fs (j_n t) (some z))))) d = some (.inr (4, [.ref ka, .ref sa, .int (nI a.mem), .int (nI a.n), .int (nI a.kc), .int (nI a.nn), .int itv, va_rf (ks.head?.map ad), .int (nI u), .int (nI wk), .null])) := by rw [va_up_ne _ _ hC.dne.2.1.symm]; exact hC.1.1
                    refine y_get (D := D) (ci := 4) (v := .ref sa) (C := R_De) (T := F_De) (N := 11) hx hb hts in_De hown hK hP hd1 rfl 1 (by decide) (hts (.fieldLink R_De 17 "MemoryDesk" "slots" "[LMemoryDesk$Item;") (by decide +kernel)) (fun _ h9 => h9) rfl d_De_follow_42 ?_
                    refine lv_iload_n hx hb d_De_follow_45 rfl (lv_at hl 4 rfl) ?_
                    refine y_aldq hx hb hK hP 1 (va_up_self _ _ _) rfl ht.v32 d_De_follow_46 ?_
                    rw [va_up_self]
                    refine lv_ifnull hx hb d_De_follow_47 ?_
                    refine lv_iconst (v := 1) hx hb d_De_follow_50 (by decide) ?_
                    refine lv_goto hx hb d_De_follow_51 rfl ?_
                    refine W.widen (k := 6) (n := 60) (by first | decide | omega) (by first | decide | omega) ?_
                    exact x_ret (W.zret (v := 1) hx hb hr rfl (w_fin rfl hAe (w_good (v := some (.int 1)) (((q_y ht).trans (s_pl0 hs o0 hki hrf)).trans (by rw [w_b1 hb9, b3, w_lN (by omega)])) (c_R.of (hC.slot (s := j_n t) (o := b) (by rw [b4]; exact (c_ob.at (by omega)).symm)) hsn hwk hu hum hlv rfl (fun _ _ _ => rfl) (fun o z => r_puts (Or.inr hRb) z))) hP hA hS) hS.2.2 d_De_follow_55)
          · skip
            obtain ⟨hg9, hq9⟩ := hq9
            rw [hg9] at hP hA
            rcases hq9 with ⟨hfn, hv9⟩ | ⟨q9, kx, len9, wd9, cs9, tg9, kp9, nk9, sn9, np9, hfq, hq, ⟨hki, hv9⟩ | ⟨hki, hrf, hv9⟩ | ⟨-, -, hv9⟩⟩
            · cases hv9
              refine x_W.widen (k := 6) (n := 60) (by first | decide | omega) (by first | decide | omega) ?_
              exact x_leave (hno 12) hlocks (w_lea rfl hAe (w_bad (i := 1) rfl ((q_y ht).trans (s_pl2 hs (c_ob.none ((hC.2.2.1 _ hs.j32).symm.trans hfn)))) hR0 (Nat.le_succ _)) hP hA hS z1 z2 z3) hS.2.2
            · cases hv9
              obtain ⟨o0, o1, o2, hqo, hlen, hfx, hit⟩ := hC.place hw hs hfq hq
              rw [hlen] at hki
              refine x_W.widen (k := 6) (n := 60) (by first | decide | omega) (by first | decide | omega) ?_
              exact x_leave (hno 12) hlocks (w_lea rfl hAe (w_bad (i := 2) rfl ((q_y ht).trans (s_pl3 hs o0 hki)) hR0 (Nat.le_succ _)) hP hA hS z1 z2 z3) hS.2.2
            · cases hv9
              obtain ⟨o0, o1, o2, hqo, hlen, hfx, hit⟩ := hC.place hw hs hfq hq
              rw [hlen] at hki
              refine x_W.widen (k := 6) (n := 60) (by first | decide | omega) (by first | decide | omega) ?_
              exact x_leave (hno 12) hlocks (w_lea rfl hAe (w_bad (i := 3) rfl ((q_y ht).trans (s_pl4 hs o0 hki (fun z => hrf (w_rf1.mpr ((hC.refs hw o1 o2 hfx hki).trans z))))) hR0 (Nat.le_succ _)) hP hA hS z1 z2 z3) hS.2.2
            · cases hv9
        · cases hv9
      · skip
        obtain ⟨hg9, hq9⟩ := hq9
        rw [hg9] at hP hA
        rcases hq9 with ⟨hv9, -⟩ | ⟨hv9, ht⟩
        · cases hv9
        · cases hv9
          refine x_W.widen (k := 6) (n := 60) (by first | decide | omega) (by first | decide | omega) ?_
          exact x_leave (hno 5) hlocks (w_lea rfl hAe (w_bad (i := 0) rfl (q_n ht) hR0 (Nat.le_succ _)) hP hA hS z1 z2 z3) hS.2.2
    · cases hv9
  · skip
    obtain ⟨hg9, hq9⟩ := hq9
    rw [hg9] at hP hA
    rcases hq9 with ⟨hv9, -⟩ | ⟨hv9, hs⟩
    · cases hv9
    · cases hv9
      refine x_W.widen (k := 6) (n := 60) (by first | decide | omega) (by first | decide | omega) ?_
      exact x_leave (hno 1) hlocks (w_lea rfl hAe (w_bad (i := 0) rfl (Classical.byCases (fun ht : b_in t 32 => (q_y ht).trans (s_pl1 hs)) (fun ht => q_n ht)) hR0 (Nat.le_succ _)) hP hA hS z1 z2 z3) hS.2.2
set_option maxHeartbeats 4000000 in
set_option maxRecDepth 100000 in
/-- size(s) -/
theorem c_De_size (l : Launch) (hst : l.stackTraces = false) (D : va_G) (cK cI cN cZ cL : ClassId) (g : y_G) (sz : Nat) (a : Ab) (cn d : Nat) (sv : Int32) (hw : a_W a cn) (hcn : cn < 2 ^ 30) (hR : c_R cK cI a g d cn) : x_M l y_De_size [.code y_De_size b_De_size 2 (some .int)] rmP (w_Pc D (x_tys cK cI cN cZ cL) [.ref d, .int sv] g sz) (w_Qc D g sz (fun r g9 => x_out [xIAE, xISE] (s_size a sv) r ∧ c_R cK cI (s_size a sv).2.2 g9 d (cn + 1))) 6 60 (y_A g sz) := by
  refine x_ofW (cc := b_De_size) (maxL := 2) (ret := (some .int)) (by decide) rfl ?_
  intro p e s m args below meth c s₁ B hml hno hv
  obtain ⟨rfl, hsz, hP, hE⟩ := hv
  subst hsz
  have hts := hE.hts ([.ref d, .int sv] : List Value).toArray
  have hK := hE.1.2.1
  have hA0 : ∀ q, s.heap.size ≤ q → y_A g s.heap.size q := fun q h => Or.inr h
  have hA : ∀ q e, g q = some e → y_A g s.heap.size q := fun q e h => Or.inl (by rw [h]; exact fun z => nomatch z)
  have hS : va_S (y_A g s.heap.size) s.heap s.heap [] := va_S.rf
  generalize hAe : y_A g s.heap.size = A at hE hA0 hA hS ⊢
  have hx := B.exec
  have hb := B.bytes
  have hr := B.returns
  have hlocks := B.notSynchronized
  have hown : s.vm.findClass R_De = some m.cls := findClass_of_methodNamed B.named
  have hl := lv_entry ([.ref d, .int sv]) (n := 2) (Nat.le_of_ble_eq_true rfl)
  rw [lg_entry_eq]
  generalize (lg_sl ([.ref d, .int sv]) ++ List.replicate (2 - (lg_sl ([.ref d, .int sv])).length) Slot.unset).toArray = ls at hl ⊢
  have hl : lv_has ls 2 [(0, .ref d), (1, .int sv)] := hl
  have hR0 := hR
  obtain ⟨ka, sa, fk, fs, ad, cs, ks, itv, u, wk, sn, np, lv, hC, hsn, hwk, hu, hum, hlv⟩ := hR
  have hn9 : a.n ≤ cn := hw.2.2.2.2.2.2.2.2.2.1
  have hmm : a.mem ≤ 65536 := hw.2.2.2.2.2.2.2.2.1
  refine lv_iload_n hx hb d_De_size_0 rfl (lv_at hl 1 rfl) ?_
  refine w_callS (As := [.int sv]) ⟨hx, hb, hml, hown, hts⟩ (c_De_checkSlot l hst D _ _ _ sv) (x_cb (va_cwS (own := R_De) (index := 53) 1 hts (x_gi (by decide +kernel)) rfl rfl rfl (by decide +kernel) ⟨by decide, by decide⟩).1) (hts (.static y_De_checkSlot) (by decide +kernel)) hE hP hA hA0 hS rfl hl.1 rfl (lv_room (Nat.le_of_ble_eq_true rfl)) d_De_size_1 (by first | decide | omega) (by first | decide | omega) (fun v9 g9 H locs hq9 hP hA hS => ?_) (fun E9 q9 ce9 g9 H locs hq9 hP hA hS z1 z2 z3 => ?_)
  · skip
    obtain ⟨hg9, hq9⟩ := hq9
    rw [hg9] at hP hA
    rcases hq9 with ⟨hv9, hs⟩ | ⟨hv9, -⟩
    · cases hv9
      refine W.eq (g2 := F0 m 4 ls []) rfl ?_
      refine lv_aload_n hx hb d_De_size_4 rfl (lv_at hl 0 rfl) ?_
      refine lv_iload_n hx hb d_De_size_5 rfl (lv_at hl 1 rfl) ?_
      refine w_callV (As := [.int sv]) (C := R_De) ⟨hx, hb, hml, hown, hts⟩ (c_De_held l hst D cK cI cN cZ cL _ _ d ka sa _ _ _ _ _ _ _ _ _ sv fs hC.1.1 hC.1.2.2 hs) (x_cb (cwV (own := R_De) (index := 117) (C := R_De) 1 hts (x_gi (by decide +kernel)) rfl rfl rfl (by decide +kernel) ⟨by decide, by decide⟩).1) (hts (.instanceMethod y_De_held) (by decide +kernel)) (hts (.selects R_De y_De_held y_De_held) (by decide +kernel)) (y_recv (ci := 4) (q := (R_De, F_De, 11)) hK hP rfl hC.1.1) hE hP hA hA0 hS rfl hl.1 rfl (lv_room (Nat.le_of_ble_eq_true rfl)) d_De_size_6 (by first | decide | omega) (by first | decide | omega) (fun v9 g9 H locs hq9 hP hA hS => ?_) (fun E9 q9 ce9 g9 H locs hq9 hP hA hS z1 z2 z3 => ?_)
      · skip
        obtain ⟨hg9, hq9⟩ := hq9
        rw [hg9] at hP hA
        rcases hq9 with ⟨q9, hfq, hv9⟩ | ⟨-, hv9⟩
        · cases hv9
          obtain ⟨o0, hqo⟩ := c_ob.some ((hC.2.2.1 _ hs.j32).symm.trans hfq)
          have o1 : 1 ≤ a.sl (j_n sv) := by omega
          have o2 := hw.2.2.1 (j_n sv) hs.j32
          obtain ⟨kx, hfx, hit⟩ := hC.2.2.2.1 _ o1 o2
          rw [hqo]
          refine W.eq (g2 := F0 m 9 ls [.ref (ad (a.sl (j_n sv)))]) rfl ?_
          refine y_get (D := D) (ci := 1) (v := .int (a_len a (a.sl (j_n sv)))) (C := R_It) (T := F_It) (N := 9) hx hb hts in_It hown hK hP hit rfl 1 (by decide) (hts (.fieldLink R_De 140 "MemoryDesk$Item" "length" "I") (by decide +kernel)) (fun _ h9 => h9) rfl d_De_size_9 ?_
          refine W.widen (k := 6) (n := 60) (by first | decide | omega) (by first | decide | omega) ?_
          exact x_ret (W.iret (v := (a_len a (a.sl (j_n sv)))) hx hb hr (w_fin rfl hAe (w_good (v := some (.int (a_len a (a.sl (j_n sv))))) (s_in0 hs o0) (hR0.up (Nat.le_succ _))) hP hA hS) hS.2.2 d_De_size_12)
        · cases hv9
      · skip
        obtain ⟨hg9, hq9⟩ := hq9
        rw [hg9] at hP hA
        rcases hq9 with ⟨q9, -, hv9⟩ | ⟨hfn, hv9⟩
        · cases hv9
        · cases hv9
          refine x_W.widen (k := 6) (n := 60) (by first | decide | omega) (by first | decide | omega) ?_
          exact x_leave (hno 6) hlocks (w_lea rfl hAe (w_bad (i := 1) rfl (s_in2 hs (c_ob.none ((hC.2.2.1 _ hs.j32).symm.trans hfn))) hR0 (Nat.le_succ _)) hP hA hS z1 z2 z3) hS.2.2
    · cases hv9
  · skip
    obtain ⟨hg9, hq9⟩ := hq9
    rw [hg9] at hP hA
    rcases hq9 with ⟨hv9, -⟩ | ⟨hv9, hs⟩
    · cases hv9
    · cases hv9
      refine x_W.widen (k := 6) (n := 60) (by first | decide | omega) (by first | decide | omega) ?_
      exact x_leave (hno 1) hlocks (w_lea rfl hAe (w_bad (i := 0) rfl (q_n hs) hR0 (Nat.le_succ _)) hP hA hS z1 z2 z3) hS.2.2
set_option maxHeartbeats 4000000 in
set_option maxRecDepth 100000 in
/-- number(s) -/
theorem c_De_number (l : Launch) (hst : l.stackTraces = false) (D : va_G) (cK cI cN cZ cL : ClassId) (g : y_G) (sz : Nat) (a : Ab) (cn d : Nat) (sv : Int32) (hw : a_W a cn) (hcn : cn < 2 ^ 30) (hR : c_R cK cI a g d cn) : x_M l y_De_number [.code y_De_number b_De_number 3 (some .int)] rmP (w_Pc D (x_tys cK cI cN cZ cL) [.ref d, .int sv] g sz) (w_Qc D g sz (fun r g9 => x_out [xIAE, xISE] (s_number a sv) r ∧ c_R cK cI (s_number a sv).2.2 g9 d (cn + 1))) 6 60 (y_A g sz) := by
  refine x_ofW (cc := b_De_number) (maxL := 3) (ret := (some .int)) (by decide) rfl ?_
  intro p e s m args below meth c s₁ B hml hno hv
  obtain ⟨rfl, hsz, hP, hE⟩ := hv
  subst hsz
  have hts := hE.hts ([.ref d, .int sv] : List Value).toArray
  have hK := hE.1.2.1
  have hA0 : ∀ q, s.heap.size ≤ q → y_A g s.heap.size q := fun q h => Or.inr h
  have hA : ∀ q e, g q = some e → y_A g s.heap.size q := fun q e h => Or.inl (by rw [h]; exact fun z => nomatch z)
  have hS : va_S (y_A g s.heap.size) s.heap s.heap [] := va_S.rf
  generalize hAe : y_A g s.heap.size = A at hE hA0 hA hS ⊢
  have hx := B.exec
  have hb := B.bytes
  have hr := B.returns
  have hlocks := B.notSynchronized
  have hown : s.vm.findClass R_De = some m.cls := findClass_of_methodNamed B.named
  have hl := lv_entry ([.ref d, .int sv]) (n := 3) (Nat.le_of_ble_eq_true rfl)
  rw [lg_entry_eq]
  generalize (lg_sl ([.ref d, .int sv]) ++ List.replicate (3 - (lg_sl ([.ref d, .int sv])).length) Slot.unset).toArray = ls at hl ⊢
  have hl : lv_has ls 3 [(0, .ref d), (1, .int sv)] := hl
  have hR0 := hR
  obtain ⟨ka, sa, fk, fs, ad, cs, ks, itv, u, wk, sn, np, lv, hC, hsn, hwk, hu, hum, hlv⟩ := hR
  have hn9 : a.n ≤ cn := hw.2.2.2.2.2.2.2.2.2.1
  have hmm : a.mem ≤ 65536 := hw.2.2.2.2.2.2.2.2.1
  refine lv_iload_n hx hb d_De_number_0 rfl (lv_at hl 1 rfl) ?_
  refine w_callS (As := [.int sv]) ⟨hx, hb, hml, hown, hts⟩ (c_De_checkSlot l hst D _ _ _ sv) (x_cb (va_cwS (own := R_De) (index := 53) 1 hts (x_gi (by decide +kernel)) rfl rfl rfl (by decide +kernel) ⟨by decide, by decide⟩).1) (hts (.static y_De_checkSlot) (by decide +kernel)) hE hP hA hA0 hS rfl hl.1 rfl (lv_room (Nat.le_of_ble_eq_true rfl)) d_De_number_1 (by first | decide | omega) (by first | decide | omega) (fun v9 g9 H locs hq9 hP hA hS => ?_) (fun E9 q9 ce9 g9 H locs hq9 hP hA hS z1 z2 z3 => ?_)
  · skip
    obtain ⟨hg9, hq9⟩ := hq9
    rw [hg9] at hP hA
    rcases hq9 with ⟨hv9, hs⟩ | ⟨hv9, -⟩
    · cases hv9
      refine W.eq (g2 := F0 m 4 ls []) rfl ?_
      refine lv_aload_n hx hb d_De_number_4 rfl (lv_at hl 0 rfl) ?_
      refine lv_iload_n hx hb d_De_number_5 rfl (lv_at hl 1 rfl) ?_
      refine w_callV (As := [.int sv]) (C := R_De) ⟨hx, hb, hml, hown, hts⟩ (c_De_held l hst D cK cI cN cZ cL _ _ d ka sa _ _ _ _ _ _ _ _ _ sv fs hC.1.1 hC.1.2.2 hs) (x_cb (cwV (own := R_De) (index := 117) (C := R_De) 1 hts (x_gi (by decide +kernel)) rfl rfl rfl (by decide +kernel) ⟨by decide, by decide⟩).1) (hts (.instanceMethod y_De_held) (by decide +kernel)) (hts (.selects R_De y_De_held y_De_held) (by decide +kernel)) (y_recv (ci := 4) (q := (R_De, F_De, 11)) hK hP rfl hC.1.1) hE hP hA hA0 hS rfl hl.1 rfl (lv_room (Nat.le_of_ble_eq_true rfl)) d_De_number_6 (by first | decide | omega) (by first | decide | omega) (fun v9 g9 H locs hq9 hP hA hS => ?_) (fun E9 q9 ce9 g9 H locs hq9 hP hA hS z1 z2 z3 => ?_)
      · skip
        obtain ⟨hg9, hq9⟩ := hq9
        rw [hg9] at hP hA
        rcases hq9 with ⟨q9, hfq, hv9⟩ | ⟨-, hv9⟩
        · cases hv9
          obtain ⟨o0, hqo⟩ := c_ob.some ((hC.2.2.1 _ hs.j32).symm.trans hfq)
          have o1 : 1 ≤ a.sl (j_n sv) := by omega
          have o2 := hw.2.2.1 (j_n sv) hs.j32
          obtain ⟨kx, hfx, hit⟩ := hC.2.2.2.1 _ o1 o2
          rw [hqo]
          refine W.eq (g2 := F0 m 9 ls [.ref (ad (a.sl (j_n sv)))]) rfl ?_
          refine lv_astore_n hx hb d_De_number_9 rfl hl (by decide) rfl (fun ls hl => ?_)
          have hl : lv_has ls 3 [(2, .ref (ad (a.sl (j_n sv)))), (0, .ref d), (1, .int sv)] := hl
          refine lv_aload_n hx hb d_De_number_10 rfl (lv_at hl 0 rfl) ?_
          refine y_get (D := D) (ci := 1) (v := .int (nI (a.nu (a.sl (j_n sv))))) (C := R_It) (T := F_It) (N := 9) hx hb hts in_It hown hK hP hit rfl 4 (by decide) (hts (.fieldLink R_De 134 "MemoryDesk$Item" "tag" "I") (by decide +kernel)) (fun _ h9 => h9) rfl d_De_number_11 ?_
          have hnu : a.nu (a.sl (j_n sv)) ≤ a.nn := hw.2.2.2.2.2.2.1 _
          have hnn : a.nn ≤ cn := hw.2.2.2.2.2.2.2.2.2.2.1
          refine lv_if_ne hx hb d_De_number_14 rfl (fun h1 => ?_) (fun h1 => ?_)
          · -- ifne at 14: to 35
            refine lv_aload_n hx hb d_De_number_35 rfl (lv_at hl 0 rfl) ?_
            refine y_get (D := D) (ci := 1) (v := .int (nI (a.nu (a.sl (j_n sv))))) (C := R_It) (T := F_It) (N := 9) hx hb hts in_It hown hK hP hit rfl 4 (by decide) (hts (.fieldLink R_De 134 "MemoryDesk$Item" "tag" "I") (by decide +kernel)) (fun _ h9 => h9) rfl d_De_number_36 ?_
            refine W.widen (k := 6) (n := 60) (by first | decide | omega) (by first | decide | omega) ?_
            exact x_ret (W.iret (v := (nI (a.nu (a.sl (j_n sv))))) hx hb hr (w_fin rfl hAe (w_good (v := some (.int (nI (a.nu (a.sl (j_n sv)))))) ((s_in0 hs o0).trans (if_neg (fun z => h1 (by rw [z]; rfl)))) (hR0.up (Nat.le_succ _))) hP hA hS) hS.2.2 d_De_number_39)
          · -- ifne at 14: to 17
            have h0 : a.nu (a.sl (j_n sv)) = 0 := (nI_eq (b := 0) (by omega) (by omega)).mp h1
            refine lv_aload_n hx hb d_De_number_17 rfl (lv_at hl 1 rfl) ?_
            refine lv_dup hx hb d_De_number_18 rfl ?_
            refine y_get (D := D) (ci := 4) (v := .int (nI a.nn)) (C := R_De) (T := F_De) (N := 11) hx hb hts in_De hown hK hP hC.1.1 rfl 5 (by decide) (hts (.fieldLink R_De 137 "MemoryDesk" "tags" "I") (by decide +kernel)) (fun _ h9 => h9) rfl d_De_number_19 ?_
            refine lv_iconst (v := 1) hx hb d_De_number_22 (by decide) ?_
            refine lv_iadd hx hb d_De_number_23 ?_
            rw [nI_1]
            refine y_put (D := D) (ci := 4) (v := .int (nI (a.nn + 1))) (ty := .int) (C := R_De) (T := F_De) (N := 11) hx hb hts in_De t_De t_De_ok n_De hown hK hP hA hS hC.1.1 rfl 5 (by decide) (hts (.fieldLink R_De 137 "MemoryDesk" "tags" "I") (by decide +kernel)) (fun _ h9 => h9) rfl (by decide +kernel) rfl rfl (Nat.le_of_ble_eq_true rfl) d_De_number_24 (fun H locs hP hA hS => ?_)
            have hP : y_P D vwCl (va_up g d (some (.inr (4, [.ref ka, .ref sa, .int (nI a.mem), .int (nI a.n), .int (nI a.kc), .int (nI (a.nn + 1)), .int itv, va_rf (ks.head?.map ad), .int (nI u), .int (nI wk), .null])))) H := hP
            have hA : ∀ q99 e99, (va_up g d (some (.inr (4, [.ref ka, .ref sa, .int (nI a.mem), .int (nI a.n), .int (nI a.kc), .int (nI (a.nn + 1)), .int itv, va_rf (ks.head?.map ad), .int (nI u), .int (nI wk), .null])))) q99 = some e99 → A q99 := hA
            have hod : ad (a.sl (j_n sv)) ≠ d := c_ne hit hC.1.1 (fun z => by cases z)
            refine lv_aload_n hx hb d_De_number_27 rfl (lv_at hl 0 rfl) ?_
            refine lv_aload_n hx hb d_De_number_28 rfl (lv_at hl 1 rfl) ?_
            refine y_get (D := D) (ci := 4) (v := .int (nI (a.nn + 1))) (C := R_De) (T := F_De) (N := 11) hx hb hts in_De hown hK hP (va_up_self _ _ _) rfl 5 (by decide) (hts (.fieldLink R_De 137 "MemoryDesk" "tags" "I") (by decide +kernel)) (fun _ h9 => h9) rfl d_De_number_29 ?_
            have hit1 : (va_up g d (some (.inr (4, [.ref ka, .ref sa, .int (nI a.mem), .int (nI a.n), .int (nI a.kc), .int (nI (a.nn + 1)), .int itv, va_rf (ks.head?.map ad), .int (nI u), .int (nI wk), .null])))) (ad (a.sl (j_n sv))) = some (.inr (1, [.ref kx, .int (a_len a (a.sl (j_n sv))), .int (nI (a_wd a (a.sl (j_n sv)))), va_rf (c_hd (cs (a.sl (j_n sv)))), .int (nI (a.nu (a.sl (j_n sv)))), .int (c_bit (a.kp (a.sl (j_n sv)))), va_rf ((c_nx ks (a.sl (j_n sv))).map ad), .int (nI (sn (a.sl (j_n sv)))), va_rf (np (a.sl (j_n sv)))])) := by rw [va_up_ne _ _ hod]; exact hit
            refine y_put (D := D) (ci := 1) (v := .int (nI (a.nn + 1))) (ty := .int) (C := R_It) (T := F_It) (N := 9) hx hb hts in_It t_It t_It_ok n_It hown hK hP hA hS hit1 rfl 4 (by decide) (hts (.fieldLink R_De 134 "MemoryDesk$Item" "tag" "I") (by decide +kernel)) (fun _ h9 => h9) rfl (by decide +kernel) rfl rfl (Nat.le_of_ble_eq_true rfl) d_De_number_32 (fun H locs hP hA hS => ?_)
            have hP : y_P D vwCl (va_up (va_up g d (some (.inr (4, [.ref ka, .ref sa, .int (nI a.mem), .int (nI a.n), .int (nI a.kc), .int (nI (a.nn + 1)), .int itv, va_rf (ks.head?.map ad), .int (nI u), .int (nI wk), .null])))) (ad (a.sl (j_n sv))) (some (.inr (1, [.ref kx, .int (a_len a (a.sl (j_n sv))), .int (nI (a_wd a (a.sl (j_n sv)))), va_rf (c_hd (cs (a.sl (j_n sv)))), .int (nI (a.nn + 1)), .int (c_bit (a.kp (a.sl (j_n sv)))), va_rf ((c_nx ks (a.sl (j_n sv))).map ad), .int (nI (sn (a.sl (j_n sv)))), va_rf (np (a.sl (j_n sv)))])))) H := hP
            have hA : ∀ q99 e99, (va_up (va_up g d (some (.inr (4, [.ref ka, .ref sa, .int (nI a.mem), .int (nI a.n), .int (nI a.kc), .int (nI (a.nn + 1)), .int itv, va_rf (ks.head?.map ad), .int (nI u), .int (nI wk), .null])))) (ad (a.sl (j_n sv))) (some (.inr (1, [.ref kx, .int (a_len a (a.sl (j_n sv))), .int (nI (a_wd a (a.sl (j_n sv)))), va_rf (c_hd (cs (a.sl (j_n sv)))), .int (nI (a.nn + 1)), .int (c_bit (a.kp (a.sl (j_n sv)))), va_rf ((c_nx ks (a.sl (j_n sv))).map ad), .int (nI (sn (a.sl (j_n sv)))), va_rf (np (a.sl (j_n sv)))])))) q99 = some e99 → A q99 := hA
            refine lv_aload_n hx hb d_De_number_35 rfl (lv_at hl 0 rfl) ?_
            refine y_get (D := D) (ci := 1) (v := .int (nI (a.nn + 1))) (C := R_It) (T := F_It) (N := 9) hx hb hts in_It hown hK hP (va_up_self _ _ _) rfl 4 (by decide) (hts (.fieldLink R_De 134 "MemoryDesk$Item" "tag" "I") (by decide +kernel)) (fun _ h9 => h9) rfl d_De_number_36 ?_
            refine W.widen (k := 6) (n := 60) (by first | decide | omega) (by first | decide | omega) ?_
            exact x_ret (W.iret (v := (nI (a.nn + 1))) hx hb hr (w_fin rfl hAe (w_good (v := some (.int (nI (a.nn + 1)))) ((s_in0 hs o0).trans (if_pos h0)) (c_R.of (hC.numb o1 o2 hfx) hsn hwk hu hum hlv rfl (fun _ _ _ => rfl) (fun o z => z))) hP hA hS) hS.2.2 d_De_number_39)
        · cases hv9
      · skip
        obtain ⟨hg9, hq9⟩ := hq9
        rw [hg9] at hP hA
        rcases hq9 with ⟨q9, -, hv9⟩ | ⟨hfn, hv9⟩
        · cases hv9
        · cases hv9
          refine x_W.widen (k := 6) (n := 60) (by first | decide | omega) (by first | decide | omega) ?_
          exact x_leave (hno 6) hlocks (w_lea rfl hAe (w_bad (i := 1) rfl (s_in2 hs (c_ob.none ((hC.2.2.1 _ hs.j32).symm.trans hfn))) hR0 (Nat.le_succ _)) hP hA hS z1 z2 z3) hS.2.2
    · cases hv9
  · skip
    obtain ⟨hg9, hq9⟩ := hq9
    rw [hg9] at hP hA
    rcases hq9 with ⟨hv9, -⟩ | ⟨hv9, hs⟩
    · cases hv9
    · cases hv9
      refine x_W.widen (k := 6) (n := 60) (by first | decide | omega) (by first | decide | omega) ?_
      exact x_leave (hno 1) hlocks (w_lea rfl hAe (w_bad (i := 0) rfl (q_n hs) hR0 (Nat.le_succ _)) hP hA hS z1 z2 z3) hS.2.2
set_option maxHeartbeats 4000000 in
set_option maxRecDepth 100000 in
/-- keep(s) -/
theorem c_De_keep (l : Launch) (hst : l.stackTraces = false) (D : va_G) (cK cI cN cZ cL : ClassId) (g : y_G) (sz : Nat) (a : Ab) (cn d : Nat) (sv : Int32) (hw : a_W a cn) (hcn : cn < 2 ^ 30) (hR : c_R cK cI a g d cn) : x_M l y_De_keep [.code y_De_keep b_De_keep 3 (some .int)] rmP (w_Pc D (x_tys cK cI cN cZ cL) [.ref d, .int sv] g sz) (w_Qc D g sz (fun r g9 => x_out [xIAE, xISE] (s_keep a sv) r ∧ c_R cK cI (s_keep a sv).2.2 g9 d (cn + 1))) 6 60 (y_A g sz) := by
  refine x_ofW (cc := b_De_keep) (maxL := 3) (ret := (some .int)) (by decide) rfl ?_
  intro p e s m args below meth c s₁ B hml hno hv
  obtain ⟨rfl, hsz, hP, hE⟩ := hv
  subst hsz
  have hts := hE.hts ([.ref d, .int sv] : List Value).toArray
  have hK := hE.1.2.1
  have hA0 : ∀ q, s.heap.size ≤ q → y_A g s.heap.size q := fun q h => Or.inr h
  have hA : ∀ q e, g q = some e → y_A g s.heap.size q := fun q e h => Or.inl (by rw [h]; exact fun z => nomatch z)
  have hS : va_S (y_A g s.heap.size) s.heap s.heap [] := va_S.rf
  generalize hAe : y_A g s.heap.size = A at hE hA0 hA hS ⊢
  have hx := B.exec
  have hb := B.bytes
  have hr := B.returns
  have hlocks := B.notSynchronized
  have hown : s.vm.findClass R_De = some m.cls := findClass_of_methodNamed B.named
  have hl := lv_entry ([.ref d, .int sv]) (n := 3) (Nat.le_of_ble_eq_true rfl)
  rw [lg_entry_eq]
  generalize (lg_sl ([.ref d, .int sv]) ++ List.replicate (3 - (lg_sl ([.ref d, .int sv])).length) Slot.unset).toArray = ls at hl ⊢
  have hl : lv_has ls 3 [(0, .ref d), (1, .int sv)] := hl
  have hR0 := hR
  obtain ⟨ka, sa, fk, fs, ad, cs, ks, itv, u, wk, sn, np, lv, hC, hsn, hwk, hu, hum, hlv⟩ := hR
  have hn9 : a.n ≤ cn := hw.2.2.2.2.2.2.2.2.2.1
  have hmm : a.mem ≤ 65536 := hw.2.2.2.2.2.2.2.2.1
  refine lv_iload_n hx hb d_De_keep_0 rfl (lv_at hl 1 rfl) ?_
  refine w_callS (As := [.int sv]) ⟨hx, hb, hml, hown, hts⟩ (c_De_checkSlot l hst D _ _ _ sv) (x_cb (va_cwS (own := R_De) (index := 53) 1 hts (x_gi (by decide +kernel)) rfl rfl rfl (by decide +kernel) ⟨by decide, by decide⟩).1) (hts (.static y_De_checkSlot) (by decide +kernel)) hE hP hA hA0 hS rfl hl.1 rfl (lv_room (Nat.le_of_ble_eq_true rfl)) d_De_keep_1 (by first | decide | omega) (by first | decide | omega) (fun v9 g9 H locs hq9 hP hA hS => ?_) (fun E9 q9 ce9 g9 H locs hq9 hP hA hS z1 z2 z3 => ?_)
  · skip
    obtain ⟨hg9, hq9⟩ := hq9
    rw [hg9] at hP hA
    rcases hq9 with ⟨hv9, hs⟩ | ⟨hv9, -⟩
    · cases hv9
      refine W.eq (g2 := F0 m 4 ls []) rfl ?_
      refine lv_aload_n hx hb d_De_keep_4 rfl (lv_at hl 0 rfl) ?_
      refine lv_iload_n hx hb d_De_keep_5 rfl (lv_at hl 1 rfl) ?_
      refine w_callV (As := [.int sv]) (C := R_De) ⟨hx, hb, hml, hown, hts⟩ (c_De_held l hst D cK cI cN cZ cL _ _ d ka sa _ _ _ _ _ _ _ _ _ sv fs hC.1.1 hC.1.2.2 hs) (x_cb (cwV (own := R_De) (index := 117) (C := R_De) 1 hts (x_gi (by decide +kernel)) rfl rfl rfl (by decide +kernel) ⟨by decide, by decide⟩).1) (hts (.instanceMethod y_De_held) (by decide +kernel)) (hts (.selects R_De y_De_held y_De_held) (by decide +kernel)) (y_recv (ci := 4) (q := (R_De, F_De, 11)) hK hP rfl hC.1.1) hE hP hA hA0 hS rfl hl.1 rfl (lv_room (Nat.le_of_ble_eq_true rfl)) d_De_keep_6 (by first | decide | omega) (by first | decide | omega) (fun v9 g9 H locs hq9 hP hA hS => ?_) (fun E9 q9 ce9 g9 H locs hq9 hP hA hS z1 z2 z3 => ?_)
      · skip
        obtain ⟨hg9, hq9⟩ := hq9
        rw [hg9] at hP hA
        rcases hq9 with ⟨q9, hfq, hv9⟩ | ⟨-, hv9⟩
        · cases hv9
          obtain ⟨o0, hqo⟩ := c_ob.some ((hC.2.2.1 _ hs.j32).symm.trans hfq)
          have o1 : 1 ≤ a.sl (j_n sv) := by omega
          have o2 := hw.2.2.1 (j_n sv) hs.j32
          obtain ⟨kx, hfx, hit⟩ := hC.2.2.2.1 _ o1 o2
          rw [hqo]
          refine W.eq (g2 := F0 m 9 ls [.ref (ad (a.sl (j_n sv)))]) rfl ?_
          refine lv_astore_n hx hb d_De_keep_9 rfl hl (by decide) rfl (fun ls hl => ?_)
          have hl : lv_has ls 3 [(2, .ref (ad (a.sl (j_n sv)))), (0, .ref d), (1, .int sv)] := hl
          refine lv_aload_n hx hb d_De_keep_10 rfl (lv_at hl 0 rfl) ?_
          refine y_get (D := D) (ci := 1) (v := .int (c_bit (a.kp (a.sl (j_n sv))))) (C := R_It) (T := F_It) (N := 9) hx hb hts in_It hown hK hP hit rfl 5 (by decide) (hts (.fieldLink R_De 121 "MemoryDesk$Item" "isKept" "Z") (by decide +kernel)) (fun _ h9 => h9) rfl d_De_keep_11 ?_
          refine lv_if_ne hx hb d_De_keep_14 rfl (fun h1 => ?_) (fun h1 => ?_)
          · -- ifne at 14: to 35
            have hk : a.kp (a.sl (j_n sv)) := Classical.byContradiction (fun z => h1 (c_bit.n z))
            refine lv_aload_n hx hb d_De_keep_35 rfl (lv_at hl 1 rfl) ?_
            refine lv_dup hx hb d_De_keep_36 rfl ?_
            refine y_get (D := D) (ci := 4) (v := .int (nI a.kc)) (C := R_De) (T := F_De) (N := 11) hx hb hts in_De hown hK hP hC.1.1 rfl 4 (by decide) (hts (.fieldLink R_De 131 "MemoryDesk" "keeps" "I") (by decide +kernel)) (fun _ h9 => h9) rfl d_De_keep_37 ?_
            refine lv_iconst (v := 1) hx hb d_De_keep_40 (by decide) ?_
            refine lv_iadd hx hb d_De_keep_41 ?_
            rw [nI_1]
            refine y_put (D := D) (ci := 4) (v := .int (nI (a.kc + 1))) (ty := .int) (C := R_De) (T := F_De) (N := 11) hx hb hts in_De t_De t_De_ok n_De hown hK hP hA hS hC.1.1 rfl 4 (by decide) (hts (.fieldLink R_De 131 "MemoryDesk" "keeps" "I") (by decide +kernel)) (fun _ h9 => h9) rfl (by decide +kernel) rfl rfl (Nat.le_of_ble_eq_true rfl) d_De_keep_42 (fun H locs hP hA hS => ?_)
            have hP : y_P D vwCl (va_up g d (some (.inr (4, [.ref ka, .ref sa, .int (nI a.mem), .int (nI a.n), .int (nI (a.kc + 1)), .int (nI a.nn), .int itv, va_rf (ks.head?.map ad), .int (nI u), .int (nI wk), .null])))) H := hP
            have hA : ∀ q99 e99, (va_up g d (some (.inr (4, [.ref ka, .ref sa, .int (nI a.mem), .int (nI a.n), .int (nI (a.kc + 1)), .int (nI a.nn), .int itv, va_rf (ks.head?.map ad), .int (nI u), .int (nI wk), .null])))) q99 = some e99 → A q99 := hA
            refine lv_aload_n hx hb d_De_keep_45 rfl (lv_at hl 1 rfl) ?_
            refine y_get (D := D) (ci := 4) (v := .int (nI (a.kc + 1))) (C := R_De) (T := F_De) (N := 11) hx hb hts in_De hown hK hP (va_up_self _ _ _) rfl 4 (by decide) (hts (.fieldLink R_De 131 "MemoryDesk" "keeps" "I") (by decide +kernel)) (fun _ h9 => h9) rfl d_De_keep_46 ?_
            refine W.widen (k := 6) (n := 60) (by first | decide | omega) (by first | decide | omega) ?_
            exact x_ret (W.iret (v := (nI (a.kc + 1))) hx hb hr (w_fin rfl hAe (w_good (v := some (.int (nI (a.kc + 1)))) (s_in0 hs o0) (c_R.of (hC.nums (a' := a_keep a (a.sl (j_n sv))) rfl rfl rfl rfl rfl rfl rfl (fun o => ⟨fun z => z.elim id (fun e => by rw [e]; exact hk), Or.inl⟩)) hsn hwk hu hum hlv rfl (fun _ _ _ => rfl) (fun o z => r_keep (a_R.sl hs.j32 o0) z))) hP hA hS) hS.2.2 d_De_keep_49)
          · -- ifne at 14: to 17
            have hk : ¬ a.kp (a.sl (j_n sv)) := fun z => by have h9 := h1; rw [c_bit.y z] at h9; exact absurd h9 (by decide)
            have hod : ad (a.sl (j_n sv)) ≠ d := c_ne hit hC.1.1 (fun z => by cases z)
            refine lv_aload_n hx hb d_De_keep_17 rfl (lv_at hl 0 rfl) ?_
            refine lv_iconst (v := 1) hx hb d_De_keep_18 (by decide) ?_
            refine y_put (D := D) (ci := 1) (v := .int 1) (ty := .boolean) (C := R_It) (T := F_It) (N := 9) hx hb hts in_It t_It t_It_ok n_It hown hK hP hA hS hit rfl 5 (by decide) (hts (.fieldLink R_De 121 "MemoryDesk$Item" "isKept" "Z") (by decide +kernel)) (fun _ h9 => h9) rfl (by decide +kernel) rfl rfl (Nat.le_of_ble_eq_true rfl) d_De_keep_19 (fun H locs hP hA hS => ?_)
            have hP : y_P D vwCl (va_up g (ad (a.sl (j_n sv))) (some (.inr (1, [.ref kx, .int (a_len a (a.sl (j_n sv))), .int (nI (a_wd a (a.sl (j_n sv)))), va_rf (c_hd (cs (a.sl (j_n sv)))), .int (nI (a.nu (a.sl (j_n sv)))), .int 1, va_rf ((c_nx ks (a.sl (j_n sv))).map ad), .int (nI (sn (a.sl (j_n sv)))), va_rf (np (a.sl (j_n sv)))])))) H := hP
            have hA : ∀ q99 e99, (va_up g (ad (a.sl (j_n sv))) (some (.inr (1, [.ref kx, .int (a_len a (a.sl (j_n sv))), .int (nI (a_wd a (a.sl (j_n sv)))), va_rf (c_hd (cs (a.sl (j_n sv)))), .int (nI (a.nu (a.sl (j_n sv)))), .int 1, va_rf ((c_nx ks (a.sl (j_n sv))).map ad), .int (nI (sn (a.sl (j_n sv)))), va_rf (np (a.sl (j_n sv)))])))) q99 = some e99 → A q99 := hA
            have hd1 : (va_up g (ad (a.sl (j_n sv))) (some (.inr (1, [.ref kx, .int (a_len a (a.sl (j_n sv))), .int (nI (a_wd a (a.sl (j_n sv)))), va_rf (c_hd (cs (a.sl (j_n sv)))), .int (nI (a.nu (a.sl (j_n sv)))), .int 1, va_rf ((c_nx ks (a.sl (j_n sv))).map ad), .int (nI (sn (a.sl (j_n sv)))), va_rf (np (a.sl (j_n sv)))])))) d = some (.inr (4, [.ref ka, .ref sa, .int (nI a.mem), .int (nI a.n), .int (nI a.kc), .int (nI a.nn), .int itv, va_rf (ks.head?.map ad), .int (nI u), .int (nI wk), .null])) := by rw [va_up_ne _ _ hod.symm]; exact hC.1.1
            refine lv_aload_n hx hb d_De_keep_22 rfl (lv_at hl 0 rfl) ?_
            refine lv_aload_n hx hb d_De_keep_23 rfl (lv_at hl 1 rfl) ?_
            refine y_get (D := D) (ci := 4) (v := va_rf (ks.head?.map ad)) (C := R_De) (T := F_De) (N := 11) hx hb hts in_De hown hK hP hd1 rfl 7 (by decide) (hts (.fieldLink R_De 125 "MemoryDesk" "firstKept" "LMemoryDesk$Item;") (by decide +kernel)) (fun _ h9 => h9) rfl d_De_keep_24 ?_
            refine y_put (D := D) (ci := 1) (v := va_rf (ks.head?.map ad)) (ty := .object "MemoryDesk$Item") (C := R_It) (T := F_It) (N := 9) hx hb hts in_It t_It t_It_ok n_It hown hK hP hA hS (va_up_self _ _ _) rfl 6 (by decide) (hts (.fieldLink R_De 128 "MemoryDesk$Item" "nextKept" "LMemoryDesk$Item;") (by decide +kernel)) (fun _ h9 => h9) rfl (by decide +kernel) (by rcases va_rf_or (ks.head?.map ad) with h | ⟨z, h⟩ <;> rw [h] <;> rfl) (by rcases va_rf_or (ks.head?.map ad) with h | ⟨z, h⟩ <;> rw [h] <;> rfl) (Nat.le_of_ble_eq_true rfl) d_De_keep_27 (fun H locs hP hA hS => ?_)
            rw [bx_uu] at hP hA
            have hP : y_P D vwCl (va_up g (ad (a.sl (j_n sv))) (some (.inr (1, [.ref kx, .int (a_len a (a.sl (j_n sv))), .int (nI (a_wd a (a.sl (j_n sv)))), va_rf (c_hd (cs (a.sl (j_n sv)))), .int (nI (a.nu (a.sl (j_n sv)))), .int 1, va_rf (ks.head?.map ad), .int (nI (sn (a.sl (j_n sv)))), va_rf (np (a.sl (j_n sv)))])))) H := hP
            have hA : ∀ q99 e99, (va_up g (ad (a.sl (j_n sv))) (some (.inr (1, [.ref kx, .int (a_len a (a.sl (j_n sv))), .int (nI (a_wd a (a.sl (j_n sv)))), va_rf (c_hd (cs (a.sl (j_n sv)))), .int (nI (a.nu (a.sl (j_n sv)))), .int 1, va_rf (ks.head?.map ad), .int (nI (sn (a.sl (j_n sv)))), va_rf (np (a.sl (j_n sv)))])))) q99 = some e99 → A q99 := hA
            have hd2 : (va_up g (ad (a.sl (j_n sv))) (some (.inr (1, [.ref kx, .int (a_len a (a.sl (j_n sv))), .int (nI (a_wd a (a.sl (j_n sv)))), va_rf (c_hd (cs (a.sl (j_n sv)))), .int (nI (a.nu (a.sl (j_n sv)))), .int 1, va_rf (ks.head?.map ad), .int (nI (sn (a.sl (j_n sv)))), va_rf (np (a.sl (j_n sv)))])))) d = some (.inr (4, [.ref ka, .ref sa, .int (nI a.mem), .int (nI a.n), .int (nI a.kc), .int (nI a.nn), .int itv, va_rf (ks.head?.map ad), .int (nI u), .int (nI wk), .null])) := by rw [va_up_ne _ _ hod.symm]; exact hC.1.1
            refine lv_aload_n hx hb d_De_keep_30 rfl (lv_at hl 1 rfl) ?_
            refine lv_aload_n hx hb d_De_keep_31 rfl (lv_at hl 0 rfl) ?_
            refine y_put (D := D) (ci := 4) (v := .ref (ad (a.sl (j_n sv)))) (ty := .object "MemoryDesk$Item") (C := R_De) (T := F_De) (N := 11) hx hb hts in_De t_De t_De_ok n_De hown hK hP hA hS hd2 rfl 7 (by decide) (hts (.fieldLink R_De 125 "MemoryDesk" "firstKept" "LMemoryDesk$Item;") (by decide +kernel)) (fun _ h9 => h9) rfl (by decide +kernel) rfl rfl (Nat.le_of_ble_eq_true rfl) d_De_keep_32 (fun H locs hP hA hS => ?_)
            have hP : y_P D vwCl (va_up (va_up g (ad (a.sl (j_n sv))) (some (.inr (1, [.ref kx, .int (a_len a (a.sl (j_n sv))), .int (nI (a_wd a (a.sl (j_n sv)))), va_rf (c_hd (cs (a.sl (j_n sv)))), .int (nI (a.nu (a.sl (j_n sv)))), .int 1, va_rf (ks.head?.map ad), .int (nI (sn (a.sl (j_n sv)))), va_rf (np (a.sl (j_n sv)))])))) d (some (.inr (4, [.ref ka, .ref sa, .int (nI a.mem), .int (nI a.n), .int (nI a.kc), .int (nI a.nn), .int itv, .ref (ad (a.sl (j_n sv))), .int (nI u), .int (nI wk), .null])))) H := hP
            have hA : ∀ q99 e99, (va_up (va_up g (ad (a.sl (j_n sv))) (some (.inr (1, [.ref kx, .int (a_len a (a.sl (j_n sv))), .int (nI (a_wd a (a.sl (j_n sv)))), va_rf (c_hd (cs (a.sl (j_n sv)))), .int (nI (a.nu (a.sl (j_n sv)))), .int 1, va_rf (ks.head?.map ad), .int (nI (sn (a.sl (j_n sv)))), va_rf (np (a.sl (j_n sv)))])))) d (some (.inr (4, [.ref ka, .ref sa, .int (nI a.mem), .int (nI a.n), .int (nI a.kc), .int (nI a.nn), .int itv, .ref (ad (a.sl (j_n sv))), .int (nI u), .int (nI wk), .null])))) q99 = some e99 → A q99 := hA
            refine lv_aload_n hx hb d_De_keep_35 rfl (lv_at hl 1 rfl) ?_
            refine lv_dup hx hb d_De_keep_36 rfl ?_
            refine y_get (D := D) (ci := 4) (v := .int (nI a.kc)) (C := R_De) (T := F_De) (N := 11) hx hb hts in_De hown hK hP (va_up_self _ _ _) rfl 4 (by decide) (hts (.fieldLink R_De 131 "MemoryDesk" "keeps" "I") (by decide +kernel)) (fun _ h9 => h9) rfl d_De_keep_37 ?_
            refine lv_iconst (v := 1) hx hb d_De_keep_40 (by decide) ?_
            refine lv_iadd hx hb d_De_keep_41 ?_
            rw [nI_1]
            refine y_put (D := D) (ci := 4) (v := .int (nI (a.kc + 1))) (ty := .int) (C := R_De) (T := F_De) (N := 11) hx hb hts in_De t_De t_De_ok n_De hown hK hP hA hS (va_up_self _ _ _) rfl 4 (by decide) (hts (.fieldLink R_De 131 "MemoryDesk" "keeps" "I") (by decide +kernel)) (fun _ h9 => h9) rfl (by decide +kernel) rfl rfl (Nat.le_of_ble_eq_true rfl) d_De_keep_42 (fun H locs hP hA hS => ?_)
            rw [bx_uu] at hP hA
            have hP : y_P D vwCl (va_up (va_up g (ad (a.sl (j_n sv))) (some (.inr (1, [.ref kx, .int (a_len a (a.sl (j_n sv))), .int (nI (a_wd a (a.sl (j_n sv)))), va_rf (c_hd (cs (a.sl (j_n sv)))), .int (nI (a.nu (a.sl (j_n sv)))), .int 1, va_rf (ks.head?.map ad), .int (nI (sn (a.sl (j_n sv)))), va_rf (np (a.sl (j_n sv)))])))) d (some (.inr (4, [.ref ka, .ref sa, .int (nI a.mem), .int (nI a.n), .int (nI (a.kc + 1)), .int (nI a.nn), .int itv, .ref (ad (a.sl (j_n sv))), .int (nI u), .int (nI wk), .null])))) H := hP
            have hA : ∀ q99 e99, (va_up (va_up g (ad (a.sl (j_n sv))) (some (.inr (1, [.ref kx, .int (a_len a (a.sl (j_n sv))), .int (nI (a_wd a (a.sl (j_n sv)))), va_rf (c_hd (cs (a.sl (j_n sv)))), .int (nI (a.nu (a.sl (j_n sv)))), .int 1, va_rf (ks.head?.map ad), .int (nI (sn (a.sl (j_n sv)))), va_rf (np (a.sl (j_n sv)))])))) d (some (.inr (4, [.ref ka, .ref sa, .int (nI a.mem), .int (nI a.n), .int (nI (a.kc + 1)), .int (nI a.nn), .int itv, .ref (ad (a.sl (j_n sv))), .int (nI u), .int (nI wk), .null])))) q99 = some e99 → A q99 := hA
            refine lv_aload_n hx hb d_De_keep_45 rfl (lv_at hl 1 rfl) ?_
            refine y_get (D := D) (ci := 4) (v := .int (nI (a.kc + 1))) (C := R_De) (T := F_De) (N := 11) hx hb hts in_De hown hK hP (va_up_self _ _ _) rfl 4 (by decide) (hts (.fieldLink R_De 131 "MemoryDesk" "keeps" "I") (by decide +kernel)) (fun _ h9 => h9) rfl d_De_keep_46 ?_
            refine W.widen (k := 6) (n := 60) (by first | decide | omega) (by first | decide | omega) ?_
            exact x_ret (W.iret (v := (nI (a.kc + 1))) hx hb hr (w_fin rfl hAe (w_good (v := some (.int (nI (a.kc + 1)))) (s_in0 hs o0) (c_R.of (hC.keepN o1 o2 hfx hk) hsn hwk hu hum hlv rfl (fun _ _ _ => rfl) (fun o z => r_keep (a_R.sl hs.j32 o0) z))) hP hA hS) hS.2.2 d_De_keep_49)
        · cases hv9
      · skip
        obtain ⟨hg9, hq9⟩ := hq9
        rw [hg9] at hP hA
        rcases hq9 with ⟨q9, -, hv9⟩ | ⟨hfn, hv9⟩
        · cases hv9
        · cases hv9
          refine x_W.widen (k := 6) (n := 60) (by first | decide | omega) (by first | decide | omega) ?_
          exact x_leave (hno 6) hlocks (w_lea rfl hAe (w_bad (i := 1) rfl (s_in2 hs (c_ob.none ((hC.2.2.1 _ hs.j32).symm.trans hfn))) hR0 (Nat.le_succ _)) hP hA hS z1 z2 z3) hS.2.2
    · cases hv9
  · skip
    obtain ⟨hg9, hq9⟩ := hq9
    rw [hg9] at hP hA
    rcases hq9 with ⟨hv9, -⟩ | ⟨hv9, hs⟩
    · cases hv9
    · cases hv9
      refine x_W.widen (k := 6) (n := 60) (by first | decide | omega) (by first | decide | omega) ?_
      exact x_leave (hno 1) hlocks (w_lea rfl hAe (w_bad (i := 0) rfl (q_n hs) hR0 (Nat.le_succ _)) hP hA hS z1 z2 z3) hS.2.2
