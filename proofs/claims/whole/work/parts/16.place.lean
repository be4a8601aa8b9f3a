/-! heldWithPlace, findOrAdd, comeTo -/
section CPlace
def c_kd (g : y_G) (kx : Nat) : Prop := (∃ w mk, g kx = some (e_plain w mk)) ∨ ∃ el bi, g kx = some (e_row el bi)
/-- is place k of an object of this kind a reference? -/
def c_rf (g : y_G) (kx : Nat) (k : Int32) : Prop := (∃ w mk, g kx = some (e_plain w mk) ∧ ¬ ((mk.toUInt32 >>> (k.toUInt32 &&& Int32.toUInt32 31)).toInt32 &&& 1) = 0) ∨ ∃ el bi, g kx = some (e_row el bi) ∧ el = 0
theorem c_rfP {g : y_G} {kx : Nat} {k w mk r : Int32} (hk : g kx = some (e_plain w mk)) (h : (r = 1 ∧ ¬ ((mk.toUInt32 >>> (k.toUInt32 &&& Int32.toUInt32 31)).toInt32 &&& 1) = 0) ∨ (r = 0 ∧ ((mk.toUInt32 >>> (k.toUInt32 &&& Int32.toUInt32 31)).toInt32 &&& 1) = 0)) : (c_rf g kx k ↔ r = 1) ∧ (r = 0 ∨ r = 1) := by
  rcases h with ⟨rfl, h⟩ | ⟨rfl, h⟩
  · exact ⟨⟨fun _ => rfl, fun _ => Or.inl ⟨w, mk, hk, h⟩⟩, Or.inr rfl⟩
  · refine ⟨⟨fun z => ?_, fun z => by cases z⟩, Or.inl rfl⟩
    rcases z with ⟨w', mk', h1, h2⟩ | ⟨el, bi, h1, -⟩
    · rw [hk] at h1; cases h1; exact absurd h h2
    · rw [hk] at h1; cases h1
theorem c_rfR {g : y_G} {kx : Nat} {k el bi r : Int32} (hk : g kx = some (e_row el bi)) (h : (r = 1 ∧ el = 0) ∨ (r = 0 ∧ ¬ el = 0)) : (c_rf g kx k ↔ r = 1) ∧ (r = 0 ∨ r = 1) := by
  rcases h with ⟨rfl, h⟩ | ⟨rfl, h⟩
  · exact ⟨⟨fun _ => rfl, fun _ => Or.inr ⟨el, bi, hk, h⟩⟩, Or.inr rfl⟩
  · refine ⟨⟨fun z => ?_, fun z => by cases z⟩, Or.inl rfl⟩
    rcases z with ⟨w', mk', h1, h2⟩ | ⟨el', bi', h1, h2⟩
    · rw [hk] at h1; cases h1
    · rw [hk] at h1; cases h1; exact absurd h2 h
theorem c_rfN {X : Prop} {r rf : Int32} (h : X ↔ r = 1) (hr : r = 0 ∨ r = 1) (hrf : rf = 0 ∨ rf = 1) (hne : ¬ r = rf) : ¬ (X ↔ rf = 1) := by
  intro z
  rcases hr with rfl | rfl <;> rcases hrf with rfl | rfl
  · exact hne rfl
  · exact absurd (h.mp (z.mpr rfl)) (by decide)
  · exact absurd (z.mp (h.mpr rfl)) (by decide)
  · exact hne rfl
theorem c_ne {g : y_G} {a b : Nat} {e1 e2 : va_E} (h1 : g a = some e1) (h2 : g b = some e2) (h : e1 ≠ e2) : a ≠ b := fun z => h (by rw [z, h2] at h1; exact (Option.some.inj h1).symm)
abbrev rmF : Room := { frames := 2, cells := 1, slots := 4, locals := 50 }
end CPlace
set_option maxHeartbeats 4000000 in
set_option maxRecDepth 100000 in
/-- heldWithPlace(s, k, reference) -/
theorem c_De_heldWithPlace (l : Launch) (hst : l.stackTraces = false) (D : va_G) (cK cI cN cZ cL : ClassId) (g : y_G) (sz : Nat) (d ka sa : Nat) (lim mad kps tgs itv : Int32) (fk0 : Option Nat) (us wk : Int32) (pe : Option Nat) (sv k rf : Int32) (fs : Nat → Option Nat) (hd : g d = some (e_desk ka sa lim mad kps tgs itv fk0 us wk pe)) (hsa : g sa = some (e_refs cI 32 fs)) (hin : b_in sv 32) (hrf : rf = 0 ∨ rf = 1) (hit : ∀ q, fs sv.toNatClampNeg = some q → ∃ kx len wd cs tg kp nk sn np, g q = some (e_item kx len wd cs tg kp nk sn np) ∧ c_kd g kx) : x_M l y_De_heldWithPlace [.code y_De_heldWithPlace b_De_heldWithPlace 5 (some (.object "MemoryDesk$Item"))] rmU (w_Pc D (x_tys cK cI cN cZ cL) [.ref d, .int sv, .int k, .int rf] g sz) (w_Qc D g sz (fun r g9 => g9 = g ∧ ((fs sv.toNatClampNeg = none ∧ r = .inr xISE) ∨ ∃ q kx len wd cs tg kp nk sn np, fs sv.toNatClampNeg = some q ∧ g q = some (e_item kx len wd cs tg kp nk sn np) ∧ ((¬ b_in k len ∧ r = .inr xIOO) ∨ (b_in k len ∧ ¬ (c_rf g kx k ↔ rf = 1) ∧ r = .inr xUOE) ∨ (b_in k len ∧ (c_rf g kx k ↔ rf = 1) ∧ r = .inl (some (.ref q))))))) 2 12 (y_A g sz) := by
  refine x_ofW (cc := b_De_heldWithPlace) (maxL := 5) (ret := (some (.object "MemoryDesk$Item"))) (by decide) rfl ?_
  intro p e s m args below meth c s₁ B hml hno hv
  obtain ⟨rfl, hsz, hP, hE⟩ := hv
  subst hsz
  have hts := hE.hts ([.ref d, .int sv, .int k, .int rf] : List Value).toArray
  have hK := hE.1.2.1
  have hA0 : ∀ q, s.heap.size ≤ q → y_A g s.heap.size q := fun q h => Or.inr h
  have hA : ∀ q e, g q = some e → y_A g s.heap.size q := fun q e h => Or.inl (by rw [h]; exact fun z => nomatch z)
  have hS : va_S (y_A g s.heap.size) s.heap s.heap [] := va_S.rf
  generalize hAe : y_A g s.heap.size = A at hE hA0 hA hS ⊢
  have hx := B.exec
  have hb := B.bytes
  have hr := B.returns
  have hlocks := B.notSynchronized
  have hown : s.vm.findClass R_De = some m.cls := findClass_of_methodNamed B.named
  have hl := lv_entry ([.ref d, .int sv, .int k, .int rf]) (n := 5) (Nat.le_of_ble_eq_true rfl)
  rw [lg_entry_eq]
  generalize (lg_sl ([.ref d, .int sv, .int k, .int rf]) ++ List.replicate (5 - (lg_sl ([.ref d, .int sv, .int k, .int rf])).length) Slot.unset).toArray = ls at hl ⊢
  have hl : lv_has ls 5 [(0, .ref d), (1, .int sv), (2, .int k), (3, .int rf)] := hl
  refine lv_aload_n hx hb d_De_heldWithPlace_0 rfl (lv_at hl 0 rfl) ?_
  refine lv_iload_n hx hb d_De_heldWithPlace_1 rfl (lv_at hl 1 rfl) ?_
  refine w_callV (As := [.int sv]) (C := R_De) ⟨hx, hb, hml, hown, hts⟩ (c_De_held l hst D cK cI cN cZ cL g s.heap.size d ka sa lim mad kps tgs itv fk0 us wk pe sv fs hd hsa hin) (x_cb (cwV (own := R_De) (index := 117) (C := R_De) 1 hts (x_gi (by decide +kernel)) rfl rfl rfl (by decide +kernel) ⟨by decide, by decide⟩).1) (hts (.instanceMethod y_De_held) (by decide +kernel)) (hts (.selects R_De y_De_held y_De_held) (by decide +kernel)) (y_recv (ci := 4) (q := (R_De, F_De, 11)) hK hP rfl hd) hE hP hA hA0 hS rfl hl.1 rfl (lv_room (Nat.le_of_ble_eq_true rfl)) d_De_heldWithPlace_2 (by first | decide | omega) (by first | decide | omega) (fun v9 g9 H locs hq9 hP hA hS => ?_) (fun E9 q9 ce9 g9 H locs hq9 hP hA hS z1 z2 z3 => ?_)
  · skip
    obtain ⟨hg9, hq9⟩ := hq9
    rw [hg9] at hP hA
    rcases hq9 with ⟨q, hfq, hv9⟩ | ⟨-, hv9⟩
    · cases hv9
      refine W.eq (g2 := F0 m 5 ls [.ref q]) rfl ?_
      obtain ⟨kx, len, wd, cs, tg, kp, nk, sn, np, hq, hkd⟩ := hit q hfq
      refine lv_astore hx hb d_De_heldWithPlace_5 hl (by decide) rfl (fun ls hl => ?_)
      have hl : lv_has ls 5 [(4, .ref q), (0, .ref d), (1, .int sv), (2, .int k), (3, .int rf)] := hl
      refine lv_iload_n hx hb d_De_heldWithPlace_7 rfl (lv_at hl 3 rfl) ?_
      refine lv_if_lt hx hb d_De_heldWithPlace_8 rfl (fun h1 => ?_) (fun h1 => ?_)
      · -- iflt at 8: to 20
        obtain ⟨sa, hstr⟩ := hE.1.2.2.2.1 (164, "there is no such word or element") (by decide)
        refine W.widen (k := 2 - 1) (n := 12 - 6) (by first | decide | omega) (by first | decide | omega) ?_
        exact x_throw (A := A) (cls := "java/lang/IndexOutOfBoundsException") (names := ["java/lang/RuntimeException", "java/lang/Exception"]) hx hb hst hown (by decide) (by decide) (hts (.classLink R_De 162 "java/lang/IndexOutOfBoundsException") (by decide +kernel)) (hts (.initialized "java/lang/IndexOutOfBoundsException") (by decide +kernel)) hstr (fun w hw ho => hE.1.at _ ho (at_IOO w hw ho)) nt_IOO hE.2.1 hE.2.2.1 hS (hl.1.trans hml.symm) d_De_heldWithPlace_20 d_De_heldWithPlace_23 d_De_heldWithPlace_24 d_De_heldWithPlace_26 d_De_heldWithPlace_29 (hno 29) (by decide) (by decide) (by decide) (by decide) hlocks (w_thr rfl hAe ⟨rfl, Or.inr ⟨q, kx, len, wd, cs, tg, kp, nk, sn, np, hfq, hq, Or.inl ⟨fun z => z.1 h1, rfl⟩⟩⟩ hP hA hS) hS.2.2
      · -- iflt at 8: to 11
        refine lv_iload_n hx hb d_De_heldWithPlace_11 rfl (lv_at hl 3 rfl) ?_
        refine lv_aload hx hb d_De_heldWithPlace_12 (lv_at hl 0 rfl) ?_
        refine y_get (D := D) (ci := 1) (v := .int len) (C := R_It) (T := F_It) (N := 9) hx hb hts in_It hown hK hP hq rfl 1 (by decide) (hts (.fieldLink R_De 140 "MemoryDesk$Item" "length" "I") (by decide +kernel)) (fun _ h9 => h9) rfl d_De_heldWithPlace_14 ?_
        refine lv_icmp_lt hx hb d_De_heldWithPlace_17 rfl (fun h2 => ?_) (fun h2 => ?_)
        · -- if_icmplt at 17: to 30
          refine lv_aload hx hb d_De_heldWithPlace_30 (lv_at hl 0 rfl) ?_
          refine y_get (D := D) (ci := 1) (v := .ref kx) (C := R_It) (T := F_It) (N := 9) hx hb hts in_It hown hK hP hq rfl 0 (by decide) (hts (.fieldLink R_De 105 "MemoryDesk$Item" "kind" "LMemoryDesk$Kind;") (by decide +kernel)) (fun _ h9 => h9) rfl d_De_heldWithPlace_32 ?_
          refine lv_iload_n hx hb d_De_heldWithPlace_35 rfl (lv_at hl 3 rfl) ?_
          rcases hkd with ⟨w, mk, hk⟩ | ⟨el, bi, hk⟩
          · skip
            refine vp_callSi (va_Run.run (va_runU (C := R_Pk) (owner := R_Ki) (x := ⟨R_Ki, "isReference", "(I)Z"⟩) (As := [.int k]) ⟨hx, hb, hml, hown, hts⟩ (c_Pk_isReference l D _ g kx k w mk hk) (va_cwA (own := R_De) (index := 167) 1 hts (x_gi (by decide +kernel)) rfl rfl rfl (hE.1.2.2.1 (.declares ⟨R_Ki, "isReference", "(I)Z"⟩) (by decide +kernel)) (by decide +kernel) ⟨by decide, by decide⟩) ⟨w_Pp.blind, y_recv (ci := 2) (q := (R_Pk, F_Pk, 2)) hK hP rfl hk, fun U hU hW => ⟨rfl, by rw [hU]; exact hP, hE.1.to hW⟩⟩ rfl rfl hl.1 rfl (lv_room (Nat.le_of_ble_eq_true rfl)) d_De_heldWithPlace_36 ⟨by first | decide | omega, by first | decide | omega⟩)) (fun r9 hr9 => ?_)
            refine lv_iload_n hx hb d_De_heldWithPlace_39 rfl (lv_at hl 4 rfl) ?_
            obtain ⟨hc9, hz9⟩ := c_rfP hk hr9
            refine lv_icmp_eq hx hb d_De_heldWithPlace_40 rfl (fun h3 => ?_) (fun h3 => ?_)
            · -- if_icmpeq at 40: to 53
              refine lv_aload hx hb d_De_heldWithPlace_53 (lv_at hl 0 rfl) ?_
              rw [h3] at hc9
              refine W.widen (k := 2) (n := 12) (by first | decide | omega) (by first | decide | omega) ?_
              exact x_ret (W.aret (v := .ref q) hx hb hr (Or.inl ⟨_, rfl⟩) (Or.inr ⟨_, rfl⟩) (w_fin rfl hAe ⟨rfl, Or.inr ⟨q, kx, len, wd, cs, tg, kp, nk, sn, np, hfq, hq, Or.inr (Or.inr ⟨⟨h1, h2⟩, hc9, rfl⟩)⟩⟩ hP hA hS) hS.2.2 d_De_heldWithPlace_55)
            · -- if_icmpeq at 40: to 43
              obtain ⟨sa, hstr⟩ := hE.1.2.2.2.1 (172, "a reference is no value, nor a value a reference") (by decide)
              refine W.widen (k := 2 - 1) (n := 12 - 6) (by first | decide | omega) (by first | decide | omega) ?_
              exact x_throw (A := A) (cls := "java/lang/UnsupportedOperationException") (names := ["java/lang/RuntimeException", "java/lang/Exception"]) hx hb hst hown (by decide) (by decide) (hts (.classLink R_De 170 "java/lang/UnsupportedOperationException") (by decide +kernel)) (hts (.initialized "java/lang/UnsupportedOperationException") (by decide +kernel)) hstr (fun w hw ho => hE.1.at _ ho (at_UOE w hw ho)) nt_UOE hE.2.1 hE.2.2.1 hS (hl.1.trans hml.symm) d_De_heldWithPlace_43 d_De_heldWithPlace_46 d_De_heldWithPlace_47 d_De_heldWithPlace_49 d_De_heldWithPlace_52 (hno 52) (by decide) (by decide) (by decide) (by decide) hlocks (w_thr rfl hAe ⟨rfl, Or.inr ⟨q, kx, len, wd, cs, tg, kp, nk, sn, np, hfq, hq, Or.inr (Or.inl ⟨⟨h1, h2⟩, c_rfN hc9 hz9 hrf h3, rfl⟩)⟩⟩ hP hA hS) hS.2.2
          · skip
            refine vp_callSi (va_Run.run (va_runU (C := R_Rk) (owner := R_Ki) (x := ⟨R_Ki, "isReference", "(I)Z"⟩) (As := [.int k]) ⟨hx, hb, hml, hown, hts⟩ (c_Rk_isReference l D _ g kx k el bi hk) (va_cwA (own := R_De) (index := 167) 1 hts (x_gi (by decide +kernel)) rfl rfl rfl (hE.1.2.2.1 (.declares ⟨R_Ki, "isReference", "(I)Z"⟩) (by decide +kernel)) (by decide +kernel) ⟨by decide, by decide⟩) ⟨w_Pp.blind, y_recv (ci := 3) (q := (R_Rk, F_Rk, 2)) hK hP rfl hk, fun U hU hW => ⟨rfl, by rw [hU]; exact hP, hE.1.to hW⟩⟩ rfl rfl hl.1 rfl (lv_room (Nat.le_of_ble_eq_true rfl)) d_De_heldWithPlace_36 ⟨by first | decide | omega, by first | decide | omega⟩)) (fun r9 hr9 => ?_)
            refine lv_iload_n hx hb d_De_heldWithPlace_39 rfl (lv_at hl 4 rfl) ?_
            obtain ⟨hc9, hz9⟩ := c_rfR hk hr9
            refine lv_icmp_eq hx hb d_De_heldWithPlace_40 rfl (fun h4 => ?_) (fun h4 => ?_)
            · -- if_icmpeq at 40: to 53
              refine lv_aload hx hb d_De_heldWithPlace_53 (lv_at hl 0 rfl) ?_
              rw [h4] at hc9
              refine W.widen (k := 2) (n := 12) (by first | decide | omega) (by first | decide | omega) ?_
              exact x_ret (W.aret (v := .ref q) hx hb hr (Or.inl ⟨_, rfl⟩) (Or.inr ⟨_, rfl⟩) (w_fin rfl hAe ⟨rfl, Or.inr ⟨q, kx, len, wd, cs, tg, kp, nk, sn, np, hfq, hq, Or.inr (Or.inr ⟨⟨h1, h2⟩, hc9, rfl⟩)⟩⟩ hP hA hS) hS.2.2 d_De_heldWithPlace_55)
            · -- if_icmpeq at 40: to 43
              obtain ⟨sa, hstr⟩ := hE.1.2.2.2.1 (172, "a reference is no value, nor a value a reference") (by decide)
              refine W.widen (k := 2 - 1) (n := 12 - 6) (by first | decide | omega) (by first | decide | omega) ?_
              exact x_throw (A := A) (cls := "java/lang/UnsupportedOperationException") (names := ["java/lang/RuntimeException", "java/lang/Exception"]) hx hb hst hown (by decide) (by decide) (hts (.classLink R_De 170 "java/lang/UnsupportedOperationException") (by decide +kernel)) (hts (.initialized "java/lang/UnsupportedOperationException") (by decide +kernel)) hstr (fun w hw ho => hE.1.at _ ho (at_UOE w hw ho)) nt_UOE hE.2.1 hE.2.2.1 hS (hl.1.trans hml.symm) d_De_heldWithPlace_43 d_De_heldWithPlace_46 d_De_heldWithPlace_47 d_De_heldWithPlace_49 d_De_heldWithPlace_52 (hno 52) (by decide) (by decide) (by decide) (by decide) hlocks (w_thr rfl hAe ⟨rfl, Or.inr ⟨q, kx, len, wd, cs, tg, kp, nk, sn, np, hfq, hq, Or.inr (Or.inl ⟨⟨h1, h2⟩, c_rfN hc9 hz9 hrf h4, rfl⟩)⟩⟩ hP hA hS) hS.2.2
        · -- if_icmplt at 17: to 20
          obtain ⟨sa, hstr⟩ := hE.1.2.2.2.1 (164, "there is no such word or element") (by decide)
          refine W.widen (k := 2 - 1) (n := 12 - 6) (by first | decide | omega) (by first | decide | omega) ?_
          exact x_throw (A := A) (cls := "java/lang/IndexOutOfBoundsException") (names := ["java/lang/RuntimeException", "java/lang/Exception"]) hx hb hst hown (by decide) (by decide) (hts (.classLink R_De 162 "java/lang/IndexOutOfBoundsException") (by decide +kernel)) (hts (.initialized "java/lang/IndexOutOfBoundsException") (by decide +kernel)) hstr (fun w hw ho => hE.1.at _ ho (at_IOO w hw ho)) nt_IOO hE.2.1 hE.2.2.1 hS (hl.1.trans hml.symm) d_De_heldWithPlace_20 d_De_heldWithPlace_23 d_De_heldWithPlace_24 d_De_heldWithPlace_26 d_De_heldWithPlace_29 (hno 29) (by decide) (by decide) (by decide) (by decide) hlocks (w_thr rfl hAe ⟨rfl, Or.inr ⟨q, kx, len, wd, cs, tg, kp, nk, sn, np, hfq, hq, Or.inl ⟨fun z => h2 z.2, rfl⟩⟩⟩ hP hA hS) hS.2.2
    · cases hv9
  · skip
    obtain ⟨hg9, hq9⟩ := hq9
    rw [hg9] at hP hA
    rcases hq9 with ⟨q, -, hv9⟩ | ⟨hn, hv9⟩
    · cases hv9
    · cases hv9
      refine x_W.widen (k := 2) (n := 12) (by first | decide | omega) (by first | decide | omega) ?_
      exact x_leave (hno 2) hlocks (w_lea rfl hAe ⟨rfl, Or.inl ⟨hn, rfl⟩⟩ hP hA hS z1 z2 z3) hS.2.2
set_option maxHeartbeats 4000000 in
set_option maxRecDepth 100000 in
/-- findOrAdd(place): the cell of that place, or a new one ahead of all -/
theorem c_It_findOrAdd (l : Launch) (D : va_G) (tys : List (ClassId × FieldType)) (g : y_G) (sz : Nat) (x : Nat) (k : Int32) (kx : Nat) (len wd tg kp : Int32) (nk : Option Nat) (sn : Int32) (np : Option Nat) (L : List CL) (h0 : g x = some (e_item kx len wd (c_hd L) tg kp nk sn np)) (hc : c_ch g L) :
    x_M l y_It_findOrAdd [.code y_It_findOrAdd b_It_findOrAdd 3 (some (.object "MemoryDesk$Cell"))] rmF (w_Pc D tys [.ref x, .int k] g sz) (w_Qc D g sz (fun r g9 => (∃ y, c_fd k L = some y ∧ r = .inl (some (.ref y)) ∧ g9 = g) ∨ (c_fd k L = none ∧ ∃ q, g q = none ∧ r = .inl (some (.ref q)) ∧ g9 = va_up (va_up g q (some (e_cell k (c_hd L) 0 none))) x (some (e_item kx len wd (some q) tg kp nk sn np))))) 1 4 (y_A g sz) := by
  refine x_ofW (cc := b_It_findOrAdd) (maxL := 3) (ret := (some (.object "MemoryDesk$Cell"))) (by decide) rfl ?_
  intro p e s m args below meth c s₁ B hml hno hv
  obtain ⟨rfl, hsz, hP, hE⟩ := hv
  subst hsz
  have hts := hE.hts ([.ref x, .int k] : List Value).toArray
  have hK := hE.1.2.1
  have hA0 : ∀ q, s.heap.size ≤ q → y_A g s.heap.size q := fun q h => Or.inr h
  have hA : ∀ q e, g q = some e → y_A g s.heap.size q := fun q e h => Or.inl (by rw [h]; exact fun z => nomatch z)
  have hS : va_S (y_A g s.heap.size) s.heap s.heap [] := va_S.rf
  generalize hAe : y_A g s.heap.size = A at hE hA0 hA hS ⊢
  have hx := B.exec
  have hb := B.bytes
  have hr := B.returns
  have hlocks := B.notSynchronized
  have hown : s.vm.findClass R_It = some m.cls := findClass_of_methodNamed B.named
  have hl := lv_entry ([.ref x, .int k]) (n := 3) (Nat.le_of_ble_eq_true rfl)
  rw [lg_entry_eq]
  generalize (lg_sl ([.ref x, .int k]) ++ List.replicate (3 - (lg_sl ([.ref x, .int k])).length) Slot.unset).toArray = ls at hl ⊢
  have hl : lv_has ls 3 [(0, .ref x), (1, .int k)] := hl
  refine lv_aload_n hx hb d_It_findOrAdd_0 rfl (lv_at hl 0 rfl) ?_
  refine lv_iload_n hx hb d_It_findOrAdd_1 rfl (lv_at hl 1 rfl) ?_
  refine va_csq (W.runV (As := [.int k]) (C := R_It) ⟨hx, hb, hml, hown, hts⟩ (c_It_find l D tys g x k kx len wd tg kp nk sn np L h0 hc) (cwV (own := R_It) (index := 32) 1 hts (x_gi (by decide +kernel)) rfl rfl rfl (by decide +kernel) ⟨by decide, by decide⟩) ⟨w_Pp.blind, y_recv (ci := 1) (q := (R_It, F_It, 9)) hK hP rfl h0, fun U hU hW => ⟨rfl, by rw [hU]; exact hP, hE.1.to hW⟩⟩ rfl rfl hl.1 rfl (lv_room (Nat.le_of_ble_eq_true rfl)) d_It_findOrAdd_2 ⟨by decide, by decide⟩) (fun r9 hr9 => ?_)
  cases r9 with
  | some y =>
    refine lv_astore_n hx hb d_It_findOrAdd_5 rfl hl (by decide) rfl (fun ls hl => ?_)
    have hl : lv_has ls 3 [(2, .ref y), (0, .ref x), (1, .int k)] := hl
    refine lv_aload_n hx hb d_It_findOrAdd_6 rfl (lv_at hl 0 rfl) ?_
    refine lv_ifnonnull hx hb d_It_findOrAdd_7 rfl ?_
    refine lv_aload_n hx hb d_It_findOrAdd_28 rfl (lv_at hl 0 rfl) ?_
    refine W.widen (k := 1) (n := 4) (by first | decide | omega) (by first | decide | omega) ?_
    exact x_ret (W.aret (v := .ref y) hx hb hr (Or.inl ⟨_, rfl⟩) (Or.inr ⟨_, rfl⟩) (w_fin rfl hAe (Or.inl ⟨y, hr9.symm, rfl, rfl⟩) hP hA hS) hS.2.2 d_It_findOrAdd_29)
  | none =>
    refine lv_astore_nN hx hb d_It_findOrAdd_5 rfl hl (by decide) rfl (fun ls hl => ?_)
    have hl : lv_has ls 3 [(2, .null), (0, .ref x), (1, .int k)] := hl
    refine lv_aload_nN hx hb d_It_findOrAdd_6 rfl (lv_at hl 0 rfl) ?_
    refine lv_ifnonnullN hx hb d_It_findOrAdd_7 ?_
    refine y_new (ci := 0) (fs := [.int 0, .null, .long 0, .null]) (C := R_Ce) (T := F_Ce) (N := 4) hx hb hts in_Ce t_Ce t_Ce_ok hown (hts (.classLink R_It 25 R_Ce) (by decide +kernel)) (hts (.instantiable R_Ce 4) (by decide +kernel)) (hts (.initialized R_Ce) (by decide +kernel)) hK hP hA hS hA0 rfl (fun j hj => by rcases (show j = 0 ∨ j = 1 ∨ j = 2 ∨ j = 3 by omega) with rfl | rfl | rfl | rfl <;> rfl) (by first | decide | omega) (by first | decide | omega) d_It_findOrAdd_10 (fun q H hg_q hP hA hS => ?_)
    refine lv_dup hx hb d_It_findOrAdd_13 rfl ?_
    refine lv_iload_n hx hb d_It_findOrAdd_14 rfl (lv_at hl 2 rfl) ?_
    refine lv_aload_n hx hb d_It_findOrAdd_15 rfl (lv_at hl 1 rfl) ?_
    have hne : x ≠ q := fun z => by rw [z, hg_q] at h0; cases h0
    have h1 : va_up g q (some (.inr (0, [.int 0, .null, .long 0, .null]))) x = some (e_item kx len wd (c_hd L) tg kp nk sn np) := by rw [va_up_ne _ _ hne]; exact h0
    refine y_get (D := D) (ci := 1) (v := va_rf (c_hd L)) (C := R_It) (T := F_It) (N := 9) hx hb hts in_It hown hK hP h1 rfl 3 (by decide) (hts (.fieldLink R_It 20 "MemoryDesk$Item" "cells" "LMemoryDesk$Cell;") (by decide +kernel)) (fun _ h9 => h9) rfl d_It_findOrAdd_16 ?_
    cases L with
    | nil =>
      refine w_callI (As := [.int k, .null]) (bytes := b_Ce_init) ⟨hx, hb, hml, hown, hts⟩ (c_Ce_initN l D tys _ _ q k (va_up_self _ _ _)) (x_cb (cwI (own := R_It) (index := 36) 2 hts (x_gi (by decide +kernel)) rfl rfl rfl (hts (.initialized R_Ce) (by decide +kernel)) (hts (.methodLink R_It 36 y_Ce_init) (by decide +kernel)) (hts (.instanceMethod y_Ce_init) (by decide +kernel)) rfl (by decide +kernel) ⟨by decide, by decide⟩).1) rfl (hts (.instanceMethod y_Ce_init) (by decide +kernel)) (hts (.code y_Ce_init b_Ce_init 3 none) (by decide +kernel)) hE hP hA hA0 hS (fun _ _ z => nomatch z.1) rfl hl.1 rfl (lv_room (Nat.le_of_ble_eq_true rfl)) d_It_findOrAdd_19 (by first | decide | omega) (by first | decide | omega) (fun v9 g9 H locs hq9 hP hA hS => ?_)
      obtain ⟨hv9, hg9⟩ := hq9
      cases hv9
      rw [hg9] at hP hA
      refine W.eq (g2 := F0 m 22 ls [.ref q]) rfl ?_
      rw [bx_uu] at hP hA
      have hP : y_P D vwCl (va_up g q (some (e_cell k (c_hd []) 0 none))) H := hP
      have hA : ∀ q99 e99, (va_up g q (some (e_cell k (c_hd []) 0 none))) q99 = some e99 → A q99 := hA
      have h2 : va_up g q (some (e_cell k (c_hd []) 0 none)) x = some (e_item kx len wd (c_hd []) tg kp nk sn np) := by rw [va_up_ne _ _ hne]; exact h0
      refine lv_astore_n hx hb d_It_findOrAdd_22 rfl hl (by decide) rfl (fun ls hl => ?_)
      have hl : lv_has ls 3 [(2, .ref q), (0, .ref x), (1, .int k)] := hl
      refine lv_aload_n hx hb d_It_findOrAdd_23 rfl (lv_at hl 1 rfl) ?_
      refine lv_aload_n hx hb d_It_findOrAdd_24 rfl (lv_at hl 0 rfl) ?_
      refine y_put (D := D) (ci := 1) (v := .ref q) (ty := .object "MemoryDesk$Cell") (C := R_It) (T := F_It) (N := 9) hx hb hts in_It t_It t_It_ok n_It hown hK hP hA hS h2 rfl 3 (by decide) (hts (.fieldLink R_It 20 "MemoryDesk$Item" "cells" "LMemoryDesk$Cell;") (by decide +kernel)) (fun _ h9 => h9) rfl (by decide +kernel) rfl rfl (Nat.le_of_ble_eq_true rfl) d_It_findOrAdd_25 (fun H locs hP hA hS => ?_)
      have hP : y_P D vwCl (va_up (va_up g q (some (e_cell k (c_hd []) 0 none))) x (some (e_item kx len wd (some q) tg kp nk sn np))) H := hP
      have hA : ∀ q99 e99, (va_up (va_up g q (some (e_cell k (c_hd []) 0 none))) x (some (e_item kx len wd (some q) tg kp nk sn np))) q99 = some e99 → A q99 := hA
      refine lv_aload_n hx hb d_It_findOrAdd_28 rfl (lv_at hl 0 rfl) ?_
      refine W.widen (k := 1) (n := 4) (by first | decide | omega) (by first | decide | omega) ?_
      exact x_ret (W.aret (v := .ref q) hx hb hr (Or.inl ⟨_, rfl⟩) (Or.inr ⟨_, rfl⟩) (w_fin rfl hAe (Or.inr ⟨hr9.symm, q, hg_q, rfl, rfl⟩) hP hA hS) hS.2.2 d_It_findOrAdd_29)
    | cons q1 r1 =>
      refine w_callI (As := [.int k, .ref q1.1]) (bytes := b_Ce_init) ⟨hx, hb, hml, hown, hts⟩ (c_Ce_initR l D tys _ _ q k q1.1 (va_up_self _ _ _)) (x_cb (cwI (own := R_It) (index := 36) 2 hts (x_gi (by decide +kernel)) rfl rfl rfl (hts (.initialized R_Ce) (by decide +kernel)) (hts (.methodLink R_It 36 y_Ce_init) (by decide +kernel)) (hts (.instanceMethod y_Ce_init) (by decide +kernel)) rfl (by decide +kernel) ⟨by decide, by decide⟩).1) rfl (hts (.instanceMethod y_Ce_init) (by decide +kernel)) (hts (.code y_Ce_init b_Ce_init 3 none) (by decide +kernel)) hE hP hA hA0 hS (fun _ _ z => nomatch z.1) rfl hl.1 rfl (lv_room (Nat.le_of_ble_eq_true rfl)) d_It_findOrAdd_19 (by first | decide | omega) (by first | decide | omega) (fun v9 g9 H locs hq9 hP hA hS => ?_)
      obtain ⟨hv9, hg9⟩ := hq9
      cases hv9
      rw [hg9] at hP hA
      refine W.eq (g2 := F0 m 22 ls [.ref q]) rfl ?_
      rw [bx_uu] at hP hA
      have hP : y_P D vwCl (va_up g q (some (e_cell k (c_hd (q1 :: r1)) 0 none))) H := hP
      have hA : ∀ q99 e99, (va_up g q (some (e_cell k (c_hd (q1 :: r1)) 0 none))) q99 = some e99 → A q99 := hA
      have h2 : va_up g q (some (e_cell k (c_hd (q1 :: r1)) 0 none)) x = some (e_item kx len wd (c_hd (q1 :: r1)) tg kp nk sn np) := by rw [va_up_ne _ _ hne]; exact h0
      refine lv_astore_n hx hb d_It_findOrAdd_22 rfl hl (by decide) rfl (fun ls hl => ?_)
      have hl : lv_has ls 3 [(2, .ref q), (0, .ref x), (1, .int k)] := hl
      refine lv_aload_n hx hb d_It_findOrAdd_23 rfl (lv_at hl 1 rfl) ?_
      refine lv_aload_n hx hb d_It_findOrAdd_24 rfl (lv_at hl 0 rfl) ?_
      refine y_put (D := D) (ci := 1) (v := .ref q) (ty := .object "MemoryDesk$Cell") (C := R_It) (T := F_It) (N := 9) hx hb hts in_It t_It t_It_ok n_It hown hK hP hA hS h2 rfl 3 (by decide) (hts (.fieldLink R_It 20 "MemoryDesk$Item" "cells" "LMemoryDesk$Cell;") (by decide +kernel)) (fun _ h9 => h9) rfl (by decide +kernel) rfl rfl (Nat.le_of_ble_eq_true rfl) d_It_findOrAdd_25 (fun H locs hP hA hS => ?_)
      have hP : y_P D vwCl (va_up (va_up g q (some (e_cell k (c_hd (q1 :: r1)) 0 none))) x (some (e_item kx len wd (some q) tg kp nk sn np))) H := hP
      have hA : ∀ q99 e99, (va_up (va_up g q (some (e_cell k (c_hd (q1 :: r1)) 0 none))) x (some (e_item kx len wd (some q) tg kp nk sn np))) q99 = some e99 → A q99 := hA
      refine lv_aload_n hx hb d_It_findOrAdd_28 rfl (lv_at hl 0 rfl) ?_
      refine W.widen (k := 1) (n := 4) (by first | decide | omega) (by first | decide | omega) ?_
      exact x_ret (W.aret (v := .ref q) hx hb hr (Or.inl ⟨_, rfl⟩) (Or.inr ⟨_, rfl⟩) (w_fin rfl hAe (Or.inr ⟨hr9.symm, q, hg_q, rfl, rfl⟩) hP hA hS) hS.2.2 d_It_findOrAdd_29)
set_option maxHeartbeats 4000000 in
set_option maxRecDepth 100000 in
/-- comeTo(null): nothing -/
theorem c_De_comeToN (l : Launch) (D : va_G) (tys : List (ClassId × FieldType)) (g : y_G) (sz : Nat) (d : Nat) : x_M l y_De_comeTo [.code y_De_comeTo b_De_comeTo 2 none] rmZ (w_Pc D tys [.ref d, .null] g sz) (w_Qc D g sz (fun r g9 => r = .inl none ∧ g9 = g)) 0 0 (y_A g sz) := by
  refine x_ofW (cc := b_De_comeTo) (maxL := 2) (ret := none) (by decide) rfl ?_
  intro p e s m args below meth c s₁ B hml hno hv
  obtain ⟨rfl, hsz, hP, hE⟩ := hv
  subst hsz
  have hts := hE.hts ([.ref d, .null] : List Value).toArray
  have hK := hE.1.2.1
  have hA0 : ∀ q, s.heap.size ≤ q → y_A g s.heap.size q := fun q h => Or.inr h
  have hA : ∀ q e, g q = some e → y_A g s.heap.size q := fun q e h => Or.inl (by rw [h]; exact fun z => nomatch z)
  have hS : va_S (y_A g s.heap.size) s.heap s.heap [] := va_S.rf
  generalize hAe : y_A g s.heap.size = A at hE hA0 hA hS ⊢
  have hx := B.exec
  have hb := B.bytes
  have hr := B.returns
  have hlocks := B.notSynchronized
  have hown : s.vm.findClass R_De = some m.cls := findClass_of_methodNamed B.named
  have hl := lv_entry ([.ref d, .null]) (n := 2) (Nat.le_of_ble_eq_true rfl)
  rw [lg_entry_eq]
  generalize (lg_sl ([.ref d, .null]) ++ List.replicate (2 - (lg_sl ([.ref d, .null])).length) Slot.unset).toArray = ls at hl ⊢
  have hl : lv_has ls 2 [(0, .ref d), (1, .null)] := hl
  refine lv_aload_nN hx hb d_De_comeTo_0 rfl (lv_at hl 1 rfl) ?_
  refine lv_ifnullN hx hb d_De_comeTo_1 rfl ?_
  refine W.widen (k := 0) (n := 0) (by first | decide | omega) (by first | decide | omega) ?_
  exact x_ret (W.vret hx hb hr (w_fin rfl hAe ⟨rfl, rfl⟩ hP hA hS) hS.2.2 d_De_comeTo_36)
set_option maxHeartbeats 4000000 in
set_option maxRecDepth 100000 in
/-- comeTo(item): seen already, or it is pending now -/
theorem c_De_comeToR (l : Launch) (D : va_G) (tys : List (ClassId × FieldType)) (g : y_G) (sz : Nat) (d ka sa : Nat) (lim mad kps tgs itv : Int32) (fk0 : Option Nat) (us wk : Int32) (pe : Option Nat) (y : Nat) (kx : Nat) (len wd tg kp : Int32) (nk : Option Nat) (sn : Int32) (np : Option Nat) (cs : Option Nat) (hd : g d = some (e_desk ka sa lim mad kps tgs itv fk0 us wk pe)) (hy : g y = some (e_item kx len wd cs tg kp nk sn np)) : x_M l y_De_comeTo [.code y_De_comeTo b_De_comeTo 2 none] rmZ (w_Pc D tys [.ref d, .ref y] g sz)
    (w_Qc D g sz (fun r g9 => r = .inl none ∧ ((sn = wk ∧ g9 = g) ∨ (¬ sn = wk ∧ g9 = va_up (va_up g y (some (e_item kx len wd cs tg kp nk wk pe))) d (some (e_desk ka sa lim mad kps tgs itv fk0 us wk (some y))))))) 0 0 (y_A g sz) := by
  refine x_ofW (cc := b_De_comeTo) (maxL := 2) (ret := none) (by decide) rfl ?_
  intro p e s m args below meth c s₁ B hml hno hv
  obtain ⟨rfl, hsz, hP, hE⟩ := hv
  subst hsz
  have hts := hE.hts ([.ref d, .ref y] : List Value).toArray
  have hK := hE.1.2.1
  have hA0 : ∀ q, s.heap.size ≤ q → y_A g s.heap.size q := fun q h => Or.inr h
  have hA : ∀ q e, g q = some e → y_A g s.heap.size q := fun q e h => Or.inl (by rw [h]; exact fun z => nomatch z)
  have hS : va_S (y_A g s.heap.size) s.heap s.heap [] := va_S.rf
  generalize hAe : y_A g s.heap.size = A at hE hA0 hA hS ⊢
  have hx := B.exec
  have hb := B.bytes
  have hr := B.returns
  have hlocks := B.notSynchronized
  have hown : s.vm.findClass R_De = some m.cls := findClass_of_methodNamed B.named
  have hl := lv_entry ([.ref d, .ref y]) (n := 2) (Nat.le_of_ble_eq_true rfl)
  rw [lg_entry_eq]
  generalize (lg_sl ([.ref d, .ref y]) ++ List.replicate (2 - (lg_sl ([.ref d, .ref y])).length) Slot.unset).toArray = ls at hl ⊢
  have hl : lv_has ls 2 [(0, .ref d), (1, .ref y)] := hl
  have hne : d ≠ y := c_ne hd hy (by intro z; cases z)
  refine lv_aload_n hx hb d_De_comeTo_0 rfl (lv_at hl 1 rfl) ?_
  refine lv_ifnull hx hb d_De_comeTo_1 ?_
  refine lv_aload_n hx hb d_De_comeTo_4 rfl (lv_at hl 1 rfl) ?_
  refine y_get (D := D) (ci := 1) (v := .int sn) (C := R_It) (T := F_It) (N := 9) hx hb hts in_It hown hK hP hy rfl 7 (by decide) (hts (.fieldLink R_De 200 "MemoryDesk$Item" "walkSeen" "I") (by decide +kernel)) (fun _ h9 => h9) rfl d_De_comeTo_5 ?_
  refine lv_aload_n hx hb d_De_comeTo_8 rfl (lv_at hl 0 rfl) ?_
  refine y_get (D := D) (ci := 4) (v := .int wk) (C := R_De) (T := F_De) (N := 11) hx hb hts in_De hown hK hP hd rfl 9 (by decide) (hts (.fieldLink R_De 177 "MemoryDesk" "walk" "I") (by decide +kernel)) (fun _ h9 => h9) rfl d_De_comeTo_9 ?_
  refine lv_icmp_eq hx hb d_De_comeTo_12 rfl (fun h1 => ?_) (fun h1 => ?_)
  · -- if_icmpeq at 12: to 36
    refine W.widen (k := 0) (n := 0) (by first | decide | omega) (by first | decide | omega) ?_
    exact x_ret (W.vret hx hb hr (w_fin rfl hAe ⟨rfl, Or.inl ⟨h1, rfl⟩⟩ hP hA hS) hS.2.2 d_De_comeTo_36)
  · -- if_icmpeq at 12: to 15
    refine lv_aload_n hx hb d_De_comeTo_15 rfl (lv_at hl 1 rfl) ?_
    refine lv_aload_n hx hb d_De_comeTo_16 rfl (lv_at hl 0 rfl) ?_
    refine y_get (D := D) (ci := 4) (v := .int wk) (C := R_De) (T := F_De) (N := 11) hx hb hts in_De hown hK hP hd rfl 9 (by decide) (hts (.fieldLink R_De 177 "MemoryDesk" "walk" "I") (by decide +kernel)) (fun _ h9 => h9) rfl d_De_comeTo_17 ?_
    refine y_put (D := D) (ci := 1) (v := .int wk) (ty := .int) (C := R_It) (T := F_It) (N := 9) hx hb hts in_It t_It t_It_ok n_It hown hK hP hA hS hy rfl 7 (by decide) (hts (.fieldLink R_De 200 "MemoryDesk$Item" "walkSeen" "I") (by decide +kernel)) (fun _ h9 => h9) rfl (by decide +kernel) rfl rfl (Nat.le_of_ble_eq_true rfl) d_De_comeTo_20 (fun H locs hP hA hS => ?_)
    have hP : y_P D vwCl (va_up g y (some (e_item kx len wd cs tg kp nk wk np))) H := hP
    have hA : ∀ q99 e99, (va_up g y (some (e_item kx len wd cs tg kp nk wk np))) q99 = some e99 → A q99 := hA
    have hd1 : va_up g y (some (e_item kx len wd cs tg kp nk wk np)) d = some (e_desk ka sa lim mad kps tgs itv fk0 us wk pe) := by rw [va_up_ne _ _ hne]; exact hd
    refine lv_aload_n hx hb d_De_comeTo_23 rfl (lv_at hl 1 rfl) ?_
    refine lv_aload_n hx hb d_De_comeTo_24 rfl (lv_at hl 0 rfl) ?_
    refine y_get (D := D) (ci := 4) (v := va_rf pe) (C := R_De) (T := F_De) (N := 11) hx hb hts in_De hown hK hP hd1 rfl 10 (by decide) (hts (.fieldLink R_De 184 "MemoryDesk" "pending" "LMemoryDesk$Item;") (by decide +kernel)) (fun _ h9 => h9) rfl d_De_comeTo_25 ?_
    refine y_put (D := D) (ci := 1) (v := va_rf pe) (ty := .object "MemoryDesk$Item") (C := R_It) (T := F_It) (N := 9) hx hb hts in_It t_It t_It_ok n_It hown hK hP hA hS (va_up_self _ _ _) rfl 8 (by decide) (hts (.fieldLink R_De 187 "MemoryDesk$Item" "nextPending" "LMemoryDesk$Item;") (by decide +kernel)) (fun _ h9 => h9) rfl (by decide +kernel) (by rcases va_rf_or pe with h | ⟨z, h⟩ <;> rw [h] <;> rfl) (by rcases va_rf_or pe with h | ⟨z, h⟩ <;> rw [h] <;> rfl) (Nat.le_of_ble_eq_true rfl) d_De_comeTo_28 (fun H locs hP hA hS => ?_)
    rw [bx_uu] at hP hA
    have hP : y_P D vwCl (va_up g y (some (e_item kx len wd cs tg kp nk wk pe))) H := hP
    have hA : ∀ q99 e99, (va_up g y (some (e_item kx len wd cs tg kp nk wk pe))) q99 = some e99 → A q99 := hA
    have hd2 : va_up g y (some (e_item kx len wd cs tg kp nk wk pe)) d = some (e_desk ka sa lim mad kps tgs itv fk0 us wk pe) := by rw [va_up_ne _ _ hne]; exact hd
    refine lv_aload_n hx hb d_De_comeTo_31 rfl (lv_at hl 0 rfl) ?_
    refine lv_aload_n hx hb d_De_comeTo_32 rfl (lv_at hl 1 rfl) ?_
    refine y_put (D := D) (ci := 4) (v := .ref y) (ty := .object "MemoryDesk$Item") (C := R_De) (T := F_De) (N := 11) hx hb hts in_De t_De t_De_ok n_De hown hK hP hA hS hd2 rfl 10 (by decide) (hts (.fieldLink R_De 184 "MemoryDesk" "pending" "LMemoryDesk$Item;") (by decide +kernel)) (fun _ h9 => h9) rfl (by decide +kernel) rfl rfl (Nat.le_of_ble_eq_true rfl) d_De_comeTo_33 (fun H locs hP hA hS => ?_)
    have hP : y_P D vwCl (va_up (va_up g y (some (e_item kx len wd cs tg kp nk wk pe))) d (some (e_desk ka sa lim mad kps tgs itv fk0 us wk (some y)))) H := hP
    have hA : ∀ q99 e99, (va_up (va_up g y (some (e_item kx len wd cs tg kp nk wk pe))) d (some (e_desk ka sa lim mad kps tgs itv fk0 us wk (some y)))) q99 = some e99 → A q99 := hA
    refine W.widen (k := 0) (n := 0) (by first | decide | omega) (by first | decide | omega) ?_
    exact x_ret (W.vret hx hb hr (w_fin rfl hAe ⟨rfl, Or.inr ⟨h1, rfl⟩⟩ hP hA hS) hS.2.2 d_De_comeTo_36)
