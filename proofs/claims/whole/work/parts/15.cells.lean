/-! an object's cells; what a slot holds -/
section CCells
/-- a cell: its address, place, value, what it names -/
abbrev CL : Type := Nat × Int32 × Int64 × Option Nat
def c_hd : List CL → Option Nat
  | [] => none
  | q :: _ => some q.1
def c_ch (g : y_G) : List CL → Prop
  | [] => True
  | q :: r => g q.1 = some (e_cell q.2.1 (c_hd r) q.2.2.1 q.2.2.2) ∧ c_ch g r
def c_fd (k : Int32) : List CL → Option Nat
  | [] => none
  | q :: r => if q.2.1 = k then some q.1 else c_fd k r
abbrev x_tys (cK cI cN cZ cL : ClassId) : List (ClassId × FieldType) := [(cK, .object "MemoryDesk$Kind"), (cI, .object "MemoryDesk$Item"), (cN, .int), (cZ, .boolean), (cL, .long)]
theorem b_in.v32 {x : Int32} (h : b_in x 32) : vp_in x 32 := by
  rw [vp_in_iff]
  obtain ⟨h1, h2⟩ := h
  rw [Int32.lt_iff_toInt_lt] at h1 h2
  have e0 : (0 : Int32).toInt = 0 := rfl
  have e1 : (32 : Int32).toInt = 32 := rfl
  omega
theorem b_in.v16 {x : Int32} (h : b_in x 16) : vp_in x 16 := by
  rw [vp_in_iff]
  obtain ⟨h1, h2⟩ := h
  rw [Int32.lt_iff_toInt_lt] at h1 h2
  have e0 : (0 : Int32).toInt = 0 := rfl
  have e1 : (16 : Int32).toInt = 16 := rfl
  omega
end CCells
set_option maxHeartbeats 4000000 in
set_option maxRecDepth 100000 in
/-- find(place): the first cell of that place -/
theorem c_It_find (l : Launch) (D : va_G) (tys : List (ClassId × FieldType)) (g : y_G) (x : Nat) (k : Int32) (kx : Nat) (len wd tg kp : Int32) (nk : Option Nat) (sn : Int32) (np : Option Nat) (L : List CL) (h0 : g x = some (e_item kx len wd (c_hd L) tg kp nk sn np)) (hc : c_ch g L) : Met l y_It_find [.code y_It_find b_It_find 3 (some (.object "MemoryDesk$Cell"))] rmZ (w_Pp D tys [.ref x, .int k] g) (va_Sq (fun r => r = c_fd k L)) 0 0 (fun _ => False) := by
  refine Met.ofW (cc := b_It_find) (maxL := 3) (ret := (some (.object "MemoryDesk$Cell"))) (by decide) rfl ?_
  intro p e s m args below meth c s₁ B hml hv
  obtain ⟨rfl, hP, hV⟩ := hv
  have hts := hV.hts ([.ref x, .int k] : List Value).toArray
  have hK := hV.2.1
  have hx := B.exec
  have hb := B.bytes
  have hr := B.returns
  have hlocks := B.notSynchronized
  have hown : s.vm.findClass R_It = some m.cls := findClass_of_methodNamed B.named
  have hl := lv_entry ([.ref x, .int k]) (n := 3) (Nat.le_of_ble_eq_true rfl)
  rw [lg_entry_eq]
  generalize (lg_sl ([.ref x, .int k]) ++ List.replicate (3 - (lg_sl ([.ref x, .int k])).length) Slot.unset).toArray = ls at hl ⊢
  have hl : lv_has ls 3 [(0, .ref x), (1, .int k)] := hl
  generalize hQ : MQ below (va_Sq (fun r => r = c_fd k L)) ([.ref x, .int k] : List Value).toArray s 0 0 (fun _ => False) = QQ
  have loop : ∀ (L1 : List CL) (ls : Array Slot), lv_has ls 3 [(2, va_rf (c_hd L1)), (1, .int k), (0, .ref x)] → c_ch g L1 → c_fd k L = c_fd k L1 → W p l e rmZ s m ([.ref x, .int k] : List Value).toArray below meth c s.heap [] 0 0 QQ (F0 m 5 ls []) := by
    intro L1
    induction L1 with
    | nil =>
      intro ls hl _ hf
      have hl : lv_has ls 3 [(2, .null), (1, .int k), (0, .ref x)] := hl
      refine lv_aload_nN hx hb d_It_find_5 rfl (lv_at hl 0 rfl) ?_
      refine lv_ifnullN hx hb d_It_find_6 rfl ?_
      refine lv_null hx hb d_It_find_27 ?_
      rw [← hQ]
      exact W.aret (v := .null) hx hb hr (Or.inl ⟨_, rfl⟩) (Or.inl rfl) (fun t ht _ => ⟨none, rfl, hf.symm, ht⟩) (fun q h => nomatch h) d_It_find_28
    | cons q r ih =>
      obtain ⟨y, k1, v1, nm1⟩ := q
      intro ls hl hch hf
      obtain ⟨hy, hch⟩ := hch
      have hy : g y = some (e_cell k1 (c_hd r) v1 nm1) := hy
      have hl : lv_has ls 3 [(2, .ref y), (1, .int k), (0, .ref x)] := hl
      refine lv_aload_n hx hb d_It_find_5 rfl (lv_at hl 0 rfl) ?_
      refine lv_ifnull hx hb d_It_find_6 ?_
      refine lv_aload_n hx hb d_It_find_9 rfl (lv_at hl 0 rfl) ?_
      refine y_get (D := D) (ci := 0) (v := .int k1) (C := R_Ce) (T := F_Ce) (N := 4) hx hb hts in_Ce hown hK hP hy rfl 0 (by decide) (hts (.fieldLink R_It 24 "MemoryDesk$Cell" "place" "I") (by decide +kernel)) (fun _ h9 => h9) rfl d_It_find_10 ?_
      refine lv_iload_n hx hb d_It_find_13 rfl (lv_at hl 1 rfl) ?_
      refine lv_icmp_ne hx hb d_It_find_14 rfl (fun h1 => ?_) (fun h1 => ?_)
      · -- if_icmpne at 14: to 19
        refine lv_aload_n hx hb d_It_find_19 rfl (lv_at hl 0 rfl) ?_
        refine y_get (D := D) (ci := 0) (v := va_rf (c_hd r)) (C := R_Ce) (T := F_Ce) (N := 4) hx hb hts in_Ce hown hK hP hy rfl 1 (by decide) (hts (.fieldLink R_It 29 "MemoryDesk$Cell" "next" "LMemoryDesk$Cell;") (by decide +kernel)) (fun _ h9 => h9) rfl d_It_find_20 ?_
        have hf : c_fd k L = c_fd k r := hf.trans (if_neg h1)
        cases r with
        | nil =>
          refine lv_astore_nN hx hb d_It_find_23 rfl hl (by decide) rfl (fun ls hl => ?_)
          have hl : lv_has ls 3 [(2, .null), (1, .int k), (0, .ref x)] := hl
          refine lv_goto hx hb d_It_find_24 rfl ?_
          exact ih ls hl hch hf
        | cons q2 r2 =>
          refine lv_astore_n hx hb d_It_find_23 rfl hl (by decide) rfl (fun ls hl => ?_)
          have hl : lv_has ls 3 [(2, .ref q2.1), (1, .int k), (0, .ref x)] := hl
          refine lv_goto hx hb d_It_find_24 rfl ?_
          exact ih ls hl hch hf
      · -- if_icmpne at 14: to 17
        refine lv_aload_n hx hb d_It_find_17 rfl (lv_at hl 0 rfl) ?_
        rw [← hQ]
        exact W.aret (v := .ref y) hx hb hr (Or.inl ⟨_, rfl⟩) (Or.inr ⟨_, rfl⟩) (fun t ht _ => ⟨some y, rfl, (hf.trans (if_pos h1)).symm, ht⟩) (fun q h => nomatch h) d_It_find_18
  refine lv_aload_n hx hb d_It_find_0 rfl (lv_at hl 0 rfl) ?_
  refine y_get (D := D) (ci := 1) (v := va_rf (c_hd L)) (C := R_It) (T := F_It) (N := 9) hx hb hts in_It hown hK hP h0 rfl 3 (by decide) (hts (.fieldLink R_It 20 "MemoryDesk$Item" "cells" "LMemoryDesk$Cell;") (by decide +kernel)) (fun _ h9 => h9) rfl d_It_find_1 ?_
  cases L with
  | nil =>
    refine lv_astore_nN hx hb d_It_find_4 rfl hl (by decide) rfl (fun ls hl => ?_)
    have hl : lv_has ls 3 [(2, .null), (0, .ref x), (1, .int k)] := hl
    have hl : lv_has ls 3 [(2, .null), (1, .int k), (0, .ref x)] := lv_sub hl [0, 2, 1] rfl
    exact loop [] ls hl hc rfl
  | cons q r =>
    refine lv_astore_n hx hb d_It_find_4 rfl hl (by decide) rfl (fun ls hl => ?_)
    have hl : lv_has ls 3 [(2, .ref q.1), (0, .ref x), (1, .int k)] := hl
    have hl : lv_has ls 3 [(2, .ref q.1), (1, .int k), (0, .ref x)] := lv_sub hl [0, 2, 1] rfl
    exact loop (q :: r) ls hl hc rfl
set_option maxHeartbeats 4000000 in
set_option maxRecDepth 100000 in
/-- held(s): what the slot holds -/
theorem c_De_held (l : Launch) (hst : l.stackTraces = false) (D : va_G) (cK cI cN cZ cL : ClassId) (g : y_G) (sz : Nat) (d ka sa : Nat) (lim mad kps tgs itv : Int32) (fk0 : Option Nat) (us wk : Int32) (pe : Option Nat) (sv : Int32) (fs : Nat → Option Nat) (hd : g d = some (e_desk ka sa lim mad kps tgs itv fk0 us wk pe)) (hsa : g sa = some (e_refs cI 32 fs)) (hin : b_in sv 32) : x_M l y_De_held [.code y_De_held b_De_held 3 (some (.object "MemoryDesk$Item"))] rmT (w_Pc D (x_tys cK cI cN cZ cL) [.ref d, .int sv] g sz) (w_Qc D g sz (fun r g9 => g9 = g ∧ ((∃ q, fs sv.toNatClampNeg = some q ∧ r = .inl (some (.ref q))) ∨ (fs sv.toNatClampNeg = none ∧ r = .inr xISE)))) 1 6 (y_A g sz) := by
  refine x_ofW (cc := b_De_held) (maxL := 3) (ret := (some (.object "MemoryDesk$Item"))) (by decide) rfl ?_
  intro p e s m args below meth c s₁ B hml hno hv
  obtain ⟨rfl, hsz, hP, hE⟩ := hv
  subst hsz
  have hts := hE.hts ([.ref d, .int sv] : List Value).toArray
  have hK := hE.1.2.1
  have hA0 : ∀ q, s.heap.size ≤ q → y_A g s.heap.size q := fun q h => Or.inr h
  have hA : ∀ q e, g q = some e → y_A g s.heap.size q := fun q e h => Or.inl (by rw [h]; exact fun z => nomatch z)
  have hS : va_S (y_A g s.heap.size) s.heap s.heap [] := va_S.rf
  generalize hAe : y_A g s.heap.size = A at hE hA0 hA hS ⊢
  have hx := B.exec
  have hb := B.bytes
  have hr := B.returns
  have hlocks := B.notSynchronized
  have hown : s.vm.findClass R_De = some m.cls := findClass_of_methodNamed B.named
  have hl := lv_entry ([.ref d, .int sv]) (n := 3) (Nat.le_of_ble_eq_true rfl)
  rw [lg_entry_eq]
  generalize (lg_sl ([.ref d, .int sv]) ++ List.replicate (3 - (lg_sl ([.ref d, .int sv])).length) Slot.unset).toArray = ls at hl ⊢
  have hl : lv_has ls 3 [(0, .ref d), (1, .int sv)] := hl
  refine lv_aload_n hx hb d_De_held_0 rfl (lv_at hl 0 rfl) ?_
  refine y_get (D := D) (ci := 4) (v := .ref sa) (C := R_De) (T := F_De) (N := 11) hx hb hts in_De hown hK hP hd rfl 1 (by decide) (hts (.fieldLink R_De 17 "MemoryDesk" "slots" "[LMemoryDesk$Item;") (by decide +kernel)) (fun _ h9 => h9) rfl d_De_held_1 ?_
  refine lv_iload_n hx hb d_De_held_4 rfl (lv_at hl 1 rfl) ?_
  refine y_aldq hx hb hK hP 1 hsa rfl hin.v32 d_De_held_5 ?_
  obtain ⟨o_q, hq⟩ : ∃ z, (fs sv.toNatClampNeg) = z := ⟨_, rfl⟩
  refine W.eq (g2 := F0 m 6 ls [va_rf o_q]) (congrArg (fun z => F0 m 6 ls [va_rf z]) hq) ?_
  cases o_q with
  | none =>
    refine lv_astore_nN hx hb d_De_held_6 rfl hl (by decide) rfl (fun ls hl => ?_)
    have hl : lv_has ls 3 [(2, .null), (0, .ref d), (1, .int sv)] := hl
    refine lv_aload_nN hx hb d_De_held_7 rfl (lv_at hl 0 rfl) ?_
    refine lv_ifnonnullN hx hb d_De_held_8 ?_
    obtain ⟨sa, hstr⟩ := hE.1.2.2.2.1 (160, "the slot holds none") (by decide)
    refine W.widen (k := 1 - 1) (n := 6 - 6) (by first | decide | omega) (by first | decide | omega) ?_
    exact x_throw (A := A) (cls := "java/lang/IllegalStateException") (names := ["java/lang/RuntimeException", "java/lang/Exception"]) hx hb hst hown (by decide) (by decide) (hts (.classLink R_De 65 "java/lang/IllegalStateException") (by decide +kernel)) (hts (.initialized "java/lang/IllegalStateException") (by decide +kernel)) hstr (fun w hw ho => hE.1.at _ ho (at_ISE w hw ho)) nt_ISE hE.2.1 hE.2.2.1 hS (hl.1.trans hml.symm) d_De_held_11 d_De_held_14 d_De_held_15 d_De_held_17 d_De_held_20 (hno 20) (by decide) (by decide) (by decide) (by decide) hlocks (w_thr rfl hAe ⟨rfl, Or.inr ⟨hq, rfl⟩⟩ hP hA hS) hS.2.2
  | some q =>
    refine lv_astore_n hx hb d_De_held_6 rfl hl (by decide) rfl (fun ls hl => ?_)
    have hl : lv_has ls 3 [(2, .ref q), (0, .ref d), (1, .int sv)] := hl
    refine lv_aload_n hx hb d_De_held_7 rfl (lv_at hl 0 rfl) ?_
    refine lv_ifnonnull hx hb d_De_held_8 rfl ?_
    refine lv_aload_n hx hb d_De_held_21 rfl (lv_at hl 0 rfl) ?_
    refine W.widen (k := 1) (n := 6) (by first | decide | omega) (by first | decide | omega) ?_
    exact x_ret (W.aret (v := .ref q) hx hb hr (Or.inl ⟨_, rfl⟩) (Or.inr ⟨_, rfl⟩) (w_fin rfl hAe ⟨rfl, Or.inl ⟨q, hq, rfl⟩⟩ hP hA hS) hS.2.2 d_De_held_22)
abbrev rmU : Room := { frames := 7, cells := 2, slots := 12, locals := 130 }
set_option maxHeartbeats 4000000 in
set_option maxRecDepth 100000 in
/-- checkUndefined(k) -/
theorem c_De_checkUndefined (l : Launch) (hst : l.stackTraces = false) (D : va_G) (cK cI cN cZ cL : ClassId) (g : y_G) (sz : Nat) (d ka sa : Nat) (lim mad kps tgs itv : Int32) (fk0 : Option Nat) (us wk : Int32) (pe : Option Nat) (sv : Int32) (fk : Nat → Option Nat) (hd : g d = some (e_desk ka sa lim mad kps tgs itv fk0 us wk pe)) (hka : g ka = some (e_refs cK 16 fk)) : x_M l y_De_checkUndefined [.code y_De_checkUndefined b_De_checkUndefined 2 none] rmU (w_Pc D (x_tys cK cI cN cZ cL) [.ref d, .int sv] g sz) (w_Qc D g sz (fun r g9 => g9 = g ∧ ((r = .inl none ∧ b_in sv 16 ∧ fk sv.toNatClampNeg = none) ∨ (r = .inr xIAE ∧ ¬ (b_in sv 16 ∧ fk sv.toNatClampNeg = none))))) 2 12 (y_A g sz) := by
  refine x_ofW (cc := b_De_checkUndefined) (maxL := 2) (ret := none) (by decide) rfl ?_
  intro p e s m args below meth c s₁ B hml hno hv
  obtain ⟨rfl, hsz, hP, hE⟩ := hv
  subst hsz
  have hts := hE.hts ([.ref d, .int sv] : List Value).toArray
  have hK := hE.1.2.1
  have hA0 : ∀ q, s.heap.size ≤ q → y_A g s.heap.size q := fun q h => Or.inr h
  have hA : ∀ q e, g q = some e → y_A g s.heap.size q := fun q e h => Or.inl (by rw [h]; exact fun z => nomatch z)
  have hS : va_S (y_A g s.heap.size) s.heap s.heap [] := va_S.rf
  generalize hAe : y_A g s.heap.size = A at hE hA0 hA hS ⊢
  have hx := B.exec
  have hb := B.bytes
  have hr := B.returns
  have hlocks := B.notSynchronized
  have hown : s.vm.findClass R_De = some m.cls := findClass_of_methodNamed B.named
  have hl := lv_entry ([.ref d, .int sv]) (n := 2) (Nat.le_of_ble_eq_true rfl)
  rw [lg_entry_eq]
  generalize (lg_sl ([.ref d, .int sv]) ++ List.replicate (2 - (lg_sl ([.ref d, .int sv])).length) Slot.unset).toArray = ls at hl ⊢
  have hl : lv_has ls 2 [(0, .ref d), (1, .int sv)] := hl
  refine lv_iload_n hx hb d_De_checkUndefined_0 rfl (lv_at hl 1 rfl) ?_
  refine w_callS (As := [.int sv]) ⟨hx, hb, hml, hown, hts⟩ (c_De_checkKind l hst D _ g s.heap.size sv) (x_cb (va_cwS (own := R_De) (index := 56) 1 hts (x_gi (by decide +kernel)) rfl rfl rfl (by decide +kernel) ⟨by decide, by decide⟩).1) (hts (.static y_De_checkKind) (by decide +kernel)) hE hP hA hA0 hS rfl hl.1 rfl (lv_room (Nat.le_of_ble_eq_true rfl)) d_De_checkUndefined_1 (by first | decide | omega) (by first | decide | omega) (fun v9 g9 H locs hq9 hP hA hS => ?_) (fun E9 q9 ce9 g9 H locs hq9 hP hA hS z1 z2 z3 => ?_)
  · skip
    obtain ⟨hg9, hq9⟩ := hq9
    rw [hg9] at hP hA
    rcases hq9 with ⟨hv9, hin⟩ | ⟨hv9, -⟩
    · cases hv9
      refine W.eq (g2 := F0 m 4 ls []) rfl ?_
      refine lv_aload_n hx hb d_De_checkUndefined_4 rfl (lv_at hl 0 rfl) ?_
      refine y_get (D := D) (ci := 4) (v := .ref ka) (C := R_De) (T := F_De) (N := 11) hx hb hts in_De hown hK hP hd rfl 0 (by decide) (hts (.fieldLink R_De 11 "MemoryDesk" "kinds" "[LMemoryDesk$Kind;") (by decide +kernel)) (fun _ h9 => h9) rfl d_De_checkUndefined_5 ?_
      refine lv_iload_n hx hb d_De_checkUndefined_8 rfl (lv_at hl 1 rfl) ?_
      refine y_aldq hx hb hK hP 0 hka rfl hin.v16 d_De_checkUndefined_9 ?_
      obtain ⟨o_q, hq⟩ : ∃ z, (fk sv.toNatClampNeg) = z := ⟨_, rfl⟩
      refine W.eq (g2 := F0 m 10 ls [va_rf o_q]) (congrArg (fun z => F0 m 10 ls [va_rf z]) hq) ?_
      cases o_q with
      | none =>
        refine lv_ifnullN hx hb d_De_checkUndefined_10 rfl ?_
        refine W.widen (k := 2) (n := 12) (by first | decide | omega) (by first | decide | omega) ?_
        exact x_ret (W.vret hx hb hr (w_fin rfl hAe ⟨rfl, Or.inl ⟨rfl, hin, hq⟩⟩ hP hA hS) hS.2.2 d_De_checkUndefined_23)
      | some q =>
        refine lv_ifnull hx hb d_De_checkUndefined_10 ?_
        obtain ⟨sa, hstr⟩ := hE.1.2.2.2.1 (158, "the kind is defined already") (by decide)
        refine W.widen (k := 2 - 1) (n := 12 - 6) (by first | decide | omega) (by first | decide | omega) ?_
        exact x_throw (A := A) (cls := "java/lang/IllegalArgumentException") (names := ["java/lang/RuntimeException", "java/lang/Exception"]) hx hb hst hown (by decide) (by decide) (hts (.classLink R_De 30 "java/lang/IllegalArgumentException") (by decide +kernel)) (hts (.initialized "java/lang/IllegalArgumentException") (by decide +kernel)) hstr (fun w hw ho => hE.1.at _ ho (at_IAE w hw ho)) nt_IAE hE.2.1 hE.2.2.1 hS (hl.1.trans hml.symm) d_De_checkUndefined_13 d_De_checkUndefined_16 d_De_checkUndefined_17 d_De_checkUndefined_19 d_De_checkUndefined_22 (hno 22) (by decide) (by decide) (by decide) (by decide) hlocks (w_thr rfl hAe ⟨rfl, Or.inr ⟨rfl, fun z => by rw [hq] at z; exact nomatch z.2⟩⟩ hP hA hS) hS.2.2
    · cases hv9
  · skip
    obtain ⟨hg9, hq9⟩ := hq9
    rw [hg9] at hP hA
    rcases hq9 with ⟨hv9, -⟩ | ⟨hv9, hin⟩
    · cases hv9
    · cases hv9
      refine x_W.widen (k := 2) (n := 12) (by first | decide | omega) (by first | decide | omega) ?_
      exact x_leave (hno 1) hlocks (w_lea rfl hAe ⟨rfl, Or.inr ⟨rfl, fun z => hin z.1⟩⟩ hP hA hS z1 z2 z3) hS.2.2
