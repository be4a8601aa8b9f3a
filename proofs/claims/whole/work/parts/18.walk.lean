/-! clearAway: the walk -/
section CWalk
theorem c_ch.suffix {g : y_G} : ∀ {pre L : List CL}, c_ch g (pre ++ L) → c_ch g L
  | [], _, h => h
  | _ :: r, _, h => c_ch.suffix (pre := r) h.2
theorem c_nx.mid {o : Nat} {r : List Nat} : ∀ {pre : List Nat}, (pre ++ o :: r).Nodup → c_nx (pre ++ o :: r) o = r.head?
  | [], _ => if_pos rfl
  | x :: t, h => by
    have h1 := List.nodup_cons.mp h
    have hne : x ≠ o := fun z => h1.1 (by rw [z]; exact List.mem_append_right _ List.mem_cons_self)
    show (if x = o then _ else c_nx (t ++ o :: r) o) = _
    rw [if_neg hne]
    exact c_nx.mid h1.2
theorem c_eds {a : Ab} {ad : Nat → Nat} {o y : Nat} {L : List CL} {q : CL} (h1 : 1 ≤ o) (h2 : o ≤ a.n) (h : c_okL a ad o L) (hq : q ∈ L) (hy : q.2.2.2 = some y) : ∃ b, 1 ≤ b ∧ b ≤ a.n ∧ y = ad b ∧ a_ed a o b := by
  obtain ⟨g1, g2⟩ := h.1 q hq
  by_cases hr : a_ref a o q.2.1
  · rcases g2 hr with ⟨-, z⟩ | ⟨b, b1, b2, b3, b4⟩
    · rw [z] at hy; cases hy
    · rw [b4] at hy; cases hy
      exact ⟨b, b1, b2, rfl, h1, h2, b1, b2, q.2.1, hr, b3⟩
  · rw [(g1 hr).2] at hy; cases hy
theorem c_edc {a : Ab} {ad : Nat → Nat} {o b cn : Nat} {L : List CL} (hw : a_W a cn) (hcn : cn < 2 ^ 30) (h : c_okL a ad o L) (he : a_ed a o b) : ∃ q, q ∈ L ∧ q.2.2.2 = some (ad b) := by
  obtain ⟨h1, h2, b1, b2, k, hr, hc⟩ := he
  have hn : a.n ≤ cn := hw.2.2.2.2.2.2.2.2.2.1
  by_cases hk : ∀ q, q ∈ L → q.2.1 ≠ k
  · have z := h.2.2 k hk
    rw [hc] at z
    have z0 : b = 0 := (lN_eq (by omega) (by decide)).mp z
    omega
  · obtain ⟨q, hq⟩ : ∃ q, q ∈ L ∧ q.2.1 = k := by
      apply Classical.byContradiction
      intro z
      exact hk (fun q hq e => z ⟨q, hq, e⟩)
    obtain ⟨g1, g2⟩ := h.1 q hq.1
    rw [hq.2] at g2
    rcases g2 hr with ⟨z, -⟩ | ⟨b', c1, c2, c3, c4⟩
    · rw [hc] at z
      have z0 : b = 0 := (lN_eq (by omega) (by decide)).mp z
      omega
    · rw [hc] at c3
      have e : b = b' := (lN_eq (by omega) (by omega)).mp c3
      exact ⟨q, hq.1, by rw [e]; exact c4⟩
theorem c_upS {α : Type} (f : Nat → α) (k : Nat) : va_up f k (f k) = f := by
  funext q
  by_cases h : q = k
  · rw [h, va_up_self]
  · rw [va_up_ne _ _ h]
abbrev rmW : Room := { frames := 1, cells := 0, slots := 0, locals := 30 }
end CWalk
set_option maxHeartbeats 8000000 in
set_option maxRecDepth 100000 in
/-- clearAway(): what is used is what can be come to -/
theorem c_De_clearAway (l : Launch) (D : va_G) (cK cI cN cZ cL : ClassId) (g : y_G) (sz : Nat) (a : Ab) (cn : Nat) (d ka sa : Nat) (fk fs : Nat → Option Nat) (ad : Nat → Nat) (cs : Nat → List CL) (ks : List Nat) (itv us : Int32) (wk : Nat) (sn : Nat → Nat) (np : Nat → Option Nat) (hw : a_W a cn) (hcn : cn < 2 ^ 30)
    (hC : c_S a g d ka sa cK cI fk fs ad cs ks itv us wk sn np none) (hsn : ∀ o, 1 ≤ o → o ≤ a.n → sn o ≤ wk) (hwk : wk < 2 ^ 30) :
    x_M l y_De_clearAway [.code y_De_clearAway b_De_clearAway 4 none] rmW (w_Pc D (x_tys cK cI cN cZ cL) [.ref d] g sz) (w_Qc D g sz (fun r g9 => r = .inl none ∧ ∃ sn1 np1, c_S a g9 d ka sa cK cI fk fs ad cs ks itv (nI (a_use a)) (wk + 1) sn1 np1 none ∧ ∀ o, 1 ≤ o → o ≤ a.n → sn1 o ≤ wk + 1)) 0 0 (y_A g sz) := by
  refine x_ofW (cc := b_De_clearAway) (maxL := 4) (ret := none) (by decide) rfl ?_
  intro p e s m args below meth c s₁ B hml hno hv
  obtain ⟨rfl, hsz, hP, hE⟩ := hv
  subst hsz
  have hts := hE.hts ([.ref d] : List Value).toArray
  have hK := hE.1.2.1
  have hA0 : ∀ q, s.heap.size ≤ q → y_A g s.heap.size q := fun q h => Or.inr h
  have hA : ∀ q e, g q = some e → y_A g s.heap.size q := fun q e h => Or.inl (by rw [h]; exact fun z => nomatch z)
  have hS : va_S (y_A g s.heap.size) s.heap s.heap [] := va_S.rf
  generalize hAe : y_A g s.heap.size = A at hE hA0 hA hS ⊢
  have hx := B.exec
  have hb := B.bytes
  have hr := B.returns
  have hlocks := B.notSynchronized
  have hown : s.vm.findClass R_De = some m.cls := findClass_of_methodNamed B.named
  have hl := lv_entry ([.ref d]) (n := 4) (Nat.le_of_ble_eq_true rfl)
  rw [lg_entry_eq]
  generalize (lg_sl ([.ref d]) ++ List.replicate (4 - (lg_sl ([.ref d])).length) Slot.unset).toArray = ls at hl ⊢
  have hl : lv_has ls 4 [(0, .ref d)] := hl
  obtain ⟨QQ, hQ⟩ : ∃ z, z = x_Q below (w_Qc D g s.heap.size (fun r g9 => r = .inl none ∧ ∃ sn1 np1, c_S a g9 d ka sa cK cI fk fs ad cs ks itv (nI (a_use a)) (wk + 1) sn1 np1 none ∧ ∀ o, 1 ≤ o → o ≤ a.n → sn1 o ≤ wk + 1)) ([.ref d] : List Value).toArray s 0 0 A := ⟨_, rfl⟩
  rw [← hQ]
  have hn : a.n ≤ cn := hw.2.2.2.2.2.2.2.2.2.1
  have visit : ∀ (pc : Nat) (ls : Array Slot) (H : Heap) (locs : List Loc) (g : y_G) (us : Int32) (sn : Nat → Nat) (np : Nat → Option Nat) (ps : List Nat) (o : Nat) (r : Option Nat) (rop : Nat → Prop) (op : Nat → Nat → Prop), decode b_De_clearAway pc = .ok (.invokevirtual 180, 3) → ls.size = 4 → y_P D vwCl g H → (∀ q99 e99, g q99 = some e99 → A q99) → va_S A s.heap H locs → c_J a g d ka sa cK cI fk fs ad cs ks itv us (wk + 1) sn np ps → z_I (a_root a) (a_ed a) a.n (c_sn a sn (wk + 1)) ps rop op → o ≤ a.n → r = c_ob ad o → (o ≠ 0 → a_R a o) →
      (∀ (H : Heap) (locs : List Loc) (g : y_G) (sn1 : Nat → Nat) (np1 : Nat → Option Nat) (ps1 : List Nat), y_P D vwCl g H → (∀ q99 e99, g q99 = some e99 → A q99) → va_S A s.heap H locs → c_J a g d ka sa cK cI fk fs ad cs ks itv us (wk + 1) sn1 np1 ps1 → z_I (a_root a) (a_ed a) a.n (c_sn a sn1 (wk + 1)) ps1 rop op → (o ≠ 0 → c_sn a sn1 (wk + 1) o) → (∀ z, c_sn a sn (wk + 1) z → c_sn a sn1 (wk + 1) z) → (∀ w, z_sum w (fun z => c_sn a sn1 (wk + 1) z ∧ z ∉ ps1) a.n = z_sum w (fun z => c_sn a sn (wk + 1) z ∧ z ∉ ps) a.n) → W p l e rmW s m ([.ref d] : List Value).toArray below meth c H locs 0 0 QQ (F0 m (pc + 3) ls [])) →
      W p l e rmW s m ([.ref d] : List Value).toArray below meth c H locs 0 0 QQ (F0 m pc ls [va_rf r, .ref d]) := by
    intro pc ls H locs g us sn np ps o r rop op hdec hsz hP hA hS hJ hI ho hr hR kk
    by_cases h0 : o = 0
    · subst h0
      rw [hr]
      show W p l e rmW s m ([.ref d] : List Value).toArray below meth c H locs 0 0 QQ (F0 m pc ls [.null, .ref d])
      refine w_callV (As := [.null]) (C := R_De) ⟨hx, hb, hml, hown, hts⟩ (c_De_comeToN l D _ g H.size d) (x_cb (cwV (own := R_De) (index := 180) (C := R_De) 1 hts (x_gi (by decide +kernel)) rfl rfl rfl (by decide +kernel) ⟨by decide, by decide⟩).1) (hts (.instanceMethod y_De_comeTo) (by decide +kernel)) (hts (.selects R_De y_De_comeTo y_De_comeTo) (by decide +kernel)) (y_recv (ci := 4) (q := (R_De, F_De, 11)) hK hP rfl hJ.1.1.1) hE hP hA hA0 hS rfl hsz rfl (lv_room (Nat.le_of_ble_eq_true rfl)) hdec (by decide) (by decide) (fun v9 g9 H locs hq9 hP hA hS => ?_) (fun E9 q9 ce9 g9 H locs hq9 hP hA hS z1 z2 z3 => nomatch hq9.1)
      obtain ⟨hv9, hg9⟩ := hq9
      cases hv9
      rw [hg9] at hP hA
      exact kk H locs g sn np ps hP hA hS hJ hI (fun z => absurd rfl z) (fun _ z => z) (fun _ => rfl)
    · have h1 : 1 ≤ o := by omega
      obtain ⟨x, hx9, hg⟩ := hJ.1.2.2.2.1 o h1 ho
      have hr : r = some (ad o) := hr.trans (if_neg h0)
      rw [hr]
      show W p l e rmW s m ([.ref d] : List Value).toArray below meth c H locs 0 0 QQ (F0 m pc ls [.ref (ad o), .ref d])
      refine w_callV (As := [.ref (ad o)]) (C := R_De) ⟨hx, hb, hml, hown, hts⟩ (c_De_comeToR l D _ g H.size d ka sa _ _ _ _ itv _ us (nI (wk + 1)) _ (ad o) x _ _ _ _ _ (nI (sn o)) (np o) _ hJ.1.1.1 hg) (x_cb (cwV (own := R_De) (index := 180) (C := R_De) 1 hts (x_gi (by decide +kernel)) rfl rfl rfl (by decide +kernel) ⟨by decide, by decide⟩).1) (hts (.instanceMethod y_De_comeTo) (by decide +kernel)) (hts (.selects R_De y_De_comeTo y_De_comeTo) (by decide +kernel)) (y_recv (ci := 4) (q := (R_De, F_De, 11)) hK hP rfl hJ.1.1.1) hE hP hA hA0 hS rfl hsz rfl (lv_room (Nat.le_of_ble_eq_true rfl)) hdec (by decide) (by decide) (fun v9 g9 H locs hq9 hP hA hS => ?_) (fun E9 q9 ce9 g9 H locs hq9 hP hA hS z1 z2 z3 => nomatch hq9.1)
      obtain ⟨hv9, hg9⟩ := hq9
      cases hv9
      have hso := hJ.2.1 o h1 ho
      rcases hg9 with ⟨hs, hg9⟩ | ⟨hs, hg9⟩
      · rw [hg9] at hP hA
        have hs2 : sn o = wk + 1 := (nI_eq (by omega) (by omega)).mp hs
        exact kk H locs g sn np ps hP hA hS hJ hI (fun _ => ⟨h1, ho, hs2⟩) (fun _ z => z) (fun _ => rfl)
      · rw [hg9] at hP hA
        have hs2 : ¬ c_sn a sn (wk + 1) o := fun z => hs (by rw [z.2.2])
        have hop : o ∉ ps := fun z => hs2 (hI.2.1 o z)
        obtain ⟨i1, i2⟩ := hI.visit h1 ho (hR h0) hs2
        have hup : c_sn a (va_up sn o (wk + 1)) (wk + 1) = fun z => c_sn a sn (wk + 1) z ∨ z = o := c_sn.up h1 ho
        refine kk H locs _ (va_up sn o (wk + 1)) _ (o :: ps) hP hA hS (hJ.visit h1 ho hx9 hop) (by rw [hup]; exact i1) (fun _ => by rw [hup]; exact Or.inr rfl) (fun z hz => by rw [hup]; exact Or.inl hz) (fun w => by rw [hup]; exact i2 w)
  have fin : ∀ (ls : Array Slot) (H : Heap) (locs : List Loc) (g : y_G) (us : Int32) (sn : Nat → Nat) (np : Nat → Option Nat), y_P D vwCl g H → (∀ q99 e99, g q99 = some e99 → A q99) → va_S A s.heap H locs → c_J a g d ka sa cK cI fk fs ad cs ks itv us (wk + 1) sn np [] → z_I (a_root a) (a_ed a) a.n (c_sn a sn (wk + 1)) [] (fun _ => False) (fun _ _ => False) → us = nI (z_sum (a_wd a) (fun z => c_sn a sn (wk + 1) z ∧ z ∉ []) a.n) → W p l e rmW s m ([.ref d] : List Value).toArray below meth c H locs 0 0 QQ (F0 m 140 ls []) := by
    intro ls H locs g us sn np hP hA hS hJ hI hus
    have hsum : z_sum (a_wd a) (fun z => c_sn a sn (wk + 1) z ∧ z ∉ []) a.n = a_use a := z_congr (fun o _ _ => ⟨fun z => (hI.done o).mp z.1, fun z => ⟨(hI.done o).mpr z, List.not_mem_nil⟩⟩) (fun _ _ _ _ => rfl)
    rw [hsum] at hus
    subst hus
    rw [hQ]
    exact x_ret (W.vret hx hb hr (w_fin rfl hAe ⟨rfl, sn, np, hJ.1, hJ.2.1⟩ hP hA hS) hS.2.2 d_De_clearAway_140)
  have loopP : ∀ (f i : Nat) (ls : Array Slot) (H : Heap) (locs : List Loc) (g : y_G) (us : Int32) (sn : Nat → Nat) (np : Nat → Option Nat) (ps : List Nat), lv_has ls 4 [(1, .int (nI i)), (0, .ref d)] → y_P D vwCl g H → (∀ q99 e99, g q99 = some e99 → A q99) → va_S A s.heap H locs → c_J a g d ka sa cK cI fk fs ad cs ks itv us (wk + 1) sn np ps → z_I (a_root a) (a_ed a) a.n (c_sn a sn (wk + 1)) ps (fun _ => False) (fun _ _ => False) → us = nI (z_sum (a_wd a) (fun z => c_sn a sn (wk + 1) z ∧ z ∉ ps) a.n) → i = z_sum (fun _ => 1) (fun z => c_sn a sn (wk + 1) z ∧ z ∉ ps) a.n → a.n ≤ i + f → W p l e rmW s m ([.ref d] : List Value).toArray below meth c H locs 0 0 QQ (F0 m 63 ls []) := by
    intro f
    induction f with
    | zero =>
      intro i ls H locs g us sn np ps hl hP hA hS hJ hI hus hi hf
      have hroom := hI.room
      rw [← hi] at hroom
      refine lv_iload_n hx hb d_De_clearAway_63 rfl (lv_at hl 0 rfl) ?_
      refine lv_aload_n hx hb d_De_clearAway_64 rfl (lv_at hl 1 rfl) ?_
      refine y_get (D := D) (ci := 4) (v := .int (nI a.n)) (C := R_De) (T := F_De) (N := 11) hx hb hts in_De hown hK hP hJ.1.1.1 rfl 3 (by decide) (hts (.fieldLink R_De 85 "MemoryDesk" "made" "I") (by decide +kernel)) (fun _ h9 => h9) rfl d_De_clearAway_65 ?_
      refine lv_icmp_ge hx hb d_De_clearAway_68 rfl (fun h1 => ?_) (fun h1 => (absurd ((nI_leI (by omega) (by omega)).mpr (show a.n ≤ i by omega)) h1))
      have h9 : a.n ≤ i := (nI_leI (by omega) (by omega)).mp h1
      have hp0 : ps = [] := List.eq_nil_of_length_eq_zero (by omega)
      subst hp0
      exact fin ls H locs g us sn np hP hA hS hJ hI hus
    | succ f ih =>
      intro i ls H locs g us sn np ps hl hP hA hS hJ hI hus hi hf
      have hroom := hI.room
      rw [← hi] at hroom
      refine lv_iload_n hx hb d_De_clearAway_63 rfl (lv_at hl 0 rfl) ?_
      refine lv_aload_n hx hb d_De_clearAway_64 rfl (lv_at hl 1 rfl) ?_
      refine y_get (D := D) (ci := 4) (v := .int (nI a.n)) (C := R_De) (T := F_De) (N := 11) hx hb hts in_De hown hK hP hJ.1.1.1 rfl 3 (by decide) (hts (.fieldLink R_De 85 "MemoryDesk" "made" "I") (by decide +kernel)) (fun _ h9 => h9) rfl d_De_clearAway_65 ?_
      refine lv_icmp_ge hx hb d_De_clearAway_68 rfl (fun h2 => ?_) (fun h2 => ?_)
      · -- if_icmpge at 68: to 140
        have h9 : a.n ≤ i := (nI_leI (by omega) (by omega)).mp h2
        have hp0 : ps = [] := List.eq_nil_of_length_eq_zero (by omega)
        subst hp0
        exact fin ls H locs g us sn np hP hA hS hJ hI hus
      · -- if_icmpge at 68: to 71
        refine lv_aload_n hx hb d_De_clearAway_71 rfl (lv_at hl 1 rfl) ?_
        refine y_get (D := D) (ci := 4) (v := va_rf (ps.head?.map ad)) (C := R_De) (T := F_De) (N := 11) hx hb hts in_De hown hK hP hJ.1.1.1 rfl 10 (by decide) (hts (.fieldLink R_De 184 "MemoryDesk" "pending" "LMemoryDesk$Item;") (by decide +kernel)) (fun _ h9 => h9) rfl d_De_clearAway_72 ?_
        cases ps with
        | nil =>
          refine lv_ifnullN hx hb d_De_clearAway_75 rfl ?_
          exact fin ls H locs g us sn np hP hA hS hJ hI hus
        | cons o ps =>
          obtain ⟨k1, k2, k3, k4, k5⟩ := hI.pop
          obtain ⟨x, hx9, hg⟩ := hJ.1.2.2.2.1 o k3 k4
          have hod : ad o ≠ d := c_ne hg hJ.1.1.1 (fun z => by cases z)
          have hnpo : np o = ps.head?.map ad := (hJ.2.2 o List.mem_cons_self).trans (congrArg (Option.map ad) (if_pos rfl))
          have hnod : o ∉ ps := (List.nodup_cons.mp hI.1).1
          refine lv_ifnull hx hb d_De_clearAway_75 ?_
          refine lv_aload_n hx hb d_De_clearAway_78 rfl (lv_at hl 1 rfl) ?_
          refine y_get (D := D) (ci := 4) (v := .ref (ad o)) (C := R_De) (T := F_De) (N := 11) hx hb hts in_De hown hK hP hJ.1.1.1 rfl 10 (by decide) (hts (.fieldLink R_De 184 "MemoryDesk" "pending" "LMemoryDesk$Item;") (by decide +kernel)) (fun _ h9 => h9) rfl d_De_clearAway_79 ?_
          refine lv_astore_n hx hb d_De_clearAway_82 rfl hl (by decide) rfl (fun ls hl => ?_)
          have hl : lv_has ls 4 [(2, .ref (ad o)), (1, .int (nI i)), (0, .ref d)] := hl
          refine lv_aload_n hx hb d_De_clearAway_83 rfl (lv_at hl 2 rfl) ?_
          refine lv_aload_n hx hb d_De_clearAway_84 rfl (lv_at hl 0 rfl) ?_
          refine y_get (D := D) (ci := 1) (v := va_rf (np o)) (C := R_It) (T := F_It) (N := 9) hx hb hts in_It hown hK hP hg rfl 8 (by decide) (hts (.fieldLink R_De 187 "MemoryDesk$Item" "nextPending" "LMemoryDesk$Item;") (by decide +kernel)) (fun _ h9 => h9) rfl d_De_clearAway_85 ?_
          rw [hnpo]
          refine y_put (D := D) (ci := 4) (v := va_rf (ps.head?.map ad)) (ty := .object "MemoryDesk$Item") (C := R_De) (T := F_De) (N := 11) hx hb hts in_De t_De t_De_ok n_De hown hK hP hA hS hJ.1.1.1 rfl 10 (by decide) (hts (.fieldLink R_De 184 "MemoryDesk" "pending" "LMemoryDesk$Item;") (by decide +kernel)) (fun _ h9 => h9) rfl (by decide +kernel) (by rcases va_rf_or (ps.head?.map ad) with h | ⟨z, h⟩ <;> rw [h] <;> rfl) (by rcases va_rf_or (ps.head?.map ad) with h | ⟨z, h⟩ <;> rw [h] <;> rfl) (Nat.le_of_ble_eq_true rfl) d_De_clearAway_88 (fun H locs hP hA hS => ?_)
          have hP : y_P D vwCl (va_up g d (some (e_desk ka sa (nI a.mem) (nI a.n) (nI a.kc) (nI a.nn) itv (ks.head?.map ad) us (nI (wk + 1)) (ps.head?.map ad)))) H := hP
          have hA : ∀ q99 e99, (va_up g d (some (e_desk ka sa (nI a.mem) (nI a.n) (nI a.kc) (nI a.nn) itv (ks.head?.map ad) us (nI (wk + 1)) (ps.head?.map ad)))) q99 = some e99 → A q99 := hA
          have hg1 : va_up g d (some (e_desk ka sa (nI a.mem) (nI a.n) (nI a.kc) (nI a.nn) itv (ks.head?.map ad) us (nI (wk + 1)) (ps.head?.map ad))) (ad o) = some (c_it a ad cs ks x (nI (sn o)) (np o) o) := by rw [va_up_ne _ _ hod]; exact hg
          refine lv_aload_n hx hb d_De_clearAway_91 rfl (lv_at hl 0 rfl) ?_
          refine lv_null hx hb d_De_clearAway_92 ?_
          refine y_put (D := D) (ci := 1) (v := .null) (ty := .object "MemoryDesk$Item") (C := R_It) (T := F_It) (N := 9) hx hb hts in_It t_It t_It_ok n_It hown hK hP hA hS hg1 rfl 8 (by decide) (hts (.fieldLink R_De 187 "MemoryDesk$Item" "nextPending" "LMemoryDesk$Item;") (by decide +kernel)) (fun _ h9 => h9) rfl (by decide +kernel) rfl rfl (Nat.le_of_ble_eq_true rfl) d_De_clearAway_93 (fun H locs hP hA hS => ?_)
          have hP : y_P D vwCl (va_up (va_up g d (some (e_desk ka sa (nI a.mem) (nI a.n) (nI a.kc) (nI a.nn) itv (ks.head?.map ad) us (nI (wk + 1)) (ps.head?.map ad)))) (ad o) (some (c_it a ad cs ks x (nI (sn o)) none o))) H := hP
          have hA : ∀ q99 e99, (va_up (va_up g d (some (e_desk ka sa (nI a.mem) (nI a.n) (nI a.kc) (nI a.nn) itv (ks.head?.map ad) us (nI (wk + 1)) (ps.head?.map ad)))) (ad o) (some (c_it a ad cs ks x (nI (sn o)) none o))) q99 = some e99 → A q99 := hA
          have hd2 : va_up (va_up g d (some (e_desk ka sa (nI a.mem) (nI a.n) (nI a.kc) (nI a.nn) itv (ks.head?.map ad) us (nI (wk + 1)) (ps.head?.map ad)))) (ad o) (some (c_it a ad cs ks x (nI (sn o)) none o)) d = some (e_desk ka sa (nI a.mem) (nI a.n) (nI a.kc) (nI a.nn) itv (ks.head?.map ad) us (nI (wk + 1)) (ps.head?.map ad)) := by rw [va_up_ne _ _ (Ne.symm hod), va_up_self]
          have hg2 : va_up (va_up g d (some (e_desk ka sa (nI a.mem) (nI a.n) (nI a.kc) (nI a.nn) itv (ks.head?.map ad) us (nI (wk + 1)) (ps.head?.map ad)))) (ad o) (some (c_it a ad cs ks x (nI (sn o)) none o)) (ad o) = some (c_it a ad cs ks x (nI (sn o)) none o) := va_up_self _ _ _
          refine lv_aload_n hx hb d_De_clearAway_96 rfl (lv_at hl 2 rfl) ?_
          refine lv_dup hx hb d_De_clearAway_97 rfl ?_
          refine y_get (D := D) (ci := 4) (v := .int us) (C := R_De) (T := F_De) (N := 11) hx hb hts in_De hown hK hP hd2 rfl 8 (by decide) (hts (.fieldLink R_De 145 "MemoryDesk" "used" "I") (by decide +kernel)) (fun _ h9 => h9) rfl d_De_clearAway_98 ?_
          refine lv_aload_n hx hb d_De_clearAway_101 rfl (lv_at hl 0 rfl) ?_
          refine y_get (D := D) (ci := 1) (v := .int (nI (a_wd a o))) (C := R_It) (T := F_It) (N := 9) hx hb hts in_It hown hK hP hg2 rfl 2 (by decide) (hts (.fieldLink R_De 190 "MemoryDesk$Item" "words" "I") (by decide +kernel)) (fun _ h9 => h9) rfl d_De_clearAway_102 ?_
          refine lv_iadd hx hb d_De_clearAway_105 ?_
          refine lv_topi (fun us1 e_us1 => ?_)
          refine y_put (D := D) (ci := 4) (v := .int us1) (ty := .int) (C := R_De) (T := F_De) (N := 11) hx hb hts in_De t_De t_De_ok n_De hown hK hP hA hS hd2 rfl 8 (by decide) (hts (.fieldLink R_De 145 "MemoryDesk" "used" "I") (by decide +kernel)) (fun _ h9 => h9) rfl (by decide +kernel) rfl rfl (Nat.le_of_ble_eq_true rfl) d_De_clearAway_106 (fun H locs hP hA hS => ?_)
          rw [c_up3 hod] at hP hA
          have hP : y_P D vwCl (va_up (va_up g (ad o) (some (c_it a ad cs ks x (nI (sn o)) none o))) d (some (e_desk ka sa (nI a.mem) (nI a.n) (nI a.kc) (nI a.nn) itv (ks.head?.map ad) us1 (nI (wk + 1)) (ps.head?.map ad)))) H := hP
          have hA : ∀ q99 e99, (va_up (va_up g (ad o) (some (c_it a ad cs ks x (nI (sn o)) none o))) d (some (e_desk ka sa (nI a.mem) (nI a.n) (nI a.kc) (nI a.nn) itv (ks.head?.map ad) us1 (nI (wk + 1)) (ps.head?.map ad)))) q99 = some e99 → A q99 := hA
          have hJ1 : c_J a (va_up (va_up g (ad o) (some (c_it a ad cs ks x (nI (sn o)) none o))) d (some (e_desk ka sa (nI a.mem) (nI a.n) (nI a.kc) (nI a.nn) itv (ks.head?.map ad) us1 (nI (wk + 1)) (ps.head?.map ad)))) d ka sa cK cI fk fs ad cs ks itv us1 (wk + 1) sn (va_up np o none) ps := by
            refine ⟨?_, hJ.2.1, fun z hz => ?_⟩
            · have h9 := hJ.1.item (us' := us1) (wk' := wk + 1) (pe' := ps.head?.map ad) (s' := sn o) (nv := none) k3 k4 hx9
              rw [c_upS] at h9
              exact h9
            · have hzo : z ≠ o := fun w => hnod (by rw [← w]; exact hz)
              rw [va_up_ne _ _ hzo, hJ.2.2 z (List.mem_cons_of_mem _ hz), c_nx.skip hzo]
          have hg3 : va_up (va_up g (ad o) (some (c_it a ad cs ks x (nI (sn o)) none o))) d (some (e_desk ka sa (nI a.mem) (nI a.n) (nI a.kc) (nI a.nn) itv (ks.head?.map ad) us1 (nI (wk + 1)) (ps.head?.map ad))) (ad o) = some (c_it a ad cs ks x (nI (sn o)) none o) := by rw [va_up_ne _ _ hod, va_up_self]
          have hus1 : us1 = nI (z_sum (a_wd a) (fun z => c_sn a sn (wk + 1) z ∧ z ∉ ps) a.n) := by rw [k2 (a_wd a), ← nI_add, ← hus]; exact e_us1
          have hi1 : i + 1 = z_sum (fun _ => 1) (fun z => c_sn a sn (wk + 1) z ∧ z ∉ ps) a.n := by rw [k2 (fun _ => 1), ← hi]
          have hok := (hJ1.1.2.2.2.2.2.1 o k3 k4).2
          have hI1 : z_I (a_root a) (a_ed a) a.n (c_sn a sn (wk + 1)) ps (fun _ => False) (fun x9 b9 => x9 = o ∧ ∃ q, q ∈ cs o ∧ q.2.2.2 = some (ad b9) ∧ 1 ≤ b9 ∧ b9 ≤ a.n) := k1.mono (fun _ _ z => z.elim) (fun x9 b9 _ _ he z => z.elim (fun q => q.elim) (fun q => by subst q; obtain ⟨q, q1, q2⟩ := c_edc hw hcn hok he; exact Or.inr ⟨rfl, q, q1, q2, he.2.2.1, he.2.2.2.1⟩))
          have loopC : ∀ (L1 : List CL) (ls : Array Slot) (H : Heap) (locs : List Loc) (g : y_G) (sn1 : Nat → Nat) (np1 : Nat → Option Nat) (ps1 : List Nat), lv_has ls 4 [(3, va_rf (c_hd L1)), (2, .ref (ad o)), (1, .int (nI i)), (0, .ref d)] → (∃ pre, cs o = pre ++ L1) → y_P D vwCl g H → (∀ q99 e99, g q99 = some e99 → A q99) → va_S A s.heap H locs → c_J a g d ka sa cK cI fk fs ad cs ks itv us1 (wk + 1) sn1 np1 ps1 → z_I (a_root a) (a_ed a) a.n (c_sn a sn1 (wk + 1)) ps1 (fun _ => False) (fun x9 b9 => x9 = o ∧ ∃ q, q ∈ L1 ∧ q.2.2.2 = some (ad b9) ∧ 1 ≤ b9 ∧ b9 ≤ a.n) → (∀ w, z_sum w (fun z => c_sn a sn1 (wk + 1) z ∧ z ∉ ps1) a.n = z_sum w (fun z => c_sn a sn (wk + 1) z ∧ z ∉ ps) a.n) → W p l e rmW s m ([.ref d] : List Value).toArray below meth c H locs 0 0 QQ (F0 m 114 ls []) := by
            intro L1
            induction L1 with
            | nil =>
              intro ls H locs g sn1 np1 ps1 hl _ hP hA hS hJ hI hF
              have hl : lv_has ls 4 [(3, .null), (2, .ref (ad o)), (1, .int (nI i)), (0, .ref d)] := hl
              refine lv_aload_nN hx hb d_De_clearAway_114 rfl (lv_at hl 0 rfl) ?_
              refine lv_ifnullN hx hb d_De_clearAway_115 rfl ?_
              refine lv_iinc (k := 2) (v := ((nI i) + 1)) hx hb d_De_clearAway_134 hl rfl rfl (by decide) rfl (fun ls hl => ?_)
              have hl : lv_has ls 4 [(1, .int ((nI i) + 1)), (3, .null), (2, .ref (ad o)), (0, .ref d)] := hl
              refine lv_goto hx hb d_De_clearAway_137 rfl ?_
              have hl : lv_has ls 4 [(1, .int (nI (i + 1))), (0, .ref d)] := by rw [← nI_1 i]; exact lv_sub hl [0, 3] rfl
              exact ih (i + 1) ls H locs g us1 sn1 np1 ps1 hl hP hA hS hJ (hI.mono (fun _ _ z => z.elim) (fun _ _ _ _ _ z => by obtain ⟨-, q, z, -⟩ := z; exact absurd z List.not_mem_nil)) (by rw [hF]; exact hus1) (by rw [hF]; exact hi1) (by omega)
            | cons q L1 ihL =>
              obtain ⟨y, k9, v9, nm9⟩ := q
              intro ls H locs g sn1 np1 ps1 hl hsuf hP hA hS hJ hI hF
              obtain ⟨pre, hpre⟩ := hsuf
              have hch := (hJ.1.2.2.2.2.2.1 o k3 k4).1
              rw [hpre] at hch
              have hy : g y = some (e_cell k9 (c_hd L1) v9 nm9) := (c_ch.suffix hch).1
              have hmem : (y, k9, v9, nm9) ∈ cs o := by rw [hpre]; exact List.mem_append_right _ List.mem_cons_self
              obtain ⟨b, hb1, hb2, hb3⟩ : ∃ b, b ≤ a.n ∧ nm9 = c_ob ad b ∧ (b ≠ 0 → a_R a b) := by
                cases nm9 with
                | none => exact ⟨0, Nat.zero_le _, rfl, fun z => absurd rfl z⟩
                | some y9 =>
                  obtain ⟨b, b1, b2, b3, b4⟩ := c_eds k3 k4 hok hmem (y := y9) rfl
                  exact ⟨b, b2, by rw [b3]; exact (if_neg (by omega)).symm, fun _ => z_R.step k5 b4⟩
              have hl : lv_has ls 4 [(3, .ref y), (2, .ref (ad o)), (1, .int (nI i)), (0, .ref d)] := hl
              refine lv_aload_n hx hb d_De_clearAway_114 rfl (lv_at hl 0 rfl) ?_
              refine lv_ifnull hx hb d_De_clearAway_115 ?_
              refine lv_aload_n hx hb d_De_clearAway_118 rfl (lv_at hl 3 rfl) ?_
              refine lv_aload_n hx hb d_De_clearAway_119 rfl (lv_at hl 0 rfl) ?_
              refine y_get (D := D) (ci := 0) (v := va_rf nm9) (C := R_Ce) (T := F_Ce) (N := 4) hx hb hts in_Ce hown hK hP hy rfl 3 (by decide) (hts (.fieldLink R_De 113 "MemoryDesk$Cell" "named" "LMemoryDesk$Item;") (by decide +kernel)) (fun _ h9 => h9) rfl d_De_clearAway_120 ?_
              refine visit 123 ls H locs g us1 sn1 np1 ps1 b nm9 _ _ d_De_clearAway_123 hl.1 hP hA hS hJ hI hb1 hb2 hb3 (fun H locs g sn2 np2 ps2 hP hA hS hJ hI hb4 hsub hF2 => ?_)
              have hch := (hJ.1.2.2.2.2.2.1 o k3 k4).1
              rw [hpre] at hch
              have hy : g y = some (e_cell k9 (c_hd L1) v9 nm9) := (c_ch.suffix hch).1
              refine lv_aload_n hx hb d_De_clearAway_126 rfl (lv_at hl 0 rfl) ?_
              refine y_get (D := D) (ci := 0) (v := va_rf (c_hd L1)) (C := R_Ce) (T := F_Ce) (N := 4) hx hb hts in_Ce hown hK hP hy rfl 1 (by decide) (hts (.fieldLink R_De 197 "MemoryDesk$Cell" "next" "LMemoryDesk$Cell;") (by decide +kernel)) (fun _ h9 => h9) rfl d_De_clearAway_127 ?_
              have hI3 : z_I (a_root a) (a_ed a) a.n (c_sn a sn2 (wk + 1)) ps2 (fun _ => False) (fun x9 b9 => x9 = o ∧ ∃ q, q ∈ L1 ∧ q.2.2.2 = some (ad b9) ∧ 1 ≤ b9 ∧ b9 ≤ a.n) := hI.mono (fun _ _ z => z.elim) (fun x9 b9 _ _ _ z => by
                obtain ⟨z1, q, z2, z3, z4, z5⟩ := z
                rcases List.mem_cons.mp z2 with e9 | e9
                · rw [e9] at z3
                  have z6 : nm9 = some (ad b9) := z3
                  have hb0 : b ≠ 0 := fun w => by rw [hb2, w] at z6; exact nomatch z6
                  have z7 : c_ob ad b = some (ad b) := if_neg hb0
                  rw [hb2, z7] at z6
                  have z8 : b = b9 := hJ.1.2.2.2.2.1 b b9 (by omega) hb1 z4 z5 (Option.some.inj z6)
                  exact Or.inl (by rw [← z8]; exact hb4 hb0)
                · exact Or.inr ⟨z1, q, e9, z3, z4, z5⟩)
              cases L1 with
              | nil =>
                refine lv_astore_nN hx hb d_De_clearAway_130 rfl hl (by decide) rfl (fun ls hl => ?_)
                have hl : lv_has ls 4 [(3, .null), (2, .ref (ad o)), (1, .int (nI i)), (0, .ref d)] := hl
                refine lv_goto hx hb d_De_clearAway_131 rfl ?_
                exact ihL ls H locs g sn2 np2 ps2 hl ⟨pre ++ [(y, k9, v9, nm9)], by rw [hpre, List.append_assoc]; rfl⟩ hP hA hS hJ hI3 (fun w => (hF2 w).trans (hF w))
              | cons q2 r2 =>
                refine lv_astore_n hx hb d_De_clearAway_130 rfl hl (by decide) rfl (fun ls hl => ?_)
                have hl : lv_has ls 4 [(3, .ref q2.1), (2, .ref (ad o)), (1, .int (nI i)), (0, .ref d)] := hl
                refine lv_goto hx hb d_De_clearAway_131 rfl ?_
                exact ihL ls H locs g sn2 np2 ps2 hl ⟨pre ++ [(y, k9, v9, nm9)], by rw [hpre, List.append_assoc]; rfl⟩ hP hA hS hJ hI3 (fun w => (hF2 w).trans (hF w))
          refine lv_aload_n hx hb d_De_clearAway_109 rfl (lv_at hl 0 rfl) ?_
          refine y_get (D := D) (ci := 1) (v := va_rf (c_hd (cs o))) (C := R_It) (T := F_It) (N := 9) hx hb hts in_It hown hK hP hg3 rfl 3 (by decide) (hts (.fieldLink R_De 193 "MemoryDesk$Item" "cells" "LMemoryDesk$Cell;") (by decide +kernel)) (fun _ h9 => h9) rfl d_De_clearAway_110 ?_
          cases hcs : cs o with
          | nil =>
            refine lv_astore_nN hx hb d_De_clearAway_113 rfl hl (by decide) rfl (fun ls hl => ?_)
            have hl : lv_has ls 4 [(3, .null), (2, .ref (ad o)), (1, .int (nI i)), (0, .ref d)] := hl
            have hl : lv_has ls 4 [(3, .null), (2, .ref (ad o)), (1, .int (nI i)), (0, .ref d)] := lv_sub hl [0, 1, 2, 3] rfl
            exact loopC [] ls H locs _ sn (va_up np o none) ps hl ⟨[], hcs⟩ hP hA hS hJ1 (by rw [← hcs]; exact hI1) (fun _ => rfl)
          | cons q2 r2 =>
            refine lv_astore_n hx hb d_De_clearAway_113 rfl hl (by decide) rfl (fun ls hl => ?_)
            have hl : lv_has ls 4 [(3, .ref q2.1), (2, .ref (ad o)), (1, .int (nI i)), (0, .ref d)] := hl
            have hl : lv_has ls 4 [(3, .ref q2.1), (2, .ref (ad o)), (1, .int (nI i)), (0, .ref d)] := lv_sub hl [0, 1, 2, 3] rfl
            exact loopC (q2 :: r2) ls H locs _ sn (va_up np o none) ps hl ⟨[], hcs⟩ hP hA hS hJ1 (by rw [← hcs]; exact hI1) (fun _ => rfl)
  have loopK : ∀ (K1 : List Nat) (ls : Array Slot) (H : Heap) (locs : List Loc) (g : y_G) (sn : Nat → Nat) (np : Nat → Option Nat) (ps : List Nat), lv_has ls 4 [(1, va_rf (K1.head?.map ad)), (0, .ref d)] → (∃ pre, ks = pre ++ K1) → y_P D vwCl g H → (∀ q99 e99, g q99 = some e99 → A q99) → va_S A s.heap H locs → c_J a g d ka sa cK cI fk fs ad cs ks itv us (wk + 1) sn np ps → z_I (a_root a) (a_ed a) a.n (c_sn a sn (wk + 1)) ps (fun r => r ∈ K1) (fun _ _ => False) → (∀ w, z_sum w (fun z => c_sn a sn (wk + 1) z ∧ z ∉ ps) a.n = 0) → W p l e rmW s m ([.ref d] : List Value).toArray below meth c H locs 0 0 QQ (F0 m 39 ls []) := by
    intro K1
    induction K1 with
    | nil =>
      intro ls H locs g sn np ps hl _ hP hA hS hJ hI hF
      have hl : lv_has ls 4 [(1, .null), (0, .ref d)] := hl
      refine lv_aload_nN hx hb d_De_clearAway_39 rfl (lv_at hl 0 rfl) ?_
      refine lv_ifnullN hx hb d_De_clearAway_40 rfl ?_
      refine lv_aload_n hx hb d_De_clearAway_56 rfl (lv_at hl 1 rfl) ?_
      refine lv_iconst (v := 0) hx hb d_De_clearAway_57 (by decide) ?_
      refine y_put (D := D) (ci := 4) (v := .int 0) (ty := .int) (C := R_De) (T := F_De) (N := 11) hx hb hts in_De t_De t_De_ok n_De hown hK hP hA hS hJ.1.1.1 rfl 8 (by decide) (hts (.fieldLink R_De 145 "MemoryDesk" "used" "I") (by decide +kernel)) (fun _ h9 => h9) rfl (by decide +kernel) rfl rfl (Nat.le_of_ble_eq_true rfl) d_De_clearAway_58 (fun H locs hP hA hS => ?_)
      have hP : y_P D vwCl (va_up g d (some (e_desk ka sa (nI a.mem) (nI a.n) (nI a.kc) (nI a.nn) itv (ks.head?.map ad) 0 (nI (wk + 1)) (ps.head?.map ad)))) H := hP
      have hA : ∀ q99 e99, (va_up g d (some (e_desk ka sa (nI a.mem) (nI a.n) (nI a.kc) (nI a.nn) itv (ks.head?.map ad) 0 (nI (wk + 1)) (ps.head?.map ad)))) q99 = some e99 → A q99 := hA
      refine lv_iconst (v := 0) hx hb d_De_clearAway_61 (by decide) ?_
      refine lv_istore_n hx hb d_De_clearAway_62 rfl hl (by decide) rfl (fun ls hl => ?_)
      have hl : lv_has ls 4 [(1, .int 0), (0, .ref d)] := hl
      have hl : lv_has ls 4 [(1, .int 0), (0, .ref d)] := lv_sub hl [0, 1] rfl
      have hJ1 : c_J a (va_up g d (some (e_desk ka sa (nI a.mem) (nI a.n) (nI a.kc) (nI a.nn) itv (ks.head?.map ad) 0 (nI (wk + 1)) (ps.head?.map ad)))) d ka sa cK cI fk fs ad cs ks itv 0 (wk + 1) sn np ps := ⟨hJ.1.desk, hJ.2⟩
      exact loopP a.n 0 ls H locs _ 0 sn np ps hl hP hA hS hJ1 (hI.mono (fun r _ z => absurd z List.not_mem_nil) (fun _ _ _ _ _ z => z.elim)) (by rw [hF]; rfl) (hF _).symm (by omega)
    | cons o K1 ihK =>
      intro ls H locs g sn np ps hl hsuf hP hA hS hJ hI hF
      obtain ⟨pre, hpre⟩ := hsuf
      have hko : a.kp o := (hC.2.2.2.2.2.2.2.2 o).mpr (by rw [hpre]; exact List.mem_append_right _ List.mem_cons_self)
      obtain ⟨k3, k4⟩ := hw.2.2.2.1 o hko
      have hl : lv_has ls 4 [(1, .ref (ad o)), (0, .ref d)] := hl
      refine lv_aload_n hx hb d_De_clearAway_39 rfl (lv_at hl 0 rfl) ?_
      refine lv_ifnull hx hb d_De_clearAway_40 ?_
      refine lv_aload_n hx hb d_De_clearAway_43 rfl (lv_at hl 1 rfl) ?_
      refine lv_aload_n hx hb d_De_clearAway_44 rfl (lv_at hl 0 rfl) ?_
      refine visit 45 ls H locs g us sn np ps o (some (ad o)) _ _ d_De_clearAway_45 hl.1 hP hA hS hJ hI k4 (if_neg (by omega)).symm (fun _ => z_R.root (Or.inr hko)) (fun H locs g sn1 np1 ps1 hP hA hS hJ hI hb4 hsub hF1 => ?_)
      obtain ⟨x, hx9, hg⟩ := hJ.1.2.2.2.1 o k3 k4
      have hnk : (c_nx ks o).map ad = K1.head?.map ad := by have h9 := hC.2.2.2.2.2.2.2.1; rw [hpre] at h9 ⊢; rw [c_nx.mid h9]
      refine lv_aload_n hx hb d_De_clearAway_48 rfl (lv_at hl 0 rfl) ?_
      refine y_get (D := D) (ci := 1) (v := va_rf ((c_nx ks o).map ad)) (C := R_It) (T := F_It) (N := 9) hx hb hts in_It hown hK hP hg rfl 6 (by decide) (hts (.fieldLink R_De 128 "MemoryDesk$Item" "nextKept" "LMemoryDesk$Item;") (by decide +kernel)) (fun _ h9 => h9) rfl d_De_clearAway_49 ?_
      rw [hnk]
      have hI3 : z_I (a_root a) (a_ed a) a.n (c_sn a sn1 (wk + 1)) ps1 (fun r => r ∈ K1) (fun _ _ => False) := hI.mono (fun r _ z => (List.mem_cons.mp z).elim (fun e9 => Or.inl (by rw [e9]; exact hb4 (by omega))) Or.inr) (fun _ _ _ _ _ z => z.elim)
      cases K1 with
      | nil =>
        refine lv_astore_nN hx hb d_De_clearAway_52 rfl hl (by decide) rfl (fun ls hl => ?_)
        have hl : lv_has ls 4 [(1, .null), (0, .ref d)] := hl
        refine lv_goto hx hb d_De_clearAway_53 rfl ?_
        exact ihK ls H locs g sn1 np1 ps1 hl ⟨pre ++ [o], by rw [hpre, List.append_assoc]; rfl⟩ hP hA hS hJ hI3 (fun w => (hF1 w).trans (hF w))
      | cons o2 r2 =>
        refine lv_astore_n hx hb d_De_clearAway_52 rfl hl (by decide) rfl (fun ls hl => ?_)
        have hl : lv_has ls 4 [(1, .ref (ad o2)), (0, .ref d)] := hl
        refine lv_goto hx hb d_De_clearAway_53 rfl ?_
        exact ihK ls H locs g sn1 np1 ps1 hl ⟨pre ++ [o], by rw [hpre, List.append_assoc]; rfl⟩ hP hA hS hJ hI3 (fun w => (hF1 w).trans (hF w))
  have loopS : ∀ (f i : Nat) (ls : Array Slot) (H : Heap) (locs : List Loc) (g : y_G) (sn : Nat → Nat) (np : Nat → Option Nat) (ps : List Nat), i + f = 32 → lv_has ls 4 [(1, .int (nI i)), (0, .ref d)] → y_P D vwCl g H → (∀ q99 e99, g q99 = some e99 → A q99) → va_S A s.heap H locs → c_J a g d ka sa cK cI fk fs ad cs ks itv us (wk + 1) sn np ps → z_I (a_root a) (a_ed a) a.n (c_sn a sn (wk + 1)) ps (fun r => (∃ z, i ≤ z ∧ z < 32 ∧ a.sl z = r ∧ r ≠ 0) ∨ r ∈ ks) (fun _ _ => False) → (∀ w, z_sum w (fun z => c_sn a sn (wk + 1) z ∧ z ∉ ps) a.n = 0) → W p l e rmW s m ([.ref d] : List Value).toArray below meth c H locs 0 0 QQ (F0 m 12 ls []) := by
    intro f
    induction f with
    | zero =>
      intro i ls H locs g sn np ps hif hl hP hA hS hJ hI hF
      refine lv_iload_n hx hb d_De_clearAway_12 rfl (lv_at hl 0 rfl) ?_
      refine lv_bipush (v := 32) hx hb d_De_clearAway_13 (by decide) ?_
      refine lv_icmp_ge hx hb d_De_clearAway_15 rfl (fun h3 => ?_) (fun h3 => (absurd (show (32 : Int32) ≤ nI i from nI_le (a := 32) (b := i) (by omega) (by omega)) h3))
      refine lv_aload_n hx hb d_De_clearAway_34 rfl (lv_at hl 1 rfl) ?_
      refine y_get (D := D) (ci := 4) (v := va_rf (ks.head?.map ad)) (C := R_De) (T := F_De) (N := 11) hx hb hts in_De hown hK hP hJ.1.1.1 rfl 7 (by decide) (hts (.fieldLink R_De 125 "MemoryDesk" "firstKept" "LMemoryDesk$Item;") (by decide +kernel)) (fun _ h9 => h9) rfl d_De_clearAway_35 ?_
      have hI3 : z_I (a_root a) (a_ed a) a.n (c_sn a sn (wk + 1)) ps (fun r => r ∈ ks) (fun _ _ => False) := hI.mono (fun r _ z => z.elim (fun q => by obtain ⟨z, z1, z2, -⟩ := q; omega) Or.inr) (fun _ _ _ _ _ z => z.elim)
      cases hks : ks with
      | nil =>
        refine lv_astore_nN hx hb d_De_clearAway_38 rfl hl (by decide) rfl (fun ls hl => ?_)
        have hl : lv_has ls 4 [(1, .null), (0, .ref d)] := hl
        exact loopK [] ls H locs g sn np ps hl ⟨[], hks⟩ hP hA hS hJ (by rw [← hks]; exact hI3) hF
      | cons o2 r2 =>
        refine lv_astore_n hx hb d_De_clearAway_38 rfl hl (by decide) rfl (fun ls hl => ?_)
        have hl : lv_has ls 4 [(1, .ref (ad o2)), (0, .ref d)] := hl
        exact loopK (o2 :: r2) ls H locs g sn np ps hl ⟨[], hks⟩ hP hA hS hJ (by rw [← hks]; exact hI3) hF
    | succ f ih =>
      intro i ls H locs g sn np ps hif hl hP hA hS hJ hI hF
      refine lv_iload_n hx hb d_De_clearAway_12 rfl (lv_at hl 0 rfl) ?_
      refine lv_bipush (v := 32) hx hb d_De_clearAway_13 (by decide) ?_
      refine lv_icmp_ge hx hb d_De_clearAway_15 rfl (fun h4 => (absurd h4 (nI_ge (a := i) (b := 32) (by omega) (by decide)))) (fun h4 => ?_)
      have hi32 : i < 32 := by omega
      refine lv_aload_n hx hb d_De_clearAway_18 rfl (lv_at hl 1 rfl) ?_
      refine lv_aload_n hx hb d_De_clearAway_19 rfl (lv_at hl 1 rfl) ?_
      refine y_get (D := D) (ci := 4) (v := .ref sa) (C := R_De) (T := F_De) (N := 11) hx hb hts in_De hown hK hP hJ.1.1.1 rfl 1 (by decide) (hts (.fieldLink R_De 17 "MemoryDesk" "slots" "[LMemoryDesk$Item;") (by decide +kernel)) (fun _ h9 => h9) rfl d_De_clearAway_20 ?_
      refine lv_iload_n hx hb d_De_clearAway_23 rfl (lv_at hl 0 rfl) ?_
      refine y_aldq hx hb hK hP 1 hJ.1.1.2.2 rfl (vp_in_nI hi32 (by decide)) d_De_clearAway_24 ?_
      refine visit 25 ls H locs g us sn np ps (a.sl i) (fs (nI i).toNatClampNeg) _ _ d_De_clearAway_25 hl.1 hP hA hS hJ hI (hw.2.2.1 i hi32) (by rw [nI_clamp (by omega)]; exact hJ.1.2.2.1 i hi32) (fun z => z_R.root (Or.inl ⟨i, hi32, rfl, z⟩)) (fun H locs g sn1 np1 ps1 hP hA hS hJ hI hb4 hsub hF1 => ?_)
      refine lv_iinc (k := 0) (v := ((nI i) + 1)) hx hb d_De_clearAway_28 hl rfl rfl (by decide) rfl (fun ls hl => ?_)
      have hl : lv_has ls 4 [(1, .int ((nI i) + 1)), (0, .ref d)] := hl
      refine lv_goto hx hb d_De_clearAway_31 rfl ?_
      have hl : lv_has ls 4 [(1, .int (nI (i + 1))), (0, .ref d)] := by rw [← nI_1 i]; exact hl
      refine ih (i + 1) ls H locs g sn1 np1 ps1 (by omega) hl hP hA hS hJ (hI.mono (fun r _ z => z.elim (fun q => ?_) (fun q => Or.inr (Or.inr q))) (fun _ _ _ _ _ z => z.elim)) (fun w => (hF1 w).trans (hF w))
      obtain ⟨z, z1, z2, z3, z4⟩ := q
      by_cases hz : z = i
      · subst hz; exact Or.inl (by rw [← z3]; exact hb4 (by rw [z3]; exact z4))
      · exact Or.inr (Or.inl ⟨z, by omega, z2, z3, z4⟩)
  refine lv_aload_n hx hb d_De_clearAway_0 rfl (lv_at hl 0 rfl) ?_
  refine lv_dup hx hb d_De_clearAway_1 rfl ?_
  refine y_get (D := D) (ci := 4) (v := .int (nI wk)) (C := R_De) (T := F_De) (N := 11) hx hb hts in_De hown hK hP hC.1.1 rfl 9 (by decide) (hts (.fieldLink R_De 177 "MemoryDesk" "walk" "I") (by decide +kernel)) (fun _ h9 => h9) rfl d_De_clearAway_2 ?_
  refine lv_iconst (v := 1) hx hb d_De_clearAway_5 (by decide) ?_
  refine lv_iadd hx hb d_De_clearAway_6 ?_
  rw [nI_1 wk]
  refine y_put (D := D) (ci := 4) (v := .int (nI (wk + 1))) (ty := .int) (C := R_De) (T := F_De) (N := 11) hx hb hts in_De t_De t_De_ok n_De hown hK hP hA hS hC.1.1 rfl 9 (by decide) (hts (.fieldLink R_De 177 "MemoryDesk" "walk" "I") (by decide +kernel)) (fun _ h9 => h9) rfl (by decide +kernel) rfl rfl (Nat.le_of_ble_eq_true rfl) d_De_clearAway_7 (fun H locs hP hA hS => ?_)
  have hP : y_P D vwCl (va_up g d (some (e_desk ka sa (nI a.mem) (nI a.n) (nI a.kc) (nI a.nn) itv (ks.head?.map ad) us (nI (wk + 1)) none))) H := hP
  have hA : ∀ q99 e99, (va_up g d (some (e_desk ka sa (nI a.mem) (nI a.n) (nI a.kc) (nI a.nn) itv (ks.head?.map ad) us (nI (wk + 1)) none))) q99 = some e99 → A q99 := hA
  have hJ0 : c_J a (va_up g d (some (e_desk ka sa (nI a.mem) (nI a.n) (nI a.kc) (nI a.nn) itv (ks.head?.map ad) us (nI (wk + 1)) none))) d ka sa cK cI fk fs ad cs ks itv us (wk + 1) sn np [] := ⟨hC.desk, fun o z1 z2 => Nat.le_succ_of_le (hsn o z1 z2), fun o z => absurd z List.not_mem_nil⟩
  have hno9 : ∀ o, ¬ c_sn a sn (wk + 1) o := fun o z => by have := hsn o z.1 z.2.1; have := z.2.2; omega
  have hI0 : z_I (a_root a) (a_ed a) a.n (c_sn a sn (wk + 1)) [] (fun r => (∃ z, 0 ≤ z ∧ z < 32 ∧ a.sl z = r ∧ r ≠ 0) ∨ r ∈ ks) (fun _ _ => False) := (z_I.start hno9).mono (fun r _ z => Or.inr (z.elim (fun q => by obtain ⟨z, z1, z2⟩ := q; exact Or.inl ⟨z, Nat.zero_le _, z1, z2⟩) (fun q => Or.inr ((hC.2.2.2.2.2.2.2.2 r).mp q)))) (fun _ _ _ _ _ z => z.elim)
  refine lv_iconst (v := 0) hx hb d_De_clearAway_10 (by decide) ?_
  refine lv_istore_n hx hb d_De_clearAway_11 rfl hl (by decide) rfl (fun ls hl => ?_)
  have hl : lv_has ls 4 [(1, .int 0), (0, .ref d)] := hl
  exact loopS 32 0 ls H locs _ sn np [] rfl hl hP hA hS hJ0 hI0 (fun w => z_none (fun o _ _ z => hno9 o z.1))
