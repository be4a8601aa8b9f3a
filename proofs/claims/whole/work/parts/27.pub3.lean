/-! the face's methods: memory, every, collect, make; the constructor -/
section CPub3
variable {p : Program} {l : Launch} {e : Env} {R : Room} {s : State} {m : MethodId} {args : Array Value} {below : List Frame} {meth : Method} {c : Code} {H : Heap} {locs : List Loc} {cells slots : Nat} {Q : State → Prop} {cc : ByteArray} {pc : Nat} {ls : Array Slot} {rest : List Value} {D : va_G} {cl : List vw_C} {tys : List (ClassId × FieldType)} {g : y_G} {A : Nat → Prop} {H0 : Heap}
/-- a new array of references, of a class that is known -/
theorem y_newq (hexec : p.tables.exec = Jvm.exec) (hb : c.code = cc) {own C : String} {index : Nat} (hown : s.vm.findClass own = some m.cls) (hclink : (Cond.classLink own index C).before args s = true) (hover : va_AO C s) (hK : va_K D cl tys s) (hP : y_P D cl g H) (hA : ∀ q e, g q = some e → A q) (hS : va_S A H0 H locs) (hA0 : ∀ q, H0.size ≤ q → A q) (t0 : Nat) {cA : ClassId} (ht : tys[t0]? = some (cA, .object C))
    {n : Int32} {N' : Nat} (hn : ¬ n < 0) (hN : n.toNatClampNeg = N') (hbytes : N' * 4 ≤ 536870912) (hcells : cells + 1 ≤ R.cells) (hslots : slots + N' ≤ R.slots) (hdg : decode cc pc = .ok (.anewarray index, 3))
    (kk : ∀ (q : Nat) (H1 : Heap), g q = none → y_P D cl (va_up g q (some (e_refs cA N' (fun _ => none)))) H1 → (∀ z e, va_up g q (some (e_refs cA N' (fun _ => none))) z = some e → A z) → va_S A H0 H1 locs →
      W p l e R s m args below meth c H1 locs (cells + 1) (slots + N') Q (F0 m (pc + 3) ls (.ref q :: rest))) : W p l e R s m args below meth c H locs cells slots Q (F0 m pc ls (.int n :: rest)) := by
  have hlt : ∀ q e, g q = some e → q < H.size := fun q e h => y_lt hP h
  refine va_newq hexec hb hown hclink hover hK (y_toL hP H.size) (y_D hA H.size) hS hA0 hn hN hbytes hcells hslots hdg (fun q cA' H1 h0 h1 h2 h3 => ?_)
  obtain ⟨kA, comp, -, -, -, f1⟩ := (h0.2 tys.length (cA', .object C) (by rw [List.getElem?_append_right (Nat.le_refl _), Nat.sub_self]; rfl)).2
  obtain ⟨kA', comp', -, -, -, f2⟩ := (hK.2 t0 _ ht).2
  cases f1.symm.trans f2
  have hlast : (y_L g H.size ++ [(q, e_refs cA N' (fun _ => none))])[(y_L g H.size).length]? = some (q, e_refs cA N' (fun _ => none)) := by rw [List.getElem?_append_right (Nat.le_refl _), Nat.sub_self]; rfl
  have hq : g q = none := by
    cases hg : g q with
    | none => rfl
    | some e9 =>
      obtain ⟨j, hj⟩ := y_idx (hlt q e9 hg) hg
      have hjl := (List.getElem?_eq_some_iff.mp hj).1
      have := h2.1 j (y_L g H.size).length (q, e9) (q, e_refs cA N' (fun _ => none)) (by rw [List.getElem?_append_left hjl]; exact hj) hlast rfl
      omega
  refine kk q H1 hq (y_ofPush hlt h1) (fun z e h => ?_) h3
  by_cases hz : z = q
  · rw [hz]; exact h2.2 _ _ hlast
  · rw [va_up_ne _ _ hz] at h; exact hA z e h
theorem c_R.of2 {cK cI : ClassId} {a a' : Ab} {g : y_G} {d ka sa : Nat} {fk fs : Nat → Option Nat} {ad : Nat → Nat} {cs : Nat → List CL} {ks : List Nat} {itv : Int32} {u wk cn : Nat} {sn : Nat → Nat} {np : Nat → Option Nat} {lv : Nat → Prop}
    (hC : c_S a' g d ka sa cK cI fk fs ad cs ks itv (nI u) wk sn np none) (hsn : ∀ o, 1 ≤ o → o ≤ a.n → sn o ≤ wk) (hwk : wk ≤ cn + 1) (hu : u = z_sum (a_wd a) lv a.n) (hum : u ≤ a'.mem) (hlv : ∀ o, a_R a o → lv o) (hn : a'.n = a.n) (hwd : ∀ o, 1 ≤ o → o ≤ a.n → a_wd a' o = a_wd a o) (hR : ∀ o, a_R a' o → a_R a o) : c_R cK cI a' g d (cn + 1) :=
  ⟨ka, sa, fk, fs, ad, cs, ks, itv, u, wk, sn, np, lv, hC, fun o a1 a2 => hsn o a1 (by omega), hwk, by rw [hu, hn]; exact (z_congr (fun _ _ _ => Iff.rfl) (fun o a1 a2 _ => hwd o a1 a2)).symm, hum, fun o z => hlv o (hR o z)⟩
theorem a_new.self {a : Ab} {s k : Nat} {n : Int32} {q : Int32 × Int32 × Int32} (h : a.kd k = some q) : a_len (a_new a s k n) (a.n + 1) = (if q.1 < 0 then q.2.1 else n) ∧ a_wd (a_new a s k n) (a.n + 1) = a_more q n := by
  have e1 : (a_new a s k n).kd ((a_new a s k n).ok (a.n + 1)) = some q := by show a.kd (va_up a.ok (a.n + 1) k (a.n + 1)) = _; rw [va_up_self]; exact h
  have e2 : (a_new a s k n).sz (a.n + 1) = n := va_up_self _ _ _
  have e3 : a_len (a_new a s k n) (a.n + 1) = (if q.1 < 0 then q.2.1 else n) := by unfold a_len; rw [e1, e2]
  refine ⟨e3, ?_⟩
  unfold a_wd a_more
  rw [e3]
  unfold a_row
  rw [e1]
theorem c_R.new {cK cI : ClassId} {a : Ab} {g g1 : y_G} {d ka sa : Nat} {fk fs : Nat → Option Nat} {ad : Nat → Nat} {cs : Nat → List CL} {ks : List Nat} {itv us : Int32} {u wk cn : Nat} {sn : Nat → Nat} {np : Nat → Option Nat} {lv : Nat → Prop} (hw : a_W a cn) (hcn : cn < 2 ^ 30) {s k q x : Nat} {n len : Int32} {qk : Int32 × Int32 × Int32} (hkd : a.kd k = some qk)
    (hC : c_S a g d ka sa cK cI fk fs ad cs ks itv us wk sn np none) (hsn : ∀ o, 1 ≤ o → o ≤ a.n → sn o ≤ wk) (hwk : wk ≤ cn + 1) (hu : u = z_sum (a_wd a) lv a.n) (hum : u + a_more qk n ≤ a.mem) (hlv : ∀ o, a_R a o → lv o)
    (hq : g q = none) (hx : fk k = some x) (hl : x ≠ q) (hlen : len = if qk.1 < 0 then qk.2.1 else n) (hq1 : g1 q = some (e_item x len (nI (a_more qk n)) none 0 0 none 0 none)) (hs1 : g1 sa = some (e_refs cI 32 (va_up fs s (some q)))) (hd1 : g1 d = some (e_desk ka sa (nI a.mem) (nI (a.n + 1)) (nI a.kc) (nI a.nn) itv (ks.head?.map ad) (nI (u + a_more qk n)) (nI wk) none)) (ho1 : ∀ z, z ≠ q → z ≠ sa → z ≠ d → g1 z = g z) : c_R cK cI (a_new a s k n) g1 d (cn + 1) := by
  obtain ⟨e1, e2⟩ := a_new.self (s := s) (n := n) hkd
  refine ⟨ka, sa, fk, _, _, _, ks, itv, u + a_more qk n, wk, _, _, fun o => (lv o ∧ o ≤ a.n) ∨ o = a.n + 1, c_S.new (q := q) hw hC hq hx hl (by rw [e1, e2, ← hlen]; exact hq1) hs1 hd1 ho1, fun o a1 a2 => ?_, hwk, ?_, hum, fun o z => ?_⟩
  · have a2 : o ≤ a.n + 1 := a2
    by_cases e : o = a.n + 1
    · rw [e, va_up_self]; exact Nat.zero_le _
    · rw [va_up_ne _ _ e]; exact hsn o a1 (by omega)
  · show _ = z_sum _ _ (a.n + 1)
    rw [z_yes (Or.inr rfl), e2, hu]
    congr 1
    refine z_congr (fun o a1 a2 => ⟨fun z => Or.inl ⟨z, a2⟩, fun z => (z.resolve_right (by omega)).1⟩) (fun o a1 a2 _ => (a_wd.eq (a_new.old a2).1 (a_new.old a2).2).symm)
  · rcases r_new hw hcn z with z | z
    · exact Or.inl ⟨hlv o z.1, z.2⟩
    · exact Or.inr z
/-- a memory in which nothing is -/
def a_0 : Ab := ((fun _ => none), 0, (fun _ => 0), (fun _ => 0), (fun _ => 0), 0, 65536, (fun _ _ => 0), (fun _ => 0), (fun _ => False), 0)
theorem a_0.W : a_W a_0 0 := by
  refine ⟨fun k q _ h => (nomatch h), fun o h1 h2 => absurd h2 (by show ¬ o ≤ 0; omega), fun _ _ => Nat.le_refl _, fun o h => h.elim, fun o k h1 h2 => absurd h2 (by show ¬ o ≤ 0; omega), fun o _ => ⟨rfl, fun _ => rfl⟩, fun o => Nat.le_refl _, by decide, by decide, Nat.le_refl _, Nat.le_refl _, Nat.le_refl _⟩
theorem c_R.zero {cK cI : ClassId} {g : y_G} {d ka sa : Nat} (h1 : g d = some (e_desk ka sa 65536 0 0 0 0 none 0 0 none)) (h2 : g ka = some (e_refs cK 16 (fun _ => none))) (h3 : g sa = some (e_refs cI 32 (fun _ => none))) : c_R cK cI a_0 g d 0 := by
  refine ⟨ka, sa, (fun _ => none), (fun _ => none), (fun _ => 0), (fun _ => []), [], 0, 0, 0, (fun _ => 0), (fun _ => none), (fun _ => False), ⟨⟨h1, h2, h3⟩, fun k _ => Or.inl ⟨rfl, rfl⟩, fun s _ => rfl, fun o h1 h2 => absurd h2 (by show ¬ o ≤ 0; omega), fun o o' h1 h2 => absurd h2 (by show ¬ o ≤ 0; omega), fun o h1 h2 => absurd h2 (by show ¬ o ≤ 0; omega), fun o o' q q' h1 h2 => absurd h2 (by show ¬ o ≤ 0; omega), List.nodup_nil, fun o => ⟨fun z => z.elim, fun z => absurd z List.not_mem_nil⟩⟩, fun o h1 h2 => absurd h2 (by show ¬ o ≤ 0; omega), Nat.le_refl _, rfl, Nat.zero_le _, fun o z => ?_⟩
  have := a_R.in a_0.W z
  have h9 : o ≤ 0 := this.2
  omega
theorem s_make_s {a : Ab} {s k n : Int32} {q : Int32 × Int32 × Int32} (hs : b_in s 32) (hk : b_in k 16) (hc : ∀ q, a.kd (j_n k) = some q → ¬ q.1 < 0 → ¬ n < 0) (hkd : a.kd (j_n k) = some q) : s_make a s k n = s_make2 a s k n q := by
  unfold s_make
  rw [q_y ⟨hs, hk, hc⟩, hkd]
abbrev rmI : Room := { frames := 1, cells := 2, slots := 48, locals := 20 }
end CPub3
theorem b_ge0 {w : Int32} (h : 0 ≤ w) : ¬ w < 0 := fun z => by
  rw [Int32.le_iff_toInt_le] at h
  rw [Int32.lt_iff_toInt_lt] at z
  omega
theorem b_nlt0 {w : Int32} (h : ¬ w < 0) : 0 ≤ w := by
  rw [Int32.le_iff_toInt_le]
  rw [Int32.lt_iff_toInt_lt] at h
  omega
set_option maxHeartbeats 4000000 in
set_option maxRecDepth 100000 in
/-- every(n) -/
theorem c_De_every (l : Launch) (hst : l.stackTraces = false) (D : va_G) (cK cI cN cZ cL : ClassId) (g : y_G) (sz : Nat) (a : Ab) (cn d : Nat) (n : Int32) (hw : a_W a cn) (hcn : cn < 2 ^ 30) (hR : c_R cK cI a g d cn) : x_M l y_De_every [.code y_De_every b_De_every 2 none] rmP (w_Pc D (x_tys cK cI cN cZ cL) [.ref d, .int n] g sz) (w_Qc D g sz (fun r g9 => x_out [xIAE] (s_every a n) r ∧ c_R cK cI (s_every a n).2.2 g9 d (cn + 1))) 6 60 (y_A g sz) := by
  refine x_ofW (cc := b_De_every) (maxL := 2) (ret := none) (by decide) rfl ?_
  intro p e s m args below meth c s₁ B hml hno hv
  obtain ⟨rfl, hsz, hP, hE⟩ := hv
  subst hsz
  have hts := hE.hts ([.ref d, .int n] : List Value).toArray
  have hK := hE.1.2.1
  have hA0 : ∀ q, s.heap.size ≤ q → y_A g s.heap.size q := fun q h => Or.inr h
  have hA : ∀ q e, g q = some e → y_A g s.heap.size q := fun q e h => Or.inl (by rw [h]; exact fun z => nomatch z)
  have hS : va_S (y_A g s.heap.size) s.heap s.heap [] := va_S.rf
  generalize hAe : y_A g s.heap.size = A at hE hA0 hA hS ⊢
  have hx := B.exec
  have hb := B.bytes
  have hr := B.returns
  have hlocks := B.notSynchronized
  have hown : s.vm.findClass R_De = some m.cls := findClass_of_methodNamed B.named
  have hl := lv_entry ([.ref d, .int n]) (n := 2) (Nat.le_of_ble_eq_true rfl)
  rw [lg_entry_eq]
  generalize (lg_sl ([.ref d, .int n]) ++ List.replicate (2 - (lg_sl ([.ref d, .int n])).length) Slot.unset).toArray = ls at hl ⊢
  have hl : lv_has ls 2 [(0, .ref d), (1, .int n)] := hl
  have hR0 := hR
  obtain ⟨ka, sa, fk, fs, ad, cs, ks, itv, u, wk, sn, np, lv, hC, hsn, hwk, hu, hum, hlv⟩ := hR
  have hn9 : a.n ≤ cn := hw.2.2.2.2.2.2.2.2.2.1
  have hmm : a.mem ≤ 65536 := hw.2.2.2.2.2.2.2.2.1
  refine lv_iload_n hx hb d_De_every_0 rfl (lv_at hl 1 rfl) ?_
  refine lv_if_ge hx hb d_De_every_1 rfl (fun h1 => ?_) (fun h1 => ?_)
  · -- ifge at 1: to 14
    refine lv_aload_n hx hb d_De_every_14 rfl (lv_at hl 0 rfl) ?_
    refine lv_iload_n hx hb d_De_every_15 rfl (lv_at hl 1 rfl) ?_
    refine y_put (D := D) (ci := 4) (v := .int n) (ty := .int) (C := R_De) (T := F_De) (N := 11) hx hb hts in_De t_De t_De_ok n_De hown hK hP hA hS hC.1.1 rfl 6 (by decide) (hts (.fieldLink R_De 151 "MemoryDesk" "interval" "I") (by decide +kernel)) (fun _ h9 => h9) rfl (by decide +kernel) rfl rfl (Nat.le_of_ble_eq_true rfl) d_De_every_16 (fun H locs hP hA hS => ?_)
    have hP : y_P D vwCl (va_up g d (some (.inr (4, [.ref ka, .ref sa, .int (nI a.mem), .int (nI a.n), .int (nI a.kc), .int (nI a.nn), .int n, va_rf (ks.head?.map ad), .int (nI u), .int (nI wk), .null])))) H := hP
    have hA : ∀ q99 e99, (va_up g d (some (.inr (4, [.ref ka, .ref sa, .int (nI a.mem), .int (nI a.n), .int (nI a.kc), .int (nI a.nn), .int n, va_rf (ks.head?.map ad), .int (nI u), .int (nI wk), .null])))) q99 = some e99 → A q99 := hA
    refine W.widen (k := 6) (n := 60) (by first | decide | omega) (by first | decide | omega) ?_
    exact x_ret (W.vret hx hb hr (w_fin rfl hAe (w_good (v := none) (q_y (b_ge0 h1)) (c_R.of (hC.nums (a' := a) rfl rfl rfl rfl rfl rfl rfl (fun _ => Iff.rfl)) hsn hwk hu hum hlv rfl (fun _ _ _ => rfl) (fun o z => z))) hP hA hS) hS.2.2 d_De_every_19)
  · -- ifge at 1: to 4
    obtain ⟨sa, hstr⟩ := hE.1.2.2.2.1 (63, "n is below 0") (by decide)
    refine W.widen (k := 6 - 1) (n := 60 - 6) (by first | decide | omega) (by first | decide | omega) ?_
    exact x_throw (A := A) (cls := "java/lang/IllegalArgumentException") (names := ["java/lang/RuntimeException", "java/lang/Exception"]) hx hb hst hown (by decide) (by decide) (hts (.classLink R_De 30 "java/lang/IllegalArgumentException") (by decide +kernel)) (hts (.initialized "java/lang/IllegalArgumentException") (by decide +kernel)) hstr (fun w hw ho => hE.1.at _ ho (at_IAE w hw ho)) nt_IAE hE.2.1 hE.2.2.1 hS (hl.1.trans hml.symm) d_De_every_4 d_De_every_7 d_De_every_8 d_De_every_10 d_De_every_13 (hno 13) (by decide) (by decide) (by decide) (by decide) hlocks (w_thr rfl hAe (w_bad (i := 0) rfl (q_n (fun z => h1 (b_nlt0 z))) hR0 (Nat.le_succ _)) hP hA hS) hS.2.2
set_option maxHeartbeats 4000000 in
set_option maxRecDepth 100000 in
/-- collect() -/
theorem c_De_collect (l : Launch) (hst : l.stackTraces = false) (D : va_G) (cK cI cN cZ cL : ClassId) (g : y_G) (sz : Nat) (a : Ab) (cn d : Nat)  (hw : a_W a cn) (hcn : cn < 2 ^ 30) (hR : c_R cK cI a g d cn) : x_M l y_De_collect [.code y_De_collect b_De_collect 1 (some .int)] rmP (w_Pc D (x_tys cK cI cN cZ cL) [.ref d] g sz) (w_Qc D g sz (fun r g9 => x_out [] (s_collect a) r ∧ c_R cK cI (s_collect a).2.2 g9 d (cn + 1))) 6 60 (y_A g sz) := by
  refine x_ofW (cc := b_De_collect) (maxL := 1) (ret := (some .int)) (by decide) rfl ?_
  intro p e s m args below meth c s₁ B hml hno hv
  obtain ⟨rfl, hsz, hP, hE⟩ := hv
  subst hsz
  have hts := hE.hts ([.ref d] : List Value).toArray
  have hK := hE.1.2.1
  have hA0 : ∀ q, s.heap.size ≤ q → y_A g s.heap.size q := fun q h => Or.inr h
  have hA : ∀ q e, g q = some e → y_A g s.heap.size q := fun q e h => Or.inl (by rw [h]; exact fun z => nomatch z)
  have hS : va_S (y_A g s.heap.size) s.heap s.heap [] := va_S.rf
  generalize hAe : y_A g s.heap.size = A at hE hA0 hA hS ⊢
  have hx := B.exec
  have hb := B.bytes
  have hr := B.returns
  have hlocks := B.notSynchronized
  have hown : s.vm.findClass R_De = some m.cls := findClass_of_methodNamed B.named
  have hl := lv_entry ([.ref d]) (n := 1) (Nat.le_of_ble_eq_true rfl)
  rw [lg_entry_eq]
  generalize (lg_sl ([.ref d]) ++ List.replicate (1 - (lg_sl ([.ref d])).length) Slot.unset).toArray = ls at hl ⊢
  have hl : lv_has ls 1 [(0, .ref d)] := hl
  have hR0 := hR
  obtain ⟨ka, sa, fk, fs, ad, cs, ks, itv, u, wk, sn, np, lv, hC, hsn, hwk, hu, hum, hlv⟩ := hR
  have hn9 : a.n ≤ cn := hw.2.2.2.2.2.2.2.2.2.1
  have hmm : a.mem ≤ 65536 := hw.2.2.2.2.2.2.2.2.1
  refine lv_aload_n hx hb d_De_collect_0 rfl (lv_at hl 0 rfl) ?_
  refine w_callV (As := []) (C := R_De) ⟨hx, hb, hml, hown, hts⟩ (c_De_clearAway l D cK cI cN cZ cL _ _ a cn d ka sa fk fs ad cs ks itv (nI u) wk sn np hw hcn hC hsn (by omega)) (x_cb (cwV (own := R_De) (index := 148) (C := R_De) 0 hts (x_gi (by decide +kernel)) rfl rfl rfl (by decide +kernel) ⟨by decide, by decide⟩).1) (hts (.instanceMethod y_De_clearAway) (by decide +kernel)) (hts (.selects R_De y_De_clearAway y_De_clearAway) (by decide +kernel)) (y_recv (ci := 4) (q := (R_De, F_De, 11)) hK hP rfl hC.1.1) hE hP hA hA0 hS rfl hl.1 rfl (lv_room (Nat.le_of_ble_eq_true rfl)) d_De_collect_1 (by first | decide | omega) (by first | decide | omega) (fun v9 g9 H locs hq9 hP hA hS => ?_) (fun E9 q9 ce9 g9 H locs hq9 hP hA hS z1 z2 z3 => ?_)
  · skip
    obtain ⟨hv9, sn2, np2, hC2, hsn2⟩ := hq9
    cases hv9
    refine W.eq (g2 := F0 m 4 ls []) rfl ?_
    have hle : a_use a ≤ u := by rw [hu]; exact z_le (fun o _ _ z => hlv o z)
    refine lv_aload_n hx hb d_De_collect_4 rfl (lv_at hl 0 rfl) ?_
    refine y_get (D := D) (ci := 4) (v := .int (nI (a_use a))) (C := R_De) (T := F_De) (N := 11) hx hb hts in_De hown hK hP hC2.1.1 rfl 8 (by decide) (hts (.fieldLink R_De 145 "MemoryDesk" "used" "I") (by decide +kernel)) (fun _ h9 => h9) rfl d_De_collect_5 ?_
    refine W.widen (k := 6) (n := 60) (by first | decide | omega) (by first | decide | omega) ?_
    exact x_ret (W.iret (v := (nI (a_use a))) hx hb hr (w_fin rfl hAe (w_good (v := some (.int (nI (a_use a)))) rfl (c_R.of2 (lv := a_R a) hC2 hsn2 (by omega) rfl (by omega) (fun _ z => z) rfl (fun _ _ _ => rfl) (fun o z => z))) hP hA hS) hS.2.2 d_De_collect_8)
  · skip
    exact nomatch hq9.1
theorem b_lt16 {w : Int32} (h : w < 0) : w < 16 := by
  rw [Int32.lt_iff_toInt_lt] at h ⊢
  have e1 : (16 : Int32).toInt = 16 := rfl
  have e0 : (0 : Int32).toInt = 0 := rfl
  omega
set_option maxHeartbeats 4000000 in
set_option maxRecDepth 100000 in
/-- memory(words) -/
theorem c_De_memory (l : Launch) (hst : l.stackTraces = false) (D : va_G) (cK cI cN cZ cL : ClassId) (g : y_G) (sz : Nat) (a : Ab) (cn d : Nat) (w : Int32) (hw : a_W a cn) (hcn : cn < 2 ^ 30) (hR : c_R cK cI a g d cn) : x_M l y_De_memory [.code y_De_memory b_De_memory 2 (some .boolean)] rmP (w_Pc D (x_tys cK cI cN cZ cL) [.ref d, .int w] g sz) (w_Qc D g sz (fun r g9 => x_out [xIAE] (s_memory a w) r ∧ c_R cK cI (s_memory a w).2.2 g9 d (cn + 1))) 6 60 (y_A g sz) := by
  refine x_ofW (cc := b_De_memory) (maxL := 2) (ret := (some .boolean)) (by decide) rfl ?_
  intro p e s m args below meth c s₁ B hml hno hv
  obtain ⟨rfl, hsz, hP, hE⟩ := hv
  subst hsz
  have hts := hE.hts ([.ref d, .int w] : List Value).toArray
  have hK := hE.1.2.1
  have hA0 : ∀ q, s.heap.size ≤ q → y_A g s.heap.size q := fun q h => Or.inr h
  have hA : ∀ q e, g q = some e → y_A g s.heap.size q := fun q e h => Or.inl (by rw [h]; exact fun z => nomatch z)
  have hS : va_S (y_A g s.heap.size) s.heap s.heap [] := va_S.rf
  generalize hAe : y_A g s.heap.size = A at hE hA0 hA hS ⊢
  have hx := B.exec
  have hb := B.bytes
  have hr := B.returns
  have hlocks := B.notSynchronized
  have hown : s.vm.findClass R_De = some m.cls := findClass_of_methodNamed B.named
  have hl := lv_entry ([.ref d, .int w]) (n := 2) (Nat.le_of_ble_eq_true rfl)
  rw [lg_entry_eq]
  generalize (lg_sl ([.ref d, .int w]) ++ List.replicate (2 - (lg_sl ([.ref d, .int w])).length) Slot.unset).toArray = ls at hl ⊢
  have hl : lv_has ls 2 [(0, .ref d), (1, .int w)] := hl
  have hR0 := hR
  obtain ⟨ka, sa, fk, fs, ad, cs, ks, itv, u, wk, sn, np, lv, hC, hsn, hwk, hu, hum, hlv⟩ := hR
  have hn9 : a.n ≤ cn := hw.2.2.2.2.2.2.2.2.2.1
  have hmm : a.mem ≤ 65536 := hw.2.2.2.2.2.2.2.2.1
  obtain ⟨QQ, hQ⟩ : ∃ z, z = x_Q below (w_Qc D g s.heap.size (fun r g9 => x_out [xIAE] (s_memory a w) r ∧ c_R cK cI (s_memory a w).2.2 g9 d (cn + 1))) ([.ref d, .int w] : List Value).toArray s 6 60 A := ⟨_, rfl⟩
  rw [← hQ]
  have tail : ∀ (ls : Array Slot) (H : Heap) (locs : List Loc) (g : y_G) (u1 wk1 : Nat) (sn1 : Nat → Nat) (np1 : Nat → Option Nat) (lv1 : Nat → Prop), ¬ w < 16 → w ≤ 65536 → lv_has ls 2 [(1, .int w), (0, .ref d)] → y_P D vwCl g H → (∀ q99 e99, g q99 = some e99 → A q99) → va_S A s.heap H locs → c_S a g d ka sa cK cI fk fs ad cs ks itv (nI u1) wk1 sn1 np1 none → (∀ o, 1 ≤ o → o ≤ a.n → sn1 o ≤ wk1) → wk1 ≤ cn + 1 → u1 = z_sum (a_wd a) lv1 a.n → u1 ≤ a.mem → (∀ o, a_R a o → lv1 o) → (u1 ≤ j_n w ∨ u1 = a_use a) → W p l e rmP s m ([.ref d, .int w] : List Value).toArray below meth c H locs 0 0 QQ (F0 m 34 ls []) := by
    intro ls H locs g u1 wk1 sn1 np1 lv1 hw1 hw2 hl hP hA hS hC hsn hwk hu hum hlv hor
    obtain ⟨jw, jw1, jw2⟩ := nI_of2 (n := 65536) (M := 65536) rfl (fun z => hw1 (b_lt16 z)) hw2
    have hj : j_n w = jw := by rw [jw2]; exact nI_clamp (by omega)
    have hle : a_use a ≤ u1 := by rw [hu]; exact z_le (fun o _ _ z => hlv o z)
    refine lv_aload_n hx hb d_De_memory_34 rfl (lv_at hl 1 rfl) ?_
    refine y_get (D := D) (ci := 4) (v := .int (nI u1)) (C := R_De) (T := F_De) (N := 11) hx hb hts in_De hown hK hP hC.1.1 rfl 8 (by decide) (hts (.fieldLink R_De 145 "MemoryDesk" "used" "I") (by decide +kernel)) (fun _ h9 => h9) rfl d_De_memory_35 ?_
    refine lv_iload_n hx hb d_De_memory_38 rfl (lv_at hl 0 rfl) ?_
    refine lv_icmp_le hx hb d_De_memory_39 rfl (fun h1 => ?_) (fun h1 => ?_)
    · -- if_icmple at 39: to 44
      have hfit : u1 ≤ jw := (nI_leI (by omega) (by omega)).mp (by rw [← jw2]; exact h1)
      refine lv_aload_n hx hb d_De_memory_44 rfl (lv_at hl 1 rfl) ?_
      refine lv_iload_n hx hb d_De_memory_45 rfl (lv_at hl 0 rfl) ?_
      refine y_put (D := D) (ci := 4) (v := .int w) (ty := .int) (C := R_De) (T := F_De) (N := 11) hx hb hts in_De t_De t_De_ok n_De hown hK hP hA hS hC.1.1 rfl 2 (by decide) (hts (.fieldLink R_De 22 "MemoryDesk" "limit" "I") (by decide +kernel)) (fun _ h9 => h9) rfl (by decide +kernel) rfl rfl (Nat.le_of_ble_eq_true rfl) d_De_memory_46 (fun H locs hP hA hS => ?_)
      have hP : y_P D vwCl (va_up g d (some (.inr (4, [.ref ka, .ref sa, .int w, .int (nI a.n), .int (nI a.kc), .int (nI a.nn), .int itv, va_rf (ks.head?.map ad), .int (nI u1), .int (nI wk1), .null])))) H := hP
      have hA : ∀ q99 e99, (va_up g d (some (.inr (4, [.ref ka, .ref sa, .int w, .int (nI a.n), .int (nI a.kc), .int (nI a.nn), .int itv, va_rf (ks.head?.map ad), .int (nI u1), .int (nI wk1), .null])))) q99 = some e99 → A q99 := hA
      refine lv_iconst (v := 1) hx hb d_De_memory_49 (by decide) ?_
      rw [hQ]
      have hC2 : c_S (a_memo a jw) (va_up g d (some (.inr (4, [.ref ka, .ref sa, .int w, .int (nI a.n), .int (nI a.kc), .int (nI a.nn), .int itv, va_rf (ks.head?.map ad), .int (nI u1), .int (nI wk1), .null])))) d ka sa cK cI fk fs ad cs ks itv (nI u1) wk1 sn1 np1 none := by
        have := hC.nums (a' := a_memo a jw) (itv' := itv) (us' := nI u1) rfl rfl rfl rfl rfl rfl rfl (fun _ => Iff.rfl)
        rw [jw2]
        exact this
      refine W.widen (k := 6) (n := 60) (by first | decide | omega) (by first | decide | omega) ?_
      exact x_ret (W.zret (v := 1) hx hb hr rfl (w_fin rfl hAe (w_good (v := some (.int 1)) (((q_y ⟨hw1, hw2⟩).trans (q_y (by rw [hj]; omega))).trans (by rw [w_b1 trivial, hj])) (c_R.of2 hC2 hsn hwk hu hfit hlv rfl (fun _ _ _ => rfl) (fun o z => z))) hP hA hS) hS.2.2 d_De_memory_50)
    · -- if_icmple at 39: to 42
      have hfit : ¬ u1 ≤ jw := fun z => h1 (by rw [jw2]; exact (nI_leI (by omega) (by omega)).mpr z)
      have he := hor.resolve_left (by rw [hj]; exact hfit)
      refine lv_iconst (v := 0) hx hb d_De_memory_42 (by decide) ?_
      rw [hQ]
      refine W.widen (k := 6) (n := 60) (by first | decide | omega) (by first | decide | omega) ?_
      exact x_ret (W.zret (v := 0) hx hb hr rfl (w_fin rfl hAe (w_good (v := some (.int 0)) (((q_y ⟨hw1, hw2⟩).trans (q_n (by rw [hj]; omega))).trans (by rw [w_b0 (fun z => z)])) (c_R.of2 hC hsn hwk hu hum hlv rfl (fun _ _ _ => rfl) (fun o z => z))) hP hA hS) hS.2.2 d_De_memory_43)
  refine lv_iload_n hx hb d_De_memory_0 rfl (lv_at hl 1 rfl) ?_
  refine lv_bipush (v := 16) hx hb d_De_memory_1 (by decide) ?_
  refine lv_icmp_lt hx hb d_De_memory_3 rfl (fun h2 => ?_) (fun h2 => ?_)
  · -- if_icmplt at 3: to 12
    rw [hQ]
    obtain ⟨sa, hstr⟩ := hE.1.2.2.2.1 (143, "words is not 16..65536") (by decide)
    refine W.widen (k := 6 - 1) (n := 60 - 6) (by first | decide | omega) (by first | decide | omega) ?_
    exact x_throw (A := A) (cls := "java/lang/IllegalArgumentException") (names := ["java/lang/RuntimeException", "java/lang/Exception"]) hx hb hst hown (by decide) (by decide) (hts (.classLink R_De 30 "java/lang/IllegalArgumentException") (by decide +kernel)) (hts (.initialized "java/lang/IllegalArgumentException") (by decide +kernel)) hstr (fun w hw ho => hE.1.at _ ho (at_IAE w hw ho)) nt_IAE hE.2.1 hE.2.2.1 hS (hl.1.trans hml.symm) d_De_memory_12 d_De_memory_15 d_De_memory_16 d_De_memory_18 d_De_memory_21 (hno 21) (by decide) (by decide) (by decide) (by decide) hlocks (w_thr rfl hAe (w_bad (i := 0) rfl (q_n (fun z => z.1 h2)) hR0 (Nat.le_succ _)) hP hA hS) hS.2.2
  · -- if_icmplt at 3: to 6
    refine lv_iload_n hx hb d_De_memory_6 rfl (lv_at hl 1 rfl) ?_
    refine lv_ldc (own := R_De) (index := 21) (v := 65536) hx hb hown (hts (.constant R_De 21 65536) (by decide +kernel)) d_De_memory_7 ?_
    refine lv_icmp_le hx hb d_De_memory_9 rfl (fun h3 => ?_) (fun h3 => ?_)
    · -- if_icmple at 9: to 22
      refine lv_aload_n hx hb d_De_memory_22 rfl (lv_at hl 0 rfl) ?_
      refine y_get (D := D) (ci := 4) (v := .int (nI u)) (C := R_De) (T := F_De) (N := 11) hx hb hts in_De hown hK hP hC.1.1 rfl 8 (by decide) (hts (.fieldLink R_De 145 "MemoryDesk" "used" "I") (by decide +kernel)) (fun _ h9 => h9) rfl d_De_memory_23 ?_
      refine lv_iload_n hx hb d_De_memory_26 rfl (lv_at hl 1 rfl) ?_
      obtain ⟨jw, jw1, jw2⟩ := nI_of2 (n := 65536) (M := 65536) rfl (fun z => h2 (b_lt16 z)) h3
      have hj : j_n w = jw := by rw [jw2]; exact nI_clamp (by omega)
      refine lv_icmp_le hx hb d_De_memory_27 rfl (fun h4 => ?_) (fun h4 => ?_)
      · -- if_icmple at 27: to 34
        have hfit : u ≤ jw := (nI_leI (by omega) (by omega)).mp (by rw [← jw2]; exact h4)
        have hl : lv_has ls 2 [(1, .int w), (0, .ref d)] := lv_sub hl [1, 0] rfl
        exact tail ls s.heap [] g u wk sn np lv h2 h3 hl hP hA hS hC hsn (by omega) hu hum hlv (Or.inl (by rw [hj]; exact hfit))
      · -- if_icmple at 27: to 30
        refine lv_aload_n hx hb d_De_memory_30 rfl (lv_at hl 0 rfl) ?_
        refine w_callV (As := []) (C := R_De) ⟨hx, hb, hml, hown, hts⟩ (c_De_clearAway l D cK cI cN cZ cL _ _ a cn d ka sa fk fs ad cs ks itv (nI u) wk sn np hw hcn hC hsn (by omega)) (x_cb (cwV (own := R_De) (index := 148) (C := R_De) 0 hts (x_gi (by decide +kernel)) rfl rfl rfl (by decide +kernel) ⟨by decide, by decide⟩).1) (hts (.instanceMethod y_De_clearAway) (by decide +kernel)) (hts (.selects R_De y_De_clearAway y_De_clearAway) (by decide +kernel)) (y_recv (ci := 4) (q := (R_De, F_De, 11)) hK hP rfl hC.1.1) hE hP hA hA0 hS rfl hl.1 rfl (lv_room (Nat.le_of_ble_eq_true rfl)) d_De_memory_31 (by first | decide | omega) (by first | decide | omega) (fun v9 g9 H locs hq9 hP hA hS => ?_) (fun E9 q9 ce9 g9 H locs hq9 hP hA hS z1 z2 z3 => ?_)
        · skip
          obtain ⟨hv9, sn2, np2, hC2, hsn2⟩ := hq9
          cases hv9
          have hle : a_use a ≤ u := by rw [hu]; exact z_le (fun o _ _ z => hlv o z)
          have hl : lv_has ls 2 [(1, .int w), (0, .ref d)] := lv_sub hl [1, 0] rfl
          exact tail ls H locs g9 (a_use a) (wk + 1) sn2 np2 (a_R a) h2 h3 hl hP hA hS hC2 hsn2 (by omega) rfl (by omega) (fun _ z => z) (Or.inr rfl)
        · skip
          exact nomatch hq9.1
    · -- if_icmple at 9: to 12
      rw [hQ]
      obtain ⟨sa, hstr⟩ := hE.1.2.2.2.1 (143, "words is not 16..65536") (by decide)
      refine W.widen (k := 6 - 1) (n := 60 - 6) (by first | decide | omega) (by first | decide | omega) ?_
      exact x_throw (A := A) (cls := "java/lang/IllegalArgumentException") (names := ["java/lang/RuntimeException", "java/lang/Exception"]) hx hb hst hown (by decide) (by decide) (hts (.classLink R_De 30 "java/lang/IllegalArgumentException") (by decide +kernel)) (hts (.initialized "java/lang/IllegalArgumentException") (by decide +kernel)) hstr (fun w hw ho => hE.1.at _ ho (at_IAE w hw ho)) nt_IAE hE.2.1 hE.2.2.1 hS (hl.1.trans hml.symm) d_De_memory_12 d_De_memory_15 d_De_memory_16 d_De_memory_18 d_De_memory_21 (hno 21) (by decide) (by decide) (by decide) (by decide) hlocks (w_thr rfl hAe (w_bad (i := 0) rfl (q_n (fun z => h3 z.2)) hR0 (Nat.le_succ _)) hP hA hS) hS.2.2
set_option maxHeartbeats 4000000 in
set_option maxRecDepth 100000 in
/-- make(s, k, n) -/
theorem c_De_make (l : Launch) (hst : l.stackTraces = false) (D : va_G) (cK cI cN cZ cL : ClassId) (g : y_G) (sz : Nat) (a : Ab) (cn d : Nat) (sv k n : Int32) (hw : a_W a cn) (hcn : cn < 2 ^ 30) (hR : c_R cK cI a g d cn) : x_M l y_De_make [.code y_De_make b_De_make 6 (some .int)] rmP (w_Pc D (x_tys cK cI cN cZ cL) [.ref d, .int sv, .int k, .int n] g sz) (w_Qc D g sz (fun r g9 => x_out [xIAE, xISE, xUOE] (s_make a sv k n) r ∧ c_R cK cI (s_make a sv k n).2.2 g9 d (cn + 1))) 6 60 (y_A g sz) := by
  refine x_ofW (cc := b_De_make) (maxL := 6) (ret := (some .int)) (by decide) rfl ?_
  intro p e s m args below meth c s₁ B hml hno hv
  obtain ⟨rfl, hsz, hP, hE⟩ := hv
  subst hsz
  have hts := hE.hts ([.ref d, .int sv, .int k, .int n] : List Value).toArray
  have hK := hE.1.2.1
  have hA0 : ∀ q, s.heap.size ≤ q → y_A g s.heap.size q := fun q h => Or.inr h
  have hA : ∀ q e, g q = some e → y_A g s.heap.size q := fun q e h => Or.inl (by rw [h]; exact fun z => nomatch z)
  have hS : va_S (y_A g s.heap.size) s.heap s.heap [] := va_S.rf
  generalize hAe : y_A g s.heap.size = A at hE hA0 hA hS ⊢
  have hx := B.exec
  have hb := B.bytes
  have hr := B.returns
  have hlocks := B.notSynchronized
  have hown : s.vm.findClass R_De = some m.cls := findClass_of_methodNamed B.named
  have hl := lv_entry ([.ref d, .int sv, .int k, .int n]) (n := 6) (Nat.le_of_ble_eq_true rfl)
  rw [lg_entry_eq]
  generalize (lg_sl ([.ref d, .int sv, .int k, .int n]) ++ List.replicate (6 - (lg_sl ([.ref d, .int sv, .int k, .int n])).length) Slot.unset).toArray = ls at hl ⊢
  have hl : lv_has ls 6 [(0, .ref d), (1, .int sv), (2, .int k), (3, .int n)] := hl
  have hR0 := hR
  obtain ⟨ka, sa, fk, fs, ad, cs, ks, itv, u, wk, sn, np, lv, hC, hsn, hwk, hu, hum, hlv⟩ := hR
  have hn9 : a.n ≤ cn := hw.2.2.2.2.2.2.2.2.2.1
  have hmm : a.mem ≤ 65536 := hw.2.2.2.2.2.2.2.2.1
  refine lv_iload_n hx hb d_De_make_0 rfl (lv_at hl 1 rfl) ?_
  refine w_callS (As := [.int sv]) ⟨hx, hb, hml, hown, hts⟩ (c_De_checkSlot l hst D _ _ _ sv) (x_cb (va_cwS (own := R_De) (index := 53) 1 hts (x_gi (by decide +kernel)) rfl rfl rfl (by decide +kernel) ⟨by decide, by decide⟩).1) (hts (.static y_De_checkSlot) (by decide +kernel)) hE hP hA hA0 hS rfl hl.1 rfl (lv_room (Nat.le_of_ble_eq_true rfl)) d_De_make_1 (by first | decide | omega) (by first | decide | omega) (fun v9 g9 H locs hq9 hP hA hS => ?_) (fun E9 q9 ce9 g9 H locs hq9 hP hA hS z1 z2 z3 => ?_)
  · skip
    obtain ⟨hg9, hq9⟩ := hq9
    rw [hg9] at hP hA
    rcases hq9 with ⟨hv9, hs⟩ | ⟨hv9, -⟩
    · cases hv9
      refine W.eq (g2 := F0 m 4 ls []) rfl ?_
      refine lv_iload_n hx hb d_De_make_4 rfl (lv_at hl 2 rfl) ?_
      refine w_callS (As := [.int k]) ⟨hx, hb, hml, hown, hts⟩ (c_De_checkKind l hst D _ _ _ k) (x_cb (va_cwS (own := R_De) (index := 56) 1 hts (x_gi (by decide +kernel)) rfl rfl rfl (by decide +kernel) ⟨by decide, by decide⟩).1) (hts (.static y_De_checkKind) (by decide +kernel)) hE hP hA hA0 hS rfl hl.1 rfl (lv_room (Nat.le_of_ble_eq_true rfl)) d_De_make_5 (by first | decide | omega) (by first | decide | omega) (fun v9 g9 H locs hq9 hP hA hS => ?_) (fun E9 q9 ce9 g9 H locs hq9 hP hA hS z1 z2 z3 => ?_)
      · skip
        obtain ⟨hg9, hq9⟩ := hq9
        rw [hg9] at hP hA
        rcases hq9 with ⟨hv9, hk⟩ | ⟨hv9, -⟩
        · cases hv9
          refine W.eq (g2 := F0 m 8 ls []) rfl ?_
          refine lv_aload_n hx hb d_De_make_8 rfl (lv_at hl 0 rfl) ?_
          refine y_get (D := D) (ci := 4) (v := .ref ka) (C := R_De) (T := F_De) (N := 11) hx hb hts in_De hown hK hP hC.1.1 rfl 0 (by decide) (hts (.fieldLink R_De 11 "MemoryDesk" "kinds" "[LMemoryDesk$Kind;") (by decide +kernel)) (fun _ h9 => h9) rfl d_De_make_9 ?_
          refine lv_iload_n hx hb d_De_make_12 rfl (lv_at hl 2 rfl) ?_
          refine y_aldq hx hb hK hP 0 hC.1.2.1 rfl hk.v16 d_De_make_13 ?_
          have hkn := hC.2.1 (j_n k) hk.j16
          obtain ⟨o_xk, hxk⟩ : ∃ z, (fk k.toNatClampNeg) = z := ⟨_, rfl⟩
          refine W.eq (g2 := F0 m 14 ls [va_rf o_xk]) (congrArg (fun z => F0 m 14 ls [va_rf z]) hxk) ?_
          cases o_xk with
          | none =>
            refine lv_astoreN hx hb d_De_make_14 hl (by decide) rfl (fun ls hl => ?_)
            have hl : lv_has ls 6 [(4, .null), (0, .ref d), (1, .int sv), (2, .int k), (3, .int n)] := hl
            refine lv_aloadN hx hb d_De_make_16 (lv_at hl 0 rfl) ?_
            refine lv_ifnullN hx hb d_De_make_18 rfl ?_
            refine lv_aloadN hx hb d_De_make_40 (lv_at hl 0 rfl) ?_
            refine lv_ifnonnullN hx hb d_De_make_42 ?_
            have hkd : a.kd (j_n k) = none := by
              rcases hkn with z | ⟨q, xk, z1, z2, -⟩
              · exact z.1
              · rw [show fk (j_n k) = none from hxk] at z2; cases z2
            obtain ⟨sa, hstr⟩ := hE.1.2.2.2.1 (67, "the kind is not defined") (by decide)
            refine W.widen (k := 6 - 1) (n := 60 - 6) (by first | decide | omega) (by first | decide | omega) ?_
            exact x_throw (A := A) (cls := "java/lang/IllegalStateException") (names := ["java/lang/RuntimeException", "java/lang/Exception"]) hx hb hst hown (by decide) (by decide) (hts (.classLink R_De 65 "java/lang/IllegalStateException") (by decide +kernel)) (hts (.initialized "java/lang/IllegalStateException") (by decide +kernel)) hstr (fun w hw ho => hE.1.at _ ho (at_ISE w hw ho)) nt_ISE hE.2.1 hE.2.2.1 hS (hl.1.trans hml.symm) d_De_make_45 d_De_make_48 d_De_make_49 d_De_make_51 d_De_make_54 (hno 54) (by decide) (by decide) (by decide) (by decide) hlocks (w_thr rfl hAe (w_bad (i := 1) rfl ((q_y ⟨hs, hk, fun q z => by rw [hkd] at z; cases z⟩).trans (by rw [hkd])) hR0 (Nat.le_succ _)) hP hA hS) hS.2.2
          | some xk =>
            obtain ⟨qk, hkd, hkq⟩ : ∃ qk, a.kd (j_n k) = some qk ∧ c_kq g xk qk := by
              rcases hkn with z | ⟨q, x9, z1, z2, z3⟩
              · rw [show fk (j_n k) = some xk from hxk] at z; cases z.2
              · rw [show fk (j_n k) = some xk from hxk] at z2; cases z2; exact ⟨q, z1, z3⟩
            have hkin := hw.1 _ _ hk.j16 hkd
            have hkq0 := hkq
            rcases hkq with ⟨h0, hkx⟩ | ⟨h0, hkx⟩
            · skip
              refine lv_astore hx hb d_De_make_14 hl (by decide) rfl (fun ls hl => ?_)
              have hl : lv_has ls 6 [(4, .ref xk), (0, .ref d), (1, .int sv), (2, .int k), (3, .int n)] := hl
              refine lv_aload hx hb d_De_make_16 (lv_at hl 0 rfl) ?_
              refine lv_ifnull hx hb d_De_make_18 ?_
              refine lv_aload hx hb d_De_make_21 (lv_at hl 0 rfl) ?_
              refine lv_iload_n hx hb d_De_make_23 rfl (lv_at hl 4 rfl) ?_
              refine vp_callSi (va_Run.run (va_runU (C := R_Pk) (owner := R_Ki) (x := ⟨R_Ki, "allows", "(I)Z"⟩) (As := [.int n]) ⟨hx, hb, hml, hown, hts⟩ (c_Pk_allows l D _ _ xk n) (va_cwA (own := R_De) (index := 59) 1 hts (x_gi (by decide +kernel)) rfl rfl rfl (hE.1.2.2.1 (.declares ⟨R_Ki, "allows", "(I)Z"⟩) (by decide +kernel)) (by decide +kernel) ⟨by decide, by decide⟩) ⟨w_Pp.blind, y_recv (ci := 2) (q := (R_Pk, F_Pk, 2)) hK hP rfl hkx, fun U hU hW => ⟨rfl, by rw [hU]; exact hP, hE.1.to hW⟩⟩ rfl rfl hl.1 rfl (lv_room (Nat.le_of_ble_eq_true rfl)) d_De_make_24 ⟨by first | decide | omega, by first | decide | omega⟩)) (fun r7 hr7 => ?_)
              refine lv_if_ne hx hb d_De_make_27 rfl (fun h1 => ?_) (fun h1 => (absurd hr7 (by rw [show r7 = 0 from h1]; decide)))
              obtain ⟨hmo, hm33⟩ := f_wdP (n := n) hkin h0
              have hcond : ∀ q, a.kd (j_n k) = some q → ¬ q.1 < 0 → ¬ n < 0 := fun q z1 z2 => by rw [hkd] at z1; cases z1; exact absurd h0 z2
              refine lv_aload hx hb d_De_make_40 (lv_at hl 0 rfl) ?_
              refine lv_ifnonnull hx hb d_De_make_42 rfl ?_
              refine lv_aload_n hx hb d_De_make_55 rfl (lv_at hl 1 rfl) ?_
              refine lv_aload hx hb d_De_make_56 (lv_at hl 0 rfl) ?_
              refine lv_iload_n hx hb d_De_make_58 rfl (lv_at hl 4 rfl) ?_
              refine vp_callSl (va_Run.run (va_runU (C := R_Pk) (owner := R_Ki) (x := ⟨R_Ki, "wordsFor", "(I)J"⟩) (As := [.int n]) ⟨hx, hb, hml, hown, hts⟩ (c_Pk_wordsFor l D _ _ xk n _ _ hkx) (va_cwA (own := R_De) (index := 70) 1 hts (x_gi (by decide +kernel)) rfl rfl rfl (hE.1.2.2.1 (.declares ⟨R_Ki, "wordsFor", "(I)J"⟩) (by decide +kernel)) (by decide +kernel) ⟨by decide, by decide⟩) ⟨w_Pp.blind, y_recv (ci := 2) (q := (R_Pk, F_Pk, 2)) hK hP rfl hkx, fun U hU hW => ⟨rfl, by rw [hU]; exact hP, hE.1.to hW⟩⟩ rfl rfl hl.1 rfl (lv_room (Nat.le_of_ble_eq_true rfl)) d_De_make_59 ⟨by first | decide | omega, by first | decide | omega⟩)) (fun r8 hr8 => ?_)
              have hr8 := hr8.trans hmo
              subst hr8
              refine w_callV (As := [.long (lN (a_more qk n))]) (C := R_De) ⟨hx, hb, hml, hown, hts⟩ (c_De_takeRoom l hst D cK cI cN cZ cL _ _ a cn d ka sa fk fs ad cs ks itv cn u (a_more qk n) hw hcn hm33 hcn ⟨wk, sn, np, lv, hC, hsn, hwk, hu, hum, hlv⟩) (x_cb (cwV (own := R_De) (index := 74) (C := R_De) 1 hts (x_gi (by decide +kernel)) rfl rfl rfl (by decide +kernel) ⟨by decide, by decide⟩).1) (hts (.instanceMethod y_De_takeRoom) (by decide +kernel)) (hts (.selects R_De y_De_takeRoom y_De_takeRoom) (by decide +kernel)) (y_recv (ci := 4) (q := (R_De, F_De, 11)) hK hP rfl hC.1.1) hE hP hA hA0 hS rfl hl.1 rfl (lv_room (Nat.le_of_ble_eq_true rfl)) d_De_make_62 (by first | decide | omega) (by first | decide | omega) (fun v9 gt H locs hq9 hP hA hS => ?_) (fun E9 q9 ce9 g9 H locs hq9 hP hA hS z1 z2 z3 => ?_)
              · skip
                rcases hq9 with ⟨hv9, -⟩ | ⟨hv9, hfit, u1, hfit1, wk1, sn1, np1, lv1, hC1, hsn1, hwk1, hu1, hum1, hlv1⟩
                · cases hv9
                · cases hv9
                  refine W.eq (g2 := F0 m 65 ls [.int (nI (a_more qk n))]) rfl ?_
                  refine lv_istore hx hb d_De_make_65 hl (by decide) rfl (fun ls hl => ?_)
                  have hl : lv_has ls 6 [(5, .int (nI (a_more qk n))), (4, .ref xk), (0, .ref d), (1, .int sv), (2, .int k), (3, .int n)] := hl
                  refine lv_aload_n hx hb d_De_make_67 rfl (lv_at hl 2 rfl) ?_
                  refine y_get (D := D) (ci := 4) (v := .ref sa) (C := R_De) (T := F_De) (N := 11) hx hb hts in_De hown hK hP hC1.1.1 rfl 1 (by decide) (hts (.fieldLink R_De 17 "MemoryDesk" "slots" "[LMemoryDesk$Item;") (by decide +kernel)) (fun _ h9 => h9) rfl d_De_make_68 ?_
                  refine lv_iload_n hx hb d_De_make_71 rfl (lv_at hl 3 rfl) ?_
                  refine y_new (ci := 1) (fs := [.null, .int 0, .int 0, .null, .int 0, .int 0, .null, .int 0, .null]) (C := R_It) (T := F_It) (N := 9) hx hb hts in_It t_It t_It_ok hown (hts (.classLink R_De 15 R_It) (by decide +kernel)) (hts (.instantiable R_It 9) (by decide +kernel)) (hts (.initialized R_It) (by decide +kernel)) hK hP hA hS hA0 rfl (fun j hj => by rcases (show j = 0 ∨ j = 1 ∨ j = 2 ∨ j = 3 ∨ j = 4 ∨ j = 5 ∨ j = 6 ∨ j = 7 ∨ j = 8 by omega) with rfl | rfl | rfl | rfl | rfl | rfl | rfl | rfl | rfl <;> rfl) (by first | decide | omega) (by first | decide | omega) d_De_make_72 (fun q H hg_q hP hA hS => ?_)
                  have hkx1 : gt xk = some (e_plain qk.2.1 qk.2.2) := by
                    rcases hC1.2.1 (j_n k) hk.j16 with z | ⟨q2, x9, z1, z2, z3⟩
                    · rw [show fk (j_n k) = some xk from hxk] at z; cases z.2
                    · rw [show fk (j_n k) = some xk from hxk] at z2; cases z2; rw [hkd] at z1; cases z1
                      rcases z3 with ⟨y0, y1⟩ | ⟨y0, y1⟩
                      · exact y1
                      · exact absurd h0 y0
                  have hxq : xk ≠ q := fun z => by rw [z, hg_q] at hkx1; cases hkx1
                  have hkx2 : va_up gt q (some (.inr (1, [.null, .int 0, .int 0, .null, .int 0, .int 0, .null, .int 0, .null]))) xk = some (e_plain qk.2.1 qk.2.2) := by rw [va_up_ne _ _ hxq]; exact hkx1
                  refine lv_dup hx hb d_De_make_75 rfl ?_
                  refine lv_aload hx hb d_De_make_76 (lv_at hl 1 rfl) ?_
                  refine lv_aload hx hb d_De_make_78 (lv_at hl 1 rfl) ?_
                  refine lv_iload_n hx hb d_De_make_80 rfl (lv_at hl 5 rfl) ?_
                  refine vp_callSi (va_Run.run (va_runU (C := R_Pk) (owner := R_Ki) (x := ⟨R_Ki, "lengthFor", "(I)I"⟩) (As := [.int n]) ⟨hx, hb, hml, hown, hts⟩ (c_Pk_lengthFor l D _ _ xk n _ _ hkx2) (va_cwA (own := R_De) (index := 78) 1 hts (x_gi (by decide +kernel)) rfl rfl rfl (hE.1.2.2.1 (.declares ⟨R_Ki, "lengthFor", "(I)I"⟩) (by decide +kernel)) (by decide +kernel) ⟨by decide, by decide⟩) ⟨w_Pp.blind, y_recv (ci := 2) (q := (R_Pk, F_Pk, 2)) hK hP rfl hkx2, fun U hU hW => ⟨rfl, by rw [hU]; exact hP, hE.1.to hW⟩⟩ rfl rfl hl.1 rfl (lv_room (Nat.le_of_ble_eq_true rfl)) d_De_make_81 ⟨by first | decide | omega, by first | decide | omega⟩)) (fun r6 hr6 => ?_)
                  refine lv_iload hx hb d_De_make_84 (lv_at hl 0 rfl) ?_
                  refine w_callI (As := [.ref xk, .int r6, .int (nI (a_more qk n))]) (bytes := b_It_init) ⟨hx, hb, hml, hown, hts⟩ (c_It_init l D _ _ _ q xk r6 (nI (a_more qk n)) (va_up_self _ _ _)) (x_cb (cwI (own := R_De) (index := 82) 3 hts (x_gi (by decide +kernel)) rfl rfl rfl (hts (.initialized R_It) (by decide +kernel)) (hts (.methodLink R_De 82 y_It_init) (by decide +kernel)) (hts (.instanceMethod y_It_init) (by decide +kernel)) rfl (by decide +kernel) ⟨by decide, by decide⟩).1) rfl (hts (.instanceMethod y_It_init) (by decide +kernel)) (hts (.code y_It_init b_It_init 4 none) (by decide +kernel)) hE hP hA hA0 hS (fun _ _ z => nomatch z.1) rfl hl.1 rfl (lv_room (Nat.le_of_ble_eq_true rfl)) d_De_make_86 (by first | decide | omega) (by first | decide | omega) (fun v9 g9 H locs hq9 hP hA hS => ?_)
                  obtain ⟨hv9, hg9⟩ := hq9
                  cases hv9
                  rw [hg9] at hP hA
                  refine W.eq (g2 := F0 m 89 ls [.ref q, .int sv, .ref sa]) rfl ?_
                  rw [bx_uu] at hP hA
                  have hP : y_P D vwCl (va_up gt q (some (.inr (1, [.ref xk, .int r6, .int (nI (a_more qk n)), .null, .int 0, .int 0, .null, .int 0, .null])))) H := hP
                  have hA : ∀ q99 e99, (va_up gt q (some (.inr (1, [.ref xk, .int r6, .int (nI (a_more qk n)), .null, .int 0, .int 0, .null, .int 0, .null])))) q99 = some e99 → A q99 := hA
                  have hsq : sa ≠ q := fun z => by rw [← z, hC1.1.2.2] at hg_q; cases hg_q
                  have hdq : d ≠ q := fun z => by rw [← z, hC1.1.1] at hg_q; cases hg_q
                  have hds : d ≠ sa := fun z => hC1.dne.2.1 z.symm
                  have hsa1 : (va_up gt q (some (.inr (1, [.ref xk, .int r6, .int (nI (a_more qk n)), .null, .int 0, .int 0, .null, .int 0, .null])))) sa = some (e_refs cI 32 fs) := by rw [va_up_ne _ _ hsq]; exact hC1.1.2.2
                  refine y_astS (r := (R_It, F_It, 9)) hx hb hK hP hA hS 1 1 hsa1 rfl (va_up_self _ _ _) rfl hs.v32 d_De_make_89 (fun H locs hP hA hS => ?_)
                  have hP : y_P D vwCl (va_up (va_up gt q (some (.inr (1, [.ref xk, .int r6, .int (nI (a_more qk n)), .null, .int 0, .int 0, .null, .int 0, .null])))) sa (some (e_refs cI 32 (va_up fs (j_n sv) (some q))))) H := hP
                  have hA : ∀ q99 e99, (va_up (va_up gt q (some (.inr (1, [.ref xk, .int r6, .int (nI (a_more qk n)), .null, .int 0, .int 0, .null, .int 0, .null])))) sa (some (e_refs cI 32 (va_up fs (j_n sv) (some q))))) q99 = some e99 → A q99 := hA
                  refine lv_aload_n hx hb d_De_make_90 rfl (lv_at hl 2 rfl) ?_
                  refine lv_dup hx hb d_De_make_91 rfl ?_
                  have hd2 : (va_up (va_up gt q (some (.inr (1, [.ref xk, .int r6, .int (nI (a_more qk n)), .null, .int 0, .int 0, .null, .int 0, .null])))) sa (some (e_refs cI 32 (va_up fs (j_n sv) (some q))))) d = some (.inr (4, [.ref ka, .ref sa, .int (nI a.mem), .int (nI a.n), .int (nI a.kc), .int (nI a.nn), .int itv, va_rf (ks.head?.map ad), .int (nI (u1 + a_more qk n)), .int (nI wk1), .null])) := by rw [va_up_ne _ _ hds, va_up_ne _ _ hdq]; exact hC1.1.1
                  refine y_get (D := D) (ci := 4) (v := .int (nI a.n)) (C := R_De) (T := F_De) (N := 11) hx hb hts in_De hown hK hP hd2 rfl 3 (by decide) (hts (.fieldLink R_De 85 "MemoryDesk" "made" "I") (by decide +kernel)) (fun _ h9 => h9) rfl d_De_make_92 ?_
                  refine lv_iconst (v := 1) hx hb d_De_make_95 (by decide) ?_
                  refine lv_iadd hx hb d_De_make_96 ?_
                  rw [nI_1]
                  refine y_put (D := D) (ci := 4) (v := .int (nI (a.n + 1))) (ty := .int) (C := R_De) (T := F_De) (N := 11) hx hb hts in_De t_De t_De_ok n_De hown hK hP hA hS hd2 rfl 3 (by decide) (hts (.fieldLink R_De 85 "MemoryDesk" "made" "I") (by decide +kernel)) (fun _ h9 => h9) rfl (by decide +kernel) rfl rfl (Nat.le_of_ble_eq_true rfl) d_De_make_97 (fun H locs hP hA hS => ?_)
                  have hP : y_P D vwCl (va_up (va_up (va_up gt q (some (.inr (1, [.ref xk, .int r6, .int (nI (a_more qk n)), .null, .int 0, .int 0, .null, .int 0, .null])))) sa (some (e_refs cI 32 (va_up fs (j_n sv) (some q))))) d (some (.inr (4, [.ref ka, .ref sa, .int (nI a.mem), .int (nI (a.n + 1)), .int (nI a.kc), .int (nI a.nn), .int itv, va_rf (ks.head?.map ad), .int (nI (u1 + a_more qk n)), .int (nI wk1), .null])))) H := hP
                  have hA : ∀ q99 e99, (va_up (va_up (va_up gt q (some (.inr (1, [.ref xk, .int r6, .int (nI (a_more qk n)), .null, .int 0, .int 0, .null, .int 0, .null])))) sa (some (e_refs cI 32 (va_up fs (j_n sv) (some q))))) d (some (.inr (4, [.ref ka, .ref sa, .int (nI a.mem), .int (nI (a.n + 1)), .int (nI a.kc), .int (nI a.nn), .int itv, va_rf (ks.head?.map ad), .int (nI (u1 + a_more qk n)), .int (nI wk1), .null])))) q99 = some e99 → A q99 := hA
                  refine lv_aload_n hx hb d_De_make_100 rfl (lv_at hl 2 rfl) ?_
                  refine y_get (D := D) (ci := 4) (v := .int (nI (a.n + 1))) (C := R_De) (T := F_De) (N := 11) hx hb hts in_De hown hK hP (va_up_self _ _ _) rfl 3 (by decide) (hts (.fieldLink R_De 85 "MemoryDesk" "made" "I") (by decide +kernel)) (fun _ h9 => h9) rfl d_De_make_101 ?_
                  have hfin : c_R cK cI (a_new a (j_n sv) (j_n k) n) (va_up (va_up (va_up gt q (some (.inr (1, [.ref xk, .int r6, .int (nI (a_more qk n)), .null, .int 0, .int 0, .null, .int 0, .null])))) sa (some (e_refs cI 32 (va_up fs (j_n sv) (some q))))) d (some (.inr (4, [.ref ka, .ref sa, .int (nI a.mem), .int (nI (a.n + 1)), .int (nI a.kc), .int (nI a.nn), .int itv, va_rf (ks.head?.map ad), .int (nI (u1 + a_more qk n)), .int (nI wk1), .null])))) d (cn + 1) := c_R.new (q := q) (x := xk) (len := r6) hw hcn hkd hC1 hsn1 hwk1 hu1 hfit1 hlv1 hg_q hxk hxq (hr6.trans (if_pos h0).symm) (by rw [va_up_ne _ _ hdq.symm, va_up_ne _ _ hsq.symm, va_up_self]; rfl) (by rw [va_up_ne _ _ hds.symm, va_up_self]) (va_up_self _ _ _) (fun z z1 z2 z3 => by rw [va_up_ne _ _ z3, va_up_ne _ _ z2, va_up_ne _ _ z1])
                  refine W.widen (k := 6) (n := 60) (by first | decide | omega) (by first | decide | omega) ?_
                  exact x_ret (W.iret (v := (nI (a.n + 1))) hx hb hr (w_fin rfl hAe (w_good (v := some (.int (nI (a.n + 1)))) ((s_make_s hs hk hcond hkd).trans (q_y hfit)) hfin) hP hA hS) hS.2.2 d_De_make_104)
              · skip
                rcases hq9 with ⟨hv9, hfit, hT9⟩ | ⟨hv9, -⟩
                · cases hv9
                  refine x_W.widen (k := 6) (n := 60) (by first | decide | omega) (by first | decide | omega) ?_
                  exact x_leave (hno 62) hlocks (w_lea rfl hAe (w_bad (i := 2) rfl ((s_make_s hs hk hcond hkd).trans (q_n hfit)) hT9.R (Nat.le_refl _)) hP hA hS z1 z2 z3) hS.2.2
                · cases hv9
            · skip
              refine lv_astore hx hb d_De_make_14 hl (by decide) rfl (fun ls hl => ?_)
              have hl : lv_has ls 6 [(4, .ref xk), (0, .ref d), (1, .int sv), (2, .int k), (3, .int n)] := hl
              refine lv_aload hx hb d_De_make_16 (lv_at hl 0 rfl) ?_
              refine lv_ifnull hx hb d_De_make_18 ?_
              refine lv_aload hx hb d_De_make_21 (lv_at hl 0 rfl) ?_
              refine lv_iload_n hx hb d_De_make_23 rfl (lv_at hl 4 rfl) ?_
              refine vp_callSi (va_Run.run (va_runU (C := R_Rk) (owner := R_Ki) (x := ⟨R_Ki, "allows", "(I)Z"⟩) (As := [.int n]) ⟨hx, hb, hml, hown, hts⟩ (c_Rk_allows l D _ _ xk n) (va_cwA (own := R_De) (index := 59) 1 hts (x_gi (by decide +kernel)) rfl rfl rfl (hE.1.2.2.1 (.declares ⟨R_Ki, "allows", "(I)Z"⟩) (by decide +kernel)) (by decide +kernel) ⟨by decide, by decide⟩) ⟨w_Pp.blind, y_recv (ci := 3) (q := (R_Rk, F_Rk, 2)) hK hP rfl hkx, fun U hU hW => ⟨rfl, by rw [hU]; exact hP, hE.1.to hW⟩⟩ rfl rfl hl.1 rfl (lv_room (Nat.le_of_ble_eq_true rfl)) d_De_make_24 ⟨by first | decide | omega, by first | decide | omega⟩)) (fun r7 hr7 => ?_)
              refine lv_if_ne hx hb d_De_make_27 rfl (fun h2 => ?_) (fun h2 => ?_)
              · -- ifne at 27: to 40
                have hn0 : ¬ n < 0 := by
                  rcases hr7 with z | z
                  · exact z.2
                  · exact absurd z.1 h2
                obtain ⟨hmo, hm33⟩ := f_wdR (n := n) hkin h0 hn0
                have hcond : ∀ q, a.kd (j_n k) = some q → ¬ q.1 < 0 → ¬ n < 0 := fun _ _ _ => hn0
                refine lv_aload hx hb d_De_make_40 (lv_at hl 0 rfl) ?_
                refine lv_ifnonnull hx hb d_De_make_42 rfl ?_
                refine lv_aload_n hx hb d_De_make_55 rfl (lv_at hl 1 rfl) ?_
                refine lv_aload hx hb d_De_make_56 (lv_at hl 0 rfl) ?_
                refine lv_iload_n hx hb d_De_make_58 rfl (lv_at hl 4 rfl) ?_
                refine vp_callSl (va_Run.run (va_runU (C := R_Rk) (owner := R_Ki) (x := ⟨R_Ki, "wordsFor", "(I)J"⟩) (As := [.int n]) ⟨hx, hb, hml, hown, hts⟩ (c_Rk_wordsFor l D _ _ xk n _ _ hkx) (va_cwA (own := R_De) (index := 70) 1 hts (x_gi (by decide +kernel)) rfl rfl rfl (hE.1.2.2.1 (.declares ⟨R_Ki, "wordsFor", "(I)J"⟩) (by decide +kernel)) (by decide +kernel) ⟨by decide, by decide⟩) ⟨w_Pp.blind, y_recv (ci := 3) (q := (R_Rk, F_Rk, 2)) hK hP rfl hkx, fun U hU hW => ⟨rfl, by rw [hU]; exact hP, hE.1.to hW⟩⟩ rfl rfl hl.1 rfl (lv_room (Nat.le_of_ble_eq_true rfl)) d_De_make_59 ⟨by first | decide | omega, by first | decide | omega⟩)) (fun r8 hr8 => ?_)
                have hr8 := hr8.trans hmo
                subst hr8
                refine w_callV (As := [.long (lN (a_more qk n))]) (C := R_De) ⟨hx, hb, hml, hown, hts⟩ (c_De_takeRoom l hst D cK cI cN cZ cL _ _ a cn d ka sa fk fs ad cs ks itv cn u (a_more qk n) hw hcn hm33 hcn ⟨wk, sn, np, lv, hC, hsn, hwk, hu, hum, hlv⟩) (x_cb (cwV (own := R_De) (index := 74) (C := R_De) 1 hts (x_gi (by decide +kernel)) rfl rfl rfl (by decide +kernel) ⟨by decide, by decide⟩).1) (hts (.instanceMethod y_De_takeRoom) (by decide +kernel)) (hts (.selects R_De y_De_takeRoom y_De_takeRoom) (by decide +kernel)) (y_recv (ci := 4) (q := (R_De, F_De, 11)) hK hP rfl hC.1.1) hE hP hA hA0 hS rfl hl.1 rfl (lv_room (Nat.le_of_ble_eq_true rfl)) d_De_make_62 (by first | decide | omega) (by first | decide | omega) (fun v9 gt H locs hq9 hP hA hS => ?_) (fun E9 q9 ce9 g9 H locs hq9 hP hA hS z1 z2 z3 => ?_)
                · skip
                  rcases hq9 with ⟨hv9, -⟩ | ⟨hv9, hfit, u1, hfit1, wk1, sn1, np1, lv1, hC1, hsn1, hwk1, hu1, hum1, hlv1⟩
                  · cases hv9
                  · cases hv9
                    refine W.eq (g2 := F0 m 65 ls [.int (nI (a_more qk n))]) rfl ?_
                    refine lv_istore hx hb d_De_make_65 hl (by decide) rfl (fun ls hl => ?_)
                    have hl : lv_has ls 6 [(5, .int (nI (a_more qk n))), (4, .ref xk), (0, .ref d), (1, .int sv), (2, .int k), (3, .int n)] := hl
                    refine lv_aload_n hx hb d_De_make_67 rfl (lv_at hl 2 rfl) ?_
                    refine y_get (D := D) (ci := 4) (v := .ref sa) (C := R_De) (T := F_De) (N := 11) hx hb hts in_De hown hK hP hC1.1.1 rfl 1 (by decide) (hts (.fieldLink R_De 17 "MemoryDesk" "slots" "[LMemoryDesk$Item;") (by decide +kernel)) (fun _ h9 => h9) rfl d_De_make_68 ?_
                    refine lv_iload_n hx hb d_De_make_71 rfl (lv_at hl 3 rfl) ?_
                    refine y_new (ci := 1) (fs := [.null, .int 0, .int 0, .null, .int 0, .int 0, .null, .int 0, .null]) (C := R_It) (T := F_It) (N := 9) hx hb hts in_It t_It t_It_ok hown (hts (.classLink R_De 15 R_It) (by decide +kernel)) (hts (.instantiable R_It 9) (by decide +kernel)) (hts (.initialized R_It) (by decide +kernel)) hK hP hA hS hA0 rfl (fun j hj => by rcases (show j = 0 ∨ j = 1 ∨ j = 2 ∨ j = 3 ∨ j = 4 ∨ j = 5 ∨ j = 6 ∨ j = 7 ∨ j = 8 by omega) with rfl | rfl | rfl | rfl | rfl | rfl | rfl | rfl | rfl <;> rfl) (by first | decide | omega) (by first | decide | omega) d_De_make_72 (fun q H hg_q hP hA hS => ?_)
                    have hkx1 : gt xk = some (e_row qk.1 (c_bits qk.1)) := by
                      rcases hC1.2.1 (j_n k) hk.j16 with z | ⟨q2, x9, z1, z2, z3⟩
                      · rw [show fk (j_n k) = some xk from hxk] at z; cases z.2
                      · rw [show fk (j_n k) = some xk from hxk] at z2; cases z2; rw [hkd] at z1; cases z1
                        rcases z3 with ⟨y0, y1⟩ | ⟨y0, y1⟩
                        · exact absurd y0 h0
                        · exact y1
                    have hxq : xk ≠ q := fun z => by rw [z, hg_q] at hkx1; cases hkx1
                    have hkx2 : va_up gt q (some (.inr (1, [.null, .int 0, .int 0, .null, .int 0, .int 0, .null, .int 0, .null]))) xk = some (e_row qk.1 (c_bits qk.1)) := by rw [va_up_ne _ _ hxq]; exact hkx1
                    refine lv_dup hx hb d_De_make_75 rfl ?_
                    refine lv_aload hx hb d_De_make_76 (lv_at hl 1 rfl) ?_
                    refine lv_aload hx hb d_De_make_78 (lv_at hl 1 rfl) ?_
                    refine lv_iload_n hx hb d_De_make_80 rfl (lv_at hl 5 rfl) ?_
                    refine vp_callSi (va_Run.run (va_runU (C := R_Rk) (owner := R_Ki) (x := ⟨R_Ki, "lengthFor", "(I)I"⟩) (As := [.int n]) ⟨hx, hb, hml, hown, hts⟩ (c_Rk_lengthFor l D _ _ xk n) (va_cwA (own := R_De) (index := 78) 1 hts (x_gi (by decide +kernel)) rfl rfl rfl (hE.1.2.2.1 (.declares ⟨R_Ki, "lengthFor", "(I)I"⟩) (by decide +kernel)) (by decide +kernel) ⟨by decide, by decide⟩) ⟨w_Pp.blind, y_recv (ci := 3) (q := (R_Rk, F_Rk, 2)) hK hP rfl hkx2, fun U hU hW => ⟨rfl, by rw [hU]; exact hP, hE.1.to hW⟩⟩ rfl rfl hl.1 rfl (lv_room (Nat.le_of_ble_eq_true rfl)) d_De_make_81 ⟨by first | decide | omega, by first | decide | omega⟩)) (fun r6 hr6 => ?_)
                    refine lv_iload hx hb d_De_make_84 (lv_at hl 0 rfl) ?_
                    refine w_callI (As := [.ref xk, .int r6, .int (nI (a_more qk n))]) (bytes := b_It_init) ⟨hx, hb, hml, hown, hts⟩ (c_It_init l D _ _ _ q xk r6 (nI (a_more qk n)) (va_up_self _ _ _)) (x_cb (cwI (own := R_De) (index := 82) 3 hts (x_gi (by decide +kernel)) rfl rfl rfl (hts (.initialized R_It) (by decide +kernel)) (hts (.methodLink R_De 82 y_It_init) (by decide +kernel)) (hts (.instanceMethod y_It_init) (by decide +kernel)) rfl (by decide +kernel) ⟨by decide, by decide⟩).1) rfl (hts (.instanceMethod y_It_init) (by decide +kernel)) (hts (.code y_It_init b_It_init 4 none) (by decide +kernel)) hE hP hA hA0 hS (fun _ _ z => nomatch z.1) rfl hl.1 rfl (lv_room (Nat.le_of_ble_eq_true rfl)) d_De_make_86 (by first | decide | omega) (by first | decide | omega) (fun v9 g9 H locs hq9 hP hA hS => ?_)
                    obtain ⟨hv9, hg9⟩ := hq9
                    cases hv9
                    rw [hg9] at hP hA
                    refine W.eq (g2 := F0 m 89 ls [.ref q, .int sv, .ref sa]) rfl ?_
                    rw [bx_uu] at hP hA
                    have hP : y_P D vwCl (va_up gt q (some (.inr (1, [.ref xk, .int r6, .int (nI (a_more qk n)), .null, .int 0, .int 0, .null, .int 0, .null])))) H := hP
                    have hA : ∀ q99 e99, (va_up gt q (some (.inr (1, [.ref xk, .int r6, .int (nI (a_more qk n)), .null, .int 0, .int 0, .null, .int 0, .null])))) q99 = some e99 → A q99 := hA
                    have hsq : sa ≠ q := fun z => by rw [← z, hC1.1.2.2] at hg_q; cases hg_q
                    have hdq : d ≠ q := fun z => by rw [← z, hC1.1.1] at hg_q; cases hg_q
                    have hds : d ≠ sa := fun z => hC1.dne.2.1 z.symm
                    have hsa1 : (va_up gt q (some (.inr (1, [.ref xk, .int r6, .int (nI (a_more qk n)), .null, .int 0, .int 0, .null, .int 0, .null])))) sa = some (e_refs cI 32 fs) := by rw [va_up_ne _ _ hsq]; exact hC1.1.2.2
                    refine y_astS (r := (R_It, F_It, 9)) hx hb hK hP hA hS 1 1 hsa1 rfl (va_up_self _ _ _) rfl hs.v32 d_De_make_89 (fun H locs hP hA hS => ?_)
                    have hP : y_P D vwCl (va_up (va_up gt q (some (.inr (1, [.ref xk, .int r6, .int (nI (a_more qk n)), .null, .int 0, .int 0, .null, .int 0, .null])))) sa (some (e_refs cI 32 (va_up fs (j_n sv) (some q))))) H := hP
                    have hA : ∀ q99 e99, (va_up (va_up gt q (some (.inr (1, [.ref xk, .int r6, .int (nI (a_more qk n)), .null, .int 0, .int 0, .null, .int 0, .null])))) sa (some (e_refs cI 32 (va_up fs (j_n sv) (some q))))) q99 = some e99 → A q99 := hA
                    refine lv_aload_n hx hb d_De_make_90 rfl (lv_at hl 2 rfl) ?_
                    refine lv_dup hx hb d_De_make_91 rfl ?_
                    have hd2 : (va_up (va_up gt q (some (.inr (1, [.ref xk, .int r6, .int (nI (a_more qk n)), .null, .int 0, .int 0, .null, .int 0, .null])))) sa (some (e_refs cI 32 (va_up fs (j_n sv) (some q))))) d = some (.inr (4, [.ref ka, .ref sa, .int (nI a.mem), .int (nI a.n), .int (nI a.kc), .int (nI a.nn), .int itv, va_rf (ks.head?.map ad), .int (nI (u1 + a_more qk n)), .int (nI wk1), .null])) := by rw [va_up_ne _ _ hds, va_up_ne _ _ hdq]; exact hC1.1.1
                    refine y_get (D := D) (ci := 4) (v := .int (nI a.n)) (C := R_De) (T := F_De) (N := 11) hx hb hts in_De hown hK hP hd2 rfl 3 (by decide) (hts (.fieldLink R_De 85 "MemoryDesk" "made" "I") (by decide +kernel)) (fun _ h9 => h9) rfl d_De_make_92 ?_
                    refine lv_iconst (v := 1) hx hb d_De_make_95 (by decide) ?_
                    refine lv_iadd hx hb d_De_make_96 ?_
                    rw [nI_1]
                    refine y_put (D := D) (ci := 4) (v := .int (nI (a.n + 1))) (ty := .int) (C := R_De) (T := F_De) (N := 11) hx hb hts in_De t_De t_De_ok n_De hown hK hP hA hS hd2 rfl 3 (by decide) (hts (.fieldLink R_De 85 "MemoryDesk" "made" "I") (by decide +kernel)) (fun _ h9 => h9) rfl (by decide +kernel) rfl rfl (Nat.le_of_ble_eq_true rfl) d_De_make_97 (fun H locs hP hA hS => ?_)
                    have hP : y_P D vwCl (va_up (va_up (va_up gt q (some (.inr (1, [.ref xk, .int r6, .int (nI (a_more qk n)), .null, .int 0, .int 0, .null, .int 0, .null])))) sa (some (e_refs cI 32 (va_up fs (j_n sv) (some q))))) d (some (.inr (4, [.ref ka, .ref sa, .int (nI a.mem), .int (nI (a.n + 1)), .int (nI a.kc), .int (nI a.nn), .int itv, va_rf (ks.head?.map ad), .int (nI (u1 + a_more qk n)), .int (nI wk1), .null])))) H := hP
                    have hA : ∀ q99 e99, (va_up (va_up (va_up gt q (some (.inr (1, [.ref xk, .int r6, .int (nI (a_more qk n)), .null, .int 0, .int 0, .null, .int 0, .null])))) sa (some (e_refs cI 32 (va_up fs (j_n sv) (some q))))) d (some (.inr (4, [.ref ka, .ref sa, .int (nI a.mem), .int (nI (a.n + 1)), .int (nI a.kc), .int (nI a.nn), .int itv, va_rf (ks.head?.map ad), .int (nI (u1 + a_more qk n)), .int (nI wk1), .null])))) q99 = some e99 → A q99 := hA
                    refine lv_aload_n hx hb d_De_make_100 rfl (lv_at hl 2 rfl) ?_
                    refine y_get (D := D) (ci := 4) (v := .int (nI (a.n + 1))) (C := R_De) (T := F_De) (N := 11) hx hb hts in_De hown hK hP (va_up_self _ _ _) rfl 3 (by decide) (hts (.fieldLink R_De 85 "MemoryDesk" "made" "I") (by decide +kernel)) (fun _ h9 => h9) rfl d_De_make_101 ?_
                    have hfin : c_R cK cI (a_new a (j_n sv) (j_n k) n) (va_up (va_up (va_up gt q (some (.inr (1, [.ref xk, .int r6, .int (nI (a_more qk n)), .null, .int 0, .int 0, .null, .int 0, .null])))) sa (some (e_refs cI 32 (va_up fs (j_n sv) (some q))))) d (some (.inr (4, [.ref ka, .ref sa, .int (nI a.mem), .int (nI (a.n + 1)), .int (nI a.kc), .int (nI a.nn), .int itv, va_rf (ks.head?.map ad), .int (nI (u1 + a_more qk n)), .int (nI wk1), .null])))) d (cn + 1) := c_R.new (q := q) (x := xk) (len := r6) hw hcn hkd hC1 hsn1 hwk1 hu1 hfit1 hlv1 hg_q hxk hxq (hr6.trans (if_neg h0).symm) (by rw [va_up_ne _ _ hdq.symm, va_up_ne _ _ hsq.symm, va_up_self]; rfl) (by rw [va_up_ne _ _ hds.symm, va_up_self]) (va_up_self _ _ _) (fun z z1 z2 z3 => by rw [va_up_ne _ _ z3, va_up_ne _ _ z2, va_up_ne _ _ z1])
                    refine W.widen (k := 6) (n := 60) (by first | decide | omega) (by first | decide | omega) ?_
                    exact x_ret (W.iret (v := (nI (a.n + 1))) hx hb hr (w_fin rfl hAe (w_good (v := some (.int (nI (a.n + 1)))) ((s_make_s hs hk hcond hkd).trans (q_y hfit)) hfin) hP hA hS) hS.2.2 d_De_make_104)
                · skip
                  rcases hq9 with ⟨hv9, hfit, hT9⟩ | ⟨hv9, -⟩
                  · cases hv9
                    refine x_W.widen (k := 6) (n := 60) (by first | decide | omega) (by first | decide | omega) ?_
                    exact x_leave (hno 62) hlocks (w_lea rfl hAe (w_bad (i := 2) rfl ((s_make_s hs hk hcond hkd).trans (q_n hfit)) hT9.R (Nat.le_refl _)) hP hA hS z1 z2 z3) hS.2.2
                  · cases hv9
              · -- ifne at 27: to 30
                have hn0 : n < 0 := by
                  rcases hr7 with z | z
                  · exact absurd z.1 (by rw [show r7 = 0 from h2]; decide)
                  · exact z.2
                obtain ⟨sa, hstr⟩ := hE.1.2.2.2.1 (63, "n is below 0") (by decide)
                refine W.widen (k := 6 - 1) (n := 60 - 6) (by first | decide | omega) (by first | decide | omega) ?_
                exact x_throw (A := A) (cls := "java/lang/IllegalArgumentException") (names := ["java/lang/RuntimeException", "java/lang/Exception"]) hx hb hst hown (by decide) (by decide) (hts (.classLink R_De 30 "java/lang/IllegalArgumentException") (by decide +kernel)) (hts (.initialized "java/lang/IllegalArgumentException") (by decide +kernel)) hstr (fun w hw ho => hE.1.at _ ho (at_IAE w hw ho)) nt_IAE hE.2.1 hE.2.2.1 hS (hl.1.trans hml.symm) d_De_make_30 d_De_make_33 d_De_make_34 d_De_make_36 d_De_make_39 (hno 39) (by decide) (by decide) (by decide) (by decide) hlocks (w_thr rfl hAe (w_bad (i := 0) rfl (q_n (fun z => z.2.2 qk hkd h0 hn0)) hR0 (Nat.le_succ _)) hP hA hS) hS.2.2
        · cases hv9
      · skip
        obtain ⟨hg9, hq9⟩ := hq9
        rw [hg9] at hP hA
        rcases hq9 with ⟨hv9, -⟩ | ⟨hv9, hk⟩
        · cases hv9
        · cases hv9
          refine x_W.widen (k := 6) (n := 60) (by first | decide | omega) (by first | decide | omega) ?_
          exact x_leave (hno 5) hlocks (w_lea rfl hAe (w_bad (i := 0) rfl (q_n (fun z => hk z.2.1)) hR0 (Nat.le_succ _)) hP hA hS z1 z2 z3) hS.2.2
    · cases hv9
  · skip
    obtain ⟨hg9, hq9⟩ := hq9
    rw [hg9] at hP hA
    rcases hq9 with ⟨hv9, -⟩ | ⟨hv9, hs⟩
    · cases hv9
    · cases hv9
      refine x_W.widen (k := 6) (n := 60) (by first | decide | omega) (by first | decide | omega) ?_
      exact x_leave (hno 1) hlocks (w_lea rfl hAe (w_bad (i := 0) rfl (q_n (fun z => hs z.1)) hR0 (Nat.le_succ _)) hP hA hS z1 z2 z3) hS.2.2
set_option maxHeartbeats 4000000 in
set_option maxRecDepth 100000 in
/-- MemoryDesk(): nothing is in it -/
theorem c_De_init (l : Launch) (D : va_G) (cK cI cN cZ cL : ClassId) (g : y_G) (sz d : Nat) (h0 : g d = some (.inr (4, [.null, .null, .int 0, .int 0, .int 0, .int 0, .int 0, .null, .int 0, .int 0, .null]))) : x_M l y_De_init [.code y_De_init b_De_init 1 none] rmI (w_Pc D (x_tys cK cI cN cZ cL) [.ref d] g sz) (w_Qc D g sz (fun r g9 => r = .inl none ∧ c_R cK cI a_0 g9 d 0)) 2 48 (y_A g sz) := by
  refine x_ofW (cc := b_De_init) (maxL := 1) (ret := none) (by decide) rfl ?_
  intro p e s m args below meth c s₁ B hml hno hv
  obtain ⟨rfl, hsz, hP, hE⟩ := hv
  subst hsz
  have hts := hE.hts ([.ref d] : List Value).toArray
  have hK := hE.1.2.1
  have hA0 : ∀ q, s.heap.size ≤ q → y_A g s.heap.size q := fun q h => Or.inr h
  have hA : ∀ q e, g q = some e → y_A g s.heap.size q := fun q e h => Or.inl (by rw [h]; exact fun z => nomatch z)
  have hS : va_S (y_A g s.heap.size) s.heap s.heap [] := va_S.rf
  generalize hAe : y_A g s.heap.size = A at hE hA0 hA hS ⊢
  have hx := B.exec
  have hb := B.bytes
  have hr := B.returns
  have hlocks := B.notSynchronized
  have hown : s.vm.findClass R_De = some m.cls := findClass_of_methodNamed B.named
  have hl := lv_entry ([.ref d]) (n := 1) (Nat.le_of_ble_eq_true rfl)
  rw [lg_entry_eq]
  generalize (lg_sl ([.ref d]) ++ List.replicate (1 - (lg_sl ([.ref d])).length) Slot.unset).toArray = ls at hl ⊢
  have hl : lv_has ls 1 [(0, .ref d)] := hl
  have hnm : meth.name = "<init>" := (name_of_methodNamed B.named B.method).1
  refine lv_aload_n hx hb d_De_init_0 rfl (lv_at hl 0 rfl) ?_
  refine W.objInit hx hb hown (hts (.methodLink R_De 1 objectInit) (by decide +kernel)) (hts (.instanceMethod objectInit) (by decide +kernel)) (hts _ x_obj) rfl (by rw [hml]; exact hl.1) rfl d_De_init_1 (Nat.le_of_ble_eq_true rfl) (Nat.le_of_ble_eq_true rfl) ?_
  refine W.eq (g2 := F0 m 4 ls []) rfl ?_
  refine lv_aload_n hx hb d_De_init_4 rfl (lv_at hl 0 rfl) ?_
  refine lv_bipush (v := 16) hx hb d_De_init_5 (by decide) ?_
  refine y_newq hx hb hown (hts (.classLink R_De 9 "MemoryDesk$Kind") (by decide +kernel)) hE.1.2.2.2.2.2.1 hK hP hA hS hA0 0 rfl (n := 16) (N' := 16) (by decide) rfl (by decide) (by first | decide | omega) (by first | decide | omega) d_De_init_7 (fun ka H hg_ka hP hA hS => ?_)
  have hdk : d ≠ ka := fun z => by rw [z, hg_ka] at h0; cases h0
  have hP : y_P D vwCl (va_up g ka (some (e_refs cK 16 (fun _ => none)))) H := hP
  have hA : ∀ q99 e99, (va_up g ka (some (e_refs cK 16 (fun _ => none)))) q99 = some e99 → A q99 := hA
  have h1 : (va_up g ka (some (e_refs cK 16 (fun _ => none)))) d = some (.inr (4, [.null, .null, .int 0, .int 0, .int 0, .int 0, .int 0, .null, .int 0, .int 0, .null])) := by rw [va_up_ne _ _ hdk]; exact h0
  refine y_putF (D := D) (ci := 4) (v := .ref ka) (ty := .array (.object "MemoryDesk$Kind")) (C := R_De) (T := F_De) (N := 11) hx hb hts in_De t_De t_De_ok n_De hown hK hP hA hS h1 rfl 0 (by decide) (hts (.fieldLink R_De 11 "MemoryDesk" "kinds" "[LMemoryDesk$Kind;") (by decide +kernel)) (fun _ h9 => h9) rfl hnm rfl (by decide +kernel) rfl rfl (Nat.le_of_ble_eq_true rfl) d_De_init_10 (fun H locs hP hA hS => ?_)
  have hP : y_P D vwCl (va_up (va_up g ka (some (e_refs cK 16 (fun _ => none)))) d (some (.inr (4, [.ref ka, .null, .int 0, .int 0, .int 0, .int 0, .int 0, .null, .int 0, .int 0, .null])))) H := hP
  have hA : ∀ q99 e99, (va_up (va_up g ka (some (e_refs cK 16 (fun _ => none)))) d (some (.inr (4, [.ref ka, .null, .int 0, .int 0, .int 0, .int 0, .int 0, .null, .int 0, .int 0, .null])))) q99 = some e99 → A q99 := hA
  refine lv_aload_n hx hb d_De_init_13 rfl (lv_at hl 0 rfl) ?_
  refine lv_bipush (v := 32) hx hb d_De_init_14 (by decide) ?_
  refine y_newq hx hb hown (hts (.classLink R_De 15 "MemoryDesk$Item") (by decide +kernel)) hE.1.2.2.2.2.2.2 hK hP hA hS hA0 1 rfl (n := 32) (N' := 32) (by decide) rfl (by decide) (by first | decide | omega) (by first | decide | omega) d_De_init_16 (fun sa H hg_sa hP hA hS => ?_)
  have hds : d ≠ sa := fun z => by rw [← z, va_up_self] at hg_sa; cases hg_sa
  have hks : ka ≠ sa := fun z => by rw [← z, va_up_ne _ _ hdk.symm, va_up_self] at hg_sa; cases hg_sa
  have hP : y_P D vwCl (va_up (va_up (va_up g ka (some (e_refs cK 16 (fun _ => none)))) d (some (.inr (4, [.ref ka, .null, .int 0, .int 0, .int 0, .int 0, .int 0, .null, .int 0, .int 0, .null])))) sa (some (e_refs cI 32 (fun _ => none)))) H := hP
  have hA : ∀ q99 e99, (va_up (va_up (va_up g ka (some (e_refs cK 16 (fun _ => none)))) d (some (.inr (4, [.ref ka, .null, .int 0, .int 0, .int 0, .int 0, .int 0, .null, .int 0, .int 0, .null])))) sa (some (e_refs cI 32 (fun _ => none)))) q99 = some e99 → A q99 := hA
  have h3 : (va_up (va_up (va_up g ka (some (e_refs cK 16 (fun _ => none)))) d (some (.inr (4, [.ref ka, .null, .int 0, .int 0, .int 0, .int 0, .int 0, .null, .int 0, .int 0, .null])))) sa (some (e_refs cI 32 (fun _ => none)))) d = some (.inr (4, [.ref ka, .null, .int 0, .int 0, .int 0, .int 0, .int 0, .null, .int 0, .int 0, .null])) := by rw [va_up_ne _ _ hds, va_up_self]
  refine y_putF (D := D) (ci := 4) (v := .ref sa) (ty := .array (.object "MemoryDesk$Item")) (C := R_De) (T := F_De) (N := 11) hx hb hts in_De t_De t_De_ok n_De hown hK hP hA hS h3 rfl 1 (by decide) (hts (.fieldLink R_De 17 "MemoryDesk" "slots" "[LMemoryDesk$Item;") (by decide +kernel)) (fun _ h9 => h9) rfl hnm rfl (by decide +kernel) rfl rfl (Nat.le_of_ble_eq_true rfl) d_De_init_19 (fun H locs hP hA hS => ?_)
  have hP : y_P D vwCl (va_up (va_up (va_up (va_up g ka (some (e_refs cK 16 (fun _ => none)))) d (some (.inr (4, [.ref ka, .null, .int 0, .int 0, .int 0, .int 0, .int 0, .null, .int 0, .int 0, .null])))) sa (some (e_refs cI 32 (fun _ => none)))) d (some (.inr (4, [.ref ka, .ref sa, .int 0, .int 0, .int 0, .int 0, .int 0, .null, .int 0, .int 0, .null])))) H := hP
  have hA : ∀ q99 e99, (va_up (va_up (va_up (va_up g ka (some (e_refs cK 16 (fun _ => none)))) d (some (.inr (4, [.ref ka, .null, .int 0, .int 0, .int 0, .int 0, .int 0, .null, .int 0, .int 0, .null])))) sa (some (e_refs cI 32 (fun _ => none)))) d (some (.inr (4, [.ref ka, .ref sa, .int 0, .int 0, .int 0, .int 0, .int 0, .null, .int 0, .int 0, .null])))) q99 = some e99 → A q99 := hA
  refine lv_aload_n hx hb d_De_init_22 rfl (lv_at hl 0 rfl) ?_
  refine lv_ldc (own := R_De) (index := 21) (v := 65536) hx hb hown (hts (.constant R_De 21 65536) (by decide +kernel)) d_De_init_23 ?_
  refine y_put (D := D) (ci := 4) (v := .int 65536) (ty := .int) (C := R_De) (T := F_De) (N := 11) hx hb hts in_De t_De t_De_ok n_De hown hK hP hA hS (va_up_self _ _ _) rfl 2 (by decide) (hts (.fieldLink R_De 22 "MemoryDesk" "limit" "I") (by decide +kernel)) (fun _ h9 => h9) rfl (by decide +kernel) rfl rfl (Nat.le_of_ble_eq_true rfl) d_De_init_25 (fun H locs hP hA hS => ?_)
  rw [bx_uu] at hP hA
  have hP : y_P D vwCl (va_up (va_up (va_up (va_up g ka (some (e_refs cK 16 (fun _ => none)))) d (some (.inr (4, [.ref ka, .null, .int 0, .int 0, .int 0, .int 0, .int 0, .null, .int 0, .int 0, .null])))) sa (some (e_refs cI 32 (fun _ => none)))) d (some (.inr (4, [.ref ka, .ref sa, .int 65536, .int 0, .int 0, .int 0, .int 0, .null, .int 0, .int 0, .null])))) H := hP
  have hA : ∀ q99 e99, (va_up (va_up (va_up (va_up g ka (some (e_refs cK 16 (fun _ => none)))) d (some (.inr (4, [.ref ka, .null, .int 0, .int 0, .int 0, .int 0, .int 0, .null, .int 0, .int 0, .null])))) sa (some (e_refs cI 32 (fun _ => none)))) d (some (.inr (4, [.ref ka, .ref sa, .int 65536, .int 0, .int 0, .int 0, .int 0, .null, .int 0, .int 0, .null])))) q99 = some e99 → A q99 := hA
  refine W.widen (k := 2) (n := 48) (by first | decide | omega) (by first | decide | omega) ?_
  exact x_ret (W.vret hx hb hr (w_fin rfl hAe ⟨rfl, c_R.zero (va_up_self _ _ _) (by rw [va_up_ne _ _ hdk.symm, va_up_ne _ _ hks, va_up_ne _ _ hdk.symm, va_up_self]) (by rw [va_up_ne _ _ hds.symm, va_up_self])⟩ hP hA hS) hS.2.2 d_De_init_28)
