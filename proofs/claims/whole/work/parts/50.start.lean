/-! THE CLAIM OUT OF ONE WALK OF THE LAW'S BODY. Your part is whole_start (and what it stands on); all else here is the same for every law, but numbers. -/
def R_law : String := "MemoryDeskLaw"
def lw_P (b : Addr) (xs : List Int32) (args : Array Value) (s : State) : Prop := args = #[.ref b] ∧ s.IntsAt b xs ∧ xs.length ≤ 2560 ∧ (Jvm.Cond.and given_1 narrow_1).before args s = true
def lw_Q (_ : Array Value) (s : State) (o : Outcome) (t : State) : Prop := o = .returned (some (.int 1)) ∧ Framed s o t [] 601024 7293034
def lw_Z (below : List Frame) (a : Array Value) (s : State) : State → Prop := fun t => ∃ o, t.status = .running ∧ Ended t below o ∧ lw_Q a s o t
/-- the law's own end, with 1 on the stack, nothing written that was there before, its room as the claim has it -/
theorem lw_ret {p : Program} {l : Launch} {e : Env} {s : State} {m : MethodId} {below : List Frame} {meth : Method} {c : Code} {b : Nat} (hx : p.tables.exec = Jvm.exec) (hb : c.code = code) (hr : meth.sig.returnType = ret) (hlocks : meth.locks = false) {pc : Nat} {H : Heap} {ls : Array Slot} (hdg : decode code pc = .ok (.ireturn, 1)) : W p l e room_1 s m #[Value.ref b] below meth c H [] 601024 7293034 (lw_Z below #[Value.ref b] s) (F0 m pc ls [.int 1]) := by
  intro T hT X
  obtain ⟨fs, hret, hrun, hended, hW, hframe⟩ := X.leave (v := some (.int 1)) (hlocks := hlocks) (fun h => by rw [hr] at h; cases h)
  have hmeth' : T.vm.method? m = some meth := X.method'
  refine ⟨T.setFrames fs, ?_, .returned (some (.int 1)), hrun, hended, rfl, ⟨_, rfl⟩, hW, hframe⟩
  jvm_step X.here [X.here.top, hx, hb, hdg, hmeth', hr, ret, narrow_b1]
  (try refine ⟨rfl, ?_⟩); (try refine ⟨rfl, ?_⟩)
  first | (intro acts; rw [hret _ acts rfl rfl rfl]) | rw [hret _ _ rfl rfl rfl]
  exact Steps.refl _
/-- what holds at the law's entry: the machine, the code, the tables' words (any of lw_tbl by 'hts w (by decide +kernel)'), the script of L ints xs at the cell b, what the Statement gives of the start (any of its parts by flat_of_before) -/
def lw_At (p : Program) (s : State) (m : MethodId) (meth : Method) (c : Code) (b L : Nat) (xs : Nat → Int32) : Prop :=
  p.tables.exec = Jvm.exec ∧ c.code = code ∧ meth.sig.returnType = ret ∧ c.maxLocals = 8 ∧ s.vm.findClass R_law = some m.cls ∧ (∀ w ∈ lw_tbl, w.before #[Value.ref b] s = true) ∧ va_X b L xs s s.heap ∧ b < s.heap.size ∧ meth.locks = false ∧ (Jvm.Cond.and given_1 narrow_1).before #[Value.ref b] s = true
set_option maxHeartbeats 4000000 in
set_option maxRecDepth 100000 in
/-- from the entry, for every script of at most 2560 ints, the law comes to its end with true -/
theorem whole_start {p : Program} {e : Env} {s : State} {m : MethodId} {below : List Frame} {meth : Method} {c : Code} (l : Launch) (hst : l.stackTraces = false) {b L : Nat} {xs : Nat → Int32} (hL : L ≤ 2560) (C0 : lw_At p s m meth c b L xs) : W p l e room_1 s m #[Value.ref b] below meth c s.heap [] 0 0 (lw_Z below #[Value.ref b] s) (entryFrame m ([Value.ref b] : List Value).toArray 8) := by
  obtain ⟨hx, hb, hr, hml, hown, htl, hX, hbl, hlocks, hgv⟩ := C0
  obtain ⟨D, cK, cI, cN, cZ, cL, hE0⟩ := la_E htl hgv
  obtain ⟨A, hAe⟩ : ∃ A : Nat → Prop, A = fun q => s.heap.size ≤ q := ⟨_, rfl⟩
  have hE : w_E D (x_tys cK cI cN cZ cL) A s s.heap := by rw [hAe]; exact hE0
  have hts := hE.hts #[Value.ref b]
  have hK := hE.1.2.1
  have hown : s.vm.findClass R_La = some m.cls := hown
  have r1 : room_1.cells = 601024 := rfl
  have r2 : room_1.slots = 7293034 := rfl
  have hA0 : ∀ q, s.heap.size ≤ q → A q := fun q h => by rw [hAe]; exact h
  have hbA : ¬ A b := fun z => by rw [hAe] at z; exact absurd hbl (Nat.not_lt.mpr z)
  have hP : y_P D vwCl (fun _ => none) s.heap := fun a e h => (nomatch h)
  have hA : ∀ q99 e99, (fun _ => none : y_G) q99 = some e99 → A q99 := fun q e h => (nomatch h)
  have hS : va_S A s.heap s.heap [] := va_S.rf
  have hl := lv_entry ([.ref b]) (n := 8) (Nat.le_of_ble_eq_true rfl)
  rw [lg_entry_eq]
  generalize (lg_sl ([Value.ref b]) ++ List.replicate (8 - (lg_sl ([Value.ref b])).length) Slot.unset).toArray = ls at hl ⊢
  have hl : lv_has ls 8 [(0, .ref b)] := hl
  refine y_new (ci := 4) (fs := [.null, .null, .int 0, .int 0, .int 0, .int 0, .int 0, .null, .int 0, .int 0, .null]) (C := R_De) (T := F_De) (N := 11) hx hb hts in_De t_De t_De_ok hown (hts (.classLink R_La 8 R_De) (by decide +kernel)) (hts (.instantiable R_De 11) (by decide +kernel)) (hts (.initialized R_De) (by decide +kernel)) hK hP hA hS hA0 rfl (fun j hj => by rcases (show j = 0 ∨ j = 1 ∨ j = 2 ∨ j = 3 ∨ j = 4 ∨ j = 5 ∨ j = 6 ∨ j = 7 ∨ j = 8 ∨ j = 9 ∨ j = 10 by omega) with rfl | rfl | rfl | rfl | rfl | rfl | rfl | rfl | rfl | rfl | rfl <;> rfl) (by first | decide | omega) (by first | decide | omega) d_La_law_0 (fun d H hg_d hP hA hS => ?_)
  refine lv_dup hx hb d_La_law_3 rfl ?_
  refine w_callI (As := []) (b := d) (bytes := b_De_init) ⟨hx, hb, hml, hown, hts⟩ (c_De_init l D cK cI cN cZ cL (va_up (fun _ => none) d (some (.inr (4, [.null, .null, .int 0, .int 0, .int 0, .int 0, .int 0, .null, .int 0, .int 0, .null])))) _ d (va_up_self _ _ _)) (x_cb (cwI (own := R_La) (index := 72) 0 hts (x_gi (by decide +kernel)) rfl rfl rfl (hts (.initialized R_De) (by decide +kernel)) (hts (.methodLink R_La 72 y_De_init) (by decide +kernel)) (hts (.instanceMethod y_De_init) (by decide +kernel)) rfl (by decide +kernel) ⟨by decide, by decide⟩).1) rfl (hts (.instanceMethod y_De_init) (by decide +kernel)) (hts (.code y_De_init b_De_init 1 none) (by decide +kernel)) hE hP hA hA0 hS (fun _ _ z => nomatch z.1) rfl hl.1 rfl (lv_room (Nat.le_of_ble_eq_true rfl)) d_La_law_4 (by first | decide | omega) (by first | decide | omega) (fun v9 g9 H locs hq9 hP hA hS => ?_)
  obtain ⟨hv9, hR⟩ := hq9
  cases hv9
  refine W.eq (g2 := F0 m 7 ls [.ref d]) rfl ?_
  refine lv_astore_n hx hb d_La_law_7 rfl hl (by decide) rfl (fun ls hl => ?_)
  have hl : lv_has ls 8 [(1, .ref d), (0, .ref b)] := hl
  refine y_new (ci := 5) (fs := [.null, .null, .null, .null, .null, .null, .null, .int 0, .int 0, .int 0, .int 0, .null, .null, .null, .int 0, .null, .null, .null, .null, .int 0]) (C := R_Mo) (T := F_Mo) (N := 20) hx hb hts in_Mo t_Mo t_Mo_ok hown (hts (.classLink R_La 73 R_Mo) (by decide +kernel)) (hts (.instantiable R_Mo 20) (by decide +kernel)) (hts (.initialized R_Mo) (by decide +kernel)) hK hP hA hS hA0 rfl (fun j hj => by rcases (show j = 0 ∨ j = 1 ∨ j = 2 ∨ j = 3 ∨ j = 4 ∨ j = 5 ∨ j = 6 ∨ j = 7 ∨ j = 8 ∨ j = 9 ∨ j = 10 ∨ j = 11 ∨ j = 12 ∨ j = 13 ∨ j = 14 ∨ j = 15 ∨ j = 16 ∨ j = 17 ∨ j = 18 ∨ j = 19 by omega) with rfl | rfl | rfl | rfl | rfl | rfl | rfl | rfl | rfl | rfl | rfl | rfl | rfl | rfl | rfl | rfl | rfl | rfl | rfl | rfl <;> rfl) (by first | decide | omega) (by first | decide | omega) d_La_law_8 (fun mo H hg_mo hP hA hS => ?_)
  refine lv_dup hx hb d_La_law_11 rfl ?_
  have hR1 := hR
  refine w_callI (As := []) (b := mo) (bytes := b_Mo_init) ⟨hx, hb, hml, hown, hts⟩ (x_join (la_one (Z := (.inr (5, [.null, .null, .null, .null, .null, .null, .null, .int 0, .int 0, .int 0, .int 0, .null, .null, .null, .int 0, .null, .null, .null, .null, .int 0]))) hg_mo) (c_Mo_init l D cK cI cN cZ cL _ mo)) (x_cb (cwI (own := R_La) (index := 75) 0 hts (x_gi (by decide +kernel)) rfl rfl rfl (hts (.initialized R_Mo) (by decide +kernel)) (hts (.methodLink R_La 75 y_Mo_init) (by decide +kernel)) (hts (.instanceMethod y_Mo_init) (by decide +kernel)) rfl (by decide +kernel) ⟨by decide, by decide⟩).1) rfl (hts (.instanceMethod y_Mo_init) (by decide +kernel)) (hts (.code y_Mo_init b_Mo_init 1 none) (by decide +kernel)) hE hP hA hA0 hS (fun _ _ z => by obtain ⟨_, ⟨hz, -⟩, -⟩ := z; cases hz) rfl hl.1 rfl (lv_room (Nat.le_of_ble_eq_true rfl)) d_La_law_12 (by first | decide | omega) (by first | decide | omega) (fun v9 g9 H locs hq9 hP hA hS => ?_)
  obtain ⟨gm, ⟨hv9, r, hri, hr20, hgm⟩, hJs⟩ := hq9
  cases hv9
  subst hgm
  refine W.eq (g2 := F0 m 15 ls [.ref (r 20)]) (by rw [hr20]; first | rfl | done) ?_
  refine lv_astore_n hx hb d_La_law_15 rfl hl (by decide) rfl (fun ls hl => ?_)
  have hl : lv_has ls 8 [(2, .ref (r 20)), (1, .ref d), (0, .ref b)] := hl
  refine lv_iconst (v := 1) hx hb d_La_law_16 (by decide) ?_
  refine y_newa (atype := .long) (a0 := (1, .inr (.inl (fun _ => 0)))) hx hb (hts (.arrayClass .long) (by decide +kernel)) rfl hK hP hA hS hA0 4 rfl (fun c9 h1 h2 => Option.some.inj (h1.symm.trans h2)) (n := 1) (N' := 1) (fun _ => rfl) (by decide) rfl (by decide) (by first | decide | omega) (by first | decide | omega) d_La_law_17 (fun ou H hg_ou hP hA hS => ?_)
  refine lv_astore_n hx hb d_La_law_19 rfl hl (by decide) rfl (fun ls hl => ?_)
  have hl : lv_has ls 8 [(3, .ref ou), (2, .ref (r 20)), (1, .ref d), (0, .ref b)] := hl
  refine lv_iconst (v := 0) hx hb d_La_law_20 (by decide) ?_
  refine lv_istore hx hb d_La_law_21 hl (by decide) rfl (fun ls hl => ?_)
  have hl : lv_has ls 8 [(4, .int 0), (3, .ref ou), (2, .ref (r 20)), (1, .ref d), (0, .ref b)] := hl
  have hl : lv_has ls 8 [(4, .int 0), (0, .ref b), (1, .ref d), (2, .ref (r 20)), (3, .ref ou)] := lv_sub hl [0, 4, 3, 2, 1] rfl
  have hl : lv_has ls 8 [(4, .int (nI (5 * 0))), (0, .ref b), (1, .ref d), (2, .ref (r 20)), (3, .ref ou)] := hl
  obtain ⟨G0, hJ0, hJ⟩ := hJs.new (cL := cL) (f := fun _ => 0) hg_ou
  refine la_loop l hst cK cI cN cZ cL hri ⟨hx, hb, hml, hown, hE, hA0, hX, hbl, hbA⟩ hL (fun ls H locs cells slots q1 q2 hS => ?_) (L / 5) ls 0 H locs _ _ (by omega) (by omega) (by omega) (by omega) (by omega) ⟨a_0, _, G0, _, m_0, fun _ => 0, a_0.W, hR1, m_R.zero, hJ0, hJ, hP, hA, hS⟩ hl
  refine lv_iconst (v := 1) hx hb d_La_law_1136 (by decide) ?_
  refine va_forget (fun q hq => by have z := hS.2.2 q hq; rw [hAe] at z; exact z) ?_
  refine W.widen (k := 601024) (n := 7293034) (by omega) (by omega) ?_
  exact lw_ret hx hb hr hlocks d_La_law_1137
