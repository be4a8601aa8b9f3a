/-! constructors in a map's world -/
section YCtor
variable {p : Program} {l : Launch} {e : Env} {R : Room} {s : State} {m : MethodId} {args : Array Value} {below : List Frame} {meth : Method} {c : Code} {H : Heap} {locs : List Loc} {cells slots : Nat} {Q : State → Prop} {cc : ByteArray} {pc a : Nat} {ls : Array Slot} {rest : List Value} {D : va_G} {cl : List vw_C} {tys : List (ClassId × FieldType)} {g : y_G} {A : Nat → Prop} {H0 : Heap}
theorem y_putF (hexec : p.tables.exec = Jvm.exec) (hb : c.code = cc) {own ref C : String} {T : u_T} {N ci index : Nat} {Ts : List Cond} (hts : ∀ w ∈ Ts, w.before args s = true) (hin : ∀ w ∈ u_ws C T N, w ∈ Ts) (ty0 : Nat → FieldType) (hty : ∀ k, k < N → parseFieldDescriptor (T k).2.2.1 = some (ty0 k)) (hnm : ∀ a, a < N → ∀ b, b < N → a ≠ b → (T a).2.1 ≠ (T b).2.1) (hown : s.vm.findClass own = some m.cls)
    (hK : va_K D cl tys s) (hP : y_P D cl g H) (hA : ∀ q e, g q = some e → A q) (hS : va_S A H0 H locs) {fs : List Value} (he : g a = some (.inr (ci, fs))) (hc : cl[ci]? = some (C, T, N)) (k : Nat) (hk : k < N) (hlink : (Cond.fieldLink own index ref (T k).2.1 (T k).2.2.1).before args s = true) (hsame : ∀ x, s.fieldFound? (T k).1 (T k).2.1 (T k).2.2.1 = some x → s.fieldFound? ref (T k).2.1 (T k).2.2.1 = some x)
    (hfin : (T k).2.2.2 = true) (hin2 : meth.name = "<init>") (hdecl : (T k).1 = own) {ty : FieldType} {v : Value} (hd : parseFieldDescriptor (T k).2.2.1 = some ty) (hn : narrow ty v = v) (hfit : fits ty v = true) (hl : k < fs.length) (hdg : decode cc pc = .ok (.putfield index, 3))
    (kk : ∀ (H1 : Heap) (locs1 : List Loc), y_P D cl (va_up g a (some (.inr (ci, fs.set k v)))) H1 → (∀ q e, va_up g a (some (.inr (ci, fs.set k v))) q = some e → A q) → va_S A H0 H1 locs1 → W p l e R s m args below meth c H1 locs1 cells slots Q (F0 m (pc + 3) ls rest)) : W p l e R s m args below meth c H locs cells slots Q (F0 m pc ls (v :: .ref a :: rest)) := by
  have hlt : ∀ q e, g q = some e → q < H.size := fun q e h => y_lt hP h
  obtain ⟨j, hj⟩ := y_idx (hlt a _ he) he
  refine va_putF hexec hb hts hin ty0 hty hnm hown hK (y_toL hP H.size) (y_D hA H.size) hS j hj hc k hk hlink hsame hfin hin2 hdecl hd hn hfit hl hdg (fun H1 locs1 h1 _ h3 => ?_)
  refine kk H1 locs1 (y_ofSet hlt hj h1) (fun q e h => ?_) h3
  by_cases hq : q = a
  · rw [hq]; exact hA a _ he
  · rw [va_up_ne _ _ hq] at h; exact hA q e h
end YCtor
section XCallI
variable {p : Program} {l : Launch} {e : Env} {R : Room} {s : State} {m : MethodId} {args : Array Value} {below : List Frame} {meth : Method} {c : Code} {H : Heap} {locs : List Loc} {cells slots : Nat} {Q : State → Prop}
variable {y : MethodName} {ws : List Cond} {rm : Room} {Pc : Array Value → State → Prop} {Qc : Array Value → State → Outcome → State → Prop} {mc ms maxL index n nL pc : Nat} {own : String} {free : Addr → Prop} {Ts : List Cond} {cc bytes : ByteArray} {ls : Array Slot} {As rest st0 : List Value} {A0 A1 : Nat → Prop} {H0 : Heap}
/-- invokespecial of a constructor -/
theorem x_callI {b : Addr} (S : CallFix p m c cc nL s args Ts own) (hM : x_M l y ws rm Pc Qc mc ms free) (cb : x_CB R s args own index y maxL ws rm mc ms n) (hy1 : y.name = "<init>") (hin : (Cond.instanceMethod y).before args s = true) (hcode : (Cond.code y bytes maxL none).before args s = true) (hp : PreS s H Pc (.ref b :: As))
    (hn : As.length = n) (hsize : ls.size = nL) (hstack : st0 = As.reverse ++ .ref b :: rest) (hW : 2 * (F0 m pc ls rest).monitorRoom + (rest.map fun v => v.category).sum ≤ 8) (hdg : decode cc pc = .ok (.invokespecial index, 3)) (hc : cells + mc ≤ R.cells) (hs : slots + ms ≤ R.slots)
    (hS : va_S A0 H0 H locs) (hA : ∀ q, q < H.size → A1 q → A0 q) (hf : ∀ q, free q → A0 q) (hF : ∀ st o t, Qc (Value.ref b :: As).toArray st o t → va_F A1 st t)
    (kr : ∀ (v : Option Value) (st t : State) (H1 : Heap) (locs1 : List Loc), st.heap = H → t.heap = H1 → s.vm.Alike t.vm → Qc (Value.ref b :: As).toArray st (.returned v) t → H.size ≤ H1.size → (∀ q : Nat, q < H.size → ¬ A1 q → H1[q]? = H[q]?) → va_S A0 H0 H1 locs1 →
      W p l e R s m args below meth c H1 locs1 (cells + mc) (slots + ms) Q (F0 m (pc + 3) ls (v.toList ++ rest)))
    (kt : ∀ (q : Addr) (st t : State) (H1 : Heap) (locs1 : List Loc), st.heap = H → t.heap = H1 → s.vm.Alike t.vm → Qc (Value.ref b :: As).toArray st (.threw q) t → H.size ≤ H1.size → (∀ q : Nat, q < H.size → ¬ A1 q → H1[q]? = H[q]?) → va_S A0 H0 H1 locs1 →
      x_W p l e R s m args below meth c H1 locs1 (cells + mc) (slots + ms) Q (F0 m pc ls rest) q) : W p l e R s m args below meth c H locs cells slots Q (F0 m pc ls st0) := by
  intro T hT X
  obtain ⟨hx, hb, hml, ho, -⟩ := S
  have hy := cb.2.2.2.2.2.2.2.1
  have hlen := cb.2.2.2.2.2.2.2.2.1
  have hl := cb.2.2.2.2.2.2.2.2.2
  have hpl : e.platform.magicAccessors = ({} : Platform).magicAccessors := by rw [X.admits.platform]
  obtain ⟨mk, mM, cM, kP, vm₁, n0, -, -, -, -, -, -, -, hW₁, st1⟩ := Steps.initColdArgs (e := e) X.here hx X.warmed hpl ho hy1 hy hl hin hcode (f := F0 m pc ls st0) rfl (fun sig h => hn.trans (hlen sig h)) hstack (by rw [hb]; exact hdg)
  have X₁ := X.noted hW₁
  obtain ⟨o, t, T', L, X', e1, e2, hq, hL, k1, k2⟩ := x_back hM cb X₁ n0 (g := F0 m pc ls rest) (ig := .invokespecial index) (len := 3) rfl (hsize.trans hml.symm) (by rw [hb]; exact hdg) hW hc hs (a := (Value.ref b :: As).toArray)
    (hp.1 _ _ _ _ (hp.2 (T.setVm vm₁) hT X₁.warmed))
  have hh : ((T.setVm vm₁).calling (F0 m pc ls rest) mk (Value.ref b :: As).toArray).heap = H := hT
  obtain ⟨q1, q2, q3⟩ := x_after hh e1 hS hA hf hL (hF _ _ _ hq)
  have hal : s.vm.Alike t.vm := by rw [← e2]; exact X'.warmed.alike
  cases o with
  | returned v =>
    obtain ⟨t2, a1, b1⟩ := kr v _ t T'.heap (locs ++ L) hh e1.symm hal hq q1 q2 q3 T' rfl X'
    exact ⟨t2, st1 _ fun acts => by rw [doInvoke_state]; exact (k1 v rfl).trans a1, b1⟩
  | threw q =>
    obtain ⟨t2, a1, b1⟩ := kt q _ t T'.heap (locs ++ L) hh e1.symm hal hq q1 q2 q3 T' rfl X'
    exact ⟨t2, st1 _ fun acts => by rw [doInvoke_state]; exact (k2 q rfl).trans a1, b1⟩
end XCallI
section WCallI
variable {p : Program} {l : Launch} {e : Env} {R : Room} {s : State} {m : MethodId} {args : Array Value} {below : List Frame} {meth : Method} {c : Code} {H : Heap} {locs : List Loc} {cells slots : Nat} {Q : State → Prop}
variable {y : MethodName} {ws : List Cond} {rm : Room} {mc ms maxL index n nL pc : Nat} {own : String} {cc bytes : ByteArray} {ls : Array Slot} {As rest st0 : List Value} {A : Nat → Prop} {D : va_G} {tys : List (ClassId × FieldType)} {g : y_G} {post : Option Value ⊕ String → y_G → Prop}
theorem w_callI {b : Addr} (S : CallFix p m c cc nL s args x_tbl own) (hM : x_M l y ws rm (w_Pc D tys (.ref b :: As) g H.size) (w_Qc D g H.size post) mc ms (y_A g H.size)) (cb : x_CB R s args own index y maxL ws rm mc ms n) (hy1 : y.name = "<init>") (hin : (Cond.instanceMethod y).before args s = true) (hcode : (Cond.code y bytes maxL none).before args s = true)
    (hE : w_E D tys A s s.heap) (hP : y_P D vwCl g H) (hA : ∀ q e, g q = some e → A q) (hA0 : ∀ q, s.heap.size ≤ q → A q) (hS : va_S A s.heap H locs) (hnt : ∀ E g', ¬ post (.inr E) g')
    (hn : As.length = n) (hsize : ls.size = nL) (hstack : st0 = As.reverse ++ .ref b :: rest) (hW : 2 * (F0 m pc ls rest).monitorRoom + (rest.map fun v => v.category).sum ≤ 8) (hdg : decode cc pc = .ok (.invokespecial index, 3)) (hc : cells + mc ≤ R.cells) (hs : slots + ms ≤ R.slots)
    (kr : ∀ (v : Option Value) (g' : y_G) (H1 : Heap) (locs1 : List Loc), post (.inl v) g' → y_P D vwCl g' H1 → (∀ q e, g' q = some e → A q) → va_S A s.heap H1 locs1 → W p l e R s m args below meth c H1 locs1 (cells + mc) (slots + ms) Q (F0 m (pc + 3) ls (v.toList ++ rest))) :
    W p l e R s m args below meth c H locs cells slots Q (F0 m pc ls st0) := by
  have hAA := y_AA hA hA0 hS
  refine x_callI (A1 := y_A g H.size) (b := b) S hM cb hy1 hin hcode ⟨w_blind, fun U hU hWm => ⟨rfl, by rw [hU], by rw [hU]; exact hP, by rw [hU]; exact hE.to hS hAA hWm⟩⟩ hn hsize hstack hW hdg hc hs hS (fun q _ h => hAA q h) hAA (fun _ _ _ h => h.2) ?_ ?_
  · intro v st t H1 locs1 _ ht hal hq _ _ hS1
    obtain ⟨⟨r, g', h1, h2, h3, h4⟩, -⟩ := hq
    cases r with
    | inl v' => cases h1; exact kr v g' H1 locs1 h2 (by rw [← ht]; exact h3) (fun q e h => hAA q (h4 q e h)) hS1
    | inr E => obtain ⟨q, ce, z, -⟩ := h1; cases z
  · intro q st t H1 locs1 _ ht hal hq _ _ hS1
    obtain ⟨⟨r, g', h1, h2, h3, h4⟩, -⟩ := hq
    cases r with
    | inl v' => cases h1
    | inr E => exact absurd h2 (hnt E g')
abbrev rmK : Room := { frames := 1, cells := 0, slots := 0, locals := 20 }
abbrev rmC : Room := { frames := 2, cells := 0, slots := 0, locals := 44 }
end WCallI
theorem x_obj : Cond.code objectInit ⟨#[0xb1]⟩ 1 none ∈ x_tbl := x_good (List.mem_append_right _ (List.mem_of_getElem? (i := 22) rfl)) rfl
set_option maxHeartbeats 4000000 in
set_option maxRecDepth 100000 in
/-- Kind(): nothing -/
theorem c_Ki_init (l : Launch) (D : va_G) (tys : List (ClassId × FieldType)) (g : y_G) (x : Nat) : Met l y_Ki_init [.code y_Ki_init b_Ki_init 1 none] rmK (w_Pp D tys [.ref x] g) (va_Sv (fun _ => True)) 0 0 (fun _ => False) := by
  refine Met.ofW (cc := b_Ki_init) (maxL := 1) (ret := none) (by decide) rfl ?_
  intro p e s m args below meth c s₁ B hml hv
  obtain ⟨rfl, hP, hV⟩ := hv
  have hts := hV.hts ([.ref x] : List Value).toArray
  have hx := B.exec
  have hb := B.bytes
  have hr := B.returns
  have hlocks := B.notSynchronized
  have hown : s.vm.findClass R_Ki = some m.cls := findClass_of_methodNamed B.named
  have hl := lv_entry ([.ref x]) (n := 1) (Nat.le_of_ble_eq_true rfl)
  rw [lg_entry_eq]
  generalize (lg_sl ([.ref x]) ++ List.replicate (1 - (lg_sl ([.ref x])).length) Slot.unset).toArray = ls at hl ⊢
  have hl : lv_has ls 1 [(0, .ref x)] := hl
  refine lv_aload_n hx hb d_Ki_init_0 rfl (lv_at hl 0 rfl) ?_
  refine W.objInit hx hb hown (hts (.methodLink R_Ki 1 objectInit) (by decide +kernel)) (hts (.instanceMethod objectInit) (by decide +kernel)) (hts _ x_obj) rfl (by rw [hml]; exact hl.1) rfl d_Ki_init_1 (Nat.le_of_ble_eq_true rfl) (Nat.le_of_ble_eq_true rfl) ?_
  refine W.eq (g2 := F0 m 4 ls []) rfl ?_
  exact W.vret hx hb hr (fun t ht _ => ⟨rfl, trivial, ht⟩) (fun q h => nomatch h) d_Ki_init_4
set_option maxHeartbeats 4000000 in
set_option maxRecDepth 100000 in
/-- Cell(place, null) -/
theorem c_Ce_initN (l : Launch) (D : va_G) (tys : List (ClassId × FieldType)) (g : y_G) (sz : Nat) (x : Nat) (k : Int32) (h0 : g x = some (.inr (0, [.int 0, .null, .long 0, .null]))) : x_M l y_Ce_init [.code y_Ce_init b_Ce_init 3 none] rmK (w_Pc D tys [.ref x, .int k, .null] g sz) (w_Qc D g sz (fun r g9 => r = .inl none ∧ g9 = va_up g x (some (.inr (0, [.int k, .null, .long 0, .null]))))) 0 0 (y_A g sz) := by
  refine x_ofW (cc := b_Ce_init) (maxL := 3) (ret := none) (by decide) rfl ?_
  intro p e s m args below meth c s₁ B hml hno hv
  obtain ⟨rfl, hsz, hP, hE⟩ := hv
  subst hsz
  have hts := hE.hts ([.ref x, .int k, .null] : List Value).toArray
  have hK := hE.1.2.1
  have hA0 : ∀ q, s.heap.size ≤ q → y_A g s.heap.size q := fun q h => Or.inr h
  have hA : ∀ q e, g q = some e → y_A g s.heap.size q := fun q e h => Or.inl (by rw [h]; exact fun z => nomatch z)
  have hS : va_S (y_A g s.heap.size) s.heap s.heap [] := va_S.rf
  generalize hAe : y_A g s.heap.size = A at hE hA0 hA hS ⊢
  have hx := B.exec
  have hb := B.bytes
  have hr := B.returns
  have hlocks := B.notSynchronized
  have hown : s.vm.findClass R_Ce = some m.cls := findClass_of_methodNamed B.named
  have hl := lv_entry ([.ref x, .int k, .null]) (n := 3) (Nat.le_of_ble_eq_true rfl)
  rw [lg_entry_eq]
  generalize (lg_sl ([.ref x, .int k, .null]) ++ List.replicate (3 - (lg_sl ([.ref x, .int k, .null])).length) Slot.unset).toArray = ls at hl ⊢
  have hl : lv_has ls 3 [(0, .ref x), (1, .int k), (2, .null)] := hl
  have hnm : meth.name = "<init>" := (name_of_methodNamed B.named B.method).1
  refine lv_aload_n hx hb d_Ce_init_0 rfl (lv_at hl 0 rfl) ?_
  refine W.objInit hx hb hown (hts (.methodLink R_Ce 1 objectInit) (by decide +kernel)) (hts (.instanceMethod objectInit) (by decide +kernel)) (hts _ x_obj) rfl (by rw [hml]; exact hl.1) rfl d_Ce_init_1 (Nat.le_of_ble_eq_true rfl) (Nat.le_of_ble_eq_true rfl) ?_
  refine W.eq (g2 := F0 m 4 ls []) rfl ?_
  refine lv_aload_n hx hb d_Ce_init_4 rfl (lv_at hl 0 rfl) ?_
  refine lv_iload_n hx hb d_Ce_init_5 rfl (lv_at hl 1 rfl) ?_
  refine y_putF (D := D) (ci := 0) (v := .int k) (ty := .int) (C := R_Ce) (T := F_Ce) (N := 4) hx hb hts in_Ce t_Ce t_Ce_ok n_Ce hown hK hP hA hS h0 rfl 0 (by decide) (hts (.fieldLink R_Ce 7 "MemoryDesk$Cell" "place" "I") (by decide +kernel)) (fun _ h9 => h9) rfl hnm rfl (by decide +kernel) rfl rfl (Nat.le_of_ble_eq_true rfl) d_Ce_init_6 (fun H locs hP hA hS => ?_)
  have hP : y_P D vwCl (va_up g x (some (.inr (0, [.int k, .null, .long 0, .null])))) H := hP
  have hA : ∀ q e, va_up g x (some (.inr (0, [.int k, .null, .long 0, .null]))) q = some e → A q := hA
  refine lv_aload_n hx hb d_Ce_init_9 rfl (lv_at hl 0 rfl) ?_
  refine lv_aload_nN hx hb d_Ce_init_10 rfl (lv_at hl 2 rfl) ?_
  refine y_putF (D := D) (ci := 0) (v := .null) (ty := .object "MemoryDesk$Cell") (C := R_Ce) (T := F_Ce) (N := 4) hx hb hts in_Ce t_Ce t_Ce_ok n_Ce hown hK hP hA hS (va_up_self _ _ _) rfl 1 (by decide) (hts (.fieldLink R_Ce 13 "MemoryDesk$Cell" "next" "LMemoryDesk$Cell;") (by decide +kernel)) (fun _ h9 => h9) rfl hnm rfl (by decide +kernel) rfl rfl (Nat.le_of_ble_eq_true rfl) d_Ce_init_11 (fun H locs hP hA hS => ?_)
  rw [bx_uu] at hP hA
  have hP : y_P D vwCl (va_up g x (some (.inr (0, [.int k, .null, .long 0, .null])))) H := hP
  have hA : ∀ q e, va_up g x (some (.inr (0, [.int k, .null, .long 0, .null]))) q = some e → A q := hA
  refine W.widen (k := 0) (n := 0) (by first | decide | omega) (by first | decide | omega) ?_
  exact x_ret (W.vret hx hb hr (w_fin rfl hAe ⟨rfl, rfl⟩ hP hA hS) hS.2.2 d_Ce_init_14)
set_option maxHeartbeats 4000000 in
set_option maxRecDepth 100000 in
/-- Cell(place, next) -/
theorem c_Ce_initR (l : Launch) (D : va_G) (tys : List (ClassId × FieldType)) (g : y_G) (sz : Nat) (x : Nat) (k : Int32) (nx : Nat) (h0 : g x = some (.inr (0, [.int 0, .null, .long 0, .null]))) : x_M l y_Ce_init [.code y_Ce_init b_Ce_init 3 none] rmK (w_Pc D tys [.ref x, .int k, .ref nx] g sz) (w_Qc D g sz (fun r g9 => r = .inl none ∧ g9 = va_up g x (some (.inr (0, [.int k, .ref nx, .long 0, .null]))))) 0 0 (y_A g sz) := by
  refine x_ofW (cc := b_Ce_init) (maxL := 3) (ret := none) (by decide) rfl ?_
  intro p e s m args below meth c s₁ B hml hno hv
  obtain ⟨rfl, hsz, hP, hE⟩ := hv
  subst hsz
  have hts := hE.hts ([.ref x, .int k, .ref nx] : List Value).toArray
  have hK := hE.1.2.1
  have hA0 : ∀ q, s.heap.size ≤ q → y_A g s.heap.size q := fun q h => Or.inr h
  have hA : ∀ q e, g q = some e → y_A g s.heap.size q := fun q e h => Or.inl (by rw [h]; exact fun z => nomatch z)
  have hS : va_S (y_A g s.heap.size) s.heap s.heap [] := va_S.rf
  generalize hAe : y_A g s.heap.size = A at hE hA0 hA hS ⊢
  have hx := B.exec
  have hb := B.bytes
  have hr := B.returns
  have hlocks := B.notSynchronized
  have hown : s.vm.findClass R_Ce = some m.cls := findClass_of_methodNamed B.named
  have hl := lv_entry ([.ref x, .int k, .ref nx]) (n := 3) (Nat.le_of_ble_eq_true rfl)
  rw [lg_entry_eq]
  generalize (lg_sl ([.ref x, .int k, .ref nx]) ++ List.replicate (3 - (lg_sl ([.ref x, .int k, .ref nx])).length) Slot.unset).toArray = ls at hl ⊢
  have hl : lv_has ls 3 [(0, .ref x), (1, .int k), (2, .ref nx)] := hl
  have hnm : meth.name = "<init>" := (name_of_methodNamed B.named B.method).1
  refine lv_aload_n hx hb d_Ce_init_0 rfl (lv_at hl 0 rfl) ?_
  refine W.objInit hx hb hown (hts (.methodLink R_Ce 1 objectInit) (by decide +kernel)) (hts (.instanceMethod objectInit) (by decide +kernel)) (hts _ x_obj) rfl (by rw [hml]; exact hl.1) rfl d_Ce_init_1 (Nat.le_of_ble_eq_true rfl) (Nat.le_of_ble_eq_true rfl) ?_
  refine W.eq (g2 := F0 m 4 ls []) rfl ?_
  refine lv_aload_n hx hb d_Ce_init_4 rfl (lv_at hl 0 rfl) ?_
  refine lv_iload_n hx hb d_Ce_init_5 rfl (lv_at hl 1 rfl) ?_
  refine y_putF (D := D) (ci := 0) (v := .int k) (ty := .int) (C := R_Ce) (T := F_Ce) (N := 4) hx hb hts in_Ce t_Ce t_Ce_ok n_Ce hown hK hP hA hS h0 rfl 0 (by decide) (hts (.fieldLink R_Ce 7 "MemoryDesk$Cell" "place" "I") (by decide +kernel)) (fun _ h9 => h9) rfl hnm rfl (by decide +kernel) rfl rfl (Nat.le_of_ble_eq_true rfl) d_Ce_init_6 (fun H locs hP hA hS => ?_)
  have hP : y_P D vwCl (va_up g x (some (.inr (0, [.int k, .null, .long 0, .null])))) H := hP
  have hA : ∀ q e, va_up g x (some (.inr (0, [.int k, .null, .long 0, .null]))) q = some e → A q := hA
  refine lv_aload_n hx hb d_Ce_init_9 rfl (lv_at hl 0 rfl) ?_
  refine lv_aload_n hx hb d_Ce_init_10 rfl (lv_at hl 2 rfl) ?_
  refine y_putF (D := D) (ci := 0) (v := .ref nx) (ty := .object "MemoryDesk$Cell") (C := R_Ce) (T := F_Ce) (N := 4) hx hb hts in_Ce t_Ce t_Ce_ok n_Ce hown hK hP hA hS (va_up_self _ _ _) rfl 1 (by decide) (hts (.fieldLink R_Ce 13 "MemoryDesk$Cell" "next" "LMemoryDesk$Cell;") (by decide +kernel)) (fun _ h9 => h9) rfl hnm rfl (by decide +kernel) rfl rfl (Nat.le_of_ble_eq_true rfl) d_Ce_init_11 (fun H locs hP hA hS => ?_)
  rw [bx_uu] at hP hA
  have hP : y_P D vwCl (va_up g x (some (.inr (0, [.int k, .ref nx, .long 0, .null])))) H := hP
  have hA : ∀ q e, va_up g x (some (.inr (0, [.int k, .ref nx, .long 0, .null]))) q = some e → A q := hA
  refine W.widen (k := 0) (n := 0) (by first | decide | omega) (by first | decide | omega) ?_
  exact x_ret (W.vret hx hb hr (w_fin rfl hAe ⟨rfl, rfl⟩ hP hA hS) hS.2.2 d_Ce_init_14)
set_option maxHeartbeats 4000000 in
set_option maxRecDepth 100000 in
/-- Item(kind, length, words) -/
theorem c_It_init (l : Launch) (D : va_G) (tys : List (ClassId × FieldType)) (g : y_G) (sz : Nat) (x : Nat) (kx : Nat) (len wd : Int32) (h0 : g x = some (.inr (1, [.null, .int 0, .int 0, .null, .int 0, .int 0, .null, .int 0, .null]))) : x_M l y_It_init [.code y_It_init b_It_init 4 none] rmK (w_Pc D tys [.ref x, .ref kx, .int len, .int wd] g sz) (w_Qc D g sz (fun r g9 => r = .inl none ∧ g9 = va_up g x (some (.inr (1, [.ref kx, .int len, .int wd, .null, .int 0, .int 0, .null, .int 0, .null]))))) 0 0 (y_A g sz) := by
  refine x_ofW (cc := b_It_init) (maxL := 4) (ret := none) (by decide) rfl ?_
  intro p e s m args below meth c s₁ B hml hno hv
  obtain ⟨rfl, hsz, hP, hE⟩ := hv
  subst hsz
  have hts := hE.hts ([.ref x, .ref kx, .int len, .int wd] : List Value).toArray
  have hK := hE.1.2.1
  have hA0 : ∀ q, s.heap.size ≤ q → y_A g s.heap.size q := fun q h => Or.inr h
  have hA : ∀ q e, g q = some e → y_A g s.heap.size q := fun q e h => Or.inl (by rw [h]; exact fun z => nomatch z)
  have hS : va_S (y_A g s.heap.size) s.heap s.heap [] := va_S.rf
  generalize hAe : y_A g s.heap.size = A at hE hA0 hA hS ⊢
  have hx := B.exec
  have hb := B.bytes
  have hr := B.returns
  have hlocks := B.notSynchronized
  have hown : s.vm.findClass R_It = some m.cls := findClass_of_methodNamed B.named
  have hl := lv_entry ([.ref x, .ref kx, .int len, .int wd]) (n := 4) (Nat.le_of_ble_eq_true rfl)
  rw [lg_entry_eq]
  generalize (lg_sl ([.ref x, .ref kx, .int len, .int wd]) ++ List.replicate (4 - (lg_sl ([.ref x, .ref kx, .int len, .int wd])).length) Slot.unset).toArray = ls at hl ⊢
  have hl : lv_has ls 4 [(0, .ref x), (1, .ref kx), (2, .int len), (3, .int wd)] := hl
  have hnm : meth.name = "<init>" := (name_of_methodNamed B.named B.method).1
  refine lv_aload_n hx hb d_It_init_0 rfl (lv_at hl 0 rfl) ?_
  refine W.objInit hx hb hown (hts (.methodLink R_It 1 objectInit) (by decide +kernel)) (hts (.instanceMethod objectInit) (by decide +kernel)) (hts _ x_obj) rfl (by rw [hml]; exact hl.1) rfl d_It_init_1 (Nat.le_of_ble_eq_true rfl) (Nat.le_of_ble_eq_true rfl) ?_
  refine W.eq (g2 := F0 m 4 ls []) rfl ?_
  refine lv_aload_n hx hb d_It_init_4 rfl (lv_at hl 0 rfl) ?_
  refine lv_aload_n hx hb d_It_init_5 rfl (lv_at hl 1 rfl) ?_
  refine y_putF (D := D) (ci := 1) (v := .ref kx) (ty := .object "MemoryDesk$Kind") (C := R_It) (T := F_It) (N := 9) hx hb hts in_It t_It t_It_ok n_It hown hK hP hA hS h0 rfl 0 (by decide) (hts (.fieldLink R_It 7 "MemoryDesk$Item" "kind" "LMemoryDesk$Kind;") (by decide +kernel)) (fun _ h9 => h9) rfl hnm rfl (by decide +kernel) rfl rfl (Nat.le_of_ble_eq_true rfl) d_It_init_6 (fun H locs hP hA hS => ?_)
  have hP : y_P D vwCl (va_up g x (some (.inr (1, [.ref kx, .int 0, .int 0, .null, .int 0, .int 0, .null, .int 0, .null])))) H := hP
  have hA : ∀ q e, va_up g x (some (.inr (1, [.ref kx, .int 0, .int 0, .null, .int 0, .int 0, .null, .int 0, .null]))) q = some e → A q := hA
  refine lv_aload_n hx hb d_It_init_9 rfl (lv_at hl 0 rfl) ?_
  refine lv_iload_n hx hb d_It_init_10 rfl (lv_at hl 2 rfl) ?_
  refine y_putF (D := D) (ci := 1) (v := .int len) (ty := .int) (C := R_It) (T := F_It) (N := 9) hx hb hts in_It t_It t_It_ok n_It hown hK hP hA hS (va_up_self _ _ _) rfl 1 (by decide) (hts (.fieldLink R_It 13 "MemoryDesk$Item" "length" "I") (by decide +kernel)) (fun _ h9 => h9) rfl hnm rfl (by decide +kernel) rfl rfl (Nat.le_of_ble_eq_true rfl) d_It_init_11 (fun H locs hP hA hS => ?_)
  rw [bx_uu] at hP hA
  have hP : y_P D vwCl (va_up g x (some (.inr (1, [.ref kx, .int len, .int 0, .null, .int 0, .int 0, .null, .int 0, .null])))) H := hP
  have hA : ∀ q e, va_up g x (some (.inr (1, [.ref kx, .int len, .int 0, .null, .int 0, .int 0, .null, .int 0, .null]))) q = some e → A q := hA
  refine lv_aload_n hx hb d_It_init_14 rfl (lv_at hl 0 rfl) ?_
  refine lv_iload_n hx hb d_It_init_15 rfl (lv_at hl 3 rfl) ?_
  refine y_putF (D := D) (ci := 1) (v := .int wd) (ty := .int) (C := R_It) (T := F_It) (N := 9) hx hb hts in_It t_It t_It_ok n_It hown hK hP hA hS (va_up_self _ _ _) rfl 2 (by decide) (hts (.fieldLink R_It 17 "MemoryDesk$Item" "words" "I") (by decide +kernel)) (fun _ h9 => h9) rfl hnm rfl (by decide +kernel) rfl rfl (Nat.le_of_ble_eq_true rfl) d_It_init_16 (fun H locs hP hA hS => ?_)
  rw [bx_uu] at hP hA
  have hP : y_P D vwCl (va_up g x (some (.inr (1, [.ref kx, .int len, .int wd, .null, .int 0, .int 0, .null, .int 0, .null])))) H := hP
  have hA : ∀ q e, va_up g x (some (.inr (1, [.ref kx, .int len, .int wd, .null, .int 0, .int 0, .null, .int 0, .null]))) q = some e → A q := hA
  refine W.widen (k := 0) (n := 0) (by first | decide | omega) (by first | decide | omega) ?_
  exact x_ret (W.vret hx hb hr (w_fin rfl hAe ⟨rfl, rfl⟩ hP hA hS) hS.2.2 d_It_init_19)
set_option maxHeartbeats 4000000 in
set_option maxRecDepth 100000 in
/-- PlainKind(words, mask) -/
theorem c_Pk_init (l : Launch) (D : va_G) (tys : List (ClassId × FieldType)) (g : y_G) (sz : Nat) (x : Nat) (w mk : Int32) (h0 : g x = some (.inr (2, [.int 0, .int 0]))) : x_M l y_Pk_init [.code y_Pk_init b_Pk_init 3 none] rmC (w_Pc D tys [.ref x, .int w, .int mk] g sz) (w_Qc D g sz (fun r g9 => r = .inl none ∧ g9 = va_up g x (some (.inr (2, [.int w, .int mk]))))) 0 0 (y_A g sz) := by
  refine x_ofW (cc := b_Pk_init) (maxL := 3) (ret := none) (by decide) rfl ?_
  intro p e s m args below meth c s₁ B hml hno hv
  obtain ⟨rfl, hsz, hP, hE⟩ := hv
  subst hsz
  have hts := hE.hts ([.ref x, .int w, .int mk] : List Value).toArray
  have hK := hE.1.2.1
  have hA0 : ∀ q, s.heap.size ≤ q → y_A g s.heap.size q := fun q h => Or.inr h
  have hA : ∀ q e, g q = some e → y_A g s.heap.size q := fun q e h => Or.inl (by rw [h]; exact fun z => nomatch z)
  have hS : va_S (y_A g s.heap.size) s.heap s.heap [] := va_S.rf
  generalize hAe : y_A g s.heap.size = A at hE hA0 hA hS ⊢
  have hx := B.exec
  have hb := B.bytes
  have hr := B.returns
  have hlocks := B.notSynchronized
  have hown : s.vm.findClass R_Pk = some m.cls := findClass_of_methodNamed B.named
  have hl := lv_entry ([.ref x, .int w, .int mk]) (n := 3) (Nat.le_of_ble_eq_true rfl)
  rw [lg_entry_eq]
  generalize (lg_sl ([.ref x, .int w, .int mk]) ++ List.replicate (3 - (lg_sl ([.ref x, .int w, .int mk])).length) Slot.unset).toArray = ls at hl ⊢
  have hl : lv_has ls 3 [(0, .ref x), (1, .int w), (2, .int mk)] := hl
  have hnm : meth.name = "<init>" := (name_of_methodNamed B.named B.method).1
  refine lv_aload_n hx hb d_Pk_init_0 rfl (lv_at hl 0 rfl) ?_
  refine va_csv (va_Run.run (va_runIN (As := []) (host := "MemoryDesk") ⟨hx, hb, hml, hown, hts⟩ (c_Ki_init l D tys g x) ⟨va_cnB 0 hts (x_gi (by decide +kernel)) rfl rfl rfl (hE.1.2.2.1 (.methodLinkNest R_Pk 3 y_Ki_init "MemoryDesk") (by decide +kernel)) (hts (.initialized R_Ki) (by decide +kernel)) (by decide +kernel) ⟨by decide, by decide⟩, rfl, (hts (.instanceMethod y_Ki_init) (by decide +kernel))⟩ ⟨w_Pp.blind, fun U hU hW => ⟨rfl, by rw [hU]; exact hP, hE.1.to hW⟩⟩ rfl rfl hl.1 rfl (lv_room (Nat.le_of_ble_eq_true rfl)) d_Pk_init_1 ⟨by decide, by decide⟩)) (fun _ => ?_)
  refine lv_aload_n hx hb d_Pk_init_4 rfl (lv_at hl 0 rfl) ?_
  refine lv_iload_n hx hb d_Pk_init_5 rfl (lv_at hl 1 rfl) ?_
  refine y_putF (D := D) (ci := 2) (v := .int w) (ty := .int) (C := R_Pk) (T := F_Pk) (N := 2) hx hb hts in_Pk t_Pk t_Pk_ok n_Pk hown hK hP hA hS h0 rfl 0 (by decide) (hts (.fieldLink R_Pk 9 "MemoryDesk$PlainKind" "words" "I") (by decide +kernel)) (fun _ h9 => h9) rfl hnm rfl (by decide +kernel) rfl rfl (Nat.le_of_ble_eq_true rfl) d_Pk_init_6 (fun H locs hP hA hS => ?_)
  have hP : y_P D vwCl (va_up g x (some (.inr (2, [.int w, .int 0])))) H := hP
  have hA : ∀ q e, va_up g x (some (.inr (2, [.int w, .int 0]))) q = some e → A q := hA
  refine lv_aload_n hx hb d_Pk_init_9 rfl (lv_at hl 0 rfl) ?_
  refine lv_iload_n hx hb d_Pk_init_10 rfl (lv_at hl 2 rfl) ?_
  refine y_putF (D := D) (ci := 2) (v := .int mk) (ty := .int) (C := R_Pk) (T := F_Pk) (N := 2) hx hb hts in_Pk t_Pk t_Pk_ok n_Pk hown hK hP hA hS (va_up_self _ _ _) rfl 1 (by decide) (hts (.fieldLink R_Pk 15 "MemoryDesk$PlainKind" "mask" "I") (by decide +kernel)) (fun _ h9 => h9) rfl hnm rfl (by decide +kernel) rfl rfl (Nat.le_of_ble_eq_true rfl) d_Pk_init_11 (fun H locs hP hA hS => ?_)
  rw [bx_uu] at hP hA
  have hP : y_P D vwCl (va_up g x (some (.inr (2, [.int w, .int mk])))) H := hP
  have hA : ∀ q e, va_up g x (some (.inr (2, [.int w, .int mk]))) q = some e → A q := hA
  refine W.widen (k := 0) (n := 0) (by first | decide | omega) (by first | decide | omega) ?_
  exact x_ret (W.vret hx hb hr (w_fin rfl hAe ⟨rfl, rfl⟩ hP hA hS) hS.2.2 d_Pk_init_14)
set_option maxHeartbeats 4000000 in
set_option maxRecDepth 100000 in
/-- RowKind(elements, bits) -/
theorem c_Rk_init (l : Launch) (D : va_G) (tys : List (ClassId × FieldType)) (g : y_G) (sz : Nat) (x : Nat) (el bi : Int32) (h0 : g x = some (.inr (3, [.int 0, .int 0]))) : x_M l y_Rk_init [.code y_Rk_init b_Rk_init 3 none] rmC (w_Pc D tys [.ref x, .int el, .int bi] g sz) (w_Qc D g sz (fun r g9 => r = .inl none ∧ g9 = va_up g x (some (.inr (3, [.int el, .int bi]))))) 0 0 (y_A g sz) := by
  refine x_ofW (cc := b_Rk_init) (maxL := 3) (ret := none) (by decide) rfl ?_
  intro p e s m args below meth c s₁ B hml hno hv
  obtain ⟨rfl, hsz, hP, hE⟩ := hv
  subst hsz
  have hts := hE.hts ([.ref x, .int el, .int bi] : List Value).toArray
  have hK := hE.1.2.1
  have hA0 : ∀ q, s.heap.size ≤ q → y_A g s.heap.size q := fun q h => Or.inr h
  have hA : ∀ q e, g q = some e → y_A g s.heap.size q := fun q e h => Or.inl (by rw [h]; exact fun z => nomatch z)
  have hS : va_S (y_A g s.heap.size) s.heap s.heap [] := va_S.rf
  generalize hAe : y_A g s.heap.size = A at hE hA0 hA hS ⊢
  have hx := B.exec
  have hb := B.bytes
  have hr := B.returns
  have hlocks := B.notSynchronized
  have hown : s.vm.findClass R_Rk = some m.cls := findClass_of_methodNamed B.named
  have hl := lv_entry ([.ref x, .int el, .int bi]) (n := 3) (Nat.le_of_ble_eq_true rfl)
  rw [lg_entry_eq]
  generalize (lg_sl ([.ref x, .int el, .int bi]) ++ List.replicate (3 - (lg_sl ([.ref x, .int el, .int bi])).length) Slot.unset).toArray = ls at hl ⊢
  have hl : lv_has ls 3 [(0, .ref x), (1, .int el), (2, .int bi)] := hl
  have hnm : meth.name = "<init>" := (name_of_methodNamed B.named B.method).1
  refine lv_aload_n hx hb d_Rk_init_0 rfl (lv_at hl 0 rfl) ?_
  refine va_csv (va_Run.run (va_runIN (As := []) (host := "MemoryDesk") ⟨hx, hb, hml, hown, hts⟩ (c_Ki_init l D tys g x) ⟨va_cnB 0 hts (x_gi (by decide +kernel)) rfl rfl rfl (hE.1.2.2.1 (.methodLinkNest R_Rk 3 y_Ki_init "MemoryDesk") (by decide +kernel)) (hts (.initialized R_Ki) (by decide +kernel)) (by decide +kernel) ⟨by decide, by decide⟩, rfl, (hts (.instanceMethod y_Ki_init) (by decide +kernel))⟩ ⟨w_Pp.blind, fun U hU hW => ⟨rfl, by rw [hU]; exact hP, hE.1.to hW⟩⟩ rfl rfl hl.1 rfl (lv_room (Nat.le_of_ble_eq_true rfl)) d_Rk_init_1 ⟨by decide, by decide⟩)) (fun _ => ?_)
  refine lv_aload_n hx hb d_Rk_init_4 rfl (lv_at hl 0 rfl) ?_
  refine lv_iload_n hx hb d_Rk_init_5 rfl (lv_at hl 1 rfl) ?_
  refine y_putF (D := D) (ci := 3) (v := .int el) (ty := .int) (C := R_Rk) (T := F_Rk) (N := 2) hx hb hts in_Rk t_Rk t_Rk_ok n_Rk hown hK hP hA hS h0 rfl 0 (by decide) (hts (.fieldLink R_Rk 9 "MemoryDesk$RowKind" "elements" "I") (by decide +kernel)) (fun _ h9 => h9) rfl hnm rfl (by decide +kernel) rfl rfl (Nat.le_of_ble_eq_true rfl) d_Rk_init_6 (fun H locs hP hA hS => ?_)
  have hP : y_P D vwCl (va_up g x (some (.inr (3, [.int el, .int 0])))) H := hP
  have hA : ∀ q e, va_up g x (some (.inr (3, [.int el, .int 0]))) q = some e → A q := hA
  refine lv_aload_n hx hb d_Rk_init_9 rfl (lv_at hl 0 rfl) ?_
  refine lv_iload_n hx hb d_Rk_init_10 rfl (lv_at hl 2 rfl) ?_
  refine y_putF (D := D) (ci := 3) (v := .int bi) (ty := .int) (C := R_Rk) (T := F_Rk) (N := 2) hx hb hts in_Rk t_Rk t_Rk_ok n_Rk hown hK hP hA hS (va_up_self _ _ _) rfl 1 (by decide) (hts (.fieldLink R_Rk 15 "MemoryDesk$RowKind" "bits" "I") (by decide +kernel)) (fun _ h9 => h9) rfl hnm rfl (by decide +kernel) rfl rfl (Nat.le_of_ble_eq_true rfl) d_Rk_init_11 (fun H locs hP hA hS => ?_)
  rw [bx_uu] at hP hA
  have hP : y_P D vwCl (va_up g x (some (.inr (3, [.int el, .int bi])))) H := hP
  have hA : ∀ q e, va_up g x (some (.inr (3, [.int el, .int bi]))) q = some e → A q := hA
  refine W.widen (k := 0) (n := 0) (by first | decide | omega) (by first | decide | omega) ?_
  exact x_ret (W.vret hx hb hr (w_fin rfl hAe ⟨rfl, rfl⟩ hP hA hS) hS.2.2 d_Rk_init_14)
