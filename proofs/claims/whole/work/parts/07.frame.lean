/-! The class's contracts: one world g (a map), the tables' words, what is read of the statics. -/
section WFrame
/-- a method's end: what it answered, or the class of what it threw -/
def x_Is (r : Option Value ⊕ String) (o : Outcome) (t : State) : Prop := match r with
  | .inl v => o = .returned v
  | .inr E => ∃ (q : Addr) (ce : Cell), o = .threw q ∧ t.heap[q]? = some ce ∧ ce.vm = .none ∧ t.vm.findClass E = some ce.cls
/-- words of the tables that no warming takes away, but by rows of their own -/
def x_spc : List Cond := lw_tbl.filter (fun w => match w with | .declares _ | .castable _ _ | .methodLinkNest _ _ _ _ => true | _ => false)
/-- the class's String constants -/
def x_strs : List (Nat × String) := [(156, "the kind is not 0..15"), (158, "the kind is defined already"), (32, "words is not 0..16"), (37, "the mask names words that there are not"), (44, "elements is not 0..4"), (154, "the slot is not 0..31"), (63, "n is below 0"), (67, "the kind is not defined"), (175, "there is no room"), (160, "the slot holds none"), (164, "there is no such word or element"), (172, "a reference is no value, nor a value a reference"), (143, "words is not 16..65536")]
/-- classes that don't fit where a handler asks -/
def x_nos : List (String × String) := [("java/lang/IllegalArgumentException", "java/lang/IllegalStateException"), ("java/lang/IllegalArgumentException", "java/lang/IndexOutOfBoundsException"), ("java/lang/IllegalArgumentException", "java/lang/UnsupportedOperationException"), ("java/lang/IllegalStateException", "java/lang/IllegalArgumentException"), ("java/lang/IllegalStateException", "java/lang/IndexOutOfBoundsException"), ("java/lang/IllegalStateException", "java/lang/UnsupportedOperationException"), ("java/lang/IndexOutOfBoundsException", "java/lang/IllegalArgumentException"), ("java/lang/IndexOutOfBoundsException", "java/lang/IllegalStateException"), ("java/lang/IndexOutOfBoundsException", "java/lang/UnsupportedOperationException"), ("java/lang/UnsupportedOperationException", "java/lang/IllegalArgumentException"), ("java/lang/UnsupportedOperationException", "java/lang/IllegalStateException"), ("java/lang/UnsupportedOperationException", "java/lang/IndexOutOfBoundsException")]
/-- what every method may lean on of the tables -/
def w_V (D : va_G) (tys : List (ClassId × FieldType)) (U : State) : Prop :=
  (∀ w ∈ x_tbl, w.before #[] U = true) ∧ va_K D vwCl tys U ∧ (∀ w ∈ x_spc, va_Nw w U) ∧ (∀ q ∈ x_strs, ∃ sa : Nat, vk_R R_De q.1 q.2 sa U) ∧ (∀ q ∈ x_nos, va_Nc q.1 q.2 U) ∧ va_AO "MemoryDesk$Kind" U ∧ va_AO "MemoryDesk$Item" U
theorem w_V.hts {D : va_G} {tys : List (ClassId × FieldType)} {U : State} (h : w_V D tys U) (args : Array Value) : ∀ w ∈ x_tbl, w.before args U = true :=
  fun w hw => word_at (State.WarmedH.refl U) (tbl_good w hw) (h.1 w hw)
theorem w_V.to {D : va_G} {tys : List (ClassId × FieldType)} {s U : State} (h : w_V D tys s) (hW : s.WarmedH U.vm) : w_V D tys U := by
  obtain ⟨h1, h2, h3, h4, h5, h6, h7⟩ := h
  refine ⟨fun w hw => word_at hW (tbl_good w hw) (h1 w hw), va_K.moved hW.alike h2, fun w hw => ?_, fun q hq => ?_, fun q hq => va_Nc.moved hW.alike (h5 q hq), va_AO.moved hW.alike h6, va_AO.moved hW.alike h7⟩
  · have hm := (List.mem_filter.mp hw).2
    have h0 := h3 w hw
    cases w with
    | declares x => exact va_Nw.warmD hW h0
    | castable a b => exact va_Nw.warmC hW h0
    | methodLinkNest a i x b => exact va_Nw.warmM hW h0
    | _ => cases hm
  · obtain ⟨sa, hq⟩ := h4 q hq
    exact ⟨sa, vk_R.warm hW hq⟩
/-- .. and of the statics, which lie outside A -/
def w_E (D : va_G) (tys : List (ClassId × FieldType)) (A : Nat → Prop) (U : State) (H : Heap) : Prop :=
  w_V D tys U ∧ x_St Bundle.tN "UNASSIGNED_STACK" Bundle.steD A U H ∧ x_St Bundle.tN "SUPPRESSED_SENTINEL" Bundle.listD A U H ∧
    ∃ t : Nat, va_Z R_De "ELEMENT_BITS" "[I" (.ref t) A U H ∧ va_T .int t 5 (fun j => .int ([32, 8, 16, 32, 64].getD j 0)) A U H
theorem w_E.hts {D : va_G} {tys : List (ClassId × FieldType)} {A : Nat → Prop} {U : State} {H : Heap} (h : w_E D tys A U H) (args : Array Value) : ∀ w ∈ x_tbl, w.before args U = true := h.1.hts args
theorem w_E.to {D : va_G} {tys : List (ClassId × FieldType)} {A B : Nat → Prop} {s U : State} {H0 H : Heap} {locs : List Loc} (h : w_E D tys A s H0) (hS : va_S A H0 H locs) (hB : ∀ q, B q → A q) (hW : s.WarmedH U.vm) : w_E D tys B U H := by
  obtain ⟨h1, h2, h3, t, h5, h6⟩ := h
  exact ⟨h1.to hW, h2.to hW.alike hS.2.1 hB, h3.to hW.alike hS.2.1 hB, t, ((h5.kept hS.2.1).narrow hB).moved hW.alike, ((h6.kept hS.2.1).narrow hB).moved hW.alike⟩
def w_Pc (D : va_G) (tys : List (ClassId × FieldType)) (av : List Value) (g : y_G) (sz : Nat) : Array Value → State → Prop := va_Pc av (fun U => U.heap.size = sz ∧ y_P D vwCl g U.heap ∧ w_E D tys (y_A g sz) U U.heap)
def w_Qc (D : va_G) (g : y_G) (sz : Nat) (post : Option Value ⊕ String → y_G → Prop) : Array Value → State → Outcome → State → Prop := fun _ st o t =>
  (∃ (r : Option Value ⊕ String) (g' : y_G), x_Is r o t ∧ post r g' ∧ y_P D vwCl g' t.heap ∧ ∀ q e, g' q = some e → y_A g sz q) ∧ va_F (y_A g sz) st t
theorem w_blind {D : va_G} {tys : List (ClassId × FieldType)} {av : List Value} {g : y_G} {sz : Nat} : FrameBlind (w_Pc D tys av g sz) := by
  intro a U gj mk h
  obtain ⟨h0, h1, h2, h3⟩ := h
  refine ⟨h0, h1, h2, ?_⟩
  have hW : U.WarmedH (U.calling gj mk a).vm := State.WarmedH.refl U
  exact h3.to (H := (U.calling gj mk a).heap) (locs := []) va_S.rf (fun _ h => h) hW
theorem y_AA {A : Nat → Prop} {g : y_G} {H0 H : Heap} {locs : List Loc} (hA : ∀ q e, g q = some e → A q) (hA0 : ∀ q, H0.size ≤ q → A q) (hS : va_S A H0 H locs) : ∀ q, y_A g H.size q → A q := fun q h => by
  rcases h with h | h
  · cases hg : g q with
    | none => exact absurd hg h
    | some e => exact hA q e hg
  · exact hA0 q (Nat.le_trans hS.1 h)
variable {p : Program} {l : Launch} {e : Env} {R : Room} {s : State} {m : MethodId} {args : Array Value} {below : List Frame} {meth : Method} {c : Code} {H : Heap} {locs : List Loc} {cells slots : Nat} {Q : State → Prop}
variable {y : MethodName} {ws : List Cond} {rm : Room} {mc ms maxL index n nL pc : Nat} {own : String} {cc : ByteArray} {ls : Array Slot} {As rest st0 : List Value} {A : Nat → Prop} {D : va_G} {tys : List (ClassId × FieldType)} {g : y_G} {post : Option Value ⊕ String → y_G → Prop}
theorem w_callS (S : CallFix p m c cc nL s args x_tbl own) (hM : x_M l y ws rm (w_Pc D tys As g H.size) (w_Qc D g H.size post) mc ms (y_A g H.size)) (cb : x_CB R s args own index y maxL ws rm mc ms n) (hst : (Cond.static y).before args s = true)
    (hE : w_E D tys A s s.heap) (hP : y_P D vwCl g H) (hA : ∀ q e, g q = some e → A q) (hA0 : ∀ q, s.heap.size ≤ q → A q) (hS : va_S A s.heap H locs)
    (hn : As.length = n) (hsize : ls.size = nL) (hstack : st0 = As.reverse ++ rest) (hW : 2 * (F0 m pc ls rest).monitorRoom + (rest.map fun v => v.category).sum ≤ 8) (hdg : decode cc pc = .ok (.invokestatic index, 3)) (hc : cells + mc ≤ R.cells) (hs : slots + ms ≤ R.slots)
    (kr : ∀ (v : Option Value) (g' : y_G) (H1 : Heap) (locs1 : List Loc), post (.inl v) g' → y_P D vwCl g' H1 → (∀ q e, g' q = some e → A q) → va_S A s.heap H1 locs1 → W p l e R s m args below meth c H1 locs1 (cells + mc) (slots + ms) Q (F0 m (pc + 3) ls (v.toList ++ rest)))
    (kt : ∀ (E : String) (q : Addr) (ce : Cell) (g' : y_G) (H1 : Heap) (locs1 : List Loc), post (.inr E) g' → y_P D vwCl g' H1 → (∀ q e, g' q = some e → A q) → va_S A s.heap H1 locs1 → H1[q]? = some ce → ce.vm = .none → s.vm.findClass E = some ce.cls → x_W p l e R s m args below meth c H1 locs1 (cells + mc) (slots + ms) Q (F0 m pc ls rest) q) :
    W p l e R s m args below meth c H locs cells slots Q (F0 m pc ls st0) := by
  have hAA := y_AA hA hA0 hS
  refine x_callS (A1 := y_A g H.size) S hM cb hst ⟨w_blind, fun U hU hWm => ⟨rfl, by rw [hU], by rw [hU]; exact hP, by rw [hU]; exact hE.to hS hAA hWm⟩⟩ hn hsize hstack hW hdg hc hs hS (fun q _ h => hAA q h) hAA (fun _ _ _ h => h.2) ?_ ?_
  · intro v st t H1 locs1 _ ht hal hq _ _ hS1
    obtain ⟨⟨r, g', h1, h2, h3, h4⟩, -⟩ := hq
    cases r with
    | inl v' => cases h1; exact kr v g' H1 locs1 h2 (by rw [← ht]; exact h3) (fun q e h => hAA q (h4 q e h)) hS1
    | inr E => obtain ⟨q, ce, z, -⟩ := h1; cases z
  · intro q st t H1 locs1 _ ht hal hq _ _ hS1
    obtain ⟨⟨r, g', h1, h2, h3, h4⟩, -⟩ := hq
    cases r with
    | inl v' => cases h1
    | inr E =>
      obtain ⟨q', ce, z, z1, z2, z3⟩ := h1
      cases z
      exact kt E q ce g' H1 locs1 h2 (by rw [← ht]; exact h3) (fun q e h => hAA q (h4 q e h)) hS1 (by rw [← ht]; exact z1) z2 (by rw [← hal.findClass]; exact z3)
theorem w_callV {C : String} {b : Addr} (S : CallFix p m c cc nL s args x_tbl own) (hM : x_M l y ws rm (w_Pc D tys (.ref b :: As) g H.size) (w_Qc D g H.size post) mc ms (y_A g H.size)) (cb : x_CB R s args own index y maxL ws rm mc ms n) (hin : (Cond.instanceMethod y).before args s = true) (hse : (Cond.selects C y y).before args s = true)
    (hrec : ∃ cellB : Cell, H[b]? = some cellB ∧ cellB.vm.isStatics = false ∧ s.vm.findClass C = some cellB.cls)
    (hE : w_E D tys A s s.heap) (hP : y_P D vwCl g H) (hA : ∀ q e, g q = some e → A q) (hA0 : ∀ q, s.heap.size ≤ q → A q) (hS : va_S A s.heap H locs)
    (hn : As.length = n) (hsize : ls.size = nL) (hstack : st0 = As.reverse ++ .ref b :: rest) (hW : 2 * (F0 m pc ls rest).monitorRoom + (rest.map fun v => v.category).sum ≤ 8) (hdg : decode cc pc = .ok (.invokevirtual index, 3)) (hc : cells + mc ≤ R.cells) (hs : slots + ms ≤ R.slots)
    (kr : ∀ (v : Option Value) (g' : y_G) (H1 : Heap) (locs1 : List Loc), post (.inl v) g' → y_P D vwCl g' H1 → (∀ q e, g' q = some e → A q) → va_S A s.heap H1 locs1 → W p l e R s m args below meth c H1 locs1 (cells + mc) (slots + ms) Q (F0 m (pc + 3) ls (v.toList ++ rest)))
    (kt : ∀ (E : String) (q : Addr) (ce : Cell) (g' : y_G) (H1 : Heap) (locs1 : List Loc), post (.inr E) g' → y_P D vwCl g' H1 → (∀ q e, g' q = some e → A q) → va_S A s.heap H1 locs1 → H1[q]? = some ce → ce.vm = .none → s.vm.findClass E = some ce.cls → x_W p l e R s m args below meth c H1 locs1 (cells + mc) (slots + ms) Q (F0 m pc ls rest) q) :
    W p l e R s m args below meth c H locs cells slots Q (F0 m pc ls st0) := by
  have hAA := y_AA hA hA0 hS
  refine x_callV (A1 := y_A g H.size) (C := C) (b := b) S hM cb hin hse ⟨w_blind, hrec, fun U hU hWm => ⟨rfl, by rw [hU], by rw [hU]; exact hP, by rw [hU]; exact hE.to hS hAA hWm⟩⟩ hn hsize hstack hW hdg hc hs hS (fun q _ h => hAA q h) hAA (fun _ _ _ h => h.2) ?_ ?_
  · intro v st t H1 locs1 _ ht hal hq _ _ hS1
    obtain ⟨⟨r, g', h1, h2, h3, h4⟩, -⟩ := hq
    cases r with
    | inl v' => cases h1; exact kr v g' H1 locs1 h2 (by rw [← ht]; exact h3) (fun q e h => hAA q (h4 q e h)) hS1
    | inr E => obtain ⟨q, ce, z, -⟩ := h1; cases z
  · intro q st t H1 locs1 _ ht hal hq _ _ hS1
    obtain ⟨⟨r, g', h1, h2, h3, h4⟩, -⟩ := hq
    cases r with
    | inl v' => cases h1
    | inr E =>
      obtain ⟨q', ce, z, z1, z2, z3⟩ := h1
      cases z
      exact kt E q ce g' H1 locs1 h2 (by rw [← ht]; exact h3) (fun q e h => hAA q (h4 q e h)) hS1 (by rw [← ht]; exact z1) z2 (by rw [← hal.findClass]; exact z3)
/-- the end of a walk: a return, the world as it stands -/
theorem w_fin {A : Nat → Prop} {r : Option Value} {g g' : y_G} {sz : Nat} (hsz : sz = s.heap.size) (hAe : y_A g sz = A) (hpost : post (.inl r) g') (hP : y_P D vwCl g' H) (hA : ∀ q e, g' q = some e → A q) (hS : va_S A s.heap H locs) :
    ∀ t : State, t.heap = H → s.WarmedH t.vm → w_Qc D g sz post args s (.returned r) t := fun t ht _ => by
  subst hAe
  exact ⟨⟨.inl r, g', rfl, hpost, by rw [ht]; exact hP, hA⟩, hS.F ht⟩
end WFrame
