/-! Methods that return or throw: contracts (x_M), calls, leaving, catching, throwing. Own rows over the library's Stand. -/
section XMach
variable {p : Program} {l : Launch} {e : Env} {R : Room} {s : State} {m : MethodId} {args : Array Value} {below : List Frame} {meth : Method} {c : Code} {H : Heap} {locs : List Loc} {cells slots : Nat} {Q Q2 : State → Prop}
/-- what has moved behind a method, however it ended -/
def x_Fr (st t : State) (mc ms : Nat) (free : Addr → Prop) : Prop :=
  st.WarmedH t.vm ∧ ∃ L : List Loc, st.sameButNew ({ t with vm := st.vm } : State) L mc ms ∧ ∀ q ∈ L, free q.base
/-- a contract that speaks of both ends -/
def x_M (l : Launch) (y : MethodName) (ws : List Cond) (rm : Room) (Pc : Array Value → State → Prop) (Qc : Array Value → State → Outcome → State → Prop) (mc ms : Nat) (free : Addr → Prop) : Prop :=
  MetFree l y (headSpec ws rm) Pc (fun _ _ _ _ _ => True) (fun a st o t => Qc a st o t ∧ x_Fr st t mc ms free)
/-- the end of a walk under such a contract -/
def x_Q (below : List Frame) (Qc : Array Value → State → Outcome → State → Prop) (a : Array Value) (s : State) (mc ms : Nat) (free : Addr → Prop) : State → Prop := fun t =>
  ∃ o, t.status = .running ∧ Ended t below o ∧ Qc a s o t ∧ x_Fr s t mc ms free
/-- the walk, with q thrown over its frame g -/
def x_W (p : Program) (l : Launch) (e : Env) (R : Room) (s : State) (m : MethodId) (args : Array Value) (below : List Frame) (meth : Method) (c : Code) (H : Heap) (locs : List Loc) (cells slots : Nat) (Q : State → Prop) (g : JFrame) (q : Addr) : Prop :=
  ∀ T : State, T.heap = H → Stand p l e R s m args below meth c T locs cells slots → ∃ t, Steps p.tables e below ((T.setTop g).pushFrame (.throwing q)) t ∧ Q t
theorem x_W.widen {g : JFrame} {q : Addr} {k n : Nat} (h1 : cells ≤ k) (h2 : slots ≤ n) (kk : x_W p l e R s m args below meth c H locs k n Q g q) : x_W p l e R s m args below meth c H locs cells slots Q g q :=
  fun T hT X => kk T hT (stand_widen X h1 h2)
/-- a return, as the kit's rows lay it -/
theorem x_ret {Qc : Array Value → State → Outcome → State → Prop} {free : Addr → Prop} {mc ms : Nat} {g : JFrame} (h : W p l e R s m args below meth c H locs cells slots (MQ below Qc args s mc ms free) g) :
    W p l e R s m args below meth c H locs cells slots (x_Q below Qc args s mc ms free) g := by
  intro T hT X
  obtain ⟨t, st, o, h1, h2, h3, L, h4, h5⟩ := h T hT X
  exact ⟨t, st, o, h1, h2, h3, h4.2.1, L, h4.2.2, h5⟩
/-- every contract of the kit is such a contract -/
theorem x_of {y : MethodName} {ws : List Cond} {rm : Room} {Pc : Array Value → State → Prop} {Qc : Array Value → State → Outcome → State → Prop} {mc ms : Nat} {free : Addr → Prop} (h : Met l y ws rm Pc Qc mc ms free) : x_M l y ws rm Pc Qc mc ms free := by
  intro p e h1 h2 h3 s m a b h4 h5 h6 h7
  obtain ⟨n, o, q1, q2, q3, q4, L, q5, q6⟩ := h p e h1 h2 h3 s m a b h4 h5 h6 h7
  exact ⟨n, o, q1, q2, q3, q4, q5.2.1, L, q5.2.2, q6⟩
theorem x_ofW {y : MethodName} {ws ws' : List Cond} {rm : Room} {Pc : Array Value → State → Prop} {Qc : Array Value → State → Outcome → State → Prop} {mc ms : Nat} {free : Addr → Prop} {cc : ByteArray} {maxL : Nat} {ret : Option FieldType}
    (hy : plainName y.cls = true) (hw : ws = Cond.code y cc maxL ret :: ws')
    (body : ∀ p e s m args below meth c s₁, BodyLoose p l y (headSpec ws rm) cc maxL ret e s m args below meth c s₁ → c.maxLocals = maxL → (∀ (pc : Nat) (z : ExceptionTableEntry), z ∈ c.exceptionTable.toList → covers z pc = false) → Pc args s →
      W p l e (headSpec ws rm).room s m args below meth c s.heap [] 0 0 (x_Q below Qc args s mc ms free) (entryFrame m args maxL)) : x_M l y ws rm Pc Qc mc ms free := by
  refine MetFree.of_bodyS (code := cc) (maxLocals := maxL) (ret := ret) hy ?_ ?_
  · intro a s m h hn
    obtain ⟨meth, c, h1, h2, h3, h4, h5, h6, -, -⟩ := Cond.code_spec hn (atoms_spec (ws := ws) h _ (by rw [hw]; exact List.mem_cons_self))
    exact ⟨meth, c, h1, h2, h3, h4, h5, h6⟩
  · intro p e s m args below meth c s₁ B hml hP _
    have hh0 : s₁.heap = s.heap := by rw [B.state]; rfl
    have hno : c.exceptionTable.isEmpty = true := B.noHandlers (atoms_spec (ws := ws) B.pre _ (by rw [hw]; exact List.mem_cons_self))
    obtain ⟨t, st, o, b1, b2, b3⟩ := body p e s m args below meth c s₁ B hml (fun pc z hz => covers_of_empty hno pc z hz) hP s₁ hh0 (Stand.of_body B)
    exact ⟨t, o, st, b1, b2, b3⟩
/-- .. of a method with handlers -/
theorem x_ofWH {y : MethodName} {ws ws' : List Cond} {rm : Room} {Pc : Array Value → State → Prop} {Qc : Array Value → State → Outcome → State → Prop} {mc ms : Nat} {free : Addr → Prop} {cc : ByteArray} {maxL : Nat} {ret : Option FieldType} {hs : List (Nat × Nat × Nat × Nat)}
    (hy : plainName y.cls = true) (hw : ws = Cond.codeWith y cc maxL ret hs :: ws')
    (body : ∀ p e s m args below meth c s₁, BodyLoose p l y (headSpec ws rm) cc maxL ret e s m args below meth c s₁ → c.maxLocals = maxL → c.exceptionTable.toList = tableOf hs → Pc args s →
      W p l e (headSpec ws rm).room s m args below meth c s.heap [] 0 0 (x_Q below Qc args s mc ms free) (entryFrame m args maxL)) : x_M l y ws rm Pc Qc mc ms free := by
  refine MetFree.of_bodyS (code := cc) (maxLocals := maxL) (ret := ret) hy ?_ ?_
  · intro a s m h hn
    obtain ⟨m', meth, c, h0, h1, h2, h3, h4, -, h5, h6, -⟩ := Cond.codeWith_spec (atoms_spec (ws := ws) h _ (by rw [hw]; exact List.mem_cons_self))
    cases hn.symm.trans h0
    exact ⟨meth, c, h1, h2, h3, h4, h5, h6⟩
  · intro p e s m args below meth c s₁ B hml hP _
    have hh0 : s₁.heap = s.heap := by rw [B.state]; rfl
    have hX := Stand.of_body B
    obtain ⟨m', meth', c', h0, h1, h2, h3, h4, h7, h5, h6, -⟩ := Cond.codeWith_spec (atoms_spec (ws := ws) B.pre _ (by rw [hw]; exact List.mem_cons_self))
    cases B.named.symm.trans h0
    cases hX.method.symm.trans h1
    cases hX.code.symm.trans h2
    obtain ⟨t, st, o, b1, b2, b3⟩ := body p e s m args below meth c s₁ B hml (by rw [← h7, table_eq]) hP s₁ hh0 hX
    exact ⟨t, o, st, b1, b2, b3⟩
/-- the callee stands in the tables, with code of so many locals -/
def x_Co (s : State) (y : MethodName) (maxL : Nat) : Prop := ∃ (mk : MethodId) (my : Method) (cy : Code), s.methodNamed? y = some mk ∧ s.vm.method? mk = some my ∧ my.code = some cy ∧ cy.maxLocals = maxL ∧ parseMethodDescriptor y.desc = some my.sig
theorem x_Co.code {y : MethodName} {bytes : ByteArray} {maxL : Nat} {ret : Option FieldType} {a : Array Value} (h : (Cond.code y bytes maxL ret).before a s = true) : x_Co s y maxL := by
  obtain ⟨mk, hn⟩ := Cond.code_named h
  obtain ⟨my, cy, h1, h2, -, h3, -, -, -, h4⟩ := Cond.code_spec hn h
  exact ⟨mk, my, cy, hn, h1, h2, h3, h4⟩
theorem x_Co.with {y : MethodName} {bytes : ByteArray} {maxL : Nat} {ret : Option FieldType} {hs : List (Nat × Nat × Nat × Nat)} {a : Array Value} (h : (Cond.codeWith y bytes maxL ret hs).before a s = true) : x_Co s y maxL := by
  obtain ⟨mk, my, cy, hn, h1, h2, -, h3, -, -, -, h4⟩ := Cond.codeWith_spec h
  exact ⟨mk, my, cy, hn, h1, h2, h3, h4⟩
/-- what a call asks, apart from the method's own words -/
abbrev x_CB (R : Room) (s : State) (args : Array Value) (own : String) (index : Nat) (y : MethodName) (maxL : Nat) (ws : List Cond) (rm : Room) (mc ms n : Nat) : Prop :=
  rm.cells = mc ∧ rm.slots = ms ∧ rm.frames + 1 ≤ R.frames ∧ 8 + (maxL + 11) + rm.locals ≤ R.locals ∧ (∀ w ∈ ws, ∀ (a' : Array Value) (U : State), s.WarmedH U.vm → w.before a' U = true) ∧ x_Co s y maxL ∧
  (∀ (a' : Array Value) (U : State), s.WarmedH U.vm → (Cond.initialized y.cls).before a' U = true) ∧ (y.cls ≠ "java/lang/invoke/MethodHandle" ∧ y.cls ≠ "java/lang/invoke/VarHandle") ∧ (∀ sig, parseMethodDescriptor y.desc = some sig → n = sig.parameters.length) ∧ (Cond.methodLink own index y).before args s = true
theorem x_ini {C : String} (h : (Cond.initialized C).before args s = true) : ∀ (a' : Array Value) (U : State), s.WarmedH U.vm → (Cond.initialized C).before a' U = true :=
  fun a' U hW => word_at hW (Or.inl (by first | rfl | simp [Cond.onTables, Cond.keeps, Cond.steady])) h
theorem x_cb {own : String} {index maxL mc ms n : Nat} {y : MethodName} {bytes : ByteArray} {ret : Option FieldType} {ws : List Cond} {rm : Room} (h : CallB R s args own index y bytes maxL ret ws rm mc ms n) : x_CB R s args own index y maxL ws rm mc ms n := by
  obtain ⟨h1, h2, h3, h4, h5, -, h6, h7, h8, h9, h10⟩ := h
  exact ⟨h1, h2, h3, h4, h5, x_Co.code h6, x_ini h7, h8, h9, h10⟩
/-- the heart of every call: both ends of the callee, seen from the caller's frame -/
theorem x_back {y : MethodName} {ws : List Cond} {rm : Room} {Pc : Array Value → State → Prop} {Qc : Array Value → State → Outcome → State → Prop} {mc ms maxL index n : Nat} {own : String} {free : Addr → Prop} {T : State}
    (hM : x_M l y ws rm Pc Qc mc ms free) (cb : x_CB R s args own index y maxL ws rm mc ms n) (X : Stand p l e R s m args below meth c T locs cells slots) {mk : MethodId} (hn : s.methodNamed? y = some mk)
    {g : JFrame} {ig : Instr} {len : Nat} (hg : g.method = m) (hsize : g.locals.size = c.maxLocals) (hdg : decode c.code g.pc = .ok (ig, len)) (hW : 2 * g.monitorRoom + (g.stack.map fun v => v.category).sum ≤ 8)
    (hc : cells + mc ≤ R.cells) (hs : slots + ms ≤ R.slots) {a : Array Value} (hP : Pc a (T.calling g mk a)) :
    ∃ (o : Outcome) (t T' : State) (L : List Loc), Stand p l e R s m args below meth c T' (locs ++ L) (cells + mc) (slots + ms) ∧ T'.heap = t.heap ∧ T'.vm = t.vm ∧ Qc a (T.calling g mk a) o t ∧ (∀ q ∈ L, free q.base) ∧
      (∀ v, o = .returned v → Steps p.tables e below (doInvoke e (T.setTop g) [] mk a).1 (T'.setTop { g with pc := g.pc + len, stack := v.toList ++ g.stack })) ∧
      (∀ q, o = .threw q → Steps p.tables e below (doInvoke e (T.setTop g) [] mk a).1 ((T'.setTop g).pushFrame (.throwing q))) := by
  obtain ⟨c1, c2, c3, c4, c5, ⟨mk', my, cy, n0, n1, n2, n3, -⟩, c7, -⟩ := cb
  obtain rfl : mk = mk' := Option.some.inj (hn.symm.trans n0)
  have hnT : T.methodNamed? y = some mk := X.named hn
  have hmT : T.vm.method? mk = some my := by rw [X.warmed.alike.method?]; exact n1
  obtain ⟨kY, hkY, -⟩ := className_of_methodNamed hnT
  have hinitY : kY.init = .initialized := Cond.initialized_spec (findClass_of_methodNamed hnT) hkY (c7 #[] T X.warmed)
  have h : At T g.method c below := by rw [hg]; exact X.here
  have r1 : cells + (headSpec ws rm).room.cells ≤ R.cells := by rw [show (headSpec ws rm).room.cells = mc from c1]; exact hc
  have r2 : slots + (headSpec ws rm).room.slots ≤ R.slots := by rw [show (headSpec ws rm).room.slots = ms from c2]; exact hs
  have r3 : 2 * g.monitorRoom + (g.stack.map fun v => v.category).sum + (cy.maxLocals + 11) + (headSpec ws rm).room.locals ≤ R.locals := by
    rw [n3]
    have : (headSpec ws rm).room.locals = rm.locals := rfl
    omega
  have happ : (headSpec ws rm).appliesLoose y e.platform (T.calling g mk a) = true :=
    Spec.appliesLoose_calling (g := g) h hdg hnT hkY hinitY (X.room_calling (g := g) (R' := (headSpec ws rm).room) hsize hmT n2 c3 r3 r1 r2) (atoms_intro fun w hw => c5 w hw a T X.warmed)
  obtain ⟨mid, hmid⟩ := h.above
  have hfr : (T.setTop g).frames = (.java g :: mid) ++ below := by rw [State.frames_setTop' g h.top, hmid]; rfl
  obtain ⟨o, t, hsteps, -, hend, hq0⟩ := Steps.callFree hM p X.admits X.cas X.clock (acts := []) hfr happ hP trivial
  have hq : Qc a (T.calling g mk a) o t ∧ x_Fr (T.calling g mk a) t mc ms free := hq0
  obtain ⟨hqc, hwarm, L, hsame0, hL⟩ := hq
  rw [State.frames_setTop' g h.top] at hend
  have hW' : T.WarmedH t.vm := hwarm
  obtain ⟨e2, q2, q3, q4, q5, q6⟩ := id hsame0
  have e3 : t = ({ (T.calling g mk a).setFrames t.frames with heap := t.heap, slotsUsed := t.slotsUsed } : State).setVm t.vm := by
    have z : t = ({ t with vm := (T.calling g mk a).vm } : State).setVm t.vm := rfl
    rw [e2] at z
    exact z
  obtain ⟨g₀, hg0⟩ := Option.isSome_iff_exists.mp h.top
  obtain ⟨r, hr⟩ := State.topJava?_eq_some.mp hg0
  have hr' : (({ T with heap := t.heap, slotsUsed := t.slotsUsed } : State).setVm t.vm).frames = .java g₀ :: r := hr
  have hsame : T.sameButNew ({ T with heap := t.heap, slotsUsed := t.slotsUsed } : State) L mc ms := by
    refine ⟨?_, q2, q3, q4, q5, q6⟩
    obtain ⟨z, hz, -⟩ := State.frames_cons hr
    show ({ T with heap := t.heap, slotsUsed := t.slotsUsed } : State) = { T.setFrames T.frames with heap := t.heap, slotsUsed := t.slotsUsed }
    rw [State.setFrames_self hz]
  subst hg
  refine ⟨o, t, (({ T with heap := t.heap, slotsUsed := t.slotsUsed } : State).setVm t.vm), L,
    ⟨X.admits, X.cas, X.clock, X.frames, X.room, X.hears, X.method, X.code, (X.here.setHeapUsed t.heap t.slotsUsed).setVm hW'.alike, X.tail, State.WarmedH.trans X.warmed hW', X.limits, X.bytes, X.same.trans (hsame.setVm s.vm)⟩,
    rfl, rfl, hqc, hL, ?_, ?_⟩
  · intro v hv
    subst hv
    obtain ⟨c₂, i₂, len₂, hc₂, hd₂, hf₂⟩ := hend
    have hcc : c₂ = c := by
      have z : t.code? g.method = T.code? g.method := by rw [State.code?_eq, State.code?_eq, hW'.alike.method?]
      exact Option.some.inj (hc₂.symm.trans (z.trans h.code))
    subst hcc
    have hlen : len₂ = len := by rw [hdg] at hd₂; cases hd₂; rfl
    subst hlen
    have ht : t = (({ T with heap := t.heap, slotsUsed := t.slotsUsed } : State).setVm t.vm).setTop { g with pc := g.pc + len₂, stack := v.toList ++ g.stack } := by
      refine e3.trans ?_
      rw [hf₂, State.calling_eq h.top, State.setFrames_setFrames, State.setTop_of_frames _ hr', hr]
      rfl
    rw [← ht]
    exact hsteps
  · intro q hv
    subst hv
    have hf₂ : t.frames = .throwing q :: .java g :: T.frames.tail := hend
    have ht : t = ((({ T with heap := t.heap, slotsUsed := t.slotsUsed } : State).setVm t.vm).setTop g).pushFrame (.throwing q) := by
      refine e3.trans ?_
      rw [hf₂, State.calling_eq h.top, State.setFrames_setFrames, State.pushFrame, State.frames_setTop _ hr', State.setTop_of_frames _ hr', State.setFrames_setFrames, hr]
      rfl
    rw [← ht]
    exact hsteps
end XMach
section XCall
variable {p : Program} {l : Launch} {e : Env} {R : Room} {s : State} {m : MethodId} {args : Array Value} {below : List Frame} {meth : Method} {c : Code} {H : Heap} {locs : List Loc} {cells slots : Nat} {Q : State → Prop}
variable {y : MethodName} {ws : List Cond} {rm : Room} {Pc : Array Value → State → Prop} {Qc : Array Value → State → Outcome → State → Prop} {mc ms maxL index n nL pc : Nat} {own : String} {free : Addr → Prop} {Ts : List Cond} {cc : ByteArray} {ls : Array Slot} {As rest st0 : List Value} {A0 A1 : Nat → Prop} {H0 : Heap}
/-- what the caller knows behind a callee, whose writes lie in A1 -/
theorem x_after {st t T' : State} {L : List Loc} (h0 : st.heap = H) (e1 : T'.heap = t.heap) (hS : va_S A0 H0 H locs) (hA : ∀ q, q < H.size → A1 q → A0 q) (hf : ∀ q, free q → A0 q) (hL : ∀ q ∈ L, free q.base) (hF : va_F A1 st t) :
    H.size ≤ T'.heap.size ∧ (∀ q : Nat, q < H.size → ¬ A1 q → T'.heap[q]? = H[q]?) ∧ va_S A0 H0 T'.heap (locs ++ L) := by
  have hz : H.size ≤ T'.heap.size := by rw [e1, ← h0]; exact hF.1
  have hk : ∀ q : Nat, q < H.size → ¬ A1 q → T'.heap[q]? = H[q]? := fun q h1 h2 => by
    rw [e1, ← h0]
    exact hF.2 q (by rw [h0]; exact h1) h2
  refine ⟨hz, hk, Nat.le_trans hS.1 hz, fun q h1 h2 => ?_, fun q hq => ?_⟩
  · have h3 : q < H.size := Nat.lt_of_lt_of_le h1 hS.1
    rw [hk q h3 (fun z => h2 (hA q h3 z))]
    exact hS.2.1 q h1 h2
  · rcases List.mem_append.mp hq with h | h
    · exact hS.2.2 q h
    · exact hf _ (hL q h)
/-- invokestatic of a method that returns or throws -/
theorem x_callS (S : CallFix p m c cc nL s args Ts own) (hM : x_M l y ws rm Pc Qc mc ms free) (cb : x_CB R s args own index y maxL ws rm mc ms n) (hst : (Cond.static y).before args s = true) (hp : PreS s H Pc As)
    (hn : As.length = n) (hsize : ls.size = nL) (hstack : st0 = As.reverse ++ rest) (hW : 2 * (F0 m pc ls rest).monitorRoom + (rest.map fun v => v.category).sum ≤ 8) (hdg : decode cc pc = .ok (.invokestatic index, 3)) (hc : cells + mc ≤ R.cells) (hs : slots + ms ≤ R.slots)
    (hS : va_S A0 H0 H locs) (hA : ∀ q, q < H.size → A1 q → A0 q) (hf : ∀ q, free q → A0 q) (hF : ∀ st o t, Qc As.toArray st o t → va_F A1 st t)
    (kr : ∀ (v : Option Value) (st t : State) (H1 : Heap) (locs1 : List Loc), st.heap = H → t.heap = H1 → s.vm.Alike t.vm → Qc As.toArray st (.returned v) t → H.size ≤ H1.size → (∀ q : Nat, q < H.size → ¬ A1 q → H1[q]? = H[q]?) → va_S A0 H0 H1 locs1 →
      W p l e R s m args below meth c H1 locs1 (cells + mc) (slots + ms) Q (F0 m (pc + 3) ls (v.toList ++ rest)))
    (kt : ∀ (q : Addr) (st t : State) (H1 : Heap) (locs1 : List Loc), st.heap = H → t.heap = H1 → s.vm.Alike t.vm → Qc As.toArray st (.threw q) t → H.size ≤ H1.size → (∀ q : Nat, q < H.size → ¬ A1 q → H1[q]? = H[q]?) → va_S A0 H0 H1 locs1 →
      x_W p l e R s m args below meth c H1 locs1 (cells + mc) (slots + ms) Q (F0 m pc ls rest) q) : W p l e R s m args below meth c H locs cells slots Q (F0 m pc ls st0) := by
  intro T hT X
  obtain ⟨hx, hb, hml, ho, -⟩ := S
  obtain ⟨mk, my, cy, n0, n1, n2, n3, n4⟩ := cb.2.2.2.2.2.1
  have hini := cb.2.2.2.2.2.2.1
  have hy := cb.2.2.2.2.2.2.2.1
  have hlen := cb.2.2.2.2.2.2.2.2.1
  have hl := cb.2.2.2.2.2.2.2.2.2
  have hstatic : my.isStatic = true := Cond.static_spec n0 n1 hst
  obtain ⟨kP, hkP, -⟩ := className_of_methodNamed n0
  have hinitP : kP.init = .initialized := Cond.initialized_spec (findClass_of_methodNamed n0) hkP (hini #[] s (State.WarmedH.refl s))
  obtain ⟨vm₁, X₁, st1⟩ := X.invokestatic hx ho hl n0 n1 hstatic hkP hinitP hy (g := F0 m pc ls st0) rfl (argsL := As) (rest := rest) (hn.trans (hlen _ n4)) hstack (by rw [hb]; exact hdg)
  obtain ⟨o, t, T', L, X', e1, e2, hq, hL, k1, k2⟩ := x_back hM cb X₁ n0 (g := F0 m pc ls rest) (ig := .invokestatic index) (len := 3) rfl (hsize.trans hml.symm) (by rw [hb]; exact hdg) hW hc hs (a := As.toArray)
    (hp.1 _ _ _ _ (hp.2 (T.setVm vm₁) hT X₁.warmed))
  have hh : ((T.setVm vm₁).calling (F0 m pc ls rest) mk As.toArray).heap = H := hT
  obtain ⟨q1, q2, q3⟩ := x_after hh e1 hS hA hf hL (hF _ _ _ hq)
  have hal : s.vm.Alike t.vm := by rw [← e2]; exact X'.warmed.alike
  cases o with
  | returned v =>
    obtain ⟨t2, a1, b1⟩ := kr v _ t T'.heap (locs ++ L) hh e1.symm hal hq q1 q2 q3 T' rfl X'
    exact ⟨t2, st1 _ fun acts => by rw [doInvoke_state]; exact (k1 v rfl).trans a1, b1⟩
  | threw q =>
    obtain ⟨t2, a1, b1⟩ := kt q _ t T'.heap (locs ++ L) hh e1.symm hal hq q1 q2 q3 T' rfl X'
    exact ⟨t2, st1 _ fun acts => by rw [doInvoke_state]; exact (k2 q rfl).trans a1, b1⟩
/-- invokevirtual of a method that returns or throws, on an object of the class C -/
theorem x_callV {C : String} {b : Addr} (S : CallFix p m c cc nL s args Ts own) (hM : x_M l y ws rm Pc Qc mc ms free) (cb : x_CB R s args own index y maxL ws rm mc ms n) (hin : (Cond.instanceMethod y).before args s = true) (hse : (Cond.selects C y y).before args s = true) (hp : PreV s H C b Pc As)
    (hn : As.length = n) (hsize : ls.size = nL) (hstack : st0 = As.reverse ++ .ref b :: rest) (hW : 2 * (F0 m pc ls rest).monitorRoom + (rest.map fun v => v.category).sum ≤ 8) (hdg : decode cc pc = .ok (.invokevirtual index, 3)) (hc : cells + mc ≤ R.cells) (hs : slots + ms ≤ R.slots)
    (hS : va_S A0 H0 H locs) (hA : ∀ q, q < H.size → A1 q → A0 q) (hf : ∀ q, free q → A0 q) (hF : ∀ st o t, Qc (Value.ref b :: As).toArray st o t → va_F A1 st t)
    (kr : ∀ (v : Option Value) (st t : State) (H1 : Heap) (locs1 : List Loc), st.heap = H → t.heap = H1 → s.vm.Alike t.vm → Qc (Value.ref b :: As).toArray st (.returned v) t → H.size ≤ H1.size → (∀ q : Nat, q < H.size → ¬ A1 q → H1[q]? = H[q]?) → va_S A0 H0 H1 locs1 →
      W p l e R s m args below meth c H1 locs1 (cells + mc) (slots + ms) Q (F0 m (pc + 3) ls (v.toList ++ rest)))
    (kt : ∀ (q : Addr) (st t : State) (H1 : Heap) (locs1 : List Loc), st.heap = H → t.heap = H1 → s.vm.Alike t.vm → Qc (Value.ref b :: As).toArray st (.threw q) t → H.size ≤ H1.size → (∀ q : Nat, q < H.size → ¬ A1 q → H1[q]? = H[q]?) → va_S A0 H0 H1 locs1 →
      x_W p l e R s m args below meth c H1 locs1 (cells + mc) (slots + ms) Q (F0 m pc ls rest) q) : W p l e R s m args below meth c H locs cells slots Q (F0 m pc ls st0) := by
  intro T hT X
  obtain ⟨hx, hb, hml, ho, -⟩ := S
  obtain ⟨mk', my', cy, n0', n1', n2, n3, n4⟩ := cb.2.2.2.2.2.1
  have hy := cb.2.2.2.2.2.2.2.1
  have hlen := cb.2.2.2.2.2.2.2.2.1
  have hl := cb.2.2.2.2.2.2.2.2.2
  obtain ⟨mk, my, n0, n1, hns, hna⟩ := Cond.instanceMethod_spec hin
  obtain rfl : mk = mk' := Option.some.inj (n0.symm.trans n0')
  obtain rfl : my = my' := Option.some.inj (n1.symm.trans n1')
  obtain ⟨hbl, ⟨cellB, hcB, hoB, hclB⟩, hPc⟩ := hp
  obtain ⟨cS, rS, mS, q1, q2, q3, q4, kP, hkP, hkPi⟩ := Cond.selects_spec hse
  cases hclB.symm.trans q1
  cases (State.methodFound?_of_named n0 hy).symm.trans q2
  cases n0.symm.trans q3
  have hsel : selectMethod e.platform s.vm cellB.cls mk = .method mk := by rw [Launch.admits_selectMethod X.admits]; exact q4
  obtain ⟨vm₁, X₁, st1⟩ := X.invokevirtual hx ho hl n0 n1 hns hkP hkPi hy (a := b) (cell := cellB) (by rw [hT]; exact hcB) (fun z h => by rw [h] at hoB; cases hoB) hsel n1 hna hkP hkPi
    (g := F0 m pc ls st0) rfl (argsL := As) (rest := rest) (hn.trans (hlen _ n4)) hstack (by rw [hb]; exact hdg)
  obtain ⟨o, t, T', L, X', e1, e2, hq, hL, k1, k2⟩ := x_back hM cb X₁ n0 (g := F0 m pc ls rest) (ig := .invokevirtual index) (len := 3) rfl (hsize.trans hml.symm) (by rw [hb]; exact hdg) hW hc hs (a := (Value.ref b :: As).toArray)
    (hbl _ _ _ _ (hPc (T.setVm vm₁) hT X₁.warmed))
  have hh : ((T.setVm vm₁).calling (F0 m pc ls rest) mk (Value.ref b :: As).toArray).heap = H := hT
  obtain ⟨q1, q2, q3⟩ := x_after hh e1 hS hA hf hL (hF _ _ _ hq)
  have hal : s.vm.Alike t.vm := by rw [← e2]; exact X'.warmed.alike
  cases o with
  | returned v =>
    obtain ⟨t2, a1, b1⟩ := kr v _ t T'.heap (locs ++ L) hh e1.symm hal hq q1 q2 q3 T' rfl X'
    exact ⟨t2, st1 _ fun acts => by rw [doInvoke_state]; exact (k1 v rfl).trans a1, b1⟩
  | threw q =>
    obtain ⟨t2, a1, b1⟩ := kt q _ t T'.heap (locs ++ L) hh e1.symm hal hq q1 q2 q3 T' rfl X'
    exact ⟨t2, st1 _ fun acts => by rw [doInvoke_state]; exact (k2 q rfl).trans a1, b1⟩
/-- nothing catches: the method ends by q -/
theorem x_leave {q : Addr} (hout : ∀ z ∈ c.exceptionTable.toList, covers z pc = false) (hlocks : meth.locks = false) (hq : ∀ t : State, t.heap = H → s.WarmedH t.vm → Qc args s (.threw q) t) (hf : ∀ z ∈ locs, free z.base) :
    x_W p l e R s m args below meth c H locs cells slots (x_Q below Qc args s cells slots free) (F0 m pc ls rest) q := by
  intro T hT X
  obtain ⟨st, h1, h2, h3, h4⟩ := X.leaveThrown q (g := F0 m pc ls rest) rfl rfl rfl hout hlocks
  exact ⟨_, st, .threw q, h1, h2, hq _ hT h3, h3, locs, h4, hf⟩
end XCall
/-! ### the search through a table of handlers whose classes may not have been resolved yet -/
section XCatch
variable {e : Env} {s : State} {f : JFrame} {a : Addr}
/-- one entry that covers the place: its class links to k -/
theorem x_go {z : ExceptionTableEntry} {zs : List ExceptionTableEntry} {k : ClassId} {cell : Cell} {S : State} (hW : s.WarmedH S.vm) (hz : covers z f.pc = true) (h0 : z.catchType ≠ 0) (hl : s.vm.ClassLinks e.platform f.method.cls z.catchType k)
    (hcell : S.heap[a]? = some cell) (hobj : cell.vm = .none) (hk : ∃ k1, s.vm.classes[cell.cls]? = some k1) :
    ∃ vm' : Vm, s.WarmedH vm' ∧ ∀ (Q : Handler → Pre) (E : CtlPost) (d : Bool) (acts : List Action),
      wp (findHandler.go f a (z :: zs)) Q E e d acts S ↔ if s.vm.assignable cell.cls k = true then Q (.found z.handlerPc) d acts (S.setVm vm') else wp (findHandler.go f a zs) Q E e d acts (S.setVm vm') := by
  have hlS := hW.classLinks hl
  obtain ⟨dk, _, _, kt, hd, _, _, _, _, hkt, _, hopen⟩ := hl.here
  obtain ⟨k1, hk1⟩ := hk
  have hal : S.vm.Alike (S.vm.noted f.method.cls z.catchType (.cls k)) := (Vm.Alike.refl S.vm).noted _ _ _
  obtain ⟨k2, hk2, -⟩ := hW.alike.2.2 _ _ hk1
  obtain ⟨k3, hk3, -⟩ := hal.2.2 _ _ hk2
  obtain ⟨k4, hk4, -⟩ := hW.alike.2.2 _ _ hkt
  obtain ⟨k5, hk5, -⟩ := hal.2.2 _ _ hk4
  have hasg : (S.vm.noted f.method.cls z.catchType (.cls k)).assignable cell.cls k = s.vm.assignable cell.cls k := by rw [hal.assignable, hW.alike.assignable]
  obtain ⟨ha, ht⟩ := (resolveClass_links e.toSetting hlS).op (op := VmOp.resolveClass f.method.cls z.catchType) rfl
  refine ⟨_, hW.noted hd hopen (State.rightAt_cls hl), fun Q E d acts => ?_⟩
  simp only [covers] at hz
  cases hfit : s.vm.assignable cell.cls k <;>
    simp [findHandler.go, hz, h0, ha, ht, hcell, hobj, hk3, hk5, hasg, hfit, VmOp.dirties, VmOp.acts]
/-- the entries ahead are passed, the next takes the object -/
theorem x_search {z : ExceptionTableEntry} {suf : List ExceptionTableEntry} {k : ClassId} {cell : Cell} (hz : covers z f.pc = true) (h0 : z.catchType ≠ 0) (hl : s.vm.ClassLinks e.platform f.method.cls z.catchType k) (hfit : s.vm.assignable cell.cls k = true)
    (hobj : cell.vm = .none) (hk : ∃ k1, s.vm.classes[cell.cls]? = some k1) :
    ∀ (pre : List ExceptionTableEntry) (S : State), s.WarmedH S.vm → S.heap[a]? = some cell →
      (∀ w ∈ pre, covers w f.pc = false ∨ (w.catchType ≠ 0 ∧ ∃ k2, s.vm.ClassLinks e.platform f.method.cls w.catchType k2 ∧ s.vm.assignable cell.cls k2 = false)) →
      ∃ vm' : Vm, s.WarmedH vm' ∧ ∀ (Q : Handler → Pre) (E : CtlPost) (d : Bool) (acts : List Action), wp (findHandler.go f a (pre ++ z :: suf)) Q E e d acts S ↔ Q (.found z.handlerPc) d acts (S.setVm vm') := by
  intro pre
  induction pre with
  | nil =>
    intro S hW hcell _
    obtain ⟨vm', h1, h2⟩ := x_go (zs := suf) hW hz h0 hl hcell hobj hk
    refine ⟨vm', h1, fun Q E d acts => ?_⟩
    rw [List.nil_append, h2 Q E d acts, if_pos hfit]
  | cons w ws ih =>
    intro S hW hcell hp
    have hp' := fun v (hv : v ∈ ws) => hp v (List.mem_cons_of_mem _ hv)
    by_cases hc : covers w f.pc = true
    · rcases hp w List.mem_cons_self with h | ⟨g0, k2, gl, gno⟩
      · rw [h] at hc; cases hc
      · obtain ⟨vm1, h1, h2⟩ := x_go (zs := ws ++ z :: suf) hW hc g0 gl hcell hobj hk
        obtain ⟨vm2, h3, h4⟩ := ih (S.setVm vm1) h1 hcell hp'
        refine ⟨vm2, h3, fun Q E d acts => ?_⟩
        rw [List.cons_append, h2 Q E d acts, if_neg (by rw [gno]; decide)]
        exact h4 Q E d acts
    · obtain ⟨vm2, h3, h4⟩ := ih S hW hcell hp'
      refine ⟨vm2, h3, fun Q E d acts => ?_⟩
      rw [List.cons_append, W.findHandler_go_skip (by simpa using hc)]
      exact h4 Q E d acts
theorem x_caughtStep {S : State} {r : List Frame} {pc : Nat} {vm' : Vm} (hfind : ∀ (Q : Handler → Pre) (E : CtlPost) (d : Bool) (acts : List Action), wp (findHandler f a) Q E e d acts S ↔ Q (.found pc) d acts (S.setVm vm')) :
    (stepThrowing e S a (.java f :: r)).Is ((S.setVm vm').setFrames (.java { f with pc := pc, stack := [.ref a] } :: r)) [] := by
  simp only [stepThrowing, searchFrame, vmDo]
  generalize hr : Sem.go _ e false [] S = res
  obtain ⟨as, rfl, ha⟩ := Sem.eq_ok_of hr (a := Handler.found pc) (s' := S.setVm vm') (acts' := []) (by simp [hfind _ _ _ _])
  exact ⟨rfl, ha⟩
end XCatch
section XCatch2
variable {p : Program} {l : Launch} {e : Env} {R : Room} {s : State} {m : MethodId} {args : Array Value} {below : List Frame} {meth : Method} {c : Code} {H : Heap} {locs : List Loc} {cells slots : Nat} {Q : State → Prop}
/-- the method's own handler takes q, of the class E: its entry is the first that names a class above E -/
theorem x_catch {own E name : String} {q : Addr} {ce : Cell} {pc : Nat} {ls : Array Slot} {rest : List Value} (hown : s.vm.findClass own = some m.cls) (pre : List ExceptionTableEntry) (z : ExceptionTableEntry) (suf : List ExceptionTableEntry) (hsplit : c.exceptionTable.toList = pre ++ z :: suf)
    (hpass : ∀ w ∈ pre, covers w pc = false ∨ (w.catchType ≠ 0 ∧ ∃ nm : String, (Cond.classLink own w.catchType nm).before args s = true ∧ va_Nc E nm s)) (hz : covers z pc = true) (h0 : z.catchType ≠ 0)
    (hlink : (Cond.classLink own z.catchType name).before args s = true) (hcast : (Cond.castable E name).before args s = true) (hcell : H[q]? = some ce) (hv : ce.vm = .none) (hcl : s.vm.findClass E = some ce.cls)
    (kk : W p l e R s m args below meth c H locs cells slots Q (F0 m z.handlerPc ls [.ref q])) : x_W p l e R s m args below meth c H locs cells slots Q (F0 m pc ls rest) q := by
  intro T hT X
  have hpl : e.platform.magicAccessors = ({} : Platform).magicAccessors := by rw [X.admits.platform]
  obtain ⟨c3, c4, hc3, hc4, hasg⟩ := Cond.castable_spec hcast
  cases Option.some.inj (hc3.symm.trans hcl)
  obtain ⟨c5, hc5, hcl5⟩ := Cond.classLink_spec hown hlink e.platform hpl
  cases Option.some.inj (hc4.symm.trans hc5)
  have hk : ∃ k1, s.vm.classes[ce.cls]? = some k1 := by obtain ⟨k9, h9, -⟩ := Vm.findClass_spec hcl; exact ⟨k9, h9⟩
  have hTcell : ((T.setTop (F0 m pc ls rest)).pushFrame (.throwing q)).heap[q]? = some ce := by rw [Stand.throwing_heap, hT]; exact hcell
  obtain ⟨vm', hW', hf⟩ := x_search (e := e) (s := s) (f := F0 m pc ls rest) (a := q) (suf := suf) hz h0 hcl5 hasg hv hk pre ((T.setTop (F0 m pc ls rest)).pushFrame (.throwing q)) (by rw [Stand.throwing_vm]; exact X.warmed) hTcell
    (fun w hw => by
      rcases hpass w hw with h | ⟨g0, nm, hl1, hn1⟩
      · exact Or.inl h
      · obtain ⟨c6, hc6, hcl6⟩ := Cond.classLink_spec hown hl1 e.platform hpl
        obtain ⟨a8, b8, h1, h2, h3⟩ := hn1
        cases Option.some.inj (h1.symm.trans hcl)
        cases Option.some.inj (h2.symm.trans hc6)
        exact Or.inr ⟨g0, _, hcl6, h3⟩)
  have hm9 : ((T.setTop (F0 m pc ls rest)).pushFrame (.throwing q)).vm.method? (F0 m pc ls rest).method = some meth := by rw [Stand.throwing_vm]; exact X.method'
  have hfind : ∀ (Q : Handler → Pre) (E : CtlPost) (d : Bool) (acts : List Action), wp (findHandler (F0 m pc ls rest) q) Q E e d acts ((T.setTop (F0 m pc ls rest)).pushFrame (.throwing q)) ↔ Q (.found z.handlerPc) d acts (((T.setTop (F0 m pc ls rest)).pushFrame (.throwing q)).setVm vm') := fun Q E d acts => by
    rw [W.findHandler_eq hm9 X.code, hsplit]
    exact hf Q E d acts
  have X' := X.noted hW'
  obtain ⟨t, a1, b1⟩ := kk (T.setVm vm') hT X'
  refine ⟨t, ?_, b1⟩
  have hA : At T (F0 m pc ls rest).method c below := X.here
  obtain ⟨hgo, hw⟩ := hA.throwing q
  refine Steps.head hgo hw ?_
  rw [stepThread_throwing (frames_entered hA.top _), (x_caughtStep hfind).1]
  obtain ⟨g₀, hg⟩ := Option.isSome_iff_exists.mp hA.top
  obtain ⟨r, hr⟩ := State.topJava?_eq_some.mp hg
  have hr' : (T.setVm vm').frames = .java g₀ :: r := hr
  rw [State.setTop_of_frames _ hr'] at a1
  have e9 : ((((T.setTop (F0 m pc ls rest)).pushFrame (.throwing q)).setVm vm').setFrames (.java { F0 m pc ls rest with pc := z.handlerPc, stack := [.ref q] } :: T.frames.tail)) = (T.setVm vm').setFrames (.java (F0 m z.handlerPc ls [.ref q]) :: r) := by
    rw [hr, List.tail_cons, State.pushFrame, State.setTop_of_frames _ hr]
    rw [State.setFrames_setFrames]
    show (((T.setVm vm').setFrames _).setFrames _) = _
    rw [State.setFrames_setFrames]
  rw [e9]
  exact a1
/-- the walk's own point as the beginning of a walk: what has been written so far is forgotten, the heap is the one that stands -/
theorem x_base {T : State} (X : Stand p l e R s m args below meth c T locs cells slots) {R' : Room} (hf : R'.frames ≤ R.frames) (hl : R'.locals ≤ R.locals) (hc : cells + R'.cells ≤ R.cells) (hs : slots + R'.slots ≤ R.slots) :
    Stand p l e R' ((T.setVm s.vm).setFrames (.invoking m args :: below)) m args below meth c T [] 0 0 := by
  have htop : (T.setVm s.vm).topJava?.isSome := X.here.top
  have hcur : (T.setVm s.vm).cur < (T.setVm s.vm).threads.size := State.cur_lt_of_top htop
  have hF : ((T.setVm s.vm).setFrames (.invoking m args :: below)).frames = .invoking m args :: below := State.frames_setFrames _ hcur
  have hnone : (T.heap.toList.drop T.heap.size) = [] := List.drop_eq_nil_of_le (Nat.le_of_eq Array.length_toList)
  refine { admits := X.admits, cas := X.cas, clock := X.clock, frames := hF, room := ?_, hears := X.hears, method := X.method, code := X.code, here := X.here, tail := X.tail, warmed := X.warmed, limits := ?_, bytes := ?_, same := ?_ }
  · have hloc : ((T.setVm s.vm).setFrames (.invoking m args :: below)).localsInUse = s.localsInUse := by
      rw [State.localsInUse_invoking hF (meth := meth) (c := c) X.method X.code, State.localsInUse_invoking X.frames X.method X.code]
    have hlim : e.platform.stackLimits ((T.setVm s.vm).setFrames (.invoking m args :: below)).me = e.platform.stackLimits s.me := by rw [State.stackLimits_setFrames]; exact X.limits
    have hbyt : ((T.setVm s.vm).setFrames (.invoking m args :: below)).me.stackBytes = s.me.stackBytes := by rw [State.stackBytes_setFrames]; exact X.bytes
    have hroom := X.room
    have q1 := X.heapSize
    have q2 := X.used
    have hfl : s.frames.length = below.length + 1 := by rw [X.frames]; rfl
    simp only [State.hasRoom, Bool.and_eq_true, decide_eq_true_eq] at hroom ⊢
    obtain ⟨⟨⟨⟨r1, r2, r3, r4, r5, r6⟩, r7⟩, r8⟩, -⟩ := hroom
    rw [hfl] at r2 r3
    rw [hF, hloc, hlim, hbyt]
    have g1 : ((T.setVm s.vm).setFrames (.invoking m args :: below)).heap.size = T.heap.size := rfl
    have g2 : ((T.setVm s.vm).setFrames (.invoking m args :: below)).slotsUsed = T.slotsUsed := rfl
    rw [g1, g2]
    simp only [List.length_cons]
    exact ⟨⟨⟨⟨by omega, by omega, by omega, by omega, by omega, r6⟩, by omega⟩, by omega⟩, X.book⟩
  · rw [State.stackLimits_setFrames]; rfl
  · rw [State.stackBytes_setFrames]; rfl
  · refine ⟨?_, Nat.le_refl _, Nat.le_refl _, ?_, ?_, fun a c9 h9 => ⟨c9, h9, rfl, rfl, fun _ _ => rfl⟩⟩
    · obtain ⟨g₀, hg0⟩ := Option.isSome_iff_exists.mp htop
      obtain ⟨r, hr⟩ := State.topJava?_eq_some.mp hg0
      obtain ⟨t, ht, -⟩ := State.frames_cons hr
      show T.setVm s.vm = { ((T.setVm s.vm).setFrames (.invoking m args :: below)).setFrames (T.setVm s.vm).frames with heap := T.heap, slotsUsed := T.slotsUsed }
      rw [State.setFrames_setFrames, State.setFrames_self ht]
      rfl
    · show T.slotsUsed = T.slotsUsed + ((T.heap.toList.drop T.heap.size).map (·.slots.size)).sum
      rw [hnone]; rfl
    · show ((T.heap.toList.drop T.heap.size).map (·.slots.size)).sum ≤ 0
      rw [hnone]; exact Nat.le_refl _
end XCatch2
section XThrow
variable {p : Program} {l : Launch} {e : Env} {R : Room} {s : State} {m : MethodId} {args : Array Value} {below : List Frame} {meth : Method} {c : Code} {H : Heap} {locs : List Loc} {cells slots : Nat} {Q : State → Prop}
/-- a static field that holds null or a reference, in a cell outside A -/
def x_St (C n d : String) (A : Nat → Prop) (U : State) (H : Heap) : Prop := ∃ (k : ClassId) (K : Class) (i : Nat) (f : Field) (a : Nat) (cell : Cell),
  (U.vm.findClass C = some k ∧ U.fieldFound? C n d = some (k, K, i, f) ∧ f.isStatic = true ∧ K.statics = some a ∧ K.staticTypes[f.slot]? = some f.type) ∧
  (H[a]? = some cell ∧ cell.vm.isStatics = true ∧ cell.cls = k ∧ f.slot < cell.slots.size ∧ (cell.slots[f.slot]? = some .null ∨ ∃ t : Nat, cell.slots[f.slot]? = some (.ref t))) ∧ ¬ A a
theorem x_St.of {C n d : String} {A : Nat → Prop} {a0 : Array Value} (h1 : (Cond.laysStatic C n d).before a0 s = true) (h2 : (Cond.isRef (.static C n d)).before a0 s = true) (hA : ∀ q, q < s.heap.size → ¬ A q) : x_St C n d A s s.heap := by
  obtain ⟨k, K, i, f, a, cell, g1, g2, g3, g4, g5, g6, g7, g8, g9⟩ := Cond.laysStatic_spec h1
  obtain ⟨u, hu⟩ := Cond.staticRefV g2 g3 g4 g5 g6 h2
  refine ⟨k, K, i, f, a, cell, ⟨g1, g2, g3, g4, g9⟩, ⟨g5, g6, g7, g8, ?_⟩, hA a (Array.getElem?_eq_some_iff.mp g5).1⟩
  obtain ⟨v, hv⟩ := u
  cases v with
  | null => exact Or.inl hu
  | ref t => exact Or.inr ⟨t, hu⟩
  | _ => simp [Value.isRef] at hv
theorem x_St.to {C n d : String} {A B : Nat → Prop} {U : State} {H0 H1 : Heap} (h : x_St C n d A s H0) (hvm : s.vm.Alike U.vm) (hq : ∀ a : Nat, a < H0.size → ¬ A a → H1[a]? = H0[a]?) (hB : ∀ q, B q → A q) : x_St C n d B U H1 := by
  obtain ⟨k, K, i, f, a, cell, ⟨g1, g2, g3, g4, g9⟩, ⟨g5, g6⟩, g7⟩ := h
  obtain ⟨K', hi', he⟩ := State.fieldFound?_setVm hvm g2
  exact ⟨k, K', i, f, a, cell, ⟨by rw [hvm.findClass]; exact g1, hi', g3, by rw [he]; exact g4, by rw [he]; exact g9⟩, ⟨by rw [hq a (Array.getElem?_eq_some_iff.mp g5).1 g7]; exact g5, g6⟩, fun z => g7 (hB _ z)⟩
theorem x_St.lays {C n d : String} {A : Nat → Prop} (a0 : Array Value) (h : x_St C n d A s s.heap) : (Cond.laysStatic C n d).before a0 s = true := by
  obtain ⟨k, K, i, f, a, cell, ⟨g1, g2, g3, g4, g9⟩, ⟨g5, g6, g7, g8, -⟩, -⟩ := h
  show (Cond.laysStatic C n d).holds a0 s none s [] = true
  exact Cond.laysStatic_of g1 g2 g3 g4 g5 g6 g7 g8 g9
theorem x_St.isRef {C n d : String} {A : Nat → Prop} (a0 : Array Value) (h : x_St C n d A s s.heap) : (Cond.isRef (.static C n d)).before a0 s = true := by
  obtain ⟨k, K, i, f, a, cell, ⟨g1, g2, g3, g4, g9⟩, ⟨g5, g6, g7, g8, g10⟩, -⟩ := h
  have z : (Term.static C n d).eval a0 s none [] s = cell.slots[f.slot]? := by simp [Term.eval, State.fieldNamed?, g2, g3, g4, g5, g6]
  rcases g10 with g | ⟨t, g⟩
  · simp [Cond.before, Cond.holds, Cond.value, z, g]
  · simp [Cond.before, Cond.holds, Cond.value, z, g]
theorem x_same0 {U : State} {k n : Nat} (h : s.sameButNew U [] k n) : s.heap.size ≤ U.heap.size ∧ ∀ a : Nat, a < s.heap.size → U.heap[a]? = s.heap[a]? := by
  obtain ⟨-, h2, -, -, -, h6⟩ := h
  refine ⟨h2, fun a ha => ?_⟩
  obtain ⟨c9, e1, e2, e3, e4⟩ := h6 a _ (Array.getElem?_eq_getElem ha)
  have hs : c9.slots = (s.heap[a]).slots := Array.ext_getElem? fun i => e4 i (fun hm => nomatch hm)
  rw [e1, Array.getElem?_eq_getElem ha, e2, hs]
/-- throw new cls("text"): new; dup; ldc; invokespecial; athrow -/
theorem x_throw {cc : ByteArray} {pc : Nat} {ls : Array Slot} {rest : List Value} {own cls text : String} {names : List String} {ik is ic : Nat} {Qc : Array Value → State → Outcome → State → Prop} {free : Addr → Prop} {A : Nat → Prop}
    (hexec : p.tables.exec = Jvm.exec) (hb : c.code = cc) (hl : l.stackTraces = false) (hown : s.vm.findClass own = some m.cls) (hcls : Bundle.fit cls = true) (hnames : ∀ n ∈ names, Bundle.fit n = true)
    (hk : (Cond.classLink own ik cls).before args s = true) (hini : (Cond.initialized cls).before args s = true) {sa : Nat} (hstr : vk_R own is text sa s)
    (hat : ∀ w ∈ Bundle.ownAtoms own ic cls names, w.onTables = true → w.before args s = true)
    (hnt : ∀ w ∈ Bundle.ownAtoms own ic cls names, w.onTables = true ∨ w = .isRef (.static Bundle.tN "UNASSIGNED_STACK" Bundle.steD) ∨ w = .isRef (.static Bundle.tN "SUPPRESSED_SENTINEL" Bundle.listD) ∨ w = .laysStatic Bundle.tN "UNASSIGNED_STACK" Bundle.steD ∨ w = .laysStatic Bundle.tN "SUPPRESSED_SENTINEL" Bundle.listD)
    (hU : x_St Bundle.tN "UNASSIGNED_STACK" Bundle.steD A s s.heap) (hN : x_St Bundle.tN "SUPPRESSED_SENTINEL" Bundle.listD A s s.heap) (hS : va_S A s.heap H locs) (hsize : ls.size = c.maxLocals)
    (d0 : decode cc pc = .ok (.new ik, 3)) (d3 : decode cc (pc + 3) = .ok (.dup, 1)) (d4 : decode cc (pc + 4) = .ok (.ldc is, 2)) (d6 : decode cc (pc + 6) = .ok (.invokespecial ic, 3)) (d9 : decode cc (pc + 9) = .ok (.athrow, 1))
    (hout : ∀ z ∈ c.exceptionTable.toList, covers z (pc + 9) = false)
    (hRf : names.length + 3 < R.frames) (hRl : (rest.map fun v => v.category).sum + (13 * (names.length + 1) + 43) ≤ R.locals) (hRc : cells + 1 ≤ R.cells) (hRs : slots + 6 ≤ R.slots) (hlocks : meth.locks = false)
    (hq : ∀ (t : State) (q : Addr) (ce : Cell), s.WarmedH t.vm → H.size ≤ t.heap.size → (∀ a : Nat, a < H.size → t.heap[a]? = H[a]?) → t.heap[q]? = some ce → ce.vm = .none → s.vm.findClass cls = some ce.cls → Qc args s (.threw q) t)
    (hf : ∀ z ∈ locs, free z.base) : W p l e R s m args below meth c H locs cells slots (x_Q below Qc args s (cells + 1) (slots + 6) free) (F0 m pc ls rest) := by
  intro T hT X
  have htr : e.platform.stackTraces = false := (show e.platform.stackTraces = l.stackTraces by rw [X.admits.platform]).trans hl
  have Y0 := x_base X (R' := { frames := R.frames, locals := R.locals, cells := 1, slots := 6 }) (Nat.le_refl _) (Nat.le_refl _) hRc hRs
  obtain ⟨b, hbs⟩ : ∃ z, z = (T.setVm s.vm).setFrames (.invoking m args :: below) := ⟨_, rfl⟩
  rw [← hbs] at Y0
  have hvm : b.vm = s.vm := by rw [hbs]; rfl
  have hhp : b.heap = H := by rw [hbs]; exact hT
  have move : ∀ w : Cond, w.onTables = true → w.before args s = true → w.before args b = true := fun w h1 h2 => va_Nw.use h1 (va_Nw.same h1 hvm.symm (va_Nw.of h1 h2))
  have zU : x_St Bundle.tN "UNASSIGNED_STACK" Bundle.steD A b b.heap := by rw [hhp]; exact hU.to (by rw [hvm]; exact Vm.Alike.refl _) hS.2.1 (fun _ h => h)
  have zN : x_St Bundle.tN "SUPPRESSED_SENTINEL" Bundle.listD A b b.heap := by rw [hhp]; exact hN.to (by rw [hvm]; exact Vm.Alike.refl _) hS.2.1 (fun _ h => h)
  have hall : ∀ w ∈ Bundle.ownAtoms own ic cls names, w.before args b = true := fun w hw => by
    rcases hnt w hw with h | rfl | rfl | rfl | rfl
    · exact move w h (hat w hw h)
    · exact zU.isRef args
    · exact zN.isRef args
    · exact zU.lays args
    · exact zN.lays args
  have hown' : b.vm.findClass own = some m.cls := by rw [hvm]; exact hown
  obtain ⟨hstr', hev'⟩ := vk_R.same (u := s) (U := b) hvm hstr
  have hins : (Cond.instantiable cls 6).before args b = true := hall _ (by simp [Bundle.ownAtoms])
  obtain ⟨vm₁, cX, kX, hfX, hkX, -, -, X₁, st1⟩ := Y0.newCold hexec (own := own) (C := cls) (index := ik) (n := 6) hown' (move _ rfl hk) hins (move _ rfl hini)
    (g := F0 m pc ls rest) rfl (by rw [hb]; exact d0) (Nat.le_refl _) (Nat.le_refl _)
  generalize hT1 : (T.setVm vm₁).pushCell { cls := cX, slots := kX.instanceTypes.map defaultValue, vm := .none } = T1 at X₁ st1
  have hnew : T1.heap[T.heap.size]? = some (freshCell cX kX) := by rw [← hT1]; exact State.heap_pushCell_size _ _
  have d3' : decode c.code (pc + 3) = .ok (.dup, 1) := by rw [hb]; exact d3
  have d4' : decode c.code (pc + 4) = .ok (.ldc is, 2) := by rw [hb]; exact d4
  have hcat : (Value.ref T.heap.size).category = 1 := rfl
  obtain ⟨U, hsteps, hrun, hend, hW, hsame, ce, hce, hO⟩ := X₁.ctorThrowS hexec htr (own := own) (cls := cls) (names := names) (ic := ic) hown' hcls hnames hall (fun z hz => nomatch hz) hfX hkX hnew (by rw [hhp, hT]; exact Nat.le_refl _) (msg := .ref sa) rfl
    (g := F0 m (pc + 6) ls (.ref sa :: .ref T.heap.size :: .ref T.heap.size :: rest)) rfl hsize rfl rfl (rest := rest) rfl (by rw [hb]; exact d6) (by rw [hb]; exact d9) hout hRf (by
      have : (F0 m (pc + 6) ls (.ref sa :: .ref T.heap.size :: .ref T.heap.size :: rest)).monitorRoom = 0 := rfl
      simp only [List.map_cons, List.sum_cons, hcat, this]; omega) hlocks
  obtain ⟨f1, f2⟩ := x_same0 hsame
  rw [hhp] at f1 f2
  have hWs : s.WarmedH U.vm := by
    have z : b.WarmedH U.vm := hW
    exact State.WarmedH.trans (show s.WarmedH b.vm by rw [hvm]; exact State.WarmedH.refl s) z
  have hcl : s.vm.findClass cls = some ce.cls := by rw [← hvm]; exact hO.cls
  have hfin : s.sameButNew ({ U with vm := s.vm } : State) locs (cells + 1) (slots + 6) := by
    subst hbs
    obtain ⟨e1, e2⟩ := hsame
    rw [State.setFrames_setFrames] at e1
    have h2 : (T.setVm s.vm).sameButNew ({ U with vm := s.vm } : State) [] (0 + 1) (0 + 6) := ⟨e1, e2⟩
    have h3 := X.same.trans h2
    rw [List.append_nil, Nat.zero_add, Nat.zero_add] at h3
    exact h3
  refine ⟨U, ?_, .threw T.heap.size, hrun, hend, hq U T.heap.size ce hWs f1 f2 hce hO.vm hcl, hWs, locs, hfin, hf⟩
  refine st1 _ ?_
  show Steps p.tables e below (T1.setTop { method := m, pc := pc + 3, locals := ls, stack := .ref T.heap.size :: rest, locked := none }) _
  jvm_step X₁.here [X₁.here.top, hexec, d3', Value.category]
  exact X₁.ldcString hexec (own := own) (text := text) (index := is) (a := sa) hown' hstr' (by
      have z : (Term.string own is).eval args b none [] b = (Term.string own is).eval #[] b none [] b := rfl
      rw [z]; exact hev') (g := F0 m (pc + 4) ls (.ref T.heap.size :: .ref T.heap.size :: rest)) rfl d4' _ hsteps
end XThrow
