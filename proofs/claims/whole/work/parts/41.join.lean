/-! worlds side by side: the class's, the reference's, the law's own -/
section LJoin
/-- G is g and f, which are apart -/
def y_J (g f G : y_G) : Prop := (∀ q e, G q = some e ↔ g q = some e ∨ f q = some e) ∧ ∀ q, g q = none ∨ f q = none
def y_j (g f : y_G) : y_G := fun q => match g q with
  | some e => some e
  | none => f q
theorem y_J.of {g f : y_G} (h : ∀ q, g q = none ∨ f q = none) : y_J g f (y_j g f) := by
  refine ⟨fun q e => ?_, h⟩
  unfold y_j
  cases hg : g q with
  | none => exact ⟨fun z => Or.inr z, fun z => z.elim (fun y => (nomatch y)) id⟩
  | some e9 =>
    refine ⟨fun z => Or.inl z, fun z => z.elim id (fun y => ?_)⟩
    rcases h q with h1 | h1
    · rw [hg] at h1; cases h1
    · rw [h1] at y; cases y
theorem y_J.sym {g f G : y_G} (h : y_J g f G) : y_J f g G := ⟨fun q e => (h.1 q e).trans or_comm, fun q => (h.2 q).symm⟩
theorem y_J.P {D : va_G} {cl : List vw_C} {g f G : y_G} {H : Heap} (hJ : y_J g f G) (hP : y_P D cl G H) : y_P D cl g H := fun a e he => hP a e ((hJ.1 a e).mpr (Or.inl he))
theorem y_J.PP {D : va_G} {cl : List vw_C} {g f G : y_G} {H : Heap} (hJ : y_J g f G) (h1 : y_P D cl g H) (h2 : y_P D cl f H) : y_P D cl G H := fun a e he => ((hJ.1 a e).mp he).elim (h1 a e) (h2 a e)
theorem y_J.A {g f G : y_G} {sz : Nat} (hJ : y_J g f G) : ∀ q, y_A g sz q → y_A G sz q := fun q h => by
  rcases h with h | h
  · refine Or.inl (fun z => ?_)
    cases hg : g q with
    | none => exact h hg
    | some e =>
      have z1 := (hJ.1 q e).mpr (Or.inl hg)
      rw [z] at z1
      cases z1
  · exact Or.inr h
/-- a contract over g holds beside any f -/
theorem x_join {l : Launch} {y : MethodName} {ws : List Cond} {rm : Room} {D : va_G} {tys : List (ClassId × FieldType)} {av : List Value} {g f G : y_G} {sz mc ms : Nat} {post : Option Value ⊕ String → y_G → Prop} (hJ : y_J g f G) (hM : x_M l y ws rm (w_Pc D tys av g sz) (w_Qc D g sz post) mc ms (y_A g sz)) :
    x_M l y ws rm (w_Pc D tys av G sz) (w_Qc D G sz (fun r G9 => ∃ g9, post r g9 ∧ y_J g9 f G9)) mc ms (y_A G sz) := by
  intro p e h1 h2 h3 s m a b h4 h5 h6 h7
  obtain ⟨k0, k1, k2, k3⟩ := h6
  have hPg := hJ.P k2
  have hPf := hJ.sym.P k2
  obtain ⟨n, o, q1, q2, q3, ⟨⟨r, g', i1, i2, i3, i4⟩, hF⟩, hw9, L, q5, q6⟩ := hM p e h1 h2 h3 s m a b h4 h5 ⟨k0, k1, hPg, k3.to (locs := []) va_S.rf hJ.A (State.WarmedH.refl s)⟩ h7
  have hfl : ∀ q e, f q = some e → q < s.heap.size := fun q e h => y_lt hPf h
  have hfn : ∀ q e, f q = some e → ¬ y_A g sz q := fun q e h z => by
    rcases z with z | z
    · rcases hJ.2 q with y | y
      · exact z y
      · rw [h] at y; cases y
    · have := hfl q e h
      omega
  have hJ' : y_J g' f (y_j g' f) := y_J.of (fun q => by
    cases hg : g' q with
    | none => exact Or.inl rfl
    | some e9 =>
      cases hf : f q with
      | none => exact Or.inr rfl
      | some e8 => exact absurd (i4 q e9 hg) (hfn q e8 hf))
  refine ⟨n, o, q1, q2, q3, ⟨⟨r, y_j g' f, i1, ⟨g', i2, hJ'⟩, hJ'.PP i3 (hPf.kept (fun a e he => hF.2 a (hfl a e he) (hfn a e he))), fun q e he => ?_⟩, hF.1, fun q hq hn => hF.2 q hq (fun z => hn (hJ.A q z))⟩, hw9, L, q5, fun q hq => hJ.A _ (q6 q hq)⟩
  rcases (hJ'.1 q e).mp he with z | z
  · exact hJ.A q (i4 q e z)
  · exact Or.inl (fun y => by have z1 := (hJ.1 q e).mpr (Or.inr z); rw [y] at z1; cases z1)
/-- the law's array of one long -/
def o_1 (cL : ClassId) (ou : Nat) (f : Nat → Int64) : y_G := fun q => if q = ou then some (.inl (cL, 1, .inr (.inl f))) else none
variable {cL : ClassId} {ou q : Nat} {f : Nat → Int64} {g G : y_G}
theorem o_1.at : o_1 cL ou f ou = some (.inl (cL, 1, .inr (.inl f))) := if_pos rfl
theorem o_1.ne (h : q ≠ ou) : o_1 cL ou f q = none := if_neg h
theorem y_J.out (h : y_J g (o_1 cL ou f) G) : G ou = some (.inl (cL, 1, .inr (.inl f))) := (h.1 _ _).mpr (Or.inr o_1.at)
theorem y_J.up (h : y_J g (o_1 cL ou f) G) (f' : Nat → Int64) : y_J g (o_1 cL ou f') (va_up G ou (some (.inl (cL, 1, .inr (.inl f'))))) := by
  have hg : g ou = none := (h.2 ou).elim id (fun z => by rw [o_1.at] at z; cases z)
  refine ⟨fun q e => ?_, fun q => ?_⟩
  · by_cases hq : q = ou
    · subst hq
      rw [va_up_self, o_1.at, hg]
      exact ⟨Or.inr, fun z => z.elim (fun y => (nomatch y)) id⟩
    · rw [va_up_ne _ _ hq, h.1 q e, o_1.ne hq, o_1.ne hq]
  · by_cases hq : q = ou
    · exact Or.inl (by rw [hq]; exact hg)
    · exact Or.inr (o_1.ne hq)
/-- the array made beside two worlds -/
theorem y_J.new {gm : y_G} (h : y_J gm g G) (ho : G ou = none) : ∃ G0, y_J g (o_1 cL ou f) G0 ∧ y_J G0 gm (va_up G ou (some (.inl (cL, 1, .inr (.inl f))))) := by
  have h1 : g ou = none := by
    cases hg : g ou with
    | none => rfl
    | some e => have z := (h.1 ou e).mpr (Or.inr hg); rw [ho] at z; cases z
  have h2 : gm ou = none := by
    cases hg : gm ou with
    | none => rfl
    | some e => have z := (h.1 ou e).mpr (Or.inl hg); rw [ho] at z; cases z
  have hJ : y_J g (o_1 cL ou f) (y_j g (o_1 cL ou f)) := y_J.of (fun q => by
    by_cases hq : q = ou
    · exact Or.inl (by rw [hq]; exact h1)
    · exact Or.inr (o_1.ne hq))
  refine ⟨_, hJ, fun q e => ?_, fun q => ?_⟩
  · by_cases hq : q = ou
    · subst hq
      rw [va_up_self, hJ.1 q e, h1, h2, o_1.at]
      exact ⟨fun z => Or.inl (Or.inr z), fun z => z.elim (fun y => y.elim (fun w => (nomatch w)) id) (fun w => (nomatch w))⟩
    · rw [va_up_ne _ _ hq, hJ.1 q e, o_1.ne hq, h.1 q e]
      exact ⟨fun z => z.elim Or.inr (fun y => Or.inl (Or.inl y)), fun z => z.elim (fun y => y.elim Or.inr (fun w => (nomatch w))) Or.inl⟩
  · by_cases hq : q = ou
    · exact Or.inr (by rw [hq]; exact h2)
    · rcases h.2 q with z | z
      · exact Or.inr z
      · refine Or.inl ?_
        unfold y_j
        rw [z]
        exact o_1.ne hq
theorem l_upd (f : Nat → Int64) (x : Int64) : vp_updL f (0 : Int32).toNatClampNeg x 0 = x := if_pos rfl
theorem l_in0 : vp_in (0 : Int32) 1 := by
  unfold vp_in
  decide
end LJoin
section LWrap
theorem x_cbH {R : Room} {s : State} {args : Array Value} {own : String} {index maxL mc ms : Nat} {y : MethodName} {bytes : ByteArray} {ret : Option FieldType} {hs : List (Nat × Nat × Nat × Nat)} {rm : Room} (n : Nat) (hts : ∀ w ∈ x_tbl, w.before args s = true) (h0 : Cond.codeWith y bytes maxL ret hs ∈ x_tbl) (h1 : Cond.methodLink own index y ∈ x_tbl) (h2 : Cond.initialized y.cls ∈ x_tbl) (hrc : rm.cells = mc) (hrs : rm.slots = ms)
    (hd : y.cls ≠ "java/lang/invoke/MethodHandle" ∧ y.cls ≠ "java/lang/invoke/VarHandle" ∧ (parseMethodDescriptor y.desc).map (fun d => d.parameters.length) = some n) (hR : rm.frames + 1 ≤ R.frames ∧ 8 + (maxL + 11) + rm.locals ≤ R.locals) :
    x_CB R s args own index y maxL [Cond.codeWith y bytes maxL ret hs] rm mc ms n := by
  refine ⟨hrc, hrs, hR.1, hR.2, fun w hw a' U hW => ?_, x_Co.with (hts _ h0), x_ini (hts _ h2), ⟨hd.1, hd.2.1⟩, fun sig h => ?_, hts _ h1⟩
  · rw [List.mem_singleton.mp hw]
    exact word_at hW (tbl_good _ h0) (hts _ h0)
  · have h3 := hd.2.2
    rw [h] at h3
    exact (Option.some.inj h3).symm
abbrev rmB : Room := { frames := 9, cells := 6, slots := 60, locals := 240 }
theorem c_R.obj {cK cI : ClassId} {a : Ab} {g : y_G} {d cn : Nat} (h : c_R cK cI a g d cn) : ∃ fs : List Value, g d = some (.inr (4, fs)) := by
  obtain ⟨ka, sa, fk, fs, ad, cs, ks, itv, u, wk, sn, np, lv, h1, -⟩ := h
  exact ⟨_, h1.1.1⟩
theorem x_out.ret {Es : List String} {s : An} {v : Option Value} (h : x_out Es s (.inl v)) : s.1 = 0 ∧ v = s.2.1 := by
  obtain ⟨k, o, a⟩ := s
  cases k with
  | zero => exact ⟨rfl, Sum.inl.inj h⟩
  | succ i => obtain ⟨E, -, z⟩ := h; cases z
theorem x_out.thr {Es : List String} {s : An} {E : String} (h : x_out Es s (.inr E)) : ∃ i, s.1 = i + 1 ∧ Es[i]? = some E := by
  obtain ⟨k, o, a⟩ := s
  cases k with
  | zero => exact absurd (show (Sum.inr E : Option Value ⊕ String) = .inl o from h) (fun z => by cases z)
  | succ i => obtain ⟨E', z1, z⟩ := h; cases z; exact ⟨i, rfl, z1⟩
theorem x_thr1 {E0 E : String} {s : An} (h : x_out [E0] s (.inr E)) : s.1 = 1 ∧ E = E0 := by
  obtain ⟨i, h1, h2⟩ := h.thr
  rcases i with _ | i
  · exact ⟨h1, (Option.some.inj (show some E0 = some E from h2)).symm⟩
  · simp at h2
theorem x_thr2 {E0 E1 E : String} {s : An} (h : x_out [E0, E1] s (.inr E)) : (s.1 = 1 ∧ E = E0) ∨ (s.1 = 2 ∧ E = E1) := by
  obtain ⟨i, h1, h2⟩ := h.thr
  rcases i with _ | _ | i
  · exact Or.inl ⟨h1, (Option.some.inj (show some E0 = some E from h2)).symm⟩
  · exact Or.inr ⟨h1, (Option.some.inj (show some E1 = some E from h2)).symm⟩
  · simp at h2
theorem x_thr3 {E0 E1 E2 E : String} {s : An} (h : x_out [E0, E1, E2] s (.inr E)) : (s.1 = 1 ∧ E = E0) ∨ (s.1 = 2 ∧ E = E1) ∨ (s.1 = 3 ∧ E = E2) := by
  obtain ⟨i, h1, h2⟩ := h.thr
  rcases i with _ | _ | _ | i
  · exact Or.inl ⟨h1, (Option.some.inj (show some E0 = some E from h2)).symm⟩
  · exact Or.inr (Or.inl ⟨h1, (Option.some.inj (show some E1 = some E from h2)).symm⟩)
  · exact Or.inr (Or.inr ⟨h1, (Option.some.inj (show some E2 = some E from h2)).symm⟩)
  · simp at h2
theorem x_thr4 {E0 E1 E2 E3 E : String} {s : An} (h : x_out [E0, E1, E2, E3] s (.inr E)) : (s.1 = 1 ∧ E = E0) ∨ (s.1 = 2 ∧ E = E1) ∨ (s.1 = 3 ∧ E = E2) ∨ (s.1 = 4 ∧ E = E3) := by
  obtain ⟨i, h1, h2⟩ := h.thr
  rcases i with _ | _ | _ | _ | i
  · exact Or.inl ⟨h1, (Option.some.inj (show some E0 = some E from h2)).symm⟩
  · exact Or.inr (Or.inl ⟨h1, (Option.some.inj (show some E1 = some E from h2)).symm⟩)
  · exact Or.inr (Or.inr (Or.inl ⟨h1, (Option.some.inj (show some E2 = some E from h2)).symm⟩))
  · exact Or.inr (Or.inr (Or.inr ⟨h1, (Option.some.inj (show some E3 = some E from h2)).symm⟩))
  · simp at h2
theorem q_ind {α : Type} (P : α → Prop) {X : Prop} {x y : α} (hx : P x) (hy : P y) : P (q_if X x y) := by
  by_cases h : X
  · rw [q_y h]; exact hx
  · rw [q_n h]; exact hy
/-- what a call answers when it isn't refused: nothing, a number, a yes or no, a long -/
def l_v (s : An) : Prop := s.1 = 0 → s.2.1 = none
def l_i (s : An) : Prop := s.1 = 0 → ∃ x : Int32, s.2.1 = some (.int x)
def l_b (s : An) : Prop := s.1 = 0 → ∃ X : Prop, s.2.1 = some (.int (c_bit X))
def l_l (s : An) : Prop := s.1 = 0 → ∃ x : Int64, s.2.1 = some (.long x)
theorem l_no {P : Prop} {k : Nat} (h : k + 1 = 0) : P := absurd h (Nat.succ_ne_zero k)
variable {a : Ab}
theorem l_pl (P : An → Prop) {s k : Int32} {rf : Prop} {f : Nat → An} (h : ∀ i, P (i + 1, none, a)) (hf : ∀ o, P (f o)) : P (s_pl a s k rf f) := q_ind P (q_ind P (h 1) (q_ind P (q_ind P (hf _) (h 3)) (h 2))) (h 0)
theorem l_sin (P : An → Prop) {s : Int32} {f : Nat → An} (h : ∀ i, P (i + 1, none, a)) (hf : ∀ o, P (f o)) : P (s_in a s f) := q_ind P (q_ind P (h 1) (hf _)) (h 0)
theorem l_plain (k w mk : Int32) : l_v (s_plain a k w mk) := q_ind l_v (fun _ => rfl) (fun h => l_no (k := 0) h)
theorem l_row (k el : Int32) : l_v (s_row a k el) := q_ind l_v (fun _ => rfl) (fun h => l_no (k := 0) h)
theorem l_make (s k n : Int32) : l_i (s_make a s k n) := by
  refine q_ind l_i ?_ (fun h => l_no (k := 0) h)
  cases a.kd (j_n k) with
  | none => exact fun h => l_no (k := 1) h
  | some q => exact q_ind l_i (fun _ => ⟨_, rfl⟩) (fun h => l_no (k := 2) h)
theorem l_copy (s t : Int32) : l_b (s_copy a s t) := q_ind l_b (fun _ => ⟨_, rfl⟩) (fun h => l_no (k := 0) h)
theorem l_drop (s : Int32) : l_b (s_drop a s) := q_ind l_b (fun _ => ⟨_, rfl⟩) (fun h => l_no (k := 0) h)
theorem l_same (s t : Int32) : l_b (s_same a s t) := q_ind l_b (fun _ => ⟨_, rfl⟩) (fun h => l_no (k := 0) h)
theorem l_get (s k : Int32) : l_l (s_get a s k) := l_pl l_l (fun i h => l_no h) (fun o _ => ⟨_, rfl⟩)
theorem l_put (s k : Int32) (v : Int64) : l_v (s_put a s k v) := l_pl l_v (fun i h => l_no h) (fun o _ => rfl)
theorem l_link (s k t : Int32) : l_b (s_link a s k t) := q_ind l_b (l_pl l_b (fun i h => l_no h) (fun o _ => ⟨_, rfl⟩)) (fun h => l_no (k := 0) h)
theorem l_follow (s k t : Int32) : l_b (s_follow a s k t) := q_ind l_b (l_pl l_b (fun i h => l_no h) (fun o _ => ⟨_, rfl⟩)) (fun h => l_no (k := 0) h)
theorem l_keep (s : Int32) : l_i (s_keep a s) := l_sin l_i (fun i h => l_no h) (fun o _ => ⟨_, rfl⟩)
theorem l_number (s : Int32) : l_i (s_number a s) := l_sin l_i (fun i h => l_no h) (fun o => by
  by_cases h : a.nu o = 0
  · rw [if_pos h]; exact fun _ => ⟨_, rfl⟩
  · rw [if_neg h]; exact fun _ => ⟨_, rfl⟩)
theorem l_size (s : Int32) : l_i (s_size a s) := l_sin l_i (fun i h => l_no h) (fun o _ => ⟨_, rfl⟩)
theorem l_memory (w : Int32) : l_b (s_memory a w) := q_ind l_b (q_ind l_b (fun _ => ⟨_, rfl⟩) (fun _ => ⟨_, rfl⟩)) (fun h => l_no (k := 0) h)
theorem l_every (n : Int32) : l_v (s_every a n) := q_ind l_v (fun _ => rfl) (fun h => l_no (k := 0) h)
/-- the long that stands for an answer -/
def l_al (s : An) (x : Int64) : Prop := s.1 = 0 → (∀ y, s.2.1 = some (.int y) → x = y.toInt64) ∧ ∀ y, s.2.1 = some (.long y) → x = y
/-- how a wrapper of the law ends -/
def l_W (cK cI cL : ClassId) (ou d cn : Nat) (s : An) (r : Option Value ⊕ String) (G9 : y_G) : Prop := r = .inl (some (.int (nI s.1))) ∧ s.1 ≤ 4 ∧ ∃ g9 f9, y_J g9 (o_1 cL ou f9) G9 ∧ c_R cK cI s.2.2 g9 d (cn + 1) ∧ l_al s (f9 0)
variable {cK cI cL : ClassId} {ou d cn : Nat} {s : An} {g9 G9 : y_G} {f9 : Nat → Int64} {v : Int32}
theorem l_bad {i : Nat} (hs : s.1 = i + 1) (hi : i < 4) (hv : v = nI (i + 1)) (hJ : y_J g9 (o_1 cL ou f9) G9) (hR : c_R cK cI s.2.2 g9 d (cn + 1)) : l_W cK cI cL ou d cn s (.inl (some (.int v))) G9 :=
  ⟨by rw [hs, hv], by omega, g9, f9, hJ, hR, fun h => by omega⟩
theorem l_okV (hs : s.1 = 0) (hn : s.2.1 = none) (hv : v = nI 0) (hJ : y_J g9 (o_1 cL ou f9) G9) (hR : c_R cK cI s.2.2 g9 d (cn + 1)) : l_W cK cI cL ou d cn s (.inl (some (.int v))) G9 :=
  ⟨by rw [hs, hv], by omega, g9, f9, hJ, hR, fun _ => ⟨fun y h => (by rw [hn] at h; cases h), fun y h => (by rw [hn] at h; cases h)⟩⟩
theorem l_okI {x : Int32} (hs : s.1 = 0) (hx : s.2.1 = some (.int x)) (hf : f9 0 = x.toInt64) (hv : v = nI 0) (hJ : y_J g9 (o_1 cL ou f9) G9) (hR : c_R cK cI s.2.2 g9 d (cn + 1)) : l_W cK cI cL ou d cn s (.inl (some (.int v))) G9 :=
  ⟨by rw [hs, hv], by omega, g9, f9, hJ, hR, fun _ => ⟨fun y h => (by rw [hx] at h; cases h; exact hf), fun y h => (by rw [hx] at h; cases h)⟩⟩
theorem l_okL {x : Int64} (hs : s.1 = 0) (hx : s.2.1 = some (.long x)) (hf : f9 0 = x) (hv : v = nI 0) (hJ : y_J g9 (o_1 cL ou f9) G9) (hR : c_R cK cI s.2.2 g9 d (cn + 1)) : l_W cK cI cL ou d cn s (.inl (some (.int v))) G9 :=
  ⟨by rw [hs, hv], by omega, g9, f9, hJ, hR, fun _ => ⟨fun y h => (by rw [hx] at h; cases h), fun y h => (by rw [hx] at h; cases h; exact hf)⟩⟩
theorem l_t0 : (0 : Int32).toInt64 = 0 := by decide
theorem l_t1 : (1 : Int32).toInt64 = 1 := by decide
theorem l_b0 {X : Prop} (h : c_bit X = 0) : (0 : Int64) = (c_bit X).toInt64 := l_t0.symm.trans (congrArg Int32.toInt64 h).symm
theorem l_b1 {X : Prop} (h : ¬ c_bit X = 0) : (1 : Int64) = (c_bit X).toInt64 := by
  by_cases hX : X
  · exact l_t1.symm.trans (congrArg Int32.toInt64 (c_bit.y hX)).symm
  · exact absurd (c_bit.n hX) h
/-- a number that says whether -/
theorem l_b2 {X : Prop} {x : Int32} (h : c_bit X = x) (hx : ¬ x = 0) : (1 : Int64) = x.toInt64 := by
  rw [← h]
  exact l_b1 (by rw [h]; exact hx)
theorem l_z {n : Nat} (h : nI n = 0) (hn : n ≤ 4) : n = 0 := by
  have h1 := nI_clamp (n := n) (by omega)
  rw [h] at h1
  have h2 : (0 : Int32).toNatClampNeg = 0 := by decide
  omega
end LWrap
