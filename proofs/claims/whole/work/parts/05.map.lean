/-! Worlds as maps from addresses to what lies there. -/
section YMap
abbrev y_G : Type := Nat → Option va_E
def y_P (D : va_G) (cl : List vw_C) (g : y_G) (H : Heap) : Prop := ∀ (a : Nat) (e : va_E), g a = some e → va_at D cl (a, e) H
/-- which cells a method may change -/
def y_A (g : y_G) (sz : Nat) : Nat → Prop := fun q => g q ≠ none ∨ sz ≤ q
def y_L (g : y_G) (N : Nat) : va_W := (List.range N).filterMap (fun q => (g q).map (fun e => (q, e)))
theorem y_mem {g : y_G} {N a : Nat} {e : va_E} : (a, e) ∈ y_L g N ↔ a < N ∧ g a = some e := by
  unfold y_L
  rw [List.mem_filterMap]
  constructor
  · rintro ⟨q, hq, h⟩
    cases hg : g q with
    | none => rw [hg] at h; cases h
    | some e' =>
      rw [hg] at h
      cases h
      exact ⟨List.mem_range.mp hq, hg⟩
  · rintro ⟨h1, h2⟩
    exact ⟨a, List.mem_range.mpr h1, by rw [h2]; rfl⟩
theorem y_lt {D : va_G} {cl : List vw_C} {g : y_G} {H : Heap} (h : y_P D cl g H) {a : Nat} {e : va_E} (he : g a = some e) : a < H.size := (h a e he).lt
theorem y_idx {g : y_G} {N a : Nat} {e : va_E} (h1 : a < N) (h2 : g a = some e) : ∃ k : Nat, (y_L g N)[k]? = some (a, e) := List.getElem?_of_mem (y_mem.mpr ⟨h1, h2⟩)
theorem y_toL {D : va_G} {cl : List vw_C} {g : y_G} {H : Heap} (h : y_P D cl g H) (N : Nat) : va_P D cl (y_L g N) H := fun k q hk => h q.1 q.2 (y_mem.mp (List.mem_of_getElem? hk)).2
theorem y_inj (g : y_G) : ∀ (N i j : Nat) (p q : Nat × va_E), (y_L g N)[i]? = some p → (y_L g N)[j]? = some q → p.1 = q.1 → i = j := by
  intro N
  induction N with
  | zero => intro i j p q h; simp [y_L] at h
  | succ N ih =>
    have hs : y_L g (N + 1) = y_L g N ++ ((g N).map (fun e => (N, e))).toList := by
      unfold y_L
      rw [List.range_succ, List.filterMap_append]
      congr 1
    have hlt : ∀ (k : Nat) (r : Nat × va_E), (y_L g N)[k]? = some r → r.1 < N := fun k r h => (y_mem.mp (List.mem_of_getElem? h)).1
    have hlast : ∀ (k : Nat) (r : Nat × va_E), (((g N).map (fun e => (N, e))).toList)[k]? = some r → k = 0 ∧ r.1 = N := fun k r h => by
      cases hg : g N with
      | none => rw [hg] at h; simp at h
      | some e =>
        rw [hg] at h
        cases k with
        | zero => simp at h; exact ⟨rfl, by rw [← h]⟩
        | succ k => simp at h
    intro i j p q h1 h2 h3
    rw [hs] at h1 h2
    by_cases a1 : i < (y_L g N).length
    · rw [List.getElem?_append_left a1] at h1
      by_cases a2 : j < (y_L g N).length
      · rw [List.getElem?_append_left a2] at h2
        exact ih i j p q h1 h2 h3
      · rw [List.getElem?_append_right (by omega)] at h2
        have := hlt _ _ h1
        have := (hlast _ _ h2).2
        omega
    · rw [List.getElem?_append_right (by omega)] at h1
      by_cases a2 : j < (y_L g N).length
      · rw [List.getElem?_append_left a2] at h2
        have := hlt _ _ h2
        have := (hlast _ _ h1).2
        omega
      · rw [List.getElem?_append_right (by omega)] at h2
        have := (hlast _ _ h1).1
        have := (hlast _ _ h2).1
        omega
theorem y_D {A : Nat → Prop} {g : y_G} (hA : ∀ q e, g q = some e → A q) (N : Nat) : va_D A (y_L g N) :=
  ⟨y_inj g N, fun k q hk => hA q.1 q.2 (y_mem.mp (List.mem_of_getElem? hk)).2⟩
theorem y_ofSet {D : va_G} {cl : List vw_C} {g : y_G} {H1 : Heap} {N k a : Nat} {e0 e : va_E} (hN : ∀ q e, g q = some e → q < N) (hk : (y_L g N)[k]? = some (a, e0)) (h : va_P D cl ((y_L g N).set k (a, e)) H1) : y_P D cl (va_up g a (some e)) H1 := by
  intro b eb hb
  have hkl := (List.getElem?_eq_some_iff.mp hk).1
  by_cases hab : b = a
  · subst hab
    rw [va_up_self] at hb
    cases hb
    exact h k _ (List.getElem?_set_self hkl)
  · rw [va_up_ne _ _ hab] at hb
    obtain ⟨j, hj⟩ := y_idx (hN b eb hb) hb
    have hjk : k ≠ j := fun z => by
      subst z
      rw [hk] at hj
      cases hj
      exact hab rfl
    exact h j _ (by rw [List.getElem?_set_ne hjk]; exact hj)
theorem y_ofPush {D : va_G} {cl : List vw_C} {g : y_G} {H1 : Heap} {N q : Nat} {e : va_E} (hN : ∀ q e, g q = some e → q < N) (h : va_P D cl (y_L g N ++ [(q, e)]) H1) : y_P D cl (va_up g q (some e)) H1 := by
  intro b eb hb
  by_cases hab : b = q
  · subst hab
    rw [va_up_self] at hb
    cases hb
    exact h (y_L g N).length _ (by rw [List.getElem?_append_right (Nat.le_refl _), Nat.sub_self]; rfl)
  · rw [va_up_ne _ _ hab] at hb
    obtain ⟨j, hj⟩ := y_idx (hN b eb hb) hb
    exact h j _ (by rw [List.getElem?_append_left (List.getElem?_eq_some_iff.mp hj).1]; exact hj)
theorem y_P.kept {D : va_G} {cl : List vw_C} {g : y_G} {H H1 : Heap} (h : y_P D cl g H) (hq : ∀ a e, g a = some e → H1[a]? = H[a]?) : y_P D cl g H1 := fun a e he => (h a e he).kept (hq a e he)
theorem y_one {D : va_G} {cl : List vw_C} {g : y_G} {H : Heap} (h : y_P D cl g H) {a : Nat} {e : va_E} (he : g a = some e) : va_P D cl [(a, e)] H := fun k q hk => by
  cases k with
  | zero => cases hk; exact h a e he
  | succ k => simp at hk
end YMap
section YRows
variable {p : Program} {l : Launch} {e : Env} {R : Room} {s : State} {m : MethodId} {args : Array Value} {below : List Frame} {meth : Method} {c : Code} {H : Heap} {locs : List Loc} {cells slots : Nat} {Q : State → Prop} {cc : ByteArray} {pc a : Nat} {ls : Array Slot} {rest : List Value} {D : va_G} {cl : List vw_C} {tys : List (ClassId × FieldType)} {g : y_G} {A : Nat → Prop} {H0 : Heap}
theorem y_recv {ci : Nat} {q : vw_C} {fs : List Value} (hK : va_K D cl tys s) (hP : y_P D cl g H) (hc : cl[ci]? = some q) (he : g a = some (.inr (ci, fs))) : ∃ cell : Cell, H[a]? = some cell ∧ cell.vm.isStatics = false ∧ s.vm.findClass q.1 = some cell.cls :=
  va_recv hK (y_one hP he) hc (q0 := 0) rfl
theorem y_get (hexec : p.tables.exec = Jvm.exec) (hb : c.code = cc) {own ref C : String} {T : u_T} {N ci index : Nat} {Ts : List Cond} (hts : ∀ w ∈ Ts, w.before args s = true) (hin : ∀ w ∈ u_ws C T N, w ∈ Ts) (hown : s.vm.findClass own = some m.cls) (hK : va_K D cl tys s) (hP : y_P D cl g H) {fs : List Value} (he : g a = some (.inr (ci, fs))) (hc : cl[ci]? = some (C, T, N)) (k : Nat) (hk : k < N)
    (hlink : (Cond.fieldLink own index ref (T k).2.1 (T k).2.2.1).before args s = true) (hsame : ∀ x, s.fieldFound? (T k).1 (T k).2.1 (T k).2.2.1 = some x → s.fieldFound? ref (T k).2.1 (T k).2.2.1 = some x) {v : Value} (hv : fs[k]? = some v) (hdg : decode cc pc = .ok (.getfield index, 3))
    (kk : W p l e R s m args below meth c H locs cells slots Q (F0 m (pc + 3) ls (v :: rest))) : W p l e R s m args below meth c H locs cells slots Q (F0 m pc ls (.ref a :: rest)) :=
  va_get hexec hb hts hin hown hK (y_one hP he) 0 rfl hc k hk hlink hsame hv hdg kk
theorem y_put (hexec : p.tables.exec = Jvm.exec) (hb : c.code = cc) {own ref C : String} {T : u_T} {N ci index : Nat} {Ts : List Cond} (hts : ∀ w ∈ Ts, w.before args s = true) (hin : ∀ w ∈ u_ws C T N, w ∈ Ts) (ty0 : Nat → FieldType) (hty : ∀ k, k < N → parseFieldDescriptor (T k).2.2.1 = some (ty0 k)) (hnm : ∀ a, a < N → ∀ b, b < N → a ≠ b → (T a).2.1 ≠ (T b).2.1) (hown : s.vm.findClass own = some m.cls)
    (hK : va_K D cl tys s) (hP : y_P D cl g H) (hA : ∀ q e, g q = some e → A q) (hS : va_S A H0 H locs) {fs : List Value} (he : g a = some (.inr (ci, fs))) (hc : cl[ci]? = some (C, T, N)) (k : Nat) (hk : k < N) (hlink : (Cond.fieldLink own index ref (T k).2.1 (T k).2.2.1).before args s = true) (hsame : ∀ x, s.fieldFound? (T k).1 (T k).2.1 (T k).2.2.1 = some x → s.fieldFound? ref (T k).2.1 (T k).2.2.1 = some x)
    (hfin : (T k).2.2.2 = false) {ty : FieldType} {v : Value} (hd : parseFieldDescriptor (T k).2.2.1 = some ty) (hn : narrow ty v = v) (hfit : fits ty v = true) (hl : k < fs.length) (hdg : decode cc pc = .ok (.putfield index, 3))
    (kk : ∀ (H1 : Heap) (locs1 : List Loc), y_P D cl (va_up g a (some (.inr (ci, fs.set k v)))) H1 → (∀ q e, va_up g a (some (.inr (ci, fs.set k v))) q = some e → A q) → va_S A H0 H1 locs1 → W p l e R s m args below meth c H1 locs1 cells slots Q (F0 m (pc + 3) ls rest)) : W p l e R s m args below meth c H locs cells slots Q (F0 m pc ls (v :: .ref a :: rest)) := by
  have hlt : ∀ q e, g q = some e → q < H.size := fun q e h => y_lt hP h
  obtain ⟨j, hj⟩ := y_idx (hlt a _ he) he
  refine va_put hexec hb hts hin ty0 hty hnm hown hK (y_toL hP H.size) (y_D hA H.size) hS j hj hc k hk hlink hsame hfin hd hn hfit hl hdg (fun H1 locs1 h1 _ h3 => ?_)
  refine kk H1 locs1 (y_ofSet hlt hj h1) (fun q e h => ?_) h3
  by_cases hq : q = a
  · rw [hq]; exact hA a _ he
  · rw [va_up_ne _ _ hq] at h; exact hA q e h
theorem y_new {c0 : Code} (hexec : p.tables.exec = Jvm.exec) (hb : c0.code = cc) {own C : String} {T : u_T} {N ci index : Nat} {Ts : List Cond} (hts : ∀ w ∈ Ts, w.before args s = true) (hin : ∀ w ∈ u_ws C T N, w ∈ Ts) (ty : Nat → FieldType) (hty : ∀ k, k < N → parseFieldDescriptor (T k).2.2.1 = some (ty k)) (hown : s.vm.findClass own = some m.cls) (hcl : (Cond.classLink own index C).before args s = true) (hinst : (Cond.instantiable C N).before args s = true) (hini : (Cond.initialized C).before args s = true)
    (hK : va_K D cl tys s) (hP : y_P D cl g H) (hA : ∀ q e, g q = some e → A q) (hS : va_S A H0 H locs) (hA0 : ∀ q, H0.size ≤ q → A q) (hc : cl[ci]? = some (C, T, N)) {fs : List Value} (hfs : ∀ j, j < N → defaultValue (ty j) = vp_V fs j) (hcells : cells + 1 ≤ R.cells) (hslots : slots + N ≤ R.slots) (hdg : decode cc pc = .ok (.new index, 3))
    (kk : ∀ (q : Nat) (H1 : Heap), g q = none → y_P D cl (va_up g q (some (.inr (ci, fs)))) H1 → (∀ z e, va_up g q (some (.inr (ci, fs))) z = some e → A z) → va_S A H0 H1 locs →
      W p l e R s m args below meth c0 H1 locs (cells + 1) (slots + N) Q (F0 m (pc + 3) ls (.ref q :: rest))) : W p l e R s m args below meth c0 H locs cells slots Q (F0 m pc ls rest) := by
  have hlt : ∀ q e, g q = some e → q < H.size := fun q e h => y_lt hP h
  refine va_new hexec hb hts hin ty hty hown hcl hinst hini hK (y_toL hP H.size) (y_D hA H.size) hS hA0 hc hfs hcells hslots hdg (fun q H1 h1 h2 h3 => ?_)
  have hlast : (y_L g H.size ++ [(q, (Sum.inr (ci, fs) : va_E))])[(y_L g H.size).length]? = some (q, .inr (ci, fs)) := by rw [List.getElem?_append_right (Nat.le_refl _), Nat.sub_self]; rfl
  have hq : g q = none := by
    cases hg : g q with
    | none => rfl
    | some e9 =>
      obtain ⟨j, hj⟩ := y_idx (hlt q e9 hg) hg
      have hjl := (List.getElem?_eq_some_iff.mp hj).1
      have := h2.1 j (y_L g H.size).length (q, e9) (q, .inr (ci, fs)) (by rw [List.getElem?_append_left hjl]; exact hj) hlast rfl
      omega
  refine kk q H1 hq (y_ofPush hlt h1) (fun z e h => ?_) h3
  by_cases hz : z = q
  · rw [hz]; exact h2.2 _ _ hlast
  · rw [va_up_ne _ _ hz] at h; exact hA z e h
theorem y_aldq (hexec : p.tables.exec = Jvm.exec) (hb : c.code = cc) (hK : va_K D cl tys s) (hP : y_P D cl g H) (t0 : Nat) {cA : ClassId} {C : String} {n : Nat} {f : Nat → Option Nat} (ha : g a = some (.inl (cA, n, .inr (.inr (.inr (.inr f)))))) (ht : tys[t0]? = some (cA, .object C)) {i : Int32} (hin : vp_in i n) (hdg : decode cc pc = .ok (.aaload, 1))
    (kk : W p l e R s m args below meth c H locs cells slots Q (F0 m (pc + 1) ls (va_rf (f i.toNatClampNeg) :: rest))) : W p l e R s m args below meth c H locs cells slots Q (F0 m pc ls (.int i :: .ref a :: rest)) :=
  va_aldq hexec hb hK (y_one hP ha) 0 t0 rfl ht hin hdg kk
theorem y_astN (hexec : p.tables.exec = Jvm.exec) (hb : c.code = cc) (hK : va_K D cl tys s) (hP : y_P D cl g H) (hA : ∀ q e, g q = some e → A q) (hS : va_S A H0 H locs) (t0 : Nat) {cA : ClassId} {C : String} {n : Nat} {f : Nat → Option Nat} (ha : g a = some (.inl (cA, n, .inr (.inr (.inr (.inr f)))))) (ht : tys[t0]? = some (cA, .object C)) {i : Int32} (hin : vp_in i n) (hdg : decode cc pc = .ok (.aastore, 1))
    (kk : ∀ (H1 : Heap) (locs1 : List Loc), y_P D cl (va_up g a (some (.inl (cA, n, .inr (.inr (.inr (.inr (va_up f i.toNatClampNeg none)))))))) H1 → (∀ q e, va_up g a (some (.inl (cA, n, .inr (.inr (.inr (.inr (va_up f i.toNatClampNeg none))))))) q = some e → A q) → va_S A H0 H1 locs1 → W p l e R s m args below meth c H1 locs1 cells slots Q (F0 m (pc + 1) ls rest)) :
    W p l e R s m args below meth c H locs cells slots Q (F0 m pc ls (.null :: .int i :: .ref a :: rest)) := by
  have hlt : ∀ q e, g q = some e → q < H.size := fun q e h => y_lt hP h
  obtain ⟨j, hj⟩ := y_idx (hlt a _ ha) ha
  refine va_astqN hexec hb hK (y_toL hP H.size) (y_D hA H.size) hS j t0 hj ht hin hdg (fun H1 locs1 h1 _ h3 => ?_)
  refine kk H1 locs1 (y_ofSet hlt hj h1) (fun q e h => ?_) h3
  by_cases hq : q = a
  · rw [hq]; exact hA a _ ha
  · rw [va_up_ne _ _ hq] at h; exact hA q e h
/-- a store of an object of a class that the array's class takes -/
theorem y_astO (hexec : p.tables.exec = Jvm.exec) (hb : c.code = cc) (hK : va_K D cl tys s) (hP : y_P D cl g H) (hA : ∀ q e, g q = some e → A q) (hS : va_S A H0 H locs) (t0 ci : Nat) {E : String} {cA : ClassId} {r : vw_C} {n v : Nat} {vs : List Value} {f : Nat → Option Nat} (ha : g a = some (.inl (cA, n, .inr (.inr (.inr (.inr f)))))) (ht : tys[t0]? = some (cA, .object E)) (hca : va_Nw (.castable r.1 E) s) (hv : g v = some (.inr (ci, vs))) (hc : cl[ci]? = some r) {i : Int32} (hin : vp_in i n) (hdg : decode cc pc = .ok (.aastore, 1))
    (kk : ∀ (H1 : Heap) (locs1 : List Loc), y_P D cl (va_up g a (some (.inl (cA, n, .inr (.inr (.inr (.inr (va_up f i.toNatClampNeg (some v))))))))) H1 → (∀ q e, va_up g a (some (.inl (cA, n, .inr (.inr (.inr (.inr (va_up f i.toNatClampNeg (some v)))))))) q = some e → A q) → va_S A H0 H1 locs1 → W p l e R s m args below meth c H1 locs1 cells slots Q (F0 m (pc + 1) ls rest)) :
    W p l e R s m args below meth c H locs cells slots Q (F0 m pc ls (.ref v :: .int i :: .ref a :: rest)) := by
  have hlt : ∀ q e, g q = some e → q < H.size := fun q e h => y_lt hP h
  obtain ⟨j, hj⟩ := y_idx (hlt a _ ha) ha
  obtain ⟨k, hk⟩ := y_idx (hlt v _ hv) hv
  refine va_astqO hexec hb hK (y_toL hP H.size) (y_D hA H.size) hS j t0 k ci hj ht hca hk hc hin hdg (fun H1 locs1 h1 _ h3 => ?_)
  refine kk H1 locs1 (y_ofSet hlt hj h1) (fun q e h => ?_) h3
  by_cases hq : q = a
  · rw [hq]; exact hA a _ ha
  · rw [va_up_ne _ _ hq] at h; exact hA q e h
end YRows
