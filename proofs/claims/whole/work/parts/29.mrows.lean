/-! the reference's world: its object and its fourteen arrays -/
section MRows
/-- the arrays by their field's number; the scalars by theirs -/
abbrev MS : Type := (Nat → Nat → Int32) × (Nat → Int64) × (Nat → Int32)
def m_I : List Nat := [20, 0, 1, 2, 3, 4, 5, 6, 11, 12, 13, 15, 16, 17, 18]
def m_inj (r : Nat → Nat) : Prop := ∀ i, i ∈ m_I → ∀ j, j ∈ m_I → r i = r j → i = j
def m_G (r : Nat → Nat) (F : Nat → va_E) : y_G := fun q => (m_I.find? (fun i => r i == q)).map F
theorem m_all {j : Nat} (h : j ∈ m_I) : j = 20 ∨ j = 0 ∨ j = 1 ∨ j = 2 ∨ j = 3 ∨ j = 4 ∨ j = 5 ∨ j = 6 ∨ j = 11 ∨ j = 12 ∨ j = 13 ∨ j = 15 ∨ j = 16 ∨ j = 17 ∨ j = 18 := by
  simpa [m_I] using h
theorem m_at {r : Nat → Nat} {F : Nat → va_E} (hr : m_inj r) {i : Nat} (hi : i ∈ m_I) : m_G r F (r i) = some (F i) := by
  unfold m_G
  cases h : m_I.find? (fun j => r j == r i) with
  | none => exact absurd (beq_self_eq_true (r i)) (by simpa using List.find?_eq_none.mp h i hi)
  | some j =>
    have h1 : r j = r i := by simpa using List.find?_some h
    have h2 := hr j (List.mem_of_find?_eq_some h) i hi h1
    rw [h2]; rfl
theorem m_set {r : Nat → Nat} {F F' : Nat → va_E} {e : va_E} (hr : m_inj r) {i : Nat} (hi : i ∈ m_I) (h : ∀ j, j ∈ m_I → F' j = if j = i then e else F j) : va_up (m_G r F) (r i) (some e) = m_G r F' := by
  funext q
  by_cases hq : q = r i
  · rw [hq, va_up_self, m_at hr hi, h i hi, if_pos rfl]
  · rw [va_up_ne _ _ hq]
    unfold m_G
    cases hf : m_I.find? (fun j => r j == q) with
    | none => rfl
    | some j =>
      have h1 : r j = q := by simpa using List.find?_some hf
      have h2 : j ≠ i := fun z => hq (by rw [← h1, z])
      show some (F j) = some (F' j)
      rw [h j (List.mem_of_find?_eq_some hf), if_neg h2]
theorem m_dom {r : Nat → Nat} {F : Nat → va_E} {q : Nat} {e : va_E} (h : m_G r F q = some e) : ∃ i, i ∈ m_I ∧ q = r i := by
  unfold m_G at h
  cases hf : m_I.find? (fun j => r j == q) with
  | none => rw [hf] at h; cases h
  | some j => exact ⟨j, List.mem_of_find?_eq_some hf, (show r j = q by simpa using List.find?_some hf).symm⟩
def m_F (r : Nat → Nat) (cN cZ cL : ClassId) (S : MS) (k : Nat) : va_E := match k with
  | 20 => .inr (5, [.ref (r 0), .ref (r 1), .ref (r 2), .ref (r 3), .ref (r 4), .ref (r 5), .ref (r 6), .int (S.2.2 7), .int (S.2.2 8), .int (S.2.2 9), .int (S.2.2 10), .ref (r 11), .ref (r 12), .ref (r 13), .int (S.2.2 14), .ref (r 15), .ref (r 16), .ref (r 17), .ref (r 18), .int (S.2.2 19)])
  | 0 => .inl (cN, 16, .inl (S.1 0))
  | 1 => .inl (cN, 16, .inl (S.1 1))
  | 2 => .inl (cN, 16, .inl (S.1 2))
  | 3 => .inl (cZ, 16, .inl (S.1 3))
  | 13 => .inl (cL, 514, .inr (.inl S.2.1))
  | 15 => .inl (cN, 32, .inl (S.1 15))
  | 18 => .inl (cZ, 514, .inl (S.1 18))
  | k => .inl (cN, 514, .inl (S.1 k))
def m_w (r : Nat → Nat) (cN cZ cL : ClassId) (S : MS) : y_G := m_G r (m_F r cN cZ cL S)
def m_a (S : MS) (k j : Nat) (v : Int32) : MS := (va_up S.1 k (upd (S.1 k) j v), S.2.1, S.2.2)
def m_l (S : MS) (j : Nat) (v : Int64) : MS := (S.1, vp_updL S.2.1 j v, S.2.2)
def m_s (S : MS) (k : Nat) (v : Int32) : MS := (S.1, S.2.1, va_up S.2.2 k v)
theorem m_wa0 {r : Nat → Nat} {cN cZ cL : ClassId} (hri : m_inj r) (S : MS) (j : Nat) (v : Int32) : va_up (m_w r cN cZ cL S) (r 0) (some (.inl (cN, 16, .inl (upd (S.1 0) j v)))) = m_w r cN cZ cL (m_a S 0 j v) := m_set hri (by decide) (fun i hi => by rcases m_all hi with rfl | rfl | rfl | rfl | rfl | rfl | rfl | rfl | rfl | rfl | rfl | rfl | rfl | rfl | rfl <;> rfl)
theorem m_wa1 {r : Nat → Nat} {cN cZ cL : ClassId} (hri : m_inj r) (S : MS) (j : Nat) (v : Int32) : va_up (m_w r cN cZ cL S) (r 1) (some (.inl (cN, 16, .inl (upd (S.1 1) j v)))) = m_w r cN cZ cL (m_a S 1 j v) := m_set hri (by decide) (fun i hi => by rcases m_all hi with rfl | rfl | rfl | rfl | rfl | rfl | rfl | rfl | rfl | rfl | rfl | rfl | rfl | rfl | rfl <;> rfl)
theorem m_wa2 {r : Nat → Nat} {cN cZ cL : ClassId} (hri : m_inj r) (S : MS) (j : Nat) (v : Int32) : va_up (m_w r cN cZ cL S) (r 2) (some (.inl (cN, 16, .inl (upd (S.1 2) j v)))) = m_w r cN cZ cL (m_a S 2 j v) := m_set hri (by decide) (fun i hi => by rcases m_all hi with rfl | rfl | rfl | rfl | rfl | rfl | rfl | rfl | rfl | rfl | rfl | rfl | rfl | rfl | rfl <;> rfl)
theorem m_wa3 {r : Nat → Nat} {cN cZ cL : ClassId} (hri : m_inj r) (S : MS) (j : Nat) (v : Int32) : va_up (m_w r cN cZ cL S) (r 3) (some (.inl (cZ, 16, .inl (upd (S.1 3) j v)))) = m_w r cN cZ cL (m_a S 3 j v) := m_set hri (by decide) (fun i hi => by rcases m_all hi with rfl | rfl | rfl | rfl | rfl | rfl | rfl | rfl | rfl | rfl | rfl | rfl | rfl | rfl | rfl <;> rfl)
theorem m_wa4 {r : Nat → Nat} {cN cZ cL : ClassId} (hri : m_inj r) (S : MS) (j : Nat) (v : Int32) : va_up (m_w r cN cZ cL S) (r 4) (some (.inl (cN, 514, .inl (upd (S.1 4) j v)))) = m_w r cN cZ cL (m_a S 4 j v) := m_set hri (by decide) (fun i hi => by rcases m_all hi with rfl | rfl | rfl | rfl | rfl | rfl | rfl | rfl | rfl | rfl | rfl | rfl | rfl | rfl | rfl <;> rfl)
theorem m_wa5 {r : Nat → Nat} {cN cZ cL : ClassId} (hri : m_inj r) (S : MS) (j : Nat) (v : Int32) : va_up (m_w r cN cZ cL S) (r 5) (some (.inl (cN, 514, .inl (upd (S.1 5) j v)))) = m_w r cN cZ cL (m_a S 5 j v) := m_set hri (by decide) (fun i hi => by rcases m_all hi with rfl | rfl | rfl | rfl | rfl | rfl | rfl | rfl | rfl | rfl | rfl | rfl | rfl | rfl | rfl <;> rfl)
theorem m_wa6 {r : Nat → Nat} {cN cZ cL : ClassId} (hri : m_inj r) (S : MS) (j : Nat) (v : Int32) : va_up (m_w r cN cZ cL S) (r 6) (some (.inl (cN, 514, .inl (upd (S.1 6) j v)))) = m_w r cN cZ cL (m_a S 6 j v) := m_set hri (by decide) (fun i hi => by rcases m_all hi with rfl | rfl | rfl | rfl | rfl | rfl | rfl | rfl | rfl | rfl | rfl | rfl | rfl | rfl | rfl <;> rfl)
theorem m_wa11 {r : Nat → Nat} {cN cZ cL : ClassId} (hri : m_inj r) (S : MS) (j : Nat) (v : Int32) : va_up (m_w r cN cZ cL S) (r 11) (some (.inl (cN, 514, .inl (upd (S.1 11) j v)))) = m_w r cN cZ cL (m_a S 11 j v) := m_set hri (by decide) (fun i hi => by rcases m_all hi with rfl | rfl | rfl | rfl | rfl | rfl | rfl | rfl | rfl | rfl | rfl | rfl | rfl | rfl | rfl <;> rfl)
theorem m_wa12 {r : Nat → Nat} {cN cZ cL : ClassId} (hri : m_inj r) (S : MS) (j : Nat) (v : Int32) : va_up (m_w r cN cZ cL S) (r 12) (some (.inl (cN, 514, .inl (upd (S.1 12) j v)))) = m_w r cN cZ cL (m_a S 12 j v) := m_set hri (by decide) (fun i hi => by rcases m_all hi with rfl | rfl | rfl | rfl | rfl | rfl | rfl | rfl | rfl | rfl | rfl | rfl | rfl | rfl | rfl <;> rfl)
theorem m_wa15 {r : Nat → Nat} {cN cZ cL : ClassId} (hri : m_inj r) (S : MS) (j : Nat) (v : Int32) : va_up (m_w r cN cZ cL S) (r 15) (some (.inl (cN, 32, .inl (upd (S.1 15) j v)))) = m_w r cN cZ cL (m_a S 15 j v) := m_set hri (by decide) (fun i hi => by rcases m_all hi with rfl | rfl | rfl | rfl | rfl | rfl | rfl | rfl | rfl | rfl | rfl | rfl | rfl | rfl | rfl <;> rfl)
theorem m_wa16 {r : Nat → Nat} {cN cZ cL : ClassId} (hri : m_inj r) (S : MS) (j : Nat) (v : Int32) : va_up (m_w r cN cZ cL S) (r 16) (some (.inl (cN, 514, .inl (upd (S.1 16) j v)))) = m_w r cN cZ cL (m_a S 16 j v) := m_set hri (by decide) (fun i hi => by rcases m_all hi with rfl | rfl | rfl | rfl | rfl | rfl | rfl | rfl | rfl | rfl | rfl | rfl | rfl | rfl | rfl <;> rfl)
theorem m_wa17 {r : Nat → Nat} {cN cZ cL : ClassId} (hri : m_inj r) (S : MS) (j : Nat) (v : Int32) : va_up (m_w r cN cZ cL S) (r 17) (some (.inl (cN, 514, .inl (upd (S.1 17) j v)))) = m_w r cN cZ cL (m_a S 17 j v) := m_set hri (by decide) (fun i hi => by rcases m_all hi with rfl | rfl | rfl | rfl | rfl | rfl | rfl | rfl | rfl | rfl | rfl | rfl | rfl | rfl | rfl <;> rfl)
theorem m_wa18 {r : Nat → Nat} {cN cZ cL : ClassId} (hri : m_inj r) (S : MS) (j : Nat) (v : Int32) : va_up (m_w r cN cZ cL S) (r 18) (some (.inl (cZ, 514, .inl (upd (S.1 18) j v)))) = m_w r cN cZ cL (m_a S 18 j v) := m_set hri (by decide) (fun i hi => by rcases m_all hi with rfl | rfl | rfl | rfl | rfl | rfl | rfl | rfl | rfl | rfl | rfl | rfl | rfl | rfl | rfl <;> rfl)
theorem m_wl {r : Nat → Nat} {cN cZ cL : ClassId} (hri : m_inj r) (S : MS) (j : Nat) (v : Int64) : va_up (m_w r cN cZ cL S) (r 13) (some (.inl (cL, 514, .inr (.inl (vp_updL S.2.1 j v))))) = m_w r cN cZ cL (m_l S j v) := m_set hri (by decide) (fun i hi => by rcases m_all hi with rfl | rfl | rfl | rfl | rfl | rfl | rfl | rfl | rfl | rfl | rfl | rfl | rfl | rfl | rfl <;> rfl)
theorem m_ws7 {r : Nat → Nat} {cN cZ cL : ClassId} (hri : m_inj r) (S : MS) (v : Int32) : va_up (m_w r cN cZ cL S) (r 20) (some (.inr (5, [.ref (r 0), .ref (r 1), .ref (r 2), .ref (r 3), .ref (r 4), .ref (r 5), .ref (r 6), .int v, .int (S.2.2 8), .int (S.2.2 9), .int (S.2.2 10), .ref (r 11), .ref (r 12), .ref (r 13), .int (S.2.2 14), .ref (r 15), .ref (r 16), .ref (r 17), .ref (r 18), .int (S.2.2 19)]))) = m_w r cN cZ cL (m_s S 7 v) := m_set hri (by decide) (fun i hi => by rcases m_all hi with rfl | rfl | rfl | rfl | rfl | rfl | rfl | rfl | rfl | rfl | rfl | rfl | rfl | rfl | rfl <;> rfl)
theorem m_ws8 {r : Nat → Nat} {cN cZ cL : ClassId} (hri : m_inj r) (S : MS) (v : Int32) : va_up (m_w r cN cZ cL S) (r 20) (some (.inr (5, [.ref (r 0), .ref (r 1), .ref (r 2), .ref (r 3), .ref (r 4), .ref (r 5), .ref (r 6), .int (S.2.2 7), .int v, .int (S.2.2 9), .int (S.2.2 10), .ref (r 11), .ref (r 12), .ref (r 13), .int (S.2.2 14), .ref (r 15), .ref (r 16), .ref (r 17), .ref (r 18), .int (S.2.2 19)]))) = m_w r cN cZ cL (m_s S 8 v) := m_set hri (by decide) (fun i hi => by rcases m_all hi with rfl | rfl | rfl | rfl | rfl | rfl | rfl | rfl | rfl | rfl | rfl | rfl | rfl | rfl | rfl <;> rfl)
theorem m_ws9 {r : Nat → Nat} {cN cZ cL : ClassId} (hri : m_inj r) (S : MS) (v : Int32) : va_up (m_w r cN cZ cL S) (r 20) (some (.inr (5, [.ref (r 0), .ref (r 1), .ref (r 2), .ref (r 3), .ref (r 4), .ref (r 5), .ref (r 6), .int (S.2.2 7), .int (S.2.2 8), .int v, .int (S.2.2 10), .ref (r 11), .ref (r 12), .ref (r 13), .int (S.2.2 14), .ref (r 15), .ref (r 16), .ref (r 17), .ref (r 18), .int (S.2.2 19)]))) = m_w r cN cZ cL (m_s S 9 v) := m_set hri (by decide) (fun i hi => by rcases m_all hi with rfl | rfl | rfl | rfl | rfl | rfl | rfl | rfl | rfl | rfl | rfl | rfl | rfl | rfl | rfl <;> rfl)
theorem m_ws10 {r : Nat → Nat} {cN cZ cL : ClassId} (hri : m_inj r) (S : MS) (v : Int32) : va_up (m_w r cN cZ cL S) (r 20) (some (.inr (5, [.ref (r 0), .ref (r 1), .ref (r 2), .ref (r 3), .ref (r 4), .ref (r 5), .ref (r 6), .int (S.2.2 7), .int (S.2.2 8), .int (S.2.2 9), .int v, .ref (r 11), .ref (r 12), .ref (r 13), .int (S.2.2 14), .ref (r 15), .ref (r 16), .ref (r 17), .ref (r 18), .int (S.2.2 19)]))) = m_w r cN cZ cL (m_s S 10 v) := m_set hri (by decide) (fun i hi => by rcases m_all hi with rfl | rfl | rfl | rfl | rfl | rfl | rfl | rfl | rfl | rfl | rfl | rfl | rfl | rfl | rfl <;> rfl)
theorem m_ws14 {r : Nat → Nat} {cN cZ cL : ClassId} (hri : m_inj r) (S : MS) (v : Int32) : va_up (m_w r cN cZ cL S) (r 20) (some (.inr (5, [.ref (r 0), .ref (r 1), .ref (r 2), .ref (r 3), .ref (r 4), .ref (r 5), .ref (r 6), .int (S.2.2 7), .int (S.2.2 8), .int (S.2.2 9), .int (S.2.2 10), .ref (r 11), .ref (r 12), .ref (r 13), .int v, .ref (r 15), .ref (r 16), .ref (r 17), .ref (r 18), .int (S.2.2 19)]))) = m_w r cN cZ cL (m_s S 14 v) := m_set hri (by decide) (fun i hi => by rcases m_all hi with rfl | rfl | rfl | rfl | rfl | rfl | rfl | rfl | rfl | rfl | rfl | rfl | rfl | rfl | rfl <;> rfl)
theorem m_ws19 {r : Nat → Nat} {cN cZ cL : ClassId} (hri : m_inj r) (S : MS) (v : Int32) : va_up (m_w r cN cZ cL S) (r 20) (some (.inr (5, [.ref (r 0), .ref (r 1), .ref (r 2), .ref (r 3), .ref (r 4), .ref (r 5), .ref (r 6), .int (S.2.2 7), .int (S.2.2 8), .int (S.2.2 9), .int (S.2.2 10), .ref (r 11), .ref (r 12), .ref (r 13), .int (S.2.2 14), .ref (r 15), .ref (r 16), .ref (r 17), .ref (r 18), .int v]))) = m_w r cN cZ cL (m_s S 19 v) := m_set hri (by decide) (fun i hi => by rcases m_all hi with rfl | rfl | rfl | rfl | rfl | rfl | rfl | rfl | rfl | rfl | rfl | rfl | rfl | rfl | rfl <;> rfl)
variable {p : Program} {l : Launch} {e : Env} {R : Room} {s : State} {m : MethodId} {args : Array Value} {below : List Frame} {meth : Method} {c : Code} {H : Heap} {locs : List Loc} {cells slots : Nat} {Q : State → Prop} {cc : ByteArray} {pc a : Nat} {ls : Array Slot} {rest : List Value} {D : va_G} {cl : List vw_C} {tys : List (ClassId × FieldType)} {g : y_G} {A : Nat → Prop} {H0 : Heap}
theorem y_iald (hexec : p.tables.exec = Jvm.exec) (hb : c.code = cc) (hK : va_K D cl tys s) (hP : y_P D cl g H) (t0 : Nat) {cA : ClassId} {n : Nat} {f : Nat → Int32} (ha : g a = some (.inl (cA, n, .inl f))) (ht : tys[t0]? = some (cA, .int)) {i : Int32} (hin : vp_in i n) (hdg : decode cc pc = .ok (.iaload, 1))
    (kk : W p l e R s m args below meth c H locs cells slots Q (F0 m (pc + 1) ls (.int (f i.toNatClampNeg) :: rest))) : W p l e R s m args below meth c H locs cells slots Q (F0 m pc ls (.int i :: .ref a :: rest)) :=
  va_iald hexec hb hK (y_one hP ha) 0 t0 rfl ht hin hdg kk
theorem y_zald (hexec : p.tables.exec = Jvm.exec) (hb : c.code = cc) (hK : va_K D cl tys s) (hP : y_P D cl g H) (t0 : Nat) {cA : ClassId} {n : Nat} {f : Nat → Int32} (ha : g a = some (.inl (cA, n, .inl f))) (ht : tys[t0]? = some (cA, .boolean)) {i : Int32} (hin : vp_in i n) (hdg : decode cc pc = .ok (.baload, 1))
    (kk : W p l e R s m args below meth c H locs cells slots Q (F0 m (pc + 1) ls (.int (f i.toNatClampNeg) :: rest))) : W p l e R s m args below meth c H locs cells slots Q (F0 m pc ls (.int i :: .ref a :: rest)) :=
  va_zald hexec hb hK (y_one hP ha) 0 t0 rfl ht hin hdg kk
theorem y_lald (hexec : p.tables.exec = Jvm.exec) (hb : c.code = cc) (hK : va_K D cl tys s) (hP : y_P D cl g H) (t0 : Nat) {cA : ClassId} {n : Nat} {f : Nat → Int64} (ha : g a = some (.inl (cA, n, .inr (.inl f)))) (ht : tys[t0]? = some (cA, .long)) {i : Int32} (hin : vp_in i n) (hdg : decode cc pc = .ok (.laload, 1))
    (kk : W p l e R s m args below meth c H locs cells slots Q (F0 m (pc + 1) ls (.long (f i.toNatClampNeg) :: rest))) : W p l e R s m args below meth c H locs cells slots Q (F0 m pc ls (.int i :: .ref a :: rest)) :=
  va_lald hexec hb hK (y_one hP ha) 0 t0 rfl ht hin hdg kk
theorem y_iast (hexec : p.tables.exec = Jvm.exec) (hb : c.code = cc) (hK : va_K D cl tys s) (hP : y_P D cl g H) (hA : ∀ q e, g q = some e → A q) (hS : va_S A H0 H locs) (t0 : Nat) {cA : ClassId} {n : Nat} {f : Nat → Int32} (ha : g a = some (.inl (cA, n, .inl f))) (ht : tys[t0]? = some (cA, .int)) {i x : Int32} (hin : vp_in i n) (hdg : decode cc pc = .ok (.iastore, 1))
    (kk : ∀ (H1 : Heap) (locs1 : List Loc), y_P D cl (va_up g a (some (.inl (cA, n, .inl (upd f i.toNatClampNeg x))))) H1 → (∀ q e, va_up g a (some (.inl (cA, n, .inl (upd f i.toNatClampNeg x)))) q = some e → A q) → va_S A H0 H1 locs1 → W p l e R s m args below meth c H1 locs1 cells slots Q (F0 m (pc + 1) ls rest)) :
    W p l e R s m args below meth c H locs cells slots Q (F0 m pc ls (.int x :: .int i :: .ref a :: rest)) := by
  have hlt : ∀ q e, g q = some e → q < H.size := fun q e h => y_lt hP h
  obtain ⟨j, hj⟩ := y_idx (hlt a _ ha) ha
  refine va_iast hexec hb hK (y_toL hP H.size) (y_D hA H.size) hS j t0 hj ht hin hdg (fun H1 locs1 h1 _ h3 => ?_)
  refine kk H1 locs1 (y_ofSet hlt hj h1) (fun q e h => ?_) h3
  by_cases hq : q = a
  · rw [hq]; exact hA a _ ha
  · rw [va_up_ne _ _ hq] at h; exact hA q e h
theorem y_zast (hexec : p.tables.exec = Jvm.exec) (hb : c.code = cc) (hK : va_K D cl tys s) (hP : y_P D cl g H) (hA : ∀ q e, g q = some e → A q) (hS : va_S A H0 H locs) (t0 : Nat) {cA : ClassId} {n : Nat} {f : Nat → Int32} (ha : g a = some (.inl (cA, n, .inl f))) (ht : tys[t0]? = some (cA, .boolean)) {i x : Int32} (hin : vp_in i n) (hx : vp_nar .boolean x = x) (hdg : decode cc pc = .ok (.bastore, 1))
    (kk : ∀ (H1 : Heap) (locs1 : List Loc), y_P D cl (va_up g a (some (.inl (cA, n, .inl (upd f i.toNatClampNeg x))))) H1 → (∀ q e, va_up g a (some (.inl (cA, n, .inl (upd f i.toNatClampNeg x)))) q = some e → A q) → va_S A H0 H1 locs1 → W p l e R s m args below meth c H1 locs1 cells slots Q (F0 m (pc + 1) ls rest)) :
    W p l e R s m args below meth c H locs cells slots Q (F0 m pc ls (.int x :: .int i :: .ref a :: rest)) := by
  have hlt : ∀ q e, g q = some e → q < H.size := fun q e h => y_lt hP h
  obtain ⟨j, hj⟩ := y_idx (hlt a _ ha) ha
  refine va_zast hexec hb hK (y_toL hP H.size) (y_D hA H.size) hS j t0 hj ht hin hdg (fun H1 locs1 h1 _ h3 => ?_)
  rw [hx] at h1
  refine kk H1 locs1 (y_ofSet hlt hj h1) (fun q e h => ?_) h3
  by_cases hq : q = a
  · rw [hq]; exact hA a _ ha
  · rw [va_up_ne _ _ hq] at h; exact hA q e h
theorem y_last (hexec : p.tables.exec = Jvm.exec) (hb : c.code = cc) (hK : va_K D cl tys s) (hP : y_P D cl g H) (hA : ∀ q e, g q = some e → A q) (hS : va_S A H0 H locs) (t0 : Nat) {cA : ClassId} {n : Nat} {f : Nat → Int64} (ha : g a = some (.inl (cA, n, .inr (.inl f)))) (ht : tys[t0]? = some (cA, .long)) {i : Int32} {x : Int64} (hin : vp_in i n) (hdg : decode cc pc = .ok (.lastore, 1))
    (kk : ∀ (H1 : Heap) (locs1 : List Loc), y_P D cl (va_up g a (some (.inl (cA, n, .inr (.inl (vp_updL f i.toNatClampNeg x)))))) H1 → (∀ q e, va_up g a (some (.inl (cA, n, .inr (.inl (vp_updL f i.toNatClampNeg x))))) q = some e → A q) → va_S A H0 H1 locs1 → W p l e R s m args below meth c H1 locs1 cells slots Q (F0 m (pc + 1) ls rest)) :
    W p l e R s m args below meth c H locs cells slots Q (F0 m pc ls (.long x :: .int i :: .ref a :: rest)) := by
  have hlt : ∀ q e, g q = some e → q < H.size := fun q e h => y_lt hP h
  obtain ⟨j, hj⟩ := y_idx (hlt a _ ha) ha
  refine va_last hexec hb hK (y_toL hP H.size) (y_D hA H.size) hS j t0 hj ht hin hdg (fun H1 locs1 h1 _ h3 => ?_)
  refine kk H1 locs1 (y_ofSet hlt hj h1) (fun q e h => ?_) h3
  by_cases hq : q = a
  · rw [hq]; exact hA a _ ha
  · rw [va_up_ne _ _ hq] at h; exact hA q e h
/-- a new array of numbers, of a class that is known -/
theorem y_newa (hexec : p.tables.exec = Jvm.exec) (hb : c.code = cc) {atype : ArrayType} (harr : (Cond.arrayClass (newarray.typeOf atype)).before args s = true) {ty : FieldType} (hty : newarray.typeOf atype = ty) (hK : va_K D cl tys s) (hP : y_P D cl g H) (hA : ∀ q e, g q = some e → A q) (hS : va_S A H0 H locs) (hA0 : ∀ q, H0.size ≤ q → A q) (t0 : Nat) {cA : ClassId} (ht : tys[t0]? = some (cA, ty)) (hRA : ∀ c', va_RA s c' ty → va_RA s cA ty → c' = cA)
    {n : Int32} {N' : Nat} {a0 : vp_A} (ha : ∀ cA : ClassId, vp_cell cA a0 = arrV cA N' (fun _ => defaultValue ty)) (hn : ¬ n < 0) (hN : n.toNatClampNeg = N') (hbytes : N' * componentBytes ty ≤ 536870912) (hcells : cells + 1 ≤ R.cells) (hslots : slots + N' ≤ R.slots) (hdg : decode cc pc = .ok (.newarray atype, 2))
    (kk : ∀ (q : Nat) (H1 : Heap), g q = none → y_P D cl (va_up g q (some (.inl (cA, a0)))) H1 → (∀ z e, va_up g q (some (.inl (cA, a0))) z = some e → A z) → va_S A H0 H1 locs →
      W p l e R s m args below meth c H1 locs (cells + 1) (slots + N') Q (F0 m (pc + 2) ls (.ref q :: rest))) : W p l e R s m args below meth c H locs cells slots Q (F0 m pc ls (.int n :: rest)) := by
  have hlt : ∀ q e, g q = some e → q < H.size := fun q e h => y_lt hP h
  refine va_newa hexec hb harr hty hK (y_toL hP H.size) (y_D hA H.size) hS hA0 ha hn hN hbytes hcells hslots hdg (fun q cA' H1 h0 h1 h2 h3 => ?_)
  have f1 := (h0.2 tys.length (cA', ty) (by rw [List.getElem?_append_right (Nat.le_refl _), Nat.sub_self]; rfl)).2
  have f2 := (hK.2 t0 _ ht).2
  have f3 := hRA cA' f1 f2
  rw [f3] at h1 h2
  have hlast : (y_L g H.size ++ [(q, (Sum.inl (cA, a0) : va_E))])[(y_L g H.size).length]? = some (q, .inl (cA, a0)) := by rw [List.getElem?_append_right (Nat.le_refl _), Nat.sub_self]; rfl
  have hq : g q = none := by
    cases hg : g q with
    | none => rfl
    | some e9 =>
      obtain ⟨j, hj⟩ := y_idx (hlt q e9 hg) hg
      have hjl := (List.getElem?_eq_some_iff.mp hj).1
      have := h2.1 j (y_L g H.size).length (q, e9) (q, .inl (cA, a0)) (by rw [List.getElem?_append_left hjl]; exact hj) hlast rfl
      omega
  refine kk q H1 hq (y_ofPush hlt h1) (fun z e h => ?_) h3
  by_cases hz : z = q
  · rw [hz]; exact h2.2 _ _ hlast
  · rw [va_up_ne _ _ hz] at h; exact hA z e h
end MRows
