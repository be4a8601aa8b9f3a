/-! the law's own walk: what holds at the head of its loop -/
section LInv
/-- what stands over the whole walk -/
def la_C (p : Program) (s : State) (m : MethodId) (c : Code) (b L : Nat) (xs : Nat → Int32) (D : va_G) (cK cI cN cZ cL : ClassId) (A : Nat → Prop) : Prop :=
  p.tables.exec = Jvm.exec ∧ c.code = b_La_law ∧ c.maxLocals = 8 ∧ s.vm.findClass R_La = some m.cls ∧ w_E D (x_tys cK cI cN cZ cL) A s s.heap ∧ (∀ q, s.heap.size ≤ q → A q) ∧ va_X b L xs s s.heap ∧ b < s.heap.size ∧ ¬ A b
/-- behind k calls: class and reference hold the same memory -/
def la_I (cK cI cN cZ cL : ClassId) (D : va_G) (A : Nat → Prop) (s : State) (d ou : Nat) (r : Nat → Nat) (k : Nat) (H : Heap) (locs : List Loc) : Prop := ∃ (a : Ab) (g G0 G : y_G) (S : MS) (f : Nat → Int64),
  a_W a k ∧ c_R cK cI a g d k ∧ m_R a S k ∧ y_J g (o_1 cL ou f) G0 ∧ y_J G0 (m_w r cN cZ cL S) G ∧ y_P D vwCl G H ∧ (∀ q e, G q = some e → A q) ∧ va_S A s.heap H locs
/-- a call's four numbers -/
def la_x (xs : Nat → Int32) (L : Nat) (i x1 x2 x3 x4 : Int32) : Prop := (vp_in (i + 1) L ∧ xs (i + 1).toNatClampNeg = x1) ∧ (vp_in (i + 2) L ∧ xs (i + 2).toNatClampNeg = x2) ∧ (vp_in (i + 3) L ∧ xs (i + 3).toNatClampNeg = x3) ∧ vp_in (i + 4) L ∧ xs (i + 4).toNatClampNeg = x4
theorem la_sld {p : Program} {l : Launch} {e : Env} {R : Room} {s : State} {m : MethodId} {args : Array Value} {below : List Frame} {meth : Method} {c : Code} {H : Heap} {locs : List Loc} {cells slots : Nat} {Q : State → Prop} {cc : ByteArray} {pc : Nat} {ls : Array Slot} {rest : List Value} {A : Nat → Prop} {H0 : Heap} (hexec : p.tables.exec = Jvm.exec) (hb : c.code = cc) {b L : Nat} {xs : Nat → Int32} (hX : va_X b L xs s H0) (hbl : b < H0.size) (hbA : ¬ A b) (hS : va_S A H0 H locs) {i x : Int32} (hin : vp_in i L) (hv : xs i.toNatClampNeg = x) (hdg : decode cc pc = .ok (.iaload, 1))
    (kk : W p l e R s m args below meth c H locs cells slots Q (F0 m (pc + 1) ls (.int x :: rest))) : W p l e R s m args below meth c H locs cells slots Q (F0 m pc ls (.int i :: .ref b :: rest)) :=
  va_sld hexec hb hX hbl hbA hS hin hdg (by rw [hv]; exact kk)
theorem la_and (x : Int32) : ∃ j : Nat, j < 16 ∧ x &&& 15 = nI j := by
  have h1 : (x.toBitVec &&& 15#32).toNat < 16 := by
    rw [BitVec.toNat_and]
    exact Nat.lt_of_le_of_lt Nat.and_le_right (by decide)
  refine ⟨(x.toBitVec &&& 15#32).toNat, h1, ?_⟩
  apply Int32.toBitVec_inj.mp
  show x.toBitVec &&& 15#32 = BitVec.ofNat 32 _
  exact BitVec.eq_of_toNat_eq (by rw [BitVec.toNat_ofNat]; exact (Nat.mod_eq_of_lt (BitVec.isLt _)).symm)
theorem la_end {k L : Nat} (hk : k ≤ 512) (hL : L ≤ 2560) : (Int32.ofNat L - 5 < nI (5 * k)) ↔ L < 5 * k + 5 := by
  have h1 : (nI (5 * k)).toInt = ((5 * k : Nat) : Int) := nI_toInt (by omega)
  have h2 : (Int32.ofNat L).toInt = (L : Int) := nI_toInt (n := L) (by omega)
  have h3 : (Int32.ofNat L - 5).toInt = (L : Int) - 5 := by
    rw [Int32.toInt_sub, h2, show (5 : Int32).toInt = 5 from rfl]
    exact Int.bmod_eq_of_le (by omega) (by omega)
  rw [Int32.lt_iff_toInt_lt, h3, h1]
  omega
theorem la_in {k j L : Nat} (hk : k ≤ 512) (hj : 5 * k + j < L) (hL : L ≤ 2560) : vp_in (nI (5 * k) + nI j) L := by
  rw [nI_add]
  exact vp_in_nI hj (by omega)
theorem la_inc (k : Nat) : nI (5 * k) + Int32.ofInt 5 = nI (5 * (k + 1)) := by
  rw [show Int32.ofInt 5 = nI 5 from by decide]
  exact (nI_add (5 * k) 5).trans (congrArg nI (by omega))
end LInv
