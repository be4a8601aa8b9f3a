/-! the class's formulas are the memory's -/
section FForms
def bt (x : Int32) (i : Nat) : Bool := x.toBitVec.getLsbD i
theorem b_ext {x y : Int32} (h : ∀ i, i < 32 → bt x i = bt y i) : x = y := Int32.toBitVec_inj.mp (BitVec.eq_of_getLsbD_eq (fun i hi => h i hi))
theorem b_or (x y : Int32) (i : Nat) : bt (x ||| y) i = (bt x i || bt y i) := by unfold bt; rw [Int32.toBitVec_or, BitVec.getLsbD_or]
theorem b_and (x y : Int32) (i : Nat) : bt (x &&& y) i = (bt x i && bt y i) := by unfold bt; rw [Int32.toBitVec_and, BitVec.getLsbD_and]
theorem b_xor (x y : Int32) (i : Nat) : bt (x ^^^ y) i = (bt x i ^^ bt y i) := by unfold bt; rw [Int32.toBitVec_xor, BitVec.getLsbD_xor]
theorem b_big {x : Int32} {i : Nat} (h : 32 ≤ i) : bt x i = false := BitVec.getLsbD_of_ge _ _ h
theorem s_l : ∀ n, n < 32 → ((nI n &&& 31).toBitVec.smod 32).toNat = n := by decide +kernel
theorem s_u : ∀ n, n < 32 → (((nI n).toUInt32 &&& Int32.toUInt32 31).toBitVec % 32).toNat = n := by decide +kernel
theorem b_ushr (n : Nat) (hn : n < 32) (x : Int32) (i : Nat) : bt ((x.toUInt32 >>> ((nI n).toUInt32 &&& Int32.toUInt32 31)).toInt32) i = bt x (n + i) := by
  show (x.toUInt32 >>> ((nI n).toUInt32 &&& Int32.toUInt32 31)).toBitVec.getLsbD i = x.toUInt32.toBitVec.getLsbD (n + i)
  rw [UInt32.toBitVec_shiftRight]
  show (x.toUInt32.toBitVec >>> (((nI n).toUInt32 &&& Int32.toUInt32 31).toBitVec % 32).toNat).getLsbD i = _
  rw [s_u n hn, BitVec.getLsbD_ushiftRight]
theorem b_sshr (n : Nat) (hn : n < 32) (x : Int32) {i : Nat} (hi : i < 32) : bt (x >>> (nI n &&& 31)) i = if n + i < 32 then bt x (n + i) else bt x 31 := by
  unfold bt
  rw [Int32.toBitVec_shiftRight]
  show (x.toBitVec.sshiftRight ((nI n &&& 31).toBitVec.smod 32).toNat).getLsbD i = _
  rw [s_l n hn, BitVec.getLsbD_sshiftRight, BitVec.msb_eq_getLsbD_last]
  simp [hi]
theorem nx_and (a b : Nat) : nI a &&& nI b = nI (a &&& b) := by
  apply Int32.toBitVec_inj.1
  show BitVec.ofNat 32 a &&& BitVec.ofNat 32 b = BitVec.ofNat 32 (a &&& b)
  apply BitVec.eq_of_getLsbD_eq
  intro i hi
  simp [hi]
theorem nx_cnt : ∀ j : Fin 32, (UInt32.ofNat j.val &&& Int32.toUInt32 31).toNat % 32 = j.val := by decide +kernel
theorem nx_ush {k j : Nat} (hk : k < 65536) (hj : j < 32) : ((nI k).toUInt32 >>> ((nI j).toUInt32 &&& Int32.toUInt32 31)).toInt32 = nI (k >>> j) := by
  have hs : k >>> j ≤ k := by
    rw [Nat.shiftRight_eq_div_pow]
    exact Nat.div_le_self _ _
  have e2 : UInt32.ofNat k >>> (UInt32.ofNat j &&& Int32.toUInt32 31) = UInt32.ofNat (k >>> j) := by
    apply UInt32.toNat_inj.1
    have h1 : (UInt32.ofNat k).toNat = k := Nat.mod_eq_of_lt (by omega)
    have h2 : (UInt32.ofNat (k >>> j)).toNat = k >>> j := Nat.mod_eq_of_lt (by omega)
    rw [UInt32.toNat_shiftRight, nx_cnt ⟨j, hj⟩, h1, h2]
  show (UInt32.ofNat k >>> (UInt32.ofNat j &&& Int32.toUInt32 31)).toInt32 = _
  rw [e2]
  rfl
theorem wb_of32 (x : Int32) : ∃ n, n < 2 ^ 32 ∧ x = nI n := ⟨x.toBitVec.toNat, x.toBitVec.isLt, Int32.toBitVec_inj.mp (by show _ = BitVec.ofNat 32 _; simp)⟩
theorem f_and1 (x : Int32) : x &&& 1 = 0 ∨ x &&& 1 = 1 := by
  obtain ⟨n, hn, rfl⟩ := wb_of32 x
  rw [show (nI n &&& 1 : Int32) = nI n &&& nI 1 from rfl, nx_and, Nat.and_one_is_mod]
  rcases Nat.mod_two_eq_zero_or_one n with h | h
  · rw [h]; exact Or.inl rfl
  · rw [h]; exact Or.inr rfl
theorem f_and (x : Int32) : ¬ x &&& 1 = 0 ↔ x &&& 1 = 1 := by
  rcases f_and1 x with h | h
  · rw [h]; decide
  · rw [h]; decide
theorem f_hi {m i : Nat} (hm : m < 65536) (hi : 16 ≤ i) : bt (nI m) i = false := by
  show (BitVec.ofNat 32 m).getLsbD i = false
  rw [BitVec.getLsbD_ofNat, Nat.testBit_lt_two_pow (Nat.lt_of_lt_of_le (show m < 2 ^ 16 by omega) (Nat.pow_le_pow_right (by decide) hi)), Bool.and_false]
theorem f_shr {m j : Nat} (hm : m < 65536) (hj : j < 32) : nI m >>> (nI j &&& 31) = ((nI m).toUInt32 >>> ((nI j).toUInt32 &&& Int32.toUInt32 31)).toInt32 := by
  refine b_ext (fun i hi => ?_)
  rw [b_sshr j hj _ hi, b_ushr j hj]
  by_cases h : j + i < 32
  · rw [if_pos h]
  · rw [if_neg h, f_hi hm (by omega), f_hi hm (by omega)]
theorem a_kin.neg {q : Int32 × Int32 × Int32} (hk : a_kin q) (h : q.1 < 0) : ∃ w m : Nat, w ≤ 16 ∧ m < 2 ^ w ∧ q.2.1 = nI w ∧ q.2.2 = nI m := by
  rcases hk with hk | ⟨r, r1, r2, -⟩
  · exact hk.2
  · rw [r2] at h; exact absurd h (nI_pos (by omega))
theorem a_kin.row {q : Int32 × Int32 × Int32} (hk : a_kin q) (h : ¬ q.1 < 0) : ∃ r : Nat, r ≤ 4 ∧ q.1 = nI r := by
  rcases hk with hk | ⟨r, r1, r2, -⟩
  · rw [hk.1] at h; exact absurd (by decide) h
  · exact ⟨r, r1, r2⟩
theorem f_pw {w m : Nat} (hw : w ≤ 16) (hm : m < 2 ^ w) : m < 65536 := Nat.lt_of_lt_of_le hm (Nat.pow_le_pow_right (n := 2) (by decide) hw)
/-- is it a reference: the class's question is the memory's -/
theorem f_ref {g : y_G} {kx : Nat} {q : Int32 × Int32 × Int32} {k : Int32} (h : c_kq g kx q) (hk : a_kin q) (hin : q.1 < 0 → b_in k q.2.1) : c_rf g kx k ↔ a_refK q k := by
  unfold a_refK
  rcases h with ⟨h0, h1⟩ | ⟨h0, h1⟩
  · rw [if_pos h0]
    obtain ⟨w, m, w1, m1, e1, e2⟩ := hk.neg h0
    have hi := hin h0
    rw [e1] at hi
    obtain ⟨j1, j2⟩ := b_in.j hi (by omega)
    rw [e1, e2] at h1
    rw [e2, j2, f_shr (f_pw w1 m1) (by omega), ← f_and, ← j2]
    constructor
    · rintro (⟨w', mk', z1, z2⟩ | ⟨el, bi, z1, z2⟩)
      · rw [h1] at z1; cases z1; exact z2
      · rw [h1] at z1; cases z1
    · exact fun z => Or.inl ⟨_, _, h1, z⟩
  · rw [if_neg h0]
    constructor
    · rintro (⟨w', mk', z1, z2⟩ | ⟨el, bi, z1, z2⟩)
      · rw [h1] at z1; cases z1
      · rw [h1] at z1; cases z1; exact z2
    · exact fun z => Or.inr ⟨_, _, h1, z⟩
theorem f_div {a : Nat} (h : a < 2 ^ 62) : lN a / 32 = lN (a / 32) := by
  apply Int64.toInt_inj.mp
  have e1 : (lN a).toInt = (a : Int) := lg_ofNat_toInt (by omega)
  have e2 : (lN (a / 32)).toInt = ((a / 32 : Nat) : Int) := lg_ofNat_toInt (by omega)
  have e3 : (32 : Int64).toInt = 32 := by decide
  rw [Int64.toInt_div, e1, e2, e3, Int.tdiv_eq_ediv_of_nonneg (by omega), Int.bmod_eq_of_le (by omega) (by omega)]
  omega
/-- how many words a new object takes: the class's long is the memory's number -/
theorem f_wdP {q : Int32 × Int32 × Int32} {n : Int32} (hk : a_kin q) (h : q.1 < 0) : (3 + q.2.1).toInt64 = lN (a_more q n) ∧ a_more q n < 2 ^ 33 := by
  obtain ⟨w, m, w1, m1, e1, e2⟩ := hk.neg h
  unfold a_more a_tk
  rw [if_pos h, if_pos h, e1, show j_n (nI w) = w from nI_clamp (by omega), show (3 : Int32) = nI 3 from rfl, nI_add, nI_l (by omega)]
  exact ⟨rfl, by omega⟩
theorem f_wdR {q : Int32 × Int32 × Int32} {n : Int32} (hk : a_kin q) (h : ¬ q.1 < 0) (hn : ¬ n < 0) : 4 + (n.toInt64 * (c_bits q.1).toInt64 + 32 - 1) / 32 = lN (a_more q n) ∧ a_more q n < 2 ^ 33 := by
  obtain ⟨r, r1, e1⟩ := hk.row h
  obtain ⟨j, hj, rfl⟩ := nI_of hn
  unfold a_more a_tk
  rw [if_neg h, if_neg h, show j_n (nI j) = j from nI_clamp hj, e1, nI_l hj, show (32 : Int64) = lN 32 from rfl, show (1 : Int64) = lN 1 from rfl, show (4 : Int64) = lN 4 from rfl]
  rcases (show r = 0 ∨ r = 1 ∨ r = 2 ∨ r = 3 ∨ r = 4 by omega) with rfl | rfl | rfl | rfl | rfl
  · rw [show (c_bits (nI 0)).toInt64 = lN 32 by decide +kernel, lN_mul, lN_add, lN_sub (by omega), show lN 32 = (32 : Int64) from rfl, f_div (by omega), lN_add, if_neg (by decide +kernel), if_neg (by decide +kernel), if_neg (by decide +kernel)]
    exact ⟨congrArg lN (by omega), by omega⟩
  · rw [show (c_bits (nI 1)).toInt64 = lN 8 by decide +kernel, lN_mul, lN_add, lN_sub (by omega), show lN 32 = (32 : Int64) from rfl, f_div (by omega), lN_add, if_neg (by decide +kernel), if_neg (by decide +kernel), if_pos (by decide +kernel)]
    exact ⟨congrArg lN (by omega), by omega⟩
  · rw [show (c_bits (nI 2)).toInt64 = lN 16 by decide +kernel, lN_mul, lN_add, lN_sub (by omega), show lN 32 = (32 : Int64) from rfl, f_div (by omega), lN_add, if_neg (by decide +kernel), if_pos (by decide +kernel)]
    exact ⟨congrArg lN (by omega), by omega⟩
  · rw [show (c_bits (nI 3)).toInt64 = lN 32 by decide +kernel, lN_mul, lN_add, lN_sub (by omega), show lN 32 = (32 : Int64) from rfl, f_div (by omega), lN_add, if_neg (by decide +kernel), if_neg (by decide +kernel), if_neg (by decide +kernel)]
    exact ⟨congrArg lN (by omega), by omega⟩
  · rw [show (c_bits (nI 4)).toInt64 = lN 64 by decide +kernel, lN_mul, lN_add, lN_sub (by omega), show lN 32 = (32 : Int64) from rfl, f_div (by omega), lN_add, if_pos (by decide +kernel)]
    exact ⟨congrArg lN (by omega), by omega⟩
theorem f_sh (v : Int64) (n : Nat) (hn : n < 64) : ((v <<< lN n) >>> lN n).toBitVec = (v.toBitVec <<< n).sshiftRight n := by
  have e : (∀ n, n < 64 → ((lN n).toBitVec.smod 64).toNat = n) := by decide +kernel
  rw [Int64.toBitVec_shiftRight, Int64.toBitVec_shiftLeft]
  show ((v.toBitVec <<< ((lN n).toBitVec.smod 64).toNat).sshiftRight ((lN n).toBitVec.smod 64).toNat) = _
  rw [e n hn]
theorem f_8 (v : Int64) : (v <<< lN 56) >>> lN 56 = v.toInt32.toInt8.toInt32.toInt64 := by
  apply Int64.toBitVec_inj.mp
  rw [f_sh v 56 (by decide)]
  show _ = (((v.toBitVec.signExtend 32).signExtend 8).signExtend 32).signExtend 64
  apply BitVec.eq_of_getLsbD_eq
  intro i hi
  rw [BitVec.getLsbD_sshiftRight, BitVec.msb_eq_getLsbD_last]
  simp [BitVec.getElem_signExtend, BitVec.getLsbD_signExtend, BitVec.msb_signExtend, BitVec.msb_eq_getLsbD_last, hi]
  by_cases h : i < 8
  · simp [h, show i < 32 by omega, show 56 + i < 64 by omega, show i < 64 by omega, show ¬ 56 + i < 56 by omega, BitVec.getElem_signExtend, BitVec.getLsbD_signExtend, BitVec.msb_signExtend, BitVec.msb_eq_getLsbD_last, show ¬ 64 ≤ i by omega]
  · simp [h, show ¬ 56 + i < 64 by omega, BitVec.getElem_signExtend, BitVec.getLsbD_signExtend, BitVec.msb_signExtend, BitVec.msb_eq_getLsbD_last, show ¬ 64 ≤ i by omega]
    try (by_cases h2 : i < 32 <;> simp [h, h2, BitVec.getElem_signExtend, BitVec.getLsbD_signExtend, BitVec.msb_signExtend, BitVec.msb_eq_getLsbD_last, show ¬ 64 ≤ i by omega])
theorem f_32 (v : Int64) : (v <<< lN 32) >>> lN 32 = v.toInt32.toInt64 := by
  apply Int64.toBitVec_inj.mp
  rw [f_sh v 32 (by decide)]
  show _ = (v.toBitVec.signExtend 32).signExtend 64
  apply BitVec.eq_of_getLsbD_eq
  intro i hi
  rw [BitVec.getLsbD_sshiftRight, BitVec.msb_eq_getLsbD_last]
  simp [BitVec.getElem_signExtend, BitVec.getLsbD_signExtend, BitVec.msb_signExtend, BitVec.msb_eq_getLsbD_last, hi]
  by_cases h : i < 32
  · simp [h, show 32 + i < 64 by omega, show i < 64 by omega, show ¬ 32 + i < 32 by omega, BitVec.getElem_signExtend, BitVec.getLsbD_signExtend, BitVec.msb_signExtend, BitVec.msb_eq_getLsbD_last, show ¬ 64 ≤ i by omega]
  · simp [h, show ¬ 32 + i < 64 by omega, BitVec.getElem_signExtend, BitVec.getLsbD_signExtend, BitVec.msb_signExtend, BitVec.msb_eq_getLsbD_last, show ¬ 64 ≤ i by omega]
theorem b_65535 (i : Nat) : bt 65535 i = decide (i < 16) := by
  rcases Nat.lt_or_ge i 32 with h | h
  · exact (by decide +kernel : ∀ i, i < 32 → bt 65535 i = decide (i < 16)) i h
  · rw [b_big h, decide_eq_false (by omega)]
theorem f_0 (v : Int64) : (v <<< lN 0) >>> lN 0 = v := by
  apply Int64.toBitVec_inj.mp
  rw [f_sh v 0 (by decide)]
  simp
theorem f_16 (v : Int64) : ((v <<< lN 48).toUInt64 >>> UInt64.ofNat 48).toInt64 = (v.toInt32.toUInt32 % 65536).toInt32.toInt64 := by
  rw [lg_i2c_nf, lg_i2c_mask]
  apply Int64.toBitVec_inj.mp
  show ((v <<< lN 48).toBitVec >>> 48) = (v.toInt32 &&& 65535).toBitVec.signExtend 64
  have e : (v <<< lN 48).toBitVec = v.toBitVec <<< 48 := by
    rw [Int64.toBitVec_shiftLeft]
    show v.toBitVec <<< ((lN 48).toBitVec.smod 64).toNat = _
    rw [show ((lN 48).toBitVec.smod 64).toNat = 48 by decide +kernel]
  rw [e]
  have hb : ∀ i, i < 32 → (v.toInt32 &&& 65535).toBitVec.getLsbD i = (v.toBitVec.getLsbD i && decide (i < 16)) := fun i hi => by
    have := b_and v.toInt32 65535 i
    rw [b_65535] at this
    have h2 : bt v.toInt32 i = v.toBitVec.getLsbD i := by
      show (v.toBitVec.signExtend 32).getLsbD i = _
      rw [BitVec.getLsbD_signExtend]
      simp [hi, show i < 64 by omega]
    rw [h2] at this
    exact this
  apply BitVec.eq_of_getLsbD_eq
  intro i hi
  rw [BitVec.getLsbD_ushiftRight, BitVec.getLsbD_shiftLeft, BitVec.getLsbD_signExtend, BitVec.msb_eq_getLsbD_last, hb (32 - 1) (by decide)]
  by_cases h : i < 32
  · rw [if_pos h, hb i h]
    by_cases h2 : i < 16
    · simp [h2, hi, show 48 + i < 64 by omega, show ¬ 48 + i < 48 by omega]
    · simp [h2, show ¬ 48 + i < 64 by omega]
  · rw [if_neg h]
    simp [show ¬ 48 + i < 64 by omega]
/-- what is left of a value -/
theorem f_cutP {a : Ab} {o : Nat} (v : Int64) (h : a_row a o < 0) : v.toInt32.toInt64 = a_cut a o v := by
  unfold a_cut
  rw [if_neg (fun z => by rw [z] at h; exact absurd h (by decide)), if_neg (fun z => by rw [z] at h; exact absurd h (by decide)), if_neg (fun z => by rw [z] at h; exact absurd h (by decide))]
theorem f_cutR {a : Ab} {o r : Nat} {x : Int32} (v y : Int64) (hx : x = a_row a o) (h : a_row a o = nI r) (hr : r ≤ 4) (hy : (y = ((v <<< ((64 - c_bits x).toInt64 &&& 63)).toUInt64 >>> ((64 - c_bits x).toInt64.toUInt64 &&& Int64.toUInt64 63)).toInt64 ∧ x = 2) ∨ (y = (v <<< ((64 - c_bits x).toInt64 &&& 63)) >>> ((64 - c_bits x).toInt64 &&& 63) ∧ ¬ x = 2)) : y = a_cut a o v := by
  unfold a_cut
  rw [h] at hx ⊢
  subst hx
  rcases (show r = 0 ∨ r = 1 ∨ r = 2 ∨ r = 3 ∨ r = 4 by omega) with rfl | rfl | rfl | rfl | rfl
  · rcases hy with ⟨-, z⟩ | ⟨e, -⟩
    · exact absurd z (by decide +kernel)
    · rw [e, show ((64 - c_bits (nI 0)).toInt64 &&& 63) = lN 32 by decide +kernel, if_neg (by decide +kernel), if_neg (by decide +kernel), if_neg (by decide +kernel)]; exact f_32 v
  · rcases hy with ⟨-, z⟩ | ⟨e, -⟩
    · exact absurd z (by decide +kernel)
    · rw [e, show ((64 - c_bits (nI 1)).toInt64 &&& 63) = lN 56 by decide +kernel, if_pos (by decide +kernel)]; exact f_8 v
  · rcases hy with ⟨e, -⟩ | ⟨-, z⟩
    · rw [e, show ((64 - c_bits (nI 2)).toInt64 &&& 63) = lN 48 by decide +kernel, show ((64 - c_bits (nI 2)).toInt64.toUInt64 &&& Int64.toUInt64 63) = UInt64.ofNat 48 by decide +kernel, if_neg (by decide +kernel), if_pos (by decide +kernel)]; exact f_16 v
    · exact absurd (by decide +kernel) z
  · rcases hy with ⟨-, z⟩ | ⟨e, -⟩
    · exact absurd z (by decide +kernel)
    · rw [e, show ((64 - c_bits (nI 3)).toInt64 &&& 63) = lN 32 by decide +kernel, if_neg (by decide +kernel), if_neg (by decide +kernel), if_neg (by decide +kernel)]; exact f_32 v
  · rcases hy with ⟨-, z⟩ | ⟨e, -⟩
    · exact absurd z (by decide +kernel)
    · rw [e, show ((64 - c_bits (nI 4)).toInt64 &&& 63) = lN 0 by decide +kernel, if_neg (by decide +kernel), if_neg (by decide +kernel), if_pos (by decide +kernel)]; exact f_0 v
end FForms
