/-! every call leaves a memory that is as it must be -/
section WKeeps
variable {a : Ab} {c : Nat}
theorem a_W.up {c' : Nat} (h : a_W a c) (hc : c ≤ c') : a_W a c' := by
  obtain ⟨h1, h2, h3, h4, h5, h6, h7, h8, h9, h10, h11, h12⟩ := h
  exact ⟨h1, h2, h3, h4, h5, h6, h7, h8, h9, by omega, by omega, by omega⟩
theorem a_W.puts (h : a_W a c) {s o : Nat} (ho : o ≤ a.n) : a_W (a_puts a s o) c := by
  obtain ⟨h1, h2, h3, h4, h5, h6, h7, h8, h9, h10, h11, h12⟩ := h
  refine ⟨h1, h2, fun s' hs' => ?_, h4, h5, h6, h7, h8, h9, h10, h11, h12⟩
  show va_up a.sl s o s' ≤ a.n
  by_cases e : s' = s
  · rw [e, va_up_self]; exact ho
  · rw [va_up_ne _ _ e]; exact h3 s' hs'
theorem a_W.kind (h : a_W a c) {k : Nat} {q : Int32 × Int32 × Int32} (hk : a.kd k = none) (hq : a_kin q) : a_W (a_kind a k q) c := by
  have hold : ∀ o, 1 ≤ o → o ≤ a.n → (a_kind a k q).kd ((a_kind a k q).ok o) = a.kd (a.ok o) := fun o a1 a2 => a_kind.old h hk a1 a2
  obtain ⟨h1, h2, h3, h4, h5, h6, h7, h8, h9, h10, h11, h12⟩ := h
  refine ⟨fun k' q' hk' z => ?_, fun o a1 a2 => ?_, h3, h4, fun o k' a1 a2 z => h5 o k' a1 a2 ((a_ref.eq (hold o a1 a2)).mp z), h6, h7, h8, h9, h10, h11, h12⟩
  · have z : va_up a.kd k (some q) k' = some q' := z
    by_cases e : k' = k
    · rw [e, va_up_self] at z; cases z; exact hq
    · rw [va_up_ne _ _ e] at z; exact h1 k' q' hk' z
  · obtain ⟨z1, q', z2, z3⟩ := h2 o a1 a2
    exact ⟨z1, q', (hold o a1 a2).trans z2, z3⟩
theorem a_W.new (h : a_W a c) {s k : Nat} {n : Int32} {q : Int32 × Int32 × Int32} (hk : k < 16) (hq : a.kd k = some q) (hn : ¬ q.1 < 0 → ¬ n < 0) : a_W (a_new a s k n) (c + 1) := by
  obtain ⟨h1, h2, h3, h4, h5, h6, h7, h8, h9, h10, h11, h12⟩ := h
  refine ⟨h1, fun o a1 a2 => ?_, fun s' hs' => ?_, fun o z => ⟨(h4 o z).1, Nat.le_succ_of_le (h4 o z).2⟩, fun o k' a1 a2 z => ?_, fun o z => h6 o (by have : a.n + 1 < o := z; omega), h7, h8, h9, by show a.n + 1 ≤ c + 1; omega, by show a.nn ≤ c + 1; omega, by show a.kc ≤ c + 1; omega⟩
  · have a2 : o ≤ a.n + 1 := a2
    by_cases e : o = a.n + 1
    · refine ⟨by show va_up a.ok (a.n + 1) k o < 16; rw [e, va_up_self]; exact hk, q, by show a.kd (va_up a.ok (a.n + 1) k o) = _; rw [e, va_up_self]; exact hq, fun z => ?_⟩
      show ¬ va_up a.sz (a.n + 1) n o < 0
      rw [e, va_up_self]; exact hn z
    · obtain ⟨z1, q', z2, z3⟩ := h2 o a1 (by omega)
      refine ⟨by show va_up a.ok (a.n + 1) k o < 16; rw [va_up_ne _ _ e]; exact z1, q', by show a.kd (va_up a.ok (a.n + 1) k o) = _; rw [va_up_ne _ _ e]; exact z2, fun z => ?_⟩
      show ¬ va_up a.sz (a.n + 1) n o < 0
      rw [va_up_ne _ _ e]; exact z3 z
  · show va_up a.sl s (a.n + 1) s' ≤ a.n + 1
    by_cases e : s' = s
    · rw [e, va_up_self]; exact Nat.le_refl _
    · rw [va_up_ne _ _ e]; exact Nat.le_succ_of_le (h3 s' hs')
  · have a2 : o ≤ a.n + 1 := a2
    by_cases e : o = a.n + 1
    · exact ⟨0, Nat.zero_le _, (h6 o (by omega)).2 k'⟩
    · obtain ⟨b, b1, b2⟩ := h5 o k' a1 (by omega) ((a_ref.eq (a_new.old (by omega)).1).mp z)
      exact ⟨b, Nat.le_succ_of_le b1, b2⟩
theorem a_W.putc (h : a_W a c) {o : Nat} {k : Int32} {v : Int64} (o1 : 1 ≤ o) (o2 : o ≤ a.n) (hv : a_ref a o k → ∃ b, b ≤ a.n ∧ v = lN b) : a_W (a_putc a o k v) c := by
  obtain ⟨h1, h2, h3, h4, h5, h6, h7, h8, h9, h10, h11, h12⟩ := h
  refine ⟨h1, h2, h3, h4, fun o' k' a1 a2 z => ?_, fun o' z => ⟨(h6 o' z).1, fun k' => ?_⟩, h7, h8, h9, h10, h11, h12⟩
  · by_cases e : o' = o ∧ k' = k
    · rw [e.1, e.2, a_putc.self]; rw [e.1, e.2] at z; exact hv z
    · rw [a_putc.ct e]; exact h5 o' k' a1 a2 z
  · have z : a.n < o' := z
    rw [a_putc.ct (fun e => by omega)]; exact (h6 o' z).2 k'
theorem a_W.keep (h : a_W a c) {o : Nat} (o1 : 1 ≤ o) (o2 : o ≤ a.n) : a_W (a_keep a o) (c + 1) := by
  obtain ⟨h1, h2, h3, h4, h5, h6, h7, h8, h9, h10, h11, h12⟩ := h
  refine ⟨h1, h2, h3, fun o' z => ?_, h5, h6, h7, h8, h9, by show a.n ≤ c + 1; omega, by show a.nn ≤ c + 1; omega, by show a.kc + 1 ≤ c + 1; omega⟩
  rcases z with z | z
  · exact h4 o' z
  · rw [z]; exact ⟨o1, o2⟩
theorem a_W.numb (h : a_W a c) {o : Nat} (o1 : 1 ≤ o) (o2 : o ≤ a.n) : a_W (a_numb a o) (c + 1) := by
  obtain ⟨h1, h2, h3, h4, h5, h6, h7, h8, h9, h10, h11, h12⟩ := h
  refine ⟨h1, h2, h3, h4, h5, fun o' z => ⟨?_, (h6 o' z).2⟩, fun o' => ?_, h8, h9, by show a.n ≤ c + 1; omega, by show a.nn + 1 ≤ c + 1; omega, by show a.kc ≤ c + 1; omega⟩
  · have z : a.n < o' := z
    show va_up a.nu o (a.nn + 1) o' = 0
    rw [va_up_ne _ _ (by omega)]; exact (h6 o' z).1
  · show va_up a.nu o (a.nn + 1) o' ≤ a.nn + 1
    by_cases e : o' = o
    · rw [e, va_up_self]; exact Nat.le_refl _
    · rw [va_up_ne _ _ e]; exact Nat.le_succ_of_le (h7 o')
theorem a_W.memo (h : a_W a c) {m : Nat} (m1 : 16 ≤ m) (m2 : m ≤ 65536) : a_W (a_memo a m) c := by
  obtain ⟨h1, h2, h3, h4, h5, h6, h7, h8, h9, h10, h11, h12⟩ := h
  exact ⟨h1, h2, h3, h4, h5, h6, h7, m1, m2, h10, h11, h12⟩
theorem k_mask {w mk : Int32} (hw : b_in w 17) (hm : (mk.toUInt32 >>> (w.toUInt32 &&& Int32.toUInt32 31)).toInt32 = 0) : a_kin (-1, w, mk) := by
  obtain ⟨j1, j2⟩ := b_in.j (n := 17) hw (by decide)
  obtain ⟨m, m1, rfl⟩ := wb_of32 mk
  refine Or.inl ⟨rfl, j_n w, m, by omega, ?_, j2, rfl⟩
  rw [j2] at hm
  have hm : ((UInt32.ofNat m) >>> (UInt32.ofNat (j_n w) &&& Int32.toUInt32 31)).toInt32 = 0 := hm
  have e1 : (UInt32.ofNat m >>> (UInt32.ofNat (j_n w) &&& Int32.toUInt32 31)) = 0 := by
    have := congrArg Int32.toUInt32 hm
    exact this
  have e2 := congrArg UInt32.toNat e1
  rw [UInt32.toNat_shiftRight, nx_cnt ⟨j_n w, by omega⟩, show (UInt32.ofNat m).toNat = m from Nat.mod_eq_of_lt m1, Nat.shiftRight_eq_div_pow] at e2
  have e2 : m / 2 ^ (j_n w) = 0 := e2
  exact (Nat.div_eq_zero_iff_lt (Nat.pow_pos (by decide))).mp e2
theorem k_plain (hw : a_W a c) (k w mk : Int32) : a_W (s_plain a k w mk).2.2 (c + 1) := by
  unfold s_plain
  by_cases h : b_in k 16 ∧ b_in w 17 ∧ (mk.toUInt32 >>> (w.toUInt32 &&& Int32.toUInt32 31)).toInt32 = 0 ∧ a.kd (j_n k) = none
  · rw [q_y h]; exact (hw.kind h.2.2.2 (k_mask h.2.1 h.2.2.1)).up (Nat.le_succ _)
  · rw [q_n h]; exact hw.up (Nat.le_succ _)
theorem k_row (hw : a_W a c) (k el : Int32) : a_W (s_row a k el).2.2 (c + 1) := by
  unfold s_row
  by_cases h : b_in k 16 ∧ b_in el 5 ∧ a.kd (j_n k) = none
  · rw [q_y h]
    obtain ⟨j1, j2⟩ := b_in.j (n := 5) h.2.1 (by decide)
    exact (hw.kind h.2.2 (Or.inr ⟨j_n el, by omega, j2, rfl, rfl⟩)).up (Nat.le_succ _)
  · rw [q_n h]; exact hw.up (Nat.le_succ _)
theorem k_make (hw : a_W a c) (s k n : Int32) : a_W (s_make a s k n).2.2 (c + 1) := by
  unfold s_make
  by_cases h : b_in s 32 ∧ b_in k 16 ∧ ∀ q, a.kd (j_n k) = some q → ¬ q.1 < 0 → ¬ n < 0
  · rw [q_y h]
    cases hk : a.kd (j_n k) with
    | none => exact hw.up (Nat.le_succ _)
    | some q =>
      show a_W (s_make2 a s k n q).2.2 (c + 1)
      unfold s_make2
      by_cases hf : a_use a + a_more q n ≤ a.mem
      · rw [q_y hf]; exact hw.new h.2.1.j16 hk (h.2.2 q hk)
      · rw [q_n hf]; exact hw.up (Nat.le_succ _)
  · rw [q_n h]; exact hw.up (Nat.le_succ _)
theorem k_copy (hw : a_W a c) (s t : Int32) : a_W (s_copy a s t).2.2 (c + 1) := by
  unfold s_copy
  by_cases h : b_in s 32 ∧ b_in t 32
  · rw [q_y h]; exact (hw.puts (hw.2.2.1 _ h.2.j32)).up (Nat.le_succ _)
  · rw [q_n h]; exact hw.up (Nat.le_succ _)
theorem k_drop (hw : a_W a c) (s : Int32) : a_W (s_drop a s).2.2 (c + 1) := by
  unfold s_drop
  by_cases h : b_in s 32
  · rw [q_y h]; exact (hw.puts (Nat.zero_le _)).up (Nat.le_succ _)
  · rw [q_n h]; exact hw.up (Nat.le_succ _)
theorem k_same (hw : a_W a c) (s t : Int32) : a_W (s_same a s t).2.2 (c + 1) := by
  unfold s_same
  by_cases h : b_in s 32 ∧ b_in t 32
  · rw [q_y h]; exact hw.up (Nat.le_succ _)
  · rw [q_n h]; exact hw.up (Nat.le_succ _)
theorem k_pl (hw : a_W a c) (s k : Int32) (rf : Prop) (f : Nat → An) (hf : b_in s 32 → a.sl (j_n s) ≠ 0 → (a_ref a (a.sl (j_n s)) k ↔ rf) → a_W (f (a.sl (j_n s))).2.2 (c + 1)) : a_W (s_pl a s k rf f).2.2 (c + 1) := by
  unfold s_pl
  by_cases h1 : b_in s 32
  · rw [q_y h1]
    by_cases h2 : a.sl (j_n s) = 0
    · rw [q_y h2]; exact hw.up (Nat.le_succ _)
    · rw [q_n h2]
      by_cases h3 : b_in k (a_len a (a.sl (j_n s)))
      · rw [q_y h3]
        by_cases h4 : a_ref a (a.sl (j_n s)) k ↔ rf
        · rw [q_y h4]; exact hf h1 h2 h4
        · rw [q_n h4]; exact hw.up (Nat.le_succ _)
      · rw [q_n h3]; exact hw.up (Nat.le_succ _)
  · rw [q_n h1]; exact hw.up (Nat.le_succ _)
theorem k_get (hw : a_W a c) (s k : Int32) : a_W (s_get a s k).2.2 (c + 1) := k_pl hw s k _ _ (fun _ _ _ => hw.up (Nat.le_succ _))
theorem k_put (hw : a_W a c) (s k : Int32) (v : Int64) : a_W (s_put a s k v).2.2 (c + 1) := k_pl hw s k _ _ (fun h1 h2 h4 => (hw.putc (by omega) (hw.2.2.1 _ h1.j32) (fun z => (h4.mp z).elim)).up (Nat.le_succ _))
theorem k_link (hw : a_W a c) (s k t : Int32) : a_W (s_link a s k t).2.2 (c + 1) := by
  unfold s_link
  by_cases h : b_in t 32
  · rw [q_y h]
    exact k_pl hw s k _ _ (fun h1 h2 h4 => (hw.putc (by omega) (hw.2.2.1 _ h1.j32) (fun _ => ⟨_, hw.2.2.1 _ h.j32, rfl⟩)).up (Nat.le_succ _))
  · rw [q_n h]; exact hw.up (Nat.le_succ _)
theorem k_follow (hw : a_W a c) (hc : c < 2 ^ 30) (s k t : Int32) : a_W (s_follow a s k t).2.2 (c + 1) := by
  unfold s_follow
  by_cases h : b_in t 32
  · rw [q_y h]
    refine k_pl hw s k _ _ (fun h1 h2 h4 => ?_)
    obtain ⟨b, b1, b2⟩ := hw.2.2.2.2.1 _ k (by omega) (hw.2.2.1 _ h1.j32) (h4.mpr trivial)
    have hn : a.n ≤ c := hw.2.2.2.2.2.2.2.2.2.1
    refine (hw.puts ?_).up (Nat.le_succ _)
    rw [b2, w_lN (by omega)]
    exact b1
  · rw [q_n h]; exact hw.up (Nat.le_succ _)
theorem k_in (hw : a_W a c) (s : Int32) (f : Nat → An) (hf : b_in s 32 → a.sl (j_n s) ≠ 0 → a_W (f (a.sl (j_n s))).2.2 (c + 1)) : a_W (s_in a s f).2.2 (c + 1) := by
  unfold s_in
  by_cases h1 : b_in s 32
  · rw [q_y h1]
    by_cases h2 : a.sl (j_n s) = 0
    · rw [q_y h2]; exact hw.up (Nat.le_succ _)
    · rw [q_n h2]; exact hf h1 h2
  · rw [q_n h1]; exact hw.up (Nat.le_succ _)
theorem k_keep (hw : a_W a c) (s : Int32) : a_W (s_keep a s).2.2 (c + 1) := k_in hw s _ (fun h1 h2 => hw.keep (by omega) (hw.2.2.1 _ h1.j32))
theorem k_number (hw : a_W a c) (s : Int32) : a_W (s_number a s).2.2 (c + 1) := k_in hw s _ (fun h1 h2 => by
  by_cases h0 : a.nu (a.sl (j_n s)) = 0
  · rw [if_pos h0]; exact hw.numb (by omega) (hw.2.2.1 _ h1.j32)
  · rw [if_neg h0]; exact hw.up (Nat.le_succ _))
theorem k_size (hw : a_W a c) (s : Int32) : a_W (s_size a s).2.2 (c + 1) := k_in hw s _ (fun _ _ => hw.up (Nat.le_succ _))
theorem k_memory (hw : a_W a c) (w : Int32) : a_W (s_memory a w).2.2 (c + 1) := by
  unfold s_memory
  by_cases h : ¬ w < 16 ∧ w ≤ 65536
  · rw [q_y h]
    by_cases h2 : a_use a ≤ j_n w
    · rw [q_y h2]
      obtain ⟨jw, jw1, jw2⟩ := nI_of2 (n := 65536) (M := 65536) rfl (fun z => h.1 (b_lt16 z)) h.2
      have hj : j_n w = jw := by rw [jw2]; exact nI_clamp (by omega)
      refine (hw.memo ?_ (by omega)).up (Nat.le_succ _)
      rw [hj]
      apply Classical.byContradiction
      intro z
      exact h.1 (by rw [jw2]; exact nI_lt (a := jw) (b := 16) (by omega) (by decide))
    · rw [q_n h2]; exact hw.up (Nat.le_succ _)
  · rw [q_n h]; exact hw.up (Nat.le_succ _)
theorem k_every (hw : a_W a c) (n : Int32) : a_W (s_every a n).2.2 (c + 1) := by
  unfold s_every
  by_cases h : ¬ n < 0
  · rw [q_y h]; exact hw.up (Nat.le_succ _)
  · rw [q_n h]; exact hw.up (Nat.le_succ _)
end WKeeps
