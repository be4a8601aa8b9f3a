/-! how the reference holds the memory -/
section MRep
def m_kn (a : Ab) (S : MS) (k : Nat) : Prop := (a.kd k = none ∧ S.1 3 k = 0) ∨ ∃ q, a.kd k = some q ∧ S.1 3 k = 1 ∧ S.1 2 k = q.1 ∧ (q.1 < 0 → S.1 0 k = q.2.1 ∧ S.1 1 k = q.2.2)
def m_R (a : Ab) (S : MS) (cn : Nat) : Prop :=
  (∀ k, k < 16 → m_kn a S k) ∧ (S.2.2 7 = nI a.n ∧ S.2.2 8 = nI a.nn ∧ S.2.2 9 = nI a.mem ∧ S.2.2 19 = nI a.kc) ∧ (∀ o, 1 ≤ o → o ≤ a.n → S.1 4 o = nI (a.ok o) ∧ S.1 5 o = a.sz o) ∧ (∀ o, 1 ≤ o → o < 514 → S.1 6 o = nI (a.nu o)) ∧
  (∀ s, s < 32 → S.1 15 s = nI (a.sl s)) ∧ (∀ o, a.kp o → ∃ i, i < a.kc ∧ S.1 16 i = nI o) ∧ (∀ i, i < a.kc → ∃ o, a.kp o ∧ S.1 16 i = nI o) ∧
  ∃ en, en ≤ cn ∧ S.2.2 14 = nI en ∧ (∀ i, i < en → ∃ o, 1 ≤ o ∧ o ≤ a.n ∧ S.1 11 i = nI o) ∧ ∀ o k, 1 ≤ o → o ≤ a.n → a.ct o k = m_lat S (nI o) k en
variable {a : Ab} {S T : MS} {cn : Nat}
theorem m_R.ok (hR : m_R a S cn) (hw : a_W a cn) (hc : cn ≤ 512) {o : Nat} (o1 : 1 ≤ o) (o2 : o ≤ a.n) : m_ok S (nI o) ∧ (nI o).toNatClampNeg = o ∧ (S.1 4 o).toNatClampNeg = a.ok o := by
  have hn : a.n ≤ cn := hw.2.2.2.2.2.2.2.2.2.1
  have e : (nI o).toNatClampNeg = o := nI_clamp (by omega)
  have h1 := (hR.2.2.1 o o1 o2).1
  have h2 := (hw.2.1 o o1 o2).1
  refine ⟨⟨vp_in_nI (by omega) (by decide), ?_⟩, e, by rw [h1]; exact nI_clamp (by omega)⟩
  rw [e, h1]
  exact vp_in_nI h2 (by decide)
theorem m_R.kd (hR : m_R a S cn) (hw : a_W a cn) {o : Nat} (o1 : 1 ≤ o) (o2 : o ≤ a.n) : ∃ q, a.kd (a.ok o) = some q ∧ a_kin q ∧ S.1 2 (a.ok o) = q.1 ∧ (q.1 < 0 → S.1 0 (a.ok o) = q.2.1 ∧ S.1 1 (a.ok o) = q.2.2) := by
  obtain ⟨h1, q, h2, -⟩ := hw.2.1 o o1 o2
  rcases hR.1 (a.ok o) h1 with z | ⟨q', z1, -, z2, z3⟩
  · rw [h2] at z; cases z.1
  · exact ⟨q', z1, hw.1 _ _ h1 z1, z2, z3⟩
theorem m_R.row (hR : m_R a S cn) (hw : a_W a cn) (hc : cn ≤ 512) {o : Nat} (o1 : 1 ≤ o) (o2 : o ≤ a.n) : m_row S (nI o) = a_row a o := by
  obtain ⟨-, e1, e2⟩ := hR.ok hw hc o1 o2
  obtain ⟨q, z1, -, z2, -⟩ := hR.kd hw o1 o2
  unfold m_row a_row
  rw [e1, e2, z2, z1]
theorem m_R.many (hR : m_R a S cn) (hw : a_W a cn) (hc : cn ≤ 512) {o : Nat} (o1 : 1 ≤ o) (o2 : o ≤ a.n) : m_many S (nI o) = a_len a o := by
  obtain ⟨-, e1, e2⟩ := hR.ok hw hc o1 o2
  obtain ⟨q, z1, -, z2, z3⟩ := hR.kd hw o1 o2
  unfold m_many a_len
  have hr : m_row S (nI o) = q.1 := by unfold m_row; rw [e1, e2, z2]
  rw [hr, e1, e2, z1, (hR.2.2.1 o o1 o2).2]
  show _ = if q.1 < 0 then q.2.1 else a.sz o
  by_cases h : q.1 < 0
  · rw [if_pos h, if_pos h, (z3 h).1]
  · rw [if_neg h, if_neg h]
theorem m_R.isr (hR : m_R a S cn) (hw : a_W a cn) (hc : cn ≤ 512) {o : Nat} {k : Int32} (o1 : 1 ≤ o) (o2 : o ≤ a.n) : m_isr S (nI o) k = c_bit (a_ref a o k) := by
  obtain ⟨-, e1, e2⟩ := hR.ok hw hc o1 o2
  obtain ⟨q, z1, -, z2, z3⟩ := hR.kd hw o1 o2
  have hr : m_row S (nI o) = q.1 := by unfold m_row; rw [e1, e2, z2]
  have he : a_ref a o k = a_refK q k := propext ⟨fun ⟨q', y1, y2⟩ => by rw [z1] at y1; cases y1; exact y2, fun y => ⟨q, z1, y⟩⟩
  unfold m_isr
  rw [hr, he, e1, e2]
  unfold a_refK
  by_cases h : q.1 < 0
  · rw [if_pos h, if_pos h, (z3 h).2]
  · rw [if_neg h, if_neg h]
theorem m_div2 {x : Nat} (h : x < 2 ^ 62) : lN x / 2 = lN (x / 2) := by
  apply Int64.toInt_inj.mp
  have e1 : (lN x).toInt = (x : Int) := lg_ofNat_toInt (by omega)
  have e2 : (lN (x / 2)).toInt = ((x / 2 : Nat) : Int) := lg_ofNat_toInt (by omega)
  have e3 : (2 : Int64).toInt = 2 := by decide
  rw [Int64.toInt_div, e1, e2, e3, Int.tdiv_eq_ediv_of_nonneg (by omega), Int.bmod_eq_of_le (by omega) (by omega)]
  omega
theorem m_div4 {x : Nat} (h : x < 2 ^ 62) : lN x / 4 = lN (x / 4) := by
  apply Int64.toInt_inj.mp
  have e1 : (lN x).toInt = (x : Int) := lg_ofNat_toInt (by omega)
  have e2 : (lN (x / 4)).toInt = ((x / 4 : Nat) : Int) := lg_ofNat_toInt (by omega)
  have e3 : (4 : Int64).toInt = 4 := by decide
  rw [Int64.toInt_div, e1, e2, e3, Int.tdiv_eq_ediv_of_nonneg (by omega), Int.bmod_eq_of_le (by omega) (by omega)]
  omega
theorem m_takes {row : Int32} {n : Nat} (hn : n < 2 ^ 31) : m_tk row (lN n) = lN (a_tk row n) := by
  unfold m_tk a_tk
  by_cases h : row < 0
  · rw [if_pos h, if_pos h, show (3 : Int64) = lN 3 from rfl, lN_add]
  · rw [if_neg h, if_neg h, show (4 : Int64) + _ = lN 4 + _ from rfl, ← lN_add]
    congr 1
    by_cases h4 : row = 4
    · rw [if_pos h4, if_pos h4, show (2 : Int64) = lN 2 from rfl, lN_mul]
    · rw [if_neg h4, if_neg h4]
      by_cases h2 : row = 2
      · rw [if_pos h2, if_pos h2, lN_1, m_div2 (by omega)]
      · rw [if_neg h2, if_neg h2]
        by_cases h1 : row = 1
        · rw [if_pos h1, if_pos h1, show (3 : Int64) = lN 3 from rfl, lN_add, m_div4 (by omega)]
        · rw [if_neg h1, if_neg h1]
/-- an object's size is no negative number -/
theorem a_len.pos (hw : a_W a cn) {o : Nat} (o1 : 1 ≤ o) (o2 : o ≤ a.n) : ∃ n : Nat, n < 2 ^ 31 ∧ a_len a o = nI n := by
  obtain ⟨h1, q, h2, h3⟩ := hw.2.1 o o1 o2
  have hk := hw.1 _ _ h1 h2
  unfold a_len
  rw [h2]
  show ∃ n : Nat, n < 2 ^ 31 ∧ (if q.1 < 0 then q.2.1 else a.sz o) = nI n
  by_cases h : q.1 < 0
  · obtain ⟨w, m, w1, -, e1, -⟩ := hk.neg h
    rw [if_pos h]
    exact ⟨w, by omega, e1⟩
  · rw [if_neg h]
    obtain ⟨j, hj, e⟩ := nI_of (h3 h)
    exact ⟨j, hj, e⟩
theorem m_R.wd (hR : m_R a S cn) (hw : a_W a cn) (hc : cn ≤ 512) {o : Nat} (o1 : 1 ≤ o) (o2 : o ≤ a.n) : m_tk (m_row S (nI o)) (m_many S (nI o)).toInt64 = lN (a_wd a o) := by
  obtain ⟨n, hn, e⟩ := a_len.pos hw o1 o2
  unfold a_wd
  rw [hR.row hw hc o1 o2, hR.many hw hc o1 o2, e, nI_l hn, m_takes hn, show (nI n).toNatClampNeg = n from nI_clamp hn]
theorem m_R.cut (hR : m_R a S cn) (hw : a_W a cn) (hc : cn ≤ 512) {o : Nat} {v : Int64} (o1 : 1 ≤ o) (o2 : o ≤ a.n) : m_cut S (nI o) v = a_cut a o v := by
  unfold m_cut a_cut
  rw [hR.row hw hc o1 o2]
theorem m_lat.ne {o k : Int32} : ∀ {n : Nat}, m_lat S o k n ≠ 0 → ∃ i, i < n ∧ S.1 11 i = o ∧ S.1 12 i = k
  | 0, h => absurd rfl h
  | n + 1, h => by
    by_cases e : S.1 11 n = o ∧ S.1 12 n = k
    · exact ⟨n, Nat.lt_succ_self _, e⟩
    · have h : (if S.1 11 n = o ∧ S.1 12 n = k then S.2.1 n else m_lat S o k n) ≠ 0 := h
      rw [if_neg e] at h
      obtain ⟨i, i1, i2⟩ := m_lat.ne h
      exact ⟨i, by omega, i2⟩
theorem m_lat.eq {S' : MS} {o k : Int32} : ∀ {n : Nat}, (∀ i, i < n → S'.1 11 i = S.1 11 i ∧ S'.1 12 i = S.1 12 i ∧ S'.2.1 i = S.2.1 i) → m_lat S' o k n = m_lat S o k n
  | 0, _ => rfl
  | n + 1, h => by
    obtain ⟨h1, h2, h3⟩ := h n (Nat.lt_succ_self _)
    show (if S'.1 11 n = o ∧ S'.1 12 n = k then S'.2.1 n else m_lat S' o k n) = if S.1 11 n = o ∧ S.1 12 n = k then S.2.1 n else m_lat S o k n
    rw [h1, h2, h3, m_lat.eq (fun i hi => h i (by omega))]
/-- T is S but for what reachable() writes -/
def m_Q (S T : MS) : Prop := T.2 = S.2 ∧ ∀ k, k ≠ 17 → k ≠ 18 → T.1 k = S.1 k
theorem m_Q.R (hQ : m_Q S T) (h : m_R a S cn) : m_R a T cn := by
  obtain ⟨h1, h2, h3, h4, h5, h6, h7, en, h8, h9, h10, h11⟩ := h
  obtain ⟨q1, q2⟩ := hQ
  have e : ∀ k, k ≠ 17 → k ≠ 18 → T.1 k = S.1 k := q2
  unfold m_R m_kn
  rw [q1, e 0 (by decide) (by decide), e 1 (by decide) (by decide), e 2 (by decide) (by decide), e 3 (by decide) (by decide), e 4 (by decide) (by decide), e 5 (by decide) (by decide), e 6 (by decide) (by decide), e 11 (by decide) (by decide), e 15 (by decide) (by decide), e 16 (by decide) (by decide)]
  refine ⟨h1, h2, h3, h4, h5, h6, h7, en, h8, h9, h10, fun o k o1 o2 => ?_⟩
  rw [m_lat.eq (S := S) (S' := T) (fun i _ => ⟨by rw [e 11 (by decide) (by decide)], by rw [e 12 (by decide) (by decide)], by rw [q1]⟩)]
  exact h11 o k o1 o2
/-- the stack of what waits -/
def m_td (t : Nat → Int32) : List Nat → Prop
  | [] => True
  | o :: ps => t ps.length = nI o ∧ m_td t ps
theorem m_td.up {t : Nat → Int32} {j : Nat} {v : Int32} : ∀ {ps : List Nat}, m_td t ps → ps.length ≤ j → m_td (upd t j v) ps
  | [], _, _ => trivial
  | o :: ps, h, hj => by
    have hl : ps.length + 1 ≤ j := hj
    refine ⟨?_, m_td.up h.2 (by omega)⟩
    show (if ps.length = j then v else t ps.length) = _
    rw [if_neg (by omega)]
    exact h.1
def m_J (a : Ab) (S T : MS) (ps : List Nat) : Prop := m_Q S T ∧ m_td (T.1 17) ps ∧ ∀ o, 1 ≤ o → o ≤ a.n → T.1 18 o = 0 ∨ T.1 18 o = 1
def m_sn (a : Ab) (T : MS) (o : Nat) : Prop := 1 ≤ o ∧ o ≤ a.n ∧ T.1 18 o = 1
theorem m_J.visit {ps : List Nat} {o : Nat} (h : m_J a S T ps) : m_J a S (m_a (m_a T 18 o 1) 17 ps.length (nI o)) (o :: ps) := by
  obtain ⟨⟨h1, h2⟩, h3, h4⟩ := h
  refine ⟨⟨h1, fun k k1 k2 => ?_⟩, ⟨?_, ?_⟩, fun z z1 z2 => ?_⟩
  · show va_up (va_up T.1 18 _) 17 _ k = _
    rw [va_up_ne _ _ k1, va_up_ne _ _ k2]; exact h2 k k1 k2
  · show upd (T.1 17) ps.length (nI o) ps.length = _
    exact if_pos rfl
  · show m_td (upd (T.1 17) ps.length (nI o)) ps
    exact h3.up (Nat.le_refl _)
  · show upd (T.1 18) o 1 z = 0 ∨ upd (T.1 18) o 1 z = 1
    unfold upd
    by_cases e : z = o
    · rw [if_pos e]; exact Or.inr rfl
    · rw [if_neg e]; exact h4 z z1 z2
theorem m_sn.visit {ps : List Nat} {o : Nat} (o1 : 1 ≤ o) (o2 : o ≤ a.n) : m_sn a (m_a (m_a T 18 o 1) 17 ps.length (nI o)) = fun z => m_sn a T z ∨ z = o := by
  funext z
  have e : (m_a (m_a T 18 o 1) 17 ps.length (nI o)).1 18 z = if z = o then 1 else T.1 18 z := rfl
  apply propext
  unfold m_sn
  rw [e]
  by_cases h : z = o
  · rw [if_pos h, h]; exact ⟨fun _ => Or.inr rfl, fun _ => ⟨o1, o2, rfl⟩⟩
  · rw [if_neg h]; exact ⟨Or.inl, fun z => z.resolve_right h⟩
theorem m_nar0 : vp_nar .boolean 0 = 0 := by decide +kernel
theorem m_nar1 : vp_nar .boolean 1 = 1 := by decide +kernel
end MRep
