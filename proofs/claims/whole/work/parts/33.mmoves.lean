/-! what each change of the reference's arrays does to what it holds -/
section MMoves
variable {a : Ab} {S T : MS} {cn : Nat}
theorem upd_s (f : Nat → Int32) (j : Nat) (v : Int32) : upd f j v j = v := if_pos rfl
theorem upd_n (f : Nat → Int32) {i j : Nat} (v : Int32) (h : i ≠ j) : upd f j v i = f i := if_neg h
theorem m_R.same (h : m_R a S cn) (e : ∀ k, k ≠ 17 → k ≠ 18 → T.1 k = S.1 k) (q1 : T.2.1 = S.2.1) (q2 : ∀ k, k ≠ 10 → T.2.2 k = S.2.2 k) : m_R a T cn := by
  obtain ⟨h1, h2, h3, h4, h5, h6, h7, en, h8, h9, h10, h11⟩ := h
  unfold m_R m_kn
  rw [q2 7 (by decide), q2 8 (by decide), q2 9 (by decide), q2 19 (by decide), q2 14 (by decide), e 0 (by decide) (by decide), e 1 (by decide) (by decide), e 2 (by decide) (by decide), e 3 (by decide) (by decide), e 4 (by decide) (by decide), e 5 (by decide) (by decide), e 6 (by decide) (by decide), e 11 (by decide) (by decide), e 15 (by decide) (by decide), e 16 (by decide) (by decide)]
  refine ⟨h1, h2, h3, h4, h5, h6, h7, en, h8, h9, h10, fun o k o1 o2 => ?_⟩
  rw [m_lat.eq (S := S) (S' := T) (fun i _ => ⟨by rw [e 11 (by decide) (by decide)], by rw [e 12 (by decide) (by decide)], by rw [q1]⟩)]
  exact h11 o k o1 o2
theorem m_R.up {cn' : Nat} (h : m_R a S cn) (hc : cn ≤ cn') : m_R a S cn' := by
  obtain ⟨h1, h2, h3, h4, h5, h6, h7, en, h8, h9⟩ := h
  exact ⟨h1, h2, h3, h4, h5, h6, h7, en, by omega, h9⟩
theorem m_R.err (h : m_R a S cn) (v : Int32) : m_R a (m_s S 10 v) cn := h.same (fun _ _ _ => rfl) rfl (fun k hk => va_up_ne _ _ hk)
theorem m_latS {S' : MS} {o k : Int32} {n : Nat} (h1 : S'.1 11 = S.1 11) (h2 : S'.1 12 = S.1 12) (h3 : S'.2.1 = S.2.1) : m_lat S' o k n = m_lat S o k n := m_lat.eq (fun i _ => ⟨by rw [h1], by rw [h2], by rw [h3]⟩)
theorem m_R.puts (h : m_R a S cn) {s o : Nat} : m_R (a_puts a s o) (m_a S 15 s (nI o)) cn := by
  obtain ⟨h1, h2, h3, h4, h5, h6, h7, en, h8, h9, h10, h11⟩ := h
  refine ⟨h1, h2, h3, h4, fun s' hs' => ?_, h6, h7, en, h8, h9, h10, fun o' k o1 o2 => (h11 o' k o1 o2).trans (m_latS (S' := m_a S 15 s (nI o)) (S := S) rfl rfl rfl).symm⟩
  show upd (S.1 15) s (nI o) s' = nI (va_up a.sl s o s')
  by_cases e : s' = s
  · rw [e, upd_s, va_up_self]
  · rw [upd_n _ _ e, va_up_ne _ _ e]; exact h5 s' hs'
theorem m_R.memo (h : m_R a S cn) {w : Nat} : m_R (a_memo a w) (m_s S 9 (nI w)) cn := by
  obtain ⟨h1, h2, h3, h4, h5, h6, h7, en, h8, h9, h10, h11⟩ := h
  exact ⟨h1, ⟨h2.1, h2.2.1, rfl, h2.2.2.2⟩, h3, h4, h5, h6, h7, en, h8, h9, h10, fun o' k o1 o2 => (h11 o' k o1 o2).trans (m_latS (S' := m_s S 9 (nI w)) (S := S) rfl rfl rfl).symm⟩
theorem m_R.kindR (h : m_R a S cn) {k : Nat} {el : Int32} (hel : ¬ el < 0) : m_R (a_kind a k (el, 0, 0)) (m_a (m_a S 3 k 1) 2 k el) cn := by
  obtain ⟨h1, h2, h3, h4, h5, h6, h7, en, h8, h9, h10, h11⟩ := h
  refine ⟨fun k' hk' => ?_, h2, h3, h4, h5, h6, h7, en, h8, h9, h10, fun o' kk o1 o2 => (h11 o' kk o1 o2).trans (m_latS (S' := (m_a (m_a S 3 k 1) 2 k el)) (S := S) rfl rfl rfl).symm⟩
  by_cases e : k' = k
  · subst e
    exact Or.inr ⟨(el, 0, 0), va_up_self _ _ _, upd_s _ _ _, upd_s _ _ _, fun z => absurd z hel⟩
  · have := h1 k' hk'
    unfold m_kn at this ⊢
    rw [show (a_kind a k (el, 0, 0)).kd k' = a.kd k' from va_up_ne _ _ e, show (m_a (m_a S 3 k 1) 2 k el).1 3 k' = S.1 3 k' from upd_n _ _ e, show (m_a (m_a S 3 k 1) 2 k el).1 2 k' = S.1 2 k' from upd_n _ _ e]
    exact this
theorem m_R.kindP (h : m_R a S cn) {k : Nat} {w mk : Int32} : m_R (a_kind a k (-1, w, mk)) (m_a (m_a (m_a (m_a S 3 k 1) 2 k (-1)) 0 k w) 1 k mk) cn := by
  obtain ⟨h1, h2, h3, h4, h5, h6, h7, en, h8, h9, h10, h11⟩ := h
  refine ⟨fun k' hk' => ?_, h2, h3, h4, h5, h6, h7, en, h8, h9, h10, fun o' kk o1 o2 => (h11 o' kk o1 o2).trans (m_latS (S' := (m_a (m_a (m_a (m_a S 3 k 1) 2 k (-1)) 0 k w) 1 k mk)) (S := S) rfl rfl rfl).symm⟩
  by_cases e : k' = k
  · subst e
    exact Or.inr ⟨(-1, w, mk), va_up_self _ _ _, upd_s _ _ _, upd_s _ _ _, fun _ => ⟨upd_s _ _ _, upd_s _ _ _⟩⟩
  · have := h1 k' hk'
    unfold m_kn at this ⊢
    rw [show (a_kind a k (-1, w, mk)).kd k' = a.kd k' from va_up_ne _ _ e, show (m_a (m_a (m_a (m_a S 3 k 1) 2 k (-1)) 0 k w) 1 k mk).1 3 k' = S.1 3 k' from upd_n _ _ e, show (m_a (m_a (m_a (m_a S 3 k 1) 2 k (-1)) 0 k w) 1 k mk).1 2 k' = S.1 2 k' from upd_n _ _ e, show (m_a (m_a (m_a (m_a S 3 k 1) 2 k (-1)) 0 k w) 1 k mk).1 0 k' = S.1 0 k' from upd_n _ _ e, show (m_a (m_a (m_a (m_a S 3 k 1) 2 k (-1)) 0 k w) 1 k mk).1 1 k' = S.1 1 k' from upd_n _ _ e]
    exact this
theorem m_R.new (h : m_R a S cn) (hw : a_W a cn) (hc : cn ≤ 512) {s k : Nat} {n : Int32} : m_R (a_new a s k n) (m_a (m_a (m_a (m_s S 7 (nI (a.n + 1))) 4 (a.n + 1) (nI k)) 5 (a.n + 1) n) 15 s (nI (a.n + 1))) (cn + 1) := by
  obtain ⟨h1, h2, h3, h4, h5, h6, h7, en, h8, h9, h10, h11⟩ := h
  have hn : a.n ≤ cn := hw.2.2.2.2.2.2.2.2.2.1
  refine ⟨h1, ⟨rfl, h2.2⟩, fun o o1 o2 => ?_, h4, fun s' hs' => ?_, h6, h7, en, by omega, h9, fun i hi => ?_, fun o k' o1 o2 => ?_⟩
  · have o2 : o ≤ a.n + 1 := o2
    show upd (S.1 4) (a.n + 1) (nI k) o = nI (va_up a.ok (a.n + 1) k o) ∧ upd (S.1 5) (a.n + 1) n o = va_up a.sz (a.n + 1) n o
    by_cases e : o = a.n + 1
    · rw [e, upd_s, upd_s, va_up_self, va_up_self]; exact ⟨rfl, rfl⟩
    · rw [upd_n _ _ e, upd_n _ _ e, va_up_ne _ _ e, va_up_ne _ _ e]; exact h3 o o1 (by omega)
  · show upd (S.1 15) s (nI (a.n + 1)) s' = nI (va_up a.sl s (a.n + 1) s')
    by_cases e : s' = s
    · rw [e, upd_s, va_up_self]
    · rw [upd_n _ _ e, va_up_ne _ _ e]; exact h5 s' hs'
  · obtain ⟨o, z1, z2, z3⟩ := h10 i hi
    exact ⟨o, z1, Nat.le_succ_of_le z2, z3⟩
  · have o2 : o ≤ a.n + 1 := o2
    rw [m_latS (S' := (m_a (m_a (m_a (m_s S 7 (nI (a.n + 1))) 4 (a.n + 1) (nI k)) 5 (a.n + 1) n) 15 s (nI (a.n + 1)))) (S := S) rfl rfl rfl]
    by_cases e : o = a.n + 1
    · have z : m_lat S (nI o) k' en = 0 := Classical.byContradiction (fun z => by
        obtain ⟨i, i1, i2, -⟩ := m_lat.ne z
        obtain ⟨o', z1, z2, z3⟩ := h10 i i1
        rw [z3] at i2
        have := (nI_eq (by omega) (by omega)).mp i2
        omega)
      rw [z]
      exact (hw.2.2.2.2.2.1 o (by omega)).2 k'
    · exact h11 o k' o1 (by omega)
theorem m_R.keep (h : m_R a S cn) (hw : a_W a cn) {o : Nat} : m_R (a_keep a o) (m_a (m_s S 19 (nI (a.kc + 1))) 16 a.kc (nI o)) (cn + 1) := by
  obtain ⟨h1, h2, h3, h4, h5, h6, h7, en, h8, h9, h10, h11⟩ := h
  refine ⟨h1, ⟨h2.1, h2.2.1, h2.2.2.1, rfl⟩, h3, h4, h5, fun o' z => ?_, fun i hi => ?_, en, by omega, h9, h10, fun o' kk o1 o2 => (h11 o' kk o1 o2).trans (m_latS (S' := (m_a (m_s S 19 (nI (a.kc + 1))) 16 a.kc (nI o))) (S := S) rfl rfl rfl).symm⟩
  · show ∃ i, i < a.kc + 1 ∧ upd (S.1 16) a.kc (nI o) i = nI o'
    rcases z with z | z
    · obtain ⟨i, i1, i2⟩ := h6 o' z
      exact ⟨i, by omega, by rw [upd_n _ _ (by omega)]; exact i2⟩
    · exact ⟨a.kc, by omega, by rw [upd_s, z]⟩
  · have hi : i < a.kc + 1 := hi
    show ∃ o', (a.kp o' ∨ o' = o) ∧ upd (S.1 16) a.kc (nI o) i = nI o'
    by_cases e : i = a.kc
    · exact ⟨o, Or.inr rfl, by rw [e, upd_s]⟩
    · obtain ⟨o', z1, z2⟩ := h7 i (by omega)
      exact ⟨o', Or.inl z1, by rw [upd_n _ _ e]; exact z2⟩
theorem m_R.numb (h : m_R a S cn) {o : Nat} : m_R (a_numb a o) (m_a (m_s S 8 (nI (a.nn + 1))) 6 o (nI (a.nn + 1))) (cn + 1) := by
  obtain ⟨h1, h2, h3, h4, h5, h6, h7, en, h8, h9, h10, h11⟩ := h
  refine ⟨h1, ⟨h2.1, rfl, h2.2.2⟩, h3, fun o' z1 z2 => ?_, h5, h6, h7, en, by omega, h9, h10, fun o' kk o1 o2 => (h11 o' kk o1 o2).trans (m_latS (S' := (m_a (m_s S 8 (nI (a.nn + 1))) 6 o (nI (a.nn + 1)))) (S := S) rfl rfl rfl).symm⟩
  show upd (S.1 6) o (nI (a.nn + 1)) o' = nI (va_up a.nu o (a.nn + 1) o')
  by_cases e : o' = o
  · rw [e, upd_s, va_up_self]
  · rw [upd_n _ _ e, va_up_ne _ _ e]; exact h4 o' z1 z2
theorem m_R.putc (h : m_R a S cn) (hw : a_W a cn) (hc : cn ≤ 512) {o en : Nat} {k : Int32} {v : Int64} (o1 : 1 ≤ o) (o2 : o ≤ a.n) (hen : S.2.2 14 = nI en) (he : en ≤ cn) : m_R (a_putc a o k v) (m_l (m_s (m_a (m_a S 11 en (nI o)) 12 en k) 14 (nI (en + 1))) en v) (cn + 1) := by
  obtain ⟨h1, h2, h3, h4, h5, h6, h7, en', h8, h9, h10, h11⟩ := h
  have hn : a.n ≤ cn := hw.2.2.2.2.2.2.2.2.2.1
  have e0 : en = en' := (nI_eq (by omega) (by omega)).mp (hen.symm.trans h9)
  subst e0
  refine ⟨h1, h2, h3, h4, h5, h6, h7, en + 1, by omega, rfl, fun i hi => ?_, fun o' k' z1 z2 => ?_⟩
  · show ∃ o', 1 ≤ o' ∧ o' ≤ a.n ∧ upd (S.1 11) en (nI o) i = nI o'
    by_cases e : i = en
    · exact ⟨o, o1, o2, by rw [e, upd_s]⟩
    · rw [upd_n _ _ e]; exact h10 i (by omega)
  · have hl : m_lat (m_l (m_s (m_a (m_a S 11 en (nI o)) 12 en k) 14 (nI (en + 1))) en v) (nI o') k' en = m_lat S (nI o') k' en := m_lat.eq (fun i hi => ⟨upd_n _ _ (by omega), upd_n _ _ (by omega), if_neg (by omega)⟩)
    show (a_putc a o k v).ct o' k' = if upd (S.1 11) en (nI o) en = nI o' ∧ upd (S.1 12) en k en = k' then vp_updL S.2.1 en v en else m_lat _ (nI o') k' en
    rw [hl, upd_s, upd_s]
    have z2 : o' ≤ a.n := z2
    by_cases e : o' = o ∧ k' = k
    · rw [e.1, e.2, a_putc.self, if_pos ⟨rfl, rfl⟩]; exact (if_pos rfl).symm
    · rw [a_putc.ct e, if_neg (fun z => e ⟨((nI_eq (by omega) (by omega)).mp z.1).symm, z.2.symm⟩)]; exact h11 o' k' z1 z2
end MMoves
