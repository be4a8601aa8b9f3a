/-! What each call answers and leaves: (code, answer, the memory behind it). Both sides are held against it. -/
section SSpec
noncomputable def q_if {α : Type} (X : Prop) (x y : α) : α := @ite α X (Classical.propDecidable X) x y
theorem q_y {α : Type} {X : Prop} {x y : α} (h : X) : q_if X x y = x := @if_pos _ (Classical.propDecidable X) h _ _ _
theorem q_n {α : Type} {X : Prop} {x y : α} (h : ¬ X) : q_if X x y = y := @if_neg _ (Classical.propDecidable X) h _ _ _
abbrev An : Type := Nat × Option Value × Ab
noncomputable abbrev q_bit (X : Prop) : Option Value := some (.int (c_bit X))
abbrev j_n (x : Int32) : Nat := x.toNatClampNeg
def a_putc (a : Ab) (o : Nat) (k : Int32) (v : Int64) : Ab := (a.kd, a.n, a.ok, a.sz, a.nu, a.nn, a.mem, va_up a.ct o (fun z => if z = k then v else a.ct o z), a.sl, a.kp, a.kc)
def a_puts (a : Ab) (s o : Nat) : Ab := (a.kd, a.n, a.ok, a.sz, a.nu, a.nn, a.mem, a.ct, va_up a.sl s o, a.kp, a.kc)
def a_kind (a : Ab) (k : Nat) (q : Int32 × Int32 × Int32) : Ab := (va_up a.kd k (some q), a.n, a.ok, a.sz, a.nu, a.nn, a.mem, a.ct, a.sl, a.kp, a.kc)
def a_new (a : Ab) (s k : Nat) (n : Int32) : Ab := (a.kd, a.n + 1, va_up a.ok (a.n + 1) k, va_up a.sz (a.n + 1) n, a.nu, a.nn, a.mem, a.ct, va_up a.sl s (a.n + 1), a.kp, a.kc)
def a_keep (a : Ab) (o : Nat) : Ab := (a.kd, a.n, a.ok, a.sz, a.nu, a.nn, a.mem, a.ct, a.sl, (fun z => a.kp z ∨ z = o), a.kc + 1)
def a_numb (a : Ab) (o : Nat) : Ab := (a.kd, a.n, a.ok, a.sz, va_up a.nu o (a.nn + 1), a.nn + 1, a.mem, a.ct, a.sl, a.kp, a.kc)
def a_memo (a : Ab) (m : Nat) : Ab := (a.kd, a.n, a.ok, a.sz, a.nu, a.nn, m, a.ct, a.sl, a.kp, a.kc)
def a_cut (a : Ab) (o : Nat) (v : Int64) : Int64 := if a_row a o = 1 then v.toInt32.toInt8.toInt32.toInt64 else if a_row a o = 2 then (v.toInt32.toUInt32 % 65536).toInt32.toInt64 else if a_row a o = 4 then v else v.toInt32.toInt64
noncomputable def s_plain (a : Ab) (k w mk : Int32) : An := q_if (b_in k 16 ∧ b_in w 17 ∧ (mk.toUInt32 >>> (w.toUInt32 &&& Int32.toUInt32 31)).toInt32 = 0 ∧ a.kd (j_n k) = none) (0, none, a_kind a (j_n k) (-1, w, mk)) (1, none, a)
noncomputable def s_row (a : Ab) (k el : Int32) : An := q_if (b_in k 16 ∧ b_in el 5 ∧ a.kd (j_n k) = none) (0, none, a_kind a (j_n k) (el, 0, 0)) (1, none, a)
/-- how many words a new object takes -/
def a_more (q : Int32 × Int32 × Int32) (n : Int32) : Nat := a_tk q.1 (j_n (if q.1 < 0 then q.2.1 else n))
noncomputable def s_make2 (a : Ab) (s k n : Int32) (q : Int32 × Int32 × Int32) : An := q_if (a_use a + a_more q n ≤ a.mem) (0, some (.int (nI (a.n + 1))), a_new a (j_n s) (j_n k) n) (3, none, a)
noncomputable def s_make (a : Ab) (s k n : Int32) : An := q_if (b_in s 32 ∧ b_in k 16 ∧ ∀ q, a.kd (j_n k) = some q → ¬ q.1 < 0 → ¬ n < 0) (match a.kd (j_n k) with | none => (2, none, a) | some q => s_make2 a s k n q) (1, none, a)
noncomputable def s_copy (a : Ab) (s t : Int32) : An := q_if (b_in s 32 ∧ b_in t 32) (0, q_bit (a.sl (j_n t) ≠ 0), a_puts a (j_n s) (a.sl (j_n t))) (1, none, a)
noncomputable def s_drop (a : Ab) (s : Int32) : An := q_if (b_in s 32) (0, q_bit (a.sl (j_n s) ≠ 0), a_puts a (j_n s) 0) (1, none, a)
noncomputable def s_same (a : Ab) (s t : Int32) : An := q_if (b_in s 32 ∧ b_in t 32) (0, q_bit (a.sl (j_n s) = a.sl (j_n t)), a) (1, none, a)
/-- the object in slot s, with place k; rf: is a reference asked for? -/
noncomputable def s_pl (a : Ab) (s k : Int32) (rf : Prop) (f : Nat → An) : An := q_if (b_in s 32) (q_if (a.sl (j_n s) = 0) (2, none, a) (q_if (b_in k (a_len a (a.sl (j_n s)))) (q_if (a_ref a (a.sl (j_n s)) k ↔ rf) (f (a.sl (j_n s))) (4, none, a)) (3, none, a))) (1, none, a)
noncomputable def s_get (a : Ab) (s k : Int32) : An := s_pl a s k False (fun o => (0, some (.long (a.ct o k)), a))
noncomputable def s_put (a : Ab) (s k : Int32) (v : Int64) : An := s_pl a s k False (fun o => (0, none, a_putc a o k (a_cut a o v)))
noncomputable def s_link (a : Ab) (s k t : Int32) : An := q_if (b_in t 32) (s_pl a s k True (fun o => (0, q_bit (a.ct o k ≠ 0), a_putc a o k (lN (a.sl (j_n t)))))) (1, none, a)
noncomputable def s_follow (a : Ab) (s k t : Int32) : An := q_if (b_in t 32) (s_pl a s k True (fun o => (0, q_bit (a.ct o k ≠ 0), a_puts a (j_n t) (a.ct o k).toInt.toNat))) (1, none, a)
/-- the object in slot s -/
noncomputable def s_in (a : Ab) (s : Int32) (f : Nat → An) : An := q_if (b_in s 32) (q_if (a.sl (j_n s) = 0) (2, none, a) (f (a.sl (j_n s)))) (1, none, a)
noncomputable def s_keep (a : Ab) (s : Int32) : An := s_in a s (fun o => (0, some (.int (nI (a.kc + 1))), a_keep a o))
noncomputable def s_number (a : Ab) (s : Int32) : An := s_in a s (fun o => if a.nu o = 0 then (0, some (.int (nI (a.nn + 1))), a_numb a o) else (0, some (.int (nI (a.nu o))), a))
noncomputable def s_size (a : Ab) (s : Int32) : An := s_in a s (fun o => (0, some (.int (a_len a o)), a))
noncomputable def s_memory (a : Ab) (w : Int32) : An := q_if (¬ w < 16 ∧ w ≤ 65536) (q_if (a_use a ≤ j_n w) (0, q_bit True, a_memo a (j_n w)) (0, q_bit False, a)) (1, none, a)
noncomputable def s_every (a : Ab) (n : Int32) : An := q_if (¬ n < 0) (0, none, a) (1, none, a)
noncomputable def s_collect (a : Ab) : An := (0, some (.int (nI (a_use a))), a)
/-- how the class answers: what it returned, or the class of what it threw -/
def x_out (Es : List String) (s : An) (r : Option Value ⊕ String) : Prop := match s.1 with
  | 0 => r = .inl s.2.1
  | i + 1 => ∃ E, Es[i]? = some E ∧ r = .inr E
theorem b_in.j {x : Int32} {n : Nat} (h : b_in x (nI n)) (hn : n < 2 ^ 31) : j_n x < n ∧ x = nI (j_n x) := by
  obtain ⟨j, hj, rfl⟩ := nI_of h.1
  have := (nI_ltI hj hn).mp h.2
  rw [show j_n (nI j) = j from nI_clamp hj]
  exact ⟨this, rfl⟩
theorem b_in.j32 {x : Int32} (h : b_in x 32) : j_n x < 32 := (b_in.j (n := 32) h (by decide)).1
theorem b_in.j16 {x : Int32} (h : b_in x 16) : j_n x < 16 := (b_in.j (n := 16) h (by decide)).1
/-- what can be come to behind a change, if no way is new -/
theorem a_R.sub {a a' : Ab} {P : Nat → Prop} (h1 : ∀ r, a_root a' r → P r) (h2 : ∀ x b, P x → a_ed a' x b → P b) {o : Nat} (h : a_R a' o) : P o := h P h1 h2
theorem a_R.sl {a : Ab} {s : Nat} (hs : s < 32) (h : a.sl s ≠ 0) : a_R a (a.sl s) := z_R.root (Or.inl ⟨s, hs, rfl, h⟩)
/-- how the class holds the memory: u words are counted as used, of all that is in lv -/
def c_R (cK cI : ClassId) (a : Ab) (g : y_G) (d cn : Nat) : Prop := ∃ (ka sa : Nat) (fk fs : Nat → Option Nat) (ad : Nat → Nat) (cs : Nat → List CL) (ks : List Nat) (itv : Int32) (u wk : Nat) (sn : Nat → Nat) (np : Nat → Option Nat) (lv : Nat → Prop),
  c_S a g d ka sa cK cI fk fs ad cs ks itv (nI u) wk sn np none ∧ (∀ o, 1 ≤ o → o ≤ a.n → sn o ≤ wk) ∧ wk ≤ cn ∧ u = z_sum (a_wd a) lv a.n ∧ u ≤ a.mem ∧ ∀ o, a_R a o → lv o
theorem c_R.up {cK cI : ClassId} {a : Ab} {g : y_G} {d cn cn' : Nat} (h : c_R cK cI a g d cn) (hc : cn ≤ cn') : c_R cK cI a g d cn' := by
  obtain ⟨ka, sa, fk, fs, ad, cs, ks, itv, u, wk, sn, np, lv, h1, h2, h3, h4⟩ := h
  exact ⟨ka, sa, fk, fs, ad, cs, ks, itv, u, wk, sn, np, lv, h1, h2, Nat.le_trans h3 hc, h4⟩
theorem a_wd.eq {a a' : Ab} {o : Nat} (h1 : a'.kd (a'.ok o) = a.kd (a.ok o)) (h2 : a'.sz o = a.sz o) : a_wd a' o = a_wd a o := by
  unfold a_wd a_row a_len
  rw [h1, h2]
theorem a_len.eq {a a' : Ab} {o : Nat} (h1 : a'.kd (a'.ok o) = a.kd (a.ok o)) (h2 : a'.sz o = a.sz o) : a_len a' o = a_len a o := by
  unfold a_len
  rw [h1, h2]
theorem a_ref.eq {a a' : Ab} {o : Nat} {k : Int32} (h1 : a'.kd (a'.ok o) = a.kd (a.ok o)) : a_ref a' o k ↔ a_ref a o k := by
  unfold a_ref
  rw [h1]
end SSpec
