/-! The memory as a mathematical value, to which the class and the reference are both tied. -/
section AAbs
/-- a kind: (-1, words, mask) plain; (elements, 0, 0) a row -/
abbrev Kd : Type := Option (Int32 × Int32 × Int32)
abbrev Ab : Type := (Nat → Kd) × Nat × (Nat → Nat) × (Nat → Int32) × (Nat → Nat) × Nat × Nat × (Nat → Int32 → Int64) × (Nat → Nat) × (Nat → Prop) × Nat
/-- kinds; how many objects; an object's kind, size, number; how many numbers; memory; contents; slots; kept; how many keeps -/
abbrev Ab.kd (a : Ab) : Nat → Kd := a.1
abbrev Ab.n (a : Ab) : Nat := a.2.1
abbrev Ab.ok (a : Ab) : Nat → Nat := a.2.2.1
abbrev Ab.sz (a : Ab) : Nat → Int32 := a.2.2.2.1
abbrev Ab.nu (a : Ab) : Nat → Nat := a.2.2.2.2.1
abbrev Ab.nn (a : Ab) : Nat := a.2.2.2.2.2.1
abbrev Ab.mem (a : Ab) : Nat := a.2.2.2.2.2.2.1
abbrev Ab.ct (a : Ab) : Nat → Int32 → Int64 := a.2.2.2.2.2.2.2.1
abbrev Ab.sl (a : Ab) : Nat → Nat := a.2.2.2.2.2.2.2.2.1
abbrev Ab.kp (a : Ab) : Nat → Prop := a.2.2.2.2.2.2.2.2.2.1
abbrev Ab.kc (a : Ab) : Nat := a.2.2.2.2.2.2.2.2.2.2
def a_row (a : Ab) (o : Nat) : Int32 := match a.kd (a.ok o) with
  | some q => q.1
  | none => 0
/-- how many words or elements -/
def a_len (a : Ab) (o : Nat) : Int32 := match a.kd (a.ok o) with
  | some q => if q.1 < 0 then q.2.1 else a.sz o
  | none => 0
def a_refK (q : Int32 × Int32 × Int32) (k : Int32) : Prop := if q.1 < 0 then (q.2.2 >>> (k &&& 31)) &&& 1 = 1 else q.1 = 0
def a_ref (a : Ab) (o : Nat) (k : Int32) : Prop := ∃ q, a.kd (a.ok o) = some q ∧ a_refK q k
def a_tk (r : Int32) (n : Nat) : Nat := if r < 0 then 3 + n else 4 + (if r = 4 then 2 * n else if r = 2 then (n + 1) / 2 else if r = 1 then (n + 3) / 4 else n)
def a_wd (a : Ab) (o : Nat) : Nat := a_tk (a_row a o) (a_len a o).toNatClampNeg
def a_root (a : Ab) (r : Nat) : Prop := (∃ s, s < 32 ∧ a.sl s = r ∧ r ≠ 0) ∨ a.kp r
def a_ed (a : Ab) (x b : Nat) : Prop := 1 ≤ x ∧ x ≤ a.n ∧ 1 ≤ b ∧ b ≤ a.n ∧ ∃ k : Int32, a_ref a x k ∧ a.ct x k = lN b
def a_R (a : Ab) (o : Nat) : Prop := z_R (a_root a) (a_ed a) o
/-- how many words all that can be come to takes -/
noncomputable def a_use (a : Ab) : Nat := z_sum (a_wd a) (a_R a) a.n
def a_kin (q : Int32 × Int32 × Int32) : Prop := (q.1 = -1 ∧ ∃ w m : Nat, w ≤ 16 ∧ m < 2 ^ w ∧ q.2.1 = nI w ∧ q.2.2 = nI m) ∨ (∃ r : Nat, r ≤ 4 ∧ q.1 = nI r ∧ q.2.1 = 0 ∧ q.2.2 = 0)
/-- what holds of every such value that calls have made; c: how many calls -/
def a_W (a : Ab) (c : Nat) : Prop :=
  (∀ k q, k < 16 → a.kd k = some q → a_kin q) ∧ (∀ o, 1 ≤ o → o ≤ a.n → a.ok o < 16 ∧ ∃ q, a.kd (a.ok o) = some q ∧ (¬ q.1 < 0 → ¬ a.sz o < 0)) ∧
  (∀ s, s < 32 → a.sl s ≤ a.n) ∧ (∀ o, a.kp o → 1 ≤ o ∧ o ≤ a.n) ∧ (∀ o k, 1 ≤ o → o ≤ a.n → a_ref a o k → ∃ b, b ≤ a.n ∧ a.ct o k = lN b) ∧
  (∀ o, a.n < o → a.nu o = 0 ∧ ∀ k, a.ct o k = 0) ∧ (∀ o, a.nu o ≤ a.nn) ∧ 16 ≤ a.mem ∧ a.mem ≤ 65536 ∧ a.n ≤ c ∧ a.nn ≤ c ∧ a.kc ≤ c
theorem a_R.in {a : Ab} {c o : Nat} (hw : a_W a c) (h : a_R a o) : 1 ≤ o ∧ o ≤ a.n := by
  refine h (fun o => 1 ≤ o ∧ o ≤ a.n) (fun r hr => ?_) (fun x b _ hb => ?_)
  · rcases hr with ⟨s, h1, h2, h3⟩ | hk
    · have := hw.2.2.1 s h1
      omega
    · exact hw.2.2.2.1 r hk
  · exact ⟨hb.2.2.1, hb.2.2.2.1⟩
end AAbs
