/-! Sums over the numbers 1..n that have a property; what can be come to; the work list. -/
section ZMath
noncomputable def z_sum (w : Nat → Nat) (P : Nat → Prop) : Nat → Nat
  | 0 => 0
  | n + 1 => z_sum w P n + @ite Nat (P (n + 1)) (Classical.propDecidable _) (w (n + 1)) 0
theorem z_yes {w : Nat → Nat} {P : Nat → Prop} {n : Nat} (h : P (n + 1)) : z_sum w P (n + 1) = z_sum w P n + w (n + 1) := by
  show z_sum w P n + @ite Nat (P (n + 1)) (Classical.propDecidable _) (w (n + 1)) 0 = _
  rw [if_pos h]
theorem z_no {w : Nat → Nat} {P : Nat → Prop} {n : Nat} (h : ¬ P (n + 1)) : z_sum w P (n + 1) = z_sum w P n := by
  show z_sum w P n + @ite Nat (P (n + 1)) (Classical.propDecidable _) (w (n + 1)) 0 = _
  rw [if_neg h, Nat.add_zero]
theorem z_congr {w w' : Nat → Nat} {P P' : Nat → Prop} : ∀ {n : Nat}, (∀ o, 1 ≤ o → o ≤ n → (P o ↔ P' o)) → (∀ o, 1 ≤ o → o ≤ n → P o → w o = w' o) → z_sum w P n = z_sum w' P' n
  | 0, _, _ => rfl
  | n + 1, h1, h2 => by
    have ih := z_congr (w := w) (w' := w') (P := P) (P' := P') (n := n) (fun o a b => h1 o a (by omega)) (fun o a b => h2 o a (by omega))
    by_cases hp : P (n + 1)
    · rw [z_yes hp, z_yes ((h1 (n + 1) (by omega) (Nat.le_refl _)).mp hp), ih, h2 (n + 1) (by omega) (Nat.le_refl _) hp]
    · rw [z_no hp, z_no (fun h => hp ((h1 (n + 1) (by omega) (Nat.le_refl _)).mpr h)), ih]
theorem z_le {w : Nat → Nat} {P P' : Nat → Prop} : ∀ {n : Nat}, (∀ o, 1 ≤ o → o ≤ n → P o → P' o) → z_sum w P n ≤ z_sum w P' n
  | 0, _ => Nat.le_refl _
  | n + 1, h => by
    have ih := z_le (w := w) (P := P) (P' := P') (n := n) (fun o a b => h o a (by omega))
    by_cases hp : P (n + 1)
    · rw [z_yes hp, z_yes (h (n + 1) (by omega) (Nat.le_refl _) hp)]; omega
    · rw [z_no hp]
      by_cases hq : P' (n + 1)
      · rw [z_yes hq]; omega
      · rw [z_no hq]; exact ih
theorem z_add {w : Nat → Nat} {P : Nat → Prop} {k : Nat} : ∀ {n : Nat}, 1 ≤ k → k ≤ n → ¬ P k → z_sum w (fun o => P o ∨ o = k) n = z_sum w P n + w k
  | 0, h1, h2, _ => absurd h2 (by omega)
  | n + 1, h1, h2, hk => by
    by_cases he : k = n + 1
    · subst he
      rw [z_yes (P := fun o => P o ∨ o = n + 1) (Or.inr rfl), z_no hk]
      have := z_congr (w := w) (w' := w) (P := fun o => P o ∨ o = n + 1) (P' := P) (n := n) (fun o a b => ⟨fun h => h.resolve_right (by omega), Or.inl⟩) (fun _ _ _ _ => rfl)
      rw [this]
    · have ih := z_add (w := w) (P := P) (k := k) (n := n) h1 (by omega) hk
      by_cases hp : P (n + 1)
      · rw [z_yes (P := fun o => P o ∨ o = k) (Or.inl hp), z_yes hp, ih]; omega
      · rw [z_no (P := fun o => P o ∨ o = k) (fun h => h.elim hp (fun h => he h.symm)), z_no hp, ih]
theorem z_none {w : Nat → Nat} {P : Nat → Prop} : ∀ {n : Nat}, (∀ o, 1 ≤ o → o ≤ n → ¬ P o) → z_sum w P n = 0
  | 0, _ => rfl
  | n + 1, h => by rw [z_no (h (n + 1) (by omega) (Nat.le_refl _))]; exact z_none (fun o a b => h o a (by omega))
theorem z_cnt (P : Nat → Prop) : ∀ n : Nat, z_sum (fun _ => 1) P n ≤ n
  | 0 => Nat.le_refl _
  | n + 1 => by
    have ih := z_cnt P n
    by_cases hp : P (n + 1)
    · rw [z_yes hp]; omega
    · rw [z_no hp]; omega
/-- what can be come to -/
def z_R (root : Nat → Prop) (ed : Nat → Nat → Prop) (o : Nat) : Prop := ∀ P : Nat → Prop, (∀ r, root r → P r) → (∀ a b, P a → ed a b → P b) → P o
theorem z_R.root {root : Nat → Prop} {ed : Nat → Nat → Prop} {o : Nat} (h : root o) : z_R root ed o := fun _ h1 _ => h1 o h
theorem z_R.step {root : Nat → Prop} {ed : Nat → Nat → Prop} {a b : Nat} (h : z_R root ed a) (he : ed a b) : z_R root ed b := fun P h1 h2 => h2 a b (h P h1 h2) he
/-- a work list: seen so far, still to be looked into (ps), roots and edges not yet looked at -/
def z_I (root : Nat → Prop) (ed : Nat → Nat → Prop) (n : Nat) (seen : Nat → Prop) (ps : List Nat) (rop : Nat → Prop) (op : Nat → Nat → Prop) : Prop :=
  ps.Nodup ∧ (∀ o, o ∈ ps → seen o) ∧ (∀ o, seen o → 1 ≤ o ∧ o ≤ n ∧ z_R root ed o) ∧ (∀ a b, seen a → a ∉ ps → ed a b → seen b ∨ op a b) ∧ ∀ r, root r → seen r ∨ rop r
theorem z_I.len {root : Nat → Prop} {ed : Nat → Nat → Prop} {n : Nat} {seen : Nat → Prop} (hs : ∀ o, seen o → 1 ≤ o ∧ o ≤ n) : ∀ {ps : List Nat}, ps.Nodup → (∀ o, o ∈ ps → seen o) → ps.length + z_sum (fun _ => 1) (fun o => seen o ∧ o ∉ ps) n = z_sum (fun _ => 1) seen n
  | [], _, _ => by
    rw [List.length_nil, Nat.zero_add]
    exact z_congr (fun o _ _ => ⟨fun h => h.1, fun h => ⟨h, List.not_mem_nil⟩⟩) (fun _ _ _ _ => rfl)
  | k :: ps, hn, hm => by
    have hk := hs k (hm k List.mem_cons_self)
    have hnk : k ∉ ps := (List.nodup_cons.mp hn).1
    have ih := z_I.len (root := root) (ed := ed) hs (List.nodup_cons.mp hn).2 (fun o h => hm o (List.mem_cons_of_mem _ h))
    have h2 := z_add (w := fun _ => 1) (P := fun o => seen o ∧ o ∉ k :: ps) (k := k) (n := n) hk.1 hk.2 (fun h => h.2 List.mem_cons_self)
    have h3 := z_congr (w := fun _ => 1) (w' := fun _ => 1) (P := fun o => (seen o ∧ o ∉ k :: ps) ∨ o = k) (P' := fun o => seen o ∧ o ∉ ps) (n := n) (fun o _ _ => ⟨fun h => h.elim (fun h => ⟨h.1, fun z => h.2 (List.mem_cons_of_mem _ z)⟩) (fun h => by subst h; exact ⟨hm _ List.mem_cons_self, hnk⟩), fun h => by
      by_cases e : o = k
      · exact Or.inr e
      · exact Or.inl ⟨h.1, fun z => (List.mem_cons.mp z).elim e h.2⟩⟩) (fun _ _ _ _ => rfl)
    rw [List.length_cons]
    omega
theorem z_I.room {root : Nat → Prop} {ed : Nat → Nat → Prop} {n : Nat} {seen : Nat → Prop} {ps : List Nat} {rop : Nat → Prop} {op : Nat → Nat → Prop} (h : z_I root ed n seen ps rop op) : ps.length + z_sum (fun _ => 1) (fun o => seen o ∧ o ∉ ps) n ≤ n := by
  rw [z_I.len (root := root) (ed := ed) (fun o z => ⟨(h.2.2.1 o z).1, (h.2.2.1 o z).2.1⟩) h.1 h.2.1]
  exact z_cnt _ n
/-- an object that was not seen yet: it is now, and waits -/
theorem z_I.visit {root : Nat → Prop} {ed : Nat → Nat → Prop} {n k : Nat} {seen : Nat → Prop} {ps : List Nat} {rop : Nat → Prop} {op : Nat → Nat → Prop} (h : z_I root ed n seen ps rop op) (h1 : 1 ≤ k) (h2 : k ≤ n) (hr : z_R root ed k) (hk : ¬ seen k) :
    z_I root ed n (fun o => seen o ∨ o = k) (k :: ps) rop op ∧ ∀ w : Nat → Nat, z_sum w (fun o => (seen o ∨ o = k) ∧ o ∉ k :: ps) n = z_sum w (fun o => seen o ∧ o ∉ ps) n := by
  obtain ⟨a1, a2, a3, a4, a5⟩ := h
  have hnk : k ∉ ps := fun z => hk (a2 k z)
  refine ⟨⟨List.nodup_cons.mpr ⟨hnk, a1⟩, fun o z => ?_, fun o z => ?_, fun a b z1 z2 z3 => ?_, fun r z => (a5 r z).elim (fun q => Or.inl (Or.inl q)) Or.inr⟩, fun w => ?_⟩
  · exact (List.mem_cons.mp z).elim Or.inr (fun q => Or.inl (a2 o q))
  · rcases z with z | rfl
    · exact a3 o z
    · exact ⟨h1, h2, hr⟩
  · have hak : a ≠ k := fun q => z2 (by rw [q]; exact List.mem_cons_self)
    exact (a4 a b (z1.resolve_right hak) (fun q => z2 (List.mem_cons_of_mem _ q)) z3).elim (fun q => Or.inl (Or.inl q)) Or.inr
  · refine z_congr (fun o _ _ => ⟨fun z => ?_, fun z => ?_⟩) (fun _ _ _ _ => rfl)
    · have hak : o ≠ k := fun q => z.2 (by rw [q]; exact List.mem_cons_self)
      exact ⟨z.1.resolve_right hak, fun q => z.2 (List.mem_cons_of_mem _ q)⟩
    · refine ⟨Or.inl z.1, fun q => ?_⟩
      rcases List.mem_cons.mp q with e | e
      · exact hk (by rw [← e]; exact z.1)
      · exact z.2 e
/-- one that waits is taken: its edges are to be looked at -/
theorem z_I.pop {root : Nat → Prop} {ed : Nat → Nat → Prop} {n k : Nat} {seen : Nat → Prop} {ps : List Nat} {rop : Nat → Prop} {op : Nat → Nat → Prop} (h : z_I root ed n seen (k :: ps) rop op) :
    z_I root ed n seen ps rop (fun a b => op a b ∨ a = k) ∧ (∀ w : Nat → Nat, z_sum w (fun o => seen o ∧ o ∉ ps) n = z_sum w (fun o => seen o ∧ o ∉ k :: ps) n + w k) ∧ 1 ≤ k ∧ k ≤ n ∧ z_R root ed k := by
  obtain ⟨a1, a2, a3, a4, a5⟩ := h
  have hnk : k ∉ ps := (List.nodup_cons.mp a1).1
  have hsk := a2 k List.mem_cons_self
  have hk := a3 k hsk
  refine ⟨⟨(List.nodup_cons.mp a1).2, fun o z => a2 o (List.mem_cons_of_mem _ z), a3, fun a b z1 z2 z3 => ?_, a5⟩, fun w => ?_, hk⟩
  · by_cases e : a = k
    · exact Or.inr (Or.inr e)
    · exact (a4 a b z1 (fun q => (List.mem_cons.mp q).elim e z2) z3).elim Or.inl (fun q => Or.inr (Or.inl q))
  · rw [← z_add (w := w) (P := fun o => seen o ∧ o ∉ k :: ps) (k := k) hk.1 hk.2.1 (fun z => z.2 List.mem_cons_self)]
    refine z_congr (fun o _ _ => ⟨fun z => ?_, fun z => ?_⟩) (fun _ _ _ _ => rfl)
    · by_cases e : o = k
      · exact Or.inr e
      · exact Or.inl ⟨z.1, fun q => (List.mem_cons.mp q).elim e z.2⟩
    · rcases z with z | rfl
      · exact ⟨z.1, fun q => z.2 (List.mem_cons_of_mem _ q)⟩
      · exact ⟨hsk, hnk⟩
theorem z_I.mono {root : Nat → Prop} {ed : Nat → Nat → Prop} {n : Nat} {seen : Nat → Prop} {ps : List Nat} {rop rop' : Nat → Prop} {op op' : Nat → Nat → Prop} (h : z_I root ed n seen ps rop op) (h1 : ∀ r, root r → rop r → seen r ∨ rop' r) (h2 : ∀ a b, seen a → a ∉ ps → ed a b → op a b → seen b ∨ op' a b) : z_I root ed n seen ps rop' op' :=
  ⟨h.1, h.2.1, h.2.2.1, fun a b z1 z2 z3 => (h.2.2.2.1 a b z1 z2 z3).elim Or.inl (h2 a b z1 z2 z3), fun r z => (h.2.2.2.2 r z).elim Or.inl (h1 r z)⟩
/-- nothing waits, nothing is left to be looked at: what was seen is what can be come to -/
theorem z_I.done {root : Nat → Prop} {ed : Nat → Nat → Prop} {n : Nat} {seen : Nat → Prop} (h : z_I root ed n seen [] (fun _ => False) (fun _ _ => False)) (o : Nat) : seen o ↔ z_R root ed o :=
  ⟨fun z => (h.2.2.1 o z).2.2, fun z => z seen (fun r q => (h.2.2.2.2 r q).resolve_right id) (fun a b q1 q2 => (h.2.2.2.1 a b q1 List.not_mem_nil q2).resolve_right id)⟩
theorem z_I.start {root : Nat → Prop} {ed : Nat → Nat → Prop} {n : Nat} {seen : Nat → Prop} (h : ∀ o, ¬ seen o) : z_I root ed n seen [] root (fun _ _ => False) :=
  ⟨List.nodup_nil, fun o z => absurd z List.not_mem_nil, fun o z => absurd z (h o), fun a _ z _ _ => absurd z (h a), fun _ z => Or.inr z⟩
end ZMath
