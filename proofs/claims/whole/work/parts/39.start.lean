/-! rows for the constructor of the reference and for the law's beginning -/
section SStart
theorem c_R.use {cK cI : ClassId} {a : Ab} {g : y_G} {d cn : Nat} (h : c_R cK cI a g d cn) : a_use a ≤ a.mem := by
  obtain ⟨ka, sa, fk, fs, ad, cs, ks, itv, u, hT⟩ := h.T
  have h1 := hT.le
  obtain ⟨wk, sn, np, lv, -, -, -, -, h5, -⟩ := hT
  omega
/-- the reference's state at first -/
def m_0 : MS := ((fun _ _ => 0), (fun _ => 0), (fun k => if k = 9 then 65536 else 0))
theorem m_R.zero : m_R a_0 m_0 0 := by
  refine ⟨fun k _ => Or.inl ⟨rfl, rfl⟩, ⟨rfl, rfl, rfl, rfl⟩, fun o o1 o2 => absurd o2 (by show ¬ o ≤ 0; omega), fun _ _ _ => rfl, fun _ _ => rfl, fun o z => z.elim, fun i z => absurd z (Nat.not_lt_zero _), 0, Nat.le_refl _, rfl, fun i z => absurd z (Nat.not_lt_zero _), fun o k o1 o2 => absurd o2 (by show ¬ o ≤ 0; omega)⟩
/-- a world that grows: the indices L so far -/
def m_Gl (L : List Nat) (r : Nat → Nat) (F : Nat → va_E) : y_G := fun q => (L.find? (fun i => r i == q)).map F
def m_il (L : List Nat) (r : Nat → Nat) : Prop := ∀ i, i ∈ L → ∀ j, j ∈ L → r i = r j → i = j
variable {L : List Nat} {r : Nat → Nat} {F : Nat → va_E}
theorem m_lat_ (hr : m_il L r) {i : Nat} (hi : i ∈ L) : m_Gl L r F (r i) = some (F i) := by
  unfold m_Gl
  cases h : L.find? (fun j => r j == r i) with
  | none => exact absurd (beq_self_eq_true (r i)) (by simpa using List.find?_eq_none.mp h i hi)
  | some j =>
    have h1 : r j = r i := by simpa using List.find?_some h
    have h2 := hr j (List.mem_of_find?_eq_some h) i hi h1
    rw [h2]; rfl
theorem m_lput {e : va_E} (hr : m_il L r) {i : Nat} (hi : i ∈ L) : va_up (m_Gl L r F) (r i) (some e) = m_Gl L r (va_up F i e) := by
  funext q
  by_cases hq : q = r i
  · rw [hq, va_up_self, m_lat_ hr hi, va_up_self]
  · rw [va_up_ne _ _ hq]
    unfold m_Gl
    cases hf : L.find? (fun j => r j == q) with
    | none => rfl
    | some j =>
      have h1 : r j = q := by simpa using List.find?_some hf
      have h2 : j ≠ i := fun z => hq (by rw [← h1, z])
      show some (F j) = some (va_up F i e j)
      rw [va_up_ne _ _ h2]
theorem m_lno {q i : Nat} (h : m_Gl L r F q = none) (hi : i ∈ L) : r i ≠ q := fun z => by
  unfold m_Gl at h
  cases hf : L.find? (fun j => r j == q) with
  | none => exact absurd (show (r i == q) = true by simpa using z) (by simpa using List.find?_eq_none.mp hf i hi)
  | some j => rw [hf] at h; cases h
theorem m_linj {q k : Nat} (hr : m_il L r) (h : m_Gl L r F q = none) (hk : k ∉ L) : m_il (k :: L) (va_up r k q) := by
  have ho : ∀ i, i ∈ L → va_up r k q i = r i := fun i hi => va_up_ne _ _ (fun z => hk (by rw [← z]; exact hi))
  intro i hi j hj e
  rcases List.mem_cons.mp hi with e1 | e1 <;> rcases List.mem_cons.mp hj with e2 | e2
  · rw [e1, e2]
  · rw [e1, va_up_self, ho j e2] at e; exact absurd e.symm (m_lno h e2)
  · rw [e2, va_up_self, ho i e1] at e; exact absurd e (m_lno h e1)
  · rw [ho i e1, ho j e2] at e; exact hr i e1 j e2 e
theorem m_fcg {p1 p2 : Nat → Bool} : ∀ {L : List Nat}, (∀ i, i ∈ L → p1 i = p2 i) → L.find? p1 = L.find? p2
  | [], _ => rfl
  | x :: t, h => by
    rw [List.find?_cons, List.find?_cons, h x List.mem_cons_self, m_fcg (fun i hi => h i (List.mem_cons_of_mem _ hi))]
theorem m_lnew {q k : Nat} {e : va_E} (hr : m_il L r) (h : m_Gl L r F q = none) (hk : k ∉ L) : va_up (m_Gl L r F) q (some e) = m_Gl (k :: L) (va_up r k q) (va_up F k e) := by
  have ho : ∀ i, i ∈ L → va_up r k q i = r i := fun i hi => va_up_ne _ _ (fun z => hk (by rw [← z]; exact hi))
  have hi := m_linj hr h hk
  funext z
  by_cases hz : z = q
  · have h1 := m_lat_ (F := va_up F k e) hi (i := k) List.mem_cons_self
    rw [va_up_self, va_up_self] at h1
    rw [hz, va_up_self, h1]
  · rw [va_up_ne _ _ hz]
    unfold m_Gl
    have hne : (va_up r k q k == z) = false := by rw [va_up_self]; simpa using fun w => hz (Eq.symm w)
    rw [List.find?_cons, hne]
    show Option.map F (L.find? (fun i => r i == z)) = Option.map (va_up F k e) (L.find? (fun i => va_up r k q i == z))
    have hL : L.find? (fun i => va_up r k q i == z) = L.find? (fun i => r i == z) := m_fcg (fun i hi => by rw [ho i hi])
    rw [hL]
    cases hf : L.find? (fun i => r i == z) with
    | none => rfl
    | some j =>
      show some (F j) = some (va_up F k e j)
      rw [va_up_ne _ _ (fun w => hk (by rw [← w]; exact List.mem_of_find?_eq_some hf))]
end SStart
