/-! what can be come to behind each change; how a method's end is told -/
section CReach
variable {a : Ab} {cn : Nat}
theorem r_puts {s o : Nat} (ho : o = 0 ∨ a_R a o) {z : Nat} (h : a_R (a_puts a s o) z) : a_R a z := by
  refine h (a_R a) (fun r hr => ?_) (fun x b hx he => z_R.step hx he)
  rcases hr with ⟨s', h1, h2, h3⟩ | hk
  · have h2 : va_up a.sl s o s' = r := h2
    by_cases e : s' = s
    · rw [e, va_up_self] at h2
      subst h2
      exact ho.resolve_left h3
    · rw [va_up_ne _ _ e] at h2
      exact z_R.root (Or.inl ⟨s', h1, h2, h3⟩)
  · exact z_R.root (Or.inr hk)
theorem a_kind.old (hw : a_W a cn) {k : Nat} {q : Int32 × Int32 × Int32} (hk : a.kd k = none) {o : Nat} (h1 : 1 ≤ o) (h2 : o ≤ a.n) : (a_kind a k q).kd ((a_kind a k q).ok o) = a.kd (a.ok o) := by
  refine va_up_ne _ _ (fun z => ?_)
  obtain ⟨-, q', hq, -⟩ := hw.2.1 o h1 h2
  have z : a.ok o = k := z
  rw [z, hk] at hq
  cases hq
theorem r_kind (hw : a_W a cn) {k : Nat} {q : Int32 × Int32 × Int32} (hk : a.kd k = none) {z : Nat} (h : a_R (a_kind a k q) z) : a_R a z := by
  refine h (a_R a) (fun r hr => z_R.root hr) (fun x b hx he => z_R.step hx ?_)
  obtain ⟨h1, h2, h3, h4, k', h5, h6⟩ := he
  exact ⟨h1, h2, h3, h4, k', (a_ref.eq (a_kind.old hw hk h1 h2)).mp h5, h6⟩
theorem a_new.old {s k : Nat} {n : Int32} {o : Nat} (h2 : o ≤ a.n) : (a_new a s k n).kd ((a_new a s k n).ok o) = a.kd (a.ok o) ∧ (a_new a s k n).sz o = a.sz o :=
  ⟨by show a.kd (va_up a.ok (a.n + 1) k o) = _; rw [va_up_ne _ _ (by omega)], va_up_ne _ _ (by omega)⟩
theorem r_new (hw : a_W a cn) (hcn : cn < 2 ^ 30) {s k : Nat} {n : Int32} {z : Nat} (h : a_R (a_new a s k n) z) : (a_R a z ∧ z ≤ a.n) ∨ z = a.n + 1 := by
  have hn : a.n ≤ cn := hw.2.2.2.2.2.2.2.2.2.1
  refine h (fun z => (a_R a z ∧ z ≤ a.n) ∨ z = a.n + 1) (fun r hr => ?_) (fun x b hx he => ?_)
  · have hin : ∀ r, a_root a r → (a_R a r ∧ r ≤ a.n) ∨ r = a.n + 1 := fun r hr => Or.inl ⟨z_R.root hr, (a_R.in hw (z_R.root hr)).2⟩
    rcases hr with ⟨s', h1, h2, h3⟩ | hk
    · have h2 : va_up a.sl s (a.n + 1) s' = r := h2
      by_cases e : s' = s
      · rw [e, va_up_self] at h2
        exact Or.inr h2.symm
      · rw [va_up_ne _ _ e] at h2
        exact hin r (Or.inl ⟨s', h1, h2, h3⟩)
    · exact hin r (Or.inr hk)
  · obtain ⟨h1, h2, h3, h4, k', h5, h6⟩ := he
    have h2 : x ≤ a.n + 1 := h2
    have h4 : b ≤ a.n + 1 := h4
    have h6 : a.ct x k' = lN b := h6
    have b0 : ∀ b' : Nat, b' ≤ a.n → a.ct x k' = lN b' → b = b' := fun b' hb z => (lN_eq (by omega) (by omega)).mp (h6.symm.trans z)
    rcases hx with ⟨hx, hx2⟩ | hx
    · have h5 := (a_ref.eq (a_new.old hx2).1).mp h5
      obtain ⟨b', b1, b2⟩ := hw.2.2.2.2.1 x k' h1 hx2 h5
      have e := b0 b' b1 b2
      exact Or.inl ⟨z_R.step hx ⟨h1, hx2, h3, by omega, k', h5, h6⟩, by omega⟩
    · have e := b0 0 (by omega) ((hw.2.2.2.2.2.1 x (by omega)).2 k')
      omega
theorem a_putc.ct {o : Nat} {k : Int32} {v : Int64} {x : Nat} {k' : Int32} (h : ¬ (x = o ∧ k' = k)) : (a_putc a o k v).ct x k' = a.ct x k' := by
  show va_up a.ct o (fun z => if z = k then v else a.ct o z) x k' = _
  by_cases e : x = o
  · rw [e, va_up_self]
    exact if_neg (fun z => h ⟨e, z⟩)
  · rw [va_up_ne _ _ e]
theorem a_putc.self {o : Nat} {k : Int32} {v : Int64} : (a_putc a o k v).ct o k = v := by
  show va_up a.ct o (fun z => if z = k then v else a.ct o z) o k = _
  rw [va_up_self]
  exact if_pos rfl
theorem r_putv {o : Nat} {k : Int32} {v : Int64} (hr : ¬ a_ref a o k) {z : Nat} (h : a_R (a_putc a o k v) z) : a_R a z := by
  refine h (a_R a) (fun r hr => z_R.root hr) (fun x b hx he => z_R.step hx ?_)
  obtain ⟨h1, h2, h3, h4, k', h5, h6⟩ := he
  have h5 : a_ref a x k' := h5
  rw [a_putc.ct (fun z => hr (by rw [← z.1, ← z.2]; exact h5))] at h6
  exact ⟨h1, h2, h3, h4, k', h5, h6⟩
theorem r_putr (hw : a_W a cn) (hcn : cn < 2 ^ 30) {o : Nat} {k : Int32} {t : Nat} (ht : t < 32) {z : Nat} (h : a_R (a_putc a o k (lN (a.sl t))) z) : a_R a z := by
  have hn : a.n ≤ cn := hw.2.2.2.2.2.2.2.2.2.1
  refine h (a_R a) (fun r hr => z_R.root hr) (fun x b hx he => ?_)
  obtain ⟨h1, h2, h3, h4, k', h5, h6⟩ := he
  have h4 : b ≤ a.n := h4
  by_cases e : x = o ∧ k' = k
  · rw [e.1, e.2, a_putc.self] at h6
    have hs := hw.2.2.1 t ht
    have e2 : a.sl t = b := (lN_eq (by omega) (by omega)).mp h6
    rw [← e2]
    exact a_R.sl ht (by omega)
  · rw [a_putc.ct e] at h6
    exact z_R.step hx ⟨h1, h2, h3, h4, k', h5, h6⟩
theorem r_keep {o : Nat} (ho : a_R a o) {z : Nat} (h : a_R (a_keep a o) z) : a_R a z := by
  refine h (a_R a) (fun r hr => ?_) (fun x b hx he => z_R.step hx he)
  rcases hr with hs | hk | hk
  · exact z_R.root (Or.inl hs)
  · exact z_R.root (Or.inr hk)
  · rw [hk]; exact ho
/-- the class holds what it held, or another memory with as many objects -/
theorem c_R.of {cK cI : ClassId} {a a' : Ab} {g : y_G} {d ka sa : Nat} {fk fs : Nat → Option Nat} {ad : Nat → Nat} {cs : Nat → List CL} {ks : List Nat} {itv : Int32} {u wk cn : Nat} {sn : Nat → Nat} {np : Nat → Option Nat} {lv : Nat → Prop}
    (hC : c_S a' g d ka sa cK cI fk fs ad cs ks itv (nI u) wk sn np none) (hsn : ∀ o, 1 ≤ o → o ≤ a.n → sn o ≤ wk) (hwk : wk ≤ cn) (hu : u = z_sum (a_wd a) lv a.n) (hum : u ≤ a'.mem) (hlv : ∀ o, a_R a o → lv o) (hn : a'.n = a.n) (hwd : ∀ o, 1 ≤ o → o ≤ a.n → a_wd a' o = a_wd a o) (hR : ∀ o, a_R a' o → a_R a o) : c_R cK cI a' g d (cn + 1) :=
  ⟨ka, sa, fk, fs, ad, cs, ks, itv, u, wk, sn, np, lv, hC, fun o a1 a2 => hsn o a1 (by omega), by omega, by rw [hu, hn]; exact (z_congr (fun _ _ _ => Iff.rfl) (fun o a1 a2 _ => hwd o a1 a2)).symm, hum, fun o z => hlv o (hR o z)⟩
theorem w_bad {Es : List String} {E : String} {i cn cn' d : Nat} {cK cI : ClassId} {S : An} {g : y_G} (hi : Es[i]? = some E) (h : S = (i + 1, none, a)) (hR : c_R cK cI a g d cn) (hc : cn ≤ cn' + 1) : x_out Es S (.inr E) ∧ c_R cK cI S.2.2 g d (cn' + 1) := by
  subst h
  exact ⟨⟨E, hi, rfl⟩, hR.up hc⟩
theorem w_good {Es : List String} {cn d : Nat} {cK cI : ClassId} {S : An} {v : Option Value} {a' : Ab} {g : y_G} (h : S = (0, v, a')) (hR : c_R cK cI a' g d (cn + 1)) : x_out Es S (.inl v) ∧ c_R cK cI S.2.2 g d (cn + 1) := by
  subst h
  exact ⟨rfl, hR⟩
end CReach
