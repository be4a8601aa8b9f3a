/-! what each change of the world does to what the class holds -/
section CMoves
variable {a : Ab} {g : y_G} {d ka sa : Nat} {cK cI : ClassId} {fk fs : Nat → Option Nat} {ad : Nat → Nat} {cs : Nat → List CL} {ks : List Nat} {itv us : Int32} {wk : Nat} {sn : Nat → Nat} {np : Nat → Option Nat} {pe : Option Nat}
theorem c_kn.mono {a : Ab} {g g' : y_G} {fk : Nat → Option Nat} {k : Nat} (h : c_kn a g fk k) (hp : ∀ x w m, g x = some (e_plain w m) → g' x = some (e_plain w m)) (hr : ∀ x el bi, g x = some (e_row el bi) → g' x = some (e_row el bi)) : c_kn a g' fk k := by
  rcases h with z | ⟨q, x, z1, z2, z3⟩
  · exact Or.inl z
  · refine Or.inr ⟨q, x, z1, z2, ?_⟩
    rcases z3 with ⟨y1, y2⟩ | ⟨y1, y2⟩
    · exact Or.inl ⟨y1, hp _ _ _ y2⟩
    · exact Or.inr ⟨y1, hr _ _ _ y2⟩
theorem c_kq.eq {g g' : y_G} {x : Nat} {q : Int32 × Int32 × Int32} (h : c_kq g x q) (hg : g' x = g x) : c_kq g' x q := by
  rcases h with ⟨y1, y2⟩ | ⟨y1, y2⟩
  · exact Or.inl ⟨y1, hg.trans y2⟩
  · exact Or.inr ⟨y1, hg.trans y2⟩
theorem c_ch.keep {g g' : y_G} {L : List CL} (h : c_ch g L) (hc : ∀ y k nx v nm, g y = some (e_cell k nx v nm) → g' y = some (e_cell k nx v nm)) : c_ch g' L := h.mono (fun q hq e he => by
  obtain ⟨nx, hn⟩ := h.at q hq
  rw [hn] at he
  cases he
  exact hc _ _ _ _ _ hn)
theorem c_it.eq {a a' : Ab} {ad ad' : Nat → Nat} {cs cs' : Nat → List CL} {ks ks' : List Nat} {x : Nat} {sv : Int32} {nv : Option Nat} {o : Nat} (h1 : a_len a' o = a_len a o) (h2 : a_wd a' o = a_wd a o) (h3 : c_hd (cs' o) = c_hd (cs o)) (h4 : a'.nu o = a.nu o) (h5 : a'.kp o ↔ a.kp o) (h6 : (c_nx ks' o).map ad' = (c_nx ks o).map ad) : c_it a' ad' cs' ks' x sv nv o = c_it a ad cs ks x sv nv o := by
  unfold c_it
  rw [h1, h2, h3, h4, h6, propext h5]
theorem c_okL.eq {a a' : Ab} {ad ad' : Nat → Nat} {o : Nat} {L : List CL} (h : c_okL a ad o L) (h1 : ∀ k, a_ref a' o k ↔ a_ref a o k) (h2 : a'.ct o = a.ct o) (h3 : a.n ≤ a'.n) (h4 : ∀ b, 1 ≤ b → b ≤ a.n → ad' b = ad b) : c_okL a' ad' o L := by
  obtain ⟨g1, g2, g3⟩ := h
  refine ⟨fun q hq => ⟨fun z => ?_, fun z => ?_⟩, g2, fun k z => by rw [h2]; exact g3 k z⟩
  · rw [h2]; exact (g1 q hq).1 (fun y => z ((h1 _).mpr y))
  · rw [h2]
    rcases (g1 q hq).2 ((h1 _).mp z) with y | ⟨b, b1, b2, b3, b4⟩
    · exact Or.inl y
    · exact Or.inr ⟨b, b1, by omega, b3, by rw [h4 b b1 b2]; exact b4⟩
theorem c_1632 {x y : ClassId} {f f' : Nat → Option Nat} : e_refs x 16 f ≠ e_refs y 32 f' := fun z => by
  injection z with z
  injection z with z1 z2
  injection z2 with z3 z4
  exact absurd z3 (by decide)
theorem c_S.dne (h : c_S a g d ka sa cK cI fk fs ad cs ks itv us wk sn np pe) : ka ≠ d ∧ sa ≠ d ∧ ka ≠ sa := ⟨c_ne h.1.2.1 h.1.1 (fun z => by cases z), c_ne h.1.2.2 h.1.1 (fun z => by cases z), c_ne h.1.2.1 h.1.2.2 c_1632⟩
/-- a slot holds another -/
theorem c_S.slot (h : c_S a g d ka sa cK cI fk fs ad cs ks itv us wk sn np pe) {s o : Nat} {v : Option Nat} (hv : v = c_ob ad o) : c_S (a_puts a s o) (va_up g sa (some (e_refs cI 32 (va_up fs s v)))) d ka sa cK cI fk (va_up fs s v) ad cs ks itv us wk sn np pe := by
  obtain ⟨n1, n2, n3⟩ := h.dne
  obtain ⟨⟨h1, h2, h3⟩, h4, h5, h6, h7, h8, h9, h10⟩ := h
  have hoth : ∀ q e, g q = some e → (∀ x, e ≠ .inl x) → va_up g sa (some (e_refs cI 32 (va_up fs s v))) q = some e := fun q e he hn => by
    rw [va_up_ne _ _ (c_ne he h3 (fun z => hn _ z))]; exact he
  refine ⟨⟨hoth _ _ h1 (fun x z => by cases z), by rw [va_up_ne _ _ n3]; exact h2, va_up_self _ _ _⟩, fun k hk => (h4 k hk).mono (fun x w m z => hoth _ _ z (fun x z => by cases z)) (fun x w m z => hoth _ _ z (fun x z => by cases z)), fun s' hs' => ?_, fun o' a1 a2 => ?_, h7, fun o' a1 a2 => ⟨(h8 o' a1 a2).1.keep (fun y k nx v nm z => hoth _ _ z (fun x z => by cases z)), (h8 o' a1 a2).2⟩, h9, h10⟩
  · show va_up fs s v s' = c_ob ad (va_up a.sl s o s')
    by_cases e : s' = s
    · rw [e, va_up_self, va_up_self, hv]
    · rw [va_up_ne _ _ e, va_up_ne _ _ e]; exact h5 s' hs'
  · obtain ⟨x, z1, z2⟩ := h6 o' a1 a2
    exact ⟨x, z1, hoth _ _ z2 (fun x z => by cases z)⟩
/-- the desk's own numbers alone change -/
theorem c_S.nums {a' : Ab} (h : c_S a g d ka sa cK cI fk fs ad cs ks itv us wk sn np pe) {itv' us' : Int32} (e1 : a'.kd = a.kd) (e2 : a'.n = a.n) (e3 : a'.ok = a.ok) (e4 : a'.sz = a.sz) (e5 : a'.nu = a.nu) (e6 : a'.ct = a.ct) (e7 : a'.sl = a.sl) (e8 : ∀ o, a'.kp o ↔ a.kp o) :
    c_S a' (va_up g d (some (e_desk ka sa (nI a'.mem) (nI a'.n) (nI a'.kc) (nI a'.nn) itv' (ks.head?.map ad) us' (nI wk) pe))) d ka sa cK cI fk fs ad cs ks itv' us' wk sn np pe := by
  obtain ⟨n1, n2, n3⟩ := h.dne
  obtain ⟨⟨h1, h2, h3⟩, h4, h5, h6, h7, h8, h9, h10, h11⟩ := h
  have hoth : ∀ q e, g q = some e → (∀ x, e ≠ .inr (4, x)) → va_up g d (some (e_desk ka sa (nI a'.mem) (nI a'.n) (nI a'.kc) (nI a'.nn) itv' (ks.head?.map ad) us' (nI wk) pe)) q = some e := fun q e he hn => by
    rw [va_up_ne _ _ (c_ne he h1 (fun z => hn _ z))]; exact he
  refine ⟨⟨va_up_self _ _ _, by rw [va_up_ne _ _ n1]; exact h2, by rw [va_up_ne _ _ n2]; exact h3⟩, fun k hk => ?_, fun s' hs' => by rw [e7]; exact h5 s' hs', fun o' a1 a2 => ?_, fun o o' a1 a2 a3 a4 => h7 o o' a1 (by omega) a3 (by omega), fun o' a1 a2 => ?_, fun o o' q q' a1 a2 a3 a4 => h9 o o' q q' a1 (by omega) a3 (by omega), h10, fun o => (e8 o).trans (h11 o)⟩
  · have := (h4 k hk).mono (g' := va_up g d (some (e_desk ka sa (nI a'.mem) (nI a'.n) (nI a'.kc) (nI a'.nn) itv' (ks.head?.map ad) us' (nI wk) pe))) (fun x w m z => hoth _ _ z (fun x z => by cases z)) (fun x w m z => hoth _ _ z (fun x z => by cases z))
    unfold c_kn at this ⊢
    rw [e1]; exact this
  · rw [e2] at a2
    obtain ⟨x, z1, z2⟩ := h6 o' a1 a2
    refine ⟨x, by rw [e3]; exact z1, ?_⟩
    rw [c_it.eq (a := a) (ad := ad) (cs := cs) (ks := ks) (a_len.eq (by rw [e1, e3]) (by rw [e4])) (a_wd.eq (by rw [e1, e3]) (by rw [e4])) rfl (by rw [e5]) (e8 o') rfl]
    exact hoth _ _ z2 (fun x z => by cases z)
  · rw [e2] at a2
    exact ⟨(h8 o' a1 a2).1.keep (fun y k nx v nm z => hoth _ _ z (fun x z => by cases z)), (h8 o' a1 a2).2.eq (fun k => a_ref.eq (by rw [e1, e3])) (by rw [e6]) (by omega) (fun _ _ _ => rfl)⟩
/-- a kind is defined -/
theorem c_S.kind (h : c_S a g d ka sa cK cI fk fs ad cs ks itv us wk sn np pe) {k x : Nat} {q : Int32 × Int32 × Int32} {e : va_E} (hk : k < 16) (hno : a.kd k = none) (hx : g x = none) (he : c_kq (va_up g x (some e)) x q) :
    c_S (a_kind a k q) (va_up (va_up g x (some e)) ka (some (e_refs cK 16 (va_up fk k (some x))))) d ka sa cK cI (va_up fk k (some x)) fs ad cs ks itv us wk sn np pe := by
  obtain ⟨n1, n2, n3⟩ := h.dne
  obtain ⟨⟨h1, h2, h3⟩, h4, h5, h6, h7, h8, h9, h10⟩ := h
  have hfk : fk k = none := by
    rcases h4 k hk with z | ⟨q, x, z1, -⟩
    · exact z.2
    · rw [hno] at z1; cases z1
  have hnx : ∀ q e, g q = some e → q ≠ x := fun q e z w => by rw [w, hx] at z; cases z
  have hxk : x ≠ ka := fun w => hnx ka _ h2 w.symm
  have hoth : ∀ q e9, g q = some e9 → q ≠ ka → va_up (va_up g x (some e)) ka (some (e_refs cK 16 (va_up fk k (some x)))) q = some e9 := fun q e9 he hn => by
    rw [va_up_ne _ _ hn, va_up_ne _ _ (hnx _ _ he)]; exact he
  have hoth2 : ∀ q e9, g q = some e9 → (∀ x, e9 ≠ .inl x) → va_up (va_up g x (some e)) ka (some (e_refs cK 16 (va_up fk k (some x)))) q = some e9 := fun q e9 he hn => hoth q e9 he (c_ne he h2 (fun z => hn _ z))
  have hok : ∀ o, 1 ≤ o → o ≤ a.n → a.ok o ≠ k := fun o a1 a2 z => by
    obtain ⟨x, z1, -⟩ := h6 o a1 a2
    rw [z, hfk] at z1; cases z1
  have hkd : ∀ o, 1 ≤ o → o ≤ a.n → (a_kind a k q).kd ((a_kind a k q).ok o) = a.kd (a.ok o) := fun o a1 a2 => va_up_ne _ _ (hok o a1 a2)
  refine ⟨⟨hoth2 _ _ h1 (fun x z => by cases z), va_up_self _ _ _, hoth _ _ h3 (fun z => n3 z.symm)⟩, fun k' hk' => ?_, h5, fun o' a1 a2 => ?_, h7, fun o' a1 a2 => ⟨(h8 o' a1 a2).1.keep (fun y k nx v nm z => hoth2 _ _ z (fun x z => by cases z)), (h8 o' a1 a2).2.eq (fun k => a_ref.eq (hkd o' a1 a2)) rfl (Nat.le_refl _) (fun _ _ _ => rfl)⟩, h9, h10⟩
  · by_cases e1 : k' = k
    · subst e1
      exact Or.inr ⟨q, x, va_up_self _ _ _, va_up_self _ _ _, he.eq (va_up_ne _ _ hxk)⟩
    · have := (h4 k' hk').mono (fun x w m z => hoth2 _ _ z (fun x z => by cases z)) (fun x w m z => hoth2 _ _ z (fun x z => by cases z))
      unfold c_kn at this ⊢
      rw [show (a_kind a k q).kd k' = a.kd k' from va_up_ne _ _ e1, show va_up fk k (some x) k' = fk k' from va_up_ne _ _ e1]
      exact this
  · obtain ⟨x', z1, z2⟩ := h6 o' a1 a2
    refine ⟨x', by show va_up fk k (some x) (a.ok o') = _; rw [va_up_ne _ _ (hok o' a1 a2)]; exact z1, ?_⟩
    rw [c_it.eq (a := a) (ad := ad) (cs := cs) (ks := ks) (a_len.eq (hkd o' a1 a2) rfl) (a_wd.eq (hkd o' a1 a2) rfl) rfl rfl Iff.rfl rfl]
    exact hoth2 _ _ z2 (fun x z => by cases z)
/-- an object is numbered -/
theorem c_S.numb (h : c_S a g d ka sa cK cI fk fs ad cs ks itv us wk sn np pe) {o x : Nat} (o1 : 1 ≤ o) (o2 : o ≤ a.n) (hx : fk (a.ok o) = some x) :
    c_S (a_numb a o) (va_up (va_up g d (some (e_desk ka sa (nI a.mem) (nI a.n) (nI a.kc) (nI (a.nn + 1)) itv (ks.head?.map ad) us (nI wk) pe))) (ad o) (some (e_item x (a_len a o) (nI (a_wd a o)) (c_hd (cs o)) (nI (a.nn + 1)) (c_bit (a.kp o)) ((c_nx ks o).map ad) (nI (sn o)) (np o)))) d ka sa cK cI fk fs ad cs ks itv us wk sn np pe := by
  obtain ⟨n1, n2, n3⟩ := h.dne
  obtain ⟨⟨h1, h2, h3⟩, h4, h5, h6, h7, h8, h9, h10⟩ := h
  obtain ⟨x0, y1, y2⟩ := h6 o o1 o2
  have hod : ad o ≠ d := c_ne y2 h1 (fun z => by cases z)
  have hoth : ∀ q e9, g q = some e9 → (∀ x, e9 ≠ .inr (4, x)) → (∀ x, e9 ≠ .inr (1, x)) → va_up (va_up g d (some (e_desk ka sa (nI a.mem) (nI a.n) (nI a.kc) (nI (a.nn + 1)) itv (ks.head?.map ad) us (nI wk) pe))) (ad o) (some (e_item x (a_len a o) (nI (a_wd a o)) (c_hd (cs o)) (nI (a.nn + 1)) (c_bit (a.kp o)) ((c_nx ks o).map ad) (nI (sn o)) (np o))) q = some e9 := fun q e9 he hn hn2 => by
    rw [va_up_ne _ _ (c_ne he y2 (fun z => hn2 _ z)), va_up_ne _ _ (c_ne he h1 (fun z => hn _ z))]; exact he
  refine ⟨⟨by rw [va_up_ne _ _ hod.symm, va_up_self]; rfl, hoth _ _ h2 (fun x z => by cases z) (fun x z => by cases z), hoth _ _ h3 (fun x z => by cases z) (fun x z => by cases z)⟩, fun k hk => (h4 k hk).mono (fun x w m z => hoth _ _ z (fun x z => by cases z) (fun x z => by cases z)) (fun x w m z => hoth _ _ z (fun x z => by cases z) (fun x z => by cases z)), h5, fun o' a1 a2 => ?_, h7, fun o' a1 a2 => ⟨(h8 o' a1 a2).1.keep (fun y k nx v nm z => hoth _ _ z (fun x z => by cases z) (fun x z => by cases z)), (h8 o' a1 a2).2⟩, h9, h10⟩
  by_cases e : o' = o
  · subst e
    refine ⟨x, hx, ?_⟩
    rw [va_up_self]
    show _ = some (e_item x (a_len a o') (nI (a_wd a o')) (c_hd (cs o')) (nI (va_up a.nu o' (a.nn + 1) o')) (c_bit (a.kp o')) ((c_nx ks o').map ad) (nI (sn o')) (np o'))
    rw [va_up_self]
  · obtain ⟨x', z1, z2⟩ := h6 o' a1 a2
    refine ⟨x', z1, ?_⟩
    rw [c_it.eq (a := a) (ad := ad) (cs := cs) (ks := ks) (a' := a_numb a o) rfl rfl rfl (va_up_ne _ _ e) Iff.rfl rfl, va_up_ne _ _ (fun z => e (h7 o' o a1 a2 o1 o2 z)), va_up_ne _ _ (c_ne z2 h1 (fun z => by cases z))]
    exact z2
end CMoves
