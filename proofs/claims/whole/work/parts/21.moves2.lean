/-! .. keep, new objects, cells -/
section CMoves2
variable {a : Ab} {g : y_G} {d ka sa : Nat} {cK cI : ClassId} {fk fs : Nat → Option Nat} {ad : Nat → Nat} {cs : Nat → List CL} {ks : List Nat} {itv us : Int32} {wk : Nat} {sn : Nat → Nat} {np : Nat → Option Nat} {pe : Option Nat}
theorem c_bit.y {X : Prop} (h : X) : c_bit X = 1 := @if_pos _ (Classical.propDecidable X) h _ _ _
theorem c_bit.n {X : Prop} (h : ¬ X) : c_bit X = 0 := @if_neg _ (Classical.propDecidable X) h _ _ _
theorem c_nx.none {o : Nat} : ∀ {ks : List Nat}, o ∉ ks → c_nx ks o = none
  | [], _ => rfl
  | x :: r, h => by
    show (if x = o then _ else c_nx r o) = _
    rw [if_neg (fun z => h (by rw [z]; exact List.mem_cons_self))]
    exact c_nx.none (fun z => h (List.mem_cons_of_mem _ z))
theorem c_nx.mem {o b : Nat} : ∀ {ks : List Nat}, c_nx ks o = some b → b ∈ ks
  | [], h => by cases h
  | x :: r, h => by
    have h : (if x = o then r.head? else c_nx r o) = some b := h
    by_cases e : x = o
    · rw [if_pos e] at h
      cases r with
      | nil => cases h
      | cons y t => cases h; exact List.mem_cons_of_mem _ List.mem_cons_self
    · rw [if_neg e] at h
      exact List.mem_cons_of_mem _ (c_nx.mem h)
/-- an object is kept that was not -/
theorem c_S.keepN (h : c_S a g d ka sa cK cI fk fs ad cs ks itv us wk sn np pe) {o x : Nat} (o1 : 1 ≤ o) (o2 : o ≤ a.n) (hx : fk (a.ok o) = some x) (hk : ¬ a.kp o) :
    c_S (a_keep a o) (va_up (va_up g (ad o) (some (e_item x (a_len a o) (nI (a_wd a o)) (c_hd (cs o)) (nI (a.nu o)) 1 (ks.head?.map ad) (nI (sn o)) (np o)))) d (some (e_desk ka sa (nI a.mem) (nI a.n) (nI (a.kc + 1)) (nI a.nn) itv (some (ad o)) us (nI wk) pe))) d ka sa cK cI fk fs ad cs (o :: ks) itv us wk sn np pe := by
  obtain ⟨n1, n2, n3⟩ := h.dne
  obtain ⟨⟨h1, h2, h3⟩, h4, h5, h6, h7, h8, h9, h10, h11⟩ := h
  obtain ⟨x0, y1, y2⟩ := h6 o o1 o2
  have hod : ad o ≠ d := c_ne y2 h1 (fun z => by cases z)
  have hoth : ∀ q e9, g q = some e9 → (∀ x, e9 ≠ .inr (4, x)) → (∀ x, e9 ≠ .inr (1, x)) → va_up (va_up g (ad o) (some (e_item x (a_len a o) (nI (a_wd a o)) (c_hd (cs o)) (nI (a.nu o)) 1 (ks.head?.map ad) (nI (sn o)) (np o)))) d (some (e_desk ka sa (nI a.mem) (nI a.n) (nI (a.kc + 1)) (nI a.nn) itv (some (ad o)) us (nI wk) pe)) q = some e9 := fun q e9 he hn hn2 => by
    rw [va_up_ne _ _ (c_ne he h1 (fun z => hn _ z)), va_up_ne _ _ (c_ne he y2 (fun z => hn2 _ z))]; exact he
  refine ⟨⟨by rw [va_up_self]; rfl, hoth _ _ h2 (fun x z => by cases z) (fun x z => by cases z), hoth _ _ h3 (fun x z => by cases z) (fun x z => by cases z)⟩, fun k hk => (h4 k hk).mono (fun x w m z => hoth _ _ z (fun x z => by cases z) (fun x z => by cases z)) (fun x w m z => hoth _ _ z (fun x z => by cases z) (fun x z => by cases z)), h5, fun o' a1 a2 => ?_, h7, fun o' a1 a2 => ⟨(h8 o' a1 a2).1.keep (fun y k nx v nm z => hoth _ _ z (fun x z => by cases z) (fun x z => by cases z)), (h8 o' a1 a2).2⟩, h9, List.nodup_cons.mpr ⟨fun z => hk ((h11 o).mpr z), h10⟩, fun z => ?_⟩
  · by_cases e : o' = o
    · subst e
      refine ⟨x, hx, ?_⟩
      rw [va_up_ne _ _ hod, va_up_self]
      show _ = some (e_item x (a_len a o') (nI (a_wd a o')) (c_hd (cs o')) (nI (a.nu o')) (c_bit (a.kp o' ∨ o' = o')) ((c_nx (o' :: ks) o').map ad) (nI (sn o')) (np o'))
      rw [c_bit.y (Or.inr rfl), show c_nx (o' :: ks) o' = ks.head? from if_pos rfl]
    · obtain ⟨x', z1, z2⟩ := h6 o' a1 a2
      refine ⟨x', z1, ?_⟩
      rw [c_it.eq (a := a) (ad := ad) (cs := cs) (ks := ks) (a' := a_keep a o) rfl rfl rfl rfl ⟨fun z => z.resolve_right e, Or.inl⟩ (by rw [c_nx.skip e]), va_up_ne _ _ (c_ne z2 h1 (fun z => by cases z)), va_up_ne _ _ (fun z => e (h7 o' o a1 a2 o1 o2 z))]
      exact z2
  · show (a.kp z ∨ z = o) ↔ _
    rw [List.mem_cons, h11 z]
    exact Or.comm
/-- a new object, in a slot -/
theorem c_S.new {cn : Nat} (hw : a_W a cn) (h : c_S a g d ka sa cK cI fk fs ad cs ks itv us wk sn np pe) {s k q x : Nat} {n us' : Int32} {g1 : y_G} (hq : g q = none) (hx : fk k = some x) (hl : x ≠ q)
    (hq1 : g1 q = some (e_item x (a_len (a_new a s k n) (a.n + 1)) (nI (a_wd (a_new a s k n) (a.n + 1))) none 0 0 none 0 none)) (hs1 : g1 sa = some (e_refs cI 32 (va_up fs s (some q)))) (hd1 : g1 d = some (e_desk ka sa (nI a.mem) (nI (a.n + 1)) (nI a.kc) (nI a.nn) itv (ks.head?.map ad) us' (nI wk) pe)) (ho1 : ∀ z, z ≠ q → z ≠ sa → z ≠ d → g1 z = g z) :
    c_S (a_new a s k n) g1 d ka sa cK cI fk (va_up fs s (some q)) (va_up ad (a.n + 1) q) (va_up cs (a.n + 1) []) ks itv us' wk (va_up sn (a.n + 1) 0) (va_up np (a.n + 1) none) pe := by
  obtain ⟨n1, n2, n3⟩ := h.dne
  obtain ⟨⟨h1, h2, h3⟩, h4, h5, h6, h7, h8, h9, h10, h11⟩ := h
  have hnx : ∀ z e, g z = some e → z ≠ q := fun z e z9 w => by rw [w, hq] at z9; cases z9
  have hoth : ∀ z e9, g z = some e9 → (∀ x, e9 ≠ .inr (4, x)) → (∀ x, e9 ≠ .inl x) → g1 z = some e9 := fun z e9 he hn hn2 => by
    rw [ho1 z (hnx _ _ he) (c_ne he h3 (fun z => hn2 _ z)) (c_ne he h1 (fun z => hn _ z))]; exact he
  have hks : ∀ b, b ∈ ks → b ≤ a.n := fun b hb => (hw.2.2.2.1 b ((h11 b).mpr hb)).2
  have hmap : ∀ r : Option Nat, (∀ b, r = some b → b ∈ ks) → r.map (va_up ad (a.n + 1) q) = r.map ad := fun r hr => by
    cases r with
    | none => rfl
    | some b =>
      have := hks b (hr b rfl)
      show some _ = some _
      rw [va_up_ne _ _ (by omega)]
  have hhd : ks.head?.map (va_up ad (a.n + 1) q) = ks.head?.map ad := hmap _ (fun b hb => by
    cases ks with
    | nil => cases hb
    | cons y t => cases hb; exact List.mem_cons_self)
  have hmid : ∀ o, (c_nx ks o).map (va_up ad (a.n + 1) q) = (c_nx ks o).map ad := fun o => hmap _ (fun b hb => c_nx.mem hb)
  have hob : ∀ o, o ≤ a.n → c_ob (va_up ad (a.n + 1) q) o = c_ob ad o := fun o ho => by
    unfold c_ob
    by_cases e : o = 0
    · rw [if_pos e, if_pos e]
    · rw [if_neg e, if_neg e, va_up_ne _ _ (by omega)]
  have hold : ∀ o, o ≤ a.n → (a_new a s k n).kd ((a_new a s k n).ok o) = a.kd (a.ok o) ∧ (a_new a s k n).sz o = a.sz o := fun o ho => ⟨by show a.kd (va_up a.ok (a.n + 1) k o) = _; rw [va_up_ne _ _ (by omega)], va_up_ne _ _ (by omega)⟩
  have hnk : (a.n + 1) ∉ ks := fun z => by have := hks _ z; omega
  refine ⟨⟨by rw [hhd]; exact hd1, ?_, hs1⟩, fun k hk => (h4 k hk).mono (fun x w m z => hoth _ _ z (fun x z => by cases z) (fun x z => by cases z)) (fun x w m z => hoth _ _ z (fun x z => by cases z) (fun x z => by cases z)), fun s' hs' => ?_, fun o' a1 a2 => ?_, fun o o' a1 a2 a3 a4 e => ?_, fun o' a1 a2 => ?_, fun o o' q1 q2 a1 a2 a3 a4 m1 m2 e => ?_, h10, h11⟩
  · rw [ho1 ka (hnx _ _ h2) n3 n1]; exact h2
  · show va_up fs s (some q) s' = c_ob (va_up ad (a.n + 1) q) (va_up a.sl s (a.n + 1) s')
    by_cases e : s' = s
    · rw [e, va_up_self, va_up_self]
      show _ = if a.n + 1 = 0 then none else some (va_up ad (a.n + 1) q (a.n + 1))
      rw [if_neg (by omega), va_up_self]
    · rw [va_up_ne _ _ e, va_up_ne _ _ e, hob _ (hw.2.2.1 s' hs')]; exact h5 s' hs'
  · by_cases e : o' = a.n + 1
    · subst e
      refine ⟨x, by show fk (va_up a.ok (a.n + 1) k (a.n + 1)) = _; rw [va_up_self]; exact hx, ?_⟩
      rw [va_up_self, hq1]
      show some (e_item x _ _ none 0 0 none 0 none) = some (e_item x _ _ (c_hd (va_up cs (a.n + 1) [] (a.n + 1))) (nI (a.nu (a.n + 1))) (c_bit (a.kp (a.n + 1))) ((c_nx ks (a.n + 1)).map _) (nI (va_up sn (a.n + 1) 0 (a.n + 1))) (va_up np (a.n + 1) none (a.n + 1)))
      rw [va_up_self, va_up_self, va_up_self, c_nx.none hnk, c_bit.n (fun z => hnk ((h11 _).mp z)), (hw.2.2.2.2.2.1 (a.n + 1) (by omega)).1]
      rfl
    · have a2 : o' ≤ a.n := by have : o' ≤ a.n + 1 := a2; omega
      obtain ⟨x', z1, z2⟩ := h6 o' a1 a2
      refine ⟨x', by show fk (va_up a.ok (a.n + 1) k o') = _; rw [va_up_ne _ _ e]; exact z1, ?_⟩
      rw [c_it.eq (a := a) (ad := ad) (cs := cs) (ks := ks) (a_len.eq (hold o' a2).1 (hold o' a2).2) (a_wd.eq (hold o' a2).1 (hold o' a2).2) (by rw [va_up_ne _ _ e]) rfl Iff.rfl (hmid o'), va_up_ne _ _ e, va_up_ne _ _ e, va_up_ne _ _ e]
      exact hoth _ _ z2 (fun x z => by cases z) (fun x z => by cases z)
  · have b2 : o ≤ a.n + 1 := a2
    have b4 : o' ≤ a.n + 1 := a4
    by_cases e1 : o = a.n + 1
    · by_cases e2 : o' = a.n + 1
      · omega
      · rw [e1, va_up_self, va_up_ne _ _ e2] at e
        obtain ⟨x', -, z2⟩ := h6 o' a3 (by omega)
        exact absurd e.symm (hnx _ _ z2)
    · by_cases e2 : o' = a.n + 1
      · rw [e2, va_up_self, va_up_ne _ _ e1] at e
        obtain ⟨x', -, z2⟩ := h6 o a1 (by omega)
        exact absurd e (hnx _ _ z2)
      · rw [va_up_ne _ _ e1, va_up_ne _ _ e2] at e
        exact h7 o o' a1 (by omega) a3 (by omega) e
  · by_cases e : o' = a.n + 1
    · subst e
      rw [va_up_self]
      exact ⟨trivial, fun z hz => absurd hz List.not_mem_nil, List.nodup_nil, fun k9 _ => (hw.2.2.2.2.2.1 (a.n + 1) (by omega)).2 k9⟩
    · have a2 : o' ≤ a.n := by have : o' ≤ a.n + 1 := a2; omega
      rw [va_up_ne _ _ e]
      exact ⟨(h8 o' a1 a2).1.keep (fun y k nx v nm z => hoth _ _ z (fun x z => by cases z) (fun x z => by cases z)), (h8 o' a1 a2).2.eq (fun k => a_ref.eq (hold o' a2).1) rfl (Nat.le_succ _) (fun b _ b2 => va_up_ne _ _ (by omega))⟩
  · have b2 : o ≤ a.n + 1 := a2
    have b4 : o' ≤ a.n + 1 := a4
    by_cases e1 : o = a.n + 1
    · rw [e1, va_up_self] at m1; exact absurd m1 List.not_mem_nil
    · by_cases e2 : o' = a.n + 1
      · rw [e2, va_up_self] at m2; exact absurd m2 List.not_mem_nil
      · rw [va_up_ne _ _ e1] at m1
        rw [va_up_ne _ _ e2] at m2
        exact h9 o o' q1 q2 a1 (by omega) a3 (by omega) m1 m2 e
theorem c_fd_n {k : Int32} : ∀ {L : List CL}, c_fd k L = none → ∀ q, q ∈ L → q.2.1 ≠ k
  | [], _, q, hq => absurd hq List.not_mem_nil
  | z :: r, h, q, hq => by
    have h : (if z.2.1 = k then some z.1 else c_fd k r) = none := h
    by_cases e : z.2.1 = k
    · rw [if_pos e] at h; cases h
    · rw [if_neg e] at h
      rcases List.mem_cons.mp hq with e1 | e1
      · rw [e1]; exact e
      · exact c_fd_n h q e1
theorem c_fd_s {k : Int32} {y : Nat} : ∀ {L : List CL}, c_fd k L = some y → ∃ q, q ∈ L ∧ q.2.1 = k ∧ q.1 = y
  | [], h => by cases h
  | z :: r, h => by
    have h : (if z.2.1 = k then some z.1 else c_fd k r) = some y := h
    by_cases e : z.2.1 = k
    · rw [if_pos e] at h; cases h; exact ⟨z, List.mem_cons_self, e, rfl⟩
    · rw [if_neg e] at h
      obtain ⟨q, q1, q2⟩ := c_fd_s h
      exact ⟨q, List.mem_cons_of_mem _ q1, q2⟩
/-- a cell is added, with nothing in it -/
theorem c_S.add (h : c_S a g d ka sa cK cI fk fs ad cs ks itv us wk sn np pe) {o x q : Nat} {k : Int32} (o1 : 1 ≤ o) (o2 : o ≤ a.n) (hx : fk (a.ok o) = some x) (hq : g q = none) (hf : c_fd k (cs o) = none) :
    c_S a (va_up (va_up g q (some (e_cell k (c_hd (cs o)) 0 none))) (ad o) (some (e_item x (a_len a o) (nI (a_wd a o)) (some q) (nI (a.nu o)) (c_bit (a.kp o)) ((c_nx ks o).map ad) (nI (sn o)) (np o)))) d ka sa cK cI fk fs ad (va_up cs o ((q, k, 0, none) :: cs o)) ks itv us wk sn np pe := by
  obtain ⟨n1, n2, n3⟩ := h.dne
  obtain ⟨⟨h1, h2, h3⟩, h4, h5, h6, h7, h8, h9, h10⟩ := h
  obtain ⟨x0, y1, y2⟩ := h6 o o1 o2
  have hnx : ∀ z e, g z = some e → z ≠ q := fun z e z9 w => by rw [w, hq] at z9; cases z9
  have hqo : q ≠ ad o := fun z => hnx _ _ y2 z.symm
  have hoth : ∀ z e9, g z = some e9 → (∀ x, e9 ≠ .inr (1, x)) → va_up (va_up g q (some (e_cell k (c_hd (cs o)) 0 none))) (ad o) (some (e_item x (a_len a o) (nI (a_wd a o)) (some q) (nI (a.nu o)) (c_bit (a.kp o)) ((c_nx ks o).map ad) (nI (sn o)) (np o))) z = some e9 := fun z e9 he hn => by
    rw [va_up_ne _ _ (c_ne he y2 (fun z => hn _ z)), va_up_ne _ _ (hnx _ _ he)]; exact he
  have h0 : a.ct o k = 0 := (h8 o o1 o2).2.2.2 k (c_fd_n hf)
  have hnew : ∀ o' q', 1 ≤ o' → o' ≤ a.n → q' ∈ cs o' → q'.1 ≠ q := fun o' q' a1 a2 hm => by
    obtain ⟨nx, hn⟩ := (h8 o' a1 a2).1.at q' hm
    exact hnx _ _ hn
  refine ⟨⟨hoth _ _ h1 (fun x z => by cases z), hoth _ _ h2 (fun x z => by cases z), hoth _ _ h3 (fun x z => by cases z)⟩, fun k hk => (h4 k hk).mono (fun x w m z => hoth _ _ z (fun x z => by cases z)) (fun x w m z => hoth _ _ z (fun x z => by cases z)), h5, fun o' a1 a2 => ?_, h7, fun o' a1 a2 => ?_, fun o' o'' q1 q2 a1 a2 a3 a4 m1 m2 e => ?_, h10⟩
  · by_cases e : o' = o
    · subst e
      refine ⟨x, hx, ?_⟩
      rw [va_up_self]
      unfold c_it
      rw [va_up_self]
      rfl
    · obtain ⟨x', z1, z2⟩ := h6 o' a1 a2
      refine ⟨x', z1, ?_⟩
      rw [c_it.eq (a := a) (ad := ad) (cs := cs) (ks := ks) rfl rfl (by rw [va_up_ne _ _ e]) rfl Iff.rfl rfl, va_up_ne _ _ (fun z => e (h7 o' o a1 a2 o1 o2 z)), va_up_ne _ _ (hnx _ _ z2)]
      exact z2
  · by_cases e : o' = o
    · subst e
      rw [va_up_self]
      obtain ⟨g1, g2, g3, g4⟩ := h8 o' a1 a2
      refine ⟨⟨by rw [va_up_ne _ _ hqo, va_up_self], g1.keep (fun y k nx v nm z => hoth _ _ z (fun x z => by cases z))⟩, fun z hz => ?_, ?_, fun k9 hk9 => g4 k9 (fun z hz => hk9 z (List.mem_cons_of_mem _ hz))⟩
      · rcases List.mem_cons.mp hz with e1 | e1
        · subst e1; exact ⟨fun _ => ⟨h0.symm, rfl⟩, fun _ => Or.inl ⟨h0, rfl⟩⟩
        · exact g2 z e1
      · rw [List.map_cons]
        refine List.nodup_cons.mpr ⟨fun z => ?_, g3⟩
        obtain ⟨q9, m1, m2⟩ := List.mem_map.mp z
        exact c_fd_n hf q9 m1 m2
    · rw [va_up_ne _ _ e]
      exact ⟨(h8 o' a1 a2).1.keep (fun y k nx v nm z => hoth _ _ z (fun x z => by cases z)), (h8 o' a1 a2).2⟩
  · by_cases e1 : o' = o
    · by_cases e2 : o'' = o
      · omega
      · subst e1
        rw [va_up_self] at m1
        rw [va_up_ne _ _ e2] at m2
        rcases List.mem_cons.mp m1 with e3 | e3
        · subst e3; exact absurd e.symm (hnew o'' q2 a3 a4 m2)
        · exact h9 o' o'' q1 q2 a1 a2 a3 a4 e3 m2 e
    · rw [va_up_ne _ _ e1] at m1
      by_cases e2 : o'' = o
      · subst e2
        rw [va_up_self] at m2
        rcases List.mem_cons.mp m2 with e3 | e3
        · subst e3; exact absurd e (hnew o' q1 a1 a2 m1)
        · exact h9 o' o'' q1 q2 a1 a2 a3 a4 m1 e3 e
      · rw [va_up_ne _ _ e2] at m2
        exact h9 o' o'' q1 q2 a1 a2 a3 a4 m1 m2 e
/-- what a write does to a list of cells -/
def c_set (k : Int32) (v : Int64) (nm : Option Nat) (z : CL) : CL := if z.2.1 = k then (z.1, z.2.1, v, nm) else z
theorem c_set_1 (k : Int32) (v : Int64) (nm : Option Nat) (z : CL) : (c_set k v nm z).1 = z.1 ∧ (c_set k v nm z).2.1 = z.2.1 := by
  unfold c_set
  by_cases e : z.2.1 = k
  · rw [if_pos e]; exact ⟨rfl, rfl⟩
  · rw [if_neg e]; exact ⟨rfl, rfl⟩
theorem c_set_hd {k : Int32} {v : Int64} {nm : Option Nat} : ∀ L : List CL, c_hd (L.map (c_set k v nm)) = c_hd L
  | [] => rfl
  | z :: r => congrArg some (c_set_1 k v nm z).1
theorem c_set_ch {g : y_G} {k : Int32} {v : Int64} {nm nx : Option Nat} {q : CL} (hk : q.2.1 = k) (hg : g q.1 = some (e_cell k nx q.2.2.1 q.2.2.2)) : ∀ {L : List CL}, c_ch g L → (∀ z, z ∈ L → z.2.1 = k → z = q) → c_ch (va_up g q.1 (some (e_cell k nx v nm))) (L.map (c_set k v nm))
  | [], _, _ => trivial
  | z :: r, h, hz => by
    refine ⟨?_, c_set_ch hk hg h.2 (fun y hy => hz y (List.mem_cons_of_mem _ hy))⟩
    rw [c_set_hd]
    unfold c_set
    by_cases e : z.2.1 = k
    · have e1 := hz z List.mem_cons_self e
      rw [if_pos e]
      subst e1
      have h1 := h.1
      rw [hg] at h1
      injection h1 with h1
      injection h1 with h1
      injection h1 with h0 h1
      injection h1 with h2 h3
      injection h3 with h4 h5
      have h6 : nx = c_hd r := by
        cases nx with
        | none =>
          cases hh : c_hd r with
          | none => rfl
          | some y => rw [hh] at h4; cases h4
        | some x =>
          cases hh : c_hd r with
          | none => rw [hh] at h4; cases h4
          | some y => rw [hh] at h4; cases h4; rfl
      rw [va_up_self, h6, e]
    · rw [if_neg e, va_up_ne _ _ (fun w => e ?_)]
      · exact h.1
      · have h1 := h.1
        rw [w, hg] at h1
        injection h1 with h1
        injection h1 with h1
        injection h1 with h0 h1
        injection h1 with h2 h3
        injection h2 with h2
        exact h2.symm
theorem c_uniq : ∀ {L : List CL}, (L.map (fun q : CL => q.2.1)).Nodup → ∀ q z, q ∈ L → z ∈ L → z.2.1 = q.2.1 → z = q
  | [], _, q, _, hq, _, _ => absurd hq List.not_mem_nil
  | y :: r, h, q, z, hq, hz, e => by
    rw [List.map_cons] at h
    obtain ⟨h1, h2⟩ := List.nodup_cons.mp h
    rcases List.mem_cons.mp hq with e1 | e1 <;> rcases List.mem_cons.mp hz with e2 | e2
    · rw [e1, e2]
    · exact absurd (List.mem_map.mpr ⟨z, e2, by rw [e, e1]⟩) h1
    · exact absurd (List.mem_map.mpr ⟨q, e1, by rw [← e, e2]⟩) h1
    · exact c_uniq h2 q z e1 e2 e
/-- a cell is written -/
theorem c_S.putc (h : c_S a g d ka sa cK cI fk fs ad cs ks itv us wk sn np pe) {o : Nat} {k : Int32} {v w : Int64} {nm nx : Option Nat} {q : CL} (o1 : 1 ≤ o) (o2 : o ≤ a.n) (hq : q ∈ cs o) (hk : q.2.1 = k) (hg : g q.1 = some (e_cell k nx q.2.2.1 q.2.2.2)) (hok : ∀ y, c_okc (a_putc a o k w) ad o (y, k, v, nm)) :
    c_S (a_putc a o k w) (va_up g q.1 (some (e_cell k nx v nm))) d ka sa cK cI fk fs ad (va_up cs o ((cs o).map (c_set k v nm))) ks itv us wk sn np pe := by
  obtain ⟨n1, n2, n3⟩ := h.dne
  obtain ⟨⟨h1, h2, h3⟩, h4, h5, h6, h7, h8, h9, h10⟩ := h
  have hoth : ∀ z e9, g z = some e9 → (∀ x, e9 ≠ .inr (0, x)) → va_up g q.1 (some (e_cell k nx v nm)) z = some e9 := fun z e9 he hn => by
    rw [va_up_ne _ _ (c_ne he hg (fun z => hn _ z))]; exact he
  refine ⟨⟨hoth _ _ h1 (fun x z => by cases z), hoth _ _ h2 (fun x z => by cases z), hoth _ _ h3 (fun x z => by cases z)⟩, fun k hk => (h4 k hk).mono (fun x w m z => hoth _ _ z (fun x z => by cases z)) (fun x w m z => hoth _ _ z (fun x z => by cases z)), h5, fun o' a1 a2 => ?_, h7, fun o' a1 a2 => ?_, fun o' o'' q1 q2 a1 a2 a3 a4 m1 m2 e => ?_, h10⟩
  · obtain ⟨x', z1, z2⟩ := h6 o' a1 a2
    refine ⟨x', z1, ?_⟩
    rw [c_it.eq (a := a) (ad := ad) (cs := cs) (ks := ks) (a' := a_putc a o k w) rfl rfl (by
      by_cases e : o' = o
      · rw [e, va_up_self, c_set_hd]
      · rw [va_up_ne _ _ e]) rfl Iff.rfl rfl]
    exact hoth _ _ z2 (fun x z => by cases z)
  · by_cases e : o' = o
    · subst e
      rw [va_up_self]
      obtain ⟨g1, g2, g3, g4⟩ := h8 o' a1 a2
      refine ⟨c_set_ch hk hg g1 (fun z hz e => c_uniq g3 q z hq hz (by rw [e, hk])), fun z hz => ?_, ?_, fun k9 hk9 => ?_⟩
      · obtain ⟨y, y1, y2⟩ := List.mem_map.mp hz
        subst y2
        unfold c_set
        by_cases e : y.2.1 = k
        · rw [if_pos e, e]; exact hok y.1
        · rw [if_neg e]
          have hct : (a_putc a o' k w).ct o' y.2.1 = a.ct o' y.2.1 := by
            show va_up a.ct o' (fun z => if z = k then w else a.ct o' z) o' y.2.1 = _
            rw [va_up_self]; exact if_neg e
          unfold c_okc
          rw [hct]
          exact g2 y y1
      · rw [List.map_map, show (fun q : CL => q.2.1) ∘ c_set k v nm = (fun q : CL => q.2.1) from funext (fun z => (c_set_1 k v nm z).2)]
        exact g3
      · have hne : k9 ≠ k := fun z => hk9 (c_set k v nm q) (List.mem_map.mpr ⟨q, hq, rfl⟩) (by rw [(c_set_1 k v nm q).2, hk, z])
        show va_up a.ct o' (fun z => if z = k then w else a.ct o' z) o' k9 = _
        rw [va_up_self, if_neg hne]
        exact g4 k9 (fun z hz e => hk9 (c_set k v nm z) (List.mem_map.mpr ⟨z, hz, rfl⟩) (by rw [(c_set_1 k v nm z).2, e]))
    · rw [va_up_ne _ _ e]
      refine ⟨(h8 o' a1 a2).1.mono (fun z hz e9 he => ?_), (h8 o' a1 a2).2.eq (fun k => Iff.rfl) (va_up_ne _ _ e) (Nat.le_refl _) (fun _ _ _ => rfl)⟩
      rw [va_up_ne _ _ (fun w9 => e (h9 o' o z q a1 a2 o1 o2 hz hq w9))]; exact he
  · have back : ∀ o9 q9, q9 ∈ va_up cs o ((cs o).map (c_set k v nm)) o9 → ∃ z, z ∈ cs o9 ∧ z.1 = q9.1 := fun o9 q9 hm => by
      by_cases e : o9 = o
      · rw [e, va_up_self] at hm
        obtain ⟨y, y1, y2⟩ := List.mem_map.mp hm
        exact ⟨y, by rw [e]; exact y1, by rw [← y2]; exact (c_set_1 k v nm y).1.symm⟩
      · rw [va_up_ne _ _ e] at hm; exact ⟨q9, hm, rfl⟩
    obtain ⟨z1, y1, y2⟩ := back _ _ m1
    obtain ⟨z2, y3, y4⟩ := back _ _ m2
    exact h9 o' o'' z1 z2 a1 a2 a3 a4 y1 y3 (by rw [y2, y4]; exact e)
end CMoves2
