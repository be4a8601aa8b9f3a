/-! how the class holds the memory: its objects, slots, kinds, cells; what a walk does to it -/
section CRep
/-- an object's address, none for 0 -/
def c_ob (ad : Nat → Nat) (o : Nat) : Option Nat := if o = 0 then none else some (ad o)
noncomputable def c_bit (X : Prop) : Int32 := @ite _ X (Classical.propDecidable _) 1 0
/-- who comes behind o in a chain -/
def c_nx : List Nat → Nat → Option Nat
  | [], _ => none
  | x :: r, o => if x = o then r.head? else c_nx r o
def c_bits (r : Int32) : Int32 := [32, 8, 16, 32, 64].getD r.toNatClampNeg 0
def c_kq (g : y_G) (x : Nat) (q : Int32 × Int32 × Int32) : Prop := (q.1 < 0 ∧ g x = some (e_plain q.2.1 q.2.2)) ∨ (¬ q.1 < 0 ∧ g x = some (e_row q.1 (c_bits q.1)))
def c_kn (a : Ab) (g : y_G) (fk : Nat → Option Nat) (k : Nat) : Prop := (a.kd k = none ∧ fk k = none) ∨ ∃ q x, a.kd k = some q ∧ fk k = some x ∧ c_kq g x q
/-- a cell holds what it must -/
def c_okc (a : Ab) (ad : Nat → Nat) (o : Nat) (q : CL) : Prop := (¬ a_ref a o q.2.1 → q.2.2.1 = a.ct o q.2.1 ∧ q.2.2.2 = none) ∧ (a_ref a o q.2.1 → (a.ct o q.2.1 = 0 ∧ q.2.2.2 = none) ∨ ∃ b, 1 ≤ b ∧ b ≤ a.n ∧ a.ct o q.2.1 = lN b ∧ q.2.2.2 = some (ad b))
def c_okL (a : Ab) (ad : Nat → Nat) (o : Nat) (L : List CL) : Prop := (∀ q, q ∈ L → c_okc a ad o q) ∧ (L.map (fun q => q.2.1)).Nodup ∧ ∀ k : Int32, (∀ q, q ∈ L → q.2.1 ≠ k) → a.ct o k = 0
noncomputable abbrev c_it (a : Ab) (ad : Nat → Nat) (cs : Nat → List CL) (ks : List Nat) (x : Nat) (sv : Int32) (nv : Option Nat) (o : Nat) : va_E := e_item x (a_len a o) (nI (a_wd a o)) (c_hd (cs o)) (nI (a.nu o)) (c_bit (a.kp o)) ((c_nx ks o).map ad) sv nv
/-- the class's world holds the memory a -/
def c_S (a : Ab) (g : y_G) (d ka sa : Nat) (cK cI : ClassId) (fk fs : Nat → Option Nat) (ad : Nat → Nat) (cs : Nat → List CL) (ks : List Nat) (itv us : Int32) (wk : Nat) (sn : Nat → Nat) (np : Nat → Option Nat) (pe : Option Nat) : Prop :=
  (g d = some (e_desk ka sa (nI a.mem) (nI a.n) (nI a.kc) (nI a.nn) itv (ks.head?.map ad) us (nI wk) pe) ∧ g ka = some (e_refs cK 16 fk) ∧ g sa = some (e_refs cI 32 fs)) ∧
  (∀ k, k < 16 → c_kn a g fk k) ∧ (∀ s, s < 32 → fs s = c_ob ad (a.sl s)) ∧
  (∀ o, 1 ≤ o → o ≤ a.n → ∃ x, fk (a.ok o) = some x ∧ g (ad o) = some (c_it a ad cs ks x (nI (sn o)) (np o) o)) ∧ (∀ o o', 1 ≤ o → o ≤ a.n → 1 ≤ o' → o' ≤ a.n → ad o = ad o' → o = o') ∧
  (∀ o, 1 ≤ o → o ≤ a.n → c_ch g (cs o) ∧ c_okL a ad o (cs o)) ∧ (∀ o o' q q', 1 ≤ o → o ≤ a.n → 1 ≤ o' → o' ≤ a.n → q ∈ cs o → q' ∈ cs o' → q.1 = q'.1 → o = o') ∧
  ks.Nodup ∧ ∀ o, a.kp o ↔ o ∈ ks
theorem c_ch.mono {g g' : y_G} : ∀ {L : List CL}, c_ch g L → (∀ q, q ∈ L → ∀ e, g q.1 = some e → g' q.1 = some e) → c_ch g' L
  | [], _, _ => trivial
  | q :: r, h, hg => ⟨hg q List.mem_cons_self _ h.1, c_ch.mono h.2 (fun z hz => hg z (List.mem_cons_of_mem _ hz))⟩
theorem c_ch.at {g : y_G} : ∀ {L : List CL}, c_ch g L → ∀ q, q ∈ L → ∃ nx, g q.1 = some (e_cell q.2.1 nx q.2.2.1 q.2.2.2)
  | [], _, q, hq => absurd hq List.not_mem_nil
  | z :: r, h, q, hq => (List.mem_cons.mp hq).elim (fun e => by rw [e]; exact ⟨_, h.1⟩) (fun e => c_ch.at h.2 q e)
/-- the world changes at objects and at the desk alone -/
theorem c_S.move {a : Ab} {g g' : y_G} {d ka sa : Nat} {cK cI : ClassId} {fk fs : Nat → Option Nat} {ad : Nat → Nat} {cs : Nat → List CL} {ks : List Nat} {itv us us' : Int32} {wk wk' : Nat} {sn sn' : Nat → Nat} {np np' : Nat → Option Nat} {pe pe' : Option Nat}
    (h : c_S a g d ka sa cK cI fk fs ad cs ks itv us wk sn np pe) (hd : g' d = some (e_desk ka sa (nI a.mem) (nI a.n) (nI a.kc) (nI a.nn) itv (ks.head?.map ad) us' (nI wk') pe'))
    (hit : ∀ o x, 1 ≤ o → o ≤ a.n → fk (a.ok o) = some x → g (ad o) = some (c_it a ad cs ks x (nI (sn o)) (np o) o) → g' (ad o) = some (c_it a ad cs ks x (nI (sn' o)) (np' o) o))
    (hoth : ∀ q e, g q = some e → (∀ fs, e ≠ .inr (1, fs)) → (∀ fs, e ≠ .inr (4, fs)) → g' q = some e) : c_S a g' d ka sa cK cI fk fs ad cs ks itv us' wk' sn' np' pe' := by
  obtain ⟨⟨h1, h2, h3⟩, h4, h5, h6, h7, h8, h9, h10⟩ := h
  refine ⟨⟨hd, hoth _ _ h2 (fun fs z => by cases z) (fun fs z => by cases z), hoth _ _ h3 (fun fs z => by cases z) (fun fs z => by cases z)⟩, fun k hk => ?_, h5, fun o a1 a2 => ?_, h7, fun o a1 a2 => ⟨(h8 o a1 a2).1.mono (fun q hq e he => ?_), (h8 o a1 a2).2⟩, h9, h10⟩
  · rcases h4 k hk with z | ⟨q, x, z1, z2, z3⟩
    · exact Or.inl z
    · refine Or.inr ⟨q, x, z1, z2, ?_⟩
      rcases z3 with ⟨y1, y2⟩ | ⟨y1, y2⟩
      · exact Or.inl ⟨y1, hoth _ _ y2 (fun fs z => by cases z) (fun fs z => by cases z)⟩
      · exact Or.inr ⟨y1, hoth _ _ y2 (fun fs z => by cases z) (fun fs z => by cases z)⟩
  · obtain ⟨x, z1, z2⟩ := h6 o a1 a2
    exact ⟨x, z1, hit o x a1 a2 z1 z2⟩
  · obtain ⟨nx, hn⟩ := (h8 o a1 a2).1.at q hq
    rw [hn] at he
    cases he
    exact hoth _ _ hn (fun fs z => by cases z) (fun fs z => by cases z)
/-- .. at the desk alone -/
theorem c_S.desk {a : Ab} {g : y_G} {d ka sa : Nat} {cK cI : ClassId} {fk fs : Nat → Option Nat} {ad : Nat → Nat} {cs : Nat → List CL} {ks : List Nat} {itv us us' : Int32} {wk wk' : Nat} {sn : Nat → Nat} {np : Nat → Option Nat} {pe pe' : Option Nat}
    (h : c_S a g d ka sa cK cI fk fs ad cs ks itv us wk sn np pe) : c_S a (va_up g d (some (e_desk ka sa (nI a.mem) (nI a.n) (nI a.kc) (nI a.nn) itv (ks.head?.map ad) us' (nI wk') pe'))) d ka sa cK cI fk fs ad cs ks itv us' wk' sn np pe' := by
  refine h.move (va_up_self _ _ _) (fun o x _ _ _ hg => ?_) (fun q e he _ h4 => ?_)
  · rw [va_up_ne _ _ (c_ne hg h.1.1 (fun z => by cases z))]; exact hg
  · rw [va_up_ne _ _ (c_ne he h.1.1 (fun z => h4 _ z))]; exact he
/-- .. at one object and at the desk -/
theorem c_S.item {a : Ab} {g : y_G} {d ka sa : Nat} {cK cI : ClassId} {fk fs : Nat → Option Nat} {ad : Nat → Nat} {cs : Nat → List CL} {ks : List Nat} {itv us us' : Int32} {wk wk' : Nat} {sn : Nat → Nat} {np : Nat → Option Nat} {pe pe' : Option Nat} {o x s' : Nat} {nv : Option Nat}
    (h : c_S a g d ka sa cK cI fk fs ad cs ks itv us wk sn np pe) (h1 : 1 ≤ o) (h2 : o ≤ a.n) (hx : fk (a.ok o) = some x) :
    c_S a (va_up (va_up g (ad o) (some (c_it a ad cs ks x (nI s') nv o))) d (some (e_desk ka sa (nI a.mem) (nI a.n) (nI a.kc) (nI a.nn) itv (ks.head?.map ad) us' (nI wk') pe'))) d ka sa cK cI fk fs ad cs ks itv us' wk' (va_up sn o s') (va_up np o nv) pe' := by
  obtain ⟨x0, hx0, hg0⟩ := h.2.2.2.1 o h1 h2
  have hod : ad o ≠ d := c_ne hg0 h.1.1 (fun z => by cases z)
  refine h.move (va_up_self _ _ _) (fun o1 x1 a1 a2 a3 hg => ?_) (fun q e he h3 h4 => ?_)
  · by_cases e : o1 = o
    · subst e
      rw [hx] at a3
      cases a3
      rw [va_up_ne _ _ hod, va_up_self, va_up_self, va_up_self]
    · have hne : ad o1 ≠ ad o := fun z => e (h.2.2.2.2.1 o1 o a1 a2 h1 h2 z)
      rw [va_up_ne _ _ (c_ne hg h.1.1 (fun z => by cases z)), va_up_ne _ _ hne, va_up_ne _ _ e, va_up_ne _ _ e]; exact hg
  · rw [va_up_ne _ _ (c_ne he h.1.1 (fun z => h4 _ z)), va_up_ne _ _ (c_ne he hg0 (fun z => h3 _ z))]; exact he
/-- a walk is under way: ps are the objects that wait -/
def c_J (a : Ab) (g : y_G) (d ka sa : Nat) (cK cI : ClassId) (fk fs : Nat → Option Nat) (ad : Nat → Nat) (cs : Nat → List CL) (ks : List Nat) (itv us : Int32) (wk : Nat) (sn : Nat → Nat) (np : Nat → Option Nat) (ps : List Nat) : Prop :=
  c_S a g d ka sa cK cI fk fs ad cs ks itv us wk sn np (ps.head?.map ad) ∧ (∀ o, 1 ≤ o → o ≤ a.n → sn o ≤ wk) ∧ ∀ o, o ∈ ps → np o = (c_nx ps o).map ad
/-- seen in this walk -/
def c_sn (a : Ab) (sn : Nat → Nat) (wk : Nat) (o : Nat) : Prop := 1 ≤ o ∧ o ≤ a.n ∧ sn o = wk
theorem c_sn.up {a : Ab} {sn : Nat → Nat} {wk k : Nat} (h1 : 1 ≤ k) (h2 : k ≤ a.n) : c_sn a (va_up sn k wk) wk = fun o => c_sn a sn wk o ∨ o = k := by
  funext o
  apply propext
  constructor
  · rintro ⟨g1, g2, g3⟩
    by_cases e : o = k
    · exact Or.inr e
    · rw [va_up_ne _ _ e] at g3; exact Or.inl ⟨g1, g2, g3⟩
  · rintro (⟨g1, g2, g3⟩ | rfl)
    · by_cases e : o = k
      · subst e; exact ⟨g1, g2, va_up_self _ _ _⟩
      · exact ⟨g1, g2, by rw [va_up_ne _ _ e]; exact g3⟩
    · exact ⟨h1, h2, va_up_self _ _ _⟩
/-- an object is come to for the first time -/
theorem c_J.visit {a : Ab} {g : y_G} {d ka sa : Nat} {cK cI : ClassId} {fk fs : Nat → Option Nat} {ad : Nat → Nat} {cs : Nat → List CL} {ks : List Nat} {itv us : Int32} {wk : Nat} {sn : Nat → Nat} {np : Nat → Option Nat} {ps : List Nat} {o x : Nat}
    (h : c_J a g d ka sa cK cI fk fs ad cs ks itv us wk sn np ps) (h1 : 1 ≤ o) (h2 : o ≤ a.n) (hx : fk (a.ok o) = some x) (ho : o ∉ ps) :
    c_J a (va_up (va_up g (ad o) (some (c_it a ad cs ks x (nI wk) (ps.head?.map ad) o))) d (some (e_desk ka sa (nI a.mem) (nI a.n) (nI a.kc) (nI a.nn) itv (ks.head?.map ad) us (nI wk) (some (ad o))))) d ka sa cK cI fk fs ad cs ks itv us wk (va_up sn o wk) (va_up np o (ps.head?.map ad)) (o :: ps) := by
  refine ⟨h.1.item h1 h2 hx, fun z z1 z2 => ?_, fun z hz => ?_⟩
  · by_cases e : z = o
    · rw [e, va_up_self]; exact Nat.le_refl _
    · rw [va_up_ne _ _ e]; exact h.2.1 z z1 z2
  · rcases List.mem_cons.mp hz with e | e
    · subst e; rw [va_up_self]; simp [c_nx]
    · have hne : z ≠ o := fun w => ho (by rw [← w]; exact e)
      rw [va_up_ne _ _ hne, h.2.2 z e]
      show _ = Option.map ad (if o = z then ps.head? else c_nx ps z)
      rw [if_neg (fun w => hne w.symm)]
theorem c_nx.skip {o k : Nat} {ps : List Nat} (h : o ≠ k) : c_nx (k :: ps) o = c_nx ps o := if_neg (fun z => h z.symm)
theorem c_up3 {g : y_G} {d y : Nat} {e1 e2 e3 : Option va_E} (h : y ≠ d) : va_up (va_up (va_up g d e1) y e2) d e3 = va_up (va_up g y e2) d e3 := by
  funext q
  by_cases h1 : q = d
  · subst h1; rw [va_up_self, va_up_self]
  · rw [va_up_ne _ _ h1, va_up_ne _ _ h1]
    by_cases h2 : q = y
    · subst h2; rw [va_up_self, va_up_self]
    · rw [va_up_ne _ _ h2, va_up_ne _ _ h2, va_up_ne _ _ h1]
end CRep
