set_option maxHeartbeats 8000000 in
set_option maxRecDepth 100000 in
/-- reachable(): the entries of one object are looked at -/
theorem c_mr_E (l : Launch) (D : va_G) (cK cI cN cZ cL : ClassId) (r : Nat → Nat) (hri : m_inj r) (S : MS) (a : Ab) (cn : Nat) (hw : a_W a cn) (hc : cn ≤ 512) (hR : m_R a S cn) {p : Program} {e : Env} {s : State} {m : MethodId} {below : List Frame} {meth : Method} {c : Code} {A : Nat → Prop} {QQ : State → Prop} (hx : p.tables.exec = Jvm.exec) (hb : c.code = b_Mo_reachable) (hml : c.maxLocals = 7) (hown : s.vm.findClass R_Mo = some m.cls) (hts : ∀ w ∈ x_tbl, w.before ([.ref (r 20)] : List Value).toArray s = true) (hK : va_K D vwCl (x_tys cK cI cN cZ cL) s) (hE : w_E D (x_tys cK cI cN cZ cL) A s s.heap) (hA0 : ∀ q, s.heap.size ≤ q → A q) (en : Nat) (r11 : en ≤ cn) (r12 : S.2.2 14 = nI en) (r14 : ∀ o k, 1 ≤ o → o ≤ a.n → a.ct o k = m_lat S (nI o) k en) (o : Nat) (o1 : 1 ≤ o) (o2 : o ≤ a.n) (hRo : a_R a o) (f : Nat) (ih : ∀ (ls : Array Slot) (H : Heap) (locs : List Loc) (T : MS) (ps : List Nat), lv_has ls 7 [(2, .long (lN (z_sum (a_wd a) (fun z => m_sn a T z ∧ z ∉ ps) a.n))), (1, .int (nI ps.length)), (0, .ref (r 20))] → y_P D vwCl (m_w r cN cZ cL T) H → (∀ q99 e99, (m_w r cN cZ cL T) q99 = some e99 → A q99) → va_S A s.heap H locs → m_J a S T ps → z_I (a_root a) (a_ed a) a.n (m_sn a T) ps (fun _ => False) (fun _ _ => False) → a.n ≤ f + z_sum (fun _ => 1) (fun z => m_sn a T z ∧ z ∉ ps) a.n → W p l e rmW s m ([.ref (r 20)] : List Value).toArray below meth c H locs 0 0 QQ (F0 m 162 ls [])) : ∀ (f1 e1 : Nat) (ls : Array Slot) (H : Heap) (locs : List Loc) (T : MS) (ps : List Nat), e1 + f1 = en → lv_has ls 7 [(5, .int (nI e1)), (4, .int (nI o)), (2, .long (lN (z_sum (a_wd a) (fun z => m_sn a T z ∧ z ∉ ps) a.n))), (1, .int (nI ps.length)), (0, .ref (r 20))] → y_P D vwCl (m_w r cN cZ cL T) H → (∀ q99 e99, (m_w r cN cZ cL T) q99 = some e99 → A q99) → va_S A s.heap H locs → m_J a S T ps → z_I (a_root a) (a_ed a) a.n (m_sn a T) ps (fun _ => False) (fun x b => x = o ∧ ∃ i, e1 ≤ i ∧ i < en ∧ S.1 11 i = nI o ∧ a_ref a o (S.1 12 i) ∧ a.ct o (S.1 12 i) = lN b) → a.n ≤ f + z_sum (fun _ => 1) (fun z => m_sn a T z ∧ z ∉ ps) a.n → W p l e rmW s m ([.ref (r 20)] : List Value).toArray below meth c H locs 0 0 QQ (F0 m 205 ls []) := by
  have hn : a.n ≤ cn := hw.2.2.2.2.2.2.2.2.2.1
  have hkc : a.kc ≤ cn := hw.2.2.2.2.2.2.2.2.2.2.2
  have hR0 := hR
  intro f1
  induction f1 with
  | zero =>
    intro e1 ls H locs T ps hef hl hP hA hS hJ hI hf
    have hTen : T.2.2 14 = nI en := by rw [hJ.1.1]; exact r12
    refine lv_iload hx hb d_Mo_reachable_205 (lv_at hl 0 rfl) ?_
    refine lv_aload_n hx hb d_Mo_reachable_207 rfl (lv_at hl 4 rfl) ?_
    refine y_get (D := D) (ci := 5) (v := .int (T.2.2 14)) (C := R_Mo) (T := F_Mo) (N := 20) hx hb hts in_Mo hown hK hP (m_at hri (i := 20) (by decide)) rfl 14 (by decide) (hts (.fieldLink R_Mo 68 "MemoryDeskModel" "entries" "I") (by decide +kernel)) (fun _ h9 => h9) rfl d_Mo_reachable_208 ?_
    rw [hTen]
    refine lv_icmp_ge hx hb d_Mo_reachable_211 rfl (fun h1 => ?_) (fun h1 => (absurd (show nI en ≤ nI e1 from nI_le (by omega) (by omega)) h1))
    refine lv_goto hx hb d_Mo_reachable_301 rfl ?_
    have hl : lv_has ls 7 [(2, .long (lN (z_sum (a_wd a) (fun z => m_sn a T z ∧ z ∉ ps) a.n))), (1, .int (nI ps.length)), (0, .ref (r 20))] := lv_sub hl [2, 3, 4] rfl
    exact ih ls H locs T ps hl hP hA hS hJ (hI.mono (fun _ _ z => z.elim) (fun x b _ _ _ z => by obtain ⟨-, i, i1, i2, -⟩ := z; omega)) hf
  | succ f1 ihE =>
    intro e1 ls H locs T ps hef hl hP hA hS hJ hI hf
    have hTen : T.2.2 14 = nI en := by rw [hJ.1.1]; exact r12
    refine lv_iload hx hb d_Mo_reachable_205 (lv_at hl 0 rfl) ?_
    refine lv_aload_n hx hb d_Mo_reachable_207 rfl (lv_at hl 4 rfl) ?_
    refine y_get (D := D) (ci := 5) (v := .int (T.2.2 14)) (C := R_Mo) (T := F_Mo) (N := 20) hx hb hts in_Mo hown hK hP (m_at hri (i := 20) (by decide)) rfl 14 (by decide) (hts (.fieldLink R_Mo 68 "MemoryDeskModel" "entries" "I") (by decide +kernel)) (fun _ h9 => h9) rfl d_Mo_reachable_208 ?_
    rw [hTen]
    refine lv_icmp_ge hx hb d_Mo_reachable_211 rfl (fun h2 => (absurd h2 (nI_ge (by omega) (by omega)))) (fun h2 => ?_)
    have hin9 : vp_in (nI e1) 514 := vp_in_nI (by omega) (by decide)
    have hcl1 : (nI e1).toNatClampNeg = e1 := nI_clamp (by omega)
    have hRT := hJ.1.R hR0
    obtain ⟨hok, hcl, -⟩ := hRT.ok hw hc o1 o2
    have t11 : T.1 11 = S.1 11 := hJ.1.2 11 (by decide) (by decide)
    have t12 : T.1 12 = S.1 12 := hJ.1.2 12 (by decide) (by decide)
    have step : ∀ (ls : Array Slot) (H : Heap) (locs : List Loc) (T : MS) (ps : List Nat), lv_has ls 7 [(5, .int (nI e1)), (4, .int (nI o)), (2, .long (lN (z_sum (a_wd a) (fun z => m_sn a T z ∧ z ∉ ps) a.n))), (1, .int (nI ps.length)), (0, .ref (r 20))] → y_P D vwCl (m_w r cN cZ cL T) H → (∀ q99 e99, (m_w r cN cZ cL T) q99 = some e99 → A q99) → va_S A s.heap H locs → m_J a S T ps → z_I (a_root a) (a_ed a) a.n (m_sn a T) ps (fun _ => False) (fun x b => x = o ∧ ∃ i, e1 ≤ i ∧ i < en ∧ S.1 11 i = nI o ∧ a_ref a o (S.1 12 i) ∧ a.ct o (S.1 12 i) = lN b) → a.n ≤ f + z_sum (fun _ => 1) (fun z => m_sn a T z ∧ z ∉ ps) a.n → (∀ b, S.1 11 e1 = nI o → a_ref a o (S.1 12 e1) → a.ct o (S.1 12 e1) = lN b → 1 ≤ b → b ≤ a.n → m_sn a T b) → W p l e rmW s m ([.ref (r 20)] : List Value).toArray below meth c H locs 0 0 QQ (F0 m 295 ls []) := by
      intro ls H locs T ps hl hP hA hS hJ hI hf hno
      refine lv_iinc (k := 0) (v := ((nI e1) + 1)) hx hb d_Mo_reachable_295 hl rfl rfl (by decide) rfl (fun ls hl => ?_)
      have hl : lv_has ls 7 [(5, .int ((nI e1) + 1)), (4, .int (nI o)), (2, .long (lN (z_sum (a_wd a) (fun z => m_sn a T z ∧ z ∉ ps) a.n))), (1, .int (nI ps.length)), (0, .ref (r 20))] := hl
      refine lv_goto hx hb d_Mo_reachable_298 rfl ?_
      rw [nI_1] at hl
      refine ihE (e1 + 1) ls H locs T ps (by omega) hl hP hA hS hJ (hI.mono (fun _ _ z => z.elim) (fun x b _ _ hxb z => ?_)) hf
      obtain ⟨z0, i, i1, i2, i3, i4, i5⟩ := z
      by_cases hi : i = e1
      · subst hi; exact Or.inl (hno b i3 i4 i5 hxb.2.2.1 hxb.2.2.2.1)
      · exact Or.inr ⟨z0, i, by omega, i2, i3, i4, i5⟩
    refine lv_aload_n hx hb d_Mo_reachable_214 rfl (lv_at hl 4 rfl) ?_
    refine y_get (D := D) (ci := 5) (v := .ref (r 11)) (C := R_Mo) (T := F_Mo) (N := 20) hx hb hts in_Mo hown hK hP (m_at hri (i := 20) (by decide)) rfl 11 (by decide) (hts (.fieldLink R_Mo 37 "MemoryDeskModel" "into" "[I") (by decide +kernel)) (fun _ h9 => h9) rfl d_Mo_reachable_215 ?_
    refine lv_iload hx hb d_Mo_reachable_218 (lv_at hl 0 rfl) ?_
    refine y_iald (f := (T.1 11)) hx hb hK hP 2 (m_at hri (i := 11) (by decide)) rfl hin9 d_Mo_reachable_220 ?_
    refine lv_iload hx hb d_Mo_reachable_221 (lv_at hl 1 rfl) ?_
    have hsk : (∀ b, S.1 11 e1 = nI o → a_ref a o (S.1 12 e1) → a.ct o (S.1 12 e1) = lN b → 1 ≤ b → b ≤ a.n → m_sn a T b) → True := fun _ => trivial
    refine lv_icmp_ne hx hb d_Mo_reachable_223 rfl (fun h3 => ?_) (fun h3 => ?_)
    · -- if_icmpne at 223: to 295
      have hl : lv_has ls 7 [(5, .int (nI e1)), (4, .int (nI o)), (2, .long (lN (z_sum (a_wd a) (fun z => m_sn a T z ∧ z ∉ ps) a.n))), (1, .int (nI ps.length)), (0, .ref (r 20))] := lv_sub hl [0, 1, 2, 3, 4] rfl
      exact step ls H locs T ps hl hP hA hS hJ hI hf (fun b9 z1 _ _ _ _ => absurd (by rw [hcl1, t11]; exact z1) h3)
    · -- if_icmpne at 223: to 226
      have hin11 : S.1 11 e1 = nI o := by have hh_ := h3; rw [hcl1, t11] at hh_; exact hh_
      refine lv_aload_n hx hb d_Mo_reachable_226 rfl (lv_at hl 4 rfl) ?_
      refine lv_iload hx hb d_Mo_reachable_227 (lv_at hl 1 rfl) ?_
      refine lv_aload_n hx hb d_Mo_reachable_229 rfl (lv_at hl 4 rfl) ?_
      refine y_get (D := D) (ci := 5) (v := .ref (r 12)) (C := R_Mo) (T := F_Mo) (N := 20) hx hb hts in_Mo hown hK hP (m_at hri (i := 20) (by decide)) rfl 12 (by decide) (hts (.fieldLink R_Mo 40 "MemoryDeskModel" "where" "[I") (by decide +kernel)) (fun _ h9 => h9) rfl d_Mo_reachable_230 ?_
      refine lv_iload hx hb d_Mo_reachable_233 (lv_at hl 0 rfl) ?_
      refine y_iald (f := (T.1 12)) hx hb hK hP 2 (m_at hri (i := 12) (by decide)) rfl hin9 d_Mo_reachable_235 ?_
      rw [show T.1 12 (nI e1).toNatClampNeg = S.1 12 e1 by rw [hcl1, t12]]
      refine w_callV (As := [.int (nI o), .int (S.1 12 e1)]) (C := R_Mo) ⟨hx, hb, hml, hown, hts⟩ (c_Mo_isReference l D cK cI cN cZ cL r hri T _ (nI o) (S.1 12 e1) hok) (x_cb (cwV (own := R_Mo) (index := 85) (C := R_Mo) 2 hts (x_gi (by decide +kernel)) rfl rfl rfl (by decide +kernel) ⟨by decide, by decide⟩).1) (hts (.instanceMethod y_Mo_isReference) (by decide +kernel)) (hts (.selects R_Mo y_Mo_isReference y_Mo_isReference) (by decide +kernel)) (y_recv (ci := 5) (q := (R_Mo, F_Mo, 20)) hK hP rfl (m_at hri (i := 20) (by decide))) hE hP hA hA0 hS rfl hl.1 rfl (lv_room (Nat.le_of_ble_eq_true rfl)) d_Mo_reachable_236 (by first | decide | omega) (by first | decide | omega) (fun v9 g9 H locs hq9 hP hA hS => ?_) (fun E9 q9 ce9 g9 H locs hq9 hP hA hS z1 z2 z3 => ?_)
      rotate_left
      · exact nomatch hq9.1
      obtain ⟨hv9, hg9⟩ := hq9
      cases hv9
      rw [hg9] at hP hA
      refine W.eq (g2 := F0 m 239 ls [.int (m_isr T (nI o) (S.1 12 e1))]) rfl ?_
      rw [hRT.isr hw hc o1 o2]
      refine lv_if_ne hx hb d_Mo_reachable_239 rfl (fun h4 => ?_) (fun h4 => ?_)
      · -- ifne at 239: to 245
        have hrf : a_ref a o (S.1 12 e1) := Classical.byContradiction (fun z => h4 (c_bit.n z))
        obtain ⟨b, b2, b3⟩ := hw.2.2.2.2.1 o (S.1 12 e1) o1 o2 hrf
        refine lv_aload_n hx hb d_Mo_reachable_245 rfl (lv_at hl 4 rfl) ?_
        refine lv_iload hx hb d_Mo_reachable_246 (lv_at hl 1 rfl) ?_
        refine lv_aload_n hx hb d_Mo_reachable_248 rfl (lv_at hl 4 rfl) ?_
        refine y_get (D := D) (ci := 5) (v := .ref (r 12)) (C := R_Mo) (T := F_Mo) (N := 20) hx hb hts in_Mo hown hK hP (m_at hri (i := 20) (by decide)) rfl 12 (by decide) (hts (.fieldLink R_Mo 40 "MemoryDeskModel" "where" "[I") (by decide +kernel)) (fun _ h9 => h9) rfl d_Mo_reachable_249 ?_
        refine lv_iload hx hb d_Mo_reachable_252 (lv_at hl 0 rfl) ?_
        refine y_iald (f := (T.1 12)) hx hb hK hP 2 (m_at hri (i := 12) (by decide)) rfl hin9 d_Mo_reachable_254 ?_
        rw [show T.1 12 (nI e1).toNatClampNeg = S.1 12 e1 by rw [hcl1, t12]]
        refine w_callV (As := [.int (nI o), .int (S.1 12 e1)]) (C := R_Mo) ⟨hx, hb, hml, hown, hts⟩ (c_Mo_latest l D cK cI cN cZ cL r hri T _ (nI o) (S.1 12 e1) en hTen (by omega)) (x_cb (cwV (own := R_Mo) (index := 89) (C := R_Mo) 2 hts (x_gi (by decide +kernel)) rfl rfl rfl (by decide +kernel) ⟨by decide, by decide⟩).1) (hts (.instanceMethod y_Mo_latest) (by decide +kernel)) (hts (.selects R_Mo y_Mo_latest y_Mo_latest) (by decide +kernel)) (y_recv (ci := 5) (q := (R_Mo, F_Mo, 20)) hK hP rfl (m_at hri (i := 20) (by decide))) hE hP hA hA0 hS rfl hl.1 rfl (lv_room (Nat.le_of_ble_eq_true rfl)) d_Mo_reachable_255 (by first | decide | omega) (by first | decide | omega) (fun v9 g9 H locs hq9 hP hA hS => ?_) (fun E9 q9 ce9 g9 H locs hq9 hP hA hS z1 z2 z3 => ?_)
        rotate_left
        · exact nomatch hq9.1
        obtain ⟨hv9, hg9⟩ := hq9
        cases hv9
        rw [hg9] at hP hA
        refine W.eq (g2 := F0 m 258 ls [.long (m_lat T (nI o) (S.1 12 e1) en)]) rfl ?_
        have hlat : m_lat T (nI o) (S.1 12 e1) en = lN b := by
          rw [m_lat.eq (S := S) (S' := T) (fun i _ => ⟨by rw [t11], by rw [t12], by rw [hJ.1.1]⟩), ← r14 o (S.1 12 e1) o1 o2]
          exact b3
        rw [hlat]
        refine lv_l2i hx hb d_Mo_reachable_258 rfl ?_
        rw [lN_i]
        refine lv_istore hx hb d_Mo_reachable_259 hl (by decide) rfl (fun ls hl => ?_)
        have hl : lv_has ls 7 [(6, .int (nI b)), (5, .int (nI e1)), (4, .int (nI o)), (2, .long (lN (z_sum (a_wd a) (fun z => m_sn a T z ∧ z ∉ ps) a.n))), (1, .int (nI ps.length)), (0, .ref (r 20))] := hl
        refine lv_iload hx hb d_Mo_reachable_261 (lv_at hl 0 rfl) ?_
        refine lv_if_eq hx hb d_Mo_reachable_263 rfl (fun h5 => ?_) (fun h5 => ?_)
        · -- ifeq at 263: to 295
          have hl : lv_has ls 7 [(5, .int (nI e1)), (4, .int (nI o)), (2, .long (lN (z_sum (a_wd a) (fun z => m_sn a T z ∧ z ∉ ps) a.n))), (1, .int (nI ps.length)), (0, .ref (r 20))] := lv_sub hl [1, 2, 3, 4, 5] rfl
          exact step ls H locs T ps hl hP hA hS hJ hI hf (fun b9 _ _ z3 z4 z5 => by have e9 : b9 = b := (lN_eq (by omega) (by omega)).mp (z3.symm.trans b3); have hh_ : b = 0 := (nI_eq (b := 0) (by omega) (by omega)).mp h5; omega)
        · -- ifeq at 263: to 266
          have hb1 : 1 ≤ b := by have hh_ : b ≠ 0 := fun z => h5 (by rw [z]; rfl); omega
          have hclb : (nI b).toNatClampNeg = b := nI_clamp (by omega)
          refine lv_aload_n hx hb d_Mo_reachable_266 rfl (lv_at hl 5 rfl) ?_
          refine y_get (D := D) (ci := 5) (v := .ref (r 18)) (C := R_Mo) (T := F_Mo) (N := 20) hx hb hts in_Mo hown hK hP (m_at hri (i := 20) (by decide)) rfl 18 (by decide) (hts (.fieldLink R_Mo 56 "MemoryDeskModel" "reached" "[Z") (by decide +kernel)) (fun _ h9 => h9) rfl d_Mo_reachable_267 ?_
          refine lv_iload hx hb d_Mo_reachable_270 (lv_at hl 0 rfl) ?_
          refine y_zald (f := (T.1 18)) hx hb hK hP 3 (m_at hri (i := 18) (by decide)) rfl (vp_in_nI (by omega) (by decide)) d_Mo_reachable_272 ?_
          rw [hclb]
          refine lv_if_ne hx hb d_Mo_reachable_273 rfl (fun h6 => ?_) (fun h6 => ?_)
          · -- ifne at 273: to 295
            have hs4 : m_sn a T b := ⟨hb1, b2, (hJ.2.2 b hb1 b2).resolve_left h6⟩
            have hl : lv_has ls 7 [(5, .int (nI e1)), (4, .int (nI o)), (2, .long (lN (z_sum (a_wd a) (fun z => m_sn a T z ∧ z ∉ ps) a.n))), (1, .int (nI ps.length)), (0, .ref (r 20))] := lv_sub hl [1, 2, 3, 4, 5] rfl
            exact step ls H locs T ps hl hP hA hS hJ hI hf (fun b9 _ _ z3 _ z5 => by have e9 : b9 = b := (lN_eq (by omega) (by omega)).mp (z3.symm.trans b3); rw [e9]; exact hs4)
          · -- ifne at 273: to 276
            have hns : ¬ m_sn a T b := fun z => by have hh_ := z.2.2; rw [h6] at hh_; exact absurd hh_ (by decide)
            have hRb : a_R a b := z_R.step hRo ⟨o1, o2, hb1, b2, S.1 12 e1, hrf, b3⟩
            obtain ⟨hI2, hF2⟩ := hI.visit hb1 b2 hRb hns
            have hroom2 := hI2.room
            rw [List.length_cons] at hroom2
            refine lv_aload_n hx hb d_Mo_reachable_276 rfl (lv_at hl 5 rfl) ?_
            refine y_get (D := D) (ci := 5) (v := .ref (r 18)) (C := R_Mo) (T := F_Mo) (N := 20) hx hb hts in_Mo hown hK hP (m_at hri (i := 20) (by decide)) rfl 18 (by decide) (hts (.fieldLink R_Mo 56 "MemoryDeskModel" "reached" "[Z") (by decide +kernel)) (fun _ h9 => h9) rfl d_Mo_reachable_277 ?_
            refine lv_iload hx hb d_Mo_reachable_280 (lv_at hl 0 rfl) ?_
            refine lv_iconst (v := 1) hx hb d_Mo_reachable_282 (by decide) ?_
            refine y_zast (f := (T.1 18)) hx hb hK hP hA hS 3 (m_at hri (i := 18) (by decide)) rfl (vp_in_nI (by omega) (by decide)) m_nar1 d_Mo_reachable_283 (fun H locs hP hA hS => ?_)
            have e9 : va_up (m_w r cN cZ cL T) (r 18) (some (.inl (cZ, 514, .inl (upd (T.1 18) (nI b).toNatClampNeg 1)))) = (m_w r cN cZ cL (m_a T 18 (nI b).toNatClampNeg 1)) := m_wa18 hri T (nI b).toNatClampNeg 1
            have hP : y_P D vwCl (m_w r cN cZ cL (m_a T 18 (nI b).toNatClampNeg 1)) H := by rw [← e9]; exact hP
            have hA : ∀ q99 e99, (m_w r cN cZ cL (m_a T 18 (nI b).toNatClampNeg 1)) q99 = some e99 → A q99 := by rw [← e9]; exact hA
            refine lv_aload_n hx hb d_Mo_reachable_284 rfl (lv_at hl 5 rfl) ?_
            refine y_get (D := D) (ci := 5) (v := .ref (r 17)) (C := R_Mo) (T := F_Mo) (N := 20) hx hb hts in_Mo hown hK hP (m_at hri (i := 20) (by decide)) rfl 17 (by decide) (hts (.fieldLink R_Mo 53 "MemoryDeskModel" "todo" "[I") (by decide +kernel)) (fun _ h9 => h9) rfl d_Mo_reachable_285 ?_
            refine lv_iload_n hx hb d_Mo_reachable_288 rfl (lv_at hl 4 rfl) ?_
            refine lv_iinc (k := 4) (v := ((nI ps.length) + 1)) hx hb d_Mo_reachable_289 hl rfl rfl (by decide) rfl (fun ls hl => ?_)
            have hl : lv_has ls 7 [(1, .int ((nI ps.length) + 1)), (6, .int (nI b)), (5, .int (nI e1)), (4, .int (nI o)), (2, .long (lN (z_sum (a_wd a) (fun z => m_sn a T z ∧ z ∉ ps) a.n))), (0, .ref (r 20))] := hl
            refine lv_iload hx hb d_Mo_reachable_292 (lv_at hl 1 rfl) ?_
            refine y_iast (f := (T.1 17)) hx hb hK hP hA hS 2 (m_at hri (i := 17) (by decide)) rfl (vp_in_nI (by omega) (by decide)) d_Mo_reachable_294 (fun H locs hP hA hS => ?_)
            have e9 : va_up (m_w r cN cZ cL (m_a T 18 (nI b).toNatClampNeg 1)) (r 17) (some (.inl (cN, 514, .inl (upd (T.1 17) (nI ps.length).toNatClampNeg (nI b))))) = (m_w r cN cZ cL (m_a (m_a T 18 (nI b).toNatClampNeg 1) 17 (nI ps.length).toNatClampNeg (nI b))) := m_wa17 hri (m_a T 18 (nI b).toNatClampNeg 1) (nI ps.length).toNatClampNeg (nI b)
            have hP : y_P D vwCl (m_w r cN cZ cL (m_a (m_a T 18 (nI b).toNatClampNeg 1) 17 (nI ps.length).toNatClampNeg (nI b))) H := by rw [← e9]; exact hP
            have hA : ∀ q99 e99, (m_w r cN cZ cL (m_a (m_a T 18 (nI b).toNatClampNeg 1) 17 (nI ps.length).toNatClampNeg (nI b))) q99 = some e99 → A q99 := by rw [← e9]; exact hA
            have hTT : (m_a (m_a T 18 (nI b).toNatClampNeg 1) 17 (nI ps.length).toNatClampNeg (nI b)) = (m_a (m_a T 18 b 1) 17 ps.length (nI b)) := by rw [hclb, nI_clamp (show ps.length < 2 ^ 31 by omega)]
            rw [hTT] at hP hA
            have hl : lv_has ls 7 [(5, .int (nI e1)), (4, .int (nI o)), (2, .long (lN (z_sum (a_wd a) (fun z => m_sn a T z ∧ z ∉ ps) a.n))), (1, .int ((nI ps.length) + 1)), (0, .ref (r 20))] := lv_sub hl [2, 3, 4, 0, 5] rfl
            rw [nI_1] at hl
            have hsn9 : m_sn a (m_a (m_a T 18 b 1) 17 ps.length (nI b)) = _ := m_sn.visit (T := T) (ps := ps) hb1 b2
            refine step ls H locs (m_a (m_a T 18 b 1) 17 ps.length (nI b)) (b :: ps) ?_ hP hA hS hJ.visit ?_ ?_ ?_
            · rw [hsn9, hF2]; exact hl
            · rw [hsn9]; exact hI2
            · rw [hsn9, hF2]; exact hf
            · intro b9 _ _ z3 _ z5
              have e9 : b9 = b := (lN_eq (by omega) (by omega)).mp (z3.symm.trans b3)
              rw [hsn9, e9]; exact Or.inr rfl
      · -- ifne at 239: to 242
        refine lv_goto hx hb d_Mo_reachable_242 rfl ?_
        have hl : lv_has ls 7 [(5, .int (nI e1)), (4, .int (nI o)), (2, .long (lN (z_sum (a_wd a) (fun z => m_sn a T z ∧ z ∉ ps) a.n))), (1, .int (nI ps.length)), (0, .ref (r 20))] := lv_sub hl [0, 1, 2, 3, 4] rfl
        exact step ls H locs T ps hl hP hA hS hJ hI hf (fun b9 _ z2 _ _ _ => by have hh_ := h4; rw [c_bit.y z2] at hh_; exact absurd hh_ (by decide))
set_option maxHeartbeats 8000000 in
set_option maxRecDepth 100000 in
/-- reachable(): until nothing waits -/
theorem c_mr_W (l : Launch) (D : va_G) (cK cI cN cZ cL : ClassId) (r : Nat → Nat) (hri : m_inj r) (S : MS) (a : Ab) (cn : Nat) (hw : a_W a cn) (hc : cn ≤ 512) (hR : m_R a S cn) {p : Program} {e : Env} {s : State} {m : MethodId} {below : List Frame} {meth : Method} {c : Code} {A : Nat → Prop} {QQ : State → Prop} (hx : p.tables.exec = Jvm.exec) (hb : c.code = b_Mo_reachable) (hml : c.maxLocals = 7) (hown : s.vm.findClass R_Mo = some m.cls) (hts : ∀ w ∈ x_tbl, w.before ([.ref (r 20)] : List Value).toArray s = true) (hK : va_K D vwCl (x_tys cK cI cN cZ cL) s) (hE : w_E D (x_tys cK cI cN cZ cL) A s s.heap) (hA0 : ∀ q, s.heap.size ≤ q → A q) (hr : meth.sig.returnType = some .long) (hlocks : meth.locks = false) (hAe : y_A (m_w r cN cZ cL S) s.heap.size = A) (hQ : QQ = x_Q below (w_Qc D (m_w r cN cZ cL S) s.heap.size (fun r9 g9 => r9 = .inl (some (.long (lN (a_use a)))) ∧ ∃ T, m_Q S T ∧ g9 = m_w r cN cZ cL T)) ([.ref (r 20)] : List Value).toArray s 0 0 A) : ∀ (f : Nat) (ls : Array Slot) (H : Heap) (locs : List Loc) (T : MS) (ps : List Nat), lv_has ls 7 [(2, .long (lN (z_sum (a_wd a) (fun z => m_sn a T z ∧ z ∉ ps) a.n))), (1, .int (nI ps.length)), (0, .ref (r 20))] → y_P D vwCl (m_w r cN cZ cL T) H → (∀ q99 e99, (m_w r cN cZ cL T) q99 = some e99 → A q99) → va_S A s.heap H locs → m_J a S T ps → z_I (a_root a) (a_ed a) a.n (m_sn a T) ps (fun _ => False) (fun _ _ => False) → a.n ≤ f + z_sum (fun _ => 1) (fun z => m_sn a T z ∧ z ∉ ps) a.n → W p l e rmW s m ([.ref (r 20)] : List Value).toArray below meth c H locs 0 0 QQ (F0 m 162 ls []) := by
  have hn : a.n ≤ cn := hw.2.2.2.2.2.2.2.2.2.1
  have hkc : a.kc ≤ cn := hw.2.2.2.2.2.2.2.2.2.2.2
  have hR0 := hR
  obtain ⟨r1, ⟨r2, r3, r4, r5⟩, r6, r7, r8, r9, r10, en, r11, r12, r13, r14⟩ := hR
  intro f
  induction f with
  | zero =>
    intro ls H locs T ps hl hP hA hS hJ hI hf
    have hroom := hI.room
    cases ps with
    | nil =>
      have hl : lv_has ls 7 [(2, .long (lN (z_sum (a_wd a) (fun z => m_sn a T z ∧ z ∉ []) a.n))), (1, .int (nI 0)), (0, .ref (r 20))] := hl
      refine lv_iload_n hx hb d_Mo_reachable_162 rfl (lv_at hl 1 rfl) ?_
      refine lv_if_le hx hb d_Mo_reachable_163 rfl (fun h1 => ?_) (fun h1 => (absurd (by decide +kernel) h1))
      refine lv_lload_n hx hb d_Mo_reachable_304 rfl (lv_at hl 0 rfl) ?_
      rw [hQ]
      have hsum : z_sum (a_wd a) (fun z => m_sn a T z ∧ z ∉ []) a.n = a_use a := z_congr (fun z _ _ => ⟨fun y => (hI.done z).mp y.1, fun y => ⟨(hI.done z).mpr y, List.not_mem_nil⟩⟩) (fun _ _ _ _ => rfl)
      refine W.widen (k := 0) (n := 0) (by first | decide | omega) (by first | decide | omega) ?_
      exact x_ret (W.lret (v := (lN (z_sum (a_wd a) (fun z => m_sn a T z ∧ z ∉ []) a.n))) hx hb hr (w_fin rfl hAe ⟨by rw [hsum], T, hJ.1, rfl⟩ hP hA hS) hS.2.2 d_Mo_reachable_305)
    | cons o ps =>
      rw [List.length_cons] at hroom
      omega
  | succ f ih =>
    intro ls H locs T ps hl hP hA hS hJ hI hf
    have hroom := hI.room
    cases ps with
    | nil =>
      have hl : lv_has ls 7 [(2, .long (lN (z_sum (a_wd a) (fun z => m_sn a T z ∧ z ∉ []) a.n))), (1, .int (nI 0)), (0, .ref (r 20))] := hl
      refine lv_iload_n hx hb d_Mo_reachable_162 rfl (lv_at hl 1 rfl) ?_
      refine lv_if_le hx hb d_Mo_reachable_163 rfl (fun h2 => ?_) (fun h2 => (absurd (by decide +kernel) h2))
      refine lv_lload_n hx hb d_Mo_reachable_304 rfl (lv_at hl 0 rfl) ?_
      rw [hQ]
      have hsum : z_sum (a_wd a) (fun z => m_sn a T z ∧ z ∉ []) a.n = a_use a := z_congr (fun z _ _ => ⟨fun y => (hI.done z).mp y.1, fun y => ⟨(hI.done z).mpr y, List.not_mem_nil⟩⟩) (fun _ _ _ _ => rfl)
      refine W.widen (k := 0) (n := 0) (by first | decide | omega) (by first | decide | omega) ?_
      exact x_ret (W.lret (v := (lN (z_sum (a_wd a) (fun z => m_sn a T z ∧ z ∉ []) a.n))) hx hb hr (w_fin rfl hAe ⟨by rw [hsum], T, hJ.1, rfl⟩ hP hA hS) hS.2.2 d_Mo_reachable_305)
    | cons o ps =>
      rw [List.length_cons] at hroom
      obtain ⟨hI1, hF, o1, o2, hRo⟩ := hI.pop
      have hRT := hJ.1.R hR0
      obtain ⟨hok, hcl, -⟩ := hRT.ok hw hc o1 o2
      obtain ⟨ho17, hJt⟩ := hJ.2.1
      have hl : lv_has ls 7 [(2, .long (lN (z_sum (a_wd a) (fun z => m_sn a T z ∧ z ∉ (o :: ps)) a.n))), (1, .int (nI (ps.length + 1))), (0, .ref (r 20))] := hl
      refine lv_iload_n hx hb d_Mo_reachable_162 rfl (lv_at hl 1 rfl) ?_
      refine lv_if_le hx hb d_Mo_reachable_163 rfl (fun h3 => (absurd h3 (nI_nle (by omega) (by omega)))) (fun h3 => ?_)
      refine lv_aload_n hx hb d_Mo_reachable_166 rfl (lv_at hl 2 rfl) ?_
      refine y_get (D := D) (ci := 5) (v := .ref (r 17)) (C := R_Mo) (T := F_Mo) (N := 20) hx hb hts in_Mo hown hK hP (m_at hri (i := 20) (by decide)) rfl 17 (by decide) (hts (.fieldLink R_Mo 53 "MemoryDeskModel" "todo" "[I") (by decide +kernel)) (fun _ h9 => h9) rfl d_Mo_reachable_167 ?_
      refine lv_iinc (k := 1) (v := ((nI (ps.length + 1)) + (-1))) hx hb d_Mo_reachable_170 hl rfl rfl (by decide) rfl (fun ls hl => ?_)
      have hl : lv_has ls 7 [(1, .int ((nI (ps.length + 1)) + (-1))), (2, .long (lN (z_sum (a_wd a) (fun z => m_sn a T z ∧ z ∉ (o :: ps)) a.n))), (0, .ref (r 20))] := hl
      rw [← sub_neg9, nI_pred] at hl
      refine lv_iload_n hx hb d_Mo_reachable_173 rfl (lv_at hl 0 rfl) ?_
      refine y_iald (f := (T.1 17)) hx hb hK hP 2 (m_at hri (i := 17) (by decide)) rfl (vp_in_nI (by omega) (by decide)) d_Mo_reachable_174 ?_
      rw [show T.1 17 (nI ps.length).toNatClampNeg = nI o by rw [nI_clamp (by omega)]; exact ho17]
      refine lv_istore hx hb d_Mo_reachable_175 hl (by decide) rfl (fun ls hl => ?_)
      have hl : lv_has ls 7 [(4, .int (nI o)), (1, .int (nI ps.length)), (2, .long (lN (z_sum (a_wd a) (fun z => m_sn a T z ∧ z ∉ (o :: ps)) a.n))), (0, .ref (r 20))] := hl
      refine lv_lload_n hx hb d_Mo_reachable_177 rfl (lv_at hl 2 rfl) ?_
      refine lv_aload_n hx hb d_Mo_reachable_178 rfl (lv_at hl 3 rfl) ?_
      refine y_get (D := D) (ci := 5) (v := .ref (r 2)) (C := R_Mo) (T := F_Mo) (N := 20) hx hb hts in_Mo hown hK hP (m_at hri (i := 20) (by decide)) rfl 2 (by decide) (hts (.fieldLink R_Mo 16 "MemoryDeskModel" "kindRow" "[I") (by decide +kernel)) (fun _ h9 => h9) rfl d_Mo_reachable_179 ?_
      refine lv_aload_n hx hb d_Mo_reachable_182 rfl (lv_at hl 3 rfl) ?_
      refine y_get (D := D) (ci := 5) (v := .ref (r 4)) (C := R_Mo) (T := F_Mo) (N := 20) hx hb hts in_Mo hown hK hP (m_at hri (i := 20) (by decide)) rfl 4 (by decide) (hts (.fieldLink R_Mo 23 "MemoryDeskModel" "objectKind" "[I") (by decide +kernel)) (fun _ h9 => h9) rfl d_Mo_reachable_183 ?_
      refine lv_iload hx hb d_Mo_reachable_186 (lv_at hl 0 rfl) ?_
      refine y_iald (f := (T.1 4)) hx hb hK hP 2 (m_at hri (i := 4) (by decide)) rfl hok.1 d_Mo_reachable_188 ?_
      refine y_iald (f := (T.1 2)) hx hb hK hP 2 (m_at hri (i := 2) (by decide)) rfl hok.2 d_Mo_reachable_189 ?_
      refine lv_aload_n hx hb d_Mo_reachable_190 rfl (lv_at hl 3 rfl) ?_
      refine lv_iload hx hb d_Mo_reachable_191 (lv_at hl 0 rfl) ?_
      refine w_callV (As := [.int (nI o)]) (C := R_Mo) ⟨hx, hb, hml, hown, hts⟩ (c_Mo_many l D cK cI cN cZ cL r hri T _ (nI o) hok) (x_cb (cwV (own := R_Mo) (index := 77) (C := R_Mo) 1 hts (x_gi (by decide +kernel)) rfl rfl rfl (by decide +kernel) ⟨by decide, by decide⟩).1) (hts (.instanceMethod y_Mo_many) (by decide +kernel)) (hts (.selects R_Mo y_Mo_many y_Mo_many) (by decide +kernel)) (y_recv (ci := 5) (q := (R_Mo, F_Mo, 20)) hK hP rfl (m_at hri (i := 20) (by decide))) hE hP hA hA0 hS rfl hl.1 rfl (lv_room (Nat.le_of_ble_eq_true rfl)) d_Mo_reachable_193 (by first | decide | omega) (by first | decide | omega) (fun v9 g9 H locs hq9 hP hA hS => ?_) (fun E9 q9 ce9 g9 H locs hq9 hP hA hS z1 z2 z3 => ?_)
      rotate_left
      · exact nomatch hq9.1
      obtain ⟨hv9, hg9⟩ := hq9
      cases hv9
      rw [hg9] at hP hA
      refine W.eq (g2 := F0 m 196 ls [.int (m_many T (nI o)), .int ((T.1 2) ((T.1 4) (nI o).toNatClampNeg).toNatClampNeg), .long (lN (z_sum (a_wd a) (fun z => m_sn a T z ∧ z ∉ (o :: ps)) a.n))]) rfl ?_
      refine lv_i2l hx hb d_Mo_reachable_196 rfl ?_
      refine w_callS (As := [.int ((T.1 2) ((T.1 4) (nI o).toNatClampNeg).toNatClampNeg), .long ((m_many T (nI o)).toInt64)]) ⟨hx, hb, hml, hown, hts⟩ (c_Mo_takes l D cK cI cN cZ cL r hri T _ _ _) (x_cb (va_cwS (own := R_Mo) (index := 81) 2 hts (x_gi (by decide +kernel)) rfl rfl rfl (by decide +kernel) ⟨by decide, by decide⟩).1) (hts (.static y_Mo_takes) (by decide +kernel)) hE hP hA hA0 hS rfl hl.1 rfl (lv_room (Nat.le_of_ble_eq_true rfl)) d_Mo_reachable_197 (by first | decide | omega) (by first | decide | omega) (fun v9 g9 H locs hq9 hP hA hS => ?_) (fun E9 q9 ce9 g9 H locs hq9 hP hA hS z1 z2 z3 => ?_)
      rotate_left
      · exact nomatch hq9.1
      obtain ⟨hv9, hg9⟩ := hq9
      cases hv9
      rw [hg9] at hP hA
      refine W.eq (g2 := F0 m 200 ls [.long (m_tk (m_row T (nI o)) (m_many T (nI o)).toInt64), .long (lN (z_sum (a_wd a) (fun z => m_sn a T z ∧ z ∉ (o :: ps)) a.n))]) rfl ?_
      rw [hRT.wd hw hc o1 o2]
      refine lv_ladd hx hb d_Mo_reachable_200 ?_
      rw [lN_add, ← hF]
      refine lv_lstore_n hx hb d_Mo_reachable_201 rfl hl (by decide) rfl (fun ls hl => ?_)
      have hl : lv_has ls 7 [(2, .long (lN (z_sum (a_wd a) (fun z => m_sn a T z ∧ z ∉ ps) a.n))), (4, .int (nI o)), (1, .int (nI ps.length)), (0, .ref (r 20))] := hl
      refine lv_iconst (v := 0) hx hb d_Mo_reachable_202 (by decide) ?_
      refine lv_istore hx hb d_Mo_reachable_203 hl (by decide) rfl (fun ls hl => ?_)
      have hl : lv_has ls 7 [(5, .int 0), (2, .long (lN (z_sum (a_wd a) (fun z => m_sn a T z ∧ z ∉ ps) a.n))), (4, .int (nI o)), (1, .int (nI ps.length)), (0, .ref (r 20))] := hl
      have hl : lv_has ls 7 [(5, .int 0), (4, .int (nI o)), (2, .long (lN (z_sum (a_wd a) (fun z => m_sn a T z ∧ z ∉ ps) a.n))), (1, .int (nI ps.length)), (0, .ref (r 20))] := lv_sub hl [0, 2, 1, 3, 4] rfl
      have hJ1 : m_J a S T ps := ⟨hJ.1, hJt, hJ.2.2⟩
      refine c_mr_E l D cK cI cN cZ cL r hri S a cn hw hc hR0 hx hb hml hown hts hK hE hA0 en r11 r12 r14 o o1 o2 hRo f ih en 0 ls H locs T ps (by omega) hl hP hA hS hJ1 (hI1.mono (fun _ _ z => z.elim) (fun x b _ _ hxb z => ?_)) (by rw [hF]; omega)
      have hxo : x = o := z.resolve_left id
      subst hxo
      obtain ⟨-, -, b1, b2, k, hk, hct⟩ := hxb
      have hct1 := hct
      rw [r14 x k o1 o2] at hct1
      obtain ⟨i, i1, i2, i3⟩ := m_lat.ne (S := S) (o := nI x) (k := k) (n := en) (by rw [hct1]; exact fun y => absurd ((lN_eq (b := 0) (by omega) (by omega)).mp y) (by omega))
      exact Or.inr ⟨rfl, i, Nat.zero_le _, i1, i2, by rw [i3]; exact hk, by rw [i3]; exact hct⟩
set_option maxHeartbeats 8000000 in
set_option maxRecDepth 100000 in
/-- reachable(): how many words all takes that can be come to -/
theorem c_Mo_reachable (l : Launch) (D : va_G) (cK cI cN cZ cL : ClassId) (r : Nat → Nat) (hri : m_inj r) (S : MS) (sz : Nat) (a : Ab) (cn : Nat) (hw : a_W a cn) (hc : cn ≤ 512) (hR : m_R a S cn) : x_M l y_Mo_reachable [.code y_Mo_reachable b_Mo_reachable 7 (some .long)] rmW (w_Pc D (x_tys cK cI cN cZ cL) [.ref (r 20)] (m_w r cN cZ cL S) sz) (w_Qc D (m_w r cN cZ cL S) sz (fun r9 g9 => r9 = .inl (some (.long (lN (a_use a)))) ∧ ∃ T, m_Q S T ∧ g9 = m_w r cN cZ cL T)) 0 0 (y_A (m_w r cN cZ cL S) sz) := by
  refine x_ofW (cc := b_Mo_reachable) (maxL := 7) (ret := (some .long)) (by decide) rfl ?_
  intro p e s m args below meth c s₁ B hml hno hv
  obtain ⟨rfl, hsz, hP, hE⟩ := hv
  subst hsz
  have hts := hE.hts ([.ref (r 20)] : List Value).toArray
  have hK := hE.1.2.1
  have hA0 : ∀ q, s.heap.size ≤ q → y_A (m_w r cN cZ cL S) s.heap.size q := fun q h => Or.inr h
  have hA : ∀ q e, (m_w r cN cZ cL S) q = some e → y_A (m_w r cN cZ cL S) s.heap.size q := fun q e h => Or.inl (by rw [h]; exact fun z => nomatch z)
  have hS : va_S (y_A (m_w r cN cZ cL S) s.heap.size) s.heap s.heap [] := va_S.rf
  generalize hAe : y_A (m_w r cN cZ cL S) s.heap.size = A at hE hA0 hA hS ⊢
  have hx := B.exec
  have hb := B.bytes
  have hr := B.returns
  have hlocks := B.notSynchronized
  have hown : s.vm.findClass R_Mo = some m.cls := findClass_of_methodNamed B.named
  have hl := lv_entry ([.ref (r 20)]) (n := 7) (Nat.le_of_ble_eq_true rfl)
  rw [lg_entry_eq]
  generalize (lg_sl ([.ref (r 20)]) ++ List.replicate (7 - (lg_sl ([.ref (r 20)])).length) Slot.unset).toArray = ls at hl ⊢
  have hl : lv_has ls 7 [(0, .ref (r 20))] := hl
  obtain ⟨QQ, hQ⟩ : ∃ z, z = x_Q below (w_Qc D (m_w r cN cZ cL S) s.heap.size (fun r9 g9 => r9 = .inl (some (.long (lN (a_use a)))) ∧ ∃ T, m_Q S T ∧ g9 = m_w r cN cZ cL T)) ([.ref (r 20)] : List Value).toArray s 0 0 A := ⟨_, rfl⟩
  rw [← hQ]
  have hn : a.n ≤ cn := hw.2.2.2.2.2.2.2.2.2.1
  have hkc : a.kc ≤ cn := hw.2.2.2.2.2.2.2.2.2.2.2
  have hR0 := hR
  obtain ⟨r1, ⟨r2, r3, r4, r5⟩, r6, r7, r8, r9, r10, en, r11, r12, r13, r14⟩ := hR
  have loopK : ∀ (f i : Nat) (ls : Array Slot) (H : Heap) (locs : List Loc) (T : MS) (ps : List Nat), i + f = a.kc → lv_has ls 7 [(4, .int (nI i)), (2, .long 0), (1, .int (nI ps.length)), (0, .ref (r 20))] → y_P D vwCl (m_w r cN cZ cL T) H → (∀ q99 e99, (m_w r cN cZ cL T) q99 = some e99 → A q99) → va_S A s.heap H locs → m_J a S T ps → z_I (a_root a) (a_ed a) a.n (m_sn a T) ps (fun q9 => ∃ z9, i ≤ z9 ∧ z9 < a.kc ∧ S.1 16 z9 = nI q9 ∧ a.kp q9) (fun _ _ => False) → (∀ w, z_sum w (fun z => m_sn a T z ∧ z ∉ ps) a.n = 0) → W p l e rmW s m ([.ref (r 20)] : List Value).toArray below meth c H locs 0 0 QQ (F0 m 103 ls []) := by
    intro f
    induction f with
    | zero =>
      intro i ls H locs T ps hif hl hP hA hS hJ hI hF
      refine lv_iload hx hb d_Mo_reachable_103 (lv_at hl 0 rfl) ?_
      refine lv_aload_n hx hb d_Mo_reachable_105 rfl (lv_at hl 3 rfl) ?_
      refine y_get (D := D) (ci := 5) (v := .int (T.2.2 19)) (C := R_Mo) (T := F_Mo) (N := 20) hx hb hts in_Mo hown hK hP (m_at hri (i := 20) (by decide)) rfl 19 (by decide) (hts (.fieldLink R_Mo 74 "MemoryDeskModel" "keeps" "I") (by decide +kernel)) (fun _ h9 => h9) rfl d_Mo_reachable_106 ?_
      rw [show T.2.2 19 = nI a.kc by rw [hJ.1.1]; exact r5]
      refine lv_icmp_ge hx hb d_Mo_reachable_109 rfl (fun h1 => ?_) (fun h1 => (absurd (show nI a.kc ≤ nI i from nI_le (a := a.kc) (b := i) (by omega) (by omega)) h1))
      have hl : lv_has ls 7 [(2, .long 0), (1, .int (nI ps.length)), (0, .ref (r 20))] := lv_sub hl [1, 2, 3] rfl
      refine c_mr_W l D cK cI cN cZ cL r hri S a cn hw hc hR0 hx hb hml hown hts hK hE hA0 hr hlocks hAe hQ a.n ls H locs T ps (by rw [hF]; exact hl) hP hA hS hJ (hI.mono (fun q9 _ z => by obtain ⟨z9, y1, y2, -⟩ := z; omega) (fun _ _ _ _ _ z => z.elim)) (by omega)
    | succ f ih =>
      intro i ls H locs T ps hif hl hP hA hS hJ hI hF
      refine lv_iload hx hb d_Mo_reachable_103 (lv_at hl 0 rfl) ?_
      refine lv_aload_n hx hb d_Mo_reachable_105 rfl (lv_at hl 3 rfl) ?_
      refine y_get (D := D) (ci := 5) (v := .int (T.2.2 19)) (C := R_Mo) (T := F_Mo) (N := 20) hx hb hts in_Mo hown hK hP (m_at hri (i := 20) (by decide)) rfl 19 (by decide) (hts (.fieldLink R_Mo 74 "MemoryDeskModel" "keeps" "I") (by decide +kernel)) (fun _ h9 => h9) rfl d_Mo_reachable_106 ?_
      rw [show T.2.2 19 = nI a.kc by rw [hJ.1.1]; exact r5]
      refine lv_icmp_ge hx hb d_Mo_reachable_109 rfl (fun h2 => (absurd h2 (nI_ge (a := i) (b := a.kc) (by omega) (by omega)))) (fun h2 => ?_)
      have hiN : i < a.kc := by omega
      have hin9 : vp_in (nI i) 514 := vp_in_nI (by omega) (by decide)
      have hcli : (nI i).toNatClampNeg = i := nI_clamp (by omega)
      have tk : T.1 16 = S.1 16 := hJ.1.2 16 (by decide) (by decide)
      obtain ⟨o, hko, hso⟩ := r10 i hiN
      obtain ⟨ho1, ho2⟩ := hw.2.2.2.1 o hko
      have hld : T.1 16 (nI i).toNatClampNeg = nI o := by rw [hcli, tk]; exact hso
      have hclo : (nI o).toNatClampNeg = o := nI_clamp (by omega)
      have hRo : a_R a o := z_R.root (Or.inr hko)
      refine lv_aload_n hx hb d_Mo_reachable_112 rfl (lv_at hl 3 rfl) ?_
      refine y_get (D := D) (ci := 5) (v := .ref (r 18)) (C := R_Mo) (T := F_Mo) (N := 20) hx hb hts in_Mo hown hK hP (m_at hri (i := 20) (by decide)) rfl 18 (by decide) (hts (.fieldLink R_Mo 56 "MemoryDeskModel" "reached" "[Z") (by decide +kernel)) (fun _ h9 => h9) rfl d_Mo_reachable_113 ?_
      refine lv_aload_n hx hb d_Mo_reachable_116 rfl (lv_at hl 3 rfl) ?_
      refine y_get (D := D) (ci := 5) (v := .ref (r 16)) (C := R_Mo) (T := F_Mo) (N := 20) hx hb hts in_Mo hown hK hP (m_at hri (i := 20) (by decide)) rfl 16 (by decide) (hts (.fieldLink R_Mo 50 "MemoryDeskModel" "kept" "[I") (by decide +kernel)) (fun _ h9 => h9) rfl d_Mo_reachable_117 ?_
      refine lv_iload hx hb d_Mo_reachable_120 (lv_at hl 0 rfl) ?_
      refine y_iald (f := (T.1 16)) hx hb hK hP 2 (m_at hri (i := 16) (by decide)) rfl hin9 d_Mo_reachable_122 ?_
      rw [hld]
      refine y_zald (f := (T.1 18)) hx hb hK hP 3 (m_at hri (i := 18) (by decide)) rfl (vp_in_nI (by omega) (by decide)) d_Mo_reachable_123 ?_
      rw [hclo]
      refine lv_if_ne hx hb d_Mo_reachable_124 rfl (fun h3 => ?_) (fun h3 => ?_)
      · -- ifne at 124: to 156
        have hs4 : m_sn a T o := ⟨ho1, ho2, (hJ.2.2 o ho1 ho2).resolve_left h3⟩
        refine lv_iinc (k := 0) (v := ((nI i) + 1)) hx hb d_Mo_reachable_156 hl rfl rfl (by decide) rfl (fun ls hl => ?_)
        have hl : lv_has ls 7 [(4, .int ((nI i) + 1)), (2, .long 0), (1, .int (nI ps.length)), (0, .ref (r 20))] := hl
        refine lv_goto hx hb d_Mo_reachable_159 rfl ?_
        have hl : lv_has ls 7 [(4, .int ((nI i) + 1)), (2, .long 0), (1, .int (nI ps.length)), (0, .ref (r 20))] := lv_sub hl [0, 1, 2, 3] rfl
        rw [nI_1] at hl
        exact ih (i + 1) ls H locs T ps (by omega) hl hP hA hS hJ (hI.mono (fun q9 _ z => (by obtain ⟨z9, y1, y2, y3⟩ := z; exact (Classical.em (z9 = i)).elim (fun hz => Or.inl (by rw [hz] at y3; have e9 : o = q9 := (nI_eq (by omega) (by have := hw.2.2.2.1 q9 y3.2; omega)).mp (hso.symm.trans y3.1); rw [← e9]; exact hs4)) (fun hz => Or.inr ⟨z9, by omega, y2, y3⟩))) (fun _ _ _ _ _ z => z.elim)) hF
      · -- ifne at 124: to 127
        have hns : ¬ m_sn a T o := fun z => by have hh_ := z.2.2; rw [h3] at hh_; exact absurd hh_ (by decide)
        obtain ⟨hI2, hF2⟩ := hI.visit ho1 ho2 hRo hns
        have hroom2 := hI2.room
        rw [List.length_cons] at hroom2
        refine lv_aload_n hx hb d_Mo_reachable_127 rfl (lv_at hl 3 rfl) ?_
        refine y_get (D := D) (ci := 5) (v := .ref (r 18)) (C := R_Mo) (T := F_Mo) (N := 20) hx hb hts in_Mo hown hK hP (m_at hri (i := 20) (by decide)) rfl 18 (by decide) (hts (.fieldLink R_Mo 56 "MemoryDeskModel" "reached" "[Z") (by decide +kernel)) (fun _ h9 => h9) rfl d_Mo_reachable_128 ?_
        refine lv_aload_n hx hb d_Mo_reachable_131 rfl (lv_at hl 3 rfl) ?_
        refine y_get (D := D) (ci := 5) (v := .ref (r 16)) (C := R_Mo) (T := F_Mo) (N := 20) hx hb hts in_Mo hown hK hP (m_at hri (i := 20) (by decide)) rfl 16 (by decide) (hts (.fieldLink R_Mo 50 "MemoryDeskModel" "kept" "[I") (by decide +kernel)) (fun _ h9 => h9) rfl d_Mo_reachable_132 ?_
        refine lv_iload hx hb d_Mo_reachable_135 (lv_at hl 0 rfl) ?_
        refine y_iald (f := (T.1 16)) hx hb hK hP 2 (m_at hri (i := 16) (by decide)) rfl hin9 d_Mo_reachable_137 ?_
        rw [hld]
        refine lv_iconst (v := 1) hx hb d_Mo_reachable_138 (by decide) ?_
        refine y_zast (f := (T.1 18)) hx hb hK hP hA hS 3 (m_at hri (i := 18) (by decide)) rfl (vp_in_nI (by omega) (by decide)) m_nar1 d_Mo_reachable_139 (fun H locs hP hA hS => ?_)
        have e9 : va_up (m_w r cN cZ cL T) (r 18) (some (.inl (cZ, 514, .inl (upd (T.1 18) (nI o).toNatClampNeg 1)))) = (m_w r cN cZ cL (m_a T 18 (nI o).toNatClampNeg 1)) := m_wa18 hri T (nI o).toNatClampNeg 1
        have hP : y_P D vwCl (m_w r cN cZ cL (m_a T 18 (nI o).toNatClampNeg 1)) H := by rw [← e9]; exact hP
        have hA : ∀ q99 e99, (m_w r cN cZ cL (m_a T 18 (nI o).toNatClampNeg 1)) q99 = some e99 → A q99 := by rw [← e9]; exact hA
        refine lv_aload_n hx hb d_Mo_reachable_140 rfl (lv_at hl 3 rfl) ?_
        refine y_get (D := D) (ci := 5) (v := .ref (r 17)) (C := R_Mo) (T := F_Mo) (N := 20) hx hb hts in_Mo hown hK hP (m_at hri (i := 20) (by decide)) rfl 17 (by decide) (hts (.fieldLink R_Mo 53 "MemoryDeskModel" "todo" "[I") (by decide +kernel)) (fun _ h9 => h9) rfl d_Mo_reachable_141 ?_
        refine lv_iload_n hx hb d_Mo_reachable_144 rfl (lv_at hl 2 rfl) ?_
        refine lv_iinc (k := 2) (v := ((nI ps.length) + 1)) hx hb d_Mo_reachable_145 hl rfl rfl (by decide) rfl (fun ls hl => ?_)
        have hl : lv_has ls 7 [(1, .int ((nI ps.length) + 1)), (4, .int (nI i)), (2, .long 0), (0, .ref (r 20))] := hl
        refine lv_aload_n hx hb d_Mo_reachable_148 rfl (lv_at hl 3 rfl) ?_
        refine y_get (D := D) (ci := 5) (v := .ref (r 16)) (C := R_Mo) (T := F_Mo) (N := 20) hx hb hts in_Mo hown hK hP (m_at hri (i := 20) (by decide)) rfl 16 (by decide) (hts (.fieldLink R_Mo 50 "MemoryDeskModel" "kept" "[I") (by decide +kernel)) (fun _ h9 => h9) rfl d_Mo_reachable_149 ?_
        refine lv_iload hx hb d_Mo_reachable_152 (lv_at hl 1 rfl) ?_
        refine y_iald (f := (T.1 16)) hx hb hK hP 2 (m_at hri (i := 16) (by decide)) rfl hin9 d_Mo_reachable_154 ?_
        rw [hld]
        refine y_iast (f := (T.1 17)) hx hb hK hP hA hS 2 (m_at hri (i := 17) (by decide)) rfl (vp_in_nI (by omega) (by decide)) d_Mo_reachable_155 (fun H locs hP hA hS => ?_)
        have e9 : va_up (m_w r cN cZ cL (m_a T 18 (nI o).toNatClampNeg 1)) (r 17) (some (.inl (cN, 514, .inl (upd (T.1 17) (nI ps.length).toNatClampNeg (nI o))))) = (m_w r cN cZ cL (m_a (m_a T 18 (nI o).toNatClampNeg 1) 17 (nI ps.length).toNatClampNeg (nI o))) := m_wa17 hri (m_a T 18 (nI o).toNatClampNeg 1) (nI ps.length).toNatClampNeg (nI o)
        have hP : y_P D vwCl (m_w r cN cZ cL (m_a (m_a T 18 (nI o).toNatClampNeg 1) 17 (nI ps.length).toNatClampNeg (nI o))) H := by rw [← e9]; exact hP
        have hA : ∀ q99 e99, (m_w r cN cZ cL (m_a (m_a T 18 (nI o).toNatClampNeg 1) 17 (nI ps.length).toNatClampNeg (nI o))) q99 = some e99 → A q99 := by rw [← e9]; exact hA
        have hTT : (m_a (m_a T 18 (nI o).toNatClampNeg 1) 17 (nI ps.length).toNatClampNeg (nI o)) = (m_a (m_a T 18 o 1) 17 ps.length (nI o)) := by rw [hclo, nI_clamp (show ps.length < 2 ^ 31 by omega)]
        rw [hTT] at hP hA
        refine lv_iinc (k := 1) (v := ((nI i) + 1)) hx hb d_Mo_reachable_156 hl rfl rfl (by decide) rfl (fun ls hl => ?_)
        have hl : lv_has ls 7 [(4, .int ((nI i) + 1)), (1, .int ((nI ps.length) + 1)), (2, .long 0), (0, .ref (r 20))] := hl
        refine lv_goto hx hb d_Mo_reachable_159 rfl ?_
        have hl : lv_has ls 7 [(4, .int ((nI i) + 1)), (2, .long 0), (1, .int ((nI ps.length) + 1)), (0, .ref (r 20))] := lv_sub hl [0, 2, 1, 3] rfl
        rw [nI_1, nI_1] at hl
        have hsn9 : m_sn a (m_a (m_a T 18 o 1) 17 ps.length (nI o)) = _ := m_sn.visit (T := T) (ps := ps) ho1 ho2
        refine ih (i + 1) ls H locs (m_a (m_a T 18 o 1) 17 ps.length (nI o)) (o :: ps) (by omega) hl hP hA hS hJ.visit ?_ ?_
        · rw [hsn9]
          exact hI2.mono (fun q9 _ z => (by obtain ⟨z9, y1, y2, y3⟩ := z; exact (Classical.em (z9 = i)).elim (fun hz => Or.inl (by rw [hz] at y3; have e9 : o = q9 := (nI_eq (by omega) (by have := hw.2.2.2.1 q9 y3.2; omega)).mp (hso.symm.trans y3.1); rw [← e9]; exact (Or.inr rfl))) (fun hz => Or.inr ⟨z9, by omega, y2, y3⟩))) (fun _ _ _ _ _ z => z.elim)
        · intro w; rw [hsn9, hF2]; exact hF w
  have loopS : ∀ (f i : Nat) (ls : Array Slot) (H : Heap) (locs : List Loc) (T : MS) (ps : List Nat), i + f = 32 → lv_has ls 7 [(4, .int (nI i)), (2, .long 0), (1, .int (nI ps.length)), (0, .ref (r 20))] → y_P D vwCl (m_w r cN cZ cL T) H → (∀ q99 e99, (m_w r cN cZ cL T) q99 = some e99 → A q99) → va_S A s.heap H locs → m_J a S T ps → z_I (a_root a) (a_ed a) a.n (m_sn a T) ps (fun q9 => (∃ z9, i ≤ z9 ∧ z9 < 32 ∧ a.sl z9 = q9 ∧ q9 ≠ 0) ∨ a.kp q9) (fun _ _ => False) → (∀ w, z_sum w (fun z => m_sn a T z ∧ z ∉ ps) a.n = 0) → W p l e rmW s m ([.ref (r 20)] : List Value).toArray below meth c H locs 0 0 QQ (F0 m 33 ls []) := by
    intro f
    induction f with
    | zero =>
      intro i ls H locs T ps hif hl hP hA hS hJ hI hF
      refine lv_iload hx hb d_Mo_reachable_33 (lv_at hl 0 rfl) ?_
      refine lv_bipush (v := 32) hx hb d_Mo_reachable_35 (by decide) ?_
      refine lv_icmp_ge hx hb d_Mo_reachable_37 rfl (fun h4 => ?_) (fun h4 => (absurd (show (32 : Int32) ≤ nI i from nI_le (a := 32) (b := i) (by omega) (by omega)) h4))
      refine lv_iconst (v := 0) hx hb d_Mo_reachable_100 (by decide) ?_
      refine lv_istore hx hb d_Mo_reachable_101 hl (by decide) rfl (fun ls hl => ?_)
      have hl : lv_has ls 7 [(4, .int 0), (2, .long 0), (1, .int (nI ps.length)), (0, .ref (r 20))] := hl
      have hl : lv_has ls 7 [(4, .int 0), (2, .long 0), (1, .int (nI ps.length)), (0, .ref (r 20))] := lv_sub hl [0, 1, 2, 3] rfl
      refine loopK a.kc 0 ls H locs T ps (by omega) hl hP hA hS hJ (hI.mono (fun q9 _ z => Or.inr (z.elim (fun y => by obtain ⟨z9, y1, y2, -⟩ := y; omega) (fun y => by obtain ⟨i9, y1, y2⟩ := r9 q9 y; exact ⟨i9, Nat.zero_le _, y1, y2, y⟩))) (fun _ _ _ _ _ z => z.elim)) hF
    | succ f ih =>
      intro i ls H locs T ps hif hl hP hA hS hJ hI hF
      refine lv_iload hx hb d_Mo_reachable_33 (lv_at hl 0 rfl) ?_
      refine lv_bipush (v := 32) hx hb d_Mo_reachable_35 (by decide) ?_
      refine lv_icmp_ge hx hb d_Mo_reachable_37 rfl (fun h5 => (absurd h5 (nI_ge (a := i) (b := 32) (by omega) (by omega)))) (fun h5 => ?_)
      have hiN : i < 32 := by omega
      have hin9 : vp_in (nI i) 32 := vp_in_nI (by omega) (by decide)
      have hcli : (nI i).toNatClampNeg = i := nI_clamp (by omega)
      have tk : T.1 15 = S.1 15 := hJ.1.2 15 (by decide) (by decide)
      have hso : S.1 15 i = nI (a.sl i) := r8 i hiN
      have ho2 : a.sl i ≤ a.n := hw.2.2.1 i hiN
      obtain ⟨o, hoo⟩ : ∃ o, o = a.sl i := ⟨_, rfl⟩
      rw [← hoo] at hso ho2
      have hld : T.1 15 (nI i).toNatClampNeg = nI o := by rw [hcli, tk]; exact hso
      have hclo : (nI o).toNatClampNeg = o := nI_clamp (by omega)
      refine lv_aload_n hx hb d_Mo_reachable_40 rfl (lv_at hl 3 rfl) ?_
      refine y_get (D := D) (ci := 5) (v := .ref (r 15)) (C := R_Mo) (T := F_Mo) (N := 20) hx hb hts in_Mo hown hK hP (m_at hri (i := 20) (by decide)) rfl 15 (by decide) (hts (.fieldLink R_Mo 47 "MemoryDeskModel" "slots" "[I") (by decide +kernel)) (fun _ h9 => h9) rfl d_Mo_reachable_41 ?_
      refine lv_iload hx hb d_Mo_reachable_44 (lv_at hl 0 rfl) ?_
      refine y_iald (f := (T.1 15)) hx hb hK hP 2 (m_at hri (i := 15) (by decide)) rfl hin9 d_Mo_reachable_46 ?_
      rw [hld]
      refine lv_if_eq hx hb d_Mo_reachable_47 rfl (fun h6 => ?_) (fun h6 => ?_)
      · -- ifeq at 47: to 94
        refine lv_iinc (k := 0) (v := ((nI i) + 1)) hx hb d_Mo_reachable_94 hl rfl rfl (by decide) rfl (fun ls hl => ?_)
        have hl : lv_has ls 7 [(4, .int ((nI i) + 1)), (2, .long 0), (1, .int (nI ps.length)), (0, .ref (r 20))] := hl
        refine lv_goto hx hb d_Mo_reachable_97 rfl ?_
        have hl : lv_has ls 7 [(4, .int ((nI i) + 1)), (2, .long 0), (1, .int (nI ps.length)), (0, .ref (r 20))] := lv_sub hl [0, 1, 2, 3] rfl
        rw [nI_1] at hl
        exact ih (i + 1) ls H locs T ps (by omega) hl hP hA hS hJ (hI.mono (fun q9 _ z => z.elim (fun y => by obtain ⟨z9, y1, y2, y3, y4⟩ := y; exact (Classical.em (z9 = i)).elim (fun hz => absurd ((nI_eq (b := 0) (by omega) (by omega)).mp h6) (by rw [hoo, ← hz, y3]; exact y4)) (fun hz => Or.inr (Or.inl ⟨z9, by omega, y2, y3, y4⟩))) (fun y => Or.inr (Or.inr y))) (fun _ _ _ _ _ z => z.elim)) hF
      · -- ifeq at 47: to 50
        have ho0 : o ≠ 0 := fun z => h6 (by rw [z]; rfl)
        have hRo : a_R a o := by rw [hoo] at ho0 ⊢; exact a_R.sl hiN ho0
        have ho1 : 1 ≤ o := by omega
        refine lv_aload_n hx hb d_Mo_reachable_50 rfl (lv_at hl 3 rfl) ?_
        refine y_get (D := D) (ci := 5) (v := .ref (r 18)) (C := R_Mo) (T := F_Mo) (N := 20) hx hb hts in_Mo hown hK hP (m_at hri (i := 20) (by decide)) rfl 18 (by decide) (hts (.fieldLink R_Mo 56 "MemoryDeskModel" "reached" "[Z") (by decide +kernel)) (fun _ h9 => h9) rfl d_Mo_reachable_51 ?_
        refine lv_aload_n hx hb d_Mo_reachable_54 rfl (lv_at hl 3 rfl) ?_
        refine y_get (D := D) (ci := 5) (v := .ref (r 15)) (C := R_Mo) (T := F_Mo) (N := 20) hx hb hts in_Mo hown hK hP (m_at hri (i := 20) (by decide)) rfl 15 (by decide) (hts (.fieldLink R_Mo 47 "MemoryDeskModel" "slots" "[I") (by decide +kernel)) (fun _ h9 => h9) rfl d_Mo_reachable_55 ?_
        refine lv_iload hx hb d_Mo_reachable_58 (lv_at hl 0 rfl) ?_
        refine y_iald (f := (T.1 15)) hx hb hK hP 2 (m_at hri (i := 15) (by decide)) rfl hin9 d_Mo_reachable_60 ?_
        rw [hld]
        refine y_zald (f := (T.1 18)) hx hb hK hP 3 (m_at hri (i := 18) (by decide)) rfl (vp_in_nI (by omega) (by decide)) d_Mo_reachable_61 ?_
        rw [hclo]
        refine lv_if_ne hx hb d_Mo_reachable_62 rfl (fun h7 => ?_) (fun h7 => ?_)
        · -- ifne at 62: to 94
          have hs4 : m_sn a T o := ⟨ho1, ho2, (hJ.2.2 o ho1 ho2).resolve_left h7⟩
          refine lv_iinc (k := 0) (v := ((nI i) + 1)) hx hb d_Mo_reachable_94 hl rfl rfl (by decide) rfl (fun ls hl => ?_)
          have hl : lv_has ls 7 [(4, .int ((nI i) + 1)), (2, .long 0), (1, .int (nI ps.length)), (0, .ref (r 20))] := hl
          refine lv_goto hx hb d_Mo_reachable_97 rfl ?_
          have hl : lv_has ls 7 [(4, .int ((nI i) + 1)), (2, .long 0), (1, .int (nI ps.length)), (0, .ref (r 20))] := lv_sub hl [0, 1, 2, 3] rfl
          rw [nI_1] at hl
          exact ih (i + 1) ls H locs T ps (by omega) hl hP hA hS hJ (hI.mono (fun q9 _ z => z.elim (fun y => by obtain ⟨z9, y1, y2, y3, y4⟩ := y; exact (Classical.em (z9 = i)).elim (fun hz => Or.inl (by rw [← y3, hz, ← hoo]; exact hs4)) (fun hz => Or.inr (Or.inl ⟨z9, by omega, y2, y3, y4⟩))) (fun y => Or.inr (Or.inr y))) (fun _ _ _ _ _ z => z.elim)) hF
        · -- ifne at 62: to 65
          have hns : ¬ m_sn a T o := fun z => by have hh_ := z.2.2; rw [h7] at hh_; exact absurd hh_ (by decide)
          obtain ⟨hI2, hF2⟩ := hI.visit ho1 ho2 hRo hns
          have hroom2 := hI2.room
          rw [List.length_cons] at hroom2
          refine lv_aload_n hx hb d_Mo_reachable_65 rfl (lv_at hl 3 rfl) ?_
          refine y_get (D := D) (ci := 5) (v := .ref (r 18)) (C := R_Mo) (T := F_Mo) (N := 20) hx hb hts in_Mo hown hK hP (m_at hri (i := 20) (by decide)) rfl 18 (by decide) (hts (.fieldLink R_Mo 56 "MemoryDeskModel" "reached" "[Z") (by decide +kernel)) (fun _ h9 => h9) rfl d_Mo_reachable_66 ?_
          refine lv_aload_n hx hb d_Mo_reachable_69 rfl (lv_at hl 3 rfl) ?_
          refine y_get (D := D) (ci := 5) (v := .ref (r 15)) (C := R_Mo) (T := F_Mo) (N := 20) hx hb hts in_Mo hown hK hP (m_at hri (i := 20) (by decide)) rfl 15 (by decide) (hts (.fieldLink R_Mo 47 "MemoryDeskModel" "slots" "[I") (by decide +kernel)) (fun _ h9 => h9) rfl d_Mo_reachable_70 ?_
          refine lv_iload hx hb d_Mo_reachable_73 (lv_at hl 0 rfl) ?_
          refine y_iald (f := (T.1 15)) hx hb hK hP 2 (m_at hri (i := 15) (by decide)) rfl hin9 d_Mo_reachable_75 ?_
          rw [hld]
          refine lv_iconst (v := 1) hx hb d_Mo_reachable_76 (by decide) ?_
          refine y_zast (f := (T.1 18)) hx hb hK hP hA hS 3 (m_at hri (i := 18) (by decide)) rfl (vp_in_nI (by omega) (by decide)) m_nar1 d_Mo_reachable_77 (fun H locs hP hA hS => ?_)
          have e9 : va_up (m_w r cN cZ cL T) (r 18) (some (.inl (cZ, 514, .inl (upd (T.1 18) (nI o).toNatClampNeg 1)))) = (m_w r cN cZ cL (m_a T 18 (nI o).toNatClampNeg 1)) := m_wa18 hri T (nI o).toNatClampNeg 1
          have hP : y_P D vwCl (m_w r cN cZ cL (m_a T 18 (nI o).toNatClampNeg 1)) H := by rw [← e9]; exact hP
          have hA : ∀ q99 e99, (m_w r cN cZ cL (m_a T 18 (nI o).toNatClampNeg 1)) q99 = some e99 → A q99 := by rw [← e9]; exact hA
          refine lv_aload_n hx hb d_Mo_reachable_78 rfl (lv_at hl 3 rfl) ?_
          refine y_get (D := D) (ci := 5) (v := .ref (r 17)) (C := R_Mo) (T := F_Mo) (N := 20) hx hb hts in_Mo hown hK hP (m_at hri (i := 20) (by decide)) rfl 17 (by decide) (hts (.fieldLink R_Mo 53 "MemoryDeskModel" "todo" "[I") (by decide +kernel)) (fun _ h9 => h9) rfl d_Mo_reachable_79 ?_
          refine lv_iload_n hx hb d_Mo_reachable_82 rfl (lv_at hl 2 rfl) ?_
          refine lv_iinc (k := 2) (v := ((nI ps.length) + 1)) hx hb d_Mo_reachable_83 hl rfl rfl (by decide) rfl (fun ls hl => ?_)
          have hl : lv_has ls 7 [(1, .int ((nI ps.length) + 1)), (4, .int (nI i)), (2, .long 0), (0, .ref (r 20))] := hl
          refine lv_aload_n hx hb d_Mo_reachable_86 rfl (lv_at hl 3 rfl) ?_
          refine y_get (D := D) (ci := 5) (v := .ref (r 15)) (C := R_Mo) (T := F_Mo) (N := 20) hx hb hts in_Mo hown hK hP (m_at hri (i := 20) (by decide)) rfl 15 (by decide) (hts (.fieldLink R_Mo 47 "MemoryDeskModel" "slots" "[I") (by decide +kernel)) (fun _ h9 => h9) rfl d_Mo_reachable_87 ?_
          refine lv_iload hx hb d_Mo_reachable_90 (lv_at hl 1 rfl) ?_
          refine y_iald (f := (T.1 15)) hx hb hK hP 2 (m_at hri (i := 15) (by decide)) rfl hin9 d_Mo_reachable_92 ?_
          rw [hld]
          refine y_iast (f := (T.1 17)) hx hb hK hP hA hS 2 (m_at hri (i := 17) (by decide)) rfl (vp_in_nI (by omega) (by decide)) d_Mo_reachable_93 (fun H locs hP hA hS => ?_)
          have e9 : va_up (m_w r cN cZ cL (m_a T 18 (nI o).toNatClampNeg 1)) (r 17) (some (.inl (cN, 514, .inl (upd (T.1 17) (nI ps.length).toNatClampNeg (nI o))))) = (m_w r cN cZ cL (m_a (m_a T 18 (nI o).toNatClampNeg 1) 17 (nI ps.length).toNatClampNeg (nI o))) := m_wa17 hri (m_a T 18 (nI o).toNatClampNeg 1) (nI ps.length).toNatClampNeg (nI o)
          have hP : y_P D vwCl (m_w r cN cZ cL (m_a (m_a T 18 (nI o).toNatClampNeg 1) 17 (nI ps.length).toNatClampNeg (nI o))) H := by rw [← e9]; exact hP
          have hA : ∀ q99 e99, (m_w r cN cZ cL (m_a (m_a T 18 (nI o).toNatClampNeg 1) 17 (nI ps.length).toNatClampNeg (nI o))) q99 = some e99 → A q99 := by rw [← e9]; exact hA
          have hTT : (m_a (m_a T 18 (nI o).toNatClampNeg 1) 17 (nI ps.length).toNatClampNeg (nI o)) = (m_a (m_a T 18 o 1) 17 ps.length (nI o)) := by rw [hclo, nI_clamp (show ps.length < 2 ^ 31 by omega)]
          rw [hTT] at hP hA
          refine lv_iinc (k := 1) (v := ((nI i) + 1)) hx hb d_Mo_reachable_94 hl rfl rfl (by decide) rfl (fun ls hl => ?_)
          have hl : lv_has ls 7 [(4, .int ((nI i) + 1)), (1, .int ((nI ps.length) + 1)), (2, .long 0), (0, .ref (r 20))] := hl
          refine lv_goto hx hb d_Mo_reachable_97 rfl ?_
          have hl : lv_has ls 7 [(4, .int ((nI i) + 1)), (2, .long 0), (1, .int ((nI ps.length) + 1)), (0, .ref (r 20))] := lv_sub hl [0, 2, 1, 3] rfl
          rw [nI_1, nI_1] at hl
          have hsn9 : m_sn a (m_a (m_a T 18 o 1) 17 ps.length (nI o)) = _ := m_sn.visit (T := T) (ps := ps) ho1 ho2
          refine ih (i + 1) ls H locs (m_a (m_a T 18 o 1) 17 ps.length (nI o)) (o :: ps) (by omega) hl hP hA hS hJ.visit ?_ ?_
          · rw [hsn9]
            exact hI2.mono (fun q9 _ z => z.elim (fun y => by obtain ⟨z9, y1, y2, y3, y4⟩ := y; exact (Classical.em (z9 = i)).elim (fun hz => Or.inl (by rw [← y3, hz, ← hoo]; exact (Or.inr rfl))) (fun hz => Or.inr (Or.inl ⟨z9, by omega, y2, y3, y4⟩))) (fun y => Or.inr (Or.inr y))) (fun _ _ _ _ _ z => z.elim)
          · intro w; rw [hsn9, hF2]; exact hF w
  have loopZ : ∀ (f i : Nat) (ls : Array Slot) (H : Heap) (locs : List Loc) (T : MS), 1 ≤ i → i + f = a.n + 1 → lv_has ls 7 [(4, .int (nI i)), (2, .long 0), (1, .int 0), (0, .ref (r 20))] → y_P D vwCl (m_w r cN cZ cL T) H → (∀ q99 e99, (m_w r cN cZ cL T) q99 = some e99 → A q99) → va_S A s.heap H locs → m_Q S T → (∀ o, 1 ≤ o → o < i → T.1 18 o = 0) → W p l e rmW s m ([.ref (r 20)] : List Value).toArray below meth c H locs 0 0 QQ (F0 m 7 ls []) := by
    intro f
    induction f with
    | zero =>
      intro i ls H locs T hi1 hif hl hP hA hS hQT hz0
      refine lv_iload hx hb d_Mo_reachable_7 (lv_at hl 0 rfl) ?_
      refine lv_aload_n hx hb d_Mo_reachable_9 rfl (lv_at hl 3 rfl) ?_
      refine y_get (D := D) (ci := 5) (v := .int (T.2.2 7)) (C := R_Mo) (T := F_Mo) (N := 20) hx hb hts in_Mo hown hK hP (m_at hri (i := 20) (by decide)) rfl 7 (by decide) (hts (.fieldLink R_Mo 71 "MemoryDeskModel" "objects" "I") (by decide +kernel)) (fun _ h9 => h9) rfl d_Mo_reachable_10 ?_
      rw [show T.2.2 7 = nI a.n by rw [hQT.1]; exact r2]
      refine lv_icmp_gt hx hb d_Mo_reachable_13 rfl (fun h8 => ?_) (fun h8 => (absurd (nI_lt (a := a.n) (b := i) (by omega) (by omega)) h8))
      refine lv_iconst (v := 0) hx hb d_Mo_reachable_30 (by decide) ?_
      refine lv_istore hx hb d_Mo_reachable_31 hl (by decide) rfl (fun ls hl => ?_)
      have hl : lv_has ls 7 [(4, .int 0), (2, .long 0), (1, .int 0), (0, .ref (r 20))] := hl
      have hl : lv_has ls 7 [(4, .int 0), (2, .long 0), (1, .int 0), (0, .ref (r 20))] := lv_sub hl [0, 1, 2, 3] rfl
      have hns : ∀ o, ¬ m_sn a T o := fun o z => by have hh_ := hz0 o z.1 (by have := z.2.1; omega); rw [z.2.2] at hh_; exact absurd hh_ (by decide)
      exact loopS 32 0 ls H locs T [] rfl hl hP hA hS ⟨hQT, trivial, fun o z1 z2 => Or.inl (hz0 o z1 (by omega))⟩ ((z_I.start hns).mono (fun q9 _ z => Or.inr (z.elim (fun y => by obtain ⟨z9, y1, y2, y3⟩ := y; exact Or.inl ⟨z9, Nat.zero_le _, y1, y2, y3⟩) Or.inr)) (fun _ _ _ _ _ z => z.elim)) (fun w => z_none (fun o _ _ z => hns o z.1))
    | succ f ih =>
      intro i ls H locs T hi1 hif hl hP hA hS hQT hz0
      refine lv_iload hx hb d_Mo_reachable_7 (lv_at hl 0 rfl) ?_
      refine lv_aload_n hx hb d_Mo_reachable_9 rfl (lv_at hl 3 rfl) ?_
      refine y_get (D := D) (ci := 5) (v := .int (T.2.2 7)) (C := R_Mo) (T := F_Mo) (N := 20) hx hb hts in_Mo hown hK hP (m_at hri (i := 20) (by decide)) rfl 7 (by decide) (hts (.fieldLink R_Mo 71 "MemoryDeskModel" "objects" "I") (by decide +kernel)) (fun _ h9 => h9) rfl d_Mo_reachable_10 ?_
      rw [show T.2.2 7 = nI a.n by rw [hQT.1]; exact r2]
      refine lv_icmp_gt hx hb d_Mo_reachable_13 rfl (fun h9 => (absurd h9 (nI_nlt (a := a.n) (b := i) (by omega) (by omega)))) (fun h9 => ?_)
      refine lv_aload_n hx hb d_Mo_reachable_16 rfl (lv_at hl 3 rfl) ?_
      refine y_get (D := D) (ci := 5) (v := .ref (r 18)) (C := R_Mo) (T := F_Mo) (N := 20) hx hb hts in_Mo hown hK hP (m_at hri (i := 20) (by decide)) rfl 18 (by decide) (hts (.fieldLink R_Mo 56 "MemoryDeskModel" "reached" "[Z") (by decide +kernel)) (fun _ h9 => h9) rfl d_Mo_reachable_17 ?_
      refine lv_iload hx hb d_Mo_reachable_20 (lv_at hl 0 rfl) ?_
      refine lv_iconst (v := 0) hx hb d_Mo_reachable_22 (by decide) ?_
      refine y_zast (f := (T.1 18)) hx hb hK hP hA hS 3 (m_at hri (i := 18) (by decide)) rfl (vp_in_nI (by omega) (by decide)) m_nar0 d_Mo_reachable_23 (fun H locs hP hA hS => ?_)
      have e9 : va_up (m_w r cN cZ cL T) (r 18) (some (.inl (cZ, 514, .inl (upd (T.1 18) (nI i).toNatClampNeg 0)))) = (m_w r cN cZ cL (m_a T 18 (nI i).toNatClampNeg 0)) := m_wa18 hri T (nI i).toNatClampNeg 0
      have hP : y_P D vwCl (m_w r cN cZ cL (m_a T 18 (nI i).toNatClampNeg 0)) H := by rw [← e9]; exact hP
      have hA : ∀ q99 e99, (m_w r cN cZ cL (m_a T 18 (nI i).toNatClampNeg 0)) q99 = some e99 → A q99 := by rw [← e9]; exact hA
      refine lv_iinc (k := 0) (v := ((nI i) + 1)) hx hb d_Mo_reachable_24 hl rfl rfl (by decide) rfl (fun ls hl => ?_)
      have hl : lv_has ls 7 [(4, .int ((nI i) + 1)), (2, .long 0), (1, .int 0), (0, .ref (r 20))] := hl
      refine lv_goto hx hb d_Mo_reachable_27 rfl ?_
      have hl : lv_has ls 7 [(4, .int ((nI i) + 1)), (2, .long 0), (1, .int 0), (0, .ref (r 20))] := lv_sub hl [0, 1, 2, 3] rfl
      rw [nI_1] at hl
      refine ih (i + 1) ls H locs (m_a T 18 (nI i).toNatClampNeg 0) (by omega) (by omega) hl hP hA hS ⟨hQT.1, fun k k1 k2 => ?_⟩ (fun o z1 z2 => ?_)
      · show va_up T.1 18 _ k = _
        rw [va_up_ne _ _ k2]; exact hQT.2 k k1 k2
      · show upd (T.1 18) (nI i).toNatClampNeg 0 o = 0
        unfold upd
        by_cases e9 : o = (nI i).toNatClampNeg
        · rw [if_pos e9]
        · rw [if_neg e9]; rw [nI_clamp (by omega)] at e9; exact hz0 o z1 (by omega)
  refine lv_iconst (v := 0) hx hb d_Mo_reachable_0 (by decide) ?_
  refine lv_istore_n hx hb d_Mo_reachable_1 rfl hl (by decide) rfl (fun ls hl => ?_)
  have hl : lv_has ls 7 [(1, .int 0), (0, .ref (r 20))] := hl
  refine lv_lconst (v := 0) hx hb d_Mo_reachable_2 (by decide) ?_
  refine lv_lstore_n hx hb d_Mo_reachable_3 rfl hl (by decide) rfl (fun ls hl => ?_)
  have hl : lv_has ls 7 [(2, .long 0), (1, .int 0), (0, .ref (r 20))] := hl
  refine lv_iconst (v := 1) hx hb d_Mo_reachable_4 (by decide) ?_
  refine lv_istore hx hb d_Mo_reachable_5 hl (by decide) rfl (fun ls hl => ?_)
  have hl : lv_has ls 7 [(4, .int 1), (2, .long 0), (1, .int 0), (0, .ref (r 20))] := hl
  have hl : lv_has ls 7 [(4, .int 1), (2, .long 0), (1, .int 0), (0, .ref (r 20))] := lv_sub hl [0, 1, 2, 3] rfl
  exact loopZ a.n 1 ls s.heap [] S (by omega) (by omega) hl hP hA hS ⟨rfl, fun _ _ _ => rfl⟩ (fun o z1 z2 => by omega)
