/-! what stands at the law's entry: the tables, the statics -/
section LEnv
theorem la_AO {C : String} {s : State} (h : va_AO C s) : ∃ cA : ClassId, ArrOfT s cA (.object C) ∧ va_RA s cA (.object C) := by
  obtain ⟨comp, c, k, h1, h2, h3, h4, h5⟩ := Cond.arrayOver_spec h
  exact ⟨c, fun N z => ⟨(fun k h => by cases h), k, h3, comp, h4⟩, k, comp, h3, h4, h1, h5⟩
theorem la_one {g : y_G} {mo : Nat} {Z : va_E} (h : g mo = none) : y_J (m_Gl [20] (fun _ => mo) (fun _ => Z)) g (va_up g mo (some Z)) := by
  have h1 : ∀ q, m_Gl [20] (fun _ => mo) (fun _ => Z) q = if q = mo then some Z else none := fun q => by
    unfold m_Gl
    by_cases hq : q = mo
    · subst hq; simp
    · have : (mo == q) = false := by simpa using fun z => hq (Eq.symm z)
      simp [this, hq]
  refine ⟨fun q e => ?_, fun q => ?_⟩
  · rw [h1 q]
    by_cases hq : q = mo
    · subst hq
      rw [va_up_self, if_pos rfl, h]
      exact ⟨Or.inl, fun z => z.elim id (fun y => (nomatch y))⟩
    · rw [va_up_ne _ _ hq, if_neg hq]
      exact ⟨Or.inr, fun z => z.elim (fun y => (nomatch y)) id⟩
  · rw [h1 q]
    by_cases hq : q = mo
    · exact Or.inr (by rw [hq]; exact h)
    · exact Or.inl (if_neg hq)
set_option maxHeartbeats 4000000 in
set_option maxRecDepth 100000 in
/-- at the entry: all that the contracts lean on -/
theorem la_E {s : State} {b : Nat} (hts : ∀ w ∈ lw_tbl, w.before #[Value.ref b] s = true) (hgv : (Jvm.Cond.and given_1 narrow_1).before #[Value.ref b] s = true) : ∃ (D : va_G) (cK cI cN cZ cL : ClassId), w_E D (x_tys cK cI cN cZ cL) (fun q => s.heap.size ≤ q) s s.heap := by
  have hx : ∀ w ∈ x_tbl, w.before #[Value.ref b] s = true := fun w hw => hts w (List.mem_filter.mp hw).1
  have hf := flat_of_before _ hgv
  have ha : ∀ w, (w ∈ lw_tbl ∨ w ∈ flatC (Jvm.Cond.and given_1 narrow_1)) → w.before #[Value.ref b] s = true := fun w h => h.elim (hts w) (hf w)
  have hA : ∀ q, q < s.heap.size → ¬ (s.heap.size ≤ q) := fun q h => Nat.not_le.mpr h
  obtain ⟨c0, i0, k0⟩ := u_known (C := R_Ce) (T := F_Ce) (N := 4) (n := 4) hx in_Ce (hx (.instantiable R_Ce 4) (by decide +kernel))
  obtain ⟨c1, i1, k1⟩ := u_known (C := R_It) (T := F_It) (N := 9) (n := 9) hx in_It (hx (.instantiable R_It 9) (by decide +kernel))
  obtain ⟨c2, i2, k2⟩ := u_known (C := R_Pk) (T := F_Pk) (N := 2) (n := 2) hx in_Pk (hx (.instantiable R_Pk 2) (by decide +kernel))
  obtain ⟨c3, i3, k3⟩ := u_known (C := R_Rk) (T := F_Rk) (N := 2) (n := 2) hx in_Rk (hx (.instantiable R_Rk 2) (by decide +kernel))
  obtain ⟨c4, i4, k4⟩ := u_known (C := R_De) (T := F_De) (N := 11) (n := 11) hx in_De (hx (.instantiable R_De 11) (by decide +kernel))
  obtain ⟨c5, i5, k5⟩ := u_known (C := R_Mo) (T := F_Mo) (N := 20) (n := 20) hx in_Mo (hx (.instantiable R_Mo 20) (by decide +kernel))
  have oK : va_AO "MemoryDesk$Kind" s := va_AO.of (ha (.arrayOver (.object "MemoryDesk$Kind")) (by decide +kernel))
  have oI : va_AO "MemoryDesk$Item" s := va_AO.of (ha (.arrayOver (.object "MemoryDesk$Item")) (by decide +kernel))
  obtain ⟨cK, aK, rK⟩ := la_AO oK
  obtain ⟨cI, aI, rI⟩ := la_AO oI
  obtain ⟨cN, kN, pN, uN, vN, wN⟩ := Cond.arrayClass_spec (hx (.arrayClass .int) (by decide +kernel))
  obtain ⟨cZ, kZ, pZ, uZ, vZ, wZ⟩ := Cond.arrayClass_spec (hx (.arrayClass .boolean) (by decide +kernel))
  obtain ⟨cL, kL, pL, uL, vL, wL⟩ := Cond.arrayClass_spec (hx (.arrayClass .long) (by decide +kernel))
  obtain ⟨t, ht, hT⟩ := va_Tof (args := #[Value.ref b]) (s := s) (tm := (.static R_De "ELEMENT_BITS" "[I")) (ty := .int) (N := 5) (f := fun j => .int ([32, 8, 16, 32, 64].getD j 0)) (A := fun q => s.heap.size ≤ q) (by decide) (ha (.arrayOf (.static R_De "ELEMENT_BITS" "[I") .int) (by decide +kernel)) (va_eqt (ha (.eq (.length (.static R_De "ELEMENT_BITS" "[I")) (.int 5)) (by decide +kernel))) (fun j hj => by
    rcases (show j = 0 ∨ j = 1 ∨ j = 2 ∨ j = 3 ∨ j = 4 by omega) with rfl | rfl | rfl | rfl | rfl
    · exact va_eqt (ha (.eq (.elem (.static R_De "ELEMENT_BITS" "[I") (.int 0)) (.int 32)) (by decide +kernel))
    · exact va_eqt (ha (.eq (.elem (.static R_De "ELEMENT_BITS" "[I") (.int 1)) (.int 8)) (by decide +kernel))
    · exact va_eqt (ha (.eq (.elem (.static R_De "ELEMENT_BITS" "[I") (.int 2)) (.int 16)) (by decide +kernel))
    · exact va_eqt (ha (.eq (.elem (.static R_De "ELEMENT_BITS" "[I") (.int 3)) (.int 32)) (by decide +kernel))
    · exact va_eqt (ha (.eq (.elem (.static R_De "ELEMENT_BITS" "[I") (.int 4)) (.int 64)) (by decide +kernel))) hA
  refine ⟨((fun c => match c with | 0 => c0 | 1 => c1 | 2 => c2 | 3 => c3 | 4 => c4 | _ => c5), (fun c => match c with | 0 => i0 | 1 => i1 | 2 => i2 | 3 => i3 | 4 => i4 | _ => i5)), cK, cI, cN, cZ, cL, ⟨fun w hw => word_at (State.WarmedH.refl s) (tbl_good w hw) (hx w hw), ⟨fun c q h => ?_, fun k q h => ?_⟩, fun w hw => ?_, fun q hq => ?_, fun q hq => ?_, oK, oI⟩,
    x_St.of (ha (.laysStatic Bundle.tN "UNASSIGNED_STACK" Bundle.steD) (by decide +kernel)) (ha (.isRef (.static Bundle.tN "UNASSIGNED_STACK" Bundle.steD)) (by decide +kernel)) hA, x_St.of (ha (.laysStatic Bundle.tN "SUPPRESSED_SENTINEL" Bundle.listD) (by decide +kernel)) (ha (.isRef (.static Bundle.tN "SUPPRESSED_SENTINEL" Bundle.listD)) (by decide +kernel)) hA,
    t, va_Zref (ha (.laysStatic R_De "ELEMENT_BITS" "[I") (by decide +kernel)) (ha (.initialized R_De) (by decide +kernel)) ht hA, hT⟩
  · rcases c with _ | _ | _ | _ | _ | _ | c
    · have h := Option.some.inj (show some (R_Ce, F_Ce, 4) = some q from h)
      subst h
      exact k0
    · have h := Option.some.inj (show some (R_It, F_It, 9) = some q from h)
      subst h
      exact k1
    · have h := Option.some.inj (show some (R_Pk, F_Pk, 2) = some q from h)
      subst h
      exact k2
    · have h := Option.some.inj (show some (R_Rk, F_Rk, 2) = some q from h)
      subst h
      exact k3
    · have h := Option.some.inj (show some (R_De, F_De, 11) = some q from h)
      subst h
      exact k4
    · have h := Option.some.inj (show some (R_Mo, F_Mo, 20) = some q from h)
      subst h
      exact k5
    · exact absurd h (by rw [List.getElem?_eq_none (by show 6 ≤ c + 6; omega)]; exact fun z => by cases z)
  · rcases k with _ | _ | _ | _ | _ | k
    · have h := Option.some.inj (show some (cK, (.object "MemoryDesk$Kind" : FieldType)) = some q from h)
      subst h
      exact ⟨aK, rK⟩
    · have h := Option.some.inj (show some (cI, (.object "MemoryDesk$Item" : FieldType)) = some q from h)
      subst h
      exact ⟨aI, rI⟩
    · have h := Option.some.inj (show some (cN, (.int : FieldType)) = some q from h)
      subst h
      exact ⟨fun N z => ⟨(fun k h => by cases h), kN, vN, pN, wN⟩, uN⟩
    · have h := Option.some.inj (show some (cZ, (.boolean : FieldType)) = some q from h)
      subst h
      exact ⟨fun N z => ⟨(fun k h => by cases h), kZ, vZ, pZ, wZ⟩, uZ⟩
    · have h := Option.some.inj (show some (cL, (.long : FieldType)) = some q from h)
      subst h
      exact ⟨fun N z => ⟨(fun k h => by cases h), kL, vL, pL, wL⟩, uL⟩
    · exact absurd h (by rw [List.getElem?_eq_none (by show 5 ≤ k + 5; omega)]; exact fun z => by cases z)
  · have hm := List.mem_filter.mp hw
    have h1 := hts w hm.1
    have h2 := hm.2
    cases w with
    | declares x => exact va_Nw.of rfl h1
    | castable a b => exact va_Nw.of rfl h1
    | methodLinkNest a i x b => exact va_Nw.of rfl h1
    | _ => cases h2
  · have h1 : ∀ q ∈ x_strs, (Cond.stringRef R_De q.1 q.2) ∈ lw_tbl := by decide +kernel
    have h2 := hts _ (h1 q hq)
    obtain ⟨_, _, _, sa, _, _, _, _, _, hev⟩ := Cond.stringRef_spec k4.2.1 h2
    exact ⟨sa, vk_R.of h2 hev⟩
  · have h1 : ∀ q ∈ x_nos, (Cond.not (.castable q.1 q.2)) ∈ lw_tbl ∨ (Cond.not (.castable q.1 q.2)) ∈ flatC (Jvm.Cond.and given_1 narrow_1) := by decide +kernel
    exact va_Nc.of (ha _ (h1 q hq))
end LEnv
