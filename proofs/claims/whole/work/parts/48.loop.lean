/-! the law's loop -/
section LLoop
set_option maxHeartbeats 4000000 in
set_option maxRecDepth 100000 in
/-- the loop -/
theorem la_loop (l : Launch) (hst : l.stackTraces = false) {p : Program} {e : Env} {s : State} {m : MethodId} {below : List Frame} {meth : Method} {c : Code} {Q : State → Prop} {b L : Nat} {xs : Nat → Int32} {A : Nat → Prop} {D : va_G} (cK cI cN cZ cL : ClassId) {d ou : Nat} {r : Nat → Nat} (hri : m_inj r) (hC : la_C p s m c b L xs D cK cI cN cZ cL A) (hL : L ≤ 2560) (kend : ∀ (ls : Array Slot) (H : Heap) (locs : List Loc) (cells slots : Nat), cells ≤ room_1.cells → slots ≤ room_1.slots → va_S A s.heap H locs → W p l e room_1 s m #[Value.ref b] below meth c H locs cells slots Q (F0 m 1136 ls [])) :
    ∀ (n : Nat) (ls : Array Slot) (k : Nat) (H : Heap) (locs : List Loc) (cells slots : Nat), k + n ≤ 512 → 5 * (k + n) ≤ L → L < 5 * (k + n) + 5 → cells + 6 * n ≤ room_1.cells → slots + 60 * n ≤ room_1.slots → la_I cK cI cN cZ cL D A s d ou r k H locs → lv_has ls 8 [(4, .int (nI (5 * k))), (0, .ref b), (1, .ref d), (2, .ref (r 20)), (3, .ref ou)] → W p l e room_1 s m #[Value.ref b] below meth c H locs cells slots Q (F0 m 23 ls []) := by
  have hC0 := hC
  obtain ⟨hx, hb, hml, hown, hE, hA0, hX, hbl, hbA⟩ := hC
  intro n
  induction n with
  | zero =>
    intro ls k H locs cells slots b1 b2 b3 b4 b5 hI hl
    have hS : va_S A s.heap H locs := by obtain ⟨_, _, _, _, _, _, _, _, _, _, _, _, _, hS⟩ := hI; exact hS
    refine lv_iload hx hb d_La_law_23 (lv_at hl 0 rfl) ?_
    refine lv_aload_n hx hb d_La_law_25 rfl (lv_at hl 1 rfl) ?_
    refine va_slen hx hb hX hbl hbA hS d_La_law_26 ?_
    refine lv_iconst (v := 5) hx hb d_La_law_27 (by decide) ?_
    refine lv_isub hx hb d_La_law_28 ?_
    refine lv_icmp_gt hx hb d_La_law_29 rfl (fun h => ?_) (fun h => absurd ((la_end (k := k) (by omega) hL).mpr (by omega)) h)
    exact kend ls H locs cells slots (by omega) (by omega) hS
  | succ n ih =>
    intro ls k H locs cells slots b1 b2 b3 b4 b5 hI hl
    have hS : va_S A s.heap H locs := by obtain ⟨_, _, _, _, _, _, _, _, _, _, _, _, _, hS⟩ := hI; exact hS
    have hnext : ∀ (ls : Array Slot) (H : Heap) (locs : List Loc), lv_has ls 8 [(4, .int (nI (5 * k))), (0, .ref b), (1, .ref d), (2, .ref (r 20)), (3, .ref ou)] → la_I cK cI cN cZ cL D A s d ou r (k + 1) H locs → W p l e room_1 s m #[Value.ref b] below meth c H locs (cells + 6) (slots + 60) Q (F0 m 1130 ls []) := by
      intro ls H locs hl hI
      refine lv_iinc (k := 0) (v := nI (5 * (k + 1))) hx hb d_La_law_1130 hl rfl (la_inc k) (by decide) rfl (fun ls hl => ?_)
      refine lv_goto hx hb d_La_law_1133 rfl ?_
      exact ih ls (k + 1) H locs (cells + 6) (slots + 60) (by omega) (by omega) (by omega) (by omega) (by omega) hI hl
    have hi : la_x xs L (nI (5 * k)) _ _ _ _ := ⟨⟨la_in (j := 1) (by omega) (by omega) hL, rfl⟩, ⟨la_in (j := 2) (by omega) (by omega) hL, rfl⟩, ⟨la_in (j := 3) (by omega) (by omega) hL, rfl⟩, la_in (j := 4) (by omega) (by omega) hL, rfl⟩
    refine lv_iload hx hb d_La_law_23 (lv_at hl 0 rfl) ?_
    refine lv_aload_n hx hb d_La_law_25 rfl (lv_at hl 1 rfl) ?_
    refine va_slen hx hb hX hbl hbA hS d_La_law_26 ?_
    refine lv_iconst (v := 5) hx hb d_La_law_27 (by decide) ?_
    refine lv_isub hx hb d_La_law_28 ?_
    refine lv_icmp_gt hx hb d_La_law_29 rfl (fun h => absurd ((la_end (k := k) (by omega) hL).mp h) (by omega)) (fun h => ?_)
    refine lv_aload_n hx hb d_La_law_32 rfl (lv_at hl 1 rfl) ?_
    refine lv_iload hx hb d_La_law_33 (lv_at hl 0 rfl) ?_
    obtain ⟨x0, hx0⟩ : ∃ z, xs (nI (5 * k)).toNatClampNeg = z := ⟨_, rfl⟩
    refine la_sld hx hb hX hbl hbA hS (vp_in_nI (by omega) (by omega)) hx0 d_La_law_35 ?_
    refine lv_bipush (v := 15) hx hb d_La_law_36 (by decide) ?_
    refine lv_iand hx hb d_La_law_38 ?_
    obtain ⟨j, hj, ej⟩ := la_and x0
    rcases (show j = 0 ∨ j = 1 ∨ j = 2 ∨ j = 3 ∨ j = 4 ∨ j = 5 ∨ j = 6 ∨ j = 7 ∨ j = 8 ∨ j = 9 ∨ j = 10 ∨ j = 11 ∨ j = 12 ∨ j = 13 ∨ j = 14 ∨ j = 15 by omega) with rfl | rfl | rfl | rfl | rfl | rfl | rfl | rfl | rfl | rfl | rfl | rfl | rfl | rfl | rfl | rfl
    · refine lv_tableIn (off := 77) (tgt := 116) hx hb d_La_law_39 (by rw [ej]; decide +kernel) (by rw [ej]; decide +kernel) (by rw [ej]; decide +kernel) rfl ?_
      exact la_plain l hst cK cI cN cZ cL hri hC0 (by omega) hI hl hi (by omega) (by omega) hnext
    · refine lv_tableIn (off := 137) (tgt := 176) hx hb d_La_law_39 (by rw [ej]; decide +kernel) (by rw [ej]; decide +kernel) (by rw [ej]; decide +kernel) rfl ?_
      exact la_row l hst cK cI cN cZ cL hri hC0 (by omega) hI hl hi (by omega) (by omega) hnext
    · refine lv_tableIn (off := 185) (tgt := 224) hx hb d_La_law_39 (by rw [ej]; decide +kernel) (by rw [ej]; decide +kernel) (by rw [ej]; decide +kernel) rfl ?_
      exact la_make l hst cK cI cN cZ cL hri hC0 (by omega) hI hl hi (by omega) (by omega) hnext
    · refine lv_tableIn (off := 265) (tgt := 304) hx hb d_La_law_39 (by rw [ej]; decide +kernel) (by rw [ej]; decide +kernel) (by rw [ej]; decide +kernel) rfl ?_
      exact la_copy l hst cK cI cN cZ cL hri hC0 (by omega) hI hl hi (by omega) (by omega) hnext
    · refine lv_tableIn (off := 340) (tgt := 379) hx hb d_La_law_39 (by rw [ej]; decide +kernel) (by rw [ej]; decide +kernel) (by rw [ej]; decide +kernel) rfl ?_
      exact la_drop l hst cK cI cN cZ cL hri hC0 (by omega) hI hl hi (by omega) (by omega) hnext
    · refine lv_tableIn (off := 403) (tgt := 442) hx hb d_La_law_39 (by rw [ej]; decide +kernel) (by rw [ej]; decide +kernel) (by rw [ej]; decide +kernel) rfl ?_
      exact la_same l hst cK cI cN cZ cL hri hC0 (by omega) hI hl hi (by omega) (by omega) hnext
    · refine lv_tableIn (off := 478) (tgt := 517) hx hb d_La_law_39 (by rw [ej]; decide +kernel) (by rw [ej]; decide +kernel) (by rw [ej]; decide +kernel) rfl ?_
      exact la_get l hst cK cI cN cZ cL hri hC0 (by omega) hI hl hi (by omega) (by omega) hnext
    · refine lv_tableIn (off := 545) (tgt := 584) hx hb d_La_law_39 (by rw [ej]; decide +kernel) (by rw [ej]; decide +kernel) (by rw [ej]; decide +kernel) rfl ?_
      exact la_put l hst cK cI cN cZ cL hri hC0 (by omega) hI hl hi (by omega) (by omega) hnext
    · refine lv_tableIn (off := 637) (tgt := 676) hx hb d_La_law_39 (by rw [ej]; decide +kernel) (by rw [ej]; decide +kernel) (by rw [ej]; decide +kernel) rfl ?_
      exact la_link l hst cK cI cN cZ cL hri hC0 (by omega) hI hl hi (by omega) (by omega) hnext
    · refine lv_tableIn (off := 724) (tgt := 763) hx hb d_La_law_39 (by rw [ej]; decide +kernel) (by rw [ej]; decide +kernel) (by rw [ej]; decide +kernel) rfl ?_
      exact la_follow l hst cK cI cN cZ cL hri hC0 (by omega) hI hl hi (by omega) (by omega) hnext
    · refine lv_tableIn (off := 811) (tgt := 850) hx hb d_La_law_39 (by rw [ej]; decide +kernel) (by rw [ej]; decide +kernel) (by rw [ej]; decide +kernel) rfl ?_
      exact la_keep l hst cK cI cN cZ cL hri hC0 (by omega) hI hl hi (by omega) (by omega) hnext
    · refine lv_tableIn (off := 867) (tgt := 906) hx hb d_La_law_39 (by rw [ej]; decide +kernel) (by rw [ej]; decide +kernel) (by rw [ej]; decide +kernel) rfl ?_
      exact la_number l hst cK cI cN cZ cL hri hC0 (by omega) hI hl hi (by omega) (by omega) hnext
    · refine lv_tableIn (off := 923) (tgt := 962) hx hb d_La_law_39 (by rw [ej]; decide +kernel) (by rw [ej]; decide +kernel) (by rw [ej]; decide +kernel) rfl ?_
      exact la_size l hst cK cI cN cZ cL hri hC0 (by omega) hI hl hi (by omega) (by omega) hnext
    · refine lv_tableIn (off := 979) (tgt := 1018) hx hb d_La_law_39 (by rw [ej]; decide +kernel) (by rw [ej]; decide +kernel) (by rw [ej]; decide +kernel) rfl ?_
      exact la_memory l hst cK cI cN cZ cL hri hC0 (by omega) hI hl hi (by omega) (by omega) hnext
    · refine lv_tableIn (off := 1042) (tgt := 1081) hx hb d_La_law_39 (by rw [ej]; decide +kernel) (by rw [ej]; decide +kernel) (by rw [ej]; decide +kernel) rfl ?_
      exact la_every l hst cK cI cN cZ cL hri hC0 (by omega) hI hl hi (by omega) (by omega) hnext
    · refine lv_tableIn (off := 1078) (tgt := 1117) hx hb d_La_law_39 (by rw [ej]; decide +kernel) (by rw [ej]; decide +kernel) (by rw [ej]; decide +kernel) rfl ?_
      exact la_collect l hst cK cI cN cZ cL hri hC0 (by omega) hI hl hi (by omega) (by omega) hnext
end LLoop
