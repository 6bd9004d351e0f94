theorem and15 (x : Int32) : ∃ n : Nat, n < 16 ∧ x &&& nI 15 = nI n := by
  have hx : nI x.toBitVec.toNat = x := Int32.toBitVec_inj.1 (by simp [nI])
  refine ⟨x.toBitVec.toNat &&& 15, Nat.lt_of_le_of_lt Nat.and_le_right (by decide), ?_⟩
  rw [← ni_and, hx]
theorem ed_of {g : GT} (hg : gOK g) {x y z w : Int32} (h : edOK g x y z w = true) : ∃ (a1 a2 a3 : Nat) (z4 : Int), a1 < gV g ∧ a2 < gV g ∧ a3 < gC g ∧ (-9999 ≤ z4 ∧ z4 ≤ 9999) ∧ gE g < 14 ∧ x = nI a1 ∧ y = nI a2 ∧ z = nI a3 ∧ w = zI z4 := by
  unfold edOK at h
  simp only [Bool.and_eq_true, decide_eq_true_eq] at h
  obtain ⟨⟨⟨⟨h1, h2⟩, h3⟩, h4⟩, h5⟩ := h
  obtain ⟨a1, p1, e1⟩ := isN_of h1
  obtain ⟨a2, p2, e2⟩ := isN_of h2
  obtain ⟨a3, p3, e3⟩ := isN_of h3
  obtain ⟨z4, p4, p5, e4⟩ := isW_of h4
  have := hg.2.2.1
  exact ⟨a1, a2, a3, z4, p1, p2, p3, ⟨p4, p5⟩, by omega, e1, e2, e3, e4⟩
theorem k2_of {x : Int32} (h : x = 0 ∨ x = nI 1) : ∃ kd : Nat, kd < 2 ∧ x = nI kd := by
  rcases h with h | h
  · exact ⟨0, by decide, h⟩
  · exact ⟨1, by decide, h⟩
theorem ks_of {x y : Int32} {n : Nat} (h : (decide (x = 0 ∨ x = nI 1) && isN y n) = true) : ∃ kd S : Nat, kd < 2 ∧ S < n ∧ x = nI kd ∧ y = nI S := by
  rw [Bool.and_eq_true, decide_eq_true_eq] at h
  obtain ⟨kd, p1, e1⟩ := k2_of h.1
  obtain ⟨S, p2, e2⟩ := isN_of h.2
  exact ⟨kd, S, p1, p2, e1, e2⟩
theorem fs_of {x y : Int32} {n : Nat} (h : ((decide (x = 0 ∨ x = nI 1) || decide (x = nI 2)) && isN y n) = true) : (∃ kd S : Nat, kd < 2 ∧ S < n ∧ x = nI kd ∧ y = nI S) ∨ ∃ S : Nat, S < n ∧ x = nI 2 ∧ y = nI S := by
  rw [Bool.and_eq_true, Bool.or_eq_true, decide_eq_true_eq, decide_eq_true_eq] at h
  obtain ⟨S, p2, e2⟩ := isN_of h.2
  rcases h.1 with q | q
  · obtain ⟨kd, p1, e1⟩ := k2_of q
    exact Or.inl ⟨kd, S, p1, p2, e1, e2⟩
  · exact Or.inr ⟨S, p2, q, e2⟩
theorem cs_of {x y z : Int32} {n r : Nat} (h : (decide (x = 0 ∨ x = nI 1) && isN y n && isN z r) = true) : ∃ kd S a3 : Nat, kd < 2 ∧ S < n ∧ a3 < r ∧ x = nI kd ∧ y = nI S ∧ z = nI a3 := by
  rw [Bool.and_eq_true] at h
  obtain ⟨kd, S, p1, p2, e1, e2⟩ := ks_of h.1
  obtain ⟨a3, p3, e3⟩ := isN_of h.2
  exact ⟨kd, S, a3, p1, p2, p3, e1, e2, e3⟩
theorem bool_two (b : Bool) : b = true ∨ b = false := by cases b <;> simp
section LOOP
variable {p : Program} {l : Launch} {e : Env} {s : State} {m : MethodId} {below : List Frame} {meth : Method} {c : Code} {b L : Nat} {xs : Nat → Int32} {D : va_G} {cy : Nat → ClassId} {ad : Nat → Nat} {cells slots : Nat} {Q : State → Prop}
set_option maxHeartbeats 4000000 in
set_option maxRecDepth 100000 in
/-- one turn of the law's loop, from the tableswitch on -/
theorem lw_turn (C : LC p l s m meth c b L xs D cy) {t : Nat} (ht : 5 * t + 5 ≤ L) (hrm : cells + 1 ≤ room_1.cells ∧ slots + 6 ≤ room_1.slots) {H : Heap} {locs : List Loc} {ls : Array Slot} (hI : LI D cy ad s t H) (hS : va_S (FA s) s.heap H locs) (hl : lv_has ls 7 [(0, .ref b), (1, .ref (ad 0)), (2, .ref (ad 20)), (3, .ref (ad 31)), (4, .int (nI (5 * t)))])
    (kk : ∀ (H : Heap) (locs : List Loc) (ls : Array Slot), LI D cy ad s (t + 1) H → va_S (FA s) s.heap H locs → lv_has ls 7 [(0, .ref b), (1, .ref (ad 0)), (2, .ref (ad 20)), (3, .ref (ad 31)), (4, .int (nI (5 * t)))] → W p l e room_1 s m #[.ref b] below meth c H locs (cells + 1) (slots + 6) Q (F0 m 647 ls [])) :
    W p l e room_1 s m #[.ref b] below meth c H locs cells slots Q (F0 m 32 ls []) := by
  have hx := C.hx
  have hb := C.hb
  have hL := C.hL
  obtain ⟨g, ch, k, sn, wf, cs, ms, wd, fd, fw, fp, frm, ft, th, kb, m2, ff, fr_, fb, fq, fc, fo, hg, hck, hkt, hsn, hv5, hv6, hP, hD⟩ := hI
  refine lv_aload_n hx hb dL_law_32 rfl (lv_at hl 0 rfl) ?_
  refine lv_iload hx hb dL_law_33 (lv_at hl 4 rfl) ?_
  refine va_sld hx hb C.hX C.hbl (FA_b C.hbl) hS (vp_in_nI (by omega) (by omega)) dL_law_35 ?_
  refine lv_bipush (v := nI 15) hx hb dL_law_36 (by decide) ?_
  refine lv_iand hx hb dL_law_38 ?_
  obtain ⟨n9, hn9, he9⟩ := and15 (xs (nI (5 * t)).toNatClampNeg)
  refine lv_as (y := nI n9) he9 ?_
  clear he9
  generalize hx1 : xs (5 * t + 1) = x
  generalize hx2 : xs (5 * t + 2) = y
  generalize hx3 : xs (5 * t + 3) = z
  generalize hx4 : xs (5 * t + 4) = w
  rcases (show n9 = 0 ∨ n9 = 1 ∨ n9 = 2 ∨ n9 = 3 ∨ n9 = 4 ∨ n9 = 5 ∨ n9 = 6 ∨ n9 = 7 ∨ n9 = 8 ∨ n9 = 9 ∨ n9 = 10 ∨ n9 = 11 ∨ n9 = 12 ∨ n9 = 13 ∨ n9 = 14 ∨ n9 = 15 by omega) with rfl | rfl | rfl | rfl | rfl | rfl | rfl | rfl | rfl | rfl | rfl | rfl | rfl | rfl | rfl | rfl
  · refine lv_tableIn (off := 73) (tgt := 112) hx hb dL_law_39 (by decide) (by decide) (by decide) (by decide) ?_
    rcases bool_two (mkOK x y) with h | h
    · obtain ⟨a1, a2, h1, h2, e1, e2⟩ := mk_of h
      exact lw_make_yes C ht hrm hg hck hkt hsn hv5 hv6 hP hD hS hl h1 h2 (hx1.trans e1) (hx2.trans e2) kk
    · exact lw_make_no C ht hrm hg hck hkt hsn hv5 hv6 hP hD hS hl h hx1 hx2 kk
  · refine lv_tableIn (off := 121) (tgt := 160) hx hb dL_law_39 (by decide) (by decide) (by decide) (by decide) ?_
    rcases bool_two (edOK g x y z w) with h | h
    · obtain ⟨a1, a2, a3, z4, h1, h2, h3, h4, h5, e1, e2, e3, e4⟩ := ed_of hg h
      exact lw_edge_yes C ht hrm hg hck hkt hsn hv5 hv6 hP hD hS hl h1 h2 h3 h4 h5 (hx1.trans e1) (hx2.trans e2) (hx3.trans e3) (hx4.trans e4) kk
    · exact lw_edge_no C ht hrm hg hck hkt hsn hv5 hv6 hP hD hS hl h hx1 hx2 hx3 hx4 kk
  · refine lv_tableIn (off := 182) (tgt := 221) hx hb dL_law_39 (by decide) (by decide) (by decide) (by decide) ?_
    rcases bool_two (isN x (gC g)) with h | h
    · rcases bool_two (isN y 15) with h2 | h2
      · obtain ⟨a1, p1, e1⟩ := isN_of h
        obtain ⟨a2, p2, e2⟩ := isN_of h2
        exact lw_limit_0 C ht hrm hg hck hkt hsn hv5 hv6 hP hD hS hl p1 (Nat.le_of_lt_succ p2) (hx1.trans e1) (hx2.trans e2) kk
      · exact lw_limit_2 C ht hrm hg hck hkt hsn hv5 hv6 hP hD hS hl h h2 hx1 hx2 kk
    · exact lw_limit_1 C ht hrm hg hck hkt hsn hv5 hv6 hP hD hS hl h hx1 hx2 kk
  · refine lv_tableIn (off := 230) (tgt := 269) hx hb dL_law_39 (by decide) (by decide) (by decide) (by decide) ?_
    rcases bool_two (isN x (gE g)) with h | h
    · rcases bool_two (isW y) with h2 | h2
      · obtain ⟨a1, p1, e1⟩ := isN_of h
        obtain ⟨z2, p2, p3, e2⟩ := isW_of h2
        exact lw_weigh_0 C ht hrm hg hck hkt hsn hv5 hv6 hP hD hS hl p1 ⟨p2, p3⟩ (hx1.trans e1) (hx2.trans e2) kk
      · exact lw_weigh_2 C ht hrm hg hck hkt hsn hv5 hv6 hP hD hS hl h h2 hx1 hx2 kk
    · exact lw_weigh_1 C ht hrm hg hck hkt hsn hv5 hv6 hP hD hS hl h hx1 hx2 kk
  · refine lv_tableIn (off := 278) (tgt := 317) hx hb dL_law_39 (by decide) (by decide) (by decide) (by decide) ?_
    by_cases h3 : x = nI 3
    · exact lw_count_3 C ht hrm hg hck hkt hsn hv5 hv6 hP hD hS hl (hx1.trans h3) kk
    · by_cases h4 : x = nI 4
      · exact lw_count_4 C ht hrm hg hck hkt hsn hv5 hv6 hP hD hS hl (hx1.trans h4) kk
      · exact lw_count_p C ht hrm hg hck hkt hsn hv5 hv6 hP hD hS hl h3 h4 hx1 kk
  · refine lv_tableIn (off := 303) (tgt := 342) hx hb dL_law_39 (by decide) (by decide) (by decide) (by decide) ?_
    rcases bool_two (decide (x = 0 ∨ x = nI 1) && isN y (2 ^ gE g)) with h | h
    · obtain ⟨kd, S, p1, p2, e1, e2⟩ := ks_of h
      exact lw_rank_yes C ht hrm hg hck hkt hsn hv5 hv6 hP hD hS hl p1 p2 (hx1.trans e1) (hx2.trans e2) kk
    · exact lw_rank_no C ht hrm hg hck hkt hsn hv5 hv6 hP hD hS hl h hx1 hx2 kk
  · refine lv_tableIn (off := 340) (tgt := 379) hx hb dL_law_39 (by decide) (by decide) (by decide) (by decide) ?_
    rcases bool_two ((decide (x = 0 ∨ x = nI 1) || decide (x = nI 2)) && isN y (2 ^ gE g)) with h | h
    · rcases fs_of h with ⟨kd, S, p1, p2, e1, e2⟩ | ⟨S, p2, e1, e2⟩
      · exact lw_free_yes C ht hrm hg hck hkt hsn hv5 hv6 hP hD hS hl p1 p2 (hx1.trans e1) (hx2.trans e2) kk
      · exact lw_free_2 C ht hrm hg hck hkt hsn hv5 hv6 hP hD hS hl p2 (hx1.trans e1) (hx2.trans e2) kk
    · exact lw_free_no C ht hrm hg hck hkt hsn hv5 hv6 hP hD hS hl h hx1 hx2 kk
  · refine lv_tableIn (off := 377) (tgt := 416) hx hb dL_law_39 (by decide) (by decide) (by decide) (by decide) ?_
    rcases bool_two (decide (x = 0 ∨ x = nI 1) && isN y (2 ^ gE g) && isN z (gE g)) with h | h
    · obtain ⟨kd, S, a3, p1, p2, p3, e1, e2, e3⟩ := cs_of h
      exact lw_circuit_yes C ht hrm hg hck hkt hsn hv5 hv6 hP hD hS hl p1 p2 p3 (hx1.trans e1) (hx2.trans e2) (hx3.trans e3) kk
    · exact lw_circuit_no C ht hrm hg hck hkt hsn hv5 hv6 hP hD hS hl h hx1 hx2 hx3 kk
  · refine lv_tableIn (off := 426) (tgt := 465) hx hb dL_law_39 (by decide) (by decide) (by decide) (by decide) ?_
    rcases bool_two (decide (x = 0 ∨ x = nI 1) && isN y (2 ^ gE g)) with h | h
    · obtain ⟨kd, S, p1, p2, e1, e2⟩ := ks_of h
      exact lw_closure_yes C ht hrm hg hck hkt hsn hv5 hv6 hP hD hS hl p1 p2 (hx1.trans e1) (hx2.trans e2) kk
    · exact lw_closure_no C ht hrm hg hck hkt hsn hv5 hv6 hP hD hS hl h hx1 hx2 kk
  · refine lv_tableIn (off := 463) (tgt := 502) hx hb dL_law_39 (by decide) (by decide) (by decide) (by decide) ?_
    exact lw_most C ht hrm hg hck hkt hsn hv5 hv6 hP hD hS hl kk
  · refine lv_tableIn (off := 476) (tgt := 515) hx hb dL_law_39 (by decide) (by decide) (by decide) (by decide) ?_
    rcases bool_two (isN x (moA g + 1)) with h | h
    · obtain ⟨k9, p1, e1⟩ := isN_of h
      exact lw_dearest_yes C ht hrm hg hck hkt hsn hv5 hv6 hP hD hS hl (Nat.le_of_lt_succ p1) (hx1.trans e1) kk
    · exact lw_dearest_no C ht hrm hg hck hkt hsn hv5 hv6 hP hD hS hl h hx1 kk
  · refine lv_tableIn (off := 501) (tgt := 540) hx hb dL_law_39 (by decide) (by decide) (by decide) (by decide) ?_
    rcases bool_two (isN x (moA g + 1)) with h | h
    · obtain ⟨k9, p1, e1⟩ := isN_of h
      exact lw_weight_yes C ht hrm hg hck hkt hsn hv5 hv6 hP hD hS hl (Nat.le_of_lt_succ p1) (hx1.trans e1) kk
    · exact lw_weight_no C ht hrm hg hck hkt hsn hv5 hv6 hP hD hS hl h hx1 kk
  · refine lv_tableIn (off := 557) (tgt := 596) hx hb dL_law_39 (by decide) (by decide) (by decide) (by decide) ?_
    exact lw_heaviest C ht hrm hg hck hkt hsn hv5 hv6 hP hD hS hl kk
  · refine lv_tableIn (off := 570) (tgt := 609) hx hb dL_law_39 (by decide) (by decide) (by decide) (by decide) ?_
    rcases bool_two (isN x 2) with h | h
    · obtain ⟨k9, p1, e1⟩ := isN_of h
      exact lw_witness_yes C ht hrm hg hck hkt hsn hv5 hv6 hP hD hS hl p1 (hx1.trans e1) kk
    · exact lw_witness_no C ht hrm hg hck hkt hsn hv5 hv6 hP hD hS hl h hx1 kk
  · refine lv_tableIn (off := 595) (tgt := 634) hx hb dL_law_39 (by decide) (by decide) (by decide) (by decide) ?_
    exact lw_check C ht hrm hg hck hkt hsn hv5 hv6 hP hD hS hl kk
  · refine lv_tableOut (tgt := 647) hx hb dL_law_39 (by decide) (by decide) ?_
    exact W.widen (Nat.le_add_right _ _) (Nat.le_add_right _ _) (kk _ _ _ ⟨g, ch, k, sn, wf, cs, ms, wd, fd, fw, fp, frm, ft, th, kb, m2, ff, fr_, fb, fq, fc, fo, hg, hck, by omega, hsn, hv5, hv6, hP, hD⟩ hS hl)
set_option maxHeartbeats 4000000 in
/-- the law's loop -/
theorem lw_loop (C : LC p l s m meth c b L xs D cy) : ∀ (n t : Nat), 5 * t ≤ L → L < 5 * (t + n) → ∀ (H : Heap) (locs : List Loc) (ls : Array Slot), LI D cy ad s t H → va_S (FA s) s.heap H locs → lv_has ls 7 [(0, .ref b), (1, .ref (ad 0)), (2, .ref (ad 20)), (3, .ref (ad 31)), (4, .int (nI (5 * t)))] →
    W p l e room_1 s m #[.ref b] below meth c H locs (100 + t) (70000 + 6 * t) (lw_Z below #[.ref b] s) (F0 m 23 ls []) := by
  have hx := C.hx
  have hb := C.hb
  have hL := C.hL
  intro n
  induction n with
  | zero => intro t h1 h2; omega
  | succ n ih =>
    intro t h1 h2 H locs ls hI hS hl
    refine lv_iload hx hb dL_law_23 (lv_at hl 4 rfl) ?_
    refine lv_aload_n hx hb dL_law_25 rfl (lv_at hl 0 rfl) ?_
    refine va_slen hx hb C.hX C.hbl (FA_b C.hbl) hS dL_law_26 ?_
    refine lv_iconst (v := nI 5) hx hb dL_law_27 (by decide) ?_
    refine lv_isub hx hb dL_law_28 ?_
    refine lv_as (y := zI ((L : Int) - ((5 : Nat) : Int))) (ni_subz L 5) ?_
    refine lv_icmp_gt (tgt := 653) hx hb dL_law_29 (by decide) (fun hc => ?_) (fun hc => ?_)
    · refine lv_iconst (v := nI 1) hx hb dL_law_653 (by decide) ?_
      refine va_forget (fun q hq => hS.2.2 q hq) ?_
      refine W.widen (k := 601024) (n := 7293034) (by omega) (by omega) ?_
      exact lw_ret hx hb C.hr C.hlocks dL_law_654
    · have ht : 5 * t + 5 ≤ L := by
        have hc2 := Int32.not_lt.mp hc
        rw [Int32.le_iff_toInt_le, nI_toInt (by omega), zI_toInt (by omega) (by omega)] at hc2
        omega
      refine lw_turn C ht ⟨show 100 + t + 1 ≤ 601024 by omega, show 70000 + 6 * t + 6 ≤ 7293034 by omega⟩ hI hS hl (fun H locs ls hI hS hl => ?_)
      refine lv_iinc (v := nI (5 * t + 5)) (lv' := [(4, .int (nI (5 * t + 5))), (0, .ref b), (1, .ref (ad 0)), (2, .ref (ad 20)), (3, .ref (ad 31))]) hx hb dL_law_647 hl (k := 4) rfl (ni_incn (5 * t) 5) (by decide) rfl (fun ls hl => ?_)
      refine lv_goto (tgt := 23) hx hb dL_law_650 (by decide) ?_
      exact W.widen (k := 100 + (t + 1)) (n := 70000 + 6 * (t + 1)) (by omega) (by omega) (ih (t + 1) (by omega) (by omega) _ _ _ hI hS (lv_sub hl [1, 2, 3, 4, 0] rfl))
end LOOP
