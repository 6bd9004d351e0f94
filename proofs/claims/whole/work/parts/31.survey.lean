set_option maxHeartbeats 4000000 in
set_option maxRecDepth 100000 in
/-- hasSize(k): k is one of 0 to the most -/
theorem c_X4_hasSize (l : Launch) (D : va_G) (cy : Nat → ClassId) (ad : Nat → Nat) (sn wf cs wd : Int32) {m9 : Nat} (hm9 : m9 < 2 ^ 31) (x : Int32) : PU l yX4_hasSize wsX4_hasSize ({ frames := 1, cells := 0, slots := 0, locals := 22 }) D cy [.ref (ad 9), .int x] [(ad 9, .inr (3, [.ref (ad 1), .int sn, .int wf, .int cs, .int (nI m9), .ref (ad 10), .ref (ad 11), .int wd, .ref (ad 12), .ref (ad 13), .ref (ad 14)]))] ((bI (isN x (m9 + 1)))) := by
  refine Met.ofW (cc := cX4_hasSize) (maxL := 2) (ret := (some .boolean)) (by decide) rfl ?_
  intro p ev s m args below meth c s₁ B hml hv
  obtain ⟨rfl, hK, hP⟩ := hv
  have hx := B.exec
  have hb := B.bytes
  have hr := B.returns
  have hts := atoms_spec (ws := wsX4_hasSize) B.pre
  have hown : s.vm.findClass RX4 = some m.cls := findClass_of_methodNamed B.named
  have hlocks := B.notSynchronized
  have hS : va_S (fun _ => False) s.heap s.heap [] := va_S.rf
  have hP : va_P D vwCl [(ad 9, .inr (3, [.ref (ad 1), .int sn, .int wf, .int cs, .int (nI m9), .ref (ad 10), .ref (ad 11), .int wd, .ref (ad 12), .ref (ad 13), .ref (ad 14)]))] s.heap := hP
  have inX4 : ∀ w ∈ wsX40, w ∈ wsX4_hasSize := by decide +kernel
  have hl := lv_entry ([.ref (ad 9), .int x]) (n := 2) (Nat.le_of_ble_eq_true rfl)
  rw [lg_entry_eq]
  generalize (lg_sl ([.ref (ad 9), .int x]) ++ List.replicate (2 - (lg_sl ([.ref (ad 9), .int x])).length) Slot.unset).toArray = ls at hl ⊢
  have hl : lv_has ls 2 [(0, .ref (ad 9)), (1, .int x)] := hl
  have hgen := True.intro
  refine lv_iload_n hx hb dX4_hasSize_0 rfl (lv_at hl 1 rfl) ?_
  refine lv_iconst (v := nI 0) hx hb dX4_hasSize_1 (by decide) ?_
  refine lv_aload_n hx hb dX4_hasSize_2 rfl (lv_at hl 0 rfl) ?_
  refine va_get (D := D) (ci := 3) (v := .int (nI m9)) (C := RX4) (T := TX4) (N := 11) hx hb hts inX4 hown hK.1 hP 0 rfl rfl 4 (by decide) (hts (.fieldLink RX4 35 "ColourForests$Survey" "most" "I") (List.mem_of_getElem? (i := 1) rfl)) (fun _ h9 => h9) rfl dX4_hasSize_3 ?_
  refine pu_call (va_runSN (As := [.int x, .int (nI 0), .int (nI m9)]) (rest := []) ⟨hx, hb, hml, hown, hts⟩ (c_X5_within l D cy x (nI 0) (nI m9)) ⟨va_cnB 3 hts gX4_hasSize_X5_within_n38 rfl rfl rfl (hK.2 _ (List.mem_of_getElem? (i := 5) rfl)) (hts (.initialized RX5) (List.mem_of_getElem? (i := 3) rfl)) (by decide +kernel) ⟨Nat.le_of_ble_eq_true rfl, Nat.le_of_ble_eq_true rfl⟩, (hts (.static yX5_within) (List.mem_of_getElem? (i := 2) rfl)), trivial⟩ (PU_preS hK hP [] rfl) rfl rfl hl.1 rfl (lv_room (Nat.le_of_ble_eq_true rfl)) dX4_hasSize_6 ⟨(Nat.zero_le _), (Nat.zero_le _)⟩) hS hP (fun H locs hP hS => ?_)
  exact pu_zret hx hb hr hlocks hS (congrArg bI (isN_withN x (by omega))) dX4_hasSize_9

set_option maxHeartbeats 4000000 in
set_option maxRecDepth 100000 in
theorem c_X4_placeAbove (l : Launch) (D : va_G) (cy : Nat → ClassId) (ad : Nat → Nat) {S : Nat} (h0 : S ≠ 0) (hS9 : S < 16384) : PU l yX4_placeAbove wsX4_placeAbove ({ frames := 1, cells := 0, slots := 0, locals := 21 }) D cy [.ref (ad 9), .int (nI S)] [] ((nI (plA S))) := by
  refine Met.ofW (cc := cX4_placeAbove) (maxL := 3) (ret := (some .int)) (by decide) rfl ?_
  intro p ev s m args below meth c s₁ B hml hv
  obtain ⟨rfl, hK, hP⟩ := hv
  have hx := B.exec
  have hb := B.bytes
  have hr := B.returns
  have hts := atoms_spec (ws := wsX4_placeAbove) B.pre
  have hown : s.vm.findClass RX4 = some m.cls := findClass_of_methodNamed B.named
  have hlocks := B.notSynchronized
  have hS : va_S (fun _ => False) s.heap s.heap [] := va_S.rf
  have hP : va_P D vwCl [] s.heap := hP
  have hl := lv_entry ([.ref (ad 9), .int (nI S)]) (n := 3) (Nat.le_of_ble_eq_true rfl)
  rw [lg_entry_eq]
  generalize (lg_sl ([.ref (ad 9), .int (nI S)]) ++ List.replicate (3 - (lg_sl ([.ref (ad 9), .int (nI S)])).length) Slot.unset).toArray = ls at hl ⊢
  have hl : lv_has ls 3 [(0, .ref (ad 9)), (1, .int (nI S))] := hl
  have hgen := True.intro
  have ht := tzN_lt (n := 14) hS9 h0
  have hA : ms_sd S (2 ^ tzN 14 S) < 2 ^ 14 := ms_sd_lt hS9
  refine lv_iload_n hx hb dX4_placeAbove_0 rfl (lv_at hl 1 rfl) ?_
  refine lv_iload_n hx hb dX4_placeAbove_1 rfl (lv_at hl 1 rfl) ?_
  refine lv_iconst (v := nI 1) hx hb dX4_placeAbove_2 (by decide) ?_
  refine lv_isub hx hb dX4_placeAbove_3 ?_
  refine lv_as (y := (nI (S - 1))) (ni_sub (by omega)) ?_
  refine lv_iand hx hb dX4_placeAbove_4 ?_
  refine lv_as (y := (nI (ms_sd S (2 ^ tzN 14 S)))) (by rw [ni_and, low_off h0 hS9]) ?_
  refine lv_istore_n (lv' := [(2, .int (nI (ms_sd S (2 ^ tzN 14 S)))), (0, .ref (ad 9)), (1, .int (nI S))]) hx hb dX4_placeAbove_5 rfl hl (by decide) rfl (fun ls hl => ?_)
  refine lv_iload_n hx hb dX4_placeAbove_6 rfl (lv_at hl 0 rfl) ?_
  refine lv_if_ne (tgt := 15) hx hb dX4_placeAbove_7 (by decide) (fun c7 => ?_) (fun c7 => ?_)
  · have c7 := n0_ne c7
    refine lv_iload_n hx hb dX4_placeAbove_15 rfl (lv_at hl 0 rfl) ?_
    refine pu_call (va_runS (As := [.int (nI (ms_sd S (2 ^ tzN 14 S)))]) (rest := []) ⟨hx, hb, hml, hown, hts⟩ (c_J6_numberOfTrailingZeros_0f7a4 l D cy (S := ms_sd S (2 ^ tzN 14 S)) c7 (by omega)) (va_cwS 1 hts gX4_placeAbove_J6_numberOfTrailingZeros_0f7a4 rfl rfl rfl (by decide +kernel) ⟨Nat.le_of_ble_eq_true rfl, Nat.le_of_ble_eq_true rfl⟩) (PU_preS hK hP [] rfl) rfl rfl hl.1 rfl (lv_room (Nat.le_of_ble_eq_true rfl)) dX4_placeAbove_16 ⟨(Nat.zero_le _), (Nat.zero_le _)⟩) hS hP (fun H locs hP hS => ?_)
    exact pu_iret (y := yX4_placeAbove) hx hb hr hlocks hS (by first | (rw [show plA S = 14 from if_pos c7]) | (rw [show plA S = tzN 14 (ms_sd S (2 ^ tzN 14 S)) from if_neg c7])) dX4_placeAbove_19
  · have c7 := n0_of (by omega) c7
    refine lv_bipush (v := nI 14) hx hb dX4_placeAbove_10 (by decide) ?_
    refine lv_goto (tgt := 19) hx hb dX4_placeAbove_12 (by decide) ?_
    exact pu_iret (y := yX4_placeAbove) hx hb hr hlocks hS (by first | (rw [show plA S = 14 from if_pos c7]) | (rw [show plA S = tzN 14 (ms_sd S (2 ^ tzN 14 S)) from if_neg c7])) dX4_placeAbove_19

set_option maxHeartbeats 4000000 in
set_option maxRecDepth 100000 in
theorem c_X4_noteForest (l : Launch) (D : va_G) (cy : Nat → ClassId) (ad : Nat → Nat) (ch : Int32) {g : GT} (hg : gOK g) (sn cs ms : Int32) (fd fw fp frm ft : Nat → Int32) {w9 c9 z9 : Nat} (hw9 : w9 < 2 ^ 31) (hz9 : z9 < 2 ^ 31) : WV l yX4_noteForest wsX4_noteForest ({ frames := 0, cells := 0, slots := 0, locals := 0 }) D cy [.ref (ad 9), .int (nI z9)] (wSv cy ad ch g sn (nI c9) cs ms (nI w9) fd fw fp frm ft) (fun u : Nat × Nat => u = (if w9 < z9 then (z9, 1) else (w9, if z9 = w9 then c9 + 1 else c9))) (fun u : Nat × Nat => wSv cy ad ch g sn (nI u.2) cs ms (nI u.1) fd fw fp frm ft) := by
  refine Met.ofW (cc := cX4_noteForest) (maxL := 2) (ret := none) (by decide) rfl ?_
  intro p ev s m args below meth c s₁ B hml hv
  obtain ⟨rfl, ⟨hK, hP⟩, hD0⟩ := hv
  have hx := B.exec
  have hb := B.bytes
  have hr := B.returns
  have hts := atoms_spec (ws := wsX4_noteForest) B.pre
  have hown : s.vm.findClass RX4 = some m.cls := findClass_of_methodNamed B.named
  have hlocks := B.notSynchronized
  have hD : va_D (inW (wSv cy ad ch g sn (nI c9) cs ms (nI w9) fd fw fp frm ft)) (wSv cy ad ch g sn (nI c9) cs ms (nI w9) fd fw fp frm ft) := inW_self hD0
  have hS : va_S (inW (wSv cy ad ch g sn (nI c9) cs ms (nI w9) fd fw fp frm ft)) s.heap s.heap [] := va_S.rf
  have hP : va_P D vwCl (wSv cy ad ch g sn (nI c9) cs ms (nI w9) fd fw fp frm ft) s.heap := hP
  have inX4 : ∀ w ∈ wsX40, w ∈ wsX4_noteForest := by decide +kernel
  have hl := lv_entry ([.ref (ad 9), .int (nI z9)]) (n := 2) (Nat.le_of_ble_eq_true rfl)
  rw [lg_entry_eq]
  generalize (lg_sl ([.ref (ad 9), .int (nI z9)]) ++ List.replicate (2 - (lg_sl ([.ref (ad 9), .int (nI z9)])).length) Slot.unset).toArray = ls at hl ⊢
  have hl : lv_has ls 2 [(0, .ref (ad 9)), (1, .int (nI z9))] := hl
  have hgen := True.intro
  refine lv_iload_n hx hb dX4_noteForest_0 rfl (lv_at hl 1 rfl) ?_
  refine lv_aload_n hx hb dX4_noteForest_1 rfl (lv_at hl 0 rfl) ?_
  refine va_get (D := D) (ci := 3) (v := .int (nI w9)) (C := RX4) (T := TX4) (N := 11) hx hb hts inX4 hown hK.1 hP 0 rfl rfl 7 (by decide) (hts (.fieldLink RX4 80 "ColourForests$Survey" "widest" "I") (List.mem_of_getElem? (i := 1) rfl)) (fun _ h9 => h9) rfl dX4_noteForest_2 ?_
  refine n_le (a := z9) (b := w9) (tgt := 18) hx hb dX4_noteForest_5 (by decide) (by omega) (by omega) (fun c5 => ?_) (fun c5 => ?_)
  · refine lv_iload_n hx hb dX4_noteForest_18 rfl (lv_at hl 1 rfl) ?_
    refine lv_aload_n hx hb dX4_noteForest_19 rfl (lv_at hl 0 rfl) ?_
    refine va_get (D := D) (ci := 3) (v := .int (nI w9)) (C := RX4) (T := TX4) (N := 11) hx hb hts inX4 hown hK.1 hP 0 rfl rfl 7 (by decide) (hts (.fieldLink RX4 80 "ColourForests$Survey" "widest" "I") (List.mem_of_getElem? (i := 1) rfl)) (fun _ h9 => h9) rfl dX4_noteForest_20 ?_
    refine n_ne (a := z9) (b := w9) (tgt := 36) hx hb dX4_noteForest_23 (by decide) (by omega) (by omega) (fun c23 => ?_) (fun c23 => ?_)
    · exact wv_ret (w9, c9) hx hb hr hlocks hS hP (by first | (rw [if_pos c5]) | (rw [if_neg (by omega), if_pos c23]) | (rw [if_neg (by omega), if_neg c23])) dX4_noteForest_36
    · refine lv_aload_n hx hb dX4_noteForest_26 rfl (lv_at hl 0 rfl) ?_
      refine lv_dup hx hb dX4_noteForest_27 rfl ?_
      refine va_get (D := D) (ci := 3) (v := .int (nI c9)) (C := RX4) (T := TX4) (N := 11) hx hb hts inX4 hown hK.1 hP 0 rfl rfl 2 (by decide) (hts (.fieldLink RX4 83 "ColourForests$Survey" "widestForests" "I") (List.mem_of_getElem? (i := 2) rfl)) (fun _ h9 => h9) rfl dX4_noteForest_28 ?_
      refine lv_iconst (v := nI 1) hx hb dX4_noteForest_31 (by decide) ?_
      refine lv_iadd hx hb dX4_noteForest_32 ?_
      refine lv_as (y := (nI (c9 + 1))) (nI_add _ _) ?_
      refine va_put (D := D) (ci := 3) (v := .int (nI (c9 + 1))) (ty := .int) (C := RX4) (T := TX4) (N := 11) hx hb hts inX4 tyX4 tyX4_ok nmX4 hown hK.1 hP hD hS 0 rfl rfl 2 (by decide) (hts (.fieldLink RX4 83 "ColourForests$Survey" "widestForests" "I") (List.mem_of_getElem? (i := 2) rfl)) (fun _ h9 => h9) rfl (by decide +kernel) rfl rfl (Nat.le_of_ble_eq_true rfl) dX4_noteForest_33 (fun H locs hP hD hS => ?_)
      have hP : va_P D vwCl [(ad 9, .inr (3, [.ref (ad 1), .int sn, .int (nI (c9 + 1)), .int cs, .int ms, .ref (ad 10), .ref (ad 11), .int (nI w9), .ref (ad 12), .ref (ad 13), .ref (ad 14)])), (ad 10, .inl (cy 0, 8, .inl fd)), (ad 11, .inl (cy 0, 8, .inl fw)), (ad 12, .inl (cy 0, 15, .inl fp)), (ad 13, .inl (cy 0, 15, .inl frm)), (ad 14, .inl (cy 0, 15, .inl ft)), (ad 1, .inr (0, [.int (nI (gV g)), .int (nI (gC g)), .int (nI (gE g)), .int ch, .ref (ad 2), .ref (ad 3), .ref (ad 4), .ref (ad 5), .ref (ad 6)])), (ad 2, .inl (cy 0, 6, .inl (fun i => nI (gL g i)))), (ad 3, .inl (cy 0, 14, .inl (fun i => nI (gF g i)))), (ad 4, .inl (cy 0, 14, .inl (fun i => nI (gS g i)))), (ad 5, .inl (cy 0, 14, .inl (fun i => nI (gH g i)))), (ad 6, .inl (cy 0, 14, .inl (fun i => zI (gW g i))))] H := hP
      have hD : va_D (inW (wSv cy ad ch g sn (nI c9) cs ms (nI w9) fd fw fp frm ft)) [(ad 9, .inr (3, [.ref (ad 1), .int sn, .int (nI (c9 + 1)), .int cs, .int ms, .ref (ad 10), .ref (ad 11), .int (nI w9), .ref (ad 12), .ref (ad 13), .ref (ad 14)])), (ad 10, .inl (cy 0, 8, .inl fd)), (ad 11, .inl (cy 0, 8, .inl fw)), (ad 12, .inl (cy 0, 15, .inl fp)), (ad 13, .inl (cy 0, 15, .inl frm)), (ad 14, .inl (cy 0, 15, .inl ft)), (ad 1, .inr (0, [.int (nI (gV g)), .int (nI (gC g)), .int (nI (gE g)), .int ch, .ref (ad 2), .ref (ad 3), .ref (ad 4), .ref (ad 5), .ref (ad 6)])), (ad 2, .inl (cy 0, 6, .inl (fun i => nI (gL g i)))), (ad 3, .inl (cy 0, 14, .inl (fun i => nI (gF g i)))), (ad 4, .inl (cy 0, 14, .inl (fun i => nI (gS g i)))), (ad 5, .inl (cy 0, 14, .inl (fun i => nI (gH g i)))), (ad 6, .inl (cy 0, 14, .inl (fun i => zI (gW g i))))] := hD
      exact wv_ret (w9, c9 + 1) hx hb hr hlocks hS hP (by first | (rw [if_pos c5]) | (rw [if_neg (by omega), if_pos c23]) | (rw [if_neg (by omega), if_neg c23])) dX4_noteForest_36
  · refine lv_aload_n hx hb dX4_noteForest_8 rfl (lv_at hl 0 rfl) ?_
    refine lv_iload_n hx hb dX4_noteForest_9 rfl (lv_at hl 1 rfl) ?_
    refine va_put (D := D) (ci := 3) (v := .int (nI z9)) (ty := .int) (C := RX4) (T := TX4) (N := 11) hx hb hts inX4 tyX4 tyX4_ok nmX4 hown hK.1 hP hD hS 0 rfl rfl 7 (by decide) (hts (.fieldLink RX4 80 "ColourForests$Survey" "widest" "I") (List.mem_of_getElem? (i := 1) rfl)) (fun _ h9 => h9) rfl (by decide +kernel) rfl rfl (Nat.le_of_ble_eq_true rfl) dX4_noteForest_10 (fun H locs hP hD hS => ?_)
    have hP : va_P D vwCl [(ad 9, .inr (3, [.ref (ad 1), .int sn, .int (nI c9), .int cs, .int ms, .ref (ad 10), .ref (ad 11), .int (nI z9), .ref (ad 12), .ref (ad 13), .ref (ad 14)])), (ad 10, .inl (cy 0, 8, .inl fd)), (ad 11, .inl (cy 0, 8, .inl fw)), (ad 12, .inl (cy 0, 15, .inl fp)), (ad 13, .inl (cy 0, 15, .inl frm)), (ad 14, .inl (cy 0, 15, .inl ft)), (ad 1, .inr (0, [.int (nI (gV g)), .int (nI (gC g)), .int (nI (gE g)), .int ch, .ref (ad 2), .ref (ad 3), .ref (ad 4), .ref (ad 5), .ref (ad 6)])), (ad 2, .inl (cy 0, 6, .inl (fun i => nI (gL g i)))), (ad 3, .inl (cy 0, 14, .inl (fun i => nI (gF g i)))), (ad 4, .inl (cy 0, 14, .inl (fun i => nI (gS g i)))), (ad 5, .inl (cy 0, 14, .inl (fun i => nI (gH g i)))), (ad 6, .inl (cy 0, 14, .inl (fun i => zI (gW g i))))] H := hP
    have hD : va_D (inW (wSv cy ad ch g sn (nI c9) cs ms (nI w9) fd fw fp frm ft)) [(ad 9, .inr (3, [.ref (ad 1), .int sn, .int (nI c9), .int cs, .int ms, .ref (ad 10), .ref (ad 11), .int (nI z9), .ref (ad 12), .ref (ad 13), .ref (ad 14)])), (ad 10, .inl (cy 0, 8, .inl fd)), (ad 11, .inl (cy 0, 8, .inl fw)), (ad 12, .inl (cy 0, 15, .inl fp)), (ad 13, .inl (cy 0, 15, .inl frm)), (ad 14, .inl (cy 0, 15, .inl ft)), (ad 1, .inr (0, [.int (nI (gV g)), .int (nI (gC g)), .int (nI (gE g)), .int ch, .ref (ad 2), .ref (ad 3), .ref (ad 4), .ref (ad 5), .ref (ad 6)])), (ad 2, .inl (cy 0, 6, .inl (fun i => nI (gL g i)))), (ad 3, .inl (cy 0, 14, .inl (fun i => nI (gF g i)))), (ad 4, .inl (cy 0, 14, .inl (fun i => nI (gS g i)))), (ad 5, .inl (cy 0, 14, .inl (fun i => nI (gH g i)))), (ad 6, .inl (cy 0, 14, .inl (fun i => zI (gW g i))))] := hD
    refine lv_aload_n hx hb dX4_noteForest_13 rfl (lv_at hl 0 rfl) ?_
    refine lv_iconst (v := nI 0) hx hb dX4_noteForest_14 (by decide) ?_
    refine va_put (D := D) (ci := 3) (v := .int (nI 0)) (ty := .int) (C := RX4) (T := TX4) (N := 11) hx hb hts inX4 tyX4 tyX4_ok nmX4 hown hK.1 hP hD hS 0 rfl rfl 2 (by decide) (hts (.fieldLink RX4 83 "ColourForests$Survey" "widestForests" "I") (List.mem_of_getElem? (i := 2) rfl)) (fun _ h9 => h9) rfl (by decide +kernel) rfl rfl (Nat.le_of_ble_eq_true rfl) dX4_noteForest_15 (fun H locs hP hD hS => ?_)
    have hP : va_P D vwCl [(ad 9, .inr (3, [.ref (ad 1), .int sn, .int (nI 0), .int cs, .int ms, .ref (ad 10), .ref (ad 11), .int (nI z9), .ref (ad 12), .ref (ad 13), .ref (ad 14)])), (ad 10, .inl (cy 0, 8, .inl fd)), (ad 11, .inl (cy 0, 8, .inl fw)), (ad 12, .inl (cy 0, 15, .inl fp)), (ad 13, .inl (cy 0, 15, .inl frm)), (ad 14, .inl (cy 0, 15, .inl ft)), (ad 1, .inr (0, [.int (nI (gV g)), .int (nI (gC g)), .int (nI (gE g)), .int ch, .ref (ad 2), .ref (ad 3), .ref (ad 4), .ref (ad 5), .ref (ad 6)])), (ad 2, .inl (cy 0, 6, .inl (fun i => nI (gL g i)))), (ad 3, .inl (cy 0, 14, .inl (fun i => nI (gF g i)))), (ad 4, .inl (cy 0, 14, .inl (fun i => nI (gS g i)))), (ad 5, .inl (cy 0, 14, .inl (fun i => nI (gH g i)))), (ad 6, .inl (cy 0, 14, .inl (fun i => zI (gW g i))))] H := hP
    have hD : va_D (inW (wSv cy ad ch g sn (nI c9) cs ms (nI w9) fd fw fp frm ft)) [(ad 9, .inr (3, [.ref (ad 1), .int sn, .int (nI 0), .int cs, .int ms, .ref (ad 10), .ref (ad 11), .int (nI z9), .ref (ad 12), .ref (ad 13), .ref (ad 14)])), (ad 10, .inl (cy 0, 8, .inl fd)), (ad 11, .inl (cy 0, 8, .inl fw)), (ad 12, .inl (cy 0, 15, .inl fp)), (ad 13, .inl (cy 0, 15, .inl frm)), (ad 14, .inl (cy 0, 15, .inl ft)), (ad 1, .inr (0, [.int (nI (gV g)), .int (nI (gC g)), .int (nI (gE g)), .int ch, .ref (ad 2), .ref (ad 3), .ref (ad 4), .ref (ad 5), .ref (ad 6)])), (ad 2, .inl (cy 0, 6, .inl (fun i => nI (gL g i)))), (ad 3, .inl (cy 0, 14, .inl (fun i => nI (gF g i)))), (ad 4, .inl (cy 0, 14, .inl (fun i => nI (gS g i)))), (ad 5, .inl (cy 0, 14, .inl (fun i => nI (gH g i)))), (ad 6, .inl (cy 0, 14, .inl (fun i => zI (gW g i))))] := hD
    refine lv_iload_n hx hb dX4_noteForest_18 rfl (lv_at hl 1 rfl) ?_
    refine lv_aload_n hx hb dX4_noteForest_19 rfl (lv_at hl 0 rfl) ?_
    refine va_get (D := D) (ci := 3) (v := .int (nI z9)) (C := RX4) (T := TX4) (N := 11) hx hb hts inX4 hown hK.1 hP 0 rfl rfl 7 (by decide) (hts (.fieldLink RX4 80 "ColourForests$Survey" "widest" "I") (List.mem_of_getElem? (i := 1) rfl)) (fun _ h9 => h9) rfl dX4_noteForest_20 ?_
    refine n_ne (a := z9) (b := z9) (tgt := 36) hx hb dX4_noteForest_23 (by decide) (by omega) (by omega) (fun c23 => ?_) (fun c23 => ?_)
    · exact absurd rfl c23
    · refine lv_aload_n hx hb dX4_noteForest_26 rfl (lv_at hl 0 rfl) ?_
      refine lv_dup hx hb dX4_noteForest_27 rfl ?_
      refine va_get (D := D) (ci := 3) (v := .int (nI 0)) (C := RX4) (T := TX4) (N := 11) hx hb hts inX4 hown hK.1 hP 0 rfl rfl 2 (by decide) (hts (.fieldLink RX4 83 "ColourForests$Survey" "widestForests" "I") (List.mem_of_getElem? (i := 2) rfl)) (fun _ h9 => h9) rfl dX4_noteForest_28 ?_
      refine lv_iconst (v := nI 1) hx hb dX4_noteForest_31 (by decide) ?_
      refine lv_iadd hx hb dX4_noteForest_32 ?_
      refine lv_as (y := (nI (0 + 1))) (nI_add _ _) ?_
      refine va_put (D := D) (ci := 3) (v := .int (nI (0 + 1))) (ty := .int) (C := RX4) (T := TX4) (N := 11) hx hb hts inX4 tyX4 tyX4_ok nmX4 hown hK.1 hP hD hS 0 rfl rfl 2 (by decide) (hts (.fieldLink RX4 83 "ColourForests$Survey" "widestForests" "I") (List.mem_of_getElem? (i := 2) rfl)) (fun _ h9 => h9) rfl (by decide +kernel) rfl rfl (Nat.le_of_ble_eq_true rfl) dX4_noteForest_33 (fun H locs hP hD hS => ?_)
      have hP : va_P D vwCl [(ad 9, .inr (3, [.ref (ad 1), .int sn, .int (nI (0 + 1)), .int cs, .int ms, .ref (ad 10), .ref (ad 11), .int (nI z9), .ref (ad 12), .ref (ad 13), .ref (ad 14)])), (ad 10, .inl (cy 0, 8, .inl fd)), (ad 11, .inl (cy 0, 8, .inl fw)), (ad 12, .inl (cy 0, 15, .inl fp)), (ad 13, .inl (cy 0, 15, .inl frm)), (ad 14, .inl (cy 0, 15, .inl ft)), (ad 1, .inr (0, [.int (nI (gV g)), .int (nI (gC g)), .int (nI (gE g)), .int ch, .ref (ad 2), .ref (ad 3), .ref (ad 4), .ref (ad 5), .ref (ad 6)])), (ad 2, .inl (cy 0, 6, .inl (fun i => nI (gL g i)))), (ad 3, .inl (cy 0, 14, .inl (fun i => nI (gF g i)))), (ad 4, .inl (cy 0, 14, .inl (fun i => nI (gS g i)))), (ad 5, .inl (cy 0, 14, .inl (fun i => nI (gH g i)))), (ad 6, .inl (cy 0, 14, .inl (fun i => zI (gW g i))))] H := hP
      have hD : va_D (inW (wSv cy ad ch g sn (nI c9) cs ms (nI w9) fd fw fp frm ft)) [(ad 9, .inr (3, [.ref (ad 1), .int sn, .int (nI (0 + 1)), .int cs, .int ms, .ref (ad 10), .ref (ad 11), .int (nI z9), .ref (ad 12), .ref (ad 13), .ref (ad 14)])), (ad 10, .inl (cy 0, 8, .inl fd)), (ad 11, .inl (cy 0, 8, .inl fw)), (ad 12, .inl (cy 0, 15, .inl fp)), (ad 13, .inl (cy 0, 15, .inl frm)), (ad 14, .inl (cy 0, 15, .inl ft)), (ad 1, .inr (0, [.int (nI (gV g)), .int (nI (gC g)), .int (nI (gE g)), .int ch, .ref (ad 2), .ref (ad 3), .ref (ad 4), .ref (ad 5), .ref (ad 6)])), (ad 2, .inl (cy 0, 6, .inl (fun i => nI (gL g i)))), (ad 3, .inl (cy 0, 14, .inl (fun i => nI (gF g i)))), (ad 4, .inl (cy 0, 14, .inl (fun i => nI (gS g i)))), (ad 5, .inl (cy 0, 14, .inl (fun i => nI (gH g i)))), (ad 6, .inl (cy 0, 14, .inl (fun i => zI (gW g i))))] := hD
      exact wv_ret (z9, 0 + 1) hx hb hr hlocks hS hP (by first | (rw [if_pos c5]) | (rw [if_neg (by omega), if_pos c23]) | (rw [if_neg (by omega), if_neg c23])) dX4_noteForest_36

set_option maxHeartbeats 4000000 in
set_option maxRecDepth 100000 in
theorem c_X4_noteCommon (l : Launch) (D : va_G) (cy : Nat → ClassId) (ad : Nat → Nat) (ch : Int32) {g : GT} (hg : gOK g) (sn wf wd : Int32) (fd fw fp frm ft : Nat → Int32) {c9 m9 S z9 : Nat} {wt z : Int} (hm9 : m9 < 8) (hz9 : z9 < 8) (hfw : z9 ≤ m9 → fw z9 = zI z) (h1 : zOK z) (h2 : zOK wt) : WV l yX4_noteCommon wsX4_noteCommon ({ frames := 1, cells := 0, slots := 0, locals := 24 }) D cy [.ref (ad 9), .int (nI S), .int (nI z9), .int (zI wt)] (wSv cy ad ch g sn wf (nI c9) (nI m9) wd fd fw fp frm ft) (fun u : (Nat → Int32) × (Nat → Int32) => u = if m9 < z9 ∨ z < wt then (upd fd z9 (nI S), upd fw z9 (zI wt)) else (fd, fw)) (fun u : (Nat → Int32) × (Nat → Int32) => wSv cy ad ch g sn wf (nI (c9 + 1)) (nI (max m9 z9)) wd u.1 u.2 fp frm ft) := by
  refine Met.ofW (cc := cX4_noteCommon) (maxL := 4) (ret := none) (by decide) rfl ?_
  intro p ev s m args below meth c s₁ B hml hv
  obtain ⟨rfl, ⟨hK, hP⟩, hD0⟩ := hv
  have hx := B.exec
  have hb := B.bytes
  have hr := B.returns
  have hts := atoms_spec (ws := wsX4_noteCommon) B.pre
  have hown : s.vm.findClass RX4 = some m.cls := findClass_of_methodNamed B.named
  have hlocks := B.notSynchronized
  have hD : va_D (inW (wSv cy ad ch g sn wf (nI c9) (nI m9) wd fd fw fp frm ft)) (wSv cy ad ch g sn wf (nI c9) (nI m9) wd fd fw fp frm ft) := inW_self hD0
  have hS : va_S (inW (wSv cy ad ch g sn wf (nI c9) (nI m9) wd fd fw fp frm ft)) s.heap s.heap [] := va_S.rf
  have hP : va_P D vwCl (wSv cy ad ch g sn wf (nI c9) (nI m9) wd fd fw fp frm ft) s.heap := hP
  have inX4 : ∀ w ∈ wsX40, w ∈ wsX4_noteCommon := by decide +kernel
  have hl := lv_entry ([.ref (ad 9), .int (nI S), .int (nI z9), .int (zI wt)]) (n := 4) (Nat.le_of_ble_eq_true rfl)
  rw [lg_entry_eq]
  generalize (lg_sl ([.ref (ad 9), .int (nI S), .int (nI z9), .int (zI wt)]) ++ List.replicate (4 - (lg_sl ([.ref (ad 9), .int (nI S), .int (nI z9), .int (zI wt)])).length) Slot.unset).toArray = ls at hl ⊢
  have hl : lv_has ls 4 [(0, .ref (ad 9)), (1, .int (nI S)), (2, .int (nI z9)), (3, .int (zI wt))] := hl
  have hgen := True.intro
  refine lv_aload_n hx hb dX4_noteCommon_0 rfl (lv_at hl 0 rfl) ?_
  refine lv_dup hx hb dX4_noteCommon_1 rfl ?_
  refine va_get (D := D) (ci := 3) (v := .int (nI c9)) (C := RX4) (T := TX4) (N := 11) hx hb hts inX4 hown hK.1 hP 0 rfl rfl 3 (by decide) (hts (.fieldLink RX4 86 "ColourForests$Survey" "commonSets" "I") (List.mem_of_getElem? (i := 1) rfl)) (fun _ h9 => h9) rfl dX4_noteCommon_2 ?_
  refine lv_iconst (v := nI 1) hx hb dX4_noteCommon_5 (by decide) ?_
  refine lv_iadd hx hb dX4_noteCommon_6 ?_
  refine lv_as (y := (nI (c9 + 1))) (nI_add _ _) ?_
  refine va_put (D := D) (ci := 3) (v := .int (nI (c9 + 1))) (ty := .int) (C := RX4) (T := TX4) (N := 11) hx hb hts inX4 tyX4 tyX4_ok nmX4 hown hK.1 hP hD hS 0 rfl rfl 3 (by decide) (hts (.fieldLink RX4 86 "ColourForests$Survey" "commonSets" "I") (List.mem_of_getElem? (i := 1) rfl)) (fun _ h9 => h9) rfl (by decide +kernel) rfl rfl (Nat.le_of_ble_eq_true rfl) dX4_noteCommon_7 (fun H locs hP hD hS => ?_)
  have hP : va_P D vwCl [(ad 9, .inr (3, [.ref (ad 1), .int sn, .int wf, .int (nI (c9 + 1)), .int (nI m9), .ref (ad 10), .ref (ad 11), .int wd, .ref (ad 12), .ref (ad 13), .ref (ad 14)])), (ad 10, .inl (cy 0, 8, .inl fd)), (ad 11, .inl (cy 0, 8, .inl fw)), (ad 12, .inl (cy 0, 15, .inl fp)), (ad 13, .inl (cy 0, 15, .inl frm)), (ad 14, .inl (cy 0, 15, .inl ft)), (ad 1, .inr (0, [.int (nI (gV g)), .int (nI (gC g)), .int (nI (gE g)), .int ch, .ref (ad 2), .ref (ad 3), .ref (ad 4), .ref (ad 5), .ref (ad 6)])), (ad 2, .inl (cy 0, 6, .inl (fun i => nI (gL g i)))), (ad 3, .inl (cy 0, 14, .inl (fun i => nI (gF g i)))), (ad 4, .inl (cy 0, 14, .inl (fun i => nI (gS g i)))), (ad 5, .inl (cy 0, 14, .inl (fun i => nI (gH g i)))), (ad 6, .inl (cy 0, 14, .inl (fun i => zI (gW g i))))] H := hP
  have hD : va_D (inW (wSv cy ad ch g sn wf (nI c9) (nI m9) wd fd fw fp frm ft)) [(ad 9, .inr (3, [.ref (ad 1), .int sn, .int wf, .int (nI (c9 + 1)), .int (nI m9), .ref (ad 10), .ref (ad 11), .int wd, .ref (ad 12), .ref (ad 13), .ref (ad 14)])), (ad 10, .inl (cy 0, 8, .inl fd)), (ad 11, .inl (cy 0, 8, .inl fw)), (ad 12, .inl (cy 0, 15, .inl fp)), (ad 13, .inl (cy 0, 15, .inl frm)), (ad 14, .inl (cy 0, 15, .inl ft)), (ad 1, .inr (0, [.int (nI (gV g)), .int (nI (gC g)), .int (nI (gE g)), .int ch, .ref (ad 2), .ref (ad 3), .ref (ad 4), .ref (ad 5), .ref (ad 6)])), (ad 2, .inl (cy 0, 6, .inl (fun i => nI (gL g i)))), (ad 3, .inl (cy 0, 14, .inl (fun i => nI (gF g i)))), (ad 4, .inl (cy 0, 14, .inl (fun i => nI (gS g i)))), (ad 5, .inl (cy 0, 14, .inl (fun i => nI (gH g i)))), (ad 6, .inl (cy 0, 14, .inl (fun i => zI (gW g i))))] := hD
  refine lv_iload_n hx hb dX4_noteCommon_10 rfl (lv_at hl 2 rfl) ?_
  refine lv_aload_n hx hb dX4_noteCommon_11 rfl (lv_at hl 0 rfl) ?_
  refine va_get (D := D) (ci := 3) (v := .int (nI m9)) (C := RX4) (T := TX4) (N := 11) hx hb hts inX4 hown hK.1 hP 0 rfl rfl 4 (by decide) (hts (.fieldLink RX4 35 "ColourForests$Survey" "most" "I") (List.mem_of_getElem? (i := 2) rfl)) (fun _ h9 => h9) rfl dX4_noteCommon_12 ?_
  refine n_gt (a := z9) (b := m9) (tgt := 28) hx hb dX4_noteCommon_15 (by decide) (by omega) (by omega) (fun c15 => ?_) (fun c15 => ?_)
  · refine lv_aload_n hx hb dX4_noteCommon_28 rfl (lv_at hl 0 rfl) ?_
    refine va_get (D := D) (ci := 3) (v := .ref (ad 10)) (C := RX4) (T := TX4) (N := 11) hx hb hts inX4 hown hK.1 hP 0 rfl rfl 5 (by decide) (hts (.fieldLink RX4 15 "ColourForests$Survey" "dearestSets" "[I") (List.mem_of_getElem? (i := 4) rfl)) (fun _ h9 => h9) rfl dX4_noteCommon_29 ?_
    refine lv_iload_n hx hb dX4_noteCommon_32 rfl (lv_at hl 2 rfl) ?_
    refine lv_iload_n hx hb dX4_noteCommon_33 rfl (lv_at hl 1 rfl) ?_
    refine st_i (k := z9) (g := (upd fd z9 ((nI S)))) hx hb hK hP hD hS 1 rfl (by omega) (by decide) rfl dX4_noteCommon_34 (fun H locs hP hD hS => ?_)
    have hP : va_P D vwCl [(ad 9, .inr (3, [.ref (ad 1), .int sn, .int wf, .int (nI (c9 + 1)), .int (nI m9), .ref (ad 10), .ref (ad 11), .int wd, .ref (ad 12), .ref (ad 13), .ref (ad 14)])), (ad 10, .inl (cy 0, 8, .inl (upd fd z9 ((nI S))))), (ad 11, .inl (cy 0, 8, .inl fw)), (ad 12, .inl (cy 0, 15, .inl fp)), (ad 13, .inl (cy 0, 15, .inl frm)), (ad 14, .inl (cy 0, 15, .inl ft)), (ad 1, .inr (0, [.int (nI (gV g)), .int (nI (gC g)), .int (nI (gE g)), .int ch, .ref (ad 2), .ref (ad 3), .ref (ad 4), .ref (ad 5), .ref (ad 6)])), (ad 2, .inl (cy 0, 6, .inl (fun i => nI (gL g i)))), (ad 3, .inl (cy 0, 14, .inl (fun i => nI (gF g i)))), (ad 4, .inl (cy 0, 14, .inl (fun i => nI (gS g i)))), (ad 5, .inl (cy 0, 14, .inl (fun i => nI (gH g i)))), (ad 6, .inl (cy 0, 14, .inl (fun i => zI (gW g i))))] H := hP
    have hD : va_D (inW (wSv cy ad ch g sn wf (nI c9) (nI m9) wd fd fw fp frm ft)) [(ad 9, .inr (3, [.ref (ad 1), .int sn, .int wf, .int (nI (c9 + 1)), .int (nI m9), .ref (ad 10), .ref (ad 11), .int wd, .ref (ad 12), .ref (ad 13), .ref (ad 14)])), (ad 10, .inl (cy 0, 8, .inl (upd fd z9 ((nI S))))), (ad 11, .inl (cy 0, 8, .inl fw)), (ad 12, .inl (cy 0, 15, .inl fp)), (ad 13, .inl (cy 0, 15, .inl frm)), (ad 14, .inl (cy 0, 15, .inl ft)), (ad 1, .inr (0, [.int (nI (gV g)), .int (nI (gC g)), .int (nI (gE g)), .int ch, .ref (ad 2), .ref (ad 3), .ref (ad 4), .ref (ad 5), .ref (ad 6)])), (ad 2, .inl (cy 0, 6, .inl (fun i => nI (gL g i)))), (ad 3, .inl (cy 0, 14, .inl (fun i => nI (gF g i)))), (ad 4, .inl (cy 0, 14, .inl (fun i => nI (gS g i)))), (ad 5, .inl (cy 0, 14, .inl (fun i => nI (gH g i)))), (ad 6, .inl (cy 0, 14, .inl (fun i => zI (gW g i))))] := hD
    refine lv_aload_n hx hb dX4_noteCommon_35 rfl (lv_at hl 0 rfl) ?_
    refine va_get (D := D) (ci := 3) (v := .ref (ad 11)) (C := RX4) (T := TX4) (N := 11) hx hb hts inX4 hown hK.1 hP 0 rfl rfl 6 (by decide) (hts (.fieldLink RX4 19 "ColourForests$Survey" "dearestWeights" "[I") (List.mem_of_getElem? (i := 3) rfl)) (fun _ h9 => h9) rfl dX4_noteCommon_36 ?_
    refine lv_iload_n hx hb dX4_noteCommon_39 rfl (lv_at hl 2 rfl) ?_
    refine lv_iload_n hx hb dX4_noteCommon_40 rfl (lv_at hl 3 rfl) ?_
    refine st_i (k := z9) (g := (upd fw z9 ((zI wt)))) hx hb hK hP hD hS 2 rfl (by omega) (by decide) rfl dX4_noteCommon_41 (fun H locs hP hD hS => ?_)
    have hP : va_P D vwCl [(ad 9, .inr (3, [.ref (ad 1), .int sn, .int wf, .int (nI (c9 + 1)), .int (nI m9), .ref (ad 10), .ref (ad 11), .int wd, .ref (ad 12), .ref (ad 13), .ref (ad 14)])), (ad 10, .inl (cy 0, 8, .inl (upd fd z9 ((nI S))))), (ad 11, .inl (cy 0, 8, .inl (upd fw z9 ((zI wt))))), (ad 12, .inl (cy 0, 15, .inl fp)), (ad 13, .inl (cy 0, 15, .inl frm)), (ad 14, .inl (cy 0, 15, .inl ft)), (ad 1, .inr (0, [.int (nI (gV g)), .int (nI (gC g)), .int (nI (gE g)), .int ch, .ref (ad 2), .ref (ad 3), .ref (ad 4), .ref (ad 5), .ref (ad 6)])), (ad 2, .inl (cy 0, 6, .inl (fun i => nI (gL g i)))), (ad 3, .inl (cy 0, 14, .inl (fun i => nI (gF g i)))), (ad 4, .inl (cy 0, 14, .inl (fun i => nI (gS g i)))), (ad 5, .inl (cy 0, 14, .inl (fun i => nI (gH g i)))), (ad 6, .inl (cy 0, 14, .inl (fun i => zI (gW g i))))] H := hP
    have hD : va_D (inW (wSv cy ad ch g sn wf (nI c9) (nI m9) wd fd fw fp frm ft)) [(ad 9, .inr (3, [.ref (ad 1), .int sn, .int wf, .int (nI (c9 + 1)), .int (nI m9), .ref (ad 10), .ref (ad 11), .int wd, .ref (ad 12), .ref (ad 13), .ref (ad 14)])), (ad 10, .inl (cy 0, 8, .inl (upd fd z9 ((nI S))))), (ad 11, .inl (cy 0, 8, .inl (upd fw z9 ((zI wt))))), (ad 12, .inl (cy 0, 15, .inl fp)), (ad 13, .inl (cy 0, 15, .inl frm)), (ad 14, .inl (cy 0, 15, .inl ft)), (ad 1, .inr (0, [.int (nI (gV g)), .int (nI (gC g)), .int (nI (gE g)), .int ch, .ref (ad 2), .ref (ad 3), .ref (ad 4), .ref (ad 5), .ref (ad 6)])), (ad 2, .inl (cy 0, 6, .inl (fun i => nI (gL g i)))), (ad 3, .inl (cy 0, 14, .inl (fun i => nI (gF g i)))), (ad 4, .inl (cy 0, 14, .inl (fun i => nI (gS g i)))), (ad 5, .inl (cy 0, 14, .inl (fun i => nI (gH g i)))), (ad 6, .inl (cy 0, 14, .inl (fun i => zI (gW g i))))] := hD
    refine lv_aload_n hx hb dX4_noteCommon_42 rfl (lv_at hl 0 rfl) ?_
    refine lv_aload_n hx hb dX4_noteCommon_43 rfl (lv_at hl 0 rfl) ?_
    refine va_get (D := D) (ci := 3) (v := .int (nI m9)) (C := RX4) (T := TX4) (N := 11) hx hb hts inX4 hown hK.1 hP 0 rfl rfl 4 (by decide) (hts (.fieldLink RX4 35 "ColourForests$Survey" "most" "I") (List.mem_of_getElem? (i := 2) rfl)) (fun _ h9 => h9) rfl dX4_noteCommon_44 ?_
    refine lv_iload_n hx hb dX4_noteCommon_47 rfl (lv_at hl 2 rfl) ?_
    refine va_mmax hx hb (hml.trans hl.1.symm) hown (hts (.methodLink RX4 116 Lib.Math.max.name) (List.mem_of_getElem? (i := 5) rfl)) (hts (.static Lib.Math.max.name) (List.mem_of_getElem? (i := 6) rfl)) (hts (.initialized "java/lang/Math") (List.mem_of_getElem? (i := 7) rfl)) (hts (.code Lib.Math.max.name Lib.Math.max.code 2 (some .int)) (List.mem_of_getElem? (i := 8) rfl)) (Nat.le_of_ble_eq_true rfl) (Nat.le_of_ble_eq_true rfl) (Nat.zero_le _) (Nat.zero_le _) dX4_noteCommon_48 ?_
    refine lv_as (y := nI (max m9 z9)) (ni_max (by omega) (by omega)) ?_
    refine va_put (D := D) (ci := 3) (v := .int (nI (max m9 z9))) (ty := .int) (C := RX4) (T := TX4) (N := 11) hx hb hts inX4 tyX4 tyX4_ok nmX4 hown hK.1 hP hD hS 0 rfl rfl 4 (by decide) (hts (.fieldLink RX4 35 "ColourForests$Survey" "most" "I") (List.mem_of_getElem? (i := 2) rfl)) (fun _ h9 => h9) rfl (by decide +kernel) rfl rfl (Nat.le_of_ble_eq_true rfl) dX4_noteCommon_51 (fun H locs hP hD hS => ?_)
    have hP : va_P D vwCl [(ad 9, .inr (3, [.ref (ad 1), .int sn, .int wf, .int (nI (c9 + 1)), .int (nI (max m9 z9)), .ref (ad 10), .ref (ad 11), .int wd, .ref (ad 12), .ref (ad 13), .ref (ad 14)])), (ad 10, .inl (cy 0, 8, .inl (upd fd z9 ((nI S))))), (ad 11, .inl (cy 0, 8, .inl (upd fw z9 ((zI wt))))), (ad 12, .inl (cy 0, 15, .inl fp)), (ad 13, .inl (cy 0, 15, .inl frm)), (ad 14, .inl (cy 0, 15, .inl ft)), (ad 1, .inr (0, [.int (nI (gV g)), .int (nI (gC g)), .int (nI (gE g)), .int ch, .ref (ad 2), .ref (ad 3), .ref (ad 4), .ref (ad 5), .ref (ad 6)])), (ad 2, .inl (cy 0, 6, .inl (fun i => nI (gL g i)))), (ad 3, .inl (cy 0, 14, .inl (fun i => nI (gF g i)))), (ad 4, .inl (cy 0, 14, .inl (fun i => nI (gS g i)))), (ad 5, .inl (cy 0, 14, .inl (fun i => nI (gH g i)))), (ad 6, .inl (cy 0, 14, .inl (fun i => zI (gW g i))))] H := hP
    have hD : va_D (inW (wSv cy ad ch g sn wf (nI c9) (nI m9) wd fd fw fp frm ft)) [(ad 9, .inr (3, [.ref (ad 1), .int sn, .int wf, .int (nI (c9 + 1)), .int (nI (max m9 z9)), .ref (ad 10), .ref (ad 11), .int wd, .ref (ad 12), .ref (ad 13), .ref (ad 14)])), (ad 10, .inl (cy 0, 8, .inl (upd fd z9 ((nI S))))), (ad 11, .inl (cy 0, 8, .inl (upd fw z9 ((zI wt))))), (ad 12, .inl (cy 0, 15, .inl fp)), (ad 13, .inl (cy 0, 15, .inl frm)), (ad 14, .inl (cy 0, 15, .inl ft)), (ad 1, .inr (0, [.int (nI (gV g)), .int (nI (gC g)), .int (nI (gE g)), .int ch, .ref (ad 2), .ref (ad 3), .ref (ad 4), .ref (ad 5), .ref (ad 6)])), (ad 2, .inl (cy 0, 6, .inl (fun i => nI (gL g i)))), (ad 3, .inl (cy 0, 14, .inl (fun i => nI (gF g i)))), (ad 4, .inl (cy 0, 14, .inl (fun i => nI (gS g i)))), (ad 5, .inl (cy 0, 14, .inl (fun i => nI (gH g i)))), (ad 6, .inl (cy 0, 14, .inl (fun i => zI (gW g i))))] := hD
    exact wv_ret ((upd fd z9 ((nI S))), (upd fw z9 ((zI wt)))) hx hb hr hlocks hS hP (by first | (rw [if_pos (Or.inl (by omega))]) | (rw [if_pos (Or.inr (by omega))]) | (rw [if_neg (by omega)])) dX4_noteCommon_54
  · refine lv_iload_n hx hb dX4_noteCommon_18 rfl (lv_at hl 3 rfl) ?_
    refine lv_aload_n hx hb dX4_noteCommon_19 rfl (lv_at hl 0 rfl) ?_
    refine va_get (D := D) (ci := 3) (v := .ref (ad 11)) (C := RX4) (T := TX4) (N := 11) hx hb hts inX4 hown hK.1 hP 0 rfl rfl 6 (by decide) (hts (.fieldLink RX4 19 "ColourForests$Survey" "dearestWeights" "[I") (List.mem_of_getElem? (i := 3) rfl)) (fun _ h9 => h9) rfl dX4_noteCommon_20 ?_
    refine lv_iload_n hx hb dX4_noteCommon_23 rfl (lv_at hl 2 rfl) ?_
    refine rd_i (k := z9) (v := (zI z)) hx hb hK hP 2 rfl (by omega) (by decide) (hfw (by omega)) dX4_noteCommon_24 ?_
    refine z_le (a := wt) (b := z) (tgt := 42) hx hb dX4_noteCommon_25 (by decide) h2 h1 (fun c25 => ?_) (fun c25 => ?_)
    · refine lv_aload_n hx hb dX4_noteCommon_42 rfl (lv_at hl 0 rfl) ?_
      refine lv_aload_n hx hb dX4_noteCommon_43 rfl (lv_at hl 0 rfl) ?_
      refine va_get (D := D) (ci := 3) (v := .int (nI m9)) (C := RX4) (T := TX4) (N := 11) hx hb hts inX4 hown hK.1 hP 0 rfl rfl 4 (by decide) (hts (.fieldLink RX4 35 "ColourForests$Survey" "most" "I") (List.mem_of_getElem? (i := 2) rfl)) (fun _ h9 => h9) rfl dX4_noteCommon_44 ?_
      refine lv_iload_n hx hb dX4_noteCommon_47 rfl (lv_at hl 2 rfl) ?_
      refine va_mmax hx hb (hml.trans hl.1.symm) hown (hts (.methodLink RX4 116 Lib.Math.max.name) (List.mem_of_getElem? (i := 5) rfl)) (hts (.static Lib.Math.max.name) (List.mem_of_getElem? (i := 6) rfl)) (hts (.initialized "java/lang/Math") (List.mem_of_getElem? (i := 7) rfl)) (hts (.code Lib.Math.max.name Lib.Math.max.code 2 (some .int)) (List.mem_of_getElem? (i := 8) rfl)) (Nat.le_of_ble_eq_true rfl) (Nat.le_of_ble_eq_true rfl) (Nat.zero_le _) (Nat.zero_le _) dX4_noteCommon_48 ?_
      refine lv_as (y := nI (max m9 z9)) (ni_max (by omega) (by omega)) ?_
      refine va_put (D := D) (ci := 3) (v := .int (nI (max m9 z9))) (ty := .int) (C := RX4) (T := TX4) (N := 11) hx hb hts inX4 tyX4 tyX4_ok nmX4 hown hK.1 hP hD hS 0 rfl rfl 4 (by decide) (hts (.fieldLink RX4 35 "ColourForests$Survey" "most" "I") (List.mem_of_getElem? (i := 2) rfl)) (fun _ h9 => h9) rfl (by decide +kernel) rfl rfl (Nat.le_of_ble_eq_true rfl) dX4_noteCommon_51 (fun H locs hP hD hS => ?_)
      have hP : va_P D vwCl [(ad 9, .inr (3, [.ref (ad 1), .int sn, .int wf, .int (nI (c9 + 1)), .int (nI (max m9 z9)), .ref (ad 10), .ref (ad 11), .int wd, .ref (ad 12), .ref (ad 13), .ref (ad 14)])), (ad 10, .inl (cy 0, 8, .inl fd)), (ad 11, .inl (cy 0, 8, .inl fw)), (ad 12, .inl (cy 0, 15, .inl fp)), (ad 13, .inl (cy 0, 15, .inl frm)), (ad 14, .inl (cy 0, 15, .inl ft)), (ad 1, .inr (0, [.int (nI (gV g)), .int (nI (gC g)), .int (nI (gE g)), .int ch, .ref (ad 2), .ref (ad 3), .ref (ad 4), .ref (ad 5), .ref (ad 6)])), (ad 2, .inl (cy 0, 6, .inl (fun i => nI (gL g i)))), (ad 3, .inl (cy 0, 14, .inl (fun i => nI (gF g i)))), (ad 4, .inl (cy 0, 14, .inl (fun i => nI (gS g i)))), (ad 5, .inl (cy 0, 14, .inl (fun i => nI (gH g i)))), (ad 6, .inl (cy 0, 14, .inl (fun i => zI (gW g i))))] H := hP
      have hD : va_D (inW (wSv cy ad ch g sn wf (nI c9) (nI m9) wd fd fw fp frm ft)) [(ad 9, .inr (3, [.ref (ad 1), .int sn, .int wf, .int (nI (c9 + 1)), .int (nI (max m9 z9)), .ref (ad 10), .ref (ad 11), .int wd, .ref (ad 12), .ref (ad 13), .ref (ad 14)])), (ad 10, .inl (cy 0, 8, .inl fd)), (ad 11, .inl (cy 0, 8, .inl fw)), (ad 12, .inl (cy 0, 15, .inl fp)), (ad 13, .inl (cy 0, 15, .inl frm)), (ad 14, .inl (cy 0, 15, .inl ft)), (ad 1, .inr (0, [.int (nI (gV g)), .int (nI (gC g)), .int (nI (gE g)), .int ch, .ref (ad 2), .ref (ad 3), .ref (ad 4), .ref (ad 5), .ref (ad 6)])), (ad 2, .inl (cy 0, 6, .inl (fun i => nI (gL g i)))), (ad 3, .inl (cy 0, 14, .inl (fun i => nI (gF g i)))), (ad 4, .inl (cy 0, 14, .inl (fun i => nI (gS g i)))), (ad 5, .inl (cy 0, 14, .inl (fun i => nI (gH g i)))), (ad 6, .inl (cy 0, 14, .inl (fun i => zI (gW g i))))] := hD
      exact wv_ret (fd, fw) hx hb hr hlocks hS hP (by first | (rw [if_pos (Or.inl (by omega))]) | (rw [if_pos (Or.inr (by omega))]) | (rw [if_neg (by omega)])) dX4_noteCommon_54
    · refine lv_aload_n hx hb dX4_noteCommon_28 rfl (lv_at hl 0 rfl) ?_
      refine va_get (D := D) (ci := 3) (v := .ref (ad 10)) (C := RX4) (T := TX4) (N := 11) hx hb hts inX4 hown hK.1 hP 0 rfl rfl 5 (by decide) (hts (.fieldLink RX4 15 "ColourForests$Survey" "dearestSets" "[I") (List.mem_of_getElem? (i := 4) rfl)) (fun _ h9 => h9) rfl dX4_noteCommon_29 ?_
      refine lv_iload_n hx hb dX4_noteCommon_32 rfl (lv_at hl 2 rfl) ?_
      refine lv_iload_n hx hb dX4_noteCommon_33 rfl (lv_at hl 1 rfl) ?_
      refine st_i (k := z9) (g := (upd fd z9 ((nI S)))) hx hb hK hP hD hS 1 rfl (by omega) (by decide) rfl dX4_noteCommon_34 (fun H locs hP hD hS => ?_)
      have hP : va_P D vwCl [(ad 9, .inr (3, [.ref (ad 1), .int sn, .int wf, .int (nI (c9 + 1)), .int (nI m9), .ref (ad 10), .ref (ad 11), .int wd, .ref (ad 12), .ref (ad 13), .ref (ad 14)])), (ad 10, .inl (cy 0, 8, .inl (upd fd z9 ((nI S))))), (ad 11, .inl (cy 0, 8, .inl fw)), (ad 12, .inl (cy 0, 15, .inl fp)), (ad 13, .inl (cy 0, 15, .inl frm)), (ad 14, .inl (cy 0, 15, .inl ft)), (ad 1, .inr (0, [.int (nI (gV g)), .int (nI (gC g)), .int (nI (gE g)), .int ch, .ref (ad 2), .ref (ad 3), .ref (ad 4), .ref (ad 5), .ref (ad 6)])), (ad 2, .inl (cy 0, 6, .inl (fun i => nI (gL g i)))), (ad 3, .inl (cy 0, 14, .inl (fun i => nI (gF g i)))), (ad 4, .inl (cy 0, 14, .inl (fun i => nI (gS g i)))), (ad 5, .inl (cy 0, 14, .inl (fun i => nI (gH g i)))), (ad 6, .inl (cy 0, 14, .inl (fun i => zI (gW g i))))] H := hP
      have hD : va_D (inW (wSv cy ad ch g sn wf (nI c9) (nI m9) wd fd fw fp frm ft)) [(ad 9, .inr (3, [.ref (ad 1), .int sn, .int wf, .int (nI (c9 + 1)), .int (nI m9), .ref (ad 10), .ref (ad 11), .int wd, .ref (ad 12), .ref (ad 13), .ref (ad 14)])), (ad 10, .inl (cy 0, 8, .inl (upd fd z9 ((nI S))))), (ad 11, .inl (cy 0, 8, .inl fw)), (ad 12, .inl (cy 0, 15, .inl fp)), (ad 13, .inl (cy 0, 15, .inl frm)), (ad 14, .inl (cy 0, 15, .inl ft)), (ad 1, .inr (0, [.int (nI (gV g)), .int (nI (gC g)), .int (nI (gE g)), .int ch, .ref (ad 2), .ref (ad 3), .ref (ad 4), .ref (ad 5), .ref (ad 6)])), (ad 2, .inl (cy 0, 6, .inl (fun i => nI (gL g i)))), (ad 3, .inl (cy 0, 14, .inl (fun i => nI (gF g i)))), (ad 4, .inl (cy 0, 14, .inl (fun i => nI (gS g i)))), (ad 5, .inl (cy 0, 14, .inl (fun i => nI (gH g i)))), (ad 6, .inl (cy 0, 14, .inl (fun i => zI (gW g i))))] := hD
      refine lv_aload_n hx hb dX4_noteCommon_35 rfl (lv_at hl 0 rfl) ?_
      refine va_get (D := D) (ci := 3) (v := .ref (ad 11)) (C := RX4) (T := TX4) (N := 11) hx hb hts inX4 hown hK.1 hP 0 rfl rfl 6 (by decide) (hts (.fieldLink RX4 19 "ColourForests$Survey" "dearestWeights" "[I") (List.mem_of_getElem? (i := 3) rfl)) (fun _ h9 => h9) rfl dX4_noteCommon_36 ?_
      refine lv_iload_n hx hb dX4_noteCommon_39 rfl (lv_at hl 2 rfl) ?_
      refine lv_iload_n hx hb dX4_noteCommon_40 rfl (lv_at hl 3 rfl) ?_
      refine st_i (k := z9) (g := (upd fw z9 ((zI wt)))) hx hb hK hP hD hS 2 rfl (by omega) (by decide) rfl dX4_noteCommon_41 (fun H locs hP hD hS => ?_)
      have hP : va_P D vwCl [(ad 9, .inr (3, [.ref (ad 1), .int sn, .int wf, .int (nI (c9 + 1)), .int (nI m9), .ref (ad 10), .ref (ad 11), .int wd, .ref (ad 12), .ref (ad 13), .ref (ad 14)])), (ad 10, .inl (cy 0, 8, .inl (upd fd z9 ((nI S))))), (ad 11, .inl (cy 0, 8, .inl (upd fw z9 ((zI wt))))), (ad 12, .inl (cy 0, 15, .inl fp)), (ad 13, .inl (cy 0, 15, .inl frm)), (ad 14, .inl (cy 0, 15, .inl ft)), (ad 1, .inr (0, [.int (nI (gV g)), .int (nI (gC g)), .int (nI (gE g)), .int ch, .ref (ad 2), .ref (ad 3), .ref (ad 4), .ref (ad 5), .ref (ad 6)])), (ad 2, .inl (cy 0, 6, .inl (fun i => nI (gL g i)))), (ad 3, .inl (cy 0, 14, .inl (fun i => nI (gF g i)))), (ad 4, .inl (cy 0, 14, .inl (fun i => nI (gS g i)))), (ad 5, .inl (cy 0, 14, .inl (fun i => nI (gH g i)))), (ad 6, .inl (cy 0, 14, .inl (fun i => zI (gW g i))))] H := hP
      have hD : va_D (inW (wSv cy ad ch g sn wf (nI c9) (nI m9) wd fd fw fp frm ft)) [(ad 9, .inr (3, [.ref (ad 1), .int sn, .int wf, .int (nI (c9 + 1)), .int (nI m9), .ref (ad 10), .ref (ad 11), .int wd, .ref (ad 12), .ref (ad 13), .ref (ad 14)])), (ad 10, .inl (cy 0, 8, .inl (upd fd z9 ((nI S))))), (ad 11, .inl (cy 0, 8, .inl (upd fw z9 ((zI wt))))), (ad 12, .inl (cy 0, 15, .inl fp)), (ad 13, .inl (cy 0, 15, .inl frm)), (ad 14, .inl (cy 0, 15, .inl ft)), (ad 1, .inr (0, [.int (nI (gV g)), .int (nI (gC g)), .int (nI (gE g)), .int ch, .ref (ad 2), .ref (ad 3), .ref (ad 4), .ref (ad 5), .ref (ad 6)])), (ad 2, .inl (cy 0, 6, .inl (fun i => nI (gL g i)))), (ad 3, .inl (cy 0, 14, .inl (fun i => nI (gF g i)))), (ad 4, .inl (cy 0, 14, .inl (fun i => nI (gS g i)))), (ad 5, .inl (cy 0, 14, .inl (fun i => nI (gH g i)))), (ad 6, .inl (cy 0, 14, .inl (fun i => zI (gW g i))))] := hD
      refine lv_aload_n hx hb dX4_noteCommon_42 rfl (lv_at hl 0 rfl) ?_
      refine lv_aload_n hx hb dX4_noteCommon_43 rfl (lv_at hl 0 rfl) ?_
      refine va_get (D := D) (ci := 3) (v := .int (nI m9)) (C := RX4) (T := TX4) (N := 11) hx hb hts inX4 hown hK.1 hP 0 rfl rfl 4 (by decide) (hts (.fieldLink RX4 35 "ColourForests$Survey" "most" "I") (List.mem_of_getElem? (i := 2) rfl)) (fun _ h9 => h9) rfl dX4_noteCommon_44 ?_
      refine lv_iload_n hx hb dX4_noteCommon_47 rfl (lv_at hl 2 rfl) ?_
      refine va_mmax hx hb (hml.trans hl.1.symm) hown (hts (.methodLink RX4 116 Lib.Math.max.name) (List.mem_of_getElem? (i := 5) rfl)) (hts (.static Lib.Math.max.name) (List.mem_of_getElem? (i := 6) rfl)) (hts (.initialized "java/lang/Math") (List.mem_of_getElem? (i := 7) rfl)) (hts (.code Lib.Math.max.name Lib.Math.max.code 2 (some .int)) (List.mem_of_getElem? (i := 8) rfl)) (Nat.le_of_ble_eq_true rfl) (Nat.le_of_ble_eq_true rfl) (Nat.zero_le _) (Nat.zero_le _) dX4_noteCommon_48 ?_
      refine lv_as (y := nI (max m9 z9)) (ni_max (by omega) (by omega)) ?_
      refine va_put (D := D) (ci := 3) (v := .int (nI (max m9 z9))) (ty := .int) (C := RX4) (T := TX4) (N := 11) hx hb hts inX4 tyX4 tyX4_ok nmX4 hown hK.1 hP hD hS 0 rfl rfl 4 (by decide) (hts (.fieldLink RX4 35 "ColourForests$Survey" "most" "I") (List.mem_of_getElem? (i := 2) rfl)) (fun _ h9 => h9) rfl (by decide +kernel) rfl rfl (Nat.le_of_ble_eq_true rfl) dX4_noteCommon_51 (fun H locs hP hD hS => ?_)
      have hP : va_P D vwCl [(ad 9, .inr (3, [.ref (ad 1), .int sn, .int wf, .int (nI (c9 + 1)), .int (nI (max m9 z9)), .ref (ad 10), .ref (ad 11), .int wd, .ref (ad 12), .ref (ad 13), .ref (ad 14)])), (ad 10, .inl (cy 0, 8, .inl (upd fd z9 ((nI S))))), (ad 11, .inl (cy 0, 8, .inl (upd fw z9 ((zI wt))))), (ad 12, .inl (cy 0, 15, .inl fp)), (ad 13, .inl (cy 0, 15, .inl frm)), (ad 14, .inl (cy 0, 15, .inl ft)), (ad 1, .inr (0, [.int (nI (gV g)), .int (nI (gC g)), .int (nI (gE g)), .int ch, .ref (ad 2), .ref (ad 3), .ref (ad 4), .ref (ad 5), .ref (ad 6)])), (ad 2, .inl (cy 0, 6, .inl (fun i => nI (gL g i)))), (ad 3, .inl (cy 0, 14, .inl (fun i => nI (gF g i)))), (ad 4, .inl (cy 0, 14, .inl (fun i => nI (gS g i)))), (ad 5, .inl (cy 0, 14, .inl (fun i => nI (gH g i)))), (ad 6, .inl (cy 0, 14, .inl (fun i => zI (gW g i))))] H := hP
      have hD : va_D (inW (wSv cy ad ch g sn wf (nI c9) (nI m9) wd fd fw fp frm ft)) [(ad 9, .inr (3, [.ref (ad 1), .int sn, .int wf, .int (nI (c9 + 1)), .int (nI (max m9 z9)), .ref (ad 10), .ref (ad 11), .int wd, .ref (ad 12), .ref (ad 13), .ref (ad 14)])), (ad 10, .inl (cy 0, 8, .inl (upd fd z9 ((nI S))))), (ad 11, .inl (cy 0, 8, .inl (upd fw z9 ((zI wt))))), (ad 12, .inl (cy 0, 15, .inl fp)), (ad 13, .inl (cy 0, 15, .inl frm)), (ad 14, .inl (cy 0, 15, .inl ft)), (ad 1, .inr (0, [.int (nI (gV g)), .int (nI (gC g)), .int (nI (gE g)), .int ch, .ref (ad 2), .ref (ad 3), .ref (ad 4), .ref (ad 5), .ref (ad 6)])), (ad 2, .inl (cy 0, 6, .inl (fun i => nI (gL g i)))), (ad 3, .inl (cy 0, 14, .inl (fun i => nI (gF g i)))), (ad 4, .inl (cy 0, 14, .inl (fun i => nI (gS g i)))), (ad 5, .inl (cy 0, 14, .inl (fun i => nI (gH g i)))), (ad 6, .inl (cy 0, 14, .inl (fun i => zI (gW g i))))] := hD
      exact wv_ret ((upd fd z9 ((nI S))), (upd fw z9 ((zI wt)))) hx hb hr hlocks hS hP (by first | (rw [if_pos (Or.inl (by omega))]) | (rw [if_pos (Or.inr (by omega))]) | (rw [if_neg (by omega)])) dX4_noteCommon_54

set_option maxHeartbeats 4000000 in
set_option maxRecDepth 100000 in
theorem c_X4_note (l : Launch) (D : va_G) (cy : Nat → ClassId) (ad : Nat → Nat) (ch : Int32) {g : GT} (hg : gOK g) (sn : Int32) (fd fw fp frm ft : Nat → Int32) {S e9 : Nat} (h0 : 0 < S) (hS9 : S < 2 ^ gE g) (he9 : e9 < 15) (htab : tabs g S fd fw) (hrow : rowT g S e9 fp frm ft) : WV l yX4_note wsX4_note ({ frames := 2, cells := 0, slots := 0, locals := 47 }) D cy [.ref (ad 9), .int (nI S), .int (nI e9)] (wSv cy ad ch g sn (nI (sF g S)) (nI (nP (co g) S)) (nI (mo g S)) (nI (sW g S)) fd fw fp frm ft) (fun u : (Nat → Int32) × (Nat → Int32) => tabs g (S + 1) u.1 u.2) (fun u : (Nat → Int32) × (Nat → Int32) => wSv cy ad ch g sn (nI (sF g (S + 1))) (nI (nP (co g) (S + 1))) (nI (mo g (S + 1))) (nI (sW g (S + 1))) u.1 u.2 fp frm ft) := by
  refine Met.ofW (cc := cX4_note) (maxL := 4) (ret := none) (by decide) rfl ?_
  intro p ev s m args below meth c s₁ B hml hv
  obtain ⟨rfl, ⟨hK, hP⟩, hD0⟩ := hv
  have hx := B.exec
  have hb := B.bytes
  have hr := B.returns
  have hts := atoms_spec (ws := wsX4_note) B.pre
  have hown : s.vm.findClass RX4 = some m.cls := findClass_of_methodNamed B.named
  have hlocks := B.notSynchronized
  have hD : va_D (inW (wSv cy ad ch g sn (nI (sF g S)) (nI (nP (co g) S)) (nI (mo g S)) (nI (sW g S)) fd fw fp frm ft)) (wSv cy ad ch g sn (nI (sF g S)) (nI (nP (co g) S)) (nI (mo g S)) (nI (sW g S)) fd fw fp frm ft) := inW_self hD0
  have hS : va_S (inW (wSv cy ad ch g sn (nI (sF g S)) (nI (nP (co g) S)) (nI (mo g S)) (nI (sW g S)) fd fw fp frm ft)) s.heap s.heap [] := va_S.rf
  have hP : va_P D vwCl (wSv cy ad ch g sn (nI (sF g S)) (nI (nP (co g) S)) (nI (mo g S)) (nI (sW g S)) fd fw fp frm ft) s.heap := hP
  have inX4 : ∀ w ∈ wsX40, w ∈ wsX4_note := by decide +kernel
  have hl := lv_entry ([.ref (ad 9), .int (nI S), .int (nI e9)]) (n := 4) (Nat.le_of_ble_eq_true rfl)
  rw [lg_entry_eq]
  generalize (lg_sl ([.ref (ad 9), .int (nI S), .int (nI e9)]) ++ List.replicate (4 - (lg_sl ([.ref (ad 9), .int (nI S), .int (nI e9)])).length) Slot.unset).toArray = ls at hl ⊢
  have hl : lv_has ls 4 [(0, .ref (ad 9)), (1, .int (nI S)), (2, .int (nI e9))] := hl
  have hgen := True.intro
  have hE := hg.2.2.1
  have hV := hg.1
  have hC := hg.2.1
  have hS8 : 2 ^ gE g ≤ 2 ^ 14 := Nat.pow_le_pow_right (by decide) hE
  obtain ⟨-, hrm, hwt, hfr0⟩ := hrow
  have hcd := fr_7 hg hS9 hfr0
  have hsw := sW_7 hg S (by omega)
  have hmo := mo_7 hg h0 (by omega)
  obtain ⟨zst, hzst, hzo, hzb⟩ := sv_z hg h0 (by omega) htab (ms_card 14 S)
  refine lv_iload_n hx hb dX4_note_0 rfl (lv_at hl 1 rfl) ?_
  refine pu_call (va_runS (As := [.int (nI S)]) (rest := []) ⟨hx, hb, hml, hown, hts⟩ (c_J6_bitCount_0f7a4 l D cy (S := S) (by omega)) (va_cwS 1 hts gX4_note_J6_bitCount_0f7a4 rfl rfl rfl (by decide +kernel) ⟨Nat.le_of_ble_eq_true rfl, Nat.le_of_ble_eq_true rfl⟩) (PU_preS hK hP [] rfl) rfl rfl hl.1 rfl (lv_room (Nat.le_of_ble_eq_true rfl)) dX4_note_1 ⟨(Nat.zero_le _), (Nat.zero_le _)⟩) hS hP (fun H locs hP hS => ?_)
  refine lv_istore_n (lv' := [(3, .int (nI (ms_card 14 S))), (0, .ref (ad 9)), (1, .int (nI S)), (2, .int (nI e9))]) hx hb dX4_note_4 rfl hl (by decide) rfl (fun ls hl => ?_)
  refine lv_aload_n hx hb dX4_note_5 rfl (lv_at hl 1 rfl) ?_
  refine lv_iload_n hx hb dX4_note_6 rfl (lv_at hl 0 rfl) ?_
  refine wr_callv [0, 1, 2, 3, 4, 5, 6, 7, 8, 9, 10, 11] (va_runV (As := [.int (nI (ms_card 14 S))]) (rest := []) ⟨hx, hb, hml, hown, hts⟩ (c_X4_noteForest l D cy ad ch hg sn (nI (nP (co g) S)) (nI (mo g S)) fd fw fp frm ft (w9 := sW g S) (c9 := sF g S) (z9 := ms_card 14 S) (by omega) (by omega)) (cwV 1 hts gX4_note_X4_noteForest rfl rfl rfl (by decide +kernel) ⟨Nat.le_of_ble_eq_true rfl, Nat.le_of_ble_eq_true rfl⟩) (WR_preV (ci := 3) (q0 := 0) hK hP hD rfl rfl [0, 1, 2, 3, 4, 5, 6, 7, 8, 9, 10, 11] (by decide) rfl rfl) rfl rfl hl.1 rfl (lv_room (Nat.le_of_ble_eq_true rfl)) dX4_note_7 ⟨(Nat.zero_le _), (Nat.zero_le _)⟩) hS hP hD rfl (fun _ => rfl) (fun _ => rfl) (fun u7 H locs w7 hP hD hS => ?_)
  have w7 : u7 = (sW g (S + 1), sF g (S + 1)) := Eq.trans w7 (sv_nf hfr0)
  subst w7
  have hP : va_P D vwCl [(ad 9, .inr (3, [.ref (ad 1), .int sn, .int (nI (sF g (S + 1))), .int (nI (nP (co g) S)), .int (nI (mo g S)), .ref (ad 10), .ref (ad 11), .int (nI (sW g (S + 1))), .ref (ad 12), .ref (ad 13), .ref (ad 14)])), (ad 10, .inl (cy 0, 8, .inl fd)), (ad 11, .inl (cy 0, 8, .inl fw)), (ad 12, .inl (cy 0, 15, .inl fp)), (ad 13, .inl (cy 0, 15, .inl frm)), (ad 14, .inl (cy 0, 15, .inl ft)), (ad 1, .inr (0, [.int (nI (gV g)), .int (nI (gC g)), .int (nI (gE g)), .int ch, .ref (ad 2), .ref (ad 3), .ref (ad 4), .ref (ad 5), .ref (ad 6)])), (ad 2, .inl (cy 0, 6, .inl (fun i => nI (gL g i)))), (ad 3, .inl (cy 0, 14, .inl (fun i => nI (gF g i)))), (ad 4, .inl (cy 0, 14, .inl (fun i => nI (gS g i)))), (ad 5, .inl (cy 0, 14, .inl (fun i => nI (gH g i)))), (ad 6, .inl (cy 0, 14, .inl (fun i => zI (gW g i))))] H := hP
  have hD : va_D (inW (wSv cy ad ch g sn (nI (sF g S)) (nI (nP (co g) S)) (nI (mo g S)) (nI (sW g S)) fd fw fp frm ft)) [(ad 9, .inr (3, [.ref (ad 1), .int sn, .int (nI (sF g (S + 1))), .int (nI (nP (co g) S)), .int (nI (mo g S)), .ref (ad 10), .ref (ad 11), .int (nI (sW g (S + 1))), .ref (ad 12), .ref (ad 13), .ref (ad 14)])), (ad 10, .inl (cy 0, 8, .inl fd)), (ad 11, .inl (cy 0, 8, .inl fw)), (ad 12, .inl (cy 0, 15, .inl fp)), (ad 13, .inl (cy 0, 15, .inl frm)), (ad 14, .inl (cy 0, 15, .inl ft)), (ad 1, .inr (0, [.int (nI (gV g)), .int (nI (gC g)), .int (nI (gE g)), .int ch, .ref (ad 2), .ref (ad 3), .ref (ad 4), .ref (ad 5), .ref (ad 6)])), (ad 2, .inl (cy 0, 6, .inl (fun i => nI (gL g i)))), (ad 3, .inl (cy 0, 14, .inl (fun i => nI (gF g i)))), (ad 4, .inl (cy 0, 14, .inl (fun i => nI (gS g i)))), (ad 5, .inl (cy 0, 14, .inl (fun i => nI (gH g i)))), (ad 6, .inl (cy 0, 14, .inl (fun i => zI (gW g i))))] := hD
  refine lv_aload_n hx hb dX4_note_10 rfl (lv_at hl 1 rfl) ?_
  refine va_get (D := D) (ci := 3) (v := .ref (ad 13)) (C := RX4) (T := TX4) (N := 11) hx hb hts inX4 hown hK.1 hP 0 rfl rfl 9 (by decide) (hts (.fieldLink RX4 25 "ColourForests$Survey" "roomFrom" "[I") (List.mem_of_getElem? (i := 1) rfl)) (fun _ h9 => h9) rfl dX4_note_11 ?_
  refine lv_iload_n hx hb dX4_note_14 rfl (lv_at hl 3 rfl) ?_
  refine rd_i (k := e9) (v := (rmv g S)) hx hb hK hP 4 rfl (by omega) (by decide) hrm dX4_note_15 ?_
  refine lv_iconst (v := zI (-1)) hx hb dX4_note_16 (by decide) ?_
  refine lv_icmp_eq (tgt := 32) hx hb dX4_note_17 (by decide) (fun c17 => ?_) (fun c17 => ?_)
  · have c17 := rmv_f hg c17
    have hu := sv_no htab c17
    exact wv_ret (fd, fw) hx hb hr hlocks hS (by rw [hu.2.1, hu.2.2]; exact hP) hu.1 dX4_note_32
  · have c17 := (rmv_t hg c17).1
    refine lv_aload_n hx hb dX4_note_20 rfl (lv_at hl 1 rfl) ?_
    refine lv_iload_n hx hb dX4_note_21 rfl (lv_at hl 2 rfl) ?_
    refine lv_iload_n hx hb dX4_note_22 rfl (lv_at hl 0 rfl) ?_
    refine lv_aload_n hx hb dX4_note_23 rfl (lv_at hl 1 rfl) ?_
    refine va_get (D := D) (ci := 3) (v := .ref (ad 14)) (C := RX4) (T := TX4) (N := 11) hx hb hts inX4 hown hK.1 hP 0 rfl rfl 10 (by decide) (hts (.fieldLink RX4 28 "ColourForests$Survey" "weightFrom" "[I") (List.mem_of_getElem? (i := 2) rfl)) (fun _ h9 => h9) rfl dX4_note_24 ?_
    refine lv_iload_n hx hb dX4_note_27 rfl (lv_at hl 3 rfl) ?_
    refine rd_i (k := e9) (v := (zI (wS g S))) hx hb hK hP 5 rfl (by omega) (by decide) hwt dX4_note_28 ?_
    refine wr_callv [0, 1, 2, 3, 4, 5, 6, 7, 8, 9, 10, 11] (va_runV (As := [.int (nI S), .int (nI (ms_card 14 S)), .int (zI (wS g S))]) (rest := []) ⟨hx, hb, hml, hown, hts⟩ (c_X4_noteCommon l D cy ad ch hg sn (nI (sF g (S + 1))) (nI (sW g (S + 1))) fd fw fp frm ft (c9 := nP (co g) S) (m9 := mo g S) (S := S) (z9 := ms_card 14 S) (wt := wS g S) (z := zst) (by omega) (by omega) hzst hzo (by have := wS_bd hg S; exact ⟨by omega, by omega⟩)) (cwV 3 hts gX4_note_X4_noteCommon rfl rfl rfl (by decide +kernel) ⟨Nat.le_of_ble_eq_true rfl, Nat.le_of_ble_eq_true rfl⟩) (WR_preV (ci := 3) (q0 := 0) hK hP hD rfl rfl [0, 1, 2, 3, 4, 5, 6, 7, 8, 9, 10, 11] (by decide) rfl rfl) rfl rfl hl.1 rfl (lv_room (Nat.le_of_ble_eq_true rfl)) dX4_note_29 ⟨(Nat.zero_le _), (Nat.zero_le _)⟩) hS hP hD rfl (fun _ => rfl) (fun _ => rfl) (fun u29 H locs w29 hP hD hS => ?_)
    have hu := sv_nc htab hfr0 c17 hzb w29
    have hP : va_P D vwCl [(ad 9, .inr (3, [.ref (ad 1), .int sn, .int (nI (sF g (S + 1))), .int (nI (nP (co g) S + 1)), .int (nI (max (mo g S) (ms_card 14 S))), .ref (ad 10), .ref (ad 11), .int (nI (sW g (S + 1))), .ref (ad 12), .ref (ad 13), .ref (ad 14)])), (ad 10, .inl (cy 0, 8, .inl u29.1)), (ad 11, .inl (cy 0, 8, .inl u29.2)), (ad 12, .inl (cy 0, 15, .inl fp)), (ad 13, .inl (cy 0, 15, .inl frm)), (ad 14, .inl (cy 0, 15, .inl ft)), (ad 1, .inr (0, [.int (nI (gV g)), .int (nI (gC g)), .int (nI (gE g)), .int ch, .ref (ad 2), .ref (ad 3), .ref (ad 4), .ref (ad 5), .ref (ad 6)])), (ad 2, .inl (cy 0, 6, .inl (fun i => nI (gL g i)))), (ad 3, .inl (cy 0, 14, .inl (fun i => nI (gF g i)))), (ad 4, .inl (cy 0, 14, .inl (fun i => nI (gS g i)))), (ad 5, .inl (cy 0, 14, .inl (fun i => nI (gH g i)))), (ad 6, .inl (cy 0, 14, .inl (fun i => zI (gW g i))))] H := hP
    have hD : va_D (inW (wSv cy ad ch g sn (nI (sF g S)) (nI (nP (co g) S)) (nI (mo g S)) (nI (sW g S)) fd fw fp frm ft)) [(ad 9, .inr (3, [.ref (ad 1), .int sn, .int (nI (sF g (S + 1))), .int (nI (nP (co g) S + 1)), .int (nI (max (mo g S) (ms_card 14 S))), .ref (ad 10), .ref (ad 11), .int (nI (sW g (S + 1))), .ref (ad 12), .ref (ad 13), .ref (ad 14)])), (ad 10, .inl (cy 0, 8, .inl u29.1)), (ad 11, .inl (cy 0, 8, .inl u29.2)), (ad 12, .inl (cy 0, 15, .inl fp)), (ad 13, .inl (cy 0, 15, .inl frm)), (ad 14, .inl (cy 0, 15, .inl ft)), (ad 1, .inr (0, [.int (nI (gV g)), .int (nI (gC g)), .int (nI (gE g)), .int ch, .ref (ad 2), .ref (ad 3), .ref (ad 4), .ref (ad 5), .ref (ad 6)])), (ad 2, .inl (cy 0, 6, .inl (fun i => nI (gL g i)))), (ad 3, .inl (cy 0, 14, .inl (fun i => nI (gF g i)))), (ad 4, .inl (cy 0, 14, .inl (fun i => nI (gS g i)))), (ad 5, .inl (cy 0, 14, .inl (fun i => nI (gH g i)))), (ad 6, .inl (cy 0, 14, .inl (fun i => zI (gW g i))))] := hD
    exact wv_ret (u29.1, u29.2) hx hb hr hlocks hS (by rw [hu.2.1, hu.2.2]; exact hP) hu.1 dX4_note_32

set_option maxHeartbeats 4000000 in
set_option maxRecDepth 100000 in
theorem c_X4_begin (l : Launch) (D : va_G) (cy : Nat → ClassId) (ad : Nat → Nat) (ch : Int32) {g : GT} (hg : gOK g) (sn wf cs ms wd : Int32) (fd fw fp frm ft : Nat → Int32) : WV l yX4_begin wsX4_begin ({ frames := 2, cells := 0, slots := 0, locals := 45 }) D cy [.ref (ad 9)] (wSv cy ad ch g sn wf cs ms wd fd fw fp frm ft) (fun _ : Unit => True) (fun _ : Unit => wSv cy ad ch g sn (nI 1) (nI 1) (nI 0) (nI 0) (upd fd 0 (nI 0)) (upd fw 0 (nI 0)) (upd fp 14 (nI (pk (lone (gV g))))) (upd frm 14 (nI (pk (fulR g)))) (upd ft 14 (nI 0))) := by
  refine Met.ofW (cc := cX4_begin) (maxL := 1) (ret := none) (by decide) rfl ?_
  intro p ev s m args below meth c s₁ B hml hv
  obtain ⟨rfl, ⟨hK, hP⟩, hD0⟩ := hv
  have hx := B.exec
  have hb := B.bytes
  have hr := B.returns
  have hts := atoms_spec (ws := wsX4_begin) B.pre
  have hown : s.vm.findClass RX4 = some m.cls := findClass_of_methodNamed B.named
  have hlocks := B.notSynchronized
  have hD : va_D (inW (wSv cy ad ch g sn wf cs ms wd fd fw fp frm ft)) (wSv cy ad ch g sn wf cs ms wd fd fw fp frm ft) := inW_self hD0
  have hS : va_S (inW (wSv cy ad ch g sn wf cs ms wd fd fw fp frm ft)) s.heap s.heap [] := va_S.rf
  have hP : va_P D vwCl (wSv cy ad ch g sn wf cs ms wd fd fw fp frm ft) s.heap := hP
  have inX4 : ∀ w ∈ wsX40, w ∈ wsX4_begin := by decide +kernel
  have inX0 : ∀ w ∈ wsX00, w ∈ wsX4_begin := by decide +kernel
  have hl := lv_entry ([.ref (ad 9)]) (n := 1) (Nat.le_of_ble_eq_true rfl)
  rw [lg_entry_eq]
  generalize (lg_sl ([.ref (ad 9)]) ++ List.replicate (1 - (lg_sl ([.ref (ad 9)])).length) Slot.unset).toArray = ls at hl ⊢
  have hl : lv_has ls 1 [(0, .ref (ad 9))] := hl
  have hgen := True.intro
  have hE := hg.2.2.1
  have hV := hg.1
  have hC := hg.2.1
  refine lv_aload_n hx hb dX4_begin_0 rfl (lv_at hl 0 rfl) ?_
  refine va_get (D := D) (ci := 3) (v := .ref (ad 12)) (C := RX4) (T := TX4) (N := 11) hx hb hts inX4 hown hK.1 hP 0 rfl rfl 8 (by decide) (hts (.fieldLink RX4 22 "ColourForests$Survey" "partsFrom" "[I") (List.mem_of_getElem? (i := 1) rfl)) (fun _ h9 => h9) rfl dX4_begin_1 ?_
  refine lv_bipush (v := nI 14) hx hb dX4_begin_4 (by decide) ?_
  refine lv_aload_n hx hb dX4_begin_6 rfl (lv_at hl 0 rfl) ?_
  refine va_get (D := D) (ci := 3) (v := .ref (ad 1)) (C := RX4) (T := TX4) (N := 11) hx hb hts inX4 hown hK.1 hP 0 rfl rfl 0 (by decide) (hts (.fieldLink RX4 31 "ColourForests$Survey" "graph" "LColourForests$Graph;") (List.mem_of_getElem? (i := 2) rfl)) (fun _ h9 => h9) rfl dX4_begin_7 ?_
  refine pu_call (va_runV (As := []) (rest := [.int (nI 14), .ref (ad 12)]) ⟨hx, hb, hml, hown, hts⟩ (c_X0_loneParts l D cy ad ch hg) (cwV 0 hts gX4_begin_X0_loneParts rfl rfl rfl (by decide +kernel) ⟨Nat.le_of_ble_eq_true rfl, Nat.le_of_ble_eq_true rfl⟩) (PU_preV (ci := 0) (q0 := 6) hK hP 0 rfl rfl [6, 7, 8, 9, 10, 11] rfl) rfl rfl hl.1 rfl (lv_room (Nat.le_of_ble_eq_true rfl)) dX4_begin_10 ⟨(Nat.zero_le _), (Nat.zero_le _)⟩) hS hP (fun H locs hP hS => ?_)
  refine st_i (k := 14) (g := (upd fp 14 ((nI (pk (lone (gV g))))))) hx hb hK hP hD hS 3 rfl (by omega) (by decide) rfl dX4_begin_13 (fun H locs hP hD hS => ?_)
  have hP : va_P D vwCl [(ad 9, .inr (3, [.ref (ad 1), .int sn, .int wf, .int cs, .int ms, .ref (ad 10), .ref (ad 11), .int wd, .ref (ad 12), .ref (ad 13), .ref (ad 14)])), (ad 10, .inl (cy 0, 8, .inl fd)), (ad 11, .inl (cy 0, 8, .inl fw)), (ad 12, .inl (cy 0, 15, .inl (upd fp 14 ((nI (pk (lone (gV g)))))))), (ad 13, .inl (cy 0, 15, .inl frm)), (ad 14, .inl (cy 0, 15, .inl ft)), (ad 1, .inr (0, [.int (nI (gV g)), .int (nI (gC g)), .int (nI (gE g)), .int ch, .ref (ad 2), .ref (ad 3), .ref (ad 4), .ref (ad 5), .ref (ad 6)])), (ad 2, .inl (cy 0, 6, .inl (fun i => nI (gL g i)))), (ad 3, .inl (cy 0, 14, .inl (fun i => nI (gF g i)))), (ad 4, .inl (cy 0, 14, .inl (fun i => nI (gS g i)))), (ad 5, .inl (cy 0, 14, .inl (fun i => nI (gH g i)))), (ad 6, .inl (cy 0, 14, .inl (fun i => zI (gW g i))))] H := hP
  have hD : va_D (inW (wSv cy ad ch g sn wf cs ms wd fd fw fp frm ft)) [(ad 9, .inr (3, [.ref (ad 1), .int sn, .int wf, .int cs, .int ms, .ref (ad 10), .ref (ad 11), .int wd, .ref (ad 12), .ref (ad 13), .ref (ad 14)])), (ad 10, .inl (cy 0, 8, .inl fd)), (ad 11, .inl (cy 0, 8, .inl fw)), (ad 12, .inl (cy 0, 15, .inl (upd fp 14 ((nI (pk (lone (gV g)))))))), (ad 13, .inl (cy 0, 15, .inl frm)), (ad 14, .inl (cy 0, 15, .inl ft)), (ad 1, .inr (0, [.int (nI (gV g)), .int (nI (gC g)), .int (nI (gE g)), .int ch, .ref (ad 2), .ref (ad 3), .ref (ad 4), .ref (ad 5), .ref (ad 6)])), (ad 2, .inl (cy 0, 6, .inl (fun i => nI (gL g i)))), (ad 3, .inl (cy 0, 14, .inl (fun i => nI (gF g i)))), (ad 4, .inl (cy 0, 14, .inl (fun i => nI (gS g i)))), (ad 5, .inl (cy 0, 14, .inl (fun i => nI (gH g i)))), (ad 6, .inl (cy 0, 14, .inl (fun i => zI (gW g i))))] := hD
  refine lv_aload_n hx hb dX4_begin_14 rfl (lv_at hl 0 rfl) ?_
  refine va_get (D := D) (ci := 3) (v := .ref (ad 13)) (C := RX4) (T := TX4) (N := 11) hx hb hts inX4 hown hK.1 hP 0 rfl rfl 9 (by decide) (hts (.fieldLink RX4 25 "ColourForests$Survey" "roomFrom" "[I") (List.mem_of_getElem? (i := 3) rfl)) (fun _ h9 => h9) rfl dX4_begin_15 ?_
  refine lv_bipush (v := nI 14) hx hb dX4_begin_18 (by decide) ?_
  refine lv_aload_n hx hb dX4_begin_20 rfl (lv_at hl 0 rfl) ?_
  refine va_get (D := D) (ci := 3) (v := .ref (ad 1)) (C := RX4) (T := TX4) (N := 11) hx hb hts inX4 hown hK.1 hP 0 rfl rfl 0 (by decide) (hts (.fieldLink RX4 31 "ColourForests$Survey" "graph" "LColourForests$Graph;") (List.mem_of_getElem? (i := 2) rfl)) (fun _ h9 => h9) rfl dX4_begin_21 ?_
  refine pu_call (va_runV (As := []) (rest := [.int (nI 14), .ref (ad 13)]) ⟨hx, hb, hml, hown, hts⟩ (c_X0_fullRoom l D cy ad ch hg) (cwV 0 hts gX4_begin_X0_fullRoom rfl rfl rfl (by decide +kernel) ⟨Nat.le_of_ble_eq_true rfl, Nat.le_of_ble_eq_true rfl⟩) (PU_preV (ci := 0) (q0 := 6) hK hP 0 rfl rfl [6, 7, 8, 9, 10, 11] rfl) rfl rfl hl.1 rfl (lv_room (Nat.le_of_ble_eq_true rfl)) dX4_begin_24 ⟨(Nat.zero_le _), (Nat.zero_le _)⟩) hS hP (fun H locs hP hS => ?_)
  refine st_i (k := 14) (g := (upd frm 14 ((nI (pk (fulR g)))))) hx hb hK hP hD hS 4 rfl (by omega) (by decide) rfl dX4_begin_27 (fun H locs hP hD hS => ?_)
  have hP : va_P D vwCl [(ad 9, .inr (3, [.ref (ad 1), .int sn, .int wf, .int cs, .int ms, .ref (ad 10), .ref (ad 11), .int wd, .ref (ad 12), .ref (ad 13), .ref (ad 14)])), (ad 10, .inl (cy 0, 8, .inl fd)), (ad 11, .inl (cy 0, 8, .inl fw)), (ad 12, .inl (cy 0, 15, .inl (upd fp 14 ((nI (pk (lone (gV g)))))))), (ad 13, .inl (cy 0, 15, .inl (upd frm 14 ((nI (pk (fulR g))))))), (ad 14, .inl (cy 0, 15, .inl ft)), (ad 1, .inr (0, [.int (nI (gV g)), .int (nI (gC g)), .int (nI (gE g)), .int ch, .ref (ad 2), .ref (ad 3), .ref (ad 4), .ref (ad 5), .ref (ad 6)])), (ad 2, .inl (cy 0, 6, .inl (fun i => nI (gL g i)))), (ad 3, .inl (cy 0, 14, .inl (fun i => nI (gF g i)))), (ad 4, .inl (cy 0, 14, .inl (fun i => nI (gS g i)))), (ad 5, .inl (cy 0, 14, .inl (fun i => nI (gH g i)))), (ad 6, .inl (cy 0, 14, .inl (fun i => zI (gW g i))))] H := hP
  have hD : va_D (inW (wSv cy ad ch g sn wf cs ms wd fd fw fp frm ft)) [(ad 9, .inr (3, [.ref (ad 1), .int sn, .int wf, .int cs, .int ms, .ref (ad 10), .ref (ad 11), .int wd, .ref (ad 12), .ref (ad 13), .ref (ad 14)])), (ad 10, .inl (cy 0, 8, .inl fd)), (ad 11, .inl (cy 0, 8, .inl fw)), (ad 12, .inl (cy 0, 15, .inl (upd fp 14 ((nI (pk (lone (gV g)))))))), (ad 13, .inl (cy 0, 15, .inl (upd frm 14 ((nI (pk (fulR g))))))), (ad 14, .inl (cy 0, 15, .inl ft)), (ad 1, .inr (0, [.int (nI (gV g)), .int (nI (gC g)), .int (nI (gE g)), .int ch, .ref (ad 2), .ref (ad 3), .ref (ad 4), .ref (ad 5), .ref (ad 6)])), (ad 2, .inl (cy 0, 6, .inl (fun i => nI (gL g i)))), (ad 3, .inl (cy 0, 14, .inl (fun i => nI (gF g i)))), (ad 4, .inl (cy 0, 14, .inl (fun i => nI (gS g i)))), (ad 5, .inl (cy 0, 14, .inl (fun i => nI (gH g i)))), (ad 6, .inl (cy 0, 14, .inl (fun i => zI (gW g i))))] := hD
  refine lv_aload_n hx hb dX4_begin_28 rfl (lv_at hl 0 rfl) ?_
  refine va_get (D := D) (ci := 3) (v := .ref (ad 14)) (C := RX4) (T := TX4) (N := 11) hx hb hts inX4 hown hK.1 hP 0 rfl rfl 10 (by decide) (hts (.fieldLink RX4 28 "ColourForests$Survey" "weightFrom" "[I") (List.mem_of_getElem? (i := 4) rfl)) (fun _ h9 => h9) rfl dX4_begin_29 ?_
  refine lv_bipush (v := nI 14) hx hb dX4_begin_32 (by decide) ?_
  refine lv_iconst (v := nI 0) hx hb dX4_begin_34 (by decide) ?_
  refine st_i (k := 14) (g := (upd ft 14 ((nI 0)))) hx hb hK hP hD hS 5 rfl (by omega) (by decide) rfl dX4_begin_35 (fun H locs hP hD hS => ?_)
  have hP : va_P D vwCl [(ad 9, .inr (3, [.ref (ad 1), .int sn, .int wf, .int cs, .int ms, .ref (ad 10), .ref (ad 11), .int wd, .ref (ad 12), .ref (ad 13), .ref (ad 14)])), (ad 10, .inl (cy 0, 8, .inl fd)), (ad 11, .inl (cy 0, 8, .inl fw)), (ad 12, .inl (cy 0, 15, .inl (upd fp 14 ((nI (pk (lone (gV g)))))))), (ad 13, .inl (cy 0, 15, .inl (upd frm 14 ((nI (pk (fulR g))))))), (ad 14, .inl (cy 0, 15, .inl (upd ft 14 ((nI 0))))), (ad 1, .inr (0, [.int (nI (gV g)), .int (nI (gC g)), .int (nI (gE g)), .int ch, .ref (ad 2), .ref (ad 3), .ref (ad 4), .ref (ad 5), .ref (ad 6)])), (ad 2, .inl (cy 0, 6, .inl (fun i => nI (gL g i)))), (ad 3, .inl (cy 0, 14, .inl (fun i => nI (gF g i)))), (ad 4, .inl (cy 0, 14, .inl (fun i => nI (gS g i)))), (ad 5, .inl (cy 0, 14, .inl (fun i => nI (gH g i)))), (ad 6, .inl (cy 0, 14, .inl (fun i => zI (gW g i))))] H := hP
  have hD : va_D (inW (wSv cy ad ch g sn wf cs ms wd fd fw fp frm ft)) [(ad 9, .inr (3, [.ref (ad 1), .int sn, .int wf, .int cs, .int ms, .ref (ad 10), .ref (ad 11), .int wd, .ref (ad 12), .ref (ad 13), .ref (ad 14)])), (ad 10, .inl (cy 0, 8, .inl fd)), (ad 11, .inl (cy 0, 8, .inl fw)), (ad 12, .inl (cy 0, 15, .inl (upd fp 14 ((nI (pk (lone (gV g)))))))), (ad 13, .inl (cy 0, 15, .inl (upd frm 14 ((nI (pk (fulR g))))))), (ad 14, .inl (cy 0, 15, .inl (upd ft 14 ((nI 0))))), (ad 1, .inr (0, [.int (nI (gV g)), .int (nI (gC g)), .int (nI (gE g)), .int ch, .ref (ad 2), .ref (ad 3), .ref (ad 4), .ref (ad 5), .ref (ad 6)])), (ad 2, .inl (cy 0, 6, .inl (fun i => nI (gL g i)))), (ad 3, .inl (cy 0, 14, .inl (fun i => nI (gF g i)))), (ad 4, .inl (cy 0, 14, .inl (fun i => nI (gS g i)))), (ad 5, .inl (cy 0, 14, .inl (fun i => nI (gH g i)))), (ad 6, .inl (cy 0, 14, .inl (fun i => zI (gW g i))))] := hD
  refine lv_aload_n hx hb dX4_begin_36 rfl (lv_at hl 0 rfl) ?_
  refine lv_iconst (v := nI 0) hx hb dX4_begin_37 (by decide) ?_
  refine va_put (D := D) (ci := 3) (v := .int (nI 0)) (ty := .int) (C := RX4) (T := TX4) (N := 11) hx hb hts inX4 tyX4 tyX4_ok nmX4 hown hK.1 hP hD hS 0 rfl rfl 7 (by decide) (hts (.fieldLink RX4 80 "ColourForests$Survey" "widest" "I") (List.mem_of_getElem? (i := 5) rfl)) (fun _ h9 => h9) rfl (by decide +kernel) rfl rfl (Nat.le_of_ble_eq_true rfl) dX4_begin_38 (fun H locs hP hD hS => ?_)
  have hP : va_P D vwCl [(ad 9, .inr (3, [.ref (ad 1), .int sn, .int wf, .int cs, .int ms, .ref (ad 10), .ref (ad 11), .int (nI 0), .ref (ad 12), .ref (ad 13), .ref (ad 14)])), (ad 10, .inl (cy 0, 8, .inl fd)), (ad 11, .inl (cy 0, 8, .inl fw)), (ad 12, .inl (cy 0, 15, .inl (upd fp 14 ((nI (pk (lone (gV g)))))))), (ad 13, .inl (cy 0, 15, .inl (upd frm 14 ((nI (pk (fulR g))))))), (ad 14, .inl (cy 0, 15, .inl (upd ft 14 ((nI 0))))), (ad 1, .inr (0, [.int (nI (gV g)), .int (nI (gC g)), .int (nI (gE g)), .int ch, .ref (ad 2), .ref (ad 3), .ref (ad 4), .ref (ad 5), .ref (ad 6)])), (ad 2, .inl (cy 0, 6, .inl (fun i => nI (gL g i)))), (ad 3, .inl (cy 0, 14, .inl (fun i => nI (gF g i)))), (ad 4, .inl (cy 0, 14, .inl (fun i => nI (gS g i)))), (ad 5, .inl (cy 0, 14, .inl (fun i => nI (gH g i)))), (ad 6, .inl (cy 0, 14, .inl (fun i => zI (gW g i))))] H := hP
  have hD : va_D (inW (wSv cy ad ch g sn wf cs ms wd fd fw fp frm ft)) [(ad 9, .inr (3, [.ref (ad 1), .int sn, .int wf, .int cs, .int ms, .ref (ad 10), .ref (ad 11), .int (nI 0), .ref (ad 12), .ref (ad 13), .ref (ad 14)])), (ad 10, .inl (cy 0, 8, .inl fd)), (ad 11, .inl (cy 0, 8, .inl fw)), (ad 12, .inl (cy 0, 15, .inl (upd fp 14 ((nI (pk (lone (gV g)))))))), (ad 13, .inl (cy 0, 15, .inl (upd frm 14 ((nI (pk (fulR g))))))), (ad 14, .inl (cy 0, 15, .inl (upd ft 14 ((nI 0))))), (ad 1, .inr (0, [.int (nI (gV g)), .int (nI (gC g)), .int (nI (gE g)), .int ch, .ref (ad 2), .ref (ad 3), .ref (ad 4), .ref (ad 5), .ref (ad 6)])), (ad 2, .inl (cy 0, 6, .inl (fun i => nI (gL g i)))), (ad 3, .inl (cy 0, 14, .inl (fun i => nI (gF g i)))), (ad 4, .inl (cy 0, 14, .inl (fun i => nI (gS g i)))), (ad 5, .inl (cy 0, 14, .inl (fun i => nI (gH g i)))), (ad 6, .inl (cy 0, 14, .inl (fun i => zI (gW g i))))] := hD
  refine lv_aload_n hx hb dX4_begin_41 rfl (lv_at hl 0 rfl) ?_
  refine lv_iconst (v := nI 1) hx hb dX4_begin_42 (by decide) ?_
  refine va_put (D := D) (ci := 3) (v := .int (nI 1)) (ty := .int) (C := RX4) (T := TX4) (N := 11) hx hb hts inX4 tyX4 tyX4_ok nmX4 hown hK.1 hP hD hS 0 rfl rfl 2 (by decide) (hts (.fieldLink RX4 83 "ColourForests$Survey" "widestForests" "I") (List.mem_of_getElem? (i := 6) rfl)) (fun _ h9 => h9) rfl (by decide +kernel) rfl rfl (Nat.le_of_ble_eq_true rfl) dX4_begin_43 (fun H locs hP hD hS => ?_)
  have hP : va_P D vwCl [(ad 9, .inr (3, [.ref (ad 1), .int sn, .int (nI 1), .int cs, .int ms, .ref (ad 10), .ref (ad 11), .int (nI 0), .ref (ad 12), .ref (ad 13), .ref (ad 14)])), (ad 10, .inl (cy 0, 8, .inl fd)), (ad 11, .inl (cy 0, 8, .inl fw)), (ad 12, .inl (cy 0, 15, .inl (upd fp 14 ((nI (pk (lone (gV g)))))))), (ad 13, .inl (cy 0, 15, .inl (upd frm 14 ((nI (pk (fulR g))))))), (ad 14, .inl (cy 0, 15, .inl (upd ft 14 ((nI 0))))), (ad 1, .inr (0, [.int (nI (gV g)), .int (nI (gC g)), .int (nI (gE g)), .int ch, .ref (ad 2), .ref (ad 3), .ref (ad 4), .ref (ad 5), .ref (ad 6)])), (ad 2, .inl (cy 0, 6, .inl (fun i => nI (gL g i)))), (ad 3, .inl (cy 0, 14, .inl (fun i => nI (gF g i)))), (ad 4, .inl (cy 0, 14, .inl (fun i => nI (gS g i)))), (ad 5, .inl (cy 0, 14, .inl (fun i => nI (gH g i)))), (ad 6, .inl (cy 0, 14, .inl (fun i => zI (gW g i))))] H := hP
  have hD : va_D (inW (wSv cy ad ch g sn wf cs ms wd fd fw fp frm ft)) [(ad 9, .inr (3, [.ref (ad 1), .int sn, .int (nI 1), .int cs, .int ms, .ref (ad 10), .ref (ad 11), .int (nI 0), .ref (ad 12), .ref (ad 13), .ref (ad 14)])), (ad 10, .inl (cy 0, 8, .inl fd)), (ad 11, .inl (cy 0, 8, .inl fw)), (ad 12, .inl (cy 0, 15, .inl (upd fp 14 ((nI (pk (lone (gV g)))))))), (ad 13, .inl (cy 0, 15, .inl (upd frm 14 ((nI (pk (fulR g))))))), (ad 14, .inl (cy 0, 15, .inl (upd ft 14 ((nI 0))))), (ad 1, .inr (0, [.int (nI (gV g)), .int (nI (gC g)), .int (nI (gE g)), .int ch, .ref (ad 2), .ref (ad 3), .ref (ad 4), .ref (ad 5), .ref (ad 6)])), (ad 2, .inl (cy 0, 6, .inl (fun i => nI (gL g i)))), (ad 3, .inl (cy 0, 14, .inl (fun i => nI (gF g i)))), (ad 4, .inl (cy 0, 14, .inl (fun i => nI (gS g i)))), (ad 5, .inl (cy 0, 14, .inl (fun i => nI (gH g i)))), (ad 6, .inl (cy 0, 14, .inl (fun i => zI (gW g i))))] := hD
  refine lv_aload_n hx hb dX4_begin_46 rfl (lv_at hl 0 rfl) ?_
  refine lv_iconst (v := nI 1) hx hb dX4_begin_47 (by decide) ?_
  refine va_put (D := D) (ci := 3) (v := .int (nI 1)) (ty := .int) (C := RX4) (T := TX4) (N := 11) hx hb hts inX4 tyX4 tyX4_ok nmX4 hown hK.1 hP hD hS 0 rfl rfl 3 (by decide) (hts (.fieldLink RX4 86 "ColourForests$Survey" "commonSets" "I") (List.mem_of_getElem? (i := 7) rfl)) (fun _ h9 => h9) rfl (by decide +kernel) rfl rfl (Nat.le_of_ble_eq_true rfl) dX4_begin_48 (fun H locs hP hD hS => ?_)
  have hP : va_P D vwCl [(ad 9, .inr (3, [.ref (ad 1), .int sn, .int (nI 1), .int (nI 1), .int ms, .ref (ad 10), .ref (ad 11), .int (nI 0), .ref (ad 12), .ref (ad 13), .ref (ad 14)])), (ad 10, .inl (cy 0, 8, .inl fd)), (ad 11, .inl (cy 0, 8, .inl fw)), (ad 12, .inl (cy 0, 15, .inl (upd fp 14 ((nI (pk (lone (gV g)))))))), (ad 13, .inl (cy 0, 15, .inl (upd frm 14 ((nI (pk (fulR g))))))), (ad 14, .inl (cy 0, 15, .inl (upd ft 14 ((nI 0))))), (ad 1, .inr (0, [.int (nI (gV g)), .int (nI (gC g)), .int (nI (gE g)), .int ch, .ref (ad 2), .ref (ad 3), .ref (ad 4), .ref (ad 5), .ref (ad 6)])), (ad 2, .inl (cy 0, 6, .inl (fun i => nI (gL g i)))), (ad 3, .inl (cy 0, 14, .inl (fun i => nI (gF g i)))), (ad 4, .inl (cy 0, 14, .inl (fun i => nI (gS g i)))), (ad 5, .inl (cy 0, 14, .inl (fun i => nI (gH g i)))), (ad 6, .inl (cy 0, 14, .inl (fun i => zI (gW g i))))] H := hP
  have hD : va_D (inW (wSv cy ad ch g sn wf cs ms wd fd fw fp frm ft)) [(ad 9, .inr (3, [.ref (ad 1), .int sn, .int (nI 1), .int (nI 1), .int ms, .ref (ad 10), .ref (ad 11), .int (nI 0), .ref (ad 12), .ref (ad 13), .ref (ad 14)])), (ad 10, .inl (cy 0, 8, .inl fd)), (ad 11, .inl (cy 0, 8, .inl fw)), (ad 12, .inl (cy 0, 15, .inl (upd fp 14 ((nI (pk (lone (gV g)))))))), (ad 13, .inl (cy 0, 15, .inl (upd frm 14 ((nI (pk (fulR g))))))), (ad 14, .inl (cy 0, 15, .inl (upd ft 14 ((nI 0))))), (ad 1, .inr (0, [.int (nI (gV g)), .int (nI (gC g)), .int (nI (gE g)), .int ch, .ref (ad 2), .ref (ad 3), .ref (ad 4), .ref (ad 5), .ref (ad 6)])), (ad 2, .inl (cy 0, 6, .inl (fun i => nI (gL g i)))), (ad 3, .inl (cy 0, 14, .inl (fun i => nI (gF g i)))), (ad 4, .inl (cy 0, 14, .inl (fun i => nI (gS g i)))), (ad 5, .inl (cy 0, 14, .inl (fun i => nI (gH g i)))), (ad 6, .inl (cy 0, 14, .inl (fun i => zI (gW g i))))] := hD
  refine lv_aload_n hx hb dX4_begin_51 rfl (lv_at hl 0 rfl) ?_
  refine lv_iconst (v := nI 0) hx hb dX4_begin_52 (by decide) ?_
  refine va_put (D := D) (ci := 3) (v := .int (nI 0)) (ty := .int) (C := RX4) (T := TX4) (N := 11) hx hb hts inX4 tyX4 tyX4_ok nmX4 hown hK.1 hP hD hS 0 rfl rfl 4 (by decide) (hts (.fieldLink RX4 35 "ColourForests$Survey" "most" "I") (List.mem_of_getElem? (i := 8) rfl)) (fun _ h9 => h9) rfl (by decide +kernel) rfl rfl (Nat.le_of_ble_eq_true rfl) dX4_begin_53 (fun H locs hP hD hS => ?_)
  have hP : va_P D vwCl [(ad 9, .inr (3, [.ref (ad 1), .int sn, .int (nI 1), .int (nI 1), .int (nI 0), .ref (ad 10), .ref (ad 11), .int (nI 0), .ref (ad 12), .ref (ad 13), .ref (ad 14)])), (ad 10, .inl (cy 0, 8, .inl fd)), (ad 11, .inl (cy 0, 8, .inl fw)), (ad 12, .inl (cy 0, 15, .inl (upd fp 14 ((nI (pk (lone (gV g)))))))), (ad 13, .inl (cy 0, 15, .inl (upd frm 14 ((nI (pk (fulR g))))))), (ad 14, .inl (cy 0, 15, .inl (upd ft 14 ((nI 0))))), (ad 1, .inr (0, [.int (nI (gV g)), .int (nI (gC g)), .int (nI (gE g)), .int ch, .ref (ad 2), .ref (ad 3), .ref (ad 4), .ref (ad 5), .ref (ad 6)])), (ad 2, .inl (cy 0, 6, .inl (fun i => nI (gL g i)))), (ad 3, .inl (cy 0, 14, .inl (fun i => nI (gF g i)))), (ad 4, .inl (cy 0, 14, .inl (fun i => nI (gS g i)))), (ad 5, .inl (cy 0, 14, .inl (fun i => nI (gH g i)))), (ad 6, .inl (cy 0, 14, .inl (fun i => zI (gW g i))))] H := hP
  have hD : va_D (inW (wSv cy ad ch g sn wf cs ms wd fd fw fp frm ft)) [(ad 9, .inr (3, [.ref (ad 1), .int sn, .int (nI 1), .int (nI 1), .int (nI 0), .ref (ad 10), .ref (ad 11), .int (nI 0), .ref (ad 12), .ref (ad 13), .ref (ad 14)])), (ad 10, .inl (cy 0, 8, .inl fd)), (ad 11, .inl (cy 0, 8, .inl fw)), (ad 12, .inl (cy 0, 15, .inl (upd fp 14 ((nI (pk (lone (gV g)))))))), (ad 13, .inl (cy 0, 15, .inl (upd frm 14 ((nI (pk (fulR g))))))), (ad 14, .inl (cy 0, 15, .inl (upd ft 14 ((nI 0))))), (ad 1, .inr (0, [.int (nI (gV g)), .int (nI (gC g)), .int (nI (gE g)), .int ch, .ref (ad 2), .ref (ad 3), .ref (ad 4), .ref (ad 5), .ref (ad 6)])), (ad 2, .inl (cy 0, 6, .inl (fun i => nI (gL g i)))), (ad 3, .inl (cy 0, 14, .inl (fun i => nI (gF g i)))), (ad 4, .inl (cy 0, 14, .inl (fun i => nI (gS g i)))), (ad 5, .inl (cy 0, 14, .inl (fun i => nI (gH g i)))), (ad 6, .inl (cy 0, 14, .inl (fun i => zI (gW g i))))] := hD
  refine lv_aload_n hx hb dX4_begin_56 rfl (lv_at hl 0 rfl) ?_
  refine va_get (D := D) (ci := 3) (v := .ref (ad 10)) (C := RX4) (T := TX4) (N := 11) hx hb hts inX4 hown hK.1 hP 0 rfl rfl 5 (by decide) (hts (.fieldLink RX4 15 "ColourForests$Survey" "dearestSets" "[I") (List.mem_of_getElem? (i := 9) rfl)) (fun _ h9 => h9) rfl dX4_begin_57 ?_
  refine lv_iconst (v := nI 0) hx hb dX4_begin_60 (by decide) ?_
  refine lv_iconst (v := nI 0) hx hb dX4_begin_61 (by decide) ?_
  refine st_i (k := 0) (g := (upd fd 0 ((nI 0)))) hx hb hK hP hD hS 1 rfl (by omega) (by decide) rfl dX4_begin_62 (fun H locs hP hD hS => ?_)
  have hP : va_P D vwCl [(ad 9, .inr (3, [.ref (ad 1), .int sn, .int (nI 1), .int (nI 1), .int (nI 0), .ref (ad 10), .ref (ad 11), .int (nI 0), .ref (ad 12), .ref (ad 13), .ref (ad 14)])), (ad 10, .inl (cy 0, 8, .inl (upd fd 0 ((nI 0))))), (ad 11, .inl (cy 0, 8, .inl fw)), (ad 12, .inl (cy 0, 15, .inl (upd fp 14 ((nI (pk (lone (gV g)))))))), (ad 13, .inl (cy 0, 15, .inl (upd frm 14 ((nI (pk (fulR g))))))), (ad 14, .inl (cy 0, 15, .inl (upd ft 14 ((nI 0))))), (ad 1, .inr (0, [.int (nI (gV g)), .int (nI (gC g)), .int (nI (gE g)), .int ch, .ref (ad 2), .ref (ad 3), .ref (ad 4), .ref (ad 5), .ref (ad 6)])), (ad 2, .inl (cy 0, 6, .inl (fun i => nI (gL g i)))), (ad 3, .inl (cy 0, 14, .inl (fun i => nI (gF g i)))), (ad 4, .inl (cy 0, 14, .inl (fun i => nI (gS g i)))), (ad 5, .inl (cy 0, 14, .inl (fun i => nI (gH g i)))), (ad 6, .inl (cy 0, 14, .inl (fun i => zI (gW g i))))] H := hP
  have hD : va_D (inW (wSv cy ad ch g sn wf cs ms wd fd fw fp frm ft)) [(ad 9, .inr (3, [.ref (ad 1), .int sn, .int (nI 1), .int (nI 1), .int (nI 0), .ref (ad 10), .ref (ad 11), .int (nI 0), .ref (ad 12), .ref (ad 13), .ref (ad 14)])), (ad 10, .inl (cy 0, 8, .inl (upd fd 0 ((nI 0))))), (ad 11, .inl (cy 0, 8, .inl fw)), (ad 12, .inl (cy 0, 15, .inl (upd fp 14 ((nI (pk (lone (gV g)))))))), (ad 13, .inl (cy 0, 15, .inl (upd frm 14 ((nI (pk (fulR g))))))), (ad 14, .inl (cy 0, 15, .inl (upd ft 14 ((nI 0))))), (ad 1, .inr (0, [.int (nI (gV g)), .int (nI (gC g)), .int (nI (gE g)), .int ch, .ref (ad 2), .ref (ad 3), .ref (ad 4), .ref (ad 5), .ref (ad 6)])), (ad 2, .inl (cy 0, 6, .inl (fun i => nI (gL g i)))), (ad 3, .inl (cy 0, 14, .inl (fun i => nI (gF g i)))), (ad 4, .inl (cy 0, 14, .inl (fun i => nI (gS g i)))), (ad 5, .inl (cy 0, 14, .inl (fun i => nI (gH g i)))), (ad 6, .inl (cy 0, 14, .inl (fun i => zI (gW g i))))] := hD
  refine lv_aload_n hx hb dX4_begin_63 rfl (lv_at hl 0 rfl) ?_
  refine va_get (D := D) (ci := 3) (v := .ref (ad 11)) (C := RX4) (T := TX4) (N := 11) hx hb hts inX4 hown hK.1 hP 0 rfl rfl 6 (by decide) (hts (.fieldLink RX4 19 "ColourForests$Survey" "dearestWeights" "[I") (List.mem_of_getElem? (i := 10) rfl)) (fun _ h9 => h9) rfl dX4_begin_64 ?_
  refine lv_iconst (v := nI 0) hx hb dX4_begin_67 (by decide) ?_
  refine lv_iconst (v := nI 0) hx hb dX4_begin_68 (by decide) ?_
  refine st_i (k := 0) (g := (upd fw 0 ((nI 0)))) hx hb hK hP hD hS 2 rfl (by omega) (by decide) rfl dX4_begin_69 (fun H locs hP hD hS => ?_)
  have hP : va_P D vwCl [(ad 9, .inr (3, [.ref (ad 1), .int sn, .int (nI 1), .int (nI 1), .int (nI 0), .ref (ad 10), .ref (ad 11), .int (nI 0), .ref (ad 12), .ref (ad 13), .ref (ad 14)])), (ad 10, .inl (cy 0, 8, .inl (upd fd 0 ((nI 0))))), (ad 11, .inl (cy 0, 8, .inl (upd fw 0 ((nI 0))))), (ad 12, .inl (cy 0, 15, .inl (upd fp 14 ((nI (pk (lone (gV g)))))))), (ad 13, .inl (cy 0, 15, .inl (upd frm 14 ((nI (pk (fulR g))))))), (ad 14, .inl (cy 0, 15, .inl (upd ft 14 ((nI 0))))), (ad 1, .inr (0, [.int (nI (gV g)), .int (nI (gC g)), .int (nI (gE g)), .int ch, .ref (ad 2), .ref (ad 3), .ref (ad 4), .ref (ad 5), .ref (ad 6)])), (ad 2, .inl (cy 0, 6, .inl (fun i => nI (gL g i)))), (ad 3, .inl (cy 0, 14, .inl (fun i => nI (gF g i)))), (ad 4, .inl (cy 0, 14, .inl (fun i => nI (gS g i)))), (ad 5, .inl (cy 0, 14, .inl (fun i => nI (gH g i)))), (ad 6, .inl (cy 0, 14, .inl (fun i => zI (gW g i))))] H := hP
  have hD : va_D (inW (wSv cy ad ch g sn wf cs ms wd fd fw fp frm ft)) [(ad 9, .inr (3, [.ref (ad 1), .int sn, .int (nI 1), .int (nI 1), .int (nI 0), .ref (ad 10), .ref (ad 11), .int (nI 0), .ref (ad 12), .ref (ad 13), .ref (ad 14)])), (ad 10, .inl (cy 0, 8, .inl (upd fd 0 ((nI 0))))), (ad 11, .inl (cy 0, 8, .inl (upd fw 0 ((nI 0))))), (ad 12, .inl (cy 0, 15, .inl (upd fp 14 ((nI (pk (lone (gV g)))))))), (ad 13, .inl (cy 0, 15, .inl (upd frm 14 ((nI (pk (fulR g))))))), (ad 14, .inl (cy 0, 15, .inl (upd ft 14 ((nI 0))))), (ad 1, .inr (0, [.int (nI (gV g)), .int (nI (gC g)), .int (nI (gE g)), .int ch, .ref (ad 2), .ref (ad 3), .ref (ad 4), .ref (ad 5), .ref (ad 6)])), (ad 2, .inl (cy 0, 6, .inl (fun i => nI (gL g i)))), (ad 3, .inl (cy 0, 14, .inl (fun i => nI (gF g i)))), (ad 4, .inl (cy 0, 14, .inl (fun i => nI (gS g i)))), (ad 5, .inl (cy 0, 14, .inl (fun i => nI (gH g i)))), (ad 6, .inl (cy 0, 14, .inl (fun i => zI (gW g i))))] := hD
  exact wv_ret () hx hb hr hlocks hS hP trivial dX4_begin_70

set_option maxHeartbeats 4000000 in
set_option maxRecDepth 100000 in
theorem c_X4_enter (l : Launch) (D : va_G) (cy : Nat → ClassId) (ad : Nat → Nat) (ch : Int32) {g : GT} (hg : gOK g) (sn wf cs ms wd : Int32) (fd fw fp frm ft : Nat → Int32) {T e q9 : Nat} (hT9 : T < 2 ^ gE g) (he : e < gE g) (hq9 : q9 < 15) (hTe : T.testBit e = false) (hrow : rowT g T q9 fp frm ft) : WI l yX4_enter wsX4_enter ({ frames := 2, cells := 0, slots := 0, locals := 49 }) D cy [.ref (ad 9), .int (nI e), .int (nI q9)] (wSv cy ad ch g sn wf cs ms wd fd fw fp frm ft) (fun (r : Int32) (u : (Nat → Int32) × (Nat → Int32) × (Nat → Int32)) => r = bI (fr g (T ||| 2 ^ e)) ∧ (fr g (T ||| 2 ^ e) = true → rowT g (T ||| 2 ^ e) e u.1 u.2.1 u.2.2) ∧ (∀ i, i ≠ e → u.1 i = fp i ∧ u.2.1 i = frm i ∧ u.2.2 i = ft i) ∧ (fr g (T ||| 2 ^ e) = false → u = (fp, frm, ft))) (fun u : (Nat → Int32) × (Nat → Int32) × (Nat → Int32) => wSv cy ad ch g sn wf cs ms wd fd fw u.1 u.2.1 u.2.2) := by
  refine Met.ofW (cc := cX4_enter) (maxL := 5) (ret := (some .boolean)) (by decide) rfl ?_
  intro p ev s m args below meth c s₁ B hml hv
  obtain ⟨rfl, ⟨hK, hP⟩, hD0⟩ := hv
  have hx := B.exec
  have hb := B.bytes
  have hr := B.returns
  have hts := atoms_spec (ws := wsX4_enter) B.pre
  have hown : s.vm.findClass RX4 = some m.cls := findClass_of_methodNamed B.named
  have hlocks := B.notSynchronized
  have hD : va_D (inW (wSv cy ad ch g sn wf cs ms wd fd fw fp frm ft)) (wSv cy ad ch g sn wf cs ms wd fd fw fp frm ft) := inW_self hD0
  have hS : va_S (inW (wSv cy ad ch g sn wf cs ms wd fd fw fp frm ft)) s.heap s.heap [] := va_S.rf
  have hP : va_P D vwCl (wSv cy ad ch g sn wf cs ms wd fd fw fp frm ft) s.heap := hP
  have inX4 : ∀ w ∈ wsX40, w ∈ wsX4_enter := by decide +kernel
  have inX0 : ∀ w ∈ wsX00, w ∈ wsX4_enter := by decide +kernel
  have hl := lv_entry ([.ref (ad 9), .int (nI e), .int (nI q9)]) (n := 5) (Nat.le_of_ble_eq_true rfl)
  rw [lg_entry_eq]
  generalize (lg_sl ([.ref (ad 9), .int (nI e), .int (nI q9)]) ++ List.replicate (5 - (lg_sl ([.ref (ad 9), .int (nI e), .int (nI q9)])).length) Slot.unset).toArray = ls at hl ⊢
  have hl : lv_has ls 5 [(0, .ref (ad 9)), (1, .int (nI e)), (2, .int (nI q9))] := hl
  have hgen := True.intro
  have hE := hg.2.2.1
  have hV := hg.1
  have hC := hg.2.1
  have hS8 : 2 ^ gE g ≤ 2 ^ 14 := Nat.pow_le_pow_right (by decide) hE
  obtain ⟨he1, he2, he3, he4, he5⟩ := hg.2.2.2.2 e he
  obtain ⟨⟨f, hfp, hf8, hfm⟩, hrm, hwt, hfr0⟩ := hrow
  have hfs := fr_step hg hT9 he hTe hfr0 hfm
  have hf1 := hf8 (gF g e) (by omega)
  have hf2 := hf8 (gS g e) (by omega)
  refine lv_aload_n hx hb dX4_enter_0 rfl (lv_at hl 0 rfl) ?_
  refine va_get (D := D) (ci := 3) (v := .ref (ad 1)) (C := RX4) (T := TX4) (N := 11) hx hb hts inX4 hown hK.1 hP 0 rfl rfl 0 (by decide) (hts (.fieldLink RX4 31 "ColourForests$Survey" "graph" "LColourForests$Graph;") (List.mem_of_getElem? (i := 1) rfl)) (fun _ h9 => h9) rfl dX4_enter_1 ?_
  refine lv_aload_n hx hb dX4_enter_4 rfl (lv_at hl 0 rfl) ?_
  refine va_get (D := D) (ci := 3) (v := .ref (ad 12)) (C := RX4) (T := TX4) (N := 11) hx hb hts inX4 hown hK.1 hP 0 rfl rfl 8 (by decide) (hts (.fieldLink RX4 22 "ColourForests$Survey" "partsFrom" "[I") (List.mem_of_getElem? (i := 2) rfl)) (fun _ h9 => h9) rfl dX4_enter_5 ?_
  refine lv_iload_n hx hb dX4_enter_8 rfl (lv_at hl 2 rfl) ?_
  refine rd_i (k := q9) (v := (nI (pk f))) hx hb hK hP 3 rfl (by omega) (by decide) hfp dX4_enter_9 ?_
  refine lv_iload_n hx hb dX4_enter_10 rfl (lv_at hl 1 rfl) ?_
  refine pu_call (va_runV (As := [.int (nI (pk f)), .int (nI e)]) (rest := []) ⟨hx, hb, hml, hown, hts⟩ (c_X0_joinsTwoParts l D cy ad ch hg (f := f) hf8 (e := e) (by omega)) (cwV 2 hts gX4_enter_X0_joinsTwoParts rfl rfl rfl (by decide +kernel) ⟨Nat.le_of_ble_eq_true rfl, Nat.le_of_ble_eq_true rfl⟩) (PU_preV (ci := 0) (q0 := 6) hK hP 0 rfl rfl [6, 7, 8, 9, 10, 11] rfl) rfl rfl hl.1 rfl (lv_room (Nat.le_of_ble_eq_true rfl)) dX4_enter_11 ⟨(Nat.zero_le _), (Nat.zero_le _)⟩) hS hP (fun H locs hP hS => ?_)
  refine b_ne (b := (decide (f (gF g e) ≠ f (gS g e)))) (tgt := 19) hx hb dX4_enter_14 (by decide) (fun c14 => ?_) (fun c14 => ?_)
  · have c14 := of_decide_eq_true c14
    refine lv_aload_n hx hb dX4_enter_19 rfl (lv_at hl 0 rfl) ?_
    refine va_get (D := D) (ci := 3) (v := .ref (ad 12)) (C := RX4) (T := TX4) (N := 11) hx hb hts inX4 hown hK.1 hP 0 rfl rfl 8 (by decide) (hts (.fieldLink RX4 22 "ColourForests$Survey" "partsFrom" "[I") (List.mem_of_getElem? (i := 2) rfl)) (fun _ h9 => h9) rfl dX4_enter_20 ?_
    refine lv_iload_n hx hb dX4_enter_23 rfl (lv_at hl 1 rfl) ?_
    refine lv_aload_n hx hb dX4_enter_24 rfl (lv_at hl 0 rfl) ?_
    refine va_get (D := D) (ci := 3) (v := .ref (ad 1)) (C := RX4) (T := TX4) (N := 11) hx hb hts inX4 hown hK.1 hP 0 rfl rfl 0 (by decide) (hts (.fieldLink RX4 31 "ColourForests$Survey" "graph" "LColourForests$Graph;") (List.mem_of_getElem? (i := 1) rfl)) (fun _ h9 => h9) rfl dX4_enter_25 ?_
    refine lv_aload_n hx hb dX4_enter_28 rfl (lv_at hl 0 rfl) ?_
    refine va_get (D := D) (ci := 3) (v := .ref (ad 12)) (C := RX4) (T := TX4) (N := 11) hx hb hts inX4 hown hK.1 hP 0 rfl rfl 8 (by decide) (hts (.fieldLink RX4 22 "ColourForests$Survey" "partsFrom" "[I") (List.mem_of_getElem? (i := 2) rfl)) (fun _ h9 => h9) rfl dX4_enter_29 ?_
    refine lv_iload_n hx hb dX4_enter_32 rfl (lv_at hl 2 rfl) ?_
    refine rd_i (k := q9) (v := (nI (pk f))) hx hb hK hP 3 rfl (by omega) (by decide) hfp dX4_enter_33 ?_
    refine lv_iload_n hx hb dX4_enter_34 rfl (lv_at hl 1 rfl) ?_
    refine pu_call (va_runV (As := [.int (nI (pk f)), .int (nI e)]) (rest := [.int (nI e), .ref (ad 12)]) ⟨hx, hb, hml, hown, hts⟩ (c_X0_partsJoinedBy l D cy ad ch hg (f := f) hf8 (e := e) (by omega)) (cwV 2 hts gX4_enter_X0_partsJoinedBy rfl rfl rfl (by decide +kernel) ⟨Nat.le_of_ble_eq_true rfl, Nat.le_of_ble_eq_true rfl⟩) (PU_preV (ci := 0) (q0 := 6) hK hP 0 rfl rfl [6, 7, 8, 9, 10, 11] rfl) rfl rfl hl.1 rfl (lv_room (Nat.le_of_ble_eq_true rfl)) dX4_enter_35 ⟨(Nat.zero_le _), (Nat.zero_le _)⟩) hS hP (fun H locs hP hS => ?_)
    refine st_i (k := e) (g := (upd fp e ((nI (pk (jn (gV g) f (f (gF g e)) (f (gS g e)))))))) hx hb hK hP hD hS 3 rfl (by omega) (by decide) rfl dX4_enter_38 (fun H locs hP hD hS => ?_)
    have hP : va_P D vwCl [(ad 9, .inr (3, [.ref (ad 1), .int sn, .int wf, .int cs, .int ms, .ref (ad 10), .ref (ad 11), .int wd, .ref (ad 12), .ref (ad 13), .ref (ad 14)])), (ad 10, .inl (cy 0, 8, .inl fd)), (ad 11, .inl (cy 0, 8, .inl fw)), (ad 12, .inl (cy 0, 15, .inl (upd fp e ((nI (pk (jn (gV g) f (f (gF g e)) (f (gS g e))))))))), (ad 13, .inl (cy 0, 15, .inl frm)), (ad 14, .inl (cy 0, 15, .inl ft)), (ad 1, .inr (0, [.int (nI (gV g)), .int (nI (gC g)), .int (nI (gE g)), .int ch, .ref (ad 2), .ref (ad 3), .ref (ad 4), .ref (ad 5), .ref (ad 6)])), (ad 2, .inl (cy 0, 6, .inl (fun i => nI (gL g i)))), (ad 3, .inl (cy 0, 14, .inl (fun i => nI (gF g i)))), (ad 4, .inl (cy 0, 14, .inl (fun i => nI (gS g i)))), (ad 5, .inl (cy 0, 14, .inl (fun i => nI (gH g i)))), (ad 6, .inl (cy 0, 14, .inl (fun i => zI (gW g i))))] H := hP
    have hD : va_D (inW (wSv cy ad ch g sn wf cs ms wd fd fw fp frm ft)) [(ad 9, .inr (3, [.ref (ad 1), .int sn, .int wf, .int cs, .int ms, .ref (ad 10), .ref (ad 11), .int wd, .ref (ad 12), .ref (ad 13), .ref (ad 14)])), (ad 10, .inl (cy 0, 8, .inl fd)), (ad 11, .inl (cy 0, 8, .inl fw)), (ad 12, .inl (cy 0, 15, .inl (upd fp e ((nI (pk (jn (gV g) f (f (gF g e)) (f (gS g e))))))))), (ad 13, .inl (cy 0, 15, .inl frm)), (ad 14, .inl (cy 0, 15, .inl ft)), (ad 1, .inr (0, [.int (nI (gV g)), .int (nI (gC g)), .int (nI (gE g)), .int ch, .ref (ad 2), .ref (ad 3), .ref (ad 4), .ref (ad 5), .ref (ad 6)])), (ad 2, .inl (cy 0, 6, .inl (fun i => nI (gL g i)))), (ad 3, .inl (cy 0, 14, .inl (fun i => nI (gF g i)))), (ad 4, .inl (cy 0, 14, .inl (fun i => nI (gS g i)))), (ad 5, .inl (cy 0, 14, .inl (fun i => nI (gH g i)))), (ad 6, .inl (cy 0, 14, .inl (fun i => zI (gW g i))))] := hD
    refine lv_aload_n hx hb dX4_enter_39 rfl (lv_at hl 0 rfl) ?_
    refine va_get (D := D) (ci := 3) (v := .ref (ad 13)) (C := RX4) (T := TX4) (N := 11) hx hb hts inX4 hown hK.1 hP 0 rfl rfl 9 (by decide) (hts (.fieldLink RX4 25 "ColourForests$Survey" "roomFrom" "[I") (List.mem_of_getElem? (i := 3) rfl)) (fun _ h9 => h9) rfl dX4_enter_40 ?_
    refine lv_iload_n hx hb dX4_enter_43 rfl (lv_at hl 2 rfl) ?_
    refine rd_i (k := q9) (v := (rmv g T)) hx hb hK hP 4 rfl (by omega) (by decide) hrm dX4_enter_44 ?_
    refine lv_istore_n (lv' := [(3, .int (rmv g T)), (0, .ref (ad 9)), (1, .int (nI e)), (2, .int (nI q9))]) hx hb dX4_enter_45 rfl hl (by decide) rfl (fun ls hl => ?_)
    refine lv_iload_n hx hb dX4_enter_46 rfl (lv_at hl 0 rfl) ?_
    refine lv_iconst (v := zI (-1)) hx hb dX4_enter_47 (by decide) ?_
    refine lv_icmp_eq (tgt := 67) hx hb dX4_enter_48 (by decide) (fun c48 => ?_) (fun c48 => ?_)
    · refine lv_iconst (v := nI 0) hx hb dX4_enter_67 (by decide) ?_
      refine lv_istore (lv' := [(4, .int (nI 0)), (3, .int (rmv g T)), (0, .ref (ad 9)), (1, .int (nI e)), (2, .int (nI q9))]) hx hb dX4_enter_68 hl (by decide) rfl (fun ls hl => ?_)
      refine lv_aload_n hx hb dX4_enter_70 rfl (lv_at hl 2 rfl) ?_
      refine va_get (D := D) (ci := 3) (v := .ref (ad 13)) (C := RX4) (T := TX4) (N := 11) hx hb hts inX4 hown hK.1 hP 0 rfl rfl 9 (by decide) (hts (.fieldLink RX4 25 "ColourForests$Survey" "roomFrom" "[I") (List.mem_of_getElem? (i := 3) rfl)) (fun _ h9 => h9) rfl dX4_enter_71 ?_
      refine lv_iload_n hx hb dX4_enter_74 rfl (lv_at hl 3 rfl) ?_
      refine lv_iload hx hb dX4_enter_75 (lv_at hl 0 rfl) ?_
      refine lv_if_eq (tgt := 92) hx hb dX4_enter_77 (by decide) (fun c77 => ?_) (fun c77 => ?_)
      · refine lv_iconst (v := zI (-1)) hx hb dX4_enter_92 (by decide) ?_
        refine st_i (k := e) (g := (upd frm e (rmv g (T ||| 2 ^ e)))) hx hb hK hP hD hS 4 rfl (by omega) (by decide) (by first | rw [rmv_n (li_f hg hT9 he hTe (rmv_f hg c48))] | rw [rmv_n ((li_step hg hT9 he hTe hli).elim (fun z => absurd z.1 c60) (fun z => z.2))] | rw [rmv_y ((li_step hg hT9 he hTe hli).elim (fun z => z.2.1) (fun z => absurd c60 z.1)), (li_step hg hT9 he hTe hli).elim (fun z => z.2.2) (fun z => absurd c60 z.1)]) dX4_enter_93 (fun H locs hP hD hS => ?_)
        have hP : va_P D vwCl [(ad 9, .inr (3, [.ref (ad 1), .int sn, .int wf, .int cs, .int ms, .ref (ad 10), .ref (ad 11), .int wd, .ref (ad 12), .ref (ad 13), .ref (ad 14)])), (ad 10, .inl (cy 0, 8, .inl fd)), (ad 11, .inl (cy 0, 8, .inl fw)), (ad 12, .inl (cy 0, 15, .inl (upd fp e ((nI (pk (jn (gV g) f (f (gF g e)) (f (gS g e))))))))), (ad 13, .inl (cy 0, 15, .inl (upd frm e (rmv g (T ||| 2 ^ e))))), (ad 14, .inl (cy 0, 15, .inl ft)), (ad 1, .inr (0, [.int (nI (gV g)), .int (nI (gC g)), .int (nI (gE g)), .int ch, .ref (ad 2), .ref (ad 3), .ref (ad 4), .ref (ad 5), .ref (ad 6)])), (ad 2, .inl (cy 0, 6, .inl (fun i => nI (gL g i)))), (ad 3, .inl (cy 0, 14, .inl (fun i => nI (gF g i)))), (ad 4, .inl (cy 0, 14, .inl (fun i => nI (gS g i)))), (ad 5, .inl (cy 0, 14, .inl (fun i => nI (gH g i)))), (ad 6, .inl (cy 0, 14, .inl (fun i => zI (gW g i))))] H := hP
        have hD : va_D (inW (wSv cy ad ch g sn wf cs ms wd fd fw fp frm ft)) [(ad 9, .inr (3, [.ref (ad 1), .int sn, .int wf, .int cs, .int ms, .ref (ad 10), .ref (ad 11), .int wd, .ref (ad 12), .ref (ad 13), .ref (ad 14)])), (ad 10, .inl (cy 0, 8, .inl fd)), (ad 11, .inl (cy 0, 8, .inl fw)), (ad 12, .inl (cy 0, 15, .inl (upd fp e ((nI (pk (jn (gV g) f (f (gF g e)) (f (gS g e))))))))), (ad 13, .inl (cy 0, 15, .inl (upd frm e (rmv g (T ||| 2 ^ e))))), (ad 14, .inl (cy 0, 15, .inl ft)), (ad 1, .inr (0, [.int (nI (gV g)), .int (nI (gC g)), .int (nI (gE g)), .int ch, .ref (ad 2), .ref (ad 3), .ref (ad 4), .ref (ad 5), .ref (ad 6)])), (ad 2, .inl (cy 0, 6, .inl (fun i => nI (gL g i)))), (ad 3, .inl (cy 0, 14, .inl (fun i => nI (gF g i)))), (ad 4, .inl (cy 0, 14, .inl (fun i => nI (gS g i)))), (ad 5, .inl (cy 0, 14, .inl (fun i => nI (gH g i)))), (ad 6, .inl (cy 0, 14, .inl (fun i => zI (gW g i))))] := hD
        refine lv_aload_n hx hb dX4_enter_94 rfl (lv_at hl 2 rfl) ?_
        refine va_get (D := D) (ci := 3) (v := .ref (ad 14)) (C := RX4) (T := TX4) (N := 11) hx hb hts inX4 hown hK.1 hP 0 rfl rfl 10 (by decide) (hts (.fieldLink RX4 28 "ColourForests$Survey" "weightFrom" "[I") (List.mem_of_getElem? (i := 4) rfl)) (fun _ h9 => h9) rfl dX4_enter_95 ?_
        refine lv_iload_n hx hb dX4_enter_98 rfl (lv_at hl 3 rfl) ?_
        refine lv_aload_n hx hb dX4_enter_99 rfl (lv_at hl 2 rfl) ?_
        refine va_get (D := D) (ci := 3) (v := .ref (ad 14)) (C := RX4) (T := TX4) (N := 11) hx hb hts inX4 hown hK.1 hP 0 rfl rfl 10 (by decide) (hts (.fieldLink RX4 28 "ColourForests$Survey" "weightFrom" "[I") (List.mem_of_getElem? (i := 4) rfl)) (fun _ h9 => h9) rfl dX4_enter_100 ?_
        refine lv_iload_n hx hb dX4_enter_103 rfl (lv_at hl 4 rfl) ?_
        refine rd_i (k := q9) (v := (zI (wS g T))) hx hb hK hP 5 rfl (by omega) (by decide) hwt dX4_enter_104 ?_
        refine lv_aload_n hx hb dX4_enter_105 rfl (lv_at hl 2 rfl) ?_
        refine va_get (D := D) (ci := 3) (v := .ref (ad 1)) (C := RX4) (T := TX4) (N := 11) hx hb hts inX4 hown hK.1 hP 0 rfl rfl 0 (by decide) (hts (.fieldLink RX4 31 "ColourForests$Survey" "graph" "LColourForests$Graph;") (List.mem_of_getElem? (i := 1) rfl)) (fun _ h9 => h9) rfl dX4_enter_106 ?_
        refine va_get (D := D) (ci := 0) (v := .ref (ad 6)) (C := RX0) (T := TX0) (N := 9) hx hb hts inX0 hown hK.1 hP 6 rfl rfl 8 (by decide) (hts (.fieldLink RX4 102 "ColourForests$Graph" "weights" "[I") (List.mem_of_getElem? (i := 5) rfl)) (fun _ h9 => h9) rfl dX4_enter_109 ?_
        refine lv_iload_n hx hb dX4_enter_112 rfl (lv_at hl 3 rfl) ?_
        refine rd_i (k := e) (v := (zI (gW g e))) hx hb hK hP 11 rfl (by omega) (by decide) rfl dX4_enter_113 ?_
        refine lv_iadd hx hb dX4_enter_114 ?_
        refine lv_as (y := (zI ((wS g T) + (gW g e)))) (zI_add _ _) ?_
        refine st_i (k := e) (g := (upd ft e (zI (wS g (T ||| 2 ^ e))))) hx hb hK hP hD hS 5 rfl (by omega) (by decide) (by rw [show wS g (T ||| 2 ^ e) = wS g T + gW g e from wZ_ins he hTe]) dX4_enter_115 (fun H locs hP hD hS => ?_)
        have hP : va_P D vwCl [(ad 9, .inr (3, [.ref (ad 1), .int sn, .int wf, .int cs, .int ms, .ref (ad 10), .ref (ad 11), .int wd, .ref (ad 12), .ref (ad 13), .ref (ad 14)])), (ad 10, .inl (cy 0, 8, .inl fd)), (ad 11, .inl (cy 0, 8, .inl fw)), (ad 12, .inl (cy 0, 15, .inl (upd fp e ((nI (pk (jn (gV g) f (f (gF g e)) (f (gS g e))))))))), (ad 13, .inl (cy 0, 15, .inl (upd frm e (rmv g (T ||| 2 ^ e))))), (ad 14, .inl (cy 0, 15, .inl (upd ft e (zI (wS g (T ||| 2 ^ e)))))), (ad 1, .inr (0, [.int (nI (gV g)), .int (nI (gC g)), .int (nI (gE g)), .int ch, .ref (ad 2), .ref (ad 3), .ref (ad 4), .ref (ad 5), .ref (ad 6)])), (ad 2, .inl (cy 0, 6, .inl (fun i => nI (gL g i)))), (ad 3, .inl (cy 0, 14, .inl (fun i => nI (gF g i)))), (ad 4, .inl (cy 0, 14, .inl (fun i => nI (gS g i)))), (ad 5, .inl (cy 0, 14, .inl (fun i => nI (gH g i)))), (ad 6, .inl (cy 0, 14, .inl (fun i => zI (gW g i))))] H := hP
        have hD : va_D (inW (wSv cy ad ch g sn wf cs ms wd fd fw fp frm ft)) [(ad 9, .inr (3, [.ref (ad 1), .int sn, .int wf, .int cs, .int ms, .ref (ad 10), .ref (ad 11), .int wd, .ref (ad 12), .ref (ad 13), .ref (ad 14)])), (ad 10, .inl (cy 0, 8, .inl fd)), (ad 11, .inl (cy 0, 8, .inl fw)), (ad 12, .inl (cy 0, 15, .inl (upd fp e ((nI (pk (jn (gV g) f (f (gF g e)) (f (gS g e))))))))), (ad 13, .inl (cy 0, 15, .inl (upd frm e (rmv g (T ||| 2 ^ e))))), (ad 14, .inl (cy 0, 15, .inl (upd ft e (zI (wS g (T ||| 2 ^ e)))))), (ad 1, .inr (0, [.int (nI (gV g)), .int (nI (gC g)), .int (nI (gE g)), .int ch, .ref (ad 2), .ref (ad 3), .ref (ad 4), .ref (ad 5), .ref (ad 6)])), (ad 2, .inl (cy 0, 6, .inl (fun i => nI (gL g i)))), (ad 3, .inl (cy 0, 14, .inl (fun i => nI (gF g i)))), (ad 4, .inl (cy 0, 14, .inl (fun i => nI (gS g i)))), (ad 5, .inl (cy 0, 14, .inl (fun i => nI (gH g i)))), (ad 6, .inl (cy 0, 14, .inl (fun i => zI (gW g i))))] := hD
        refine lv_iconst (v := nI 1) hx hb dX4_enter_116 (by decide) ?_
        exact wz_ret ((upd fp e ((nI (pk (jn (gV g) f (f (gF g e)) (f (gS g e))))))), (upd frm e (rmv g (T ||| 2 ^ e))), (upd ft e (zI (wS g (T ||| 2 ^ e))))) hx hb hr hlocks hS hP (b := fr g (T ||| 2 ^ e)) (by rw [hfs, decide_eq_true c14]; rfl) (en_yes hg he hfm hf8 hf1 (by rw [hfs, decide_eq_true c14])) dX4_enter_117
      · exact absurd (by decide) c77
    · obtain ⟨hli, hrv⟩ := rmv_t hg c48
      have hl : lv_has ls 5 [(3, .int (nI (pk (rmF g T)))), (0, .ref (ad 9)), (1, .int (nI e)), (2, .int (nI q9))] := by rw [← hrv]; exact hl
      refine lv_aload_n hx hb dX4_enter_51 rfl (lv_at hl 1 rfl) ?_
      refine va_get (D := D) (ci := 3) (v := .ref (ad 1)) (C := RX4) (T := TX4) (N := 11) hx hb hts inX4 hown hK.1 hP 0 rfl rfl 0 (by decide) (hts (.fieldLink RX4 31 "ColourForests$Survey" "graph" "LColourForests$Graph;") (List.mem_of_getElem? (i := 1) rfl)) (fun _ h9 => h9) rfl dX4_enter_52 ?_
      refine lv_iload_n hx hb dX4_enter_55 rfl (lv_at hl 0 rfl) ?_
      refine lv_iload_n hx hb dX4_enter_56 rfl (lv_at hl 2 rfl) ?_
      refine pu_call (va_runV (As := [.int (nI (pk (rmF g T))), .int (nI e)]) (rest := []) ⟨hx, hb, hml, hown, hts⟩ (c_X0_hasRoom l D cy ad ch hg (f := rmF g T) (rmF_lt hg T) (e := e) (by omega)) (cwV 2 hts gX4_enter_X0_hasRoom rfl rfl rfl (by decide +kernel) ⟨Nat.le_of_ble_eq_true rfl, Nat.le_of_ble_eq_true rfl⟩) (PU_preV (ci := 0) (q0 := 6) hK hP 0 rfl rfl [6, 7, 8, 9, 10, 11] rfl) rfl rfl hl.1 rfl (lv_room (Nat.le_of_ble_eq_true rfl)) dX4_enter_57 ⟨(Nat.zero_le _), (Nat.zero_le _)⟩) hS hP (fun H locs hP hS => ?_)
      refine b_eq (b := (decide (0 < rmF g T (gH g e)))) (tgt := 67) hx hb dX4_enter_60 (by decide) (fun c60 => ?_) (fun c60 => ?_)
      · have c60 := of_decide_eq_false c60
        refine lv_iconst (v := nI 0) hx hb dX4_enter_67 (by decide) ?_
        refine lv_istore (lv' := [(4, .int (nI 0)), (3, .int (nI (pk (rmF g T)))), (0, .ref (ad 9)), (1, .int (nI e)), (2, .int (nI q9))]) hx hb dX4_enter_68 hl (by decide) rfl (fun ls hl => ?_)
        refine lv_aload_n hx hb dX4_enter_70 rfl (lv_at hl 2 rfl) ?_
        refine va_get (D := D) (ci := 3) (v := .ref (ad 13)) (C := RX4) (T := TX4) (N := 11) hx hb hts inX4 hown hK.1 hP 0 rfl rfl 9 (by decide) (hts (.fieldLink RX4 25 "ColourForests$Survey" "roomFrom" "[I") (List.mem_of_getElem? (i := 3) rfl)) (fun _ h9 => h9) rfl dX4_enter_71 ?_
        refine lv_iload_n hx hb dX4_enter_74 rfl (lv_at hl 3 rfl) ?_
        refine lv_iload hx hb dX4_enter_75 (lv_at hl 0 rfl) ?_
        refine lv_if_eq (tgt := 92) hx hb dX4_enter_77 (by decide) (fun c77 => ?_) (fun c77 => ?_)
        · refine lv_iconst (v := zI (-1)) hx hb dX4_enter_92 (by decide) ?_
          refine st_i (k := e) (g := (upd frm e (rmv g (T ||| 2 ^ e)))) hx hb hK hP hD hS 4 rfl (by omega) (by decide) (by first | rw [rmv_n (li_f hg hT9 he hTe (rmv_f hg c48))] | rw [rmv_n ((li_step hg hT9 he hTe hli).elim (fun z => absurd z.1 c60) (fun z => z.2))] | rw [rmv_y ((li_step hg hT9 he hTe hli).elim (fun z => z.2.1) (fun z => absurd c60 z.1)), (li_step hg hT9 he hTe hli).elim (fun z => z.2.2) (fun z => absurd c60 z.1)]) dX4_enter_93 (fun H locs hP hD hS => ?_)
          have hP : va_P D vwCl [(ad 9, .inr (3, [.ref (ad 1), .int sn, .int wf, .int cs, .int ms, .ref (ad 10), .ref (ad 11), .int wd, .ref (ad 12), .ref (ad 13), .ref (ad 14)])), (ad 10, .inl (cy 0, 8, .inl fd)), (ad 11, .inl (cy 0, 8, .inl fw)), (ad 12, .inl (cy 0, 15, .inl (upd fp e ((nI (pk (jn (gV g) f (f (gF g e)) (f (gS g e))))))))), (ad 13, .inl (cy 0, 15, .inl (upd frm e (rmv g (T ||| 2 ^ e))))), (ad 14, .inl (cy 0, 15, .inl ft)), (ad 1, .inr (0, [.int (nI (gV g)), .int (nI (gC g)), .int (nI (gE g)), .int ch, .ref (ad 2), .ref (ad 3), .ref (ad 4), .ref (ad 5), .ref (ad 6)])), (ad 2, .inl (cy 0, 6, .inl (fun i => nI (gL g i)))), (ad 3, .inl (cy 0, 14, .inl (fun i => nI (gF g i)))), (ad 4, .inl (cy 0, 14, .inl (fun i => nI (gS g i)))), (ad 5, .inl (cy 0, 14, .inl (fun i => nI (gH g i)))), (ad 6, .inl (cy 0, 14, .inl (fun i => zI (gW g i))))] H := hP
          have hD : va_D (inW (wSv cy ad ch g sn wf cs ms wd fd fw fp frm ft)) [(ad 9, .inr (3, [.ref (ad 1), .int sn, .int wf, .int cs, .int ms, .ref (ad 10), .ref (ad 11), .int wd, .ref (ad 12), .ref (ad 13), .ref (ad 14)])), (ad 10, .inl (cy 0, 8, .inl fd)), (ad 11, .inl (cy 0, 8, .inl fw)), (ad 12, .inl (cy 0, 15, .inl (upd fp e ((nI (pk (jn (gV g) f (f (gF g e)) (f (gS g e))))))))), (ad 13, .inl (cy 0, 15, .inl (upd frm e (rmv g (T ||| 2 ^ e))))), (ad 14, .inl (cy 0, 15, .inl ft)), (ad 1, .inr (0, [.int (nI (gV g)), .int (nI (gC g)), .int (nI (gE g)), .int ch, .ref (ad 2), .ref (ad 3), .ref (ad 4), .ref (ad 5), .ref (ad 6)])), (ad 2, .inl (cy 0, 6, .inl (fun i => nI (gL g i)))), (ad 3, .inl (cy 0, 14, .inl (fun i => nI (gF g i)))), (ad 4, .inl (cy 0, 14, .inl (fun i => nI (gS g i)))), (ad 5, .inl (cy 0, 14, .inl (fun i => nI (gH g i)))), (ad 6, .inl (cy 0, 14, .inl (fun i => zI (gW g i))))] := hD
          refine lv_aload_n hx hb dX4_enter_94 rfl (lv_at hl 2 rfl) ?_
          refine va_get (D := D) (ci := 3) (v := .ref (ad 14)) (C := RX4) (T := TX4) (N := 11) hx hb hts inX4 hown hK.1 hP 0 rfl rfl 10 (by decide) (hts (.fieldLink RX4 28 "ColourForests$Survey" "weightFrom" "[I") (List.mem_of_getElem? (i := 4) rfl)) (fun _ h9 => h9) rfl dX4_enter_95 ?_
          refine lv_iload_n hx hb dX4_enter_98 rfl (lv_at hl 3 rfl) ?_
          refine lv_aload_n hx hb dX4_enter_99 rfl (lv_at hl 2 rfl) ?_
          refine va_get (D := D) (ci := 3) (v := .ref (ad 14)) (C := RX4) (T := TX4) (N := 11) hx hb hts inX4 hown hK.1 hP 0 rfl rfl 10 (by decide) (hts (.fieldLink RX4 28 "ColourForests$Survey" "weightFrom" "[I") (List.mem_of_getElem? (i := 4) rfl)) (fun _ h9 => h9) rfl dX4_enter_100 ?_
          refine lv_iload_n hx hb dX4_enter_103 rfl (lv_at hl 4 rfl) ?_
          refine rd_i (k := q9) (v := (zI (wS g T))) hx hb hK hP 5 rfl (by omega) (by decide) hwt dX4_enter_104 ?_
          refine lv_aload_n hx hb dX4_enter_105 rfl (lv_at hl 2 rfl) ?_
          refine va_get (D := D) (ci := 3) (v := .ref (ad 1)) (C := RX4) (T := TX4) (N := 11) hx hb hts inX4 hown hK.1 hP 0 rfl rfl 0 (by decide) (hts (.fieldLink RX4 31 "ColourForests$Survey" "graph" "LColourForests$Graph;") (List.mem_of_getElem? (i := 1) rfl)) (fun _ h9 => h9) rfl dX4_enter_106 ?_
          refine va_get (D := D) (ci := 0) (v := .ref (ad 6)) (C := RX0) (T := TX0) (N := 9) hx hb hts inX0 hown hK.1 hP 6 rfl rfl 8 (by decide) (hts (.fieldLink RX4 102 "ColourForests$Graph" "weights" "[I") (List.mem_of_getElem? (i := 5) rfl)) (fun _ h9 => h9) rfl dX4_enter_109 ?_
          refine lv_iload_n hx hb dX4_enter_112 rfl (lv_at hl 3 rfl) ?_
          refine rd_i (k := e) (v := (zI (gW g e))) hx hb hK hP 11 rfl (by omega) (by decide) rfl dX4_enter_113 ?_
          refine lv_iadd hx hb dX4_enter_114 ?_
          refine lv_as (y := (zI ((wS g T) + (gW g e)))) (zI_add _ _) ?_
          refine st_i (k := e) (g := (upd ft e (zI (wS g (T ||| 2 ^ e))))) hx hb hK hP hD hS 5 rfl (by omega) (by decide) (by rw [show wS g (T ||| 2 ^ e) = wS g T + gW g e from wZ_ins he hTe]) dX4_enter_115 (fun H locs hP hD hS => ?_)
          have hP : va_P D vwCl [(ad 9, .inr (3, [.ref (ad 1), .int sn, .int wf, .int cs, .int ms, .ref (ad 10), .ref (ad 11), .int wd, .ref (ad 12), .ref (ad 13), .ref (ad 14)])), (ad 10, .inl (cy 0, 8, .inl fd)), (ad 11, .inl (cy 0, 8, .inl fw)), (ad 12, .inl (cy 0, 15, .inl (upd fp e ((nI (pk (jn (gV g) f (f (gF g e)) (f (gS g e))))))))), (ad 13, .inl (cy 0, 15, .inl (upd frm e (rmv g (T ||| 2 ^ e))))), (ad 14, .inl (cy 0, 15, .inl (upd ft e (zI (wS g (T ||| 2 ^ e)))))), (ad 1, .inr (0, [.int (nI (gV g)), .int (nI (gC g)), .int (nI (gE g)), .int ch, .ref (ad 2), .ref (ad 3), .ref (ad 4), .ref (ad 5), .ref (ad 6)])), (ad 2, .inl (cy 0, 6, .inl (fun i => nI (gL g i)))), (ad 3, .inl (cy 0, 14, .inl (fun i => nI (gF g i)))), (ad 4, .inl (cy 0, 14, .inl (fun i => nI (gS g i)))), (ad 5, .inl (cy 0, 14, .inl (fun i => nI (gH g i)))), (ad 6, .inl (cy 0, 14, .inl (fun i => zI (gW g i))))] H := hP
          have hD : va_D (inW (wSv cy ad ch g sn wf cs ms wd fd fw fp frm ft)) [(ad 9, .inr (3, [.ref (ad 1), .int sn, .int wf, .int cs, .int ms, .ref (ad 10), .ref (ad 11), .int wd, .ref (ad 12), .ref (ad 13), .ref (ad 14)])), (ad 10, .inl (cy 0, 8, .inl fd)), (ad 11, .inl (cy 0, 8, .inl fw)), (ad 12, .inl (cy 0, 15, .inl (upd fp e ((nI (pk (jn (gV g) f (f (gF g e)) (f (gS g e))))))))), (ad 13, .inl (cy 0, 15, .inl (upd frm e (rmv g (T ||| 2 ^ e))))), (ad 14, .inl (cy 0, 15, .inl (upd ft e (zI (wS g (T ||| 2 ^ e)))))), (ad 1, .inr (0, [.int (nI (gV g)), .int (nI (gC g)), .int (nI (gE g)), .int ch, .ref (ad 2), .ref (ad 3), .ref (ad 4), .ref (ad 5), .ref (ad 6)])), (ad 2, .inl (cy 0, 6, .inl (fun i => nI (gL g i)))), (ad 3, .inl (cy 0, 14, .inl (fun i => nI (gF g i)))), (ad 4, .inl (cy 0, 14, .inl (fun i => nI (gS g i)))), (ad 5, .inl (cy 0, 14, .inl (fun i => nI (gH g i)))), (ad 6, .inl (cy 0, 14, .inl (fun i => zI (gW g i))))] := hD
          refine lv_iconst (v := nI 1) hx hb dX4_enter_116 (by decide) ?_
          exact wz_ret ((upd fp e ((nI (pk (jn (gV g) f (f (gF g e)) (f (gS g e))))))), (upd frm e (rmv g (T ||| 2 ^ e))), (upd ft e (zI (wS g (T ||| 2 ^ e))))) hx hb hr hlocks hS hP (b := fr g (T ||| 2 ^ e)) (by rw [hfs, decide_eq_true c14]; rfl) (en_yes hg he hfm hf8 hf1 (by rw [hfs, decide_eq_true c14])) dX4_enter_117
        · exact absurd (by decide) c77
      · have c60 := of_decide_eq_true c60
        refine lv_iconst (v := nI 1) hx hb dX4_enter_63 (by decide) ?_
        refine lv_goto (tgt := 68) hx hb dX4_enter_64 (by decide) ?_
        refine lv_istore (lv' := [(4, .int (nI 1)), (3, .int (nI (pk (rmF g T)))), (0, .ref (ad 9)), (1, .int (nI e)), (2, .int (nI q9))]) hx hb dX4_enter_68 hl (by decide) rfl (fun ls hl => ?_)
        refine lv_aload_n hx hb dX4_enter_70 rfl (lv_at hl 2 rfl) ?_
        refine va_get (D := D) (ci := 3) (v := .ref (ad 13)) (C := RX4) (T := TX4) (N := 11) hx hb hts inX4 hown hK.1 hP 0 rfl rfl 9 (by decide) (hts (.fieldLink RX4 25 "ColourForests$Survey" "roomFrom" "[I") (List.mem_of_getElem? (i := 3) rfl)) (fun _ h9 => h9) rfl dX4_enter_71 ?_
        refine lv_iload_n hx hb dX4_enter_74 rfl (lv_at hl 3 rfl) ?_
        refine lv_iload hx hb dX4_enter_75 (lv_at hl 0 rfl) ?_
        refine lv_if_eq (tgt := 92) hx hb dX4_enter_77 (by decide) (fun c77 => ?_) (fun c77 => ?_)
        · exact absurd c77 (by decide)
        · refine lv_aload_n hx hb dX4_enter_80 rfl (lv_at hl 2 rfl) ?_
          refine va_get (D := D) (ci := 3) (v := .ref (ad 1)) (C := RX4) (T := TX4) (N := 11) hx hb hts inX4 hown hK.1 hP 0 rfl rfl 0 (by decide) (hts (.fieldLink RX4 31 "ColourForests$Survey" "graph" "LColourForests$Graph;") (List.mem_of_getElem? (i := 1) rfl)) (fun _ h9 => h9) rfl dX4_enter_81 ?_
          refine lv_iload_n hx hb dX4_enter_84 rfl (lv_at hl 1 rfl) ?_
          refine lv_iload_n hx hb dX4_enter_85 rfl (lv_at hl 3 rfl) ?_
          refine pu_call (va_runV (As := [.int (nI (pk (rmF g T))), .int (nI e)]) (rest := [.int (nI e), .ref (ad 13)]) ⟨hx, hb, hml, hown, hts⟩ (c_X0_roomAfter l D cy ad ch hg (f := rmF g T) (rmF_lt hg T) (e := e) (by omega) c60) (cwV 2 hts gX4_enter_X0_roomAfter rfl rfl rfl (by decide +kernel) ⟨Nat.le_of_ble_eq_true rfl, Nat.le_of_ble_eq_true rfl⟩) (PU_preV (ci := 0) (q0 := 6) hK hP 0 rfl rfl [6, 7, 8, 9, 10, 11] rfl) rfl rfl hl.1 rfl (lv_room (Nat.le_of_ble_eq_true rfl)) dX4_enter_86 ⟨(Nat.zero_le _), (Nat.zero_le _)⟩) hS hP (fun H locs hP hS => ?_)
          refine lv_goto (tgt := 93) hx hb dX4_enter_89 (by decide) ?_
          refine st_i (k := e) (g := (upd frm e (rmv g (T ||| 2 ^ e)))) hx hb hK hP hD hS 4 rfl (by omega) (by decide) (by first | rw [rmv_n (li_f hg hT9 he hTe (rmv_f hg c48))] | rw [rmv_n ((li_step hg hT9 he hTe hli).elim (fun z => absurd z.1 c60) (fun z => z.2))] | rw [rmv_y ((li_step hg hT9 he hTe hli).elim (fun z => z.2.1) (fun z => absurd c60 z.1)), (li_step hg hT9 he hTe hli).elim (fun z => z.2.2) (fun z => absurd c60 z.1)]) dX4_enter_93 (fun H locs hP hD hS => ?_)
          have hP : va_P D vwCl [(ad 9, .inr (3, [.ref (ad 1), .int sn, .int wf, .int cs, .int ms, .ref (ad 10), .ref (ad 11), .int wd, .ref (ad 12), .ref (ad 13), .ref (ad 14)])), (ad 10, .inl (cy 0, 8, .inl fd)), (ad 11, .inl (cy 0, 8, .inl fw)), (ad 12, .inl (cy 0, 15, .inl (upd fp e ((nI (pk (jn (gV g) f (f (gF g e)) (f (gS g e))))))))), (ad 13, .inl (cy 0, 15, .inl (upd frm e (rmv g (T ||| 2 ^ e))))), (ad 14, .inl (cy 0, 15, .inl ft)), (ad 1, .inr (0, [.int (nI (gV g)), .int (nI (gC g)), .int (nI (gE g)), .int ch, .ref (ad 2), .ref (ad 3), .ref (ad 4), .ref (ad 5), .ref (ad 6)])), (ad 2, .inl (cy 0, 6, .inl (fun i => nI (gL g i)))), (ad 3, .inl (cy 0, 14, .inl (fun i => nI (gF g i)))), (ad 4, .inl (cy 0, 14, .inl (fun i => nI (gS g i)))), (ad 5, .inl (cy 0, 14, .inl (fun i => nI (gH g i)))), (ad 6, .inl (cy 0, 14, .inl (fun i => zI (gW g i))))] H := hP
          have hD : va_D (inW (wSv cy ad ch g sn wf cs ms wd fd fw fp frm ft)) [(ad 9, .inr (3, [.ref (ad 1), .int sn, .int wf, .int cs, .int ms, .ref (ad 10), .ref (ad 11), .int wd, .ref (ad 12), .ref (ad 13), .ref (ad 14)])), (ad 10, .inl (cy 0, 8, .inl fd)), (ad 11, .inl (cy 0, 8, .inl fw)), (ad 12, .inl (cy 0, 15, .inl (upd fp e ((nI (pk (jn (gV g) f (f (gF g e)) (f (gS g e))))))))), (ad 13, .inl (cy 0, 15, .inl (upd frm e (rmv g (T ||| 2 ^ e))))), (ad 14, .inl (cy 0, 15, .inl ft)), (ad 1, .inr (0, [.int (nI (gV g)), .int (nI (gC g)), .int (nI (gE g)), .int ch, .ref (ad 2), .ref (ad 3), .ref (ad 4), .ref (ad 5), .ref (ad 6)])), (ad 2, .inl (cy 0, 6, .inl (fun i => nI (gL g i)))), (ad 3, .inl (cy 0, 14, .inl (fun i => nI (gF g i)))), (ad 4, .inl (cy 0, 14, .inl (fun i => nI (gS g i)))), (ad 5, .inl (cy 0, 14, .inl (fun i => nI (gH g i)))), (ad 6, .inl (cy 0, 14, .inl (fun i => zI (gW g i))))] := hD
          refine lv_aload_n hx hb dX4_enter_94 rfl (lv_at hl 2 rfl) ?_
          refine va_get (D := D) (ci := 3) (v := .ref (ad 14)) (C := RX4) (T := TX4) (N := 11) hx hb hts inX4 hown hK.1 hP 0 rfl rfl 10 (by decide) (hts (.fieldLink RX4 28 "ColourForests$Survey" "weightFrom" "[I") (List.mem_of_getElem? (i := 4) rfl)) (fun _ h9 => h9) rfl dX4_enter_95 ?_
          refine lv_iload_n hx hb dX4_enter_98 rfl (lv_at hl 3 rfl) ?_
          refine lv_aload_n hx hb dX4_enter_99 rfl (lv_at hl 2 rfl) ?_
          refine va_get (D := D) (ci := 3) (v := .ref (ad 14)) (C := RX4) (T := TX4) (N := 11) hx hb hts inX4 hown hK.1 hP 0 rfl rfl 10 (by decide) (hts (.fieldLink RX4 28 "ColourForests$Survey" "weightFrom" "[I") (List.mem_of_getElem? (i := 4) rfl)) (fun _ h9 => h9) rfl dX4_enter_100 ?_
          refine lv_iload_n hx hb dX4_enter_103 rfl (lv_at hl 4 rfl) ?_
          refine rd_i (k := q9) (v := (zI (wS g T))) hx hb hK hP 5 rfl (by omega) (by decide) hwt dX4_enter_104 ?_
          refine lv_aload_n hx hb dX4_enter_105 rfl (lv_at hl 2 rfl) ?_
          refine va_get (D := D) (ci := 3) (v := .ref (ad 1)) (C := RX4) (T := TX4) (N := 11) hx hb hts inX4 hown hK.1 hP 0 rfl rfl 0 (by decide) (hts (.fieldLink RX4 31 "ColourForests$Survey" "graph" "LColourForests$Graph;") (List.mem_of_getElem? (i := 1) rfl)) (fun _ h9 => h9) rfl dX4_enter_106 ?_
          refine va_get (D := D) (ci := 0) (v := .ref (ad 6)) (C := RX0) (T := TX0) (N := 9) hx hb hts inX0 hown hK.1 hP 6 rfl rfl 8 (by decide) (hts (.fieldLink RX4 102 "ColourForests$Graph" "weights" "[I") (List.mem_of_getElem? (i := 5) rfl)) (fun _ h9 => h9) rfl dX4_enter_109 ?_
          refine lv_iload_n hx hb dX4_enter_112 rfl (lv_at hl 3 rfl) ?_
          refine rd_i (k := e) (v := (zI (gW g e))) hx hb hK hP 11 rfl (by omega) (by decide) rfl dX4_enter_113 ?_
          refine lv_iadd hx hb dX4_enter_114 ?_
          refine lv_as (y := (zI ((wS g T) + (gW g e)))) (zI_add _ _) ?_
          refine st_i (k := e) (g := (upd ft e (zI (wS g (T ||| 2 ^ e))))) hx hb hK hP hD hS 5 rfl (by omega) (by decide) (by rw [show wS g (T ||| 2 ^ e) = wS g T + gW g e from wZ_ins he hTe]) dX4_enter_115 (fun H locs hP hD hS => ?_)
          have hP : va_P D vwCl [(ad 9, .inr (3, [.ref (ad 1), .int sn, .int wf, .int cs, .int ms, .ref (ad 10), .ref (ad 11), .int wd, .ref (ad 12), .ref (ad 13), .ref (ad 14)])), (ad 10, .inl (cy 0, 8, .inl fd)), (ad 11, .inl (cy 0, 8, .inl fw)), (ad 12, .inl (cy 0, 15, .inl (upd fp e ((nI (pk (jn (gV g) f (f (gF g e)) (f (gS g e))))))))), (ad 13, .inl (cy 0, 15, .inl (upd frm e (rmv g (T ||| 2 ^ e))))), (ad 14, .inl (cy 0, 15, .inl (upd ft e (zI (wS g (T ||| 2 ^ e)))))), (ad 1, .inr (0, [.int (nI (gV g)), .int (nI (gC g)), .int (nI (gE g)), .int ch, .ref (ad 2), .ref (ad 3), .ref (ad 4), .ref (ad 5), .ref (ad 6)])), (ad 2, .inl (cy 0, 6, .inl (fun i => nI (gL g i)))), (ad 3, .inl (cy 0, 14, .inl (fun i => nI (gF g i)))), (ad 4, .inl (cy 0, 14, .inl (fun i => nI (gS g i)))), (ad 5, .inl (cy 0, 14, .inl (fun i => nI (gH g i)))), (ad 6, .inl (cy 0, 14, .inl (fun i => zI (gW g i))))] H := hP
          have hD : va_D (inW (wSv cy ad ch g sn wf cs ms wd fd fw fp frm ft)) [(ad 9, .inr (3, [.ref (ad 1), .int sn, .int wf, .int cs, .int ms, .ref (ad 10), .ref (ad 11), .int wd, .ref (ad 12), .ref (ad 13), .ref (ad 14)])), (ad 10, .inl (cy 0, 8, .inl fd)), (ad 11, .inl (cy 0, 8, .inl fw)), (ad 12, .inl (cy 0, 15, .inl (upd fp e ((nI (pk (jn (gV g) f (f (gF g e)) (f (gS g e))))))))), (ad 13, .inl (cy 0, 15, .inl (upd frm e (rmv g (T ||| 2 ^ e))))), (ad 14, .inl (cy 0, 15, .inl (upd ft e (zI (wS g (T ||| 2 ^ e)))))), (ad 1, .inr (0, [.int (nI (gV g)), .int (nI (gC g)), .int (nI (gE g)), .int ch, .ref (ad 2), .ref (ad 3), .ref (ad 4), .ref (ad 5), .ref (ad 6)])), (ad 2, .inl (cy 0, 6, .inl (fun i => nI (gL g i)))), (ad 3, .inl (cy 0, 14, .inl (fun i => nI (gF g i)))), (ad 4, .inl (cy 0, 14, .inl (fun i => nI (gS g i)))), (ad 5, .inl (cy 0, 14, .inl (fun i => nI (gH g i)))), (ad 6, .inl (cy 0, 14, .inl (fun i => zI (gW g i))))] := hD
          refine lv_iconst (v := nI 1) hx hb dX4_enter_116 (by decide) ?_
          exact wz_ret ((upd fp e ((nI (pk (jn (gV g) f (f (gF g e)) (f (gS g e))))))), (upd frm e (rmv g (T ||| 2 ^ e))), (upd ft e (zI (wS g (T ||| 2 ^ e))))) hx hb hr hlocks hS hP (b := fr g (T ||| 2 ^ e)) (by rw [hfs, decide_eq_true c14]; rfl) (en_yes hg he hfm hf8 hf1 (by rw [hfs, decide_eq_true c14])) dX4_enter_117
  · have c14 := of_decide_eq_false c14
    refine lv_iconst (v := nI 0) hx hb dX4_enter_17 (by decide) ?_
    exact wz_ret (fp, frm, ft) hx hb hr hlocks hS hP (b := fr g (T ||| 2 ^ e)) (by rw [hfs, decide_eq_false c14]; rfl) (en_no (by rw [hfs, decide_eq_false c14])) dX4_enter_18

set_option maxHeartbeats 4000000 in
set_option maxRecDepth 100000 in
theorem c_X4_walk (l : Launch) (D : va_G) (cy : Nat → ClassId) (ad : Nat → Nat) (ch : Int32) {g : GT} (hg : gOK g) (sn wf cs ms wd : Int32) (fd fw fp frm ft : Nat → Int32) : WV l yX4_walk wsX4_walk ({ frames := 3, cells := 0, slots := 0, locals := 73 }) D cy [.ref (ad 9)] (wSv cy ad ch g sn wf cs ms wd fd fw fp frm ft) (fun u : (Nat → Int32) × (Nat → Int32) × (Nat → Int32) × (Nat → Int32) × (Nat → Int32) => tabs g (2 ^ gE g) u.1 u.2.1) (fun u : (Nat → Int32) × (Nat → Int32) × (Nat → Int32) × (Nat → Int32) × (Nat → Int32) => wSv cy ad ch g sn (nI (sF g (2 ^ gE g))) (nI (nP (co g) (2 ^ gE g))) (nI (mo g (2 ^ gE g))) (nI (sW g (2 ^ gE g))) u.1 u.2.1 u.2.2.1 u.2.2.2.1 u.2.2.2.2) := by
  refine Met.ofW (cc := cX4_walk) (maxL := 5) (ret := none) (by decide) rfl ?_
  intro p ev s m args below meth c s₁ B hml hv
  obtain ⟨rfl, ⟨hK, hP⟩, hD0⟩ := hv
  have hx := B.exec
  have hb := B.bytes
  have hr := B.returns
  have hts := atoms_spec (ws := wsX4_walk) B.pre
  have hown : s.vm.findClass RX4 = some m.cls := findClass_of_methodNamed B.named
  have hlocks := B.notSynchronized
  have hD : va_D (inW (wSv cy ad ch g sn wf cs ms wd fd fw fp frm ft)) (wSv cy ad ch g sn wf cs ms wd fd fw fp frm ft) := inW_self hD0
  have hS : va_S (inW (wSv cy ad ch g sn wf cs ms wd fd fw fp frm ft)) s.heap s.heap [] := va_S.rf
  have hP : va_P D vwCl (wSv cy ad ch g sn wf cs ms wd fd fw fp frm ft) s.heap := hP
  have inX4 : ∀ w ∈ wsX40, w ∈ wsX4_walk := by decide +kernel
  have inX0 : ∀ w ∈ wsX00, w ∈ wsX4_walk := by decide +kernel
  have hl := lv_entry ([.ref (ad 9)]) (n := 5) (Nat.le_of_ble_eq_true rfl)
  rw [lg_entry_eq]
  generalize (lg_sl ([.ref (ad 9)]) ++ List.replicate (5 - (lg_sl ([.ref (ad 9)])).length) Slot.unset).toArray = ls at hl ⊢
  have hl : lv_has ls 5 [(0, .ref (ad 9))] := hl
  have hgen := True.intro
  have hE := hg.2.2.1
  have hV := hg.1
  have hC := hg.2.1
  have hS8 : 2 ^ gE g ≤ 2 ^ 14 := Nat.pow_le_pow_right (by decide) hE
  refine lv_aload_n hx hb dX4_walk_0 rfl (lv_at hl 0 rfl) ?_
  refine wr_callv [0, 1, 2, 3, 4, 5, 6, 7, 8, 9, 10, 11] (va_runV (As := []) (rest := []) ⟨hx, hb, hml, hown, hts⟩ (c_X4_begin l D cy ad ch hg sn wf cs ms wd fd fw fp frm ft) (cwV 0 hts gX4_walk_X4_begin rfl rfl rfl (by decide +kernel) ⟨Nat.le_of_ble_eq_true rfl, Nat.le_of_ble_eq_true rfl⟩) (WR_preV (ci := 3) (q0 := 0) hK hP hD rfl rfl [0, 1, 2, 3, 4, 5, 6, 7, 8, 9, 10, 11] (by decide) rfl rfl) rfl rfl hl.1 rfl (lv_room (Nat.le_of_ble_eq_true rfl)) dX4_walk_1 ⟨(Nat.zero_le _), (Nat.zero_le _)⟩) hS hP hD rfl (fun _ => rfl) (fun _ => rfl) (fun u1 H locs w1 hP hD hS => ?_)
  obtain ⟨k1, k2, k3, k4⟩ := sv_1 hg
  have hP : va_P D vwCl [(ad 9, .inr (3, [.ref (ad 1), .int sn, .int (nI (sF g 1)), .int (nI (nP (co g) 1)), .int (nI (mo g 1)), .ref (ad 10), .ref (ad 11), .int (nI (sW g 1)), .ref (ad 12), .ref (ad 13), .ref (ad 14)])), (ad 10, .inl (cy 0, 8, .inl ((upd fd 0 (nI 0))))), (ad 11, .inl (cy 0, 8, .inl ((upd fw 0 (nI 0))))), (ad 12, .inl (cy 0, 15, .inl ((upd fp 14 (nI (pk (lone (gV g)))))))), (ad 13, .inl (cy 0, 15, .inl ((upd frm 14 (nI (pk (fulR g))))))), (ad 14, .inl (cy 0, 15, .inl ((upd ft 14 (nI 0))))), (ad 1, .inr (0, [.int (nI (gV g)), .int (nI (gC g)), .int (nI (gE g)), .int ch, .ref (ad 2), .ref (ad 3), .ref (ad 4), .ref (ad 5), .ref (ad 6)])), (ad 2, .inl (cy 0, 6, .inl (fun i => nI (gL g i)))), (ad 3, .inl (cy 0, 14, .inl (fun i => nI (gF g i)))), (ad 4, .inl (cy 0, 14, .inl (fun i => nI (gS g i)))), (ad 5, .inl (cy 0, 14, .inl (fun i => nI (gH g i)))), (ad 6, .inl (cy 0, 14, .inl (fun i => zI (gW g i))))] H := by rw [k1, k2, k3, k4]; exact hP
  have hD : va_D (inW (wSv cy ad ch g sn wf cs ms wd fd fw fp frm ft)) [(ad 9, .inr (3, [.ref (ad 1), .int sn, .int (nI (sF g 1)), .int (nI (nP (co g) 1)), .int (nI (mo g 1)), .ref (ad 10), .ref (ad 11), .int (nI (sW g 1)), .ref (ad 12), .ref (ad 13), .ref (ad 14)])), (ad 10, .inl (cy 0, 8, .inl ((upd fd 0 (nI 0))))), (ad 11, .inl (cy 0, 8, .inl ((upd fw 0 (nI 0))))), (ad 12, .inl (cy 0, 15, .inl ((upd fp 14 (nI (pk (lone (gV g)))))))), (ad 13, .inl (cy 0, 15, .inl ((upd frm 14 (nI (pk (fulR g))))))), (ad 14, .inl (cy 0, 15, .inl ((upd ft 14 (nI 0))))), (ad 1, .inr (0, [.int (nI (gV g)), .int (nI (gC g)), .int (nI (gE g)), .int ch, .ref (ad 2), .ref (ad 3), .ref (ad 4), .ref (ad 5), .ref (ad 6)])), (ad 2, .inl (cy 0, 6, .inl (fun i => nI (gL g i)))), (ad 3, .inl (cy 0, 14, .inl (fun i => nI (gF g i)))), (ad 4, .inl (cy 0, 14, .inl (fun i => nI (gS g i)))), (ad 5, .inl (cy 0, 14, .inl (fun i => nI (gH g i)))), (ad 6, .inl (cy 0, 14, .inl (fun i => zI (gW g i))))] := by rw [k1, k2, k3, k4]; exact hD
  refine lv_iconst (v := nI 1) hx hb dX4_walk_4 (by decide) ?_
  refine lv_aload_n hx hb dX4_walk_5 rfl (lv_at hl 0 rfl) ?_
  refine va_get (D := D) (ci := 3) (v := .ref (ad 1)) (C := RX4) (T := TX4) (N := 11) hx hb hts inX4 hown hK.1 hP 0 rfl rfl 0 (by decide) (hts (.fieldLink RX4 31 "ColourForests$Survey" "graph" "LColourForests$Graph;") (List.mem_of_getElem? (i := 1) rfl)) (fun _ h9 => h9) rfl dX4_walk_6 ?_
  refine va_get (D := D) (ci := 0) (v := .int (nI (gE g))) (C := RX0) (T := TX0) (N := 9) hx hb hts inX0 hown hK.1 hP 6 rfl rfl 2 (by decide) (hts (.fieldLink RX4 53 "ColourForests$Graph" "edges" "I") (List.mem_of_getElem? (i := 2) rfl)) (fun _ h9 => h9) rfl dX4_walk_9 ?_
  refine lv_ishl hx hb dX4_walk_12 ?_
  refine lv_as (y := (nI (2 ^ (gE g)))) (ni_bit (by omega)) ?_
  refine lv_istore_n (lv' := [(1, .int (nI (2 ^ (gE g)))), (0, .ref (ad 9))]) hx hb dX4_walk_13 rfl hl (by decide) rfl (fun ls hl => ?_)
  refine lv_iconst (v := nI 1) hx hb dX4_walk_14 (by decide) ?_
  refine lv_istore_n (lv' := [(2, .int (nI 1)), (1, .int (nI (2 ^ (gE g)))), (0, .ref (ad 9))]) hx hb dX4_walk_15 rfl hl (by decide) rfl (fun ls hl => ?_)
  have L16 : ∀ (n : Nat) (mm : Nat) (fd : Nat → Int32) (fw : Nat → Int32) (fp : Nat → Int32) (frm : Nat → Int32) (ft : Nat → Int32), 1 ≤ mm ∧ mm ≤ 2 ^ gE g ∧ 2 ^ gE g + 1 ≤ mm + n → tabs g mm fd fw → (mm < 2 ^ gE g → invR g mm fp frm ft) → ∀ (H : Heap) (locs : List Loc), va_P D vwCl (wSv cy ad ch g sn (nI (sF g mm)) (nI (nP (co g) mm)) (nI (mo g mm)) (nI (sW g mm)) fd fw fp frm ft) H → va_D (inW (wSv cy ad ch g sn wf cs ms wd fd fw fp frm ft)) (wSv cy ad ch g sn (nI (sF g mm)) (nI (nP (co g) mm)) (nI (mo g mm)) (nI (sW g mm)) fd fw fp frm ft) → va_S (inW (wSv cy ad ch g sn wf cs ms wd fd fw fp frm ft)) s.heap H locs → ∀ (ls : Array Slot), lv_has ls 5 [(0, .ref (ad 9)), (1, .int (nI (2 ^ gE g))), (2, .int (nI mm))] → W p l ev (headSpec wsX4_walk ({ frames := 3, cells := 0, slots := 0, locals := 73 })).room s m [.ref (ad 9)].toArray below meth c H locs 0 0 (MQ below (va_Qv (fun u : (Nat → Int32) × (Nat → Int32) × (Nat → Int32) × (Nat → Int32) × (Nat → Int32) => tabs g (2 ^ gE g) u.1 u.2.1) (fun u t => va_P D vwCl ((fun u : (Nat → Int32) × (Nat → Int32) × (Nat → Int32) × (Nat → Int32) × (Nat → Int32) => wSv cy ad ch g sn (nI (sF g (2 ^ gE g))) (nI (nP (co g) (2 ^ gE g))) (nI (mo g (2 ^ gE g))) (nI (sW g (2 ^ gE g))) u.1 u.2.1 u.2.2.1 u.2.2.2.1 u.2.2.2.2) u) t.heap) (inW (wSv cy ad ch g sn wf cs ms wd fd fw fp frm ft))) [.ref (ad 9)].toArray s 0 0 (inW (wSv cy ad ch g sn wf cs ms wd fd fw fp frm ft))) (F0 m 16 ls []) := by
    intro n
    induction n with
    | zero =>
      intro mm fd fw fp frm ft hfuel htab hinv H locs hP hD hS ls hl
      exact absurd hfuel.2.2 (by have := hfuel.2.1; omega)
    | succ n ih16 =>
      intro mm fd fw fp frm ft hfuel htab hinv H locs hP hD hS ls hl
      obtain ⟨hfu1, hfu2, hfu3⟩ := hfuel
      have hp2 := Nat.two_pow_pos (tzN 14 mm)
      refine lv_iload_n hx hb dX4_walk_16 rfl (lv_at hl 2 rfl) ?_
      refine lv_iload_n hx hb dX4_walk_17 rfl (lv_at hl 1 rfl) ?_
      refine n_ge (a := mm) (b := (2 ^ gE g)) (tgt := 67) hx hb dX4_walk_18 (by decide) (by omega) (by omega) (fun c18 => ?_) (fun c18 => ?_)
      · have hme : mm = 2 ^ gE g := by omega
        subst hme
        exact wv_ret (fd, fw, fp, frm, ft) hx hb hr hlocks hS hP htab dX4_walk_67
      · obtain ⟨ht, hm2, htb, hpl, hrow⟩ := plA_ok hg (m := mm) (by omega) (by omega) (hinv (by omega))
        refine lv_iload_n hx hb dX4_walk_21 rfl (lv_at hl 2 rfl) ?_
        refine pu_call (va_runS (As := [.int (nI mm)]) (rest := []) ⟨hx, hb, hml, hown, hts⟩ (c_J6_numberOfTrailingZeros_0f7a4 l D cy (S := mm) (by omega) (by omega)) (va_cwS 1 hts gX4_walk_J6_numberOfTrailingZeros_0f7a4 rfl rfl rfl (by decide +kernel) ⟨Nat.le_of_ble_eq_true rfl, Nat.le_of_ble_eq_true rfl⟩) (PU_preS hK hP [] rfl) rfl rfl hl.1 rfl (lv_room (Nat.le_of_ble_eq_true rfl)) dX4_walk_22 ⟨(Nat.zero_le _), (Nat.zero_le _)⟩) hS hP (fun H locs hP hS => ?_)
        refine lv_istore_n (lv' := [(3, .int (nI (tzN 14 mm))), (0, .ref (ad 9)), (1, .int (nI (2 ^ gE g))), (2, .int (nI mm))]) hx hb dX4_walk_25 rfl hl (by decide) rfl (fun ls hl => ?_)
        refine lv_aload_n hx hb dX4_walk_26 rfl (lv_at hl 1 rfl) ?_
        refine lv_iload_n hx hb dX4_walk_27 rfl (lv_at hl 0 rfl) ?_
        refine lv_aload_n hx hb dX4_walk_28 rfl (lv_at hl 1 rfl) ?_
        refine lv_iload_n hx hb dX4_walk_29 rfl (lv_at hl 3 rfl) ?_
        refine pu_call (va_runV (As := [.int (nI mm)]) (rest := [.int (nI (tzN 14 mm)), .ref (ad 9)]) ⟨hx, hb, hml, hown, hts⟩ (c_X4_placeAbove l D cy ad (S := mm) (by omega) (by omega)) (cwV 1 hts gX4_walk_X4_placeAbove rfl rfl rfl (by decide +kernel) ⟨Nat.le_of_ble_eq_true rfl, Nat.le_of_ble_eq_true rfl⟩) (PU_preV (ci := 3) (q0 := 0) hK hP 0 rfl rfl [] rfl) rfl rfl hl.1 rfl (lv_room (Nat.le_of_ble_eq_true rfl)) dX4_walk_30 ⟨(Nat.zero_le _), (Nat.zero_le _)⟩) hS hP (fun H locs hP hS => ?_)
        refine wr_calli [0, 1, 2, 3, 4, 5, 6, 7, 8, 9, 10, 11] (va_runV (As := [.int (nI (tzN 14 mm)), .int (nI (plA mm))]) (rest := []) ⟨hx, hb, hml, hown, hts⟩ (c_X4_enter l D cy ad ch hg sn (nI (sF g mm)) (nI (nP (co g) mm)) (nI (mo g mm)) (nI (sW g mm)) fd fw fp frm ft (T := ms_sd mm (2 ^ tzN 14 mm)) (e := tzN 14 mm) (q9 := plA mm) (ms_sd_lt (by omega)) ht hpl htb hrow) (cwV 2 hts gX4_walk_X4_enter rfl rfl rfl (by decide +kernel) ⟨Nat.le_of_ble_eq_true rfl, Nat.le_of_ble_eq_true rfl⟩) (WR_preV (ci := 3) (q0 := 0) hK hP hD rfl rfl [0, 1, 2, 3, 4, 5, 6, 7, 8, 9, 10, 11] (by decide) rfl rfl) rfl rfl hl.1 rfl (lv_room (Nat.le_of_ble_eq_true rfl)) dX4_walk_33 ⟨(Nat.zero_le _), (Nat.zero_le _)⟩) hS hP hD rfl (fun _ => rfl) (fun _ => rfl) (fun r33 u33 H locs w33 hP hD hS => ?_)
        obtain ⟨hr33, hrow2, hold, hno⟩ := w33
        rw [← hm2] at hr33 hrow2 hno
        refine lv_as (y := bI (fr g mm)) hr33 ?_
        have hP : va_P D vwCl [(ad 9, .inr (3, [.ref (ad 1), .int sn, .int (nI (sF g mm)), .int (nI (nP (co g) mm)), .int (nI (mo g mm)), .ref (ad 10), .ref (ad 11), .int (nI (sW g mm)), .ref (ad 12), .ref (ad 13), .ref (ad 14)])), (ad 10, .inl (cy 0, 8, .inl fd)), (ad 11, .inl (cy 0, 8, .inl fw)), (ad 12, .inl (cy 0, 15, .inl u33.1)), (ad 13, .inl (cy 0, 15, .inl u33.2.1)), (ad 14, .inl (cy 0, 15, .inl u33.2.2)), (ad 1, .inr (0, [.int (nI (gV g)), .int (nI (gC g)), .int (nI (gE g)), .int ch, .ref (ad 2), .ref (ad 3), .ref (ad 4), .ref (ad 5), .ref (ad 6)])), (ad 2, .inl (cy 0, 6, .inl (fun i => nI (gL g i)))), (ad 3, .inl (cy 0, 14, .inl (fun i => nI (gF g i)))), (ad 4, .inl (cy 0, 14, .inl (fun i => nI (gS g i)))), (ad 5, .inl (cy 0, 14, .inl (fun i => nI (gH g i)))), (ad 6, .inl (cy 0, 14, .inl (fun i => zI (gW g i))))] H := hP
        have hD : va_D (inW (wSv cy ad ch g sn wf cs ms wd fd fw fp frm ft)) [(ad 9, .inr (3, [.ref (ad 1), .int sn, .int (nI (sF g mm)), .int (nI (nP (co g) mm)), .int (nI (mo g mm)), .ref (ad 10), .ref (ad 11), .int (nI (sW g mm)), .ref (ad 12), .ref (ad 13), .ref (ad 14)])), (ad 10, .inl (cy 0, 8, .inl fd)), (ad 11, .inl (cy 0, 8, .inl fw)), (ad 12, .inl (cy 0, 15, .inl u33.1)), (ad 13, .inl (cy 0, 15, .inl u33.2.1)), (ad 14, .inl (cy 0, 15, .inl u33.2.2)), (ad 1, .inr (0, [.int (nI (gV g)), .int (nI (gC g)), .int (nI (gE g)), .int ch, .ref (ad 2), .ref (ad 3), .ref (ad 4), .ref (ad 5), .ref (ad 6)])), (ad 2, .inl (cy 0, 6, .inl (fun i => nI (gL g i)))), (ad 3, .inl (cy 0, 14, .inl (fun i => nI (gF g i)))), (ad 4, .inl (cy 0, 14, .inl (fun i => nI (gS g i)))), (ad 5, .inl (cy 0, 14, .inl (fun i => nI (gH g i)))), (ad 6, .inl (cy 0, 14, .inl (fun i => zI (gW g i))))] := hD
        refine lv_istore (lv' := [(4, .int (bI (fr g mm))), (3, .int (nI (tzN 14 mm))), (0, .ref (ad 9)), (1, .int (nI (2 ^ gE g))), (2, .int (nI mm))]) hx hb dX4_walk_36 hl (by decide) rfl (fun ls hl => ?_)
        refine lv_iload hx hb dX4_walk_38 (lv_at hl 0 rfl) ?_
        refine b_eq (b := (fr g mm)) (tgt := 49) hx hb dX4_walk_40 (by decide) (fun c40 => ?_) (fun c40 => ?_)
        · refine lv_iload_n hx hb dX4_walk_49 rfl (lv_at hl 4 rfl) ?_
          refine lv_iload hx hb dX4_walk_50 (lv_at hl 0 rfl) ?_
          refine b_eq (b := (fr g mm)) (tgt := 59) hx hb dX4_walk_52 (by decide) (fun c52 => ?_) (fun c52 => ?_)
          · refine lv_iconst (v := nI 1) hx hb dX4_walk_59 (by decide) ?_
            refine lv_iload_n hx hb dX4_walk_60 rfl (lv_at hl 1 rfl) ?_
            refine lv_ishl hx hb dX4_walk_61 ?_
            refine lv_as (y := (nI (2 ^ (tzN 14 mm)))) (ni_bit (by omega)) ?_
            refine lv_iadd hx hb dX4_walk_62 ?_
            refine lv_as (y := (nI (mm + (2 ^ (tzN 14 mm))))) (nI_add _ _) ?_
            refine lv_istore_n (lv' := [(2, .int (nI (mm + (2 ^ (tzN 14 mm))))), (4, .int (bI (fr g mm))), (3, .int (nI (tzN 14 mm))), (0, .ref (ad 9)), (1, .int (nI (2 ^ gE g)))]) hx hb dX4_walk_63 rfl hl (by decide) rfl (fun ls hl => ?_)
            have u33e := hno c40
            subst u33e
            obtain ⟨k1, k2, k3, k4, k5⟩ := leap_sv hg (by omega) (by omega) c40
            have hle := leap_le (m := mm) (by omega) (by omega) hE
            have hP : va_P D vwCl [(ad 9, .inr (3, [.ref (ad 1), .int sn, .int (nI (sF g (mm + 2 ^ tzN 14 mm))), .int (nI (nP (co g) (mm + 2 ^ tzN 14 mm))), .int (nI (mo g (mm + 2 ^ tzN 14 mm))), .ref (ad 10), .ref (ad 11), .int (nI (sW g (mm + 2 ^ tzN 14 mm))), .ref (ad 12), .ref (ad 13), .ref (ad 14)])), (ad 10, .inl (cy 0, 8, .inl fd)), (ad 11, .inl (cy 0, 8, .inl fw)), (ad 12, .inl (cy 0, 15, .inl fp)), (ad 13, .inl (cy 0, 15, .inl frm)), (ad 14, .inl (cy 0, 15, .inl ft)), (ad 1, .inr (0, [.int (nI (gV g)), .int (nI (gC g)), .int (nI (gE g)), .int ch, .ref (ad 2), .ref (ad 3), .ref (ad 4), .ref (ad 5), .ref (ad 6)])), (ad 2, .inl (cy 0, 6, .inl (fun i => nI (gL g i)))), (ad 3, .inl (cy 0, 14, .inl (fun i => nI (gF g i)))), (ad 4, .inl (cy 0, 14, .inl (fun i => nI (gS g i)))), (ad 5, .inl (cy 0, 14, .inl (fun i => nI (gH g i)))), (ad 6, .inl (cy 0, 14, .inl (fun i => zI (gW g i))))] H := by rw [k1, k3, k4, k5]; exact hP
            have hD : va_D (inW (wSv cy ad ch g sn wf cs ms wd fd fw fp frm ft)) [(ad 9, .inr (3, [.ref (ad 1), .int sn, .int (nI (sF g (mm + 2 ^ tzN 14 mm))), .int (nI (nP (co g) (mm + 2 ^ tzN 14 mm))), .int (nI (mo g (mm + 2 ^ tzN 14 mm))), .ref (ad 10), .ref (ad 11), .int (nI (sW g (mm + 2 ^ tzN 14 mm))), .ref (ad 12), .ref (ad 13), .ref (ad 14)])), (ad 10, .inl (cy 0, 8, .inl fd)), (ad 11, .inl (cy 0, 8, .inl fw)), (ad 12, .inl (cy 0, 15, .inl fp)), (ad 13, .inl (cy 0, 15, .inl frm)), (ad 14, .inl (cy 0, 15, .inl ft)), (ad 1, .inr (0, [.int (nI (gV g)), .int (nI (gC g)), .int (nI (gE g)), .int ch, .ref (ad 2), .ref (ad 3), .ref (ad 4), .ref (ad 5), .ref (ad 6)])), (ad 2, .inl (cy 0, 6, .inl (fun i => nI (gL g i)))), (ad 3, .inl (cy 0, 14, .inl (fun i => nI (gF g i)))), (ad 4, .inl (cy 0, 14, .inl (fun i => nI (gS g i)))), (ad 5, .inl (cy 0, 14, .inl (fun i => nI (gH g i)))), (ad 6, .inl (cy 0, 14, .inl (fun i => zI (gW g i))))] := by rw [k1, k3, k4, k5]; exact hD
            refine lv_goto (tgt := 16) hx hb dX4_walk_64 (by decide) ?_
            exact ih16 (mm + 2 ^ tzN 14 mm) fd fw fp frm ft ⟨by omega, by omega, by omega⟩ (tabs_skip htab k2) (fun hm3 => invR_no hg (by omega) (by omega) (hinv (by omega)) hm3 (Or.inr trivial)) _ _ hP hD hS _ (lv_sub hl [3, 4, 0] rfl)
          · exact absurd (c52.symm.trans c40) (by decide)
        · refine lv_aload_n hx hb dX4_walk_43 rfl (lv_at hl 2 rfl) ?_
          refine lv_iload_n hx hb dX4_walk_44 rfl (lv_at hl 4 rfl) ?_
          refine lv_iload_n hx hb dX4_walk_45 rfl (lv_at hl 1 rfl) ?_
          refine wr_callv [0, 1, 2, 3, 4, 5, 6, 7, 8, 9, 10, 11] (va_runV (As := [.int (nI mm), .int (nI (tzN 14 mm))]) (rest := []) ⟨hx, hb, hml, hown, hts⟩ (c_X4_note l D cy ad ch hg sn fd fw u33.1 u33.2.1 u33.2.2 (S := mm) (e9 := tzN 14 mm) (by omega) (by omega) (by omega) htab (hrow2 c40)) (cwV 2 hts gX4_walk_X4_note rfl rfl rfl (by decide +kernel) ⟨Nat.le_of_ble_eq_true rfl, Nat.le_of_ble_eq_true rfl⟩) (WR_preV (ci := 3) (q0 := 0) hK hP hD rfl rfl [0, 1, 2, 3, 4, 5, 6, 7, 8, 9, 10, 11] (by decide) rfl rfl) rfl rfl hl.1 rfl (lv_room (Nat.le_of_ble_eq_true rfl)) dX4_walk_46 ⟨(Nat.zero_le _), (Nat.zero_le _)⟩) hS hP hD rfl (fun _ => rfl) (fun _ => rfl) (fun u46 H locs w46 hP hD hS => ?_)
          have hP : va_P D vwCl [(ad 9, .inr (3, [.ref (ad 1), .int sn, .int (nI (sF g (mm + 1))), .int (nI (nP (co g) (mm + 1))), .int (nI (mo g (mm + 1))), .ref (ad 10), .ref (ad 11), .int (nI (sW g (mm + 1))), .ref (ad 12), .ref (ad 13), .ref (ad 14)])), (ad 10, .inl (cy 0, 8, .inl u46.1)), (ad 11, .inl (cy 0, 8, .inl u46.2)), (ad 12, .inl (cy 0, 15, .inl u33.1)), (ad 13, .inl (cy 0, 15, .inl u33.2.1)), (ad 14, .inl (cy 0, 15, .inl u33.2.2)), (ad 1, .inr (0, [.int (nI (gV g)), .int (nI (gC g)), .int (nI (gE g)), .int ch, .ref (ad 2), .ref (ad 3), .ref (ad 4), .ref (ad 5), .ref (ad 6)])), (ad 2, .inl (cy 0, 6, .inl (fun i => nI (gL g i)))), (ad 3, .inl (cy 0, 14, .inl (fun i => nI (gF g i)))), (ad 4, .inl (cy 0, 14, .inl (fun i => nI (gS g i)))), (ad 5, .inl (cy 0, 14, .inl (fun i => nI (gH g i)))), (ad 6, .inl (cy 0, 14, .inl (fun i => zI (gW g i))))] H := hP
          have hD : va_D (inW (wSv cy ad ch g sn wf cs ms wd fd fw fp frm ft)) [(ad 9, .inr (3, [.ref (ad 1), .int sn, .int (nI (sF g (mm + 1))), .int (nI (nP (co g) (mm + 1))), .int (nI (mo g (mm + 1))), .ref (ad 10), .ref (ad 11), .int (nI (sW g (mm + 1))), .ref (ad 12), .ref (ad 13), .ref (ad 14)])), (ad 10, .inl (cy 0, 8, .inl u46.1)), (ad 11, .inl (cy 0, 8, .inl u46.2)), (ad 12, .inl (cy 0, 15, .inl u33.1)), (ad 13, .inl (cy 0, 15, .inl u33.2.1)), (ad 14, .inl (cy 0, 15, .inl u33.2.2)), (ad 1, .inr (0, [.int (nI (gV g)), .int (nI (gC g)), .int (nI (gE g)), .int ch, .ref (ad 2), .ref (ad 3), .ref (ad 4), .ref (ad 5), .ref (ad 6)])), (ad 2, .inl (cy 0, 6, .inl (fun i => nI (gL g i)))), (ad 3, .inl (cy 0, 14, .inl (fun i => nI (gF g i)))), (ad 4, .inl (cy 0, 14, .inl (fun i => nI (gS g i)))), (ad 5, .inl (cy 0, 14, .inl (fun i => nI (gH g i)))), (ad 6, .inl (cy 0, 14, .inl (fun i => zI (gW g i))))] := hD
          refine lv_iload_n hx hb dX4_walk_49 rfl (lv_at hl 4 rfl) ?_
          refine lv_iload hx hb dX4_walk_50 (lv_at hl 0 rfl) ?_
          refine b_eq (b := (fr g mm)) (tgt := 59) hx hb dX4_walk_52 (by decide) (fun c52 => ?_) (fun c52 => ?_)
          · exact absurd (c40.symm.trans c52) (by decide)
          · refine lv_iconst (v := nI 1) hx hb dX4_walk_55 (by decide) ?_
            refine lv_goto (tgt := 62) hx hb dX4_walk_56 (by decide) ?_
            refine lv_iadd hx hb dX4_walk_62 ?_
            refine lv_as (y := (nI (mm + 1))) (nI_add _ _) ?_
            refine lv_istore_n (lv' := [(2, .int (nI (mm + 1))), (4, .int (bI (fr g mm))), (3, .int (nI (tzN 14 mm))), (0, .ref (ad 9)), (1, .int (nI (2 ^ gE g)))]) hx hb dX4_walk_63 rfl hl (by decide) rfl (fun ls hl => ?_)
            refine lv_goto (tgt := 16) hx hb dX4_walk_64 (by decide) ?_
            exact ih16 (mm + 1) u46.1 u46.2 u33.1 u33.2.1 u33.2.2 ⟨by omega, by omega, by omega⟩ w46 (fun hm3 => invR_yes hg (by omega) (by omega) (hinv (by omega)) hold (hrow2 c40) hm3) _ _ hP hD hS _ (lv_sub hl [3, 4, 0] rfl)
  exact L16 (2 ^ gE g + 1) 1 ((upd fd 0 (nI 0))) ((upd fw 0 (nI 0))) ((upd fp 14 (nI (pk (lone (gV g)))))) ((upd frm 14 (nI (pk (fulR g))))) ((upd ft 14 (nI 0))) ⟨by omega, by have := Nat.two_pow_pos (gE g); omega, by omega⟩ (tabs_1 hg fd fw) (fun _ => invR_1 (row_0 hg fp frm ft)) _ _ hP hD hS _ (lv_sub hl [2, 1, 0] rfl)

set_option maxHeartbeats 4000000 in
set_option maxRecDepth 100000 in
theorem c_X4_refresh (l : Launch) (D : va_G) (cy : Nat → ClassId) (ad : Nat → Nat) (ch : Int32) {g : GT} (hg : gOK g) {sn wf cs ms wd : Int32} {fd fw fp frm ft : Nat → Int32} (hv : sn = ch → wf = nI (sF g (2 ^ gE g)) ∧ cs = nI (nP (co g) (2 ^ gE g)) ∧ ms = nI (mo g (2 ^ gE g)) ∧ wd = nI (sW g (2 ^ gE g)) ∧ tabs g (2 ^ gE g) fd fw) : WV l yX4_refresh wsX4_refresh ({ frames := 4, cells := 0, slots := 0, locals := 97 }) D cy [.ref (ad 9)] (wSv cy ad ch g sn wf cs ms wd fd fw fp frm ft) (fun u : (Nat → Int32) × (Nat → Int32) × (Nat → Int32) × (Nat → Int32) × (Nat → Int32) => tabs g (2 ^ gE g) u.1 u.2.1) (fun u : (Nat → Int32) × (Nat → Int32) × (Nat → Int32) × (Nat → Int32) × (Nat → Int32) => wSv cy ad ch g ch (nI (sF g (2 ^ gE g))) (nI (nP (co g) (2 ^ gE g))) (nI (mo g (2 ^ gE g))) (nI (sW g (2 ^ gE g))) u.1 u.2.1 u.2.2.1 u.2.2.2.1 u.2.2.2.2) := by
  refine Met.ofW (cc := cX4_refresh) (maxL := 1) (ret := none) (by decide) rfl ?_
  intro p ev s m args below meth c s₁ B hml hv
  obtain ⟨rfl, ⟨hK, hP⟩, hD0⟩ := hv
  have hx := B.exec
  have hb := B.bytes
  have hr := B.returns
  have hts := atoms_spec (ws := wsX4_refresh) B.pre
  have hown : s.vm.findClass RX4 = some m.cls := findClass_of_methodNamed B.named
  have hlocks := B.notSynchronized
  have hD : va_D (inW (wSv cy ad ch g sn wf cs ms wd fd fw fp frm ft)) (wSv cy ad ch g sn wf cs ms wd fd fw fp frm ft) := inW_self hD0
  have hS : va_S (inW (wSv cy ad ch g sn wf cs ms wd fd fw fp frm ft)) s.heap s.heap [] := va_S.rf
  have hP : va_P D vwCl (wSv cy ad ch g sn wf cs ms wd fd fw fp frm ft) s.heap := hP
  have inX4 : ∀ w ∈ wsX40, w ∈ wsX4_refresh := by decide +kernel
  have inX0 : ∀ w ∈ wsX00, w ∈ wsX4_refresh := by decide +kernel
  have hl := lv_entry ([.ref (ad 9)]) (n := 1) (Nat.le_of_ble_eq_true rfl)
  rw [lg_entry_eq]
  generalize (lg_sl ([.ref (ad 9)]) ++ List.replicate (1 - (lg_sl ([.ref (ad 9)])).length) Slot.unset).toArray = ls at hl ⊢
  have hl : lv_has ls 1 [(0, .ref (ad 9))] := hl
  have hgen := True.intro
  refine lv_aload_n hx hb dX4_refresh_0 rfl (lv_at hl 0 rfl) ?_
  refine va_get (D := D) (ci := 3) (v := .int sn) (C := RX4) (T := TX4) (N := 11) hx hb hts inX4 hown hK.1 hP 0 rfl rfl 1 (by decide) (hts (.fieldLink RX4 11 "ColourForests$Survey" "changesSeen" "I") (List.mem_of_getElem? (i := 1) rfl)) (fun _ h9 => h9) rfl dX4_refresh_1 ?_
  refine lv_aload_n hx hb dX4_refresh_4 rfl (lv_at hl 0 rfl) ?_
  refine va_get (D := D) (ci := 3) (v := .ref (ad 1)) (C := RX4) (T := TX4) (N := 11) hx hb hts inX4 hown hK.1 hP 0 rfl rfl 0 (by decide) (hts (.fieldLink RX4 31 "ColourForests$Survey" "graph" "LColourForests$Graph;") (List.mem_of_getElem? (i := 2) rfl)) (fun _ h9 => h9) rfl dX4_refresh_5 ?_
  refine va_get (D := D) (ci := 0) (v := .int ch) (C := RX0) (T := TX0) (N := 9) hx hb hts inX0 hown hK.1 hP 6 rfl rfl 3 (by decide) (hts (.fieldLink RX4 42 "ColourForests$Graph" "changes" "I") (List.mem_of_getElem? (i := 3) rfl)) (fun _ h9 => h9) rfl dX4_refresh_8 ?_
  refine lv_icmp_eq (tgt := 29) hx hb dX4_refresh_11 (by decide) (fun c11 => ?_) (fun c11 => ?_)
  · obtain ⟨q1, q2, q3, q4, q5⟩ := hv c11
    subst q1
    subst q2
    subst q3
    subst q4
    subst c11
    exact wv_ret (fd, fw, fp, frm, ft) hx hb hr hlocks hS hP q5 dX4_refresh_29
  · refine lv_aload_n hx hb dX4_refresh_14 rfl (lv_at hl 0 rfl) ?_
    refine lv_aload_n hx hb dX4_refresh_15 rfl (lv_at hl 0 rfl) ?_
    refine va_get (D := D) (ci := 3) (v := .ref (ad 1)) (C := RX4) (T := TX4) (N := 11) hx hb hts inX4 hown hK.1 hP 0 rfl rfl 0 (by decide) (hts (.fieldLink RX4 31 "ColourForests$Survey" "graph" "LColourForests$Graph;") (List.mem_of_getElem? (i := 2) rfl)) (fun _ h9 => h9) rfl dX4_refresh_16 ?_
    refine va_get (D := D) (ci := 0) (v := .int ch) (C := RX0) (T := TX0) (N := 9) hx hb hts inX0 hown hK.1 hP 6 rfl rfl 3 (by decide) (hts (.fieldLink RX4 42 "ColourForests$Graph" "changes" "I") (List.mem_of_getElem? (i := 3) rfl)) (fun _ h9 => h9) rfl dX4_refresh_19 ?_
    refine va_put (D := D) (ci := 3) (v := .int ch) (ty := .int) (C := RX4) (T := TX4) (N := 11) hx hb hts inX4 tyX4 tyX4_ok nmX4 hown hK.1 hP hD hS 0 rfl rfl 1 (by decide) (hts (.fieldLink RX4 11 "ColourForests$Survey" "changesSeen" "I") (List.mem_of_getElem? (i := 1) rfl)) (fun _ h9 => h9) rfl (by decide +kernel) rfl rfl (Nat.le_of_ble_eq_true rfl) dX4_refresh_22 (fun H locs hP hD hS => ?_)
    have hP : va_P D vwCl [(ad 9, .inr (3, [.ref (ad 1), .int ch, .int wf, .int cs, .int ms, .ref (ad 10), .ref (ad 11), .int wd, .ref (ad 12), .ref (ad 13), .ref (ad 14)])), (ad 10, .inl (cy 0, 8, .inl fd)), (ad 11, .inl (cy 0, 8, .inl fw)), (ad 12, .inl (cy 0, 15, .inl fp)), (ad 13, .inl (cy 0, 15, .inl frm)), (ad 14, .inl (cy 0, 15, .inl ft)), (ad 1, .inr (0, [.int (nI (gV g)), .int (nI (gC g)), .int (nI (gE g)), .int ch, .ref (ad 2), .ref (ad 3), .ref (ad 4), .ref (ad 5), .ref (ad 6)])), (ad 2, .inl (cy 0, 6, .inl (fun i => nI (gL g i)))), (ad 3, .inl (cy 0, 14, .inl (fun i => nI (gF g i)))), (ad 4, .inl (cy 0, 14, .inl (fun i => nI (gS g i)))), (ad 5, .inl (cy 0, 14, .inl (fun i => nI (gH g i)))), (ad 6, .inl (cy 0, 14, .inl (fun i => zI (gW g i))))] H := hP
    have hD : va_D (inW (wSv cy ad ch g sn wf cs ms wd fd fw fp frm ft)) [(ad 9, .inr (3, [.ref (ad 1), .int ch, .int wf, .int cs, .int ms, .ref (ad 10), .ref (ad 11), .int wd, .ref (ad 12), .ref (ad 13), .ref (ad 14)])), (ad 10, .inl (cy 0, 8, .inl fd)), (ad 11, .inl (cy 0, 8, .inl fw)), (ad 12, .inl (cy 0, 15, .inl fp)), (ad 13, .inl (cy 0, 15, .inl frm)), (ad 14, .inl (cy 0, 15, .inl ft)), (ad 1, .inr (0, [.int (nI (gV g)), .int (nI (gC g)), .int (nI (gE g)), .int ch, .ref (ad 2), .ref (ad 3), .ref (ad 4), .ref (ad 5), .ref (ad 6)])), (ad 2, .inl (cy 0, 6, .inl (fun i => nI (gL g i)))), (ad 3, .inl (cy 0, 14, .inl (fun i => nI (gF g i)))), (ad 4, .inl (cy 0, 14, .inl (fun i => nI (gS g i)))), (ad 5, .inl (cy 0, 14, .inl (fun i => nI (gH g i)))), (ad 6, .inl (cy 0, 14, .inl (fun i => zI (gW g i))))] := hD
    refine lv_aload_n hx hb dX4_refresh_25 rfl (lv_at hl 0 rfl) ?_
    refine wr_callv [0, 1, 2, 3, 4, 5, 6, 7, 8, 9, 10, 11] (va_runV (As := []) (rest := []) ⟨hx, hb, hml, hown, hts⟩ (c_X4_walk l D cy ad ch hg ch wf cs ms wd fd fw fp frm ft) (cwV 0 hts gX4_refresh_X4_walk rfl rfl rfl (by decide +kernel) ⟨Nat.le_of_ble_eq_true rfl, Nat.le_of_ble_eq_true rfl⟩) (WR_preV (ci := 3) (q0 := 0) hK hP hD rfl rfl [0, 1, 2, 3, 4, 5, 6, 7, 8, 9, 10, 11] (by decide) rfl rfl) rfl rfl hl.1 rfl (lv_room (Nat.le_of_ble_eq_true rfl)) dX4_refresh_26 ⟨(Nat.zero_le _), (Nat.zero_le _)⟩) hS hP hD rfl (fun _ => rfl) (fun _ => rfl) (fun u26 H locs w26 hP hD hS => ?_)
    have hP : va_P D vwCl [(ad 9, .inr (3, [.ref (ad 1), .int ch, .int (nI (sF g (2 ^ gE g))), .int (nI (nP (co g) (2 ^ gE g))), .int (nI (mo g (2 ^ gE g))), .ref (ad 10), .ref (ad 11), .int (nI (sW g (2 ^ gE g))), .ref (ad 12), .ref (ad 13), .ref (ad 14)])), (ad 10, .inl (cy 0, 8, .inl u26.1)), (ad 11, .inl (cy 0, 8, .inl u26.2.1)), (ad 12, .inl (cy 0, 15, .inl u26.2.2.1)), (ad 13, .inl (cy 0, 15, .inl u26.2.2.2.1)), (ad 14, .inl (cy 0, 15, .inl u26.2.2.2.2)), (ad 1, .inr (0, [.int (nI (gV g)), .int (nI (gC g)), .int (nI (gE g)), .int ch, .ref (ad 2), .ref (ad 3), .ref (ad 4), .ref (ad 5), .ref (ad 6)])), (ad 2, .inl (cy 0, 6, .inl (fun i => nI (gL g i)))), (ad 3, .inl (cy 0, 14, .inl (fun i => nI (gF g i)))), (ad 4, .inl (cy 0, 14, .inl (fun i => nI (gS g i)))), (ad 5, .inl (cy 0, 14, .inl (fun i => nI (gH g i)))), (ad 6, .inl (cy 0, 14, .inl (fun i => zI (gW g i))))] H := hP
    have hD : va_D (inW (wSv cy ad ch g sn wf cs ms wd fd fw fp frm ft)) [(ad 9, .inr (3, [.ref (ad 1), .int ch, .int (nI (sF g (2 ^ gE g))), .int (nI (nP (co g) (2 ^ gE g))), .int (nI (mo g (2 ^ gE g))), .ref (ad 10), .ref (ad 11), .int (nI (sW g (2 ^ gE g))), .ref (ad 12), .ref (ad 13), .ref (ad 14)])), (ad 10, .inl (cy 0, 8, .inl u26.1)), (ad 11, .inl (cy 0, 8, .inl u26.2.1)), (ad 12, .inl (cy 0, 15, .inl u26.2.2.1)), (ad 13, .inl (cy 0, 15, .inl u26.2.2.2.1)), (ad 14, .inl (cy 0, 15, .inl u26.2.2.2.2)), (ad 1, .inr (0, [.int (nI (gV g)), .int (nI (gC g)), .int (nI (gE g)), .int ch, .ref (ad 2), .ref (ad 3), .ref (ad 4), .ref (ad 5), .ref (ad 6)])), (ad 2, .inl (cy 0, 6, .inl (fun i => nI (gL g i)))), (ad 3, .inl (cy 0, 14, .inl (fun i => nI (gF g i)))), (ad 4, .inl (cy 0, 14, .inl (fun i => nI (gS g i)))), (ad 5, .inl (cy 0, 14, .inl (fun i => nI (gH g i)))), (ad 6, .inl (cy 0, 14, .inl (fun i => zI (gW g i))))] := hD
    exact wv_ret u26 hx hb hr hlocks hS hP w26 dX4_refresh_29
