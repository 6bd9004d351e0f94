set_option maxHeartbeats 4000000 in
set_option maxRecDepth 100000 in
theorem c_X5_make_no (l : Launch) (D : va_G) (cy : Nat → ClassId) (hst : l.stackTraces = false) (ad : Nat → Nat) {x y : Int32} (h : mkOK x y = false) : XT l yX5_make wsX5_make ({ frames := 6, cells := 1, slots := 6, locals := 90 }) D cy [.ref (ad 0), .int x, .int y] [(ad 0, .inr (4, [.ref (ad 1), .ref (ad 7), .ref (ad 8), .ref (ad 9)]))] "java/lang/IllegalArgumentException" := by
  refine vx_ofW (cc := cX5_make) (maxL := 3) (ret := none) (by decide) rfl ?_
  intro p ev s m args below meth c s₁ B hml htab hv
  obtain ⟨rfl, ⟨hK, hP⟩, hT⟩ := hv
  have hx := B.exec
  have hb := B.bytes
  have hr := B.returns
  have hts := atoms_spec (ws := wsX5_make) B.pre
  have hown : s.vm.findClass RX5 = some m.cls := findClass_of_methodNamed B.named
  have hlocks := B.notSynchronized
  have hS : va_S (fun _ => False) s.heap s.heap [] := va_S.rf
  have hP : va_P D vwCl [(ad 0, .inr (4, [.ref (ad 1), .ref (ad 7), .ref (ad 8), .ref (ad 9)]))] s.heap := hP
  have inX5 : ∀ w ∈ wsX50, w ∈ wsX5_make := by decide +kernel
  have hl := lv_entry ([.ref (ad 0), .int x, .int y]) (n := 3) (Nat.le_of_ble_eq_true rfl)
  rw [lg_entry_eq]
  generalize (lg_sl ([.ref (ad 0), .int x, .int y]) ++ List.replicate (3 - (lg_sl ([.ref (ad 0), .int x, .int y])).length) Slot.unset).toArray = ls at hl ⊢
  have hl : lv_has ls 3 [(0, .ref (ad 0)), (1, .int x), (2, .int y)] := hl
  have hgen := True.intro
  refine lv_iload_n hx hb dX5_make_0 rfl (lv_at hl 1 rfl) ?_
  refine lv_iconst (v := nI 1) hx hb dX5_make_1 (by decide) ?_
  refine lv_bipush (v := nI 8) hx hb dX5_make_2 (by decide) ?_
  refine pu_call (va_runS (As := [.int x, .int (nI 1), .int (nI 8)]) (rest := []) ⟨hx, hb, hml, hown, hts⟩ (c_X5_within l D cy x (nI 1) (nI 8)) (va_cwS 3 hts gX5_make_X5_within rfl rfl rfl (by decide +kernel) ⟨Nat.le_of_ble_eq_true rfl, Nat.le_of_ble_eq_true rfl⟩) (PU_preS hK hP [] rfl) rfl rfl hl.1 rfl (lv_room (Nat.le_of_ble_eq_true rfl)) dX5_make_4 ⟨(Nat.zero_le _), (Nat.zero_le _)⟩) hS hP (fun H locs hP hS => ?_)
  refine b_eq (b := (decide ((nI 1) ≤ x ∧ x ≤ (nI 8)))) (tgt := 20) hx hb dX5_make_7 (by decide) (fun c7 => ?_) (fun c7 => ?_)
  · have c7 := of_decide_eq_false c7
    obtain ⟨sa, hsa⟩ := hT.1.2.2.1
    exact vx_throwS (names := ["java/lang/RuntimeException", "java/lang/Exception"]) (ic := 46) hx hb hst hown (by decide +kernel) (by decide +kernel) (hts (.classLink RX5 42 "java/lang/IllegalArgumentException") (List.mem_of_getElem? (i := 1) rfl)) (hts (.initialized "java/lang/IllegalArgumentException") (List.mem_of_getElem? (i := 2) rfl)) hsa (vx_hat (fun w hw => hts w (List.mem_cons_of_mem _ (List.mem_append_right _ hw))) (by decide +kernel) (tw_use hT.1)) (by decide +kernel) hT.2.1 hT.2.2 hS (hl.1.trans hml.symm) dX5_make_20 dX5_make_23 dX5_make_24 dX5_make_26 dX5_make_29 (fun x hx => (htab x hx).elim) (by decide) (Nat.le_of_ble_eq_true rfl) (Nat.le_of_ble_eq_true rfl) (Nat.le_of_ble_eq_true rfl) hlocks (fun t hal h1 h2 => ⟨(), trivial, rfl, thr_F hS h1 h2⟩) hS.2.2 (Nat.le_refl _) (Nat.le_refl _)
  · have c7 := of_decide_eq_true c7
    refine lv_iload_n hx hb dX5_make_10 rfl (lv_at hl 2 rfl) ?_
    refine lv_iconst (v := nI 1) hx hb dX5_make_11 (by decide) ?_
    refine lv_bipush (v := nI 6) hx hb dX5_make_12 (by decide) ?_
    refine pu_call (va_runS (As := [.int y, .int (nI 1), .int (nI 6)]) (rest := []) ⟨hx, hb, hml, hown, hts⟩ (c_X5_within l D cy y (nI 1) (nI 6)) (va_cwS 3 hts gX5_make_X5_within rfl rfl rfl (by decide +kernel) ⟨Nat.le_of_ble_eq_true rfl, Nat.le_of_ble_eq_true rfl⟩) (PU_preS hK hP [] rfl) rfl rfl hl.1 rfl (lv_room (Nat.le_of_ble_eq_true rfl)) dX5_make_14 ⟨(Nat.zero_le _), (Nat.zero_le _)⟩) hS hP (fun H locs hP hS => ?_)
    refine b_ne (b := (decide ((nI 1) ≤ y ∧ y ≤ (nI 6)))) (tgt := 30) hx hb dX5_make_17 (by decide) (fun c17 => ?_) (fun c17 => ?_)
    · have c17 := of_decide_eq_true c17
      exact absurd h (by unfold mkOK; rw [decide_eq_true c7, decide_eq_true c17]; decide)
    · have c17 := of_decide_eq_false c17
      obtain ⟨sa, hsa⟩ := hT.1.2.2.1
      exact vx_throwS (names := ["java/lang/RuntimeException", "java/lang/Exception"]) (ic := 46) hx hb hst hown (by decide +kernel) (by decide +kernel) (hts (.classLink RX5 42 "java/lang/IllegalArgumentException") (List.mem_of_getElem? (i := 1) rfl)) (hts (.initialized "java/lang/IllegalArgumentException") (List.mem_of_getElem? (i := 2) rfl)) hsa (vx_hat (fun w hw => hts w (List.mem_cons_of_mem _ (List.mem_append_right _ hw))) (by decide +kernel) (tw_use hT.1)) (by decide +kernel) hT.2.1 hT.2.2 hS (hl.1.trans hml.symm) dX5_make_20 dX5_make_23 dX5_make_24 dX5_make_26 dX5_make_29 (fun x hx => (htab x hx).elim) (by decide) (Nat.le_of_ble_eq_true rfl) (Nat.le_of_ble_eq_true rfl) (Nat.le_of_ble_eq_true rfl) hlocks (fun t hal h1 h2 => ⟨(), trivial, rfl, thr_F hS h1 h2⟩) hS.2.2 (Nat.le_refl _) (Nat.le_refl _)

set_option maxHeartbeats 4000000 in
set_option maxRecDepth 100000 in
theorem c_X5_limit_1 (l : Launch) (D : va_G) (cy : Nat → ClassId) (hst : l.stackTraces = false) (ad : Nat → Nat) (ch : Int32) {g : GT} (hg : gOK g) {x : Int32} (y : Int32) (h : isN x (gC g) = false) : XT l yX5_limit wsX5_limit ({ frames := 6, cells := 1, slots := 6, locals := 90 }) D cy [.ref (ad 0), .int x, .int y] [(ad 0, .inr (4, [.ref (ad 1), .ref (ad 7), .ref (ad 8), .ref (ad 9)])), (ad 1, .inr (0, [.int (nI (gV g)), .int (nI (gC g)), .int (nI (gE g)), .int ch, .ref (ad 2), .ref (ad 3), .ref (ad 4), .ref (ad 5), .ref (ad 6)])), (ad 2, .inl (cy 0, 6, .inl (fun i => nI (gL g i)))), (ad 3, .inl (cy 0, 14, .inl (fun i => nI (gF g i)))), (ad 4, .inl (cy 0, 14, .inl (fun i => nI (gS g i)))), (ad 5, .inl (cy 0, 14, .inl (fun i => nI (gH g i)))), (ad 6, .inl (cy 0, 14, .inl (fun i => zI (gW g i))))] "java/lang/IndexOutOfBoundsException" := by
  refine vx_ofW (cc := cX5_limit) (maxL := 3) (ret := none) (by decide) rfl ?_
  intro p ev s m args below meth c s₁ B hml htab hv
  obtain ⟨rfl, ⟨hK, hP⟩, hT⟩ := hv
  have hx := B.exec
  have hb := B.bytes
  have hr := B.returns
  have hts := atoms_spec (ws := wsX5_limit) B.pre
  have hown : s.vm.findClass RX5 = some m.cls := findClass_of_methodNamed B.named
  have hlocks := B.notSynchronized
  have hS : va_S (fun _ => False) s.heap s.heap [] := va_S.rf
  have hP : va_P D vwCl [(ad 0, .inr (4, [.ref (ad 1), .ref (ad 7), .ref (ad 8), .ref (ad 9)])), (ad 1, .inr (0, [.int (nI (gV g)), .int (nI (gC g)), .int (nI (gE g)), .int ch, .ref (ad 2), .ref (ad 3), .ref (ad 4), .ref (ad 5), .ref (ad 6)])), (ad 2, .inl (cy 0, 6, .inl (fun i => nI (gL g i)))), (ad 3, .inl (cy 0, 14, .inl (fun i => nI (gF g i)))), (ad 4, .inl (cy 0, 14, .inl (fun i => nI (gS g i)))), (ad 5, .inl (cy 0, 14, .inl (fun i => nI (gH g i)))), (ad 6, .inl (cy 0, 14, .inl (fun i => zI (gW g i))))] s.heap := hP
  have inX5 : ∀ w ∈ wsX50, w ∈ wsX5_limit := by decide +kernel
  have inX0 : ∀ w ∈ wsX00, w ∈ wsX5_limit := by decide +kernel
  have hl := lv_entry ([.ref (ad 0), .int x, .int y]) (n := 3) (Nat.le_of_ble_eq_true rfl)
  rw [lg_entry_eq]
  generalize (lg_sl ([.ref (ad 0), .int x, .int y]) ++ List.replicate (3 - (lg_sl ([.ref (ad 0), .int x, .int y])).length) Slot.unset).toArray = ls at hl ⊢
  have hl : lv_has ls 3 [(0, .ref (ad 0)), (1, .int x), (2, .int y)] := hl
  have hgen := True.intro
  have hE := hg.2.2.1
  have hV := hg.1
  have hC := hg.2.1
  refine lv_aload_n hx hb dX5_limit_0 rfl (lv_at hl 0 rfl) ?_
  refine va_get (D := D) (ci := 4) (v := .ref (ad 1)) (C := RX5) (T := TX5) (N := 4) hx hb hts inX5 hown hK.1 hP 0 rfl rfl 0 (by decide) (hts (.fieldLink RX5 10 "ColourForests" "graph" "LColourForests$Graph;") (List.mem_of_getElem? (i := 5) rfl)) (fun _ h9 => h9) rfl dX5_limit_1 ?_
  refine lv_iload_n hx hb dX5_limit_4 rfl (lv_at hl 1 rfl) ?_
  refine pu_call (va_runV (As := [.int x]) (rest := []) ⟨hx, hb, hml, hown, hts⟩ (c_X0_hasColour l D cy ad ch hg x) (cwV 1 hts gX5_limit_X0_hasColour rfl rfl rfl (by decide +kernel) ⟨Nat.le_of_ble_eq_true rfl, Nat.le_of_ble_eq_true rfl⟩) (PU_preV (ci := 0) (q0 := 1) hK hP 0 rfl rfl [1, 2, 3, 4, 5, 6] rfl) rfl rfl hl.1 rfl (lv_room (Nat.le_of_ble_eq_true rfl)) dX5_limit_5 ⟨(Nat.zero_le _), (Nat.zero_le _)⟩) hS hP (fun H locs hP hS => ?_)
  refine b_ne (b := (isN x (gC g))) (tgt := 21) hx hb dX5_limit_8 (by decide) (fun c8 => ?_) (fun c8 => ?_)
  · exact absurd (h.symm.trans c8) (by decide)
  · obtain ⟨sa, hsa⟩ := hT.1.2.2.2.1
    exact vx_throwS (names := ["java/lang/RuntimeException", "java/lang/Exception"]) (ic := 75) hx hb hst hown (by decide +kernel) (by decide +kernel) (hts (.classLink RX5 71 "java/lang/IndexOutOfBoundsException") (List.mem_of_getElem? (i := 1) rfl)) (hts (.initialized "java/lang/IndexOutOfBoundsException") (List.mem_of_getElem? (i := 2) rfl)) hsa (vx_hat (fun w hw => hts w (List.mem_cons_of_mem _ (List.mem_append_left _ (List.mem_append_right _ hw)))) (by decide +kernel) (tw_use hT.1)) (by decide +kernel) hT.2.1 hT.2.2 hS (hl.1.trans hml.symm) dX5_limit_11 dX5_limit_14 dX5_limit_15 dX5_limit_17 dX5_limit_20 (fun x hx => (htab x hx).elim) (by decide) (Nat.le_of_ble_eq_true rfl) (Nat.le_of_ble_eq_true rfl) (Nat.le_of_ble_eq_true rfl) hlocks (fun t hal h1 h2 => ⟨(), trivial, rfl, thr_F hS h1 h2⟩) hS.2.2 (Nat.le_refl _) (Nat.le_refl _)

set_option maxHeartbeats 4000000 in
set_option maxRecDepth 100000 in
theorem c_X5_limit_2 (l : Launch) (D : va_G) (cy : Nat → ClassId) (hst : l.stackTraces = false) (ad : Nat → Nat) (ch : Int32) {g : GT} (hg : gOK g) {x y : Int32} (h1 : isN x (gC g) = true) (h : isN y 15 = false) : XT l yX5_limit wsX5_limit ({ frames := 6, cells := 1, slots := 6, locals := 90 }) D cy [.ref (ad 0), .int x, .int y] [(ad 0, .inr (4, [.ref (ad 1), .ref (ad 7), .ref (ad 8), .ref (ad 9)])), (ad 1, .inr (0, [.int (nI (gV g)), .int (nI (gC g)), .int (nI (gE g)), .int ch, .ref (ad 2), .ref (ad 3), .ref (ad 4), .ref (ad 5), .ref (ad 6)])), (ad 2, .inl (cy 0, 6, .inl (fun i => nI (gL g i)))), (ad 3, .inl (cy 0, 14, .inl (fun i => nI (gF g i)))), (ad 4, .inl (cy 0, 14, .inl (fun i => nI (gS g i)))), (ad 5, .inl (cy 0, 14, .inl (fun i => nI (gH g i)))), (ad 6, .inl (cy 0, 14, .inl (fun i => zI (gW g i))))] "java/lang/IllegalArgumentException" := by
  refine vx_ofW (cc := cX5_limit) (maxL := 3) (ret := none) (by decide) rfl ?_
  intro p ev s m args below meth c s₁ B hml htab hv
  obtain ⟨rfl, ⟨hK, hP⟩, hT⟩ := hv
  have hx := B.exec
  have hb := B.bytes
  have hr := B.returns
  have hts := atoms_spec (ws := wsX5_limit) B.pre
  have hown : s.vm.findClass RX5 = some m.cls := findClass_of_methodNamed B.named
  have hlocks := B.notSynchronized
  have hS : va_S (fun _ => False) s.heap s.heap [] := va_S.rf
  have hP : va_P D vwCl [(ad 0, .inr (4, [.ref (ad 1), .ref (ad 7), .ref (ad 8), .ref (ad 9)])), (ad 1, .inr (0, [.int (nI (gV g)), .int (nI (gC g)), .int (nI (gE g)), .int ch, .ref (ad 2), .ref (ad 3), .ref (ad 4), .ref (ad 5), .ref (ad 6)])), (ad 2, .inl (cy 0, 6, .inl (fun i => nI (gL g i)))), (ad 3, .inl (cy 0, 14, .inl (fun i => nI (gF g i)))), (ad 4, .inl (cy 0, 14, .inl (fun i => nI (gS g i)))), (ad 5, .inl (cy 0, 14, .inl (fun i => nI (gH g i)))), (ad 6, .inl (cy 0, 14, .inl (fun i => zI (gW g i))))] s.heap := hP
  have inX5 : ∀ w ∈ wsX50, w ∈ wsX5_limit := by decide +kernel
  have inX0 : ∀ w ∈ wsX00, w ∈ wsX5_limit := by decide +kernel
  have hl := lv_entry ([.ref (ad 0), .int x, .int y]) (n := 3) (Nat.le_of_ble_eq_true rfl)
  rw [lg_entry_eq]
  generalize (lg_sl ([.ref (ad 0), .int x, .int y]) ++ List.replicate (3 - (lg_sl ([.ref (ad 0), .int x, .int y])).length) Slot.unset).toArray = ls at hl ⊢
  have hl : lv_has ls 3 [(0, .ref (ad 0)), (1, .int x), (2, .int y)] := hl
  have hgen := True.intro
  have hE := hg.2.2.1
  have hV := hg.1
  have hC := hg.2.1
  refine lv_aload_n hx hb dX5_limit_0 rfl (lv_at hl 0 rfl) ?_
  refine va_get (D := D) (ci := 4) (v := .ref (ad 1)) (C := RX5) (T := TX5) (N := 4) hx hb hts inX5 hown hK.1 hP 0 rfl rfl 0 (by decide) (hts (.fieldLink RX5 10 "ColourForests" "graph" "LColourForests$Graph;") (List.mem_of_getElem? (i := 5) rfl)) (fun _ h9 => h9) rfl dX5_limit_1 ?_
  refine lv_iload_n hx hb dX5_limit_4 rfl (lv_at hl 1 rfl) ?_
  refine pu_call (va_runV (As := [.int x]) (rest := []) ⟨hx, hb, hml, hown, hts⟩ (c_X0_hasColour l D cy ad ch hg x) (cwV 1 hts gX5_limit_X0_hasColour rfl rfl rfl (by decide +kernel) ⟨Nat.le_of_ble_eq_true rfl, Nat.le_of_ble_eq_true rfl⟩) (PU_preV (ci := 0) (q0 := 1) hK hP 0 rfl rfl [1, 2, 3, 4, 5, 6] rfl) rfl rfl hl.1 rfl (lv_room (Nat.le_of_ble_eq_true rfl)) dX5_limit_5 ⟨(Nat.zero_le _), (Nat.zero_le _)⟩) hS hP (fun H locs hP hS => ?_)
  refine b_ne (b := (isN x (gC g))) (tgt := 21) hx hb dX5_limit_8 (by decide) (fun c8 => ?_) (fun c8 => ?_)
  · refine lv_iload_n hx hb dX5_limit_21 rfl (lv_at hl 2 rfl) ?_
    refine lv_iconst (v := nI 0) hx hb dX5_limit_22 (by decide) ?_
    refine lv_bipush (v := nI 14) hx hb dX5_limit_23 (by decide) ?_
    refine pu_call (va_runS (As := [.int y, .int (nI 0), .int (nI 14)]) (rest := []) ⟨hx, hb, hml, hown, hts⟩ (c_X5_within l D cy y (nI 0) (nI 14)) (va_cwS 3 hts gX5_limit_X5_within rfl rfl rfl (by decide +kernel) ⟨Nat.le_of_ble_eq_true rfl, Nat.le_of_ble_eq_true rfl⟩) (PU_preS hK hP [] rfl) rfl rfl hl.1 rfl (lv_room (Nat.le_of_ble_eq_true rfl)) dX5_limit_25 ⟨(Nat.zero_le _), (Nat.zero_le _)⟩) hS hP (fun H locs hP hS => ?_)
    refine b_ne (b := (decide ((nI 0) ≤ y ∧ y ≤ (nI 14)))) (tgt := 41) hx hb dX5_limit_28 (by decide) (fun c28 => ?_) (fun c28 => ?_)
    · have c28 := of_decide_eq_true c28
      exact absurd ((isN_withN y (n := 14) (by decide)).trans h) (by rw [decide_eq_true c28]; decide)
    · have c28 := of_decide_eq_false c28
      obtain ⟨sa, hsa⟩ := hT.1.2.2.2.2.1
      exact vx_throwS (names := ["java/lang/RuntimeException", "java/lang/Exception"]) (ic := 46) hx hb hst hown (by decide +kernel) (by decide +kernel) (hts (.classLink RX5 42 "java/lang/IllegalArgumentException") (List.mem_of_getElem? (i := 3) rfl)) (hts (.initialized "java/lang/IllegalArgumentException") (List.mem_of_getElem? (i := 4) rfl)) hsa (vx_hat (fun w hw => hts w (List.mem_cons_of_mem _ (List.mem_append_right _ hw))) (by decide +kernel) (tw_use hT.1)) (by decide +kernel) hT.2.1 hT.2.2 hS (hl.1.trans hml.symm) dX5_limit_31 dX5_limit_34 dX5_limit_35 dX5_limit_37 dX5_limit_40 (fun x hx => (htab x hx).elim) (by decide) (Nat.le_of_ble_eq_true rfl) (Nat.le_of_ble_eq_true rfl) (Nat.le_of_ble_eq_true rfl) hlocks (fun t hal h1 h2 => ⟨(), trivial, rfl, thr_F hS h1 h2⟩) hS.2.2 (Nat.le_refl _) (Nat.le_refl _)
  · exact absurd (h1.symm.trans c8) (by decide)

set_option maxHeartbeats 4000000 in
set_option maxRecDepth 100000 in
theorem c_X5_weigh_1 (l : Launch) (D : va_G) (cy : Nat → ClassId) (hst : l.stackTraces = false) (ad : Nat → Nat) (ch : Int32) {g : GT} (hg : gOK g) {x : Int32} (y : Int32) (h : isN x (gE g) = false) : XT l yX5_weigh wsX5_weigh ({ frames := 6, cells := 1, slots := 6, locals := 90 }) D cy [.ref (ad 0), .int x, .int y] [(ad 0, .inr (4, [.ref (ad 1), .ref (ad 7), .ref (ad 8), .ref (ad 9)])), (ad 1, .inr (0, [.int (nI (gV g)), .int (nI (gC g)), .int (nI (gE g)), .int ch, .ref (ad 2), .ref (ad 3), .ref (ad 4), .ref (ad 5), .ref (ad 6)])), (ad 2, .inl (cy 0, 6, .inl (fun i => nI (gL g i)))), (ad 3, .inl (cy 0, 14, .inl (fun i => nI (gF g i)))), (ad 4, .inl (cy 0, 14, .inl (fun i => nI (gS g i)))), (ad 5, .inl (cy 0, 14, .inl (fun i => nI (gH g i)))), (ad 6, .inl (cy 0, 14, .inl (fun i => zI (gW g i))))] "java/lang/IndexOutOfBoundsException" := by
  refine vx_ofW (cc := cX5_weigh) (maxL := 3) (ret := none) (by decide) rfl ?_
  intro p ev s m args below meth c s₁ B hml htab hv
  obtain ⟨rfl, ⟨hK, hP⟩, hT⟩ := hv
  have hx := B.exec
  have hb := B.bytes
  have hr := B.returns
  have hts := atoms_spec (ws := wsX5_weigh) B.pre
  have hown : s.vm.findClass RX5 = some m.cls := findClass_of_methodNamed B.named
  have hlocks := B.notSynchronized
  have hS : va_S (fun _ => False) s.heap s.heap [] := va_S.rf
  have hP : va_P D vwCl [(ad 0, .inr (4, [.ref (ad 1), .ref (ad 7), .ref (ad 8), .ref (ad 9)])), (ad 1, .inr (0, [.int (nI (gV g)), .int (nI (gC g)), .int (nI (gE g)), .int ch, .ref (ad 2), .ref (ad 3), .ref (ad 4), .ref (ad 5), .ref (ad 6)])), (ad 2, .inl (cy 0, 6, .inl (fun i => nI (gL g i)))), (ad 3, .inl (cy 0, 14, .inl (fun i => nI (gF g i)))), (ad 4, .inl (cy 0, 14, .inl (fun i => nI (gS g i)))), (ad 5, .inl (cy 0, 14, .inl (fun i => nI (gH g i)))), (ad 6, .inl (cy 0, 14, .inl (fun i => zI (gW g i))))] s.heap := hP
  have inX5 : ∀ w ∈ wsX50, w ∈ wsX5_weigh := by decide +kernel
  have inX0 : ∀ w ∈ wsX00, w ∈ wsX5_weigh := by decide +kernel
  have hl := lv_entry ([.ref (ad 0), .int x, .int y]) (n := 3) (Nat.le_of_ble_eq_true rfl)
  rw [lg_entry_eq]
  generalize (lg_sl ([.ref (ad 0), .int x, .int y]) ++ List.replicate (3 - (lg_sl ([.ref (ad 0), .int x, .int y])).length) Slot.unset).toArray = ls at hl ⊢
  have hl : lv_has ls 3 [(0, .ref (ad 0)), (1, .int x), (2, .int y)] := hl
  have hgen := True.intro
  have hE := hg.2.2.1
  have hV := hg.1
  have hC := hg.2.1
  refine lv_aload_n hx hb dX5_weigh_0 rfl (lv_at hl 0 rfl) ?_
  refine va_get (D := D) (ci := 4) (v := .ref (ad 1)) (C := RX5) (T := TX5) (N := 4) hx hb hts inX5 hown hK.1 hP 0 rfl rfl 0 (by decide) (hts (.fieldLink RX5 10 "ColourForests" "graph" "LColourForests$Graph;") (List.mem_of_getElem? (i := 5) rfl)) (fun _ h9 => h9) rfl dX5_weigh_1 ?_
  refine lv_iload_n hx hb dX5_weigh_4 rfl (lv_at hl 1 rfl) ?_
  refine pu_call (va_runV (As := [.int x]) (rest := []) ⟨hx, hb, hml, hown, hts⟩ (c_X0_hasEdge l D cy ad ch hg x) (cwV 1 hts gX5_weigh_X0_hasEdge rfl rfl rfl (by decide +kernel) ⟨Nat.le_of_ble_eq_true rfl, Nat.le_of_ble_eq_true rfl⟩) (PU_preV (ci := 0) (q0 := 1) hK hP 0 rfl rfl [1, 2, 3, 4, 5, 6] rfl) rfl rfl hl.1 rfl (lv_room (Nat.le_of_ble_eq_true rfl)) dX5_weigh_5 ⟨(Nat.zero_le _), (Nat.zero_le _)⟩) hS hP (fun H locs hP hS => ?_)
  refine b_ne (b := (isN x (gE g))) (tgt := 21) hx hb dX5_weigh_8 (by decide) (fun c8 => ?_) (fun c8 => ?_)
  · exact absurd (h.symm.trans c8) (by decide)
  · obtain ⟨sa, hsa⟩ := hT.1.2.2.2.2.2.1
    exact vx_throwS (names := ["java/lang/RuntimeException", "java/lang/Exception"]) (ic := 75) hx hb hst hown (by decide +kernel) (by decide +kernel) (hts (.classLink RX5 71 "java/lang/IndexOutOfBoundsException") (List.mem_of_getElem? (i := 1) rfl)) (hts (.initialized "java/lang/IndexOutOfBoundsException") (List.mem_of_getElem? (i := 2) rfl)) hsa (vx_hat (fun w hw => hts w (List.mem_cons_of_mem _ (List.mem_append_left _ (List.mem_append_right _ hw)))) (by decide +kernel) (tw_use hT.1)) (by decide +kernel) hT.2.1 hT.2.2 hS (hl.1.trans hml.symm) dX5_weigh_11 dX5_weigh_14 dX5_weigh_15 dX5_weigh_17 dX5_weigh_20 (fun x hx => (htab x hx).elim) (by decide) (Nat.le_of_ble_eq_true rfl) (Nat.le_of_ble_eq_true rfl) (Nat.le_of_ble_eq_true rfl) hlocks (fun t hal h1 h2 => ⟨(), trivial, rfl, thr_F hS h1 h2⟩) hS.2.2 (Nat.le_refl _) (Nat.le_refl _)

set_option maxHeartbeats 4000000 in
set_option maxRecDepth 100000 in
theorem c_X5_weigh_2 (l : Launch) (D : va_G) (cy : Nat → ClassId) (hst : l.stackTraces = false) (ad : Nat → Nat) (ch : Int32) {g : GT} (hg : gOK g) {x y : Int32} (h1 : isN x (gE g) = true) (h : isW y = false) : XT l yX5_weigh wsX5_weigh ({ frames := 6, cells := 1, slots := 6, locals := 90 }) D cy [.ref (ad 0), .int x, .int y] [(ad 0, .inr (4, [.ref (ad 1), .ref (ad 7), .ref (ad 8), .ref (ad 9)])), (ad 1, .inr (0, [.int (nI (gV g)), .int (nI (gC g)), .int (nI (gE g)), .int ch, .ref (ad 2), .ref (ad 3), .ref (ad 4), .ref (ad 5), .ref (ad 6)])), (ad 2, .inl (cy 0, 6, .inl (fun i => nI (gL g i)))), (ad 3, .inl (cy 0, 14, .inl (fun i => nI (gF g i)))), (ad 4, .inl (cy 0, 14, .inl (fun i => nI (gS g i)))), (ad 5, .inl (cy 0, 14, .inl (fun i => nI (gH g i)))), (ad 6, .inl (cy 0, 14, .inl (fun i => zI (gW g i))))] "java/lang/IllegalArgumentException" := by
  refine vx_ofW (cc := cX5_weigh) (maxL := 3) (ret := none) (by decide) rfl ?_
  intro p ev s m args below meth c s₁ B hml htab hv
  obtain ⟨rfl, ⟨hK, hP⟩, hT⟩ := hv
  have hx := B.exec
  have hb := B.bytes
  have hr := B.returns
  have hts := atoms_spec (ws := wsX5_weigh) B.pre
  have hown : s.vm.findClass RX5 = some m.cls := findClass_of_methodNamed B.named
  have hlocks := B.notSynchronized
  have hS : va_S (fun _ => False) s.heap s.heap [] := va_S.rf
  have hP : va_P D vwCl [(ad 0, .inr (4, [.ref (ad 1), .ref (ad 7), .ref (ad 8), .ref (ad 9)])), (ad 1, .inr (0, [.int (nI (gV g)), .int (nI (gC g)), .int (nI (gE g)), .int ch, .ref (ad 2), .ref (ad 3), .ref (ad 4), .ref (ad 5), .ref (ad 6)])), (ad 2, .inl (cy 0, 6, .inl (fun i => nI (gL g i)))), (ad 3, .inl (cy 0, 14, .inl (fun i => nI (gF g i)))), (ad 4, .inl (cy 0, 14, .inl (fun i => nI (gS g i)))), (ad 5, .inl (cy 0, 14, .inl (fun i => nI (gH g i)))), (ad 6, .inl (cy 0, 14, .inl (fun i => zI (gW g i))))] s.heap := hP
  have inX5 : ∀ w ∈ wsX50, w ∈ wsX5_weigh := by decide +kernel
  have inX0 : ∀ w ∈ wsX00, w ∈ wsX5_weigh := by decide +kernel
  have hl := lv_entry ([.ref (ad 0), .int x, .int y]) (n := 3) (Nat.le_of_ble_eq_true rfl)
  rw [lg_entry_eq]
  generalize (lg_sl ([.ref (ad 0), .int x, .int y]) ++ List.replicate (3 - (lg_sl ([.ref (ad 0), .int x, .int y])).length) Slot.unset).toArray = ls at hl ⊢
  have hl : lv_has ls 3 [(0, .ref (ad 0)), (1, .int x), (2, .int y)] := hl
  have hgen := True.intro
  have hE := hg.2.2.1
  have hV := hg.1
  have hC := hg.2.1
  refine lv_aload_n hx hb dX5_weigh_0 rfl (lv_at hl 0 rfl) ?_
  refine va_get (D := D) (ci := 4) (v := .ref (ad 1)) (C := RX5) (T := TX5) (N := 4) hx hb hts inX5 hown hK.1 hP 0 rfl rfl 0 (by decide) (hts (.fieldLink RX5 10 "ColourForests" "graph" "LColourForests$Graph;") (List.mem_of_getElem? (i := 5) rfl)) (fun _ h9 => h9) rfl dX5_weigh_1 ?_
  refine lv_iload_n hx hb dX5_weigh_4 rfl (lv_at hl 1 rfl) ?_
  refine pu_call (va_runV (As := [.int x]) (rest := []) ⟨hx, hb, hml, hown, hts⟩ (c_X0_hasEdge l D cy ad ch hg x) (cwV 1 hts gX5_weigh_X0_hasEdge rfl rfl rfl (by decide +kernel) ⟨Nat.le_of_ble_eq_true rfl, Nat.le_of_ble_eq_true rfl⟩) (PU_preV (ci := 0) (q0 := 1) hK hP 0 rfl rfl [1, 2, 3, 4, 5, 6] rfl) rfl rfl hl.1 rfl (lv_room (Nat.le_of_ble_eq_true rfl)) dX5_weigh_5 ⟨(Nat.zero_le _), (Nat.zero_le _)⟩) hS hP (fun H locs hP hS => ?_)
  refine b_ne (b := (isN x (gE g))) (tgt := 21) hx hb dX5_weigh_8 (by decide) (fun c8 => ?_) (fun c8 => ?_)
  · refine lv_iload_n hx hb dX5_weigh_21 rfl (lv_at hl 2 rfl) ?_
    refine pu_call (va_runS (As := [.int y]) (rest := []) ⟨hx, hb, hml, hown, hts⟩ (c_X5_isWeight l D cy y) (va_cwS 1 hts gX5_weigh_X5_isWeight rfl rfl rfl (by decide +kernel) ⟨Nat.le_of_ble_eq_true rfl, Nat.le_of_ble_eq_true rfl⟩) (PU_preS hK hP [] rfl) rfl rfl hl.1 rfl (lv_room (Nat.le_of_ble_eq_true rfl)) dX5_weigh_22 ⟨(Nat.zero_le _), (Nat.zero_le _)⟩) hS hP (fun H locs hP hS => ?_)
    refine b_ne (b := (isW y)) (tgt := 38) hx hb dX5_weigh_25 (by decide) (fun c25 => ?_) (fun c25 => ?_)
    · exact absurd (h.symm.trans c25) (by decide)
    · obtain ⟨sa, hsa⟩ := hT.1.2.2.2.2.2.2.1
      exact vx_throwS (names := ["java/lang/RuntimeException", "java/lang/Exception"]) (ic := 46) hx hb hst hown (by decide +kernel) (by decide +kernel) (hts (.classLink RX5 42 "java/lang/IllegalArgumentException") (List.mem_of_getElem? (i := 3) rfl)) (hts (.initialized "java/lang/IllegalArgumentException") (List.mem_of_getElem? (i := 4) rfl)) hsa (vx_hat (fun w hw => hts w (List.mem_cons_of_mem _ (List.mem_append_right _ hw))) (by decide +kernel) (tw_use hT.1)) (by decide +kernel) hT.2.1 hT.2.2 hS (hl.1.trans hml.symm) dX5_weigh_28 dX5_weigh_31 dX5_weigh_32 dX5_weigh_34 dX5_weigh_37 (fun x hx => (htab x hx).elim) (by decide) (Nat.le_of_ble_eq_true rfl) (Nat.le_of_ble_eq_true rfl) (Nat.le_of_ble_eq_true rfl) hlocks (fun t hal h1 h2 => ⟨(), trivial, rfl, thr_F hS h1 h2⟩) hS.2.2 (Nat.le_refl _) (Nat.le_refl _)
  · exact absurd (h1.symm.trans c8) (by decide)

set_option maxHeartbeats 4000000 in
set_option maxRecDepth 100000 in
theorem c_X5_weight_no (l : Launch) (D : va_G) (cy : Nat → ClassId) (hst : l.stackTraces = false) (ad : Nat → Nat) (ch : Int32) {g : GT} (hg : gOK g) {sn wf cs ms wd : Int32} {fd fw fp frm ft : Nat → Int32} (hv9 : sn = ch → wf = nI (sF g (2 ^ gE g)) ∧ cs = nI (nP (co g) (2 ^ gE g)) ∧ ms = nI (mo g (2 ^ gE g)) ∧ wd = nI (sW g (2 ^ gE g)) ∧ tabs g (2 ^ gE g) fd fw) {x : Int32} (h : isN x (moA g + 1) = false) : XN l yX5_weight wsX5_weight ({ frames := 6, cells := 1, slots := 6, locals := 117 }) D cy [.ref (ad 0), .int x] (wX cy ad ch g sn wf cs ms wd fd fw fp frm ft) (fun u : (Nat → Int32) × (Nat → Int32) × (Nat → Int32) × (Nat → Int32) × (Nat → Int32) => tabs g (2 ^ gE g) u.1 u.2.1) (fun u : (Nat → Int32) × (Nat → Int32) × (Nat → Int32) × (Nat → Int32) × (Nat → Int32) => wX cy ad ch g ch (nI (sF g (2 ^ gE g))) (nI (nP (co g) (2 ^ gE g))) (nI (mo g (2 ^ gE g))) (nI (sW g (2 ^ gE g))) u.1 u.2.1 u.2.2.1 u.2.2.2.1 u.2.2.2.2) "java/lang/IllegalArgumentException" := by
  refine vx_ofW (cc := cX5_weight) (maxL := 2) (ret := (some .int)) (by decide) rfl ?_
  intro p ev s m args below meth c s₁ B hml htab hv
  obtain ⟨rfl, ⟨⟨hK, hP⟩, hD0⟩, hT⟩ := hv
  have hx := B.exec
  have hb := B.bytes
  have hr := B.returns
  have hts := atoms_spec (ws := wsX5_weight) B.pre
  have hown : s.vm.findClass RX5 = some m.cls := findClass_of_methodNamed B.named
  have hlocks := B.notSynchronized
  have hD : va_D (inW (wX cy ad ch g sn wf cs ms wd fd fw fp frm ft)) (wX cy ad ch g sn wf cs ms wd fd fw fp frm ft) := inW_self hD0
  have hS : va_S (inW (wX cy ad ch g sn wf cs ms wd fd fw fp frm ft)) s.heap s.heap [] := va_S.rf
  have hP : va_P D vwCl (wX cy ad ch g sn wf cs ms wd fd fw fp frm ft) s.heap := hP
  have inX5 : ∀ w ∈ wsX50, w ∈ wsX5_weight := by decide +kernel
  have inX4 : ∀ w ∈ wsX40, w ∈ wsX5_weight := by decide +kernel
  have hl := lv_entry ([.ref (ad 0), .int x]) (n := 2) (Nat.le_of_ble_eq_true rfl)
  rw [lg_entry_eq]
  generalize (lg_sl ([.ref (ad 0), .int x]) ++ List.replicate (2 - (lg_sl ([.ref (ad 0), .int x])).length) Slot.unset).toArray = ls at hl ⊢
  have hl : lv_has ls 2 [(0, .ref (ad 0)), (1, .int x)] := hl
  have hgen := True.intro
  have hE := hg.2.2.1
  have hV := hg.1
  have hC := hg.2.1
  have hS8 : 2 ^ gE g ≤ 2 ^ 14 := Nat.pow_le_pow_right (by decide) hE
  have hmo := mo_le g hg
  have hme : mo g (2 ^ gE g) = moA g := rfl
  refine lv_aload_n hx hb dX5_weight_0 rfl (lv_at hl 0 rfl) ?_
  refine va_get (D := D) (ci := 4) (v := .ref (ad 9)) (C := RX5) (T := TX5) (N := 4) hx hb hts inX5 hown hK.1 hP 0 rfl rfl 3 (by decide) (hts (.fieldLink RX5 34 "ColourForests" "survey" "LColourForests$Survey;") (List.mem_of_getElem? (i := 3) rfl)) (fun _ h9 => h9) rfl dX5_weight_1 ?_
  refine wr_callv [3, 4, 5, 6, 7, 8, 9, 10, 11, 12, 13, 14] (va_runV (As := []) (rest := []) ⟨hx, hb, hml, hown, hts⟩ (c_X4_refresh l D cy ad ch hg (sn := sn) (wf := wf) (cs := cs) (ms := ms) (wd := wd) (fd := fd) (fw := fw) (fp := fp) (frm := frm) (ft := ft) hv9) (cwV 0 hts gX5_weight_X4_refresh rfl rfl rfl (by decide +kernel) ⟨Nat.le_of_ble_eq_true rfl, Nat.le_of_ble_eq_true rfl⟩) (WR_preV (ci := 3) (q0 := 3) hK hP hD rfl rfl [3, 4, 5, 6, 7, 8, 9, 10, 11, 12, 13, 14] (by decide) rfl rfl) rfl rfl hl.1 rfl (lv_room (Nat.le_of_ble_eq_true rfl)) dX5_weight_4 ⟨(Nat.zero_le _), (Nat.zero_le _)⟩) hS hP hD rfl (fun _ => rfl) (fun _ => rfl) (fun u4 H locs w4 hP hD hS => ?_)
  have hP : va_P D vwCl [(ad 0, .inr (4, [.ref (ad 1), .ref (ad 7), .ref (ad 8), .ref (ad 9)])), (ad 7, .inr (2, [.ref (ad 1)])), (ad 8, .inr (1, [.ref (ad 1)])), (ad 9, .inr (3, [.ref (ad 1), .int ch, .int (nI (sF g (2 ^ gE g))), .int (nI (nP (co g) (2 ^ gE g))), .int (nI (mo g (2 ^ gE g))), .ref (ad 10), .ref (ad 11), .int (nI (sW g (2 ^ gE g))), .ref (ad 12), .ref (ad 13), .ref (ad 14)])), (ad 10, .inl (cy 0, 8, .inl u4.1)), (ad 11, .inl (cy 0, 8, .inl u4.2.1)), (ad 12, .inl (cy 0, 15, .inl u4.2.2.1)), (ad 13, .inl (cy 0, 15, .inl u4.2.2.2.1)), (ad 14, .inl (cy 0, 15, .inl u4.2.2.2.2)), (ad 1, .inr (0, [.int (nI (gV g)), .int (nI (gC g)), .int (nI (gE g)), .int ch, .ref (ad 2), .ref (ad 3), .ref (ad 4), .ref (ad 5), .ref (ad 6)])), (ad 2, .inl (cy 0, 6, .inl (fun i => nI (gL g i)))), (ad 3, .inl (cy 0, 14, .inl (fun i => nI (gF g i)))), (ad 4, .inl (cy 0, 14, .inl (fun i => nI (gS g i)))), (ad 5, .inl (cy 0, 14, .inl (fun i => nI (gH g i)))), (ad 6, .inl (cy 0, 14, .inl (fun i => zI (gW g i))))] H := hP
  have hD : va_D (inW (wX cy ad ch g sn wf cs ms wd fd fw fp frm ft)) [(ad 0, .inr (4, [.ref (ad 1), .ref (ad 7), .ref (ad 8), .ref (ad 9)])), (ad 7, .inr (2, [.ref (ad 1)])), (ad 8, .inr (1, [.ref (ad 1)])), (ad 9, .inr (3, [.ref (ad 1), .int ch, .int (nI (sF g (2 ^ gE g))), .int (nI (nP (co g) (2 ^ gE g))), .int (nI (mo g (2 ^ gE g))), .ref (ad 10), .ref (ad 11), .int (nI (sW g (2 ^ gE g))), .ref (ad 12), .ref (ad 13), .ref (ad 14)])), (ad 10, .inl (cy 0, 8, .inl u4.1)), (ad 11, .inl (cy 0, 8, .inl u4.2.1)), (ad 12, .inl (cy 0, 15, .inl u4.2.2.1)), (ad 13, .inl (cy 0, 15, .inl u4.2.2.2.1)), (ad 14, .inl (cy 0, 15, .inl u4.2.2.2.2)), (ad 1, .inr (0, [.int (nI (gV g)), .int (nI (gC g)), .int (nI (gE g)), .int ch, .ref (ad 2), .ref (ad 3), .ref (ad 4), .ref (ad 5), .ref (ad 6)])), (ad 2, .inl (cy 0, 6, .inl (fun i => nI (gL g i)))), (ad 3, .inl (cy 0, 14, .inl (fun i => nI (gF g i)))), (ad 4, .inl (cy 0, 14, .inl (fun i => nI (gS g i)))), (ad 5, .inl (cy 0, 14, .inl (fun i => nI (gH g i)))), (ad 6, .inl (cy 0, 14, .inl (fun i => zI (gW g i))))] := hD
  have htb : tabs g (2 ^ gE g) u4.1 u4.2.1 := w4
  refine lv_aload_n hx hb dX5_weight_7 rfl (lv_at hl 0 rfl) ?_
  refine va_get (D := D) (ci := 4) (v := .ref (ad 9)) (C := RX5) (T := TX5) (N := 4) hx hb hts inX5 hown hK.1 hP 0 rfl rfl 3 (by decide) (hts (.fieldLink RX5 34 "ColourForests" "survey" "LColourForests$Survey;") (List.mem_of_getElem? (i := 3) rfl)) (fun _ h9 => h9) rfl dX5_weight_8 ?_
  refine lv_iload_n hx hb dX5_weight_11 rfl (lv_at hl 1 rfl) ?_
  refine pu_call (va_runV (As := [.int x]) (rest := []) ⟨hx, hb, hml, hown, hts⟩ (c_X4_hasSize l D cy ad ch (nI (sF g (2 ^ gE g))) (nI (nP (co g) (2 ^ gE g))) (nI (sW g (2 ^ gE g))) (m9 := mo g (2 ^ gE g)) (by omega) x) (cwV 1 hts gX5_weight_X4_hasSize rfl rfl rfl (by decide +kernel) ⟨Nat.le_of_ble_eq_true rfl, Nat.le_of_ble_eq_true rfl⟩) (PU_preV (ci := 3) (q0 := 3) hK hP 0 rfl rfl [3] rfl) rfl rfl hl.1 rfl (lv_room (Nat.le_of_ble_eq_true rfl)) dX5_weight_12 ⟨(Nat.zero_le _), (Nat.zero_le _)⟩) hS hP (fun H locs hP hS => ?_)
  refine b_ne (b := (isN x (mo g (2 ^ gE g) + 1))) (tgt := 28) hx hb dX5_weight_15 (by decide) (fun c15 => ?_) (fun c15 => ?_)
  · exact absurd (h.symm.trans c15) (by decide)
  · obtain ⟨sa, hsa⟩ := hT.1.2.2.2.2.2.2.2
    exact vx_throwS (names := ["java/lang/RuntimeException", "java/lang/Exception"]) (ic := 46) hx hb hst hown (by decide +kernel) (by decide +kernel) (hts (.classLink RX5 42 "java/lang/IllegalArgumentException") (List.mem_of_getElem? (i := 1) rfl)) (hts (.initialized "java/lang/IllegalArgumentException") (List.mem_of_getElem? (i := 2) rfl)) hsa (vx_hat (fun w hw => hts w (List.mem_cons_of_mem _ (List.mem_append_right _ hw))) (by decide +kernel) (tw_use hT.1)) (by decide +kernel) hT.2.1 hT.2.2 hS (hl.1.trans hml.symm) dX5_weight_18 dX5_weight_21 dX5_weight_22 dX5_weight_24 dX5_weight_27 (fun x hx => (htab x hx).elim) (by decide) (Nat.le_of_ble_eq_true rfl) (Nat.le_of_ble_eq_true rfl) (Nat.le_of_ble_eq_true rfl) hlocks (fun t hal h1 h2 => ⟨u4, htb, ⟨rfl, hP.kept fun k q hq => h2 q.1 (hP k q hq).lt⟩, thr_F hS h1 h2⟩) hS.2.2 (Nat.le_refl _) (Nat.le_refl _)

set_option maxHeartbeats 4000000 in
set_option maxRecDepth 100000 in
theorem c_L_make_no (l : Launch) (D : va_G) (cy : Nat → ClassId) (hst : l.stackTraces = false) (ad : Nat → Nat) {x y : Int32} (h : mkOK x y = false) : LN l yL_make wsL_make ({ frames := 7, cells := 1, slots := 6, locals := 112 }) D cy [.ref (ad 0), .int x, .int y] [(ad 0, .inr (4, [.ref (ad 1), .ref (ad 7), .ref (ad 8), .ref (ad 9)]))] 1 := by
  refine vx_ofWH (cc := cL_make) (maxL := 4) (ret := (some .int)) (hh := [(0, 6, 9, 13)]) (by decide) rfl ?_
  intro p ev s m args below meth c s₁ B hml hv
  obtain ⟨rfl, ⟨hK, hP⟩, hT⟩ := hv
  have hx := B.exec
  have hb := B.bytes
  have hr := B.returns
  have hts := atoms_spec (ws := wsL_make) B.pre
  have htab := vx_table (x := yL_make) B (hts _ List.mem_cons_self)
  have hown : s.vm.findClass RL = some m.cls := findClass_of_methodNamed B.named
  have hlocks := B.notSynchronized
  have hS : va_S (fun _ => False) s.heap s.heap [] := va_S.rf
  have hP : va_P D vwCl [(ad 0, .inr (4, [.ref (ad 1), .ref (ad 7), .ref (ad 8), .ref (ad 9)]))] s.heap := hP
  have hl := lv_entry ([.ref (ad 0), .int x, .int y]) (n := 4) (Nat.le_of_ble_eq_true rfl)
  rw [lg_entry_eq]
  generalize (lg_sl ([.ref (ad 0), .int x, .int y]) ++ List.replicate (4 - (lg_sl ([.ref (ad 0), .int x, .int y])).length) Slot.unset).toArray = ls at hl ⊢
  have hl : lv_has ls 4 [(0, .ref (ad 0)), (1, .int x), (2, .int y)] := hl
  have hgen := True.intro
  refine lv_aload_n hx hb dL_make_0 rfl (lv_at hl 0 rfl) ?_
  refine lv_iload_n hx hb dL_make_1 rfl (lv_at hl 1 rfl) ?_
  refine lv_iload_n hx hb dL_make_2 rfl (lv_at hl 2 rfl) ?_
  refine xt_catch (vx_runV (As := [.int x, .int y]) (rest := []) ⟨hx, hb, hml, hown, hts⟩ (c_X5_make_no l D cy hst ad h) (cwV 2 hts gL_make_X5_make rfl rfl rfl (by decide +kernel) ⟨Nat.le_of_ble_eq_true rfl, Nat.le_of_ble_eq_true rfl⟩) (XT_preV (ci := 4) (q0 := 0) hK hP hT hS rfl rfl [0] rfl) rfl rfl hl.1 rfl (lv_room (Nat.le_of_ble_eq_true rfl)) dL_make_3 ⟨Nat.le_of_ble_eq_true rfl, Nat.le_of_ble_eq_true rfl⟩) hS hP hown [] ⟨0, 6, 9, 13⟩ [] (by rw [htab]; rfl) (fun z hz => nomatch hz) (by decide) (by decide) (hts (.classLink RL 13 "java/lang/IllegalArgumentException") (List.mem_of_getElem? (i := 1) rfl)) (hT.1.1 _ (List.mem_of_getElem? (i := 0) rfl)) (fun q9 H locs hP hS => ?_)
  refine lv_astore_n (lv' := [(3, .ref q9), (0, .ref (ad 0)), (1, .int x), (2, .int y)]) hx hb dL_make_9 rfl hl (by decide) rfl (fun ls hl => ?_)
  refine lv_iconst (v := nI 1) hx hb dL_make_10 (by decide) ?_
  exact ln_ret hx hb hr hlocks hS dL_make_11

set_option maxHeartbeats 4000000 in
set_option maxRecDepth 100000 in
theorem c_L_limit_1 (l : Launch) (D : va_G) (cy : Nat → ClassId) (hst : l.stackTraces = false) (ad : Nat → Nat) (ch : Int32) {g : GT} (hg : gOK g) {x : Int32} (y : Int32) (h : isN x (gC g) = false) : LN l yL_limit wsL_limit ({ frames := 7, cells := 1, slots := 6, locals := 112 }) D cy [.ref (ad 0), .int x, .int y] [(ad 0, .inr (4, [.ref (ad 1), .ref (ad 7), .ref (ad 8), .ref (ad 9)])), (ad 1, .inr (0, [.int (nI (gV g)), .int (nI (gC g)), .int (nI (gE g)), .int ch, .ref (ad 2), .ref (ad 3), .ref (ad 4), .ref (ad 5), .ref (ad 6)])), (ad 2, .inl (cy 0, 6, .inl (fun i => nI (gL g i)))), (ad 3, .inl (cy 0, 14, .inl (fun i => nI (gF g i)))), (ad 4, .inl (cy 0, 14, .inl (fun i => nI (gS g i)))), (ad 5, .inl (cy 0, 14, .inl (fun i => nI (gH g i)))), (ad 6, .inl (cy 0, 14, .inl (fun i => zI (gW g i))))] 1 := by
  refine vx_ofWH (cc := cL_limit) (maxL := 4) (ret := (some .int)) (hh := [(0, 6, 9, 18), (0, 6, 12, 13)]) (by decide) rfl ?_
  intro p ev s m args below meth c s₁ B hml hv
  obtain ⟨rfl, ⟨hK, hP⟩, hT⟩ := hv
  have hx := B.exec
  have hb := B.bytes
  have hr := B.returns
  have hts := atoms_spec (ws := wsL_limit) B.pre
  have htab := vx_table (x := yL_limit) B (hts _ List.mem_cons_self)
  have hown : s.vm.findClass RL = some m.cls := findClass_of_methodNamed B.named
  have hlocks := B.notSynchronized
  have hS : va_S (fun _ => False) s.heap s.heap [] := va_S.rf
  have hP : va_P D vwCl [(ad 0, .inr (4, [.ref (ad 1), .ref (ad 7), .ref (ad 8), .ref (ad 9)])), (ad 1, .inr (0, [.int (nI (gV g)), .int (nI (gC g)), .int (nI (gE g)), .int ch, .ref (ad 2), .ref (ad 3), .ref (ad 4), .ref (ad 5), .ref (ad 6)])), (ad 2, .inl (cy 0, 6, .inl (fun i => nI (gL g i)))), (ad 3, .inl (cy 0, 14, .inl (fun i => nI (gF g i)))), (ad 4, .inl (cy 0, 14, .inl (fun i => nI (gS g i)))), (ad 5, .inl (cy 0, 14, .inl (fun i => nI (gH g i)))), (ad 6, .inl (cy 0, 14, .inl (fun i => zI (gW g i))))] s.heap := hP
  have hl := lv_entry ([.ref (ad 0), .int x, .int y]) (n := 4) (Nat.le_of_ble_eq_true rfl)
  rw [lg_entry_eq]
  generalize (lg_sl ([.ref (ad 0), .int x, .int y]) ++ List.replicate (4 - (lg_sl ([.ref (ad 0), .int x, .int y])).length) Slot.unset).toArray = ls at hl ⊢
  have hl : lv_has ls 4 [(0, .ref (ad 0)), (1, .int x), (2, .int y)] := hl
  have hgen := True.intro
  refine lv_aload_n hx hb dL_limit_0 rfl (lv_at hl 0 rfl) ?_
  refine lv_iload_n hx hb dL_limit_1 rfl (lv_at hl 1 rfl) ?_
  refine lv_iload_n hx hb dL_limit_2 rfl (lv_at hl 2 rfl) ?_
  refine xt_catch (vx_runV (As := [.int x, .int y]) (rest := []) ⟨hx, hb, hml, hown, hts⟩ (c_X5_limit_1 l D cy hst ad ch hg y h) (cwV 2 hts gL_limit_X5_limit rfl rfl rfl (by decide +kernel) ⟨Nat.le_of_ble_eq_true rfl, Nat.le_of_ble_eq_true rfl⟩) (XT_preV (ci := 4) (q0 := 0) hK hP hT hS rfl rfl [0, 1, 2, 3, 4, 5, 6] rfl) rfl rfl hl.1 rfl (lv_room (Nat.le_of_ble_eq_true rfl)) dL_limit_3 ⟨Nat.le_of_ble_eq_true rfl, Nat.le_of_ble_eq_true rfl⟩) hS hP hown [] ⟨0, 6, 9, 18⟩ [⟨0, 6, 12, 13⟩] (by rw [htab]; rfl) (fun z hz => nomatch hz) (by decide) (by decide) (hts (.classLink RL 18 "java/lang/IndexOutOfBoundsException") (List.mem_of_getElem? (i := 1) rfl)) (hT.1.1 _ (List.mem_of_getElem? (i := 1) rfl)) (fun q9 H locs hP hS => ?_)
  refine lv_astore_n (lv' := [(3, .ref q9), (0, .ref (ad 0)), (1, .int x), (2, .int y)]) hx hb dL_limit_9 rfl hl (by decide) rfl (fun ls hl => ?_)
  refine lv_iconst (v := nI 1) hx hb dL_limit_10 (by decide) ?_
  exact ln_ret hx hb hr hlocks hS dL_limit_11

set_option maxHeartbeats 4000000 in
set_option maxRecDepth 100000 in
theorem c_L_limit_2 (l : Launch) (D : va_G) (cy : Nat → ClassId) (hst : l.stackTraces = false) (ad : Nat → Nat) (ch : Int32) {g : GT} (hg : gOK g) {x y : Int32} (h1 : isN x (gC g) = true) (h : isN y 15 = false) : LN l yL_limit wsL_limit ({ frames := 7, cells := 1, slots := 6, locals := 112 }) D cy [.ref (ad 0), .int x, .int y] [(ad 0, .inr (4, [.ref (ad 1), .ref (ad 7), .ref (ad 8), .ref (ad 9)])), (ad 1, .inr (0, [.int (nI (gV g)), .int (nI (gC g)), .int (nI (gE g)), .int ch, .ref (ad 2), .ref (ad 3), .ref (ad 4), .ref (ad 5), .ref (ad 6)])), (ad 2, .inl (cy 0, 6, .inl (fun i => nI (gL g i)))), (ad 3, .inl (cy 0, 14, .inl (fun i => nI (gF g i)))), (ad 4, .inl (cy 0, 14, .inl (fun i => nI (gS g i)))), (ad 5, .inl (cy 0, 14, .inl (fun i => nI (gH g i)))), (ad 6, .inl (cy 0, 14, .inl (fun i => zI (gW g i))))] 2 := by
  refine vx_ofWH (cc := cL_limit) (maxL := 4) (ret := (some .int)) (hh := [(0, 6, 9, 18), (0, 6, 12, 13)]) (by decide) rfl ?_
  intro p ev s m args below meth c s₁ B hml hv
  obtain ⟨rfl, ⟨hK, hP⟩, hT⟩ := hv
  have hx := B.exec
  have hb := B.bytes
  have hr := B.returns
  have hts := atoms_spec (ws := wsL_limit) B.pre
  have htab := vx_table (x := yL_limit) B (hts _ List.mem_cons_self)
  have hown : s.vm.findClass RL = some m.cls := findClass_of_methodNamed B.named
  have hlocks := B.notSynchronized
  have hS : va_S (fun _ => False) s.heap s.heap [] := va_S.rf
  have hP : va_P D vwCl [(ad 0, .inr (4, [.ref (ad 1), .ref (ad 7), .ref (ad 8), .ref (ad 9)])), (ad 1, .inr (0, [.int (nI (gV g)), .int (nI (gC g)), .int (nI (gE g)), .int ch, .ref (ad 2), .ref (ad 3), .ref (ad 4), .ref (ad 5), .ref (ad 6)])), (ad 2, .inl (cy 0, 6, .inl (fun i => nI (gL g i)))), (ad 3, .inl (cy 0, 14, .inl (fun i => nI (gF g i)))), (ad 4, .inl (cy 0, 14, .inl (fun i => nI (gS g i)))), (ad 5, .inl (cy 0, 14, .inl (fun i => nI (gH g i)))), (ad 6, .inl (cy 0, 14, .inl (fun i => zI (gW g i))))] s.heap := hP
  have hl := lv_entry ([.ref (ad 0), .int x, .int y]) (n := 4) (Nat.le_of_ble_eq_true rfl)
  rw [lg_entry_eq]
  generalize (lg_sl ([.ref (ad 0), .int x, .int y]) ++ List.replicate (4 - (lg_sl ([.ref (ad 0), .int x, .int y])).length) Slot.unset).toArray = ls at hl ⊢
  have hl : lv_has ls 4 [(0, .ref (ad 0)), (1, .int x), (2, .int y)] := hl
  have hgen := True.intro
  refine lv_aload_n hx hb dL_limit_0 rfl (lv_at hl 0 rfl) ?_
  refine lv_iload_n hx hb dL_limit_1 rfl (lv_at hl 1 rfl) ?_
  refine lv_iload_n hx hb dL_limit_2 rfl (lv_at hl 2 rfl) ?_
  refine xt_catch (vx_runV (As := [.int x, .int y]) (rest := []) ⟨hx, hb, hml, hown, hts⟩ (c_X5_limit_2 l D cy hst ad ch hg h1 h) (cwV 2 hts gL_limit_X5_limit rfl rfl rfl (by decide +kernel) ⟨Nat.le_of_ble_eq_true rfl, Nat.le_of_ble_eq_true rfl⟩) (XT_preV (ci := 4) (q0 := 0) hK hP hT hS rfl rfl [0, 1, 2, 3, 4, 5, 6] rfl) rfl rfl hl.1 rfl (lv_room (Nat.le_of_ble_eq_true rfl)) dL_limit_3 ⟨Nat.le_of_ble_eq_true rfl, Nat.le_of_ble_eq_true rfl⟩) hS hP hown [⟨0, 6, 9, 18⟩] ⟨0, 6, 12, 13⟩ [] (by rw [htab]; rfl) (fun z hz => by rcases List.mem_singleton.mp hz with rfl; exact Or.inr ⟨by decide, "java/lang/IndexOutOfBoundsException", (hts (.classLink RL 18 "java/lang/IndexOutOfBoundsException") (List.mem_of_getElem? (i := 1) rfl)), hT.1.2.1⟩) (by decide) (by decide) (hts (.classLink RL 13 "java/lang/IllegalArgumentException") (List.mem_of_getElem? (i := 2) rfl)) (hT.1.1 _ (List.mem_of_getElem? (i := 0) rfl)) (fun q9 H locs hP hS => ?_)
  refine lv_astore_n (lv' := [(3, .ref q9), (0, .ref (ad 0)), (1, .int x), (2, .int y)]) hx hb dL_limit_12 rfl hl (by decide) rfl (fun ls hl => ?_)
  refine lv_iconst (v := nI 2) hx hb dL_limit_13 (by decide) ?_
  exact ln_ret hx hb hr hlocks hS dL_limit_14

set_option maxHeartbeats 4000000 in
set_option maxRecDepth 100000 in
theorem c_L_weigh_1 (l : Launch) (D : va_G) (cy : Nat → ClassId) (hst : l.stackTraces = false) (ad : Nat → Nat) (ch : Int32) {g : GT} (hg : gOK g) {x : Int32} (y : Int32) (h : isN x (gE g) = false) : LN l yL_weigh wsL_weigh ({ frames := 7, cells := 1, slots := 6, locals := 112 }) D cy [.ref (ad 0), .int x, .int y] [(ad 0, .inr (4, [.ref (ad 1), .ref (ad 7), .ref (ad 8), .ref (ad 9)])), (ad 1, .inr (0, [.int (nI (gV g)), .int (nI (gC g)), .int (nI (gE g)), .int ch, .ref (ad 2), .ref (ad 3), .ref (ad 4), .ref (ad 5), .ref (ad 6)])), (ad 2, .inl (cy 0, 6, .inl (fun i => nI (gL g i)))), (ad 3, .inl (cy 0, 14, .inl (fun i => nI (gF g i)))), (ad 4, .inl (cy 0, 14, .inl (fun i => nI (gS g i)))), (ad 5, .inl (cy 0, 14, .inl (fun i => nI (gH g i)))), (ad 6, .inl (cy 0, 14, .inl (fun i => zI (gW g i))))] 1 := by
  refine vx_ofWH (cc := cL_weigh) (maxL := 4) (ret := (some .int)) (hh := [(0, 6, 9, 18), (0, 6, 12, 13)]) (by decide) rfl ?_
  intro p ev s m args below meth c s₁ B hml hv
  obtain ⟨rfl, ⟨hK, hP⟩, hT⟩ := hv
  have hx := B.exec
  have hb := B.bytes
  have hr := B.returns
  have hts := atoms_spec (ws := wsL_weigh) B.pre
  have htab := vx_table (x := yL_weigh) B (hts _ List.mem_cons_self)
  have hown : s.vm.findClass RL = some m.cls := findClass_of_methodNamed B.named
  have hlocks := B.notSynchronized
  have hS : va_S (fun _ => False) s.heap s.heap [] := va_S.rf
  have hP : va_P D vwCl [(ad 0, .inr (4, [.ref (ad 1), .ref (ad 7), .ref (ad 8), .ref (ad 9)])), (ad 1, .inr (0, [.int (nI (gV g)), .int (nI (gC g)), .int (nI (gE g)), .int ch, .ref (ad 2), .ref (ad 3), .ref (ad 4), .ref (ad 5), .ref (ad 6)])), (ad 2, .inl (cy 0, 6, .inl (fun i => nI (gL g i)))), (ad 3, .inl (cy 0, 14, .inl (fun i => nI (gF g i)))), (ad 4, .inl (cy 0, 14, .inl (fun i => nI (gS g i)))), (ad 5, .inl (cy 0, 14, .inl (fun i => nI (gH g i)))), (ad 6, .inl (cy 0, 14, .inl (fun i => zI (gW g i))))] s.heap := hP
  have hl := lv_entry ([.ref (ad 0), .int x, .int y]) (n := 4) (Nat.le_of_ble_eq_true rfl)
  rw [lg_entry_eq]
  generalize (lg_sl ([.ref (ad 0), .int x, .int y]) ++ List.replicate (4 - (lg_sl ([.ref (ad 0), .int x, .int y])).length) Slot.unset).toArray = ls at hl ⊢
  have hl : lv_has ls 4 [(0, .ref (ad 0)), (1, .int x), (2, .int y)] := hl
  have hgen := True.intro
  refine lv_aload_n hx hb dL_weigh_0 rfl (lv_at hl 0 rfl) ?_
  refine lv_iload_n hx hb dL_weigh_1 rfl (lv_at hl 1 rfl) ?_
  refine lv_iload_n hx hb dL_weigh_2 rfl (lv_at hl 2 rfl) ?_
  refine xt_catch (vx_runV (As := [.int x, .int y]) (rest := []) ⟨hx, hb, hml, hown, hts⟩ (c_X5_weigh_1 l D cy hst ad ch hg y h) (cwV 2 hts gL_weigh_X5_weigh rfl rfl rfl (by decide +kernel) ⟨Nat.le_of_ble_eq_true rfl, Nat.le_of_ble_eq_true rfl⟩) (XT_preV (ci := 4) (q0 := 0) hK hP hT hS rfl rfl [0, 1, 2, 3, 4, 5, 6] rfl) rfl rfl hl.1 rfl (lv_room (Nat.le_of_ble_eq_true rfl)) dL_weigh_3 ⟨Nat.le_of_ble_eq_true rfl, Nat.le_of_ble_eq_true rfl⟩) hS hP hown [] ⟨0, 6, 9, 18⟩ [⟨0, 6, 12, 13⟩] (by rw [htab]; rfl) (fun z hz => nomatch hz) (by decide) (by decide) (hts (.classLink RL 18 "java/lang/IndexOutOfBoundsException") (List.mem_of_getElem? (i := 1) rfl)) (hT.1.1 _ (List.mem_of_getElem? (i := 1) rfl)) (fun q9 H locs hP hS => ?_)
  refine lv_astore_n (lv' := [(3, .ref q9), (0, .ref (ad 0)), (1, .int x), (2, .int y)]) hx hb dL_weigh_9 rfl hl (by decide) rfl (fun ls hl => ?_)
  refine lv_iconst (v := nI 1) hx hb dL_weigh_10 (by decide) ?_
  exact ln_ret hx hb hr hlocks hS dL_weigh_11

set_option maxHeartbeats 4000000 in
set_option maxRecDepth 100000 in
theorem c_L_weigh_2 (l : Launch) (D : va_G) (cy : Nat → ClassId) (hst : l.stackTraces = false) (ad : Nat → Nat) (ch : Int32) {g : GT} (hg : gOK g) {x y : Int32} (h1 : isN x (gE g) = true) (h : isW y = false) : LN l yL_weigh wsL_weigh ({ frames := 7, cells := 1, slots := 6, locals := 112 }) D cy [.ref (ad 0), .int x, .int y] [(ad 0, .inr (4, [.ref (ad 1), .ref (ad 7), .ref (ad 8), .ref (ad 9)])), (ad 1, .inr (0, [.int (nI (gV g)), .int (nI (gC g)), .int (nI (gE g)), .int ch, .ref (ad 2), .ref (ad 3), .ref (ad 4), .ref (ad 5), .ref (ad 6)])), (ad 2, .inl (cy 0, 6, .inl (fun i => nI (gL g i)))), (ad 3, .inl (cy 0, 14, .inl (fun i => nI (gF g i)))), (ad 4, .inl (cy 0, 14, .inl (fun i => nI (gS g i)))), (ad 5, .inl (cy 0, 14, .inl (fun i => nI (gH g i)))), (ad 6, .inl (cy 0, 14, .inl (fun i => zI (gW g i))))] 2 := by
  refine vx_ofWH (cc := cL_weigh) (maxL := 4) (ret := (some .int)) (hh := [(0, 6, 9, 18), (0, 6, 12, 13)]) (by decide) rfl ?_
  intro p ev s m args below meth c s₁ B hml hv
  obtain ⟨rfl, ⟨hK, hP⟩, hT⟩ := hv
  have hx := B.exec
  have hb := B.bytes
  have hr := B.returns
  have hts := atoms_spec (ws := wsL_weigh) B.pre
  have htab := vx_table (x := yL_weigh) B (hts _ List.mem_cons_self)
  have hown : s.vm.findClass RL = some m.cls := findClass_of_methodNamed B.named
  have hlocks := B.notSynchronized
  have hS : va_S (fun _ => False) s.heap s.heap [] := va_S.rf
  have hP : va_P D vwCl [(ad 0, .inr (4, [.ref (ad 1), .ref (ad 7), .ref (ad 8), .ref (ad 9)])), (ad 1, .inr (0, [.int (nI (gV g)), .int (nI (gC g)), .int (nI (gE g)), .int ch, .ref (ad 2), .ref (ad 3), .ref (ad 4), .ref (ad 5), .ref (ad 6)])), (ad 2, .inl (cy 0, 6, .inl (fun i => nI (gL g i)))), (ad 3, .inl (cy 0, 14, .inl (fun i => nI (gF g i)))), (ad 4, .inl (cy 0, 14, .inl (fun i => nI (gS g i)))), (ad 5, .inl (cy 0, 14, .inl (fun i => nI (gH g i)))), (ad 6, .inl (cy 0, 14, .inl (fun i => zI (gW g i))))] s.heap := hP
  have hl := lv_entry ([.ref (ad 0), .int x, .int y]) (n := 4) (Nat.le_of_ble_eq_true rfl)
  rw [lg_entry_eq]
  generalize (lg_sl ([.ref (ad 0), .int x, .int y]) ++ List.replicate (4 - (lg_sl ([.ref (ad 0), .int x, .int y])).length) Slot.unset).toArray = ls at hl ⊢
  have hl : lv_has ls 4 [(0, .ref (ad 0)), (1, .int x), (2, .int y)] := hl
  have hgen := True.intro
  refine lv_aload_n hx hb dL_weigh_0 rfl (lv_at hl 0 rfl) ?_
  refine lv_iload_n hx hb dL_weigh_1 rfl (lv_at hl 1 rfl) ?_
  refine lv_iload_n hx hb dL_weigh_2 rfl (lv_at hl 2 rfl) ?_
  refine xt_catch (vx_runV (As := [.int x, .int y]) (rest := []) ⟨hx, hb, hml, hown, hts⟩ (c_X5_weigh_2 l D cy hst ad ch hg h1 h) (cwV 2 hts gL_weigh_X5_weigh rfl rfl rfl (by decide +kernel) ⟨Nat.le_of_ble_eq_true rfl, Nat.le_of_ble_eq_true rfl⟩) (XT_preV (ci := 4) (q0 := 0) hK hP hT hS rfl rfl [0, 1, 2, 3, 4, 5, 6] rfl) rfl rfl hl.1 rfl (lv_room (Nat.le_of_ble_eq_true rfl)) dL_weigh_3 ⟨Nat.le_of_ble_eq_true rfl, Nat.le_of_ble_eq_true rfl⟩) hS hP hown [⟨0, 6, 9, 18⟩] ⟨0, 6, 12, 13⟩ [] (by rw [htab]; rfl) (fun z hz => by rcases List.mem_singleton.mp hz with rfl; exact Or.inr ⟨by decide, "java/lang/IndexOutOfBoundsException", (hts (.classLink RL 18 "java/lang/IndexOutOfBoundsException") (List.mem_of_getElem? (i := 1) rfl)), hT.1.2.1⟩) (by decide) (by decide) (hts (.classLink RL 13 "java/lang/IllegalArgumentException") (List.mem_of_getElem? (i := 2) rfl)) (hT.1.1 _ (List.mem_of_getElem? (i := 0) rfl)) (fun q9 H locs hP hS => ?_)
  refine lv_astore_n (lv' := [(3, .ref q9), (0, .ref (ad 0)), (1, .int x), (2, .int y)]) hx hb dL_weigh_12 rfl hl (by decide) rfl (fun ls hl => ?_)
  refine lv_iconst (v := nI 2) hx hb dL_weigh_13 (by decide) ?_
  exact ln_ret hx hb hr hlocks hS dL_weigh_14

set_option maxHeartbeats 4000000 in
set_option maxRecDepth 100000 in
theorem c_L_weight_no (l : Launch) (D : va_G) (cy : Nat → ClassId) (hst : l.stackTraces = false) (ad : Nat → Nat) (ch : Int32) {g : GT} (hg : gOK g) {sn wf cs ms wd : Int32} {fd fw fp frm ft : Nat → Int32} (hv9 : sn = ch → wf = nI (sF g (2 ^ gE g)) ∧ cs = nI (nP (co g) (2 ^ gE g)) ∧ ms = nI (mo g (2 ^ gE g)) ∧ wd = nI (sW g (2 ^ gE g)) ∧ tabs g (2 ^ gE g) fd fw) {x : Int32} (h : isN x (moA g + 1) = false) : LX l yL_weight wsL_weight ({ frames := 7, cells := 1, slots := 6, locals := 138 }) D cy [.ref (ad 0), .int x, .ref (ad 31)] (wX cy ad ch g sn wf cs ms wd fd fw fp frm ft) (fun u : (Nat → Int32) × (Nat → Int32) × (Nat → Int32) × (Nat → Int32) × (Nat → Int32) => tabs g (2 ^ gE g) u.1 u.2.1) (fun u : (Nat → Int32) × (Nat → Int32) × (Nat → Int32) × (Nat → Int32) × (Nat → Int32) => wX cy ad ch g ch (nI (sF g (2 ^ gE g))) (nI (nP (co g) (2 ^ gE g))) (nI (mo g (2 ^ gE g))) (nI (sW g (2 ^ gE g))) u.1 u.2.1 u.2.2.1 u.2.2.2.1 u.2.2.2.2) 1 := by
  refine vx_ofWH (cc := cL_weight) (maxL := 4) (ret := (some .int)) (hh := [(0, 9, 12, 13)]) (by decide) rfl ?_
  intro p ev s m args below meth c s₁ B hml hv
  obtain ⟨rfl, ⟨⟨hK, hP⟩, hD0⟩, hT⟩ := hv
  have hx := B.exec
  have hb := B.bytes
  have hr := B.returns
  have hts := atoms_spec (ws := wsL_weight) B.pre
  have htab := vx_table (x := yL_weight) B (hts _ List.mem_cons_self)
  have hown : s.vm.findClass RL = some m.cls := findClass_of_methodNamed B.named
  have hlocks := B.notSynchronized
  have hD : va_D (inW (wX cy ad ch g sn wf cs ms wd fd fw fp frm ft)) (wX cy ad ch g sn wf cs ms wd fd fw fp frm ft) := inW_self hD0
  have hS : va_S (inW (wX cy ad ch g sn wf cs ms wd fd fw fp frm ft)) s.heap s.heap [] := va_S.rf
  have hP : va_P D vwCl (wX cy ad ch g sn wf cs ms wd fd fw fp frm ft) s.heap := hP
  have hl := lv_entry ([.ref (ad 0), .int x, .ref (ad 31)]) (n := 4) (Nat.le_of_ble_eq_true rfl)
  rw [lg_entry_eq]
  generalize (lg_sl ([.ref (ad 0), .int x, .ref (ad 31)]) ++ List.replicate (4 - (lg_sl ([.ref (ad 0), .int x, .ref (ad 31)])).length) Slot.unset).toArray = ls at hl ⊢
  have hl : lv_has ls 4 [(0, .ref (ad 0)), (1, .int x), (2, .ref (ad 31))] := hl
  have hgen := True.intro
  refine lv_aload_n hx hb dL_weight_0 rfl (lv_at hl 2 rfl) ?_
  refine lv_iconst (v := nI 0) hx hb dL_weight_1 (by decide) ?_
  refine lv_aload_n hx hb dL_weight_2 rfl (lv_at hl 0 rfl) ?_
  refine lv_iload_n hx hb dL_weight_3 rfl (lv_at hl 1 rfl) ?_
  refine xn_catch [0, 1, 2, 3, 4, 5, 6, 7, 8, 9, 10, 11, 12, 13, 14] (vx_runV (As := [.int x]) (rest := [.int (nI 0), .ref (ad 31)]) ⟨hx, hb, hml, hown, hts⟩ (c_X5_weight_no l D cy hst ad ch hg (sn := sn) (wf := wf) (cs := cs) (ms := ms) (wd := wd) (fd := fd) (fw := fw) (fp := fp) (frm := frm) (ft := ft) hv9 h) (cwV 1 hts gL_weight_X5_weight rfl rfl rfl (by decide +kernel) ⟨Nat.le_of_ble_eq_true rfl, Nat.le_of_ble_eq_true rfl⟩) (XN_preV (ci := 4) (q0 := 0) hK hP hD hT hS rfl rfl [0, 1, 2, 3, 4, 5, 6, 7, 8, 9, 10, 11, 12, 13, 14] (by decide) rfl rfl) rfl rfl hl.1 rfl (lv_room (Nat.le_of_ble_eq_true rfl)) dL_weight_4 ⟨Nat.le_of_ble_eq_true rfl, Nat.le_of_ble_eq_true rfl⟩) hS hP hD rfl (fun _ => rfl) (fun _ => rfl) hown ⟨0, 9, 12, 13⟩ [] (by rw [htab]; rfl) (by decide) (by decide) (hts (.classLink RL 13 "java/lang/IllegalArgumentException") (List.mem_of_getElem? (i := 1) rfl)) (hT.1.1 _ (List.mem_of_getElem? (i := 0) rfl)) (fun u4 q9 H locs w4 hP hD hS => ?_)
  have hP : va_P D vwCl [(ad 0, .inr (4, [.ref (ad 1), .ref (ad 7), .ref (ad 8), .ref (ad 9)])), (ad 7, .inr (2, [.ref (ad 1)])), (ad 8, .inr (1, [.ref (ad 1)])), (ad 9, .inr (3, [.ref (ad 1), .int ch, .int (nI (sF g (2 ^ gE g))), .int (nI (nP (co g) (2 ^ gE g))), .int (nI (mo g (2 ^ gE g))), .ref (ad 10), .ref (ad 11), .int (nI (sW g (2 ^ gE g))), .ref (ad 12), .ref (ad 13), .ref (ad 14)])), (ad 10, .inl (cy 0, 8, .inl u4.1)), (ad 11, .inl (cy 0, 8, .inl u4.2.1)), (ad 12, .inl (cy 0, 15, .inl u4.2.2.1)), (ad 13, .inl (cy 0, 15, .inl u4.2.2.2.1)), (ad 14, .inl (cy 0, 15, .inl u4.2.2.2.2)), (ad 1, .inr (0, [.int (nI (gV g)), .int (nI (gC g)), .int (nI (gE g)), .int ch, .ref (ad 2), .ref (ad 3), .ref (ad 4), .ref (ad 5), .ref (ad 6)])), (ad 2, .inl (cy 0, 6, .inl (fun i => nI (gL g i)))), (ad 3, .inl (cy 0, 14, .inl (fun i => nI (gF g i)))), (ad 4, .inl (cy 0, 14, .inl (fun i => nI (gS g i)))), (ad 5, .inl (cy 0, 14, .inl (fun i => nI (gH g i)))), (ad 6, .inl (cy 0, 14, .inl (fun i => zI (gW g i))))] H := hP
  have hD : va_D (inW (wX cy ad ch g sn wf cs ms wd fd fw fp frm ft)) [(ad 0, .inr (4, [.ref (ad 1), .ref (ad 7), .ref (ad 8), .ref (ad 9)])), (ad 7, .inr (2, [.ref (ad 1)])), (ad 8, .inr (1, [.ref (ad 1)])), (ad 9, .inr (3, [.ref (ad 1), .int ch, .int (nI (sF g (2 ^ gE g))), .int (nI (nP (co g) (2 ^ gE g))), .int (nI (mo g (2 ^ gE g))), .ref (ad 10), .ref (ad 11), .int (nI (sW g (2 ^ gE g))), .ref (ad 12), .ref (ad 13), .ref (ad 14)])), (ad 10, .inl (cy 0, 8, .inl u4.1)), (ad 11, .inl (cy 0, 8, .inl u4.2.1)), (ad 12, .inl (cy 0, 15, .inl u4.2.2.1)), (ad 13, .inl (cy 0, 15, .inl u4.2.2.2.1)), (ad 14, .inl (cy 0, 15, .inl u4.2.2.2.2)), (ad 1, .inr (0, [.int (nI (gV g)), .int (nI (gC g)), .int (nI (gE g)), .int ch, .ref (ad 2), .ref (ad 3), .ref (ad 4), .ref (ad 5), .ref (ad 6)])), (ad 2, .inl (cy 0, 6, .inl (fun i => nI (gL g i)))), (ad 3, .inl (cy 0, 14, .inl (fun i => nI (gF g i)))), (ad 4, .inl (cy 0, 14, .inl (fun i => nI (gS g i)))), (ad 5, .inl (cy 0, 14, .inl (fun i => nI (gH g i)))), (ad 6, .inl (cy 0, 14, .inl (fun i => zI (gW g i))))] := hD
  refine lv_astore_n (lv' := [(3, .ref q9), (0, .ref (ad 0)), (1, .int x), (2, .ref (ad 31))]) hx hb dL_weight_12 rfl hl (by decide) rfl (fun ls hl => ?_)
  refine lv_iconst (v := nI 1) hx hb dL_weight_13 (by decide) ?_
  exact ly_ret u4 hx hb hr hlocks hS hP ⟨rfl, w4⟩ dL_weight_14

set_option maxHeartbeats 4000000 in
set_option maxRecDepth 100000 in
theorem c_L_make_yes (l : Launch) (D : va_G) (cy : Nat → ClassId) (ad : Nat → Nat) (ch : Int32) (g : GT) {a b : Nat} (ha : 1 ≤ a ∧ a ≤ 8) (hb9 : 1 ≤ b ∧ b ≤ 6) : LY l yL_make wsL_make ({ frames := 3, cells := 0, slots := 0, locals := 67 }) D cy [.ref (ad 0), .int (nI a), .int (nI b)] [(ad 0, .inr (4, [.ref (ad 1), .ref (ad 7), .ref (ad 8), .ref (ad 9)])), (ad 1, .inr (0, [.int (nI (gV g)), .int (nI (gC g)), .int (nI (gE g)), .int ch, .ref (ad 2), .ref (ad 3), .ref (ad 4), .ref (ad 5), .ref (ad 6)])), (ad 2, .inl (cy 0, 6, .inl (fun i => nI (gL g i))))] (fun (r : Int32) (_ : Unit) => r = nI 0) (fun _ : Unit => [(ad 0, .inr (4, [.ref (ad 1), .ref (ad 7), .ref (ad 8), .ref (ad 9)])), (ad 1, .inr (0, [.int (nI (gV (mkG a b g))), .int (nI (gC (mkG a b g))), .int (nI (gE (mkG a b g))), .int (ch + nI 1), .ref (ad 2), .ref (ad 3), .ref (ad 4), .ref (ad 5), .ref (ad 6)])), (ad 2, .inl (cy 0, 6, .inl (fun i => nI (gL (mkG a b g) i))))]) := by
  refine vx_ofWH (cc := cL_make) (maxL := 4) (ret := (some .int)) (hh := [(0, 6, 9, 13)]) (by decide) rfl ?_
  intro p ev s m args below meth c s₁ B hml hv
  obtain ⟨rfl, ⟨hK, hP⟩, hD0⟩ := hv
  have hx := B.exec
  have hb := B.bytes
  have hr := B.returns
  have hts := atoms_spec (ws := wsL_make) B.pre
  have htab := vx_table (x := yL_make) B (hts _ List.mem_cons_self)
  have hown : s.vm.findClass RL = some m.cls := findClass_of_methodNamed B.named
  have hlocks := B.notSynchronized
  have hD : va_D (inW [(ad 0, .inr (4, [.ref (ad 1), .ref (ad 7), .ref (ad 8), .ref (ad 9)])), (ad 1, .inr (0, [.int (nI (gV g)), .int (nI (gC g)), .int (nI (gE g)), .int ch, .ref (ad 2), .ref (ad 3), .ref (ad 4), .ref (ad 5), .ref (ad 6)])), (ad 2, .inl (cy 0, 6, .inl (fun i => nI (gL g i))))]) ([(ad 0, .inr (4, [.ref (ad 1), .ref (ad 7), .ref (ad 8), .ref (ad 9)])), (ad 1, .inr (0, [.int (nI (gV g)), .int (nI (gC g)), .int (nI (gE g)), .int ch, .ref (ad 2), .ref (ad 3), .ref (ad 4), .ref (ad 5), .ref (ad 6)])), (ad 2, .inl (cy 0, 6, .inl (fun i => nI (gL g i))))]) := inW_self hD0
  have hS : va_S (inW [(ad 0, .inr (4, [.ref (ad 1), .ref (ad 7), .ref (ad 8), .ref (ad 9)])), (ad 1, .inr (0, [.int (nI (gV g)), .int (nI (gC g)), .int (nI (gE g)), .int ch, .ref (ad 2), .ref (ad 3), .ref (ad 4), .ref (ad 5), .ref (ad 6)])), (ad 2, .inl (cy 0, 6, .inl (fun i => nI (gL g i))))]) s.heap s.heap [] := va_S.rf
  have hP : va_P D vwCl [(ad 0, .inr (4, [.ref (ad 1), .ref (ad 7), .ref (ad 8), .ref (ad 9)])), (ad 1, .inr (0, [.int (nI (gV g)), .int (nI (gC g)), .int (nI (gE g)), .int ch, .ref (ad 2), .ref (ad 3), .ref (ad 4), .ref (ad 5), .ref (ad 6)])), (ad 2, .inl (cy 0, 6, .inl (fun i => nI (gL g i))))] s.heap := hP
  have hl := lv_entry ([.ref (ad 0), .int (nI a), .int (nI b)]) (n := 4) (Nat.le_of_ble_eq_true rfl)
  rw [lg_entry_eq]
  generalize (lg_sl ([.ref (ad 0), .int (nI a), .int (nI b)]) ++ List.replicate (4 - (lg_sl ([.ref (ad 0), .int (nI a), .int (nI b)])).length) Slot.unset).toArray = ls at hl ⊢
  have hl : lv_has ls 4 [(0, .ref (ad 0)), (1, .int (nI a)), (2, .int (nI b))] := hl
  have hgen := True.intro
  refine lv_aload_n hx hb dL_make_0 rfl (lv_at hl 0 rfl) ?_
  refine lv_iload_n hx hb dL_make_1 rfl (lv_at hl 1 rfl) ?_
  refine lv_iload_n hx hb dL_make_2 rfl (lv_at hl 2 rfl) ?_
  refine wr_callv [0, 1, 2] (va_runV (As := [.int (nI a), .int (nI b)]) (rest := []) ⟨hx, hb, hml, hown, hts⟩ (c_X5_make_yes l D cy ad ch g ha hb9) (cwV 2 hts gL_make_X5_make rfl rfl rfl (by decide +kernel) ⟨Nat.le_of_ble_eq_true rfl, Nat.le_of_ble_eq_true rfl⟩) (WR_preV (ci := 4) (q0 := 0) hK hP hD rfl rfl [0, 1, 2] (by decide) rfl rfl) rfl rfl hl.1 rfl (lv_room (Nat.le_of_ble_eq_true rfl)) dL_make_3 ⟨(Nat.zero_le _), (Nat.zero_le _)⟩) hS hP hD rfl (fun _ => rfl) (fun _ => rfl) (fun u3 H locs w3 hP hD hS => ?_)
  have hP : va_P D vwCl [(ad 0, .inr (4, [.ref (ad 1), .ref (ad 7), .ref (ad 8), .ref (ad 9)])), (ad 1, .inr (0, [.int (nI (gV (mkG a b g))), .int (nI (gC (mkG a b g))), .int (nI (gE (mkG a b g))), .int (ch + nI 1), .ref (ad 2), .ref (ad 3), .ref (ad 4), .ref (ad 5), .ref (ad 6)])), (ad 2, .inl (cy 0, 6, .inl (fun i => nI (gL (mkG a b g) i))))] H := hP
  have hD : va_D (inW [(ad 0, .inr (4, [.ref (ad 1), .ref (ad 7), .ref (ad 8), .ref (ad 9)])), (ad 1, .inr (0, [.int (nI (gV g)), .int (nI (gC g)), .int (nI (gE g)), .int ch, .ref (ad 2), .ref (ad 3), .ref (ad 4), .ref (ad 5), .ref (ad 6)])), (ad 2, .inl (cy 0, 6, .inl (fun i => nI (gL g i))))]) [(ad 0, .inr (4, [.ref (ad 1), .ref (ad 7), .ref (ad 8), .ref (ad 9)])), (ad 1, .inr (0, [.int (nI (gV (mkG a b g))), .int (nI (gC (mkG a b g))), .int (nI (gE (mkG a b g))), .int (ch + nI 1), .ref (ad 2), .ref (ad 3), .ref (ad 4), .ref (ad 5), .ref (ad 6)])), (ad 2, .inl (cy 0, 6, .inl (fun i => nI (gL (mkG a b g) i))))] := hD
  refine lv_goto (tgt := 12) hx hb dL_make_6 (by decide) ?_
  refine lv_iconst (v := nI 0) hx hb dL_make_12 (by decide) ?_
  exact ly_ret () hx hb hr hlocks hS hP rfl dL_make_13

set_option maxHeartbeats 4000000 in
set_option maxRecDepth 100000 in
theorem c_L_limit_0 (l : Launch) (D : va_G) (cy : Nat → ClassId) (ad : Nat → Nat) (ch : Int32) {g : GT} (hg : gOK g) {c9 n9 : Nat} (hc9 : c9 < gC g) (hn9 : n9 ≤ 14) : LY l yL_limit wsL_limit ({ frames := 3, cells := 0, slots := 0, locals := 65 }) D cy [.ref (ad 0), .int (nI c9), .int (nI n9)] [(ad 0, .inr (4, [.ref (ad 1), .ref (ad 7), .ref (ad 8), .ref (ad 9)])), (ad 1, .inr (0, [.int (nI (gV g)), .int (nI (gC g)), .int (nI (gE g)), .int ch, .ref (ad 2), .ref (ad 3), .ref (ad 4), .ref (ad 5), .ref (ad 6)])), (ad 2, .inl (cy 0, 6, .inl (fun i => nI (gL g i)))), (ad 3, .inl (cy 0, 14, .inl (fun i => nI (gF g i)))), (ad 4, .inl (cy 0, 14, .inl (fun i => nI (gS g i)))), (ad 5, .inl (cy 0, 14, .inl (fun i => nI (gH g i)))), (ad 6, .inl (cy 0, 14, .inl (fun i => zI (gW g i))))] (fun (r : Int32) (_ : Unit) => r = nI 0) (fun _ : Unit => [(ad 0, .inr (4, [.ref (ad 1), .ref (ad 7), .ref (ad 8), .ref (ad 9)])), (ad 1, .inr (0, [.int (nI (gV (liG c9 n9 g))), .int (nI (gC (liG c9 n9 g))), .int (nI (gE (liG c9 n9 g))), .int (ch + nI 1), .ref (ad 2), .ref (ad 3), .ref (ad 4), .ref (ad 5), .ref (ad 6)])), (ad 2, .inl (cy 0, 6, .inl (fun i => nI (gL (liG c9 n9 g) i)))), (ad 3, .inl (cy 0, 14, .inl (fun i => nI (gF g i)))), (ad 4, .inl (cy 0, 14, .inl (fun i => nI (gS g i)))), (ad 5, .inl (cy 0, 14, .inl (fun i => nI (gH g i)))), (ad 6, .inl (cy 0, 14, .inl (fun i => zI (gW g i))))]) := by
  refine vx_ofWH (cc := cL_limit) (maxL := 4) (ret := (some .int)) (hh := [(0, 6, 9, 18), (0, 6, 12, 13)]) (by decide) rfl ?_
  intro p ev s m args below meth c s₁ B hml hv
  obtain ⟨rfl, ⟨hK, hP⟩, hD0⟩ := hv
  have hx := B.exec
  have hb := B.bytes
  have hr := B.returns
  have hts := atoms_spec (ws := wsL_limit) B.pre
  have htab := vx_table (x := yL_limit) B (hts _ List.mem_cons_self)
  have hown : s.vm.findClass RL = some m.cls := findClass_of_methodNamed B.named
  have hlocks := B.notSynchronized
  have hD : va_D (inW [(ad 0, .inr (4, [.ref (ad 1), .ref (ad 7), .ref (ad 8), .ref (ad 9)])), (ad 1, .inr (0, [.int (nI (gV g)), .int (nI (gC g)), .int (nI (gE g)), .int ch, .ref (ad 2), .ref (ad 3), .ref (ad 4), .ref (ad 5), .ref (ad 6)])), (ad 2, .inl (cy 0, 6, .inl (fun i => nI (gL g i)))), (ad 3, .inl (cy 0, 14, .inl (fun i => nI (gF g i)))), (ad 4, .inl (cy 0, 14, .inl (fun i => nI (gS g i)))), (ad 5, .inl (cy 0, 14, .inl (fun i => nI (gH g i)))), (ad 6, .inl (cy 0, 14, .inl (fun i => zI (gW g i))))]) ([(ad 0, .inr (4, [.ref (ad 1), .ref (ad 7), .ref (ad 8), .ref (ad 9)])), (ad 1, .inr (0, [.int (nI (gV g)), .int (nI (gC g)), .int (nI (gE g)), .int ch, .ref (ad 2), .ref (ad 3), .ref (ad 4), .ref (ad 5), .ref (ad 6)])), (ad 2, .inl (cy 0, 6, .inl (fun i => nI (gL g i)))), (ad 3, .inl (cy 0, 14, .inl (fun i => nI (gF g i)))), (ad 4, .inl (cy 0, 14, .inl (fun i => nI (gS g i)))), (ad 5, .inl (cy 0, 14, .inl (fun i => nI (gH g i)))), (ad 6, .inl (cy 0, 14, .inl (fun i => zI (gW g i))))]) := inW_self hD0
  have hS : va_S (inW [(ad 0, .inr (4, [.ref (ad 1), .ref (ad 7), .ref (ad 8), .ref (ad 9)])), (ad 1, .inr (0, [.int (nI (gV g)), .int (nI (gC g)), .int (nI (gE g)), .int ch, .ref (ad 2), .ref (ad 3), .ref (ad 4), .ref (ad 5), .ref (ad 6)])), (ad 2, .inl (cy 0, 6, .inl (fun i => nI (gL g i)))), (ad 3, .inl (cy 0, 14, .inl (fun i => nI (gF g i)))), (ad 4, .inl (cy 0, 14, .inl (fun i => nI (gS g i)))), (ad 5, .inl (cy 0, 14, .inl (fun i => nI (gH g i)))), (ad 6, .inl (cy 0, 14, .inl (fun i => zI (gW g i))))]) s.heap s.heap [] := va_S.rf
  have hP : va_P D vwCl [(ad 0, .inr (4, [.ref (ad 1), .ref (ad 7), .ref (ad 8), .ref (ad 9)])), (ad 1, .inr (0, [.int (nI (gV g)), .int (nI (gC g)), .int (nI (gE g)), .int ch, .ref (ad 2), .ref (ad 3), .ref (ad 4), .ref (ad 5), .ref (ad 6)])), (ad 2, .inl (cy 0, 6, .inl (fun i => nI (gL g i)))), (ad 3, .inl (cy 0, 14, .inl (fun i => nI (gF g i)))), (ad 4, .inl (cy 0, 14, .inl (fun i => nI (gS g i)))), (ad 5, .inl (cy 0, 14, .inl (fun i => nI (gH g i)))), (ad 6, .inl (cy 0, 14, .inl (fun i => zI (gW g i))))] s.heap := hP
  have hl := lv_entry ([.ref (ad 0), .int (nI c9), .int (nI n9)]) (n := 4) (Nat.le_of_ble_eq_true rfl)
  rw [lg_entry_eq]
  generalize (lg_sl ([.ref (ad 0), .int (nI c9), .int (nI n9)]) ++ List.replicate (4 - (lg_sl ([.ref (ad 0), .int (nI c9), .int (nI n9)])).length) Slot.unset).toArray = ls at hl ⊢
  have hl : lv_has ls 4 [(0, .ref (ad 0)), (1, .int (nI c9)), (2, .int (nI n9))] := hl
  have hgen := True.intro
  refine lv_aload_n hx hb dL_limit_0 rfl (lv_at hl 0 rfl) ?_
  refine lv_iload_n hx hb dL_limit_1 rfl (lv_at hl 1 rfl) ?_
  refine lv_iload_n hx hb dL_limit_2 rfl (lv_at hl 2 rfl) ?_
  refine wr_callv [0, 1, 2, 3, 4, 5, 6] (va_runV (As := [.int (nI c9), .int (nI n9)]) (rest := []) ⟨hx, hb, hml, hown, hts⟩ (c_X5_limit_0 l D cy ad ch hg hc9 hn9) (cwV 2 hts gL_limit_X5_limit rfl rfl rfl (by decide +kernel) ⟨Nat.le_of_ble_eq_true rfl, Nat.le_of_ble_eq_true rfl⟩) (WR_preV (ci := 4) (q0 := 0) hK hP hD rfl rfl [0, 1, 2, 3, 4, 5, 6] (by decide) rfl rfl) rfl rfl hl.1 rfl (lv_room (Nat.le_of_ble_eq_true rfl)) dL_limit_3 ⟨(Nat.zero_le _), (Nat.zero_le _)⟩) hS hP hD rfl (fun _ => rfl) (fun _ => rfl) (fun u3 H locs w3 hP hD hS => ?_)
  have hP : va_P D vwCl [(ad 0, .inr (4, [.ref (ad 1), .ref (ad 7), .ref (ad 8), .ref (ad 9)])), (ad 1, .inr (0, [.int (nI (gV (liG c9 n9 g))), .int (nI (gC (liG c9 n9 g))), .int (nI (gE (liG c9 n9 g))), .int (ch + nI 1), .ref (ad 2), .ref (ad 3), .ref (ad 4), .ref (ad 5), .ref (ad 6)])), (ad 2, .inl (cy 0, 6, .inl (fun i => nI (gL (liG c9 n9 g) i)))), (ad 3, .inl (cy 0, 14, .inl (fun i => nI (gF g i)))), (ad 4, .inl (cy 0, 14, .inl (fun i => nI (gS g i)))), (ad 5, .inl (cy 0, 14, .inl (fun i => nI (gH g i)))), (ad 6, .inl (cy 0, 14, .inl (fun i => zI (gW g i))))] H := hP
  have hD : va_D (inW [(ad 0, .inr (4, [.ref (ad 1), .ref (ad 7), .ref (ad 8), .ref (ad 9)])), (ad 1, .inr (0, [.int (nI (gV g)), .int (nI (gC g)), .int (nI (gE g)), .int ch, .ref (ad 2), .ref (ad 3), .ref (ad 4), .ref (ad 5), .ref (ad 6)])), (ad 2, .inl (cy 0, 6, .inl (fun i => nI (gL g i)))), (ad 3, .inl (cy 0, 14, .inl (fun i => nI (gF g i)))), (ad 4, .inl (cy 0, 14, .inl (fun i => nI (gS g i)))), (ad 5, .inl (cy 0, 14, .inl (fun i => nI (gH g i)))), (ad 6, .inl (cy 0, 14, .inl (fun i => zI (gW g i))))]) [(ad 0, .inr (4, [.ref (ad 1), .ref (ad 7), .ref (ad 8), .ref (ad 9)])), (ad 1, .inr (0, [.int (nI (gV (liG c9 n9 g))), .int (nI (gC (liG c9 n9 g))), .int (nI (gE (liG c9 n9 g))), .int (ch + nI 1), .ref (ad 2), .ref (ad 3), .ref (ad 4), .ref (ad 5), .ref (ad 6)])), (ad 2, .inl (cy 0, 6, .inl (fun i => nI (gL (liG c9 n9 g) i)))), (ad 3, .inl (cy 0, 14, .inl (fun i => nI (gF g i)))), (ad 4, .inl (cy 0, 14, .inl (fun i => nI (gS g i)))), (ad 5, .inl (cy 0, 14, .inl (fun i => nI (gH g i)))), (ad 6, .inl (cy 0, 14, .inl (fun i => zI (gW g i))))] := hD
  refine lv_goto (tgt := 15) hx hb dL_limit_6 (by decide) ?_
  refine lv_iconst (v := nI 0) hx hb dL_limit_15 (by decide) ?_
  exact ly_ret () hx hb hr hlocks hS hP rfl dL_limit_16

set_option maxHeartbeats 4000000 in
set_option maxRecDepth 100000 in
theorem c_L_weigh_0 (l : Launch) (D : va_G) (cy : Nat → ClassId) (ad : Nat → Nat) (ch : Int32) {g : GT} (hg : gOK g) {e : Nat} {w : Int} (he : e < gE g) (hw : -9999 ≤ w ∧ w ≤ 9999) : LY l yL_weigh wsL_weigh ({ frames := 3, cells := 0, slots := 0, locals := 65 }) D cy [.ref (ad 0), .int (nI e), .int (zI w)] [(ad 0, .inr (4, [.ref (ad 1), .ref (ad 7), .ref (ad 8), .ref (ad 9)])), (ad 1, .inr (0, [.int (nI (gV g)), .int (nI (gC g)), .int (nI (gE g)), .int ch, .ref (ad 2), .ref (ad 3), .ref (ad 4), .ref (ad 5), .ref (ad 6)])), (ad 2, .inl (cy 0, 6, .inl (fun i => nI (gL g i)))), (ad 3, .inl (cy 0, 14, .inl (fun i => nI (gF g i)))), (ad 4, .inl (cy 0, 14, .inl (fun i => nI (gS g i)))), (ad 5, .inl (cy 0, 14, .inl (fun i => nI (gH g i)))), (ad 6, .inl (cy 0, 14, .inl (fun i => zI (gW g i))))] (fun (r : Int32) (_ : Unit) => r = nI 0) (fun _ : Unit => [(ad 0, .inr (4, [.ref (ad 1), .ref (ad 7), .ref (ad 8), .ref (ad 9)])), (ad 1, .inr (0, [.int (nI (gV (weG e w g))), .int (nI (gC (weG e w g))), .int (nI (gE (weG e w g))), .int (ch + nI 1), .ref (ad 2), .ref (ad 3), .ref (ad 4), .ref (ad 5), .ref (ad 6)])), (ad 2, .inl (cy 0, 6, .inl (fun i => nI (gL g i)))), (ad 3, .inl (cy 0, 14, .inl (fun i => nI (gF g i)))), (ad 4, .inl (cy 0, 14, .inl (fun i => nI (gS g i)))), (ad 5, .inl (cy 0, 14, .inl (fun i => nI (gH g i)))), (ad 6, .inl (cy 0, 14, .inl (fun i => zI (gW (weG e w g) i))))]) := by
  refine vx_ofWH (cc := cL_weigh) (maxL := 4) (ret := (some .int)) (hh := [(0, 6, 9, 18), (0, 6, 12, 13)]) (by decide) rfl ?_
  intro p ev s m args below meth c s₁ B hml hv
  obtain ⟨rfl, ⟨hK, hP⟩, hD0⟩ := hv
  have hx := B.exec
  have hb := B.bytes
  have hr := B.returns
  have hts := atoms_spec (ws := wsL_weigh) B.pre
  have htab := vx_table (x := yL_weigh) B (hts _ List.mem_cons_self)
  have hown : s.vm.findClass RL = some m.cls := findClass_of_methodNamed B.named
  have hlocks := B.notSynchronized
  have hD : va_D (inW [(ad 0, .inr (4, [.ref (ad 1), .ref (ad 7), .ref (ad 8), .ref (ad 9)])), (ad 1, .inr (0, [.int (nI (gV g)), .int (nI (gC g)), .int (nI (gE g)), .int ch, .ref (ad 2), .ref (ad 3), .ref (ad 4), .ref (ad 5), .ref (ad 6)])), (ad 2, .inl (cy 0, 6, .inl (fun i => nI (gL g i)))), (ad 3, .inl (cy 0, 14, .inl (fun i => nI (gF g i)))), (ad 4, .inl (cy 0, 14, .inl (fun i => nI (gS g i)))), (ad 5, .inl (cy 0, 14, .inl (fun i => nI (gH g i)))), (ad 6, .inl (cy 0, 14, .inl (fun i => zI (gW g i))))]) ([(ad 0, .inr (4, [.ref (ad 1), .ref (ad 7), .ref (ad 8), .ref (ad 9)])), (ad 1, .inr (0, [.int (nI (gV g)), .int (nI (gC g)), .int (nI (gE g)), .int ch, .ref (ad 2), .ref (ad 3), .ref (ad 4), .ref (ad 5), .ref (ad 6)])), (ad 2, .inl (cy 0, 6, .inl (fun i => nI (gL g i)))), (ad 3, .inl (cy 0, 14, .inl (fun i => nI (gF g i)))), (ad 4, .inl (cy 0, 14, .inl (fun i => nI (gS g i)))), (ad 5, .inl (cy 0, 14, .inl (fun i => nI (gH g i)))), (ad 6, .inl (cy 0, 14, .inl (fun i => zI (gW g i))))]) := inW_self hD0
  have hS : va_S (inW [(ad 0, .inr (4, [.ref (ad 1), .ref (ad 7), .ref (ad 8), .ref (ad 9)])), (ad 1, .inr (0, [.int (nI (gV g)), .int (nI (gC g)), .int (nI (gE g)), .int ch, .ref (ad 2), .ref (ad 3), .ref (ad 4), .ref (ad 5), .ref (ad 6)])), (ad 2, .inl (cy 0, 6, .inl (fun i => nI (gL g i)))), (ad 3, .inl (cy 0, 14, .inl (fun i => nI (gF g i)))), (ad 4, .inl (cy 0, 14, .inl (fun i => nI (gS g i)))), (ad 5, .inl (cy 0, 14, .inl (fun i => nI (gH g i)))), (ad 6, .inl (cy 0, 14, .inl (fun i => zI (gW g i))))]) s.heap s.heap [] := va_S.rf
  have hP : va_P D vwCl [(ad 0, .inr (4, [.ref (ad 1), .ref (ad 7), .ref (ad 8), .ref (ad 9)])), (ad 1, .inr (0, [.int (nI (gV g)), .int (nI (gC g)), .int (nI (gE g)), .int ch, .ref (ad 2), .ref (ad 3), .ref (ad 4), .ref (ad 5), .ref (ad 6)])), (ad 2, .inl (cy 0, 6, .inl (fun i => nI (gL g i)))), (ad 3, .inl (cy 0, 14, .inl (fun i => nI (gF g i)))), (ad 4, .inl (cy 0, 14, .inl (fun i => nI (gS g i)))), (ad 5, .inl (cy 0, 14, .inl (fun i => nI (gH g i)))), (ad 6, .inl (cy 0, 14, .inl (fun i => zI (gW g i))))] s.heap := hP
  have hl := lv_entry ([.ref (ad 0), .int (nI e), .int (zI w)]) (n := 4) (Nat.le_of_ble_eq_true rfl)
  rw [lg_entry_eq]
  generalize (lg_sl ([.ref (ad 0), .int (nI e), .int (zI w)]) ++ List.replicate (4 - (lg_sl ([.ref (ad 0), .int (nI e), .int (zI w)])).length) Slot.unset).toArray = ls at hl ⊢
  have hl : lv_has ls 4 [(0, .ref (ad 0)), (1, .int (nI e)), (2, .int (zI w))] := hl
  have hgen := True.intro
  refine lv_aload_n hx hb dL_weigh_0 rfl (lv_at hl 0 rfl) ?_
  refine lv_iload_n hx hb dL_weigh_1 rfl (lv_at hl 1 rfl) ?_
  refine lv_iload_n hx hb dL_weigh_2 rfl (lv_at hl 2 rfl) ?_
  refine wr_callv [0, 1, 2, 3, 4, 5, 6] (va_runV (As := [.int (nI e), .int (zI w)]) (rest := []) ⟨hx, hb, hml, hown, hts⟩ (c_X5_weigh_0 l D cy ad ch hg he hw) (cwV 2 hts gL_weigh_X5_weigh rfl rfl rfl (by decide +kernel) ⟨Nat.le_of_ble_eq_true rfl, Nat.le_of_ble_eq_true rfl⟩) (WR_preV (ci := 4) (q0 := 0) hK hP hD rfl rfl [0, 1, 2, 3, 4, 5, 6] (by decide) rfl rfl) rfl rfl hl.1 rfl (lv_room (Nat.le_of_ble_eq_true rfl)) dL_weigh_3 ⟨(Nat.zero_le _), (Nat.zero_le _)⟩) hS hP hD rfl (fun _ => rfl) (fun _ => rfl) (fun u3 H locs w3 hP hD hS => ?_)
  have hP : va_P D vwCl [(ad 0, .inr (4, [.ref (ad 1), .ref (ad 7), .ref (ad 8), .ref (ad 9)])), (ad 1, .inr (0, [.int (nI (gV (weG e w g))), .int (nI (gC (weG e w g))), .int (nI (gE (weG e w g))), .int (ch + nI 1), .ref (ad 2), .ref (ad 3), .ref (ad 4), .ref (ad 5), .ref (ad 6)])), (ad 2, .inl (cy 0, 6, .inl (fun i => nI (gL g i)))), (ad 3, .inl (cy 0, 14, .inl (fun i => nI (gF g i)))), (ad 4, .inl (cy 0, 14, .inl (fun i => nI (gS g i)))), (ad 5, .inl (cy 0, 14, .inl (fun i => nI (gH g i)))), (ad 6, .inl (cy 0, 14, .inl (fun i => zI (gW (weG e w g) i))))] H := hP
  have hD : va_D (inW [(ad 0, .inr (4, [.ref (ad 1), .ref (ad 7), .ref (ad 8), .ref (ad 9)])), (ad 1, .inr (0, [.int (nI (gV g)), .int (nI (gC g)), .int (nI (gE g)), .int ch, .ref (ad 2), .ref (ad 3), .ref (ad 4), .ref (ad 5), .ref (ad 6)])), (ad 2, .inl (cy 0, 6, .inl (fun i => nI (gL g i)))), (ad 3, .inl (cy 0, 14, .inl (fun i => nI (gF g i)))), (ad 4, .inl (cy 0, 14, .inl (fun i => nI (gS g i)))), (ad 5, .inl (cy 0, 14, .inl (fun i => nI (gH g i)))), (ad 6, .inl (cy 0, 14, .inl (fun i => zI (gW g i))))]) [(ad 0, .inr (4, [.ref (ad 1), .ref (ad 7), .ref (ad 8), .ref (ad 9)])), (ad 1, .inr (0, [.int (nI (gV (weG e w g))), .int (nI (gC (weG e w g))), .int (nI (gE (weG e w g))), .int (ch + nI 1), .ref (ad 2), .ref (ad 3), .ref (ad 4), .ref (ad 5), .ref (ad 6)])), (ad 2, .inl (cy 0, 6, .inl (fun i => nI (gL g i)))), (ad 3, .inl (cy 0, 14, .inl (fun i => nI (gF g i)))), (ad 4, .inl (cy 0, 14, .inl (fun i => nI (gS g i)))), (ad 5, .inl (cy 0, 14, .inl (fun i => nI (gH g i)))), (ad 6, .inl (cy 0, 14, .inl (fun i => zI (gW (weG e w g) i))))] := hD
  refine lv_goto (tgt := 15) hx hb dL_weigh_6 (by decide) ?_
  refine lv_iconst (v := nI 0) hx hb dL_weigh_15 (by decide) ?_
  exact ly_ret () hx hb hr hlocks hS hP rfl dL_weigh_16

set_option maxHeartbeats 4000000 in
set_option maxRecDepth 100000 in
theorem c_L_weight_yes (l : Launch) (D : va_G) (cy : Nat → ClassId) (ad : Nat → Nat) (ch : Int32) {g : GT} (hg : gOK g) {sn wf cs ms wd : Int32} {fd fw fp frm ft : Nat → Int32} (hv9 : sn = ch → wf = nI (sF g (2 ^ gE g)) ∧ cs = nI (nP (co g) (2 ^ gE g)) ∧ ms = nI (mo g (2 ^ gE g)) ∧ wd = nI (sW g (2 ^ gE g)) ∧ tabs g (2 ^ gE g) fd fw) (fo : Nat → Int64) {k9 : Nat} (hk9 : k9 ≤ moA g) : LY l yL_weight wsL_weight ({ frames := 6, cells := 0, slots := 0, locals := 138 }) D cy [.ref (ad 0), .int (nI k9), .ref (ad 31)] [(ad 0, .inr (4, [.ref (ad 1), .ref (ad 7), .ref (ad 8), .ref (ad 9)])), (ad 7, .inr (2, [.ref (ad 1)])), (ad 8, .inr (1, [.ref (ad 1)])), (ad 9, .inr (3, [.ref (ad 1), .int sn, .int wf, .int cs, .int ms, .ref (ad 10), .ref (ad 11), .int wd, .ref (ad 12), .ref (ad 13), .ref (ad 14)])), (ad 10, .inl (cy 0, 8, .inl fd)), (ad 11, .inl (cy 0, 8, .inl fw)), (ad 12, .inl (cy 0, 15, .inl fp)), (ad 13, .inl (cy 0, 15, .inl frm)), (ad 14, .inl (cy 0, 15, .inl ft)), (ad 1, .inr (0, [.int (nI (gV g)), .int (nI (gC g)), .int (nI (gE g)), .int ch, .ref (ad 2), .ref (ad 3), .ref (ad 4), .ref (ad 5), .ref (ad 6)])), (ad 2, .inl (cy 0, 6, .inl (fun i => nI (gL g i)))), (ad 3, .inl (cy 0, 14, .inl (fun i => nI (gF g i)))), (ad 4, .inl (cy 0, 14, .inl (fun i => nI (gS g i)))), (ad 5, .inl (cy 0, 14, .inl (fun i => nI (gH g i)))), (ad 6, .inl (cy 0, 14, .inl (fun i => zI (gW g i)))), (ad 31, .inl (cy 2, 1, .inr (.inl fo)))] (fun (r : Int32) (u : (Nat → Int32) × (Nat → Int32) × (Nat → Int32) × (Nat → Int32) × (Nat → Int32)) => r = nI 0 ∧ tabs g (2 ^ gE g) u.1 u.2.1) (fun u : (Nat → Int32) × (Nat → Int32) × (Nat → Int32) × (Nat → Int32) × (Nat → Int32) => [(ad 0, .inr (4, [.ref (ad 1), .ref (ad 7), .ref (ad 8), .ref (ad 9)])), (ad 7, .inr (2, [.ref (ad 1)])), (ad 8, .inr (1, [.ref (ad 1)])), (ad 9, .inr (3, [.ref (ad 1), .int ch, .int (nI (sF g (2 ^ gE g))), .int (nI (nP (co g) (2 ^ gE g))), .int (nI (mo g (2 ^ gE g))), .ref (ad 10), .ref (ad 11), .int (nI (sW g (2 ^ gE g))), .ref (ad 12), .ref (ad 13), .ref (ad 14)])), (ad 10, .inl (cy 0, 8, .inl u.1)), (ad 11, .inl (cy 0, 8, .inl u.2.1)), (ad 12, .inl (cy 0, 15, .inl u.2.2.1)), (ad 13, .inl (cy 0, 15, .inl u.2.2.2.1)), (ad 14, .inl (cy 0, 15, .inl u.2.2.2.2)), (ad 1, .inr (0, [.int (nI (gV g)), .int (nI (gC g)), .int (nI (gE g)), .int ch, .ref (ad 2), .ref (ad 3), .ref (ad 4), .ref (ad 5), .ref (ad 6)])), (ad 2, .inl (cy 0, 6, .inl (fun i => nI (gL g i)))), (ad 3, .inl (cy 0, 14, .inl (fun i => nI (gF g i)))), (ad 4, .inl (cy 0, 14, .inl (fun i => nI (gS g i)))), (ad 5, .inl (cy 0, 14, .inl (fun i => nI (gH g i)))), (ad 6, .inl (cy 0, 14, .inl (fun i => zI (gW g i)))), (ad 31, .inl (cy 2, 1, .inr (.inl (vp_updL fo 0 ((zI (wB g k9)).toInt64)))))]) := by
  refine vx_ofWH (cc := cL_weight) (maxL := 4) (ret := (some .int)) (hh := [(0, 9, 12, 13)]) (by decide) rfl ?_
  intro p ev s m args below meth c s₁ B hml hv
  obtain ⟨rfl, ⟨hK, hP⟩, hD0⟩ := hv
  have hx := B.exec
  have hb := B.bytes
  have hr := B.returns
  have hts := atoms_spec (ws := wsL_weight) B.pre
  have htab := vx_table (x := yL_weight) B (hts _ List.mem_cons_self)
  have hown : s.vm.findClass RL = some m.cls := findClass_of_methodNamed B.named
  have hlocks := B.notSynchronized
  have hD : va_D (inW [(ad 0, .inr (4, [.ref (ad 1), .ref (ad 7), .ref (ad 8), .ref (ad 9)])), (ad 7, .inr (2, [.ref (ad 1)])), (ad 8, .inr (1, [.ref (ad 1)])), (ad 9, .inr (3, [.ref (ad 1), .int sn, .int wf, .int cs, .int ms, .ref (ad 10), .ref (ad 11), .int wd, .ref (ad 12), .ref (ad 13), .ref (ad 14)])), (ad 10, .inl (cy 0, 8, .inl fd)), (ad 11, .inl (cy 0, 8, .inl fw)), (ad 12, .inl (cy 0, 15, .inl fp)), (ad 13, .inl (cy 0, 15, .inl frm)), (ad 14, .inl (cy 0, 15, .inl ft)), (ad 1, .inr (0, [.int (nI (gV g)), .int (nI (gC g)), .int (nI (gE g)), .int ch, .ref (ad 2), .ref (ad 3), .ref (ad 4), .ref (ad 5), .ref (ad 6)])), (ad 2, .inl (cy 0, 6, .inl (fun i => nI (gL g i)))), (ad 3, .inl (cy 0, 14, .inl (fun i => nI (gF g i)))), (ad 4, .inl (cy 0, 14, .inl (fun i => nI (gS g i)))), (ad 5, .inl (cy 0, 14, .inl (fun i => nI (gH g i)))), (ad 6, .inl (cy 0, 14, .inl (fun i => zI (gW g i)))), (ad 31, .inl (cy 2, 1, .inr (.inl fo)))]) ([(ad 0, .inr (4, [.ref (ad 1), .ref (ad 7), .ref (ad 8), .ref (ad 9)])), (ad 7, .inr (2, [.ref (ad 1)])), (ad 8, .inr (1, [.ref (ad 1)])), (ad 9, .inr (3, [.ref (ad 1), .int sn, .int wf, .int cs, .int ms, .ref (ad 10), .ref (ad 11), .int wd, .ref (ad 12), .ref (ad 13), .ref (ad 14)])), (ad 10, .inl (cy 0, 8, .inl fd)), (ad 11, .inl (cy 0, 8, .inl fw)), (ad 12, .inl (cy 0, 15, .inl fp)), (ad 13, .inl (cy 0, 15, .inl frm)), (ad 14, .inl (cy 0, 15, .inl ft)), (ad 1, .inr (0, [.int (nI (gV g)), .int (nI (gC g)), .int (nI (gE g)), .int ch, .ref (ad 2), .ref (ad 3), .ref (ad 4), .ref (ad 5), .ref (ad 6)])), (ad 2, .inl (cy 0, 6, .inl (fun i => nI (gL g i)))), (ad 3, .inl (cy 0, 14, .inl (fun i => nI (gF g i)))), (ad 4, .inl (cy 0, 14, .inl (fun i => nI (gS g i)))), (ad 5, .inl (cy 0, 14, .inl (fun i => nI (gH g i)))), (ad 6, .inl (cy 0, 14, .inl (fun i => zI (gW g i)))), (ad 31, .inl (cy 2, 1, .inr (.inl fo)))]) := inW_self hD0
  have hS : va_S (inW [(ad 0, .inr (4, [.ref (ad 1), .ref (ad 7), .ref (ad 8), .ref (ad 9)])), (ad 7, .inr (2, [.ref (ad 1)])), (ad 8, .inr (1, [.ref (ad 1)])), (ad 9, .inr (3, [.ref (ad 1), .int sn, .int wf, .int cs, .int ms, .ref (ad 10), .ref (ad 11), .int wd, .ref (ad 12), .ref (ad 13), .ref (ad 14)])), (ad 10, .inl (cy 0, 8, .inl fd)), (ad 11, .inl (cy 0, 8, .inl fw)), (ad 12, .inl (cy 0, 15, .inl fp)), (ad 13, .inl (cy 0, 15, .inl frm)), (ad 14, .inl (cy 0, 15, .inl ft)), (ad 1, .inr (0, [.int (nI (gV g)), .int (nI (gC g)), .int (nI (gE g)), .int ch, .ref (ad 2), .ref (ad 3), .ref (ad 4), .ref (ad 5), .ref (ad 6)])), (ad 2, .inl (cy 0, 6, .inl (fun i => nI (gL g i)))), (ad 3, .inl (cy 0, 14, .inl (fun i => nI (gF g i)))), (ad 4, .inl (cy 0, 14, .inl (fun i => nI (gS g i)))), (ad 5, .inl (cy 0, 14, .inl (fun i => nI (gH g i)))), (ad 6, .inl (cy 0, 14, .inl (fun i => zI (gW g i)))), (ad 31, .inl (cy 2, 1, .inr (.inl fo)))]) s.heap s.heap [] := va_S.rf
  have hP : va_P D vwCl [(ad 0, .inr (4, [.ref (ad 1), .ref (ad 7), .ref (ad 8), .ref (ad 9)])), (ad 7, .inr (2, [.ref (ad 1)])), (ad 8, .inr (1, [.ref (ad 1)])), (ad 9, .inr (3, [.ref (ad 1), .int sn, .int wf, .int cs, .int ms, .ref (ad 10), .ref (ad 11), .int wd, .ref (ad 12), .ref (ad 13), .ref (ad 14)])), (ad 10, .inl (cy 0, 8, .inl fd)), (ad 11, .inl (cy 0, 8, .inl fw)), (ad 12, .inl (cy 0, 15, .inl fp)), (ad 13, .inl (cy 0, 15, .inl frm)), (ad 14, .inl (cy 0, 15, .inl ft)), (ad 1, .inr (0, [.int (nI (gV g)), .int (nI (gC g)), .int (nI (gE g)), .int ch, .ref (ad 2), .ref (ad 3), .ref (ad 4), .ref (ad 5), .ref (ad 6)])), (ad 2, .inl (cy 0, 6, .inl (fun i => nI (gL g i)))), (ad 3, .inl (cy 0, 14, .inl (fun i => nI (gF g i)))), (ad 4, .inl (cy 0, 14, .inl (fun i => nI (gS g i)))), (ad 5, .inl (cy 0, 14, .inl (fun i => nI (gH g i)))), (ad 6, .inl (cy 0, 14, .inl (fun i => zI (gW g i)))), (ad 31, .inl (cy 2, 1, .inr (.inl fo)))] s.heap := hP
  have hl := lv_entry ([.ref (ad 0), .int (nI k9), .ref (ad 31)]) (n := 4) (Nat.le_of_ble_eq_true rfl)
  rw [lg_entry_eq]
  generalize (lg_sl ([.ref (ad 0), .int (nI k9), .ref (ad 31)]) ++ List.replicate (4 - (lg_sl ([.ref (ad 0), .int (nI k9), .ref (ad 31)])).length) Slot.unset).toArray = ls at hl ⊢
  have hl : lv_has ls 4 [(0, .ref (ad 0)), (1, .int (nI k9)), (2, .ref (ad 31))] := hl
  have hgen := True.intro
  refine lv_aload_n hx hb dL_weight_0 rfl (lv_at hl 2 rfl) ?_
  refine lv_iconst (v := nI 0) hx hb dL_weight_1 (by decide) ?_
  refine lv_aload_n hx hb dL_weight_2 rfl (lv_at hl 0 rfl) ?_
  refine lv_iload_n hx hb dL_weight_3 rfl (lv_at hl 1 rfl) ?_
  refine wr_calli [0, 1, 2, 3, 4, 5, 6, 7, 8, 9, 10, 11, 12, 13, 14] (va_runV (As := [.int (nI k9)]) (rest := [.int (nI 0), .ref (ad 31)]) ⟨hx, hb, hml, hown, hts⟩ (c_X5_weight_yes l D cy ad ch hg (sn := sn) (wf := wf) (cs := cs) (ms := ms) (wd := wd) (fd := fd) (fw := fw) (fp := fp) (frm := frm) (ft := ft) hv9 hk9) (cwV 1 hts gL_weight_X5_weight rfl rfl rfl (by decide +kernel) ⟨Nat.le_of_ble_eq_true rfl, Nat.le_of_ble_eq_true rfl⟩) (WR_preV (ci := 4) (q0 := 0) hK hP hD rfl rfl [0, 1, 2, 3, 4, 5, 6, 7, 8, 9, 10, 11, 12, 13, 14] (by decide) rfl rfl) rfl rfl hl.1 rfl (lv_room (Nat.le_of_ble_eq_true rfl)) dL_weight_4 ⟨(Nat.zero_le _), (Nat.zero_le _)⟩) hS hP hD rfl (fun _ => rfl) (fun _ => rfl) (fun r4 u4 H locs w4 hP hD hS => ?_)
  have htb := w4.2
  refine lv_as (y := zI (wB g k9)) w4.1 ?_
  have hP : va_P D vwCl [(ad 0, .inr (4, [.ref (ad 1), .ref (ad 7), .ref (ad 8), .ref (ad 9)])), (ad 7, .inr (2, [.ref (ad 1)])), (ad 8, .inr (1, [.ref (ad 1)])), (ad 9, .inr (3, [.ref (ad 1), .int ch, .int (nI (sF g (2 ^ gE g))), .int (nI (nP (co g) (2 ^ gE g))), .int (nI (mo g (2 ^ gE g))), .ref (ad 10), .ref (ad 11), .int (nI (sW g (2 ^ gE g))), .ref (ad 12), .ref (ad 13), .ref (ad 14)])), (ad 10, .inl (cy 0, 8, .inl u4.1)), (ad 11, .inl (cy 0, 8, .inl u4.2.1)), (ad 12, .inl (cy 0, 15, .inl u4.2.2.1)), (ad 13, .inl (cy 0, 15, .inl u4.2.2.2.1)), (ad 14, .inl (cy 0, 15, .inl u4.2.2.2.2)), (ad 1, .inr (0, [.int (nI (gV g)), .int (nI (gC g)), .int (nI (gE g)), .int ch, .ref (ad 2), .ref (ad 3), .ref (ad 4), .ref (ad 5), .ref (ad 6)])), (ad 2, .inl (cy 0, 6, .inl (fun i => nI (gL g i)))), (ad 3, .inl (cy 0, 14, .inl (fun i => nI (gF g i)))), (ad 4, .inl (cy 0, 14, .inl (fun i => nI (gS g i)))), (ad 5, .inl (cy 0, 14, .inl (fun i => nI (gH g i)))), (ad 6, .inl (cy 0, 14, .inl (fun i => zI (gW g i)))), (ad 31, .inl (cy 2, 1, .inr (.inl fo)))] H := hP
  have hD : va_D (inW [(ad 0, .inr (4, [.ref (ad 1), .ref (ad 7), .ref (ad 8), .ref (ad 9)])), (ad 7, .inr (2, [.ref (ad 1)])), (ad 8, .inr (1, [.ref (ad 1)])), (ad 9, .inr (3, [.ref (ad 1), .int sn, .int wf, .int cs, .int ms, .ref (ad 10), .ref (ad 11), .int wd, .ref (ad 12), .ref (ad 13), .ref (ad 14)])), (ad 10, .inl (cy 0, 8, .inl fd)), (ad 11, .inl (cy 0, 8, .inl fw)), (ad 12, .inl (cy 0, 15, .inl fp)), (ad 13, .inl (cy 0, 15, .inl frm)), (ad 14, .inl (cy 0, 15, .inl ft)), (ad 1, .inr (0, [.int (nI (gV g)), .int (nI (gC g)), .int (nI (gE g)), .int ch, .ref (ad 2), .ref (ad 3), .ref (ad 4), .ref (ad 5), .ref (ad 6)])), (ad 2, .inl (cy 0, 6, .inl (fun i => nI (gL g i)))), (ad 3, .inl (cy 0, 14, .inl (fun i => nI (gF g i)))), (ad 4, .inl (cy 0, 14, .inl (fun i => nI (gS g i)))), (ad 5, .inl (cy 0, 14, .inl (fun i => nI (gH g i)))), (ad 6, .inl (cy 0, 14, .inl (fun i => zI (gW g i)))), (ad 31, .inl (cy 2, 1, .inr (.inl fo)))]) [(ad 0, .inr (4, [.ref (ad 1), .ref (ad 7), .ref (ad 8), .ref (ad 9)])), (ad 7, .inr (2, [.ref (ad 1)])), (ad 8, .inr (1, [.ref (ad 1)])), (ad 9, .inr (3, [.ref (ad 1), .int ch, .int (nI (sF g (2 ^ gE g))), .int (nI (nP (co g) (2 ^ gE g))), .int (nI (mo g (2 ^ gE g))), .ref (ad 10), .ref (ad 11), .int (nI (sW g (2 ^ gE g))), .ref (ad 12), .ref (ad 13), .ref (ad 14)])), (ad 10, .inl (cy 0, 8, .inl u4.1)), (ad 11, .inl (cy 0, 8, .inl u4.2.1)), (ad 12, .inl (cy 0, 15, .inl u4.2.2.1)), (ad 13, .inl (cy 0, 15, .inl u4.2.2.2.1)), (ad 14, .inl (cy 0, 15, .inl u4.2.2.2.2)), (ad 1, .inr (0, [.int (nI (gV g)), .int (nI (gC g)), .int (nI (gE g)), .int ch, .ref (ad 2), .ref (ad 3), .ref (ad 4), .ref (ad 5), .ref (ad 6)])), (ad 2, .inl (cy 0, 6, .inl (fun i => nI (gL g i)))), (ad 3, .inl (cy 0, 14, .inl (fun i => nI (gF g i)))), (ad 4, .inl (cy 0, 14, .inl (fun i => nI (gS g i)))), (ad 5, .inl (cy 0, 14, .inl (fun i => nI (gH g i)))), (ad 6, .inl (cy 0, 14, .inl (fun i => zI (gW g i)))), (ad 31, .inl (cy 2, 1, .inr (.inl fo)))] := hD
  refine lv_i2l hx hb dL_weight_7 rfl ?_
  refine st_l (k := 0) hx hb hK hP hD hS 15 rfl (by omega) (by decide) dL_weight_8 (fun H locs hP hD hS => ?_)
  have hP : va_P D vwCl [(ad 0, .inr (4, [.ref (ad 1), .ref (ad 7), .ref (ad 8), .ref (ad 9)])), (ad 7, .inr (2, [.ref (ad 1)])), (ad 8, .inr (1, [.ref (ad 1)])), (ad 9, .inr (3, [.ref (ad 1), .int ch, .int (nI (sF g (2 ^ gE g))), .int (nI (nP (co g) (2 ^ gE g))), .int (nI (mo g (2 ^ gE g))), .ref (ad 10), .ref (ad 11), .int (nI (sW g (2 ^ gE g))), .ref (ad 12), .ref (ad 13), .ref (ad 14)])), (ad 10, .inl (cy 0, 8, .inl u4.1)), (ad 11, .inl (cy 0, 8, .inl u4.2.1)), (ad 12, .inl (cy 0, 15, .inl u4.2.2.1)), (ad 13, .inl (cy 0, 15, .inl u4.2.2.2.1)), (ad 14, .inl (cy 0, 15, .inl u4.2.2.2.2)), (ad 1, .inr (0, [.int (nI (gV g)), .int (nI (gC g)), .int (nI (gE g)), .int ch, .ref (ad 2), .ref (ad 3), .ref (ad 4), .ref (ad 5), .ref (ad 6)])), (ad 2, .inl (cy 0, 6, .inl (fun i => nI (gL g i)))), (ad 3, .inl (cy 0, 14, .inl (fun i => nI (gF g i)))), (ad 4, .inl (cy 0, 14, .inl (fun i => nI (gS g i)))), (ad 5, .inl (cy 0, 14, .inl (fun i => nI (gH g i)))), (ad 6, .inl (cy 0, 14, .inl (fun i => zI (gW g i)))), (ad 31, .inl (cy 2, 1, .inr (.inl (vp_updL fo 0 ((((zI (wB g k9))).toInt64))))))] H := hP
  have hD : va_D (inW [(ad 0, .inr (4, [.ref (ad 1), .ref (ad 7), .ref (ad 8), .ref (ad 9)])), (ad 7, .inr (2, [.ref (ad 1)])), (ad 8, .inr (1, [.ref (ad 1)])), (ad 9, .inr (3, [.ref (ad 1), .int sn, .int wf, .int cs, .int ms, .ref (ad 10), .ref (ad 11), .int wd, .ref (ad 12), .ref (ad 13), .ref (ad 14)])), (ad 10, .inl (cy 0, 8, .inl fd)), (ad 11, .inl (cy 0, 8, .inl fw)), (ad 12, .inl (cy 0, 15, .inl fp)), (ad 13, .inl (cy 0, 15, .inl frm)), (ad 14, .inl (cy 0, 15, .inl ft)), (ad 1, .inr (0, [.int (nI (gV g)), .int (nI (gC g)), .int (nI (gE g)), .int ch, .ref (ad 2), .ref (ad 3), .ref (ad 4), .ref (ad 5), .ref (ad 6)])), (ad 2, .inl (cy 0, 6, .inl (fun i => nI (gL g i)))), (ad 3, .inl (cy 0, 14, .inl (fun i => nI (gF g i)))), (ad 4, .inl (cy 0, 14, .inl (fun i => nI (gS g i)))), (ad 5, .inl (cy 0, 14, .inl (fun i => nI (gH g i)))), (ad 6, .inl (cy 0, 14, .inl (fun i => zI (gW g i)))), (ad 31, .inl (cy 2, 1, .inr (.inl fo)))]) [(ad 0, .inr (4, [.ref (ad 1), .ref (ad 7), .ref (ad 8), .ref (ad 9)])), (ad 7, .inr (2, [.ref (ad 1)])), (ad 8, .inr (1, [.ref (ad 1)])), (ad 9, .inr (3, [.ref (ad 1), .int ch, .int (nI (sF g (2 ^ gE g))), .int (nI (nP (co g) (2 ^ gE g))), .int (nI (mo g (2 ^ gE g))), .ref (ad 10), .ref (ad 11), .int (nI (sW g (2 ^ gE g))), .ref (ad 12), .ref (ad 13), .ref (ad 14)])), (ad 10, .inl (cy 0, 8, .inl u4.1)), (ad 11, .inl (cy 0, 8, .inl u4.2.1)), (ad 12, .inl (cy 0, 15, .inl u4.2.2.1)), (ad 13, .inl (cy 0, 15, .inl u4.2.2.2.1)), (ad 14, .inl (cy 0, 15, .inl u4.2.2.2.2)), (ad 1, .inr (0, [.int (nI (gV g)), .int (nI (gC g)), .int (nI (gE g)), .int ch, .ref (ad 2), .ref (ad 3), .ref (ad 4), .ref (ad 5), .ref (ad 6)])), (ad 2, .inl (cy 0, 6, .inl (fun i => nI (gL g i)))), (ad 3, .inl (cy 0, 14, .inl (fun i => nI (gF g i)))), (ad 4, .inl (cy 0, 14, .inl (fun i => nI (gS g i)))), (ad 5, .inl (cy 0, 14, .inl (fun i => nI (gH g i)))), (ad 6, .inl (cy 0, 14, .inl (fun i => zI (gW g i)))), (ad 31, .inl (cy 2, 1, .inr (.inl (vp_updL fo 0 ((((zI (wB g k9))).toInt64))))))] := hD
  refine lv_goto (tgt := 15) hx hb dL_weight_9 (by decide) ?_
  refine lv_iconst (v := nI 0) hx hb dL_weight_15 (by decide) ?_
  exact ly_ret u4 hx hb hr hlocks hS hP ⟨rfl, htb⟩ dL_weight_16
