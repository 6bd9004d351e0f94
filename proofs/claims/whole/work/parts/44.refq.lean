set_option maxHeartbeats 4000000 in
set_option maxRecDepth 100000 in
theorem c_X6_rank_no (l : Launch) (D : va_G) (cy : Nat → ClassId) (ad : Nat → Nat) {g : GT} (hg : gOK g) (th kn ms : Int32) {x y : Int32} (h : (decide (x = 0 ∨ x = nI 1) && isN y (2 ^ gE g)) = false) : WI l yX6_rank wsX6_rank ({ frames := 1, cells := 0, slots := 0, locals := 21 }) D cy [.ref (ad 20), .int x, .int y] [(ad 20, .inr (5, [.int th, .int (nI (gV g)), .int (nI (gC g)), .int (nI (gE g)), .ref (ad 21), .ref (ad 22), .ref (ad 23), .ref (ad 24), .ref (ad 25), .int kn, .ref (ad 26), .ref (ad 27), .ref (ad 28), .int ms, .ref (ad 29), .ref (ad 30)]))] (fun (r : Int32) (_ : Unit) => r = zI (-1)) (fun _ : Unit => [(ad 20, .inr (5, [.int (nI 0), .int (nI (gV g)), .int (nI (gC g)), .int (nI (gE g)), .ref (ad 21), .ref (ad 22), .ref (ad 23), .ref (ad 24), .ref (ad 25), .int kn, .ref (ad 26), .ref (ad 27), .ref (ad 28), .int ms, .ref (ad 29), .ref (ad 30)]))]) := by
  refine Met.ofW (cc := cX6_rank) (maxL := 3) (ret := (some .int)) (by decide) rfl ?_
  intro p ev s m args below meth c s₁ B hml hv
  obtain ⟨rfl, ⟨hK, hP⟩, hD0⟩ := hv
  have hx := B.exec
  have hb := B.bytes
  have hr := B.returns
  have hts := atoms_spec (ws := wsX6_rank) B.pre
  have hown : s.vm.findClass RX6 = some m.cls := findClass_of_methodNamed B.named
  have hlocks := B.notSynchronized
  have hD : va_D (inW [(ad 20, .inr (5, [.int th, .int (nI (gV g)), .int (nI (gC g)), .int (nI (gE g)), .ref (ad 21), .ref (ad 22), .ref (ad 23), .ref (ad 24), .ref (ad 25), .int kn, .ref (ad 26), .ref (ad 27), .ref (ad 28), .int ms, .ref (ad 29), .ref (ad 30)]))]) ([(ad 20, .inr (5, [.int th, .int (nI (gV g)), .int (nI (gC g)), .int (nI (gE g)), .ref (ad 21), .ref (ad 22), .ref (ad 23), .ref (ad 24), .ref (ad 25), .int kn, .ref (ad 26), .ref (ad 27), .ref (ad 28), .int ms, .ref (ad 29), .ref (ad 30)]))]) := inW_self hD0
  have hS : va_S (inW [(ad 20, .inr (5, [.int th, .int (nI (gV g)), .int (nI (gC g)), .int (nI (gE g)), .ref (ad 21), .ref (ad 22), .ref (ad 23), .ref (ad 24), .ref (ad 25), .int kn, .ref (ad 26), .ref (ad 27), .ref (ad 28), .int ms, .ref (ad 29), .ref (ad 30)]))]) s.heap s.heap [] := va_S.rf
  have hP : va_P D vwCl [(ad 20, .inr (5, [.int th, .int (nI (gV g)), .int (nI (gC g)), .int (nI (gE g)), .ref (ad 21), .ref (ad 22), .ref (ad 23), .ref (ad 24), .ref (ad 25), .int kn, .ref (ad 26), .ref (ad 27), .ref (ad 28), .int ms, .ref (ad 29), .ref (ad 30)]))] s.heap := hP
  have inX6 : ∀ w ∈ wsX60, w ∈ wsX6_rank := by decide +kernel
  have hl := lv_entry ([.ref (ad 20), .int x, .int y]) (n := 3) (Nat.le_of_ble_eq_true rfl)
  rw [lg_entry_eq]
  generalize (lg_sl ([.ref (ad 20), .int x, .int y]) ++ List.replicate (3 - (lg_sl ([.ref (ad 20), .int x, .int y])).length) Slot.unset).toArray = ls at hl ⊢
  have hl : lv_has ls 3 [(0, .ref (ad 20)), (1, .int x), (2, .int y)] := hl
  have hgen := True.intro
  have hE := hg.2.2.1
  have hV := hg.1
  have hC := hg.2.1
  have hS8 : 2 ^ gE g ≤ 2 ^ 14 := Nat.pow_le_pow_right (by decide) hE
  refine lv_aload_n hx hb dX6_rank_0 rfl (lv_at hl 0 rfl) ?_
  refine lv_iconst (v := nI 0) hx hb dX6_rank_1 (by decide) ?_
  refine va_put (D := D) (ci := 5) (v := .int (nI 0)) (ty := .int) (C := RX6) (T := TX6) (N := 16) hx hb hts inX6 tyX6 tyX6_ok nmX6 hown hK.1 hP hD hS 0 rfl rfl 0 (by decide) (hts (.fieldLink RX6 49 "ColourForestsModel" "thrown" "I") (List.mem_of_getElem? (i := 1) rfl)) (fun _ h9 => h9) rfl (by decide +kernel) rfl rfl (Nat.le_of_ble_eq_true rfl) dX6_rank_2 (fun H locs hP hD hS => ?_)
  have hP : va_P D vwCl [(ad 20, .inr (5, [.int (nI 0), .int (nI (gV g)), .int (nI (gC g)), .int (nI (gE g)), .ref (ad 21), .ref (ad 22), .ref (ad 23), .ref (ad 24), .ref (ad 25), .int kn, .ref (ad 26), .ref (ad 27), .ref (ad 28), .int ms, .ref (ad 29), .ref (ad 30)]))] H := hP
  have hD : va_D (inW [(ad 20, .inr (5, [.int th, .int (nI (gV g)), .int (nI (gC g)), .int (nI (gE g)), .ref (ad 21), .ref (ad 22), .ref (ad 23), .ref (ad 24), .ref (ad 25), .int kn, .ref (ad 26), .ref (ad 27), .ref (ad 28), .int ms, .ref (ad 29), .ref (ad 30)]))]) [(ad 20, .inr (5, [.int (nI 0), .int (nI (gV g)), .int (nI (gC g)), .int (nI (gE g)), .ref (ad 21), .ref (ad 22), .ref (ad 23), .ref (ad 24), .ref (ad 25), .int kn, .ref (ad 26), .ref (ad 27), .ref (ad 28), .int ms, .ref (ad 29), .ref (ad 30)]))] := hD
  refine lv_iload_n hx hb dX6_rank_5 rfl (lv_at hl 1 rfl) ?_
  refine pu_call (va_runS (As := [.int x]) (rest := []) ⟨hx, hb, hml, hown, hts⟩ (c_X6_isKind l D cy x) (va_cwS 1 hts gX6_rank_X6_isKind rfl rfl rfl (by decide +kernel) ⟨Nat.le_of_ble_eq_true rfl, Nat.le_of_ble_eq_true rfl⟩) (PU_preS hK hP [] rfl) rfl rfl hl.1 rfl (lv_room (Nat.le_of_ble_eq_true rfl)) dX6_rank_6 ⟨(Nat.zero_le _), (Nat.zero_le _)⟩) hS hP (fun H locs hP hS => ?_)
  refine b_eq (b := (decide (x = 0 ∨ x = nI 1))) (tgt := 20) hx hb dX6_rank_9 (by decide) (fun c9 => ?_) (fun c9 => ?_)
  · have c9 := of_decide_eq_false c9
    refine lv_iconst (v := zI (-1)) hx hb dX6_rank_20 (by decide) ?_
    exact wi_ret () hx hb hr hlocks hS hP rfl dX6_rank_21
  · have c9 := of_decide_eq_true c9
    refine lv_aload_n hx hb dX6_rank_12 rfl (lv_at hl 0 rfl) ?_
    refine lv_iload_n hx hb dX6_rank_13 rfl (lv_at hl 2 rfl) ?_
    refine pu_call (va_runV (As := [.int y]) (rest := []) ⟨hx, hb, hml, hown, hts⟩ (c_X6_isSet l D cy ad hg ((nI 0)) kn ms y) (cwV 1 hts gX6_rank_X6_isSet rfl rfl rfl (by decide +kernel) ⟨Nat.le_of_ble_eq_true rfl, Nat.le_of_ble_eq_true rfl⟩) (PU_preV (ci := 5) (q0 := 0) hK hP 0 rfl rfl [0] rfl) rfl rfl hl.1 rfl (lv_room (Nat.le_of_ble_eq_true rfl)) dX6_rank_14 ⟨(Nat.zero_le _), (Nat.zero_le _)⟩) hS hP (fun H locs hP hS => ?_)
    refine b_ne (b := (isN y (2 ^ gE g))) (tgt := 22) hx hb dX6_rank_17 (by decide) (fun c17 => ?_) (fun c17 => ?_)
    · exact absurd h (by rw [decide_eq_true c9, c17]; decide)
    · refine lv_iconst (v := zI (-1)) hx hb dX6_rank_20 (by decide) ?_
      exact wi_ret () hx hb hr hlocks hS hP rfl dX6_rank_21

set_option maxHeartbeats 4000000 in
set_option maxRecDepth 100000 in
theorem c_X6_rank_yes (l : Launch) (D : va_G) (cy : Nat → ClassId) (ad : Nat → Nat) {g : GT} (hg : gOK g) (th : Int32) {kb : Bool} {ms : Int32} {ff fr_ fb fp fc : Nat → Int32} (hv9 : kb = true → lrF g (2 ^ gE g) ff ∧ lrR g (2 ^ gE g) fr_ ∧ lrB g (2 ^ gE g) fb ∧ ms = nI (mo g (2 ^ gE g))) {kd S : Nat} (hk9 : kd < 2) (hS9 : S < 2 ^ gE g) : WI l yX6_rank wsX6_rank ({ frames := 3, cells := 0, slots := 0, locals := 71 }) D cy [.ref (ad 20), .int (nI kd), .int (nI S)] (wM cy ad g th (bI kb) ms ff fr_ fb fp fc) (fun (r : Int32) (u : (Nat → Int32) × (Nat → Int32) × (Nat → Int32) × (Nat → Int32) × (Nat → Int32)) => r = nI (rN g kd S) ∧ lrF g (2 ^ gE g) u.1 ∧ lrR g (2 ^ gE g) u.2.1 ∧ lrB g (2 ^ gE g) u.2.2.1) (fun u : (Nat → Int32) × (Nat → Int32) × (Nat → Int32) × (Nat → Int32) × (Nat → Int32) => wM cy ad g (nI 0) (bI true) (nI (mo g (2 ^ gE g))) u.1 u.2.1 u.2.2.1 u.2.2.2.1 u.2.2.2.2) := by
  refine Met.ofW (cc := cX6_rank) (maxL := 3) (ret := (some .int)) (by decide) rfl ?_
  intro p ev s m args below meth c s₁ B hml hv
  obtain ⟨rfl, ⟨hK, hP⟩, hD0⟩ := hv
  have hx := B.exec
  have hb := B.bytes
  have hr := B.returns
  have hts := atoms_spec (ws := wsX6_rank) B.pre
  have hown : s.vm.findClass RX6 = some m.cls := findClass_of_methodNamed B.named
  have hlocks := B.notSynchronized
  have hD : va_D (inW (wM cy ad g th (bI kb) ms ff fr_ fb fp fc)) (wM cy ad g th (bI kb) ms ff fr_ fb fp fc) := inW_self hD0
  have hS : va_S (inW (wM cy ad g th (bI kb) ms ff fr_ fb fp fc)) s.heap s.heap [] := va_S.rf
  have hP : va_P D vwCl (wM cy ad g th (bI kb) ms ff fr_ fb fp fc) s.heap := hP
  have inX6 : ∀ w ∈ wsX60, w ∈ wsX6_rank := by decide +kernel
  have hl := lv_entry ([.ref (ad 20), .int (nI kd), .int (nI S)]) (n := 3) (Nat.le_of_ble_eq_true rfl)
  rw [lg_entry_eq]
  generalize (lg_sl ([.ref (ad 20), .int (nI kd), .int (nI S)]) ++ List.replicate (3 - (lg_sl ([.ref (ad 20), .int (nI kd), .int (nI S)])).length) Slot.unset).toArray = ls at hl ⊢
  have hl : lv_has ls 3 [(0, .ref (ad 20)), (1, .int (nI kd)), (2, .int (nI S))] := hl
  have hgen := True.intro
  have hE := hg.2.2.1
  have hV := hg.1
  have hC := hg.2.1
  have hS8 : 2 ^ gE g ≤ 2 ^ 14 := Nat.pow_le_pow_right (by decide) hE
  refine lv_aload_n hx hb dX6_rank_0 rfl (lv_at hl 0 rfl) ?_
  refine lv_iconst (v := nI 0) hx hb dX6_rank_1 (by decide) ?_
  refine va_put (D := D) (ci := 5) (v := .int (nI 0)) (ty := .int) (C := RX6) (T := TX6) (N := 16) hx hb hts inX6 tyX6 tyX6_ok nmX6 hown hK.1 hP hD hS 0 rfl rfl 0 (by decide) (hts (.fieldLink RX6 49 "ColourForestsModel" "thrown" "I") (List.mem_of_getElem? (i := 1) rfl)) (fun _ h9 => h9) rfl (by decide +kernel) rfl rfl (Nat.le_of_ble_eq_true rfl) dX6_rank_2 (fun H locs hP hD hS => ?_)
  have hP : va_P D vwCl [(ad 20, .inr (5, [.int (nI 0), .int (nI (gV g)), .int (nI (gC g)), .int (nI (gE g)), .ref (ad 21), .ref (ad 22), .ref (ad 23), .ref (ad 24), .ref (ad 25), .int (bI kb), .ref (ad 26), .ref (ad 27), .ref (ad 28), .int ms, .ref (ad 29), .ref (ad 30)])), (ad 21, .inl (cy 0, 6, .inl (fun i => nI (gL g i)))), (ad 22, .inl (cy 0, 14, .inl (fun i => nI (gF g i)))), (ad 23, .inl (cy 0, 14, .inl (fun i => nI (gS g i)))), (ad 24, .inl (cy 0, 14, .inl (fun i => nI (gH g i)))), (ad 25, .inl (cy 0, 14, .inl (fun i => zI (gW g i)))), (ad 26, .inl (cy 1, 32768, .inl ff)), (ad 27, .inl (cy 0, 32768, .inl fr_)), (ad 28, .inl (cy 0, 15, .inl fb)), (ad 29, .inl (cy 0, 8, .inl fp)), (ad 30, .inl (cy 0, 6, .inl fc))] H := hP
  have hD : va_D (inW (wM cy ad g th (bI kb) ms ff fr_ fb fp fc)) [(ad 20, .inr (5, [.int (nI 0), .int (nI (gV g)), .int (nI (gC g)), .int (nI (gE g)), .ref (ad 21), .ref (ad 22), .ref (ad 23), .ref (ad 24), .ref (ad 25), .int (bI kb), .ref (ad 26), .ref (ad 27), .ref (ad 28), .int ms, .ref (ad 29), .ref (ad 30)])), (ad 21, .inl (cy 0, 6, .inl (fun i => nI (gL g i)))), (ad 22, .inl (cy 0, 14, .inl (fun i => nI (gF g i)))), (ad 23, .inl (cy 0, 14, .inl (fun i => nI (gS g i)))), (ad 24, .inl (cy 0, 14, .inl (fun i => nI (gH g i)))), (ad 25, .inl (cy 0, 14, .inl (fun i => zI (gW g i)))), (ad 26, .inl (cy 1, 32768, .inl ff)), (ad 27, .inl (cy 0, 32768, .inl fr_)), (ad 28, .inl (cy 0, 15, .inl fb)), (ad 29, .inl (cy 0, 8, .inl fp)), (ad 30, .inl (cy 0, 6, .inl fc))] := hD
  refine lv_iload_n hx hb dX6_rank_5 rfl (lv_at hl 1 rfl) ?_
  refine pu_call (va_runS (As := [.int (nI kd)]) (rest := []) ⟨hx, hb, hml, hown, hts⟩ (c_X6_isKind l D cy ((nI kd))) (va_cwS 1 hts gX6_rank_X6_isKind rfl rfl rfl (by decide +kernel) ⟨Nat.le_of_ble_eq_true rfl, Nat.le_of_ble_eq_true rfl⟩) (PU_preS hK hP [] rfl) rfl rfl hl.1 rfl (lv_room (Nat.le_of_ble_eq_true rfl)) dX6_rank_6 ⟨(Nat.zero_le _), (Nat.zero_le _)⟩) hS hP (fun H locs hP hS => ?_)
  refine b_eq (b := (decide ((nI kd) = 0 ∨ (nI kd) = nI 1))) (tgt := 20) hx hb dX6_rank_9 (by decide) (fun c9 => ?_) (fun c9 => ?_)
  · have c9 := of_decide_eq_false c9
    exact absurd (isK hk9) c9
  · have c9 := of_decide_eq_true c9
    refine lv_aload_n hx hb dX6_rank_12 rfl (lv_at hl 0 rfl) ?_
    refine lv_iload_n hx hb dX6_rank_13 rfl (lv_at hl 2 rfl) ?_
    refine pu_call (va_runV (As := [.int (nI S)]) (rest := []) ⟨hx, hb, hml, hown, hts⟩ (c_X6_isSet l D cy ad hg ((nI 0)) ((bI kb)) ms ((nI S))) (cwV 1 hts gX6_rank_X6_isSet rfl rfl rfl (by decide +kernel) ⟨Nat.le_of_ble_eq_true rfl, Nat.le_of_ble_eq_true rfl⟩) (PU_preV (ci := 5) (q0 := 0) hK hP 0 rfl rfl [0] rfl) rfl rfl hl.1 rfl (lv_room (Nat.le_of_ble_eq_true rfl)) dX6_rank_14 ⟨(Nat.zero_le _), (Nat.zero_le _)⟩) hS hP (fun H locs hP hS => ?_)
    refine b_ne (b := (isN ((nI S)) (2 ^ gE g))) (tgt := 22) hx hb dX6_rank_17 (by decide) (fun c17 => ?_) (fun c17 => ?_)
    · refine lv_aload_n hx hb dX6_rank_22 rfl (lv_at hl 0 rfl) ?_
      refine wr_callv [0, 1, 2, 3, 4, 5, 6, 7, 8, 9, 10] (va_runV (As := []) (rest := []) ⟨hx, hb, hml, hown, hts⟩ (c_X6_learn l D cy ad hg ((nI 0)) (kb := kb) (ms := ms) (ff := ff) (fr_ := fr_) (fb := fb) (fp := fp) (fc := fc) hv9) (cwV 0 hts gX6_rank_X6_learn rfl rfl rfl (by decide +kernel) ⟨Nat.le_of_ble_eq_true rfl, Nat.le_of_ble_eq_true rfl⟩) (WR_preV (ci := 5) (q0 := 0) hK hP hD rfl rfl [0, 1, 2, 3, 4, 5, 6, 7, 8, 9, 10] (by decide) rfl rfl) rfl rfl hl.1 rfl (lv_room (Nat.le_of_ble_eq_true rfl)) dX6_rank_23 ⟨(Nat.zero_le _), (Nat.zero_le _)⟩) hS hP hD rfl (fun _ => rfl) (fun _ => rfl) (fun u23 H locs w23 hP hD hS => ?_)
      obtain ⟨hF, hR, hB⟩ := w23
      have hP : va_P D vwCl [(ad 20, .inr (5, [.int (nI 0), .int (nI (gV g)), .int (nI (gC g)), .int (nI (gE g)), .ref (ad 21), .ref (ad 22), .ref (ad 23), .ref (ad 24), .ref (ad 25), .int (bI true), .ref (ad 26), .ref (ad 27), .ref (ad 28), .int (nI (mo g (2 ^ gE g))), .ref (ad 29), .ref (ad 30)])), (ad 21, .inl (cy 0, 6, .inl (fun i => nI (gL g i)))), (ad 22, .inl (cy 0, 14, .inl (fun i => nI (gF g i)))), (ad 23, .inl (cy 0, 14, .inl (fun i => nI (gS g i)))), (ad 24, .inl (cy 0, 14, .inl (fun i => nI (gH g i)))), (ad 25, .inl (cy 0, 14, .inl (fun i => zI (gW g i)))), (ad 26, .inl (cy 1, 32768, .inl u23.1)), (ad 27, .inl (cy 0, 32768, .inl u23.2.1)), (ad 28, .inl (cy 0, 15, .inl u23.2.2.1)), (ad 29, .inl (cy 0, 8, .inl u23.2.2.2.1)), (ad 30, .inl (cy 0, 6, .inl u23.2.2.2.2))] H := hP
      have hD : va_D (inW (wM cy ad g th (bI kb) ms ff fr_ fb fp fc)) [(ad 20, .inr (5, [.int (nI 0), .int (nI (gV g)), .int (nI (gC g)), .int (nI (gE g)), .ref (ad 21), .ref (ad 22), .ref (ad 23), .ref (ad 24), .ref (ad 25), .int (bI true), .ref (ad 26), .ref (ad 27), .ref (ad 28), .int (nI (mo g (2 ^ gE g))), .ref (ad 29), .ref (ad 30)])), (ad 21, .inl (cy 0, 6, .inl (fun i => nI (gL g i)))), (ad 22, .inl (cy 0, 14, .inl (fun i => nI (gF g i)))), (ad 23, .inl (cy 0, 14, .inl (fun i => nI (gS g i)))), (ad 24, .inl (cy 0, 14, .inl (fun i => nI (gH g i)))), (ad 25, .inl (cy 0, 14, .inl (fun i => zI (gW g i)))), (ad 26, .inl (cy 1, 32768, .inl u23.1)), (ad 27, .inl (cy 0, 32768, .inl u23.2.1)), (ad 28, .inl (cy 0, 15, .inl u23.2.2.1)), (ad 29, .inl (cy 0, 8, .inl u23.2.2.2.1)), (ad 30, .inl (cy 0, 6, .inl u23.2.2.2.2))] := hD
      refine lv_aload_n hx hb dX6_rank_26 rfl (lv_at hl 0 rfl) ?_
      refine va_get (D := D) (ci := 5) (v := .ref (ad 27)) (C := RX6) (T := TX6) (N := 16) hx hb hts inX6 hown hK.1 hP 0 rfl rfl 11 (by decide) (hts (.fieldLink RX6 37 "ColourForestsModel" "ranks" "[I") (List.mem_of_getElem? (i := 2) rfl)) (fun _ h9 => h9) rfl dX6_rank_27 ?_
      refine lv_sipush (v := nI 16384) hx hb dX6_rank_30 (by decide) ?_
      refine lv_iload_n hx hb dX6_rank_33 rfl (lv_at hl 1 rfl) ?_
      refine lv_imul hx hb dX6_rank_34 ?_
      refine lv_as (y := (nI (16384 * kd))) (ni_mul _ _) ?_
      refine lv_iload_n hx hb dX6_rank_35 rfl (lv_at hl 2 rfl) ?_
      refine lv_iadd hx hb dX6_rank_36 ?_
      refine lv_as (y := (nI ((16384 * kd) + S))) (nI_add _ _) ?_
      refine rd_i (k := ((16384 * kd) + S)) (v := (nI (rN g kd S))) hx hb hK hP 7 rfl (by omega) (by decide) (hR kd S hk9 hS9) dX6_rank_37 ?_
      exact wi_ret u23 hx hb hr hlocks hS hP ⟨rfl, hF, hR, hB⟩ dX6_rank_38
    · exact absurd (c17.symm.trans (isN_y hS9 (by omega))) (by decide)

set_option maxHeartbeats 4000000 in
set_option maxRecDepth 100000 in
theorem c_X6_free_no (l : Launch) (D : va_G) (cy : Nat → ClassId) (ad : Nat → Nat) {g : GT} (hg : gOK g) (th kn ms : Int32) {x y : Int32} (h : ((decide (x = 0 ∨ x = nI 1) || decide (x = nI 2)) && isN y (2 ^ gE g)) = false) : WI l yX6_free wsX6_free ({ frames := 1, cells := 0, slots := 0, locals := 21 }) D cy [.ref (ad 20), .int x, .int y] [(ad 20, .inr (5, [.int th, .int (nI (gV g)), .int (nI (gC g)), .int (nI (gE g)), .ref (ad 21), .ref (ad 22), .ref (ad 23), .ref (ad 24), .ref (ad 25), .int kn, .ref (ad 26), .ref (ad 27), .ref (ad 28), .int ms, .ref (ad 29), .ref (ad 30)]))] (fun (r : Int32) (_ : Unit) => r = zI (-1)) (fun _ : Unit => [(ad 20, .inr (5, [.int (nI 0), .int (nI (gV g)), .int (nI (gC g)), .int (nI (gE g)), .ref (ad 21), .ref (ad 22), .ref (ad 23), .ref (ad 24), .ref (ad 25), .int kn, .ref (ad 26), .ref (ad 27), .ref (ad 28), .int ms, .ref (ad 29), .ref (ad 30)]))]) := by
  refine Met.ofW (cc := cX6_free) (maxL := 4) (ret := (some .int)) (by decide) rfl ?_
  intro p ev s m args below meth c s₁ B hml hv
  obtain ⟨rfl, ⟨hK, hP⟩, hD0⟩ := hv
  have hx := B.exec
  have hb := B.bytes
  have hr := B.returns
  have hts := atoms_spec (ws := wsX6_free) B.pre
  have hown : s.vm.findClass RX6 = some m.cls := findClass_of_methodNamed B.named
  have hlocks := B.notSynchronized
  have hD : va_D (inW [(ad 20, .inr (5, [.int th, .int (nI (gV g)), .int (nI (gC g)), .int (nI (gE g)), .ref (ad 21), .ref (ad 22), .ref (ad 23), .ref (ad 24), .ref (ad 25), .int kn, .ref (ad 26), .ref (ad 27), .ref (ad 28), .int ms, .ref (ad 29), .ref (ad 30)]))]) ([(ad 20, .inr (5, [.int th, .int (nI (gV g)), .int (nI (gC g)), .int (nI (gE g)), .ref (ad 21), .ref (ad 22), .ref (ad 23), .ref (ad 24), .ref (ad 25), .int kn, .ref (ad 26), .ref (ad 27), .ref (ad 28), .int ms, .ref (ad 29), .ref (ad 30)]))]) := inW_self hD0
  have hS : va_S (inW [(ad 20, .inr (5, [.int th, .int (nI (gV g)), .int (nI (gC g)), .int (nI (gE g)), .ref (ad 21), .ref (ad 22), .ref (ad 23), .ref (ad 24), .ref (ad 25), .int kn, .ref (ad 26), .ref (ad 27), .ref (ad 28), .int ms, .ref (ad 29), .ref (ad 30)]))]) s.heap s.heap [] := va_S.rf
  have hP : va_P D vwCl [(ad 20, .inr (5, [.int th, .int (nI (gV g)), .int (nI (gC g)), .int (nI (gE g)), .ref (ad 21), .ref (ad 22), .ref (ad 23), .ref (ad 24), .ref (ad 25), .int kn, .ref (ad 26), .ref (ad 27), .ref (ad 28), .int ms, .ref (ad 29), .ref (ad 30)]))] s.heap := hP
  have inX6 : ∀ w ∈ wsX60, w ∈ wsX6_free := by decide +kernel
  have hl := lv_entry ([.ref (ad 20), .int x, .int y]) (n := 4) (Nat.le_of_ble_eq_true rfl)
  rw [lg_entry_eq]
  generalize (lg_sl ([.ref (ad 20), .int x, .int y]) ++ List.replicate (4 - (lg_sl ([.ref (ad 20), .int x, .int y])).length) Slot.unset).toArray = ls at hl ⊢
  have hl : lv_has ls 4 [(0, .ref (ad 20)), (1, .int x), (2, .int y)] := hl
  have hgen := True.intro
  have hE := hg.2.2.1
  have hV := hg.1
  have hC := hg.2.1
  have hS8 : 2 ^ gE g ≤ 2 ^ 14 := Nat.pow_le_pow_right (by decide) hE
  refine lv_aload_n hx hb dX6_free_0 rfl (lv_at hl 0 rfl) ?_
  refine lv_iconst (v := nI 0) hx hb dX6_free_1 (by decide) ?_
  refine va_put (D := D) (ci := 5) (v := .int (nI 0)) (ty := .int) (C := RX6) (T := TX6) (N := 16) hx hb hts inX6 tyX6 tyX6_ok nmX6 hown hK.1 hP hD hS 0 rfl rfl 0 (by decide) (hts (.fieldLink RX6 49 "ColourForestsModel" "thrown" "I") (List.mem_of_getElem? (i := 1) rfl)) (fun _ h9 => h9) rfl (by decide +kernel) rfl rfl (Nat.le_of_ble_eq_true rfl) dX6_free_2 (fun H locs hP hD hS => ?_)
  have hP : va_P D vwCl [(ad 20, .inr (5, [.int (nI 0), .int (nI (gV g)), .int (nI (gC g)), .int (nI (gE g)), .ref (ad 21), .ref (ad 22), .ref (ad 23), .ref (ad 24), .ref (ad 25), .int kn, .ref (ad 26), .ref (ad 27), .ref (ad 28), .int ms, .ref (ad 29), .ref (ad 30)]))] H := hP
  have hD : va_D (inW [(ad 20, .inr (5, [.int th, .int (nI (gV g)), .int (nI (gC g)), .int (nI (gE g)), .ref (ad 21), .ref (ad 22), .ref (ad 23), .ref (ad 24), .ref (ad 25), .int kn, .ref (ad 26), .ref (ad 27), .ref (ad 28), .int ms, .ref (ad 29), .ref (ad 30)]))]) [(ad 20, .inr (5, [.int (nI 0), .int (nI (gV g)), .int (nI (gC g)), .int (nI (gE g)), .ref (ad 21), .ref (ad 22), .ref (ad 23), .ref (ad 24), .ref (ad 25), .int kn, .ref (ad 26), .ref (ad 27), .ref (ad 28), .int ms, .ref (ad 29), .ref (ad 30)]))] := hD
  refine lv_iload_n hx hb dX6_free_5 rfl (lv_at hl 1 rfl) ?_
  refine pu_call (va_runS (As := [.int x]) (rest := []) ⟨hx, hb, hml, hown, hts⟩ (c_X6_isKind l D cy x) (va_cwS 1 hts gX6_free_X6_isKind rfl rfl rfl (by decide +kernel) ⟨Nat.le_of_ble_eq_true rfl, Nat.le_of_ble_eq_true rfl⟩) (PU_preS hK hP [] rfl) rfl rfl hl.1 rfl (lv_room (Nat.le_of_ble_eq_true rfl)) dX6_free_6 ⟨(Nat.zero_le _), (Nat.zero_le _)⟩) hS hP (fun H locs hP hS => ?_)
  refine b_ne (b := (decide (x = 0 ∨ x = nI 1))) (tgt := 17) hx hb dX6_free_9 (by decide) (fun c9 => ?_) (fun c9 => ?_)
  · have c9 := of_decide_eq_true c9
    refine lv_aload_n hx hb dX6_free_17 rfl (lv_at hl 0 rfl) ?_
    refine lv_iload_n hx hb dX6_free_18 rfl (lv_at hl 2 rfl) ?_
    refine pu_call (va_runV (As := [.int y]) (rest := []) ⟨hx, hb, hml, hown, hts⟩ (c_X6_isSet l D cy ad hg ((nI 0)) kn ms y) (cwV 1 hts gX6_free_X6_isSet rfl rfl rfl (by decide +kernel) ⟨Nat.le_of_ble_eq_true rfl, Nat.le_of_ble_eq_true rfl⟩) (PU_preV (ci := 5) (q0 := 0) hK hP 0 rfl rfl [0] rfl) rfl rfl hl.1 rfl (lv_room (Nat.le_of_ble_eq_true rfl)) dX6_free_19 ⟨(Nat.zero_le _), (Nat.zero_le _)⟩) hS hP (fun H locs hP hS => ?_)
    refine b_ne (b := (isN y (2 ^ gE g))) (tgt := 27) hx hb dX6_free_22 (by decide) (fun c22 => ?_) (fun c22 => ?_)
    · exact absurd h (by first | (rw [decide_eq_true c9, c22, Bool.true_or]; decide) | (rw [decide_eq_true (show x = nI 2 from c14), c22, Bool.or_true]; decide))
    · refine lv_iconst (v := zI (-1)) hx hb dX6_free_25 (by decide) ?_
      exact wi_ret () hx hb hr hlocks hS hP rfl dX6_free_26
  · have c9 := of_decide_eq_false c9
    refine lv_iload_n hx hb dX6_free_12 rfl (lv_at hl 1 rfl) ?_
    refine lv_iconst (v := nI 2) hx hb dX6_free_13 (by decide) ?_
    refine lv_icmp_ne (tgt := 25) hx hb dX6_free_14 (by decide) (fun c14 => ?_) (fun c14 => ?_)
    · refine lv_iconst (v := zI (-1)) hx hb dX6_free_25 (by decide) ?_
      exact wi_ret () hx hb hr hlocks hS hP rfl dX6_free_26
    · refine lv_aload_n hx hb dX6_free_17 rfl (lv_at hl 0 rfl) ?_
      refine lv_iload_n hx hb dX6_free_18 rfl (lv_at hl 2 rfl) ?_
      refine pu_call (va_runV (As := [.int y]) (rest := []) ⟨hx, hb, hml, hown, hts⟩ (c_X6_isSet l D cy ad hg ((nI 0)) kn ms y) (cwV 1 hts gX6_free_X6_isSet rfl rfl rfl (by decide +kernel) ⟨Nat.le_of_ble_eq_true rfl, Nat.le_of_ble_eq_true rfl⟩) (PU_preV (ci := 5) (q0 := 0) hK hP 0 rfl rfl [0] rfl) rfl rfl hl.1 rfl (lv_room (Nat.le_of_ble_eq_true rfl)) dX6_free_19 ⟨(Nat.zero_le _), (Nat.zero_le _)⟩) hS hP (fun H locs hP hS => ?_)
      refine b_ne (b := (isN y (2 ^ gE g))) (tgt := 27) hx hb dX6_free_22 (by decide) (fun c22 => ?_) (fun c22 => ?_)
      · exact absurd h (by first | (rw [decide_eq_true c9, c22, Bool.true_or]; decide) | (rw [decide_eq_true (show x = nI 2 from c14), c22, Bool.or_true]; decide))
      · refine lv_iconst (v := zI (-1)) hx hb dX6_free_25 (by decide) ?_
        exact wi_ret () hx hb hr hlocks hS hP rfl dX6_free_26

set_option maxHeartbeats 4000000 in
set_option maxRecDepth 100000 in
theorem c_X6_free_yes (l : Launch) (D : va_G) (cy : Nat → ClassId) (ad : Nat → Nat) {g : GT} (hg : gOK g) (th : Int32) {kb : Bool} {ms : Int32} {ff fr_ fb fp fc : Nat → Int32} (hv9 : kb = true → lrF g (2 ^ gE g) ff ∧ lrR g (2 ^ gE g) fr_ ∧ lrB g (2 ^ gE g) fb ∧ ms = nI (mo g (2 ^ gE g))) {kd S : Nat} (hk9 : kd < 2) (hS9 : S < 2 ^ gE g) : WI l yX6_free wsX6_free ({ frames := 3, cells := 0, slots := 0, locals := 71 }) D cy [.ref (ad 20), .int (nI kd), .int (nI S)] (wM cy ad g th (bI kb) ms ff fr_ fb fp fc) (fun (r : Int32) (u : (Nat → Int32) × (Nat → Int32) × (Nat → Int32) × (Nat → Int32) × (Nat → Int32)) => r = bI (fN g kd S) ∧ lrF g (2 ^ gE g) u.1 ∧ lrR g (2 ^ gE g) u.2.1 ∧ lrB g (2 ^ gE g) u.2.2.1) (fun u : (Nat → Int32) × (Nat → Int32) × (Nat → Int32) × (Nat → Int32) × (Nat → Int32) => wM cy ad g (nI 0) (bI true) (nI (mo g (2 ^ gE g))) u.1 u.2.1 u.2.2.1 u.2.2.2.1 u.2.2.2.2) := by
  refine Met.ofW (cc := cX6_free) (maxL := 4) (ret := (some .int)) (by decide) rfl ?_
  intro p ev s m args below meth c s₁ B hml hv
  obtain ⟨rfl, ⟨hK, hP⟩, hD0⟩ := hv
  have hx := B.exec
  have hb := B.bytes
  have hr := B.returns
  have hts := atoms_spec (ws := wsX6_free) B.pre
  have hown : s.vm.findClass RX6 = some m.cls := findClass_of_methodNamed B.named
  have hlocks := B.notSynchronized
  have hD : va_D (inW (wM cy ad g th (bI kb) ms ff fr_ fb fp fc)) (wM cy ad g th (bI kb) ms ff fr_ fb fp fc) := inW_self hD0
  have hS : va_S (inW (wM cy ad g th (bI kb) ms ff fr_ fb fp fc)) s.heap s.heap [] := va_S.rf
  have hP : va_P D vwCl (wM cy ad g th (bI kb) ms ff fr_ fb fp fc) s.heap := hP
  have inX6 : ∀ w ∈ wsX60, w ∈ wsX6_free := by decide +kernel
  have hl := lv_entry ([.ref (ad 20), .int (nI kd), .int (nI S)]) (n := 4) (Nat.le_of_ble_eq_true rfl)
  rw [lg_entry_eq]
  generalize (lg_sl ([.ref (ad 20), .int (nI kd), .int (nI S)]) ++ List.replicate (4 - (lg_sl ([.ref (ad 20), .int (nI kd), .int (nI S)])).length) Slot.unset).toArray = ls at hl ⊢
  have hl : lv_has ls 4 [(0, .ref (ad 20)), (1, .int (nI kd)), (2, .int (nI S))] := hl
  have hgen := True.intro
  have hE := hg.2.2.1
  have hV := hg.1
  have hC := hg.2.1
  have hS8 : 2 ^ gE g ≤ 2 ^ 14 := Nat.pow_le_pow_right (by decide) hE
  refine lv_aload_n hx hb dX6_free_0 rfl (lv_at hl 0 rfl) ?_
  refine lv_iconst (v := nI 0) hx hb dX6_free_1 (by decide) ?_
  refine va_put (D := D) (ci := 5) (v := .int (nI 0)) (ty := .int) (C := RX6) (T := TX6) (N := 16) hx hb hts inX6 tyX6 tyX6_ok nmX6 hown hK.1 hP hD hS 0 rfl rfl 0 (by decide) (hts (.fieldLink RX6 49 "ColourForestsModel" "thrown" "I") (List.mem_of_getElem? (i := 1) rfl)) (fun _ h9 => h9) rfl (by decide +kernel) rfl rfl (Nat.le_of_ble_eq_true rfl) dX6_free_2 (fun H locs hP hD hS => ?_)
  have hP : va_P D vwCl [(ad 20, .inr (5, [.int (nI 0), .int (nI (gV g)), .int (nI (gC g)), .int (nI (gE g)), .ref (ad 21), .ref (ad 22), .ref (ad 23), .ref (ad 24), .ref (ad 25), .int (bI kb), .ref (ad 26), .ref (ad 27), .ref (ad 28), .int ms, .ref (ad 29), .ref (ad 30)])), (ad 21, .inl (cy 0, 6, .inl (fun i => nI (gL g i)))), (ad 22, .inl (cy 0, 14, .inl (fun i => nI (gF g i)))), (ad 23, .inl (cy 0, 14, .inl (fun i => nI (gS g i)))), (ad 24, .inl (cy 0, 14, .inl (fun i => nI (gH g i)))), (ad 25, .inl (cy 0, 14, .inl (fun i => zI (gW g i)))), (ad 26, .inl (cy 1, 32768, .inl ff)), (ad 27, .inl (cy 0, 32768, .inl fr_)), (ad 28, .inl (cy 0, 15, .inl fb)), (ad 29, .inl (cy 0, 8, .inl fp)), (ad 30, .inl (cy 0, 6, .inl fc))] H := hP
  have hD : va_D (inW (wM cy ad g th (bI kb) ms ff fr_ fb fp fc)) [(ad 20, .inr (5, [.int (nI 0), .int (nI (gV g)), .int (nI (gC g)), .int (nI (gE g)), .ref (ad 21), .ref (ad 22), .ref (ad 23), .ref (ad 24), .ref (ad 25), .int (bI kb), .ref (ad 26), .ref (ad 27), .ref (ad 28), .int ms, .ref (ad 29), .ref (ad 30)])), (ad 21, .inl (cy 0, 6, .inl (fun i => nI (gL g i)))), (ad 22, .inl (cy 0, 14, .inl (fun i => nI (gF g i)))), (ad 23, .inl (cy 0, 14, .inl (fun i => nI (gS g i)))), (ad 24, .inl (cy 0, 14, .inl (fun i => nI (gH g i)))), (ad 25, .inl (cy 0, 14, .inl (fun i => zI (gW g i)))), (ad 26, .inl (cy 1, 32768, .inl ff)), (ad 27, .inl (cy 0, 32768, .inl fr_)), (ad 28, .inl (cy 0, 15, .inl fb)), (ad 29, .inl (cy 0, 8, .inl fp)), (ad 30, .inl (cy 0, 6, .inl fc))] := hD
  refine lv_iload_n hx hb dX6_free_5 rfl (lv_at hl 1 rfl) ?_
  refine pu_call (va_runS (As := [.int (nI kd)]) (rest := []) ⟨hx, hb, hml, hown, hts⟩ (c_X6_isKind l D cy ((nI kd))) (va_cwS 1 hts gX6_free_X6_isKind rfl rfl rfl (by decide +kernel) ⟨Nat.le_of_ble_eq_true rfl, Nat.le_of_ble_eq_true rfl⟩) (PU_preS hK hP [] rfl) rfl rfl hl.1 rfl (lv_room (Nat.le_of_ble_eq_true rfl)) dX6_free_6 ⟨(Nat.zero_le _), (Nat.zero_le _)⟩) hS hP (fun H locs hP hS => ?_)
  refine b_ne (b := (decide ((nI kd) = 0 ∨ (nI kd) = nI 1))) (tgt := 17) hx hb dX6_free_9 (by decide) (fun c9 => ?_) (fun c9 => ?_)
  · have c9 := of_decide_eq_true c9
    refine lv_aload_n hx hb dX6_free_17 rfl (lv_at hl 0 rfl) ?_
    refine lv_iload_n hx hb dX6_free_18 rfl (lv_at hl 2 rfl) ?_
    refine pu_call (va_runV (As := [.int (nI S)]) (rest := []) ⟨hx, hb, hml, hown, hts⟩ (c_X6_isSet l D cy ad hg ((nI 0)) ((bI kb)) ms ((nI S))) (cwV 1 hts gX6_free_X6_isSet rfl rfl rfl (by decide +kernel) ⟨Nat.le_of_ble_eq_true rfl, Nat.le_of_ble_eq_true rfl⟩) (PU_preV (ci := 5) (q0 := 0) hK hP 0 rfl rfl [0] rfl) rfl rfl hl.1 rfl (lv_room (Nat.le_of_ble_eq_true rfl)) dX6_free_19 ⟨(Nat.zero_le _), (Nat.zero_le _)⟩) hS hP (fun H locs hP hS => ?_)
    refine b_ne (b := (isN ((nI S)) (2 ^ gE g))) (tgt := 27) hx hb dX6_free_22 (by decide) (fun c22 => ?_) (fun c22 => ?_)
    · refine lv_aload_n hx hb dX6_free_27 rfl (lv_at hl 0 rfl) ?_
      refine wr_callv [0, 1, 2, 3, 4, 5, 6, 7, 8, 9, 10] (va_runV (As := []) (rest := []) ⟨hx, hb, hml, hown, hts⟩ (c_X6_learn l D cy ad hg ((nI 0)) (kb := kb) (ms := ms) (ff := ff) (fr_ := fr_) (fb := fb) (fp := fp) (fc := fc) hv9) (cwV 0 hts gX6_free_X6_learn rfl rfl rfl (by decide +kernel) ⟨Nat.le_of_ble_eq_true rfl, Nat.le_of_ble_eq_true rfl⟩) (WR_preV (ci := 5) (q0 := 0) hK hP hD rfl rfl [0, 1, 2, 3, 4, 5, 6, 7, 8, 9, 10] (by decide) rfl rfl) rfl rfl hl.1 rfl (lv_room (Nat.le_of_ble_eq_true rfl)) dX6_free_28 ⟨(Nat.zero_le _), (Nat.zero_le _)⟩) hS hP hD rfl (fun _ => rfl) (fun _ => rfl) (fun u28 H locs w28 hP hD hS => ?_)
      obtain ⟨hF, hR, hB⟩ := w28
      have hP : va_P D vwCl [(ad 20, .inr (5, [.int (nI 0), .int (nI (gV g)), .int (nI (gC g)), .int (nI (gE g)), .ref (ad 21), .ref (ad 22), .ref (ad 23), .ref (ad 24), .ref (ad 25), .int (bI true), .ref (ad 26), .ref (ad 27), .ref (ad 28), .int (nI (mo g (2 ^ gE g))), .ref (ad 29), .ref (ad 30)])), (ad 21, .inl (cy 0, 6, .inl (fun i => nI (gL g i)))), (ad 22, .inl (cy 0, 14, .inl (fun i => nI (gF g i)))), (ad 23, .inl (cy 0, 14, .inl (fun i => nI (gS g i)))), (ad 24, .inl (cy 0, 14, .inl (fun i => nI (gH g i)))), (ad 25, .inl (cy 0, 14, .inl (fun i => zI (gW g i)))), (ad 26, .inl (cy 1, 32768, .inl u28.1)), (ad 27, .inl (cy 0, 32768, .inl u28.2.1)), (ad 28, .inl (cy 0, 15, .inl u28.2.2.1)), (ad 29, .inl (cy 0, 8, .inl u28.2.2.2.1)), (ad 30, .inl (cy 0, 6, .inl u28.2.2.2.2))] H := hP
      have hD : va_D (inW (wM cy ad g th (bI kb) ms ff fr_ fb fp fc)) [(ad 20, .inr (5, [.int (nI 0), .int (nI (gV g)), .int (nI (gC g)), .int (nI (gE g)), .ref (ad 21), .ref (ad 22), .ref (ad 23), .ref (ad 24), .ref (ad 25), .int (bI true), .ref (ad 26), .ref (ad 27), .ref (ad 28), .int (nI (mo g (2 ^ gE g))), .ref (ad 29), .ref (ad 30)])), (ad 21, .inl (cy 0, 6, .inl (fun i => nI (gL g i)))), (ad 22, .inl (cy 0, 14, .inl (fun i => nI (gF g i)))), (ad 23, .inl (cy 0, 14, .inl (fun i => nI (gS g i)))), (ad 24, .inl (cy 0, 14, .inl (fun i => nI (gH g i)))), (ad 25, .inl (cy 0, 14, .inl (fun i => zI (gW g i)))), (ad 26, .inl (cy 1, 32768, .inl u28.1)), (ad 27, .inl (cy 0, 32768, .inl u28.2.1)), (ad 28, .inl (cy 0, 15, .inl u28.2.2.1)), (ad 29, .inl (cy 0, 8, .inl u28.2.2.2.1)), (ad 30, .inl (cy 0, 6, .inl u28.2.2.2.2))] := hD
      refine lv_iload_n hx hb dX6_free_31 rfl (lv_at hl 1 rfl) ?_
      refine lv_iconst (v := nI 2) hx hb dX6_free_32 (by decide) ?_
      refine n_ne (a := kd) (b := 2) (tgt := 66) hx hb dX6_free_33 (by decide) (by omega) (by omega) (fun c33 => ?_) (fun c33 => ?_)
      · refine lv_aload_n hx hb dX6_free_66 rfl (lv_at hl 0 rfl) ?_
        refine va_get (D := D) (ci := 5) (v := .ref (ad 26)) (C := RX6) (T := TX6) (N := 16) hx hb hts inX6 hown hK.1 hP 0 rfl rfl 10 (by decide) (hts (.fieldLink RX6 33 "ColourForestsModel" "free" "[Z") (List.mem_of_getElem? (i := 2) rfl)) (fun _ h9 => h9) rfl dX6_free_67 ?_
        refine lv_sipush (v := nI 16384) hx hb dX6_free_70 (by decide) ?_
        refine lv_iload_n hx hb dX6_free_73 rfl (lv_at hl 1 rfl) ?_
        refine lv_imul hx hb dX6_free_74 ?_
        refine lv_as (y := (nI (16384 * kd))) (ni_mul _ _) ?_
        refine lv_iload_n hx hb dX6_free_75 rfl (lv_at hl 2 rfl) ?_
        refine lv_iadd hx hb dX6_free_76 ?_
        refine lv_as (y := (nI ((16384 * kd) + S))) (nI_add _ _) ?_
        refine rd_z (k := ((16384 * kd) + S)) (v := (bI (fN g kd S))) hx hb hK hP 6 rfl (by omega) (by decide) (hF kd S hk9 hS9) dX6_free_77 ?_
        refine lv_istore_n (lv' := [(3, .int (bI (fN g kd S))), (0, .ref (ad 20)), (1, .int (nI kd)), (2, .int (nI S))]) hx hb dX6_free_78 rfl hl (by decide) rfl (fun ls hl => ?_)
        refine lv_iload_n hx hb dX6_free_79 rfl (lv_at hl 0 rfl) ?_
        refine b_eq (b := (fN g kd S)) (tgt := 87) hx hb dX6_free_80 (by decide) (fun c80 => ?_) (fun c80 => ?_)
        · refine lv_iconst (v := nI 0) hx hb dX6_free_87 (by decide) ?_
          exact wi_ret u28 hx hb hr hlocks hS hP ⟨(by rw [c80]; rfl), hF, hR, hB⟩ dX6_free_88
        · refine lv_iconst (v := nI 1) hx hb dX6_free_83 (by decide) ?_
          refine lv_goto (tgt := 88) hx hb dX6_free_84 (by decide) ?_
          exact wi_ret u28 hx hb hr hlocks hS hP ⟨(by rw [c80]; rfl), hF, hR, hB⟩ dX6_free_88
      · exact absurd c33 (by omega)
    · exact absurd (c22.symm.trans (isN_y hS9 (by omega))) (by decide)
  · have c9 := of_decide_eq_false c9
    exact absurd (isK hk9) c9

set_option maxHeartbeats 4000000 in
set_option maxRecDepth 100000 in
theorem c_X6_free_2 (l : Launch) (D : va_G) (cy : Nat → ClassId) (ad : Nat → Nat) {g : GT} (hg : gOK g) (th : Int32) {kb : Bool} {ms : Int32} {ff fr_ fb fp fc : Nat → Int32} (hv9 : kb = true → lrF g (2 ^ gE g) ff ∧ lrR g (2 ^ gE g) fr_ ∧ lrB g (2 ^ gE g) fb ∧ ms = nI (mo g (2 ^ gE g))) {S : Nat} (hS9 : S < 2 ^ gE g) : WI l yX6_free wsX6_free ({ frames := 3, cells := 0, slots := 0, locals := 71 }) D cy [.ref (ad 20), .int (nI 2), .int (nI S)] (wM cy ad g th (bI kb) ms ff fr_ fb fp fc) (fun (r : Int32) (u : (Nat → Int32) × (Nat → Int32) × (Nat → Int32) × (Nat → Int32) × (Nat → Int32)) => r = bI (co g S) ∧ lrF g (2 ^ gE g) u.1 ∧ lrR g (2 ^ gE g) u.2.1 ∧ lrB g (2 ^ gE g) u.2.2.1) (fun u : (Nat → Int32) × (Nat → Int32) × (Nat → Int32) × (Nat → Int32) × (Nat → Int32) => wM cy ad g (nI 0) (bI true) (nI (mo g (2 ^ gE g))) u.1 u.2.1 u.2.2.1 u.2.2.2.1 u.2.2.2.2) := by
  refine Met.ofW (cc := cX6_free) (maxL := 4) (ret := (some .int)) (by decide) rfl ?_
  intro p ev s m args below meth c s₁ B hml hv
  obtain ⟨rfl, ⟨hK, hP⟩, hD0⟩ := hv
  have hx := B.exec
  have hb := B.bytes
  have hr := B.returns
  have hts := atoms_spec (ws := wsX6_free) B.pre
  have hown : s.vm.findClass RX6 = some m.cls := findClass_of_methodNamed B.named
  have hlocks := B.notSynchronized
  have hD : va_D (inW (wM cy ad g th (bI kb) ms ff fr_ fb fp fc)) (wM cy ad g th (bI kb) ms ff fr_ fb fp fc) := inW_self hD0
  have hS : va_S (inW (wM cy ad g th (bI kb) ms ff fr_ fb fp fc)) s.heap s.heap [] := va_S.rf
  have hP : va_P D vwCl (wM cy ad g th (bI kb) ms ff fr_ fb fp fc) s.heap := hP
  have inX6 : ∀ w ∈ wsX60, w ∈ wsX6_free := by decide +kernel
  have hl := lv_entry ([.ref (ad 20), .int (nI 2), .int (nI S)]) (n := 4) (Nat.le_of_ble_eq_true rfl)
  rw [lg_entry_eq]
  generalize (lg_sl ([.ref (ad 20), .int (nI 2), .int (nI S)]) ++ List.replicate (4 - (lg_sl ([.ref (ad 20), .int (nI 2), .int (nI S)])).length) Slot.unset).toArray = ls at hl ⊢
  have hl : lv_has ls 4 [(0, .ref (ad 20)), (1, .int (nI 2)), (2, .int (nI S))] := hl
  have hgen := True.intro
  have hE := hg.2.2.1
  have hV := hg.1
  have hC := hg.2.1
  have hS8 : 2 ^ gE g ≤ 2 ^ 14 := Nat.pow_le_pow_right (by decide) hE
  refine lv_aload_n hx hb dX6_free_0 rfl (lv_at hl 0 rfl) ?_
  refine lv_iconst (v := nI 0) hx hb dX6_free_1 (by decide) ?_
  refine va_put (D := D) (ci := 5) (v := .int (nI 0)) (ty := .int) (C := RX6) (T := TX6) (N := 16) hx hb hts inX6 tyX6 tyX6_ok nmX6 hown hK.1 hP hD hS 0 rfl rfl 0 (by decide) (hts (.fieldLink RX6 49 "ColourForestsModel" "thrown" "I") (List.mem_of_getElem? (i := 1) rfl)) (fun _ h9 => h9) rfl (by decide +kernel) rfl rfl (Nat.le_of_ble_eq_true rfl) dX6_free_2 (fun H locs hP hD hS => ?_)
  have hP : va_P D vwCl [(ad 20, .inr (5, [.int (nI 0), .int (nI (gV g)), .int (nI (gC g)), .int (nI (gE g)), .ref (ad 21), .ref (ad 22), .ref (ad 23), .ref (ad 24), .ref (ad 25), .int (bI kb), .ref (ad 26), .ref (ad 27), .ref (ad 28), .int ms, .ref (ad 29), .ref (ad 30)])), (ad 21, .inl (cy 0, 6, .inl (fun i => nI (gL g i)))), (ad 22, .inl (cy 0, 14, .inl (fun i => nI (gF g i)))), (ad 23, .inl (cy 0, 14, .inl (fun i => nI (gS g i)))), (ad 24, .inl (cy 0, 14, .inl (fun i => nI (gH g i)))), (ad 25, .inl (cy 0, 14, .inl (fun i => zI (gW g i)))), (ad 26, .inl (cy 1, 32768, .inl ff)), (ad 27, .inl (cy 0, 32768, .inl fr_)), (ad 28, .inl (cy 0, 15, .inl fb)), (ad 29, .inl (cy 0, 8, .inl fp)), (ad 30, .inl (cy 0, 6, .inl fc))] H := hP
  have hD : va_D (inW (wM cy ad g th (bI kb) ms ff fr_ fb fp fc)) [(ad 20, .inr (5, [.int (nI 0), .int (nI (gV g)), .int (nI (gC g)), .int (nI (gE g)), .ref (ad 21), .ref (ad 22), .ref (ad 23), .ref (ad 24), .ref (ad 25), .int (bI kb), .ref (ad 26), .ref (ad 27), .ref (ad 28), .int ms, .ref (ad 29), .ref (ad 30)])), (ad 21, .inl (cy 0, 6, .inl (fun i => nI (gL g i)))), (ad 22, .inl (cy 0, 14, .inl (fun i => nI (gF g i)))), (ad 23, .inl (cy 0, 14, .inl (fun i => nI (gS g i)))), (ad 24, .inl (cy 0, 14, .inl (fun i => nI (gH g i)))), (ad 25, .inl (cy 0, 14, .inl (fun i => zI (gW g i)))), (ad 26, .inl (cy 1, 32768, .inl ff)), (ad 27, .inl (cy 0, 32768, .inl fr_)), (ad 28, .inl (cy 0, 15, .inl fb)), (ad 29, .inl (cy 0, 8, .inl fp)), (ad 30, .inl (cy 0, 6, .inl fc))] := hD
  refine lv_iload_n hx hb dX6_free_5 rfl (lv_at hl 1 rfl) ?_
  refine pu_call (va_runS (As := [.int (nI 2)]) (rest := []) ⟨hx, hb, hml, hown, hts⟩ (c_X6_isKind l D cy ((nI 2))) (va_cwS 1 hts gX6_free_X6_isKind rfl rfl rfl (by decide +kernel) ⟨Nat.le_of_ble_eq_true rfl, Nat.le_of_ble_eq_true rfl⟩) (PU_preS hK hP [] rfl) rfl rfl hl.1 rfl (lv_room (Nat.le_of_ble_eq_true rfl)) dX6_free_6 ⟨(Nat.zero_le _), (Nat.zero_le _)⟩) hS hP (fun H locs hP hS => ?_)
  refine b_ne (b := (decide ((nI 2) = 0 ∨ (nI 2) = nI 1))) (tgt := 17) hx hb dX6_free_9 (by decide) (fun c9 => ?_) (fun c9 => ?_)
  · have c9 := of_decide_eq_true c9
    exact absurd c9 (by decide)
  · have c9 := of_decide_eq_false c9
    refine lv_iload_n hx hb dX6_free_12 rfl (lv_at hl 1 rfl) ?_
    refine lv_iconst (v := nI 2) hx hb dX6_free_13 (by decide) ?_
    refine n_ne (a := 2) (b := 2) (tgt := 25) hx hb dX6_free_14 (by decide) (by omega) (by omega) (fun c14 => ?_) (fun c14 => ?_)
    · exact absurd rfl c14
    · refine lv_aload_n hx hb dX6_free_17 rfl (lv_at hl 0 rfl) ?_
      refine lv_iload_n hx hb dX6_free_18 rfl (lv_at hl 2 rfl) ?_
      refine pu_call (va_runV (As := [.int (nI S)]) (rest := []) ⟨hx, hb, hml, hown, hts⟩ (c_X6_isSet l D cy ad hg ((nI 0)) ((bI kb)) ms ((nI S))) (cwV 1 hts gX6_free_X6_isSet rfl rfl rfl (by decide +kernel) ⟨Nat.le_of_ble_eq_true rfl, Nat.le_of_ble_eq_true rfl⟩) (PU_preV (ci := 5) (q0 := 0) hK hP 0 rfl rfl [0] rfl) rfl rfl hl.1 rfl (lv_room (Nat.le_of_ble_eq_true rfl)) dX6_free_19 ⟨(Nat.zero_le _), (Nat.zero_le _)⟩) hS hP (fun H locs hP hS => ?_)
      refine b_ne (b := (isN ((nI S)) (2 ^ gE g))) (tgt := 27) hx hb dX6_free_22 (by decide) (fun c22 => ?_) (fun c22 => ?_)
      · refine lv_aload_n hx hb dX6_free_27 rfl (lv_at hl 0 rfl) ?_
        refine wr_callv [0, 1, 2, 3, 4, 5, 6, 7, 8, 9, 10] (va_runV (As := []) (rest := []) ⟨hx, hb, hml, hown, hts⟩ (c_X6_learn l D cy ad hg ((nI 0)) (kb := kb) (ms := ms) (ff := ff) (fr_ := fr_) (fb := fb) (fp := fp) (fc := fc) hv9) (cwV 0 hts gX6_free_X6_learn rfl rfl rfl (by decide +kernel) ⟨Nat.le_of_ble_eq_true rfl, Nat.le_of_ble_eq_true rfl⟩) (WR_preV (ci := 5) (q0 := 0) hK hP hD rfl rfl [0, 1, 2, 3, 4, 5, 6, 7, 8, 9, 10] (by decide) rfl rfl) rfl rfl hl.1 rfl (lv_room (Nat.le_of_ble_eq_true rfl)) dX6_free_28 ⟨(Nat.zero_le _), (Nat.zero_le _)⟩) hS hP hD rfl (fun _ => rfl) (fun _ => rfl) (fun u28 H locs w28 hP hD hS => ?_)
        obtain ⟨hF, hR, hB⟩ := w28
        have hP : va_P D vwCl [(ad 20, .inr (5, [.int (nI 0), .int (nI (gV g)), .int (nI (gC g)), .int (nI (gE g)), .ref (ad 21), .ref (ad 22), .ref (ad 23), .ref (ad 24), .ref (ad 25), .int (bI true), .ref (ad 26), .ref (ad 27), .ref (ad 28), .int (nI (mo g (2 ^ gE g))), .ref (ad 29), .ref (ad 30)])), (ad 21, .inl (cy 0, 6, .inl (fun i => nI (gL g i)))), (ad 22, .inl (cy 0, 14, .inl (fun i => nI (gF g i)))), (ad 23, .inl (cy 0, 14, .inl (fun i => nI (gS g i)))), (ad 24, .inl (cy 0, 14, .inl (fun i => nI (gH g i)))), (ad 25, .inl (cy 0, 14, .inl (fun i => zI (gW g i)))), (ad 26, .inl (cy 1, 32768, .inl u28.1)), (ad 27, .inl (cy 0, 32768, .inl u28.2.1)), (ad 28, .inl (cy 0, 15, .inl u28.2.2.1)), (ad 29, .inl (cy 0, 8, .inl u28.2.2.2.1)), (ad 30, .inl (cy 0, 6, .inl u28.2.2.2.2))] H := hP
        have hD : va_D (inW (wM cy ad g th (bI kb) ms ff fr_ fb fp fc)) [(ad 20, .inr (5, [.int (nI 0), .int (nI (gV g)), .int (nI (gC g)), .int (nI (gE g)), .ref (ad 21), .ref (ad 22), .ref (ad 23), .ref (ad 24), .ref (ad 25), .int (bI true), .ref (ad 26), .ref (ad 27), .ref (ad 28), .int (nI (mo g (2 ^ gE g))), .ref (ad 29), .ref (ad 30)])), (ad 21, .inl (cy 0, 6, .inl (fun i => nI (gL g i)))), (ad 22, .inl (cy 0, 14, .inl (fun i => nI (gF g i)))), (ad 23, .inl (cy 0, 14, .inl (fun i => nI (gS g i)))), (ad 24, .inl (cy 0, 14, .inl (fun i => nI (gH g i)))), (ad 25, .inl (cy 0, 14, .inl (fun i => zI (gW g i)))), (ad 26, .inl (cy 1, 32768, .inl u28.1)), (ad 27, .inl (cy 0, 32768, .inl u28.2.1)), (ad 28, .inl (cy 0, 15, .inl u28.2.2.1)), (ad 29, .inl (cy 0, 8, .inl u28.2.2.2.1)), (ad 30, .inl (cy 0, 6, .inl u28.2.2.2.2))] := hD
        refine lv_iload_n hx hb dX6_free_31 rfl (lv_at hl 1 rfl) ?_
        refine lv_iconst (v := nI 2) hx hb dX6_free_32 (by decide) ?_
        refine n_ne (a := 2) (b := 2) (tgt := 66) hx hb dX6_free_33 (by decide) (by omega) (by omega) (fun c33 => ?_) (fun c33 => ?_)
        · exact absurd rfl c33
        · refine lv_aload_n hx hb dX6_free_36 rfl (lv_at hl 0 rfl) ?_
          refine va_get (D := D) (ci := 5) (v := .ref (ad 26)) (C := RX6) (T := TX6) (N := 16) hx hb hts inX6 hown hK.1 hP 0 rfl rfl 10 (by decide) (hts (.fieldLink RX6 33 "ColourForestsModel" "free" "[Z") (List.mem_of_getElem? (i := 2) rfl)) (fun _ h9 => h9) rfl dX6_free_37 ?_
          refine lv_iload_n hx hb dX6_free_40 rfl (lv_at hl 2 rfl) ?_
          refine rd_z (k := S) (v := (bI (fr g S))) hx hb hK hP 6 rfl (by omega) (by decide) (lrF_at0 hF hS9) dX6_free_41 ?_
          refine b_eq (b := (fr g S)) (tgt := 62) hx hb dX6_free_42 (by decide) (fun c42 => ?_) (fun c42 => ?_)
          · refine lv_iconst (v := nI 0) hx hb dX6_free_62 (by decide) ?_
            refine lv_goto (tgt := 78) hx hb dX6_free_63 (by decide) ?_
            refine lv_istore_n (lv' := [(3, .int (nI 0)), (0, .ref (ad 20)), (1, .int (nI 2)), (2, .int (nI S))]) hx hb dX6_free_78 rfl hl (by decide) rfl (fun ls hl => ?_)
            refine lv_iload_n hx hb dX6_free_79 rfl (lv_at hl 0 rfl) ?_
            refine lv_if_eq (tgt := 87) hx hb dX6_free_80 (by decide) (fun c80 => ?_) (fun c80 => ?_)
            · refine lv_iconst (v := nI 0) hx hb dX6_free_87 (by decide) ?_
              exact wi_ret u28 hx hb hr hlocks hS hP ⟨(by first | (rw [co_f (Or.inl c42)]; rfl) | (rw [co_f (Or.inr c55)]; rfl) | (rw [co_yes c42 c55]; rfl)), hF, hR, hB⟩ dX6_free_88
            · exact absurd (by decide) c80
          · refine lv_aload_n hx hb dX6_free_45 rfl (lv_at hl 0 rfl) ?_
            refine va_get (D := D) (ci := 5) (v := .ref (ad 26)) (C := RX6) (T := TX6) (N := 16) hx hb hts inX6 hown hK.1 hP 0 rfl rfl 10 (by decide) (hts (.fieldLink RX6 33 "ColourForestsModel" "free" "[Z") (List.mem_of_getElem? (i := 2) rfl)) (fun _ h9 => h9) rfl dX6_free_46 ?_
            refine lv_sipush (v := nI 16384) hx hb dX6_free_49 (by decide) ?_
            refine lv_iload_n hx hb dX6_free_52 rfl (lv_at hl 2 rfl) ?_
            refine lv_iadd hx hb dX6_free_53 ?_
            refine lv_as (y := (nI (16384 + S))) (nI_add _ _) ?_
            refine rd_z (k := (16384 + S)) (v := (bI (li g S))) hx hb hK hP 6 rfl (by omega) (by decide) (lrF_at1 hF hS9) dX6_free_54 ?_
            refine b_eq (b := (li g S)) (tgt := 62) hx hb dX6_free_55 (by decide) (fun c55 => ?_) (fun c55 => ?_)
            · refine lv_iconst (v := nI 0) hx hb dX6_free_62 (by decide) ?_
              refine lv_goto (tgt := 78) hx hb dX6_free_63 (by decide) ?_
              refine lv_istore_n (lv' := [(3, .int (nI 0)), (0, .ref (ad 20)), (1, .int (nI 2)), (2, .int (nI S))]) hx hb dX6_free_78 rfl hl (by decide) rfl (fun ls hl => ?_)
              refine lv_iload_n hx hb dX6_free_79 rfl (lv_at hl 0 rfl) ?_
              refine lv_if_eq (tgt := 87) hx hb dX6_free_80 (by decide) (fun c80 => ?_) (fun c80 => ?_)
              · refine lv_iconst (v := nI 0) hx hb dX6_free_87 (by decide) ?_
                exact wi_ret u28 hx hb hr hlocks hS hP ⟨(by first | (rw [co_f (Or.inl c42)]; rfl) | (rw [co_f (Or.inr c55)]; rfl) | (rw [co_yes c42 c55]; rfl)), hF, hR, hB⟩ dX6_free_88
              · exact absurd (by decide) c80
            · refine lv_iconst (v := nI 1) hx hb dX6_free_58 (by decide) ?_
              refine lv_goto (tgt := 78) hx hb dX6_free_59 (by decide) ?_
              refine lv_istore_n (lv' := [(3, .int (nI 1)), (0, .ref (ad 20)), (1, .int (nI 2)), (2, .int (nI S))]) hx hb dX6_free_78 rfl hl (by decide) rfl (fun ls hl => ?_)
              refine lv_iload_n hx hb dX6_free_79 rfl (lv_at hl 0 rfl) ?_
              refine lv_if_eq (tgt := 87) hx hb dX6_free_80 (by decide) (fun c80 => ?_) (fun c80 => ?_)
              · exact absurd c80 (by decide)
              · refine lv_iconst (v := nI 1) hx hb dX6_free_83 (by decide) ?_
                refine lv_goto (tgt := 88) hx hb dX6_free_84 (by decide) ?_
                exact wi_ret u28 hx hb hr hlocks hS hP ⟨(by first | (rw [co_f (Or.inl c42)]; rfl) | (rw [co_f (Or.inr c55)]; rfl) | (rw [co_yes c42 c55]; rfl)), hF, hR, hB⟩ dX6_free_88
      · exact absurd (c22.symm.trans (isN_y hS9 (by omega))) (by decide)

set_option maxHeartbeats 4000000 in
set_option maxRecDepth 100000 in
theorem c_X6_circuit_no (l : Launch) (D : va_G) (cy : Nat → ClassId) (ad : Nat → Nat) {g : GT} (hg : gOK g) (th kn ms : Int32) {x y z : Int32} (h : (decide (x = 0 ∨ x = nI 1) && isN y (2 ^ gE g) && isN z (gE g)) = false) : WI l yX6_circuit wsX6_circuit ({ frames := 1, cells := 0, slots := 0, locals := 21 }) D cy [.ref (ad 20), .int x, .int y, .int z] [(ad 20, .inr (5, [.int th, .int (nI (gV g)), .int (nI (gC g)), .int (nI (gE g)), .ref (ad 21), .ref (ad 22), .ref (ad 23), .ref (ad 24), .ref (ad 25), .int kn, .ref (ad 26), .ref (ad 27), .ref (ad 28), .int ms, .ref (ad 29), .ref (ad 30)]))] (fun (r : Int32) (_ : Unit) => r = zI (-1)) (fun _ : Unit => [(ad 20, .inr (5, [.int (nI 0), .int (nI (gV g)), .int (nI (gC g)), .int (nI (gE g)), .ref (ad 21), .ref (ad 22), .ref (ad 23), .ref (ad 24), .ref (ad 25), .int kn, .ref (ad 26), .ref (ad 27), .ref (ad 28), .int ms, .ref (ad 29), .ref (ad 30)]))]) := by
  refine Met.ofW (cc := cX6_circuit) (maxL := 8) (ret := (some .int)) (by decide) rfl ?_
  intro p ev s m args below meth c s₁ B hml hv
  obtain ⟨rfl, ⟨hK, hP⟩, hD0⟩ := hv
  have hx := B.exec
  have hb := B.bytes
  have hr := B.returns
  have hts := atoms_spec (ws := wsX6_circuit) B.pre
  have hown : s.vm.findClass RX6 = some m.cls := findClass_of_methodNamed B.named
  have hlocks := B.notSynchronized
  have hD : va_D (inW [(ad 20, .inr (5, [.int th, .int (nI (gV g)), .int (nI (gC g)), .int (nI (gE g)), .ref (ad 21), .ref (ad 22), .ref (ad 23), .ref (ad 24), .ref (ad 25), .int kn, .ref (ad 26), .ref (ad 27), .ref (ad 28), .int ms, .ref (ad 29), .ref (ad 30)]))]) ([(ad 20, .inr (5, [.int th, .int (nI (gV g)), .int (nI (gC g)), .int (nI (gE g)), .ref (ad 21), .ref (ad 22), .ref (ad 23), .ref (ad 24), .ref (ad 25), .int kn, .ref (ad 26), .ref (ad 27), .ref (ad 28), .int ms, .ref (ad 29), .ref (ad 30)]))]) := inW_self hD0
  have hS : va_S (inW [(ad 20, .inr (5, [.int th, .int (nI (gV g)), .int (nI (gC g)), .int (nI (gE g)), .ref (ad 21), .ref (ad 22), .ref (ad 23), .ref (ad 24), .ref (ad 25), .int kn, .ref (ad 26), .ref (ad 27), .ref (ad 28), .int ms, .ref (ad 29), .ref (ad 30)]))]) s.heap s.heap [] := va_S.rf
  have hP : va_P D vwCl [(ad 20, .inr (5, [.int th, .int (nI (gV g)), .int (nI (gC g)), .int (nI (gE g)), .ref (ad 21), .ref (ad 22), .ref (ad 23), .ref (ad 24), .ref (ad 25), .int kn, .ref (ad 26), .ref (ad 27), .ref (ad 28), .int ms, .ref (ad 29), .ref (ad 30)]))] s.heap := hP
  have inX6 : ∀ w ∈ wsX60, w ∈ wsX6_circuit := by decide +kernel
  have hl := lv_entry ([.ref (ad 20), .int x, .int y, .int z]) (n := 8) (Nat.le_of_ble_eq_true rfl)
  rw [lg_entry_eq]
  generalize (lg_sl ([.ref (ad 20), .int x, .int y, .int z]) ++ List.replicate (8 - (lg_sl ([.ref (ad 20), .int x, .int y, .int z])).length) Slot.unset).toArray = ls at hl ⊢
  have hl : lv_has ls 8 [(0, .ref (ad 20)), (1, .int x), (2, .int y), (3, .int z)] := hl
  have hgen := True.intro
  have hE := hg.2.2.1
  have hV := hg.1
  have hC := hg.2.1
  have hS8 : 2 ^ gE g ≤ 2 ^ 14 := Nat.pow_le_pow_right (by decide) hE
  refine lv_aload_n hx hb dX6_circuit_0 rfl (lv_at hl 0 rfl) ?_
  refine lv_iconst (v := nI 0) hx hb dX6_circuit_1 (by decide) ?_
  refine va_put (D := D) (ci := 5) (v := .int (nI 0)) (ty := .int) (C := RX6) (T := TX6) (N := 16) hx hb hts inX6 tyX6 tyX6_ok nmX6 hown hK.1 hP hD hS 0 rfl rfl 0 (by decide) (hts (.fieldLink RX6 49 "ColourForestsModel" "thrown" "I") (List.mem_of_getElem? (i := 1) rfl)) (fun _ h9 => h9) rfl (by decide +kernel) rfl rfl (Nat.le_of_ble_eq_true rfl) dX6_circuit_2 (fun H locs hP hD hS => ?_)
  have hP : va_P D vwCl [(ad 20, .inr (5, [.int (nI 0), .int (nI (gV g)), .int (nI (gC g)), .int (nI (gE g)), .ref (ad 21), .ref (ad 22), .ref (ad 23), .ref (ad 24), .ref (ad 25), .int kn, .ref (ad 26), .ref (ad 27), .ref (ad 28), .int ms, .ref (ad 29), .ref (ad 30)]))] H := hP
  have hD : va_D (inW [(ad 20, .inr (5, [.int th, .int (nI (gV g)), .int (nI (gC g)), .int (nI (gE g)), .ref (ad 21), .ref (ad 22), .ref (ad 23), .ref (ad 24), .ref (ad 25), .int kn, .ref (ad 26), .ref (ad 27), .ref (ad 28), .int ms, .ref (ad 29), .ref (ad 30)]))]) [(ad 20, .inr (5, [.int (nI 0), .int (nI (gV g)), .int (nI (gC g)), .int (nI (gE g)), .ref (ad 21), .ref (ad 22), .ref (ad 23), .ref (ad 24), .ref (ad 25), .int kn, .ref (ad 26), .ref (ad 27), .ref (ad 28), .int ms, .ref (ad 29), .ref (ad 30)]))] := hD
  refine lv_iload_n hx hb dX6_circuit_5 rfl (lv_at hl 1 rfl) ?_
  refine pu_call (va_runS (As := [.int x]) (rest := []) ⟨hx, hb, hml, hown, hts⟩ (c_X6_isKind l D cy x) (va_cwS 1 hts gX6_circuit_X6_isKind rfl rfl rfl (by decide +kernel) ⟨Nat.le_of_ble_eq_true rfl, Nat.le_of_ble_eq_true rfl⟩) (PU_preS hK hP [] rfl) rfl rfl hl.1 rfl (lv_room (Nat.le_of_ble_eq_true rfl)) dX6_circuit_6 ⟨(Nat.zero_le _), (Nat.zero_le _)⟩) hS hP (fun H locs hP hS => ?_)
  refine b_eq (b := (decide (x = 0 ∨ x = nI 1))) (tgt := 32) hx hb dX6_circuit_9 (by decide) (fun c9 => ?_) (fun c9 => ?_)
  · have c9 := of_decide_eq_false c9
    refine lv_iconst (v := zI (-1)) hx hb dX6_circuit_32 (by decide) ?_
    exact wi_ret () hx hb hr hlocks hS hP rfl dX6_circuit_33
  · have c9 := of_decide_eq_true c9
    refine lv_aload_n hx hb dX6_circuit_12 rfl (lv_at hl 0 rfl) ?_
    refine lv_iload_n hx hb dX6_circuit_13 rfl (lv_at hl 2 rfl) ?_
    refine pu_call (va_runV (As := [.int y]) (rest := []) ⟨hx, hb, hml, hown, hts⟩ (c_X6_isSet l D cy ad hg ((nI 0)) kn ms y) (cwV 1 hts gX6_circuit_X6_isSet rfl rfl rfl (by decide +kernel) ⟨Nat.le_of_ble_eq_true rfl, Nat.le_of_ble_eq_true rfl⟩) (PU_preV (ci := 5) (q0 := 0) hK hP 0 rfl rfl [0] rfl) rfl rfl hl.1 rfl (lv_room (Nat.le_of_ble_eq_true rfl)) dX6_circuit_14 ⟨(Nat.zero_le _), (Nat.zero_le _)⟩) hS hP (fun H locs hP hS => ?_)
    refine b_eq (b := (isN y (2 ^ gE g))) (tgt := 32) hx hb dX6_circuit_17 (by decide) (fun c17 => ?_) (fun c17 => ?_)
    · refine lv_iconst (v := zI (-1)) hx hb dX6_circuit_32 (by decide) ?_
      exact wi_ret () hx hb hr hlocks hS hP rfl dX6_circuit_33
    · refine lv_iload_n hx hb dX6_circuit_20 rfl (lv_at hl 3 rfl) ?_
      refine lv_if_lt (tgt := 32) hx hb dX6_circuit_21 (by decide) (fun c21 => ?_) (fun c21 => ?_)
      · refine lv_iconst (v := zI (-1)) hx hb dX6_circuit_32 (by decide) ?_
        exact wi_ret () hx hb hr hlocks hS hP rfl dX6_circuit_33
      · refine lv_iload_n hx hb dX6_circuit_24 rfl (lv_at hl 3 rfl) ?_
        refine lv_aload_n hx hb dX6_circuit_25 rfl (lv_at hl 0 rfl) ?_
        refine va_get (D := D) (ci := 5) (v := .int (nI (gE g))) (C := RX6) (T := TX6) (N := 16) hx hb hts inX6 hown hK.1 hP 0 rfl rfl 3 (by decide) (hts (.fieldLink RX6 56 "ColourForestsModel" "edges" "I") (List.mem_of_getElem? (i := 2) rfl)) (fun _ h9 => h9) rfl dX6_circuit_26 ?_
        refine lv_icmp_lt (tgt := 34) hx hb dX6_circuit_29 (by decide) (fun c29 => ?_) (fun c29 => ?_)
        · exact absurd h (by rw [decide_eq_true c9, c17, isN_t2 (by omega) c21 c29]; decide)
        · refine lv_iconst (v := zI (-1)) hx hb dX6_circuit_32 (by decide) ?_
          exact wi_ret () hx hb hr hlocks hS hP rfl dX6_circuit_33

set_option maxHeartbeats 4000000 in
set_option maxRecDepth 100000 in
theorem c_X6_circuit_yes (l : Launch) (D : va_G) (cy : Nat → ClassId) (ad : Nat → Nat) {g : GT} (hg : gOK g) (th : Int32) {kb : Bool} {ms : Int32} {ff fr_ fb fp fc : Nat → Int32} (hv9 : kb = true → lrF g (2 ^ gE g) ff ∧ lrR g (2 ^ gE g) fr_ ∧ lrB g (2 ^ gE g) fb ∧ ms = nI (mo g (2 ^ gE g))) {kd S e : Nat} (hk9 : kd < 2) (hS9 : S < 2 ^ gE g) (he : e < gE g) : WI l yX6_circuit wsX6_circuit ({ frames := 3, cells := 0, slots := 0, locals := 71 }) D cy [.ref (ad 20), .int (nI kd), .int (nI S), .int (nI e)] (wM cy ad g th (bI kb) ms ff fr_ fb fp fc) (fun (r : Int32) (u : (Nat → Int32) × (Nat → Int32) × (Nat → Int32) × (Nat → Int32) × (Nat → Int32)) => r = ciA g kd S e ∧ lrF g (2 ^ gE g) u.1 ∧ lrR g (2 ^ gE g) u.2.1 ∧ lrB g (2 ^ gE g) u.2.2.1) (fun u : (Nat → Int32) × (Nat → Int32) × (Nat → Int32) × (Nat → Int32) × (Nat → Int32) => wM cy ad g (nI 0) (bI true) (nI (mo g (2 ^ gE g))) u.1 u.2.1 u.2.2.1 u.2.2.2.1 u.2.2.2.2) := by
  refine Met.ofW (cc := cX6_circuit) (maxL := 8) (ret := (some .int)) (by decide) rfl ?_
  intro p ev s m args below meth c s₁ B hml hv
  obtain ⟨rfl, ⟨hK, hP⟩, hD0⟩ := hv
  have hx := B.exec
  have hb := B.bytes
  have hr := B.returns
  have hts := atoms_spec (ws := wsX6_circuit) B.pre
  have hown : s.vm.findClass RX6 = some m.cls := findClass_of_methodNamed B.named
  have hlocks := B.notSynchronized
  have hD : va_D (inW (wM cy ad g th (bI kb) ms ff fr_ fb fp fc)) (wM cy ad g th (bI kb) ms ff fr_ fb fp fc) := inW_self hD0
  have hS : va_S (inW (wM cy ad g th (bI kb) ms ff fr_ fb fp fc)) s.heap s.heap [] := va_S.rf
  have hP : va_P D vwCl (wM cy ad g th (bI kb) ms ff fr_ fb fp fc) s.heap := hP
  have inX6 : ∀ w ∈ wsX60, w ∈ wsX6_circuit := by decide +kernel
  have hl := lv_entry ([.ref (ad 20), .int (nI kd), .int (nI S), .int (nI e)]) (n := 8) (Nat.le_of_ble_eq_true rfl)
  rw [lg_entry_eq]
  generalize (lg_sl ([.ref (ad 20), .int (nI kd), .int (nI S), .int (nI e)]) ++ List.replicate (8 - (lg_sl ([.ref (ad 20), .int (nI kd), .int (nI S), .int (nI e)])).length) Slot.unset).toArray = ls at hl ⊢
  have hl : lv_has ls 8 [(0, .ref (ad 20)), (1, .int (nI kd)), (2, .int (nI S)), (3, .int (nI e))] := hl
  have hgen := True.intro
  have hE := hg.2.2.1
  have hV := hg.1
  have hC := hg.2.1
  have hS8 : 2 ^ gE g ≤ 2 ^ 14 := Nat.pow_le_pow_right (by decide) hE
  have hB9 : S ||| 2 ^ e < 2 ^ gE g := ms_ins_lt hS9 he
  refine lv_aload_n hx hb dX6_circuit_0 rfl (lv_at hl 0 rfl) ?_
  refine lv_iconst (v := nI 0) hx hb dX6_circuit_1 (by decide) ?_
  refine va_put (D := D) (ci := 5) (v := .int (nI 0)) (ty := .int) (C := RX6) (T := TX6) (N := 16) hx hb hts inX6 tyX6 tyX6_ok nmX6 hown hK.1 hP hD hS 0 rfl rfl 0 (by decide) (hts (.fieldLink RX6 49 "ColourForestsModel" "thrown" "I") (List.mem_of_getElem? (i := 1) rfl)) (fun _ h9 => h9) rfl (by decide +kernel) rfl rfl (Nat.le_of_ble_eq_true rfl) dX6_circuit_2 (fun H locs hP hD hS => ?_)
  have hP : va_P D vwCl [(ad 20, .inr (5, [.int (nI 0), .int (nI (gV g)), .int (nI (gC g)), .int (nI (gE g)), .ref (ad 21), .ref (ad 22), .ref (ad 23), .ref (ad 24), .ref (ad 25), .int (bI kb), .ref (ad 26), .ref (ad 27), .ref (ad 28), .int ms, .ref (ad 29), .ref (ad 30)])), (ad 21, .inl (cy 0, 6, .inl (fun i => nI (gL g i)))), (ad 22, .inl (cy 0, 14, .inl (fun i => nI (gF g i)))), (ad 23, .inl (cy 0, 14, .inl (fun i => nI (gS g i)))), (ad 24, .inl (cy 0, 14, .inl (fun i => nI (gH g i)))), (ad 25, .inl (cy 0, 14, .inl (fun i => zI (gW g i)))), (ad 26, .inl (cy 1, 32768, .inl ff)), (ad 27, .inl (cy 0, 32768, .inl fr_)), (ad 28, .inl (cy 0, 15, .inl fb)), (ad 29, .inl (cy 0, 8, .inl fp)), (ad 30, .inl (cy 0, 6, .inl fc))] H := hP
  have hD : va_D (inW (wM cy ad g th (bI kb) ms ff fr_ fb fp fc)) [(ad 20, .inr (5, [.int (nI 0), .int (nI (gV g)), .int (nI (gC g)), .int (nI (gE g)), .ref (ad 21), .ref (ad 22), .ref (ad 23), .ref (ad 24), .ref (ad 25), .int (bI kb), .ref (ad 26), .ref (ad 27), .ref (ad 28), .int ms, .ref (ad 29), .ref (ad 30)])), (ad 21, .inl (cy 0, 6, .inl (fun i => nI (gL g i)))), (ad 22, .inl (cy 0, 14, .inl (fun i => nI (gF g i)))), (ad 23, .inl (cy 0, 14, .inl (fun i => nI (gS g i)))), (ad 24, .inl (cy 0, 14, .inl (fun i => nI (gH g i)))), (ad 25, .inl (cy 0, 14, .inl (fun i => zI (gW g i)))), (ad 26, .inl (cy 1, 32768, .inl ff)), (ad 27, .inl (cy 0, 32768, .inl fr_)), (ad 28, .inl (cy 0, 15, .inl fb)), (ad 29, .inl (cy 0, 8, .inl fp)), (ad 30, .inl (cy 0, 6, .inl fc))] := hD
  refine lv_iload_n hx hb dX6_circuit_5 rfl (lv_at hl 1 rfl) ?_
  refine pu_call (va_runS (As := [.int (nI kd)]) (rest := []) ⟨hx, hb, hml, hown, hts⟩ (c_X6_isKind l D cy ((nI kd))) (va_cwS 1 hts gX6_circuit_X6_isKind rfl rfl rfl (by decide +kernel) ⟨Nat.le_of_ble_eq_true rfl, Nat.le_of_ble_eq_true rfl⟩) (PU_preS hK hP [] rfl) rfl rfl hl.1 rfl (lv_room (Nat.le_of_ble_eq_true rfl)) dX6_circuit_6 ⟨(Nat.zero_le _), (Nat.zero_le _)⟩) hS hP (fun H locs hP hS => ?_)
  refine b_eq (b := (decide ((nI kd) = 0 ∨ (nI kd) = nI 1))) (tgt := 32) hx hb dX6_circuit_9 (by decide) (fun c9 => ?_) (fun c9 => ?_)
  · have c9 := of_decide_eq_false c9
    exact absurd (isK hk9) c9
  · have c9 := of_decide_eq_true c9
    refine lv_aload_n hx hb dX6_circuit_12 rfl (lv_at hl 0 rfl) ?_
    refine lv_iload_n hx hb dX6_circuit_13 rfl (lv_at hl 2 rfl) ?_
    refine pu_call (va_runV (As := [.int (nI S)]) (rest := []) ⟨hx, hb, hml, hown, hts⟩ (c_X6_isSet l D cy ad hg ((nI 0)) ((bI kb)) ms ((nI S))) (cwV 1 hts gX6_circuit_X6_isSet rfl rfl rfl (by decide +kernel) ⟨Nat.le_of_ble_eq_true rfl, Nat.le_of_ble_eq_true rfl⟩) (PU_preV (ci := 5) (q0 := 0) hK hP 0 rfl rfl [0] rfl) rfl rfl hl.1 rfl (lv_room (Nat.le_of_ble_eq_true rfl)) dX6_circuit_14 ⟨(Nat.zero_le _), (Nat.zero_le _)⟩) hS hP (fun H locs hP hS => ?_)
    refine b_eq (b := (isN ((nI S)) (2 ^ gE g))) (tgt := 32) hx hb dX6_circuit_17 (by decide) (fun c17 => ?_) (fun c17 => ?_)
    · exact absurd (c17.symm.trans (isN_y hS9 (by omega))) (by decide)
    · refine lv_iload_n hx hb dX6_circuit_20 rfl (lv_at hl 3 rfl) ?_
      refine lv_if_lt (tgt := 32) hx hb dX6_circuit_21 (by decide) (fun c21 => ?_) (fun c21 => ?_)
      · exact absurd c21 (nlt0 (by omega))
      · refine lv_iload_n hx hb dX6_circuit_24 rfl (lv_at hl 3 rfl) ?_
        refine lv_aload_n hx hb dX6_circuit_25 rfl (lv_at hl 0 rfl) ?_
        refine va_get (D := D) (ci := 5) (v := .int (nI (gE g))) (C := RX6) (T := TX6) (N := 16) hx hb hts inX6 hown hK.1 hP 0 rfl rfl 3 (by decide) (hts (.fieldLink RX6 56 "ColourForestsModel" "edges" "I") (List.mem_of_getElem? (i := 2) rfl)) (fun _ h9 => h9) rfl dX6_circuit_26 ?_
        refine n_lt (a := e) (b := (gE g)) (tgt := 34) hx hb dX6_circuit_29 (by decide) (by omega) (by omega) (fun c29 => ?_) (fun c29 => ?_)
        · refine lv_aload_n hx hb dX6_circuit_34 rfl (lv_at hl 0 rfl) ?_
          refine wr_callv [0, 1, 2, 3, 4, 5, 6, 7, 8, 9, 10] (va_runV (As := []) (rest := []) ⟨hx, hb, hml, hown, hts⟩ (c_X6_learn l D cy ad hg ((nI 0)) (kb := kb) (ms := ms) (ff := ff) (fr_ := fr_) (fb := fb) (fp := fp) (fc := fc) hv9) (cwV 0 hts gX6_circuit_X6_learn rfl rfl rfl (by decide +kernel) ⟨Nat.le_of_ble_eq_true rfl, Nat.le_of_ble_eq_true rfl⟩) (WR_preV (ci := 5) (q0 := 0) hK hP hD rfl rfl [0, 1, 2, 3, 4, 5, 6, 7, 8, 9, 10] (by decide) rfl rfl) rfl rfl hl.1 rfl (lv_room (Nat.le_of_ble_eq_true rfl)) dX6_circuit_35 ⟨(Nat.zero_le _), (Nat.zero_le _)⟩) hS hP hD rfl (fun _ => rfl) (fun _ => rfl) (fun u35 H locs w35 hP hD hS => ?_)
          obtain ⟨hF, hR, hB⟩ := w35
          have hP : va_P D vwCl [(ad 20, .inr (5, [.int (nI 0), .int (nI (gV g)), .int (nI (gC g)), .int (nI (gE g)), .ref (ad 21), .ref (ad 22), .ref (ad 23), .ref (ad 24), .ref (ad 25), .int (bI true), .ref (ad 26), .ref (ad 27), .ref (ad 28), .int (nI (mo g (2 ^ gE g))), .ref (ad 29), .ref (ad 30)])), (ad 21, .inl (cy 0, 6, .inl (fun i => nI (gL g i)))), (ad 22, .inl (cy 0, 14, .inl (fun i => nI (gF g i)))), (ad 23, .inl (cy 0, 14, .inl (fun i => nI (gS g i)))), (ad 24, .inl (cy 0, 14, .inl (fun i => nI (gH g i)))), (ad 25, .inl (cy 0, 14, .inl (fun i => zI (gW g i)))), (ad 26, .inl (cy 1, 32768, .inl u35.1)), (ad 27, .inl (cy 0, 32768, .inl u35.2.1)), (ad 28, .inl (cy 0, 15, .inl u35.2.2.1)), (ad 29, .inl (cy 0, 8, .inl u35.2.2.2.1)), (ad 30, .inl (cy 0, 6, .inl u35.2.2.2.2))] H := hP
          have hD : va_D (inW (wM cy ad g th (bI kb) ms ff fr_ fb fp fc)) [(ad 20, .inr (5, [.int (nI 0), .int (nI (gV g)), .int (nI (gC g)), .int (nI (gE g)), .ref (ad 21), .ref (ad 22), .ref (ad 23), .ref (ad 24), .ref (ad 25), .int (bI true), .ref (ad 26), .ref (ad 27), .ref (ad 28), .int (nI (mo g (2 ^ gE g))), .ref (ad 29), .ref (ad 30)])), (ad 21, .inl (cy 0, 6, .inl (fun i => nI (gL g i)))), (ad 22, .inl (cy 0, 14, .inl (fun i => nI (gF g i)))), (ad 23, .inl (cy 0, 14, .inl (fun i => nI (gS g i)))), (ad 24, .inl (cy 0, 14, .inl (fun i => nI (gH g i)))), (ad 25, .inl (cy 0, 14, .inl (fun i => zI (gW g i)))), (ad 26, .inl (cy 1, 32768, .inl u35.1)), (ad 27, .inl (cy 0, 32768, .inl u35.2.1)), (ad 28, .inl (cy 0, 15, .inl u35.2.2.1)), (ad 29, .inl (cy 0, 8, .inl u35.2.2.2.1)), (ad 30, .inl (cy 0, 6, .inl u35.2.2.2.2))] := hD
          refine lv_sipush (v := nI 16384) hx hb dX6_circuit_38 (by decide) ?_
          refine lv_iload_n hx hb dX6_circuit_41 rfl (lv_at hl 1 rfl) ?_
          refine lv_imul hx hb dX6_circuit_42 ?_
          refine lv_as (y := (nI (16384 * kd))) (ni_mul _ _) ?_
          refine lv_istore (lv' := [(4, .int (nI (16384 * kd))), (0, .ref (ad 20)), (1, .int (nI kd)), (2, .int (nI S)), (3, .int (nI e))]) hx hb dX6_circuit_43 hl (by decide) rfl (fun ls hl => ?_)
          refine lv_aload_n hx hb dX6_circuit_45 rfl (lv_at hl 1 rfl) ?_
          refine va_get (D := D) (ci := 5) (v := .ref (ad 26)) (C := RX6) (T := TX6) (N := 16) hx hb hts inX6 hown hK.1 hP 0 rfl rfl 10 (by decide) (hts (.fieldLink RX6 33 "ColourForestsModel" "free" "[Z") (List.mem_of_getElem? (i := 3) rfl)) (fun _ h9 => h9) rfl dX6_circuit_46 ?_
          refine lv_iload hx hb dX6_circuit_49 (lv_at hl 0 rfl) ?_
          refine lv_iload_n hx hb dX6_circuit_51 rfl (lv_at hl 3 rfl) ?_
          refine lv_iadd hx hb dX6_circuit_52 ?_
          refine lv_as (y := (nI ((16384 * kd) + S))) (nI_add _ _) ?_
          refine rd_z (k := ((16384 * kd) + S)) (v := (bI (fN g kd S))) hx hb hK hP 6 rfl (by omega) (by decide) (hF kd S hk9 hS9) dX6_circuit_53 ?_
          refine b_eq (b := (fN g kd S)) (tgt := 65) hx hb dX6_circuit_54 (by decide) (fun c54 => ?_) (fun c54 => ?_)
          · refine lv_iconst (v := zI (-1)) hx hb dX6_circuit_65 (by decide) ?_
            exact wi_ret u35 hx hb hr hlocks hS hP ⟨(by unfold ciA; first | rw [if_neg (fun q => absurd (c54.symm.trans q.1) (by decide))] | rw [if_neg (fun q => absurd (c62.symm.trans q.2) (by decide))]), hF, hR, hB⟩ dX6_circuit_66
          · refine lv_iload_n hx hb dX6_circuit_57 rfl (lv_at hl 3 rfl) ?_
            refine lv_iload_n hx hb dX6_circuit_58 rfl (lv_at hl 4 rfl) ?_
            refine pu_call (va_runS (As := [.int (nI S), .int (nI e)]) (rest := []) ⟨hx, hb, hml, hown, hts⟩ (c_X6_has l D cy (S := S) (e := e) (by omega) (by omega)) (va_cwS 2 hts gX6_circuit_X6_has rfl rfl rfl (by decide +kernel) ⟨Nat.le_of_ble_eq_true rfl, Nat.le_of_ble_eq_true rfl⟩) (PU_preS hK hP [] rfl) rfl rfl hl.1 rfl (lv_room (Nat.le_of_ble_eq_true rfl)) dX6_circuit_59 ⟨(Nat.zero_le _), (Nat.zero_le _)⟩) hS hP (fun H locs hP hS => ?_)
            refine b_eq (b := (S.testBit e)) (tgt := 67) hx hb dX6_circuit_62 (by decide) (fun c62 => ?_) (fun c62 => ?_)
            · refine lv_iload_n hx hb dX6_circuit_67 rfl (lv_at hl 3 rfl) ?_
              refine lv_iconst (v := nI 1) hx hb dX6_circuit_68 (by decide) ?_
              refine lv_iload_n hx hb dX6_circuit_69 rfl (lv_at hl 4 rfl) ?_
              refine lv_ishl hx hb dX6_circuit_70 ?_
              refine lv_as (y := (nI (2 ^ e))) (ni_bit (by omega)) ?_
              refine lv_ior hx hb dX6_circuit_71 ?_
              refine lv_as (y := (nI (S ||| (2 ^ e)))) (ni_or _ _) ?_
              refine lv_istore (lv' := [(5, .int (nI (S ||| (2 ^ e)))), (4, .int (nI (16384 * kd))), (0, .ref (ad 20)), (1, .int (nI kd)), (2, .int (nI S)), (3, .int (nI e))]) hx hb dX6_circuit_72 hl (by decide) rfl (fun ls hl => ?_)
              refine lv_aload_n hx hb dX6_circuit_74 rfl (lv_at hl 2 rfl) ?_
              refine va_get (D := D) (ci := 5) (v := .ref (ad 26)) (C := RX6) (T := TX6) (N := 16) hx hb hts inX6 hown hK.1 hP 0 rfl rfl 10 (by decide) (hts (.fieldLink RX6 33 "ColourForestsModel" "free" "[Z") (List.mem_of_getElem? (i := 3) rfl)) (fun _ h9 => h9) rfl dX6_circuit_75 ?_
              refine lv_iload hx hb dX6_circuit_78 (lv_at hl 1 rfl) ?_
              refine lv_iload hx hb dX6_circuit_80 (lv_at hl 0 rfl) ?_
              refine lv_iadd hx hb dX6_circuit_82 ?_
              refine lv_as (y := (nI ((16384 * kd) + (S ||| (2 ^ e))))) (nI_add _ _) ?_
              refine rd_z (k := ((16384 * kd) + (S ||| (2 ^ e)))) (v := (bI (fN g kd (S ||| 2 ^ e)))) hx hb hK hP 6 rfl (by omega) (by decide) (hF kd _ hk9 hB9) dX6_circuit_83 ?_
              refine b_eq (b := (fN g kd (S ||| 2 ^ e))) (tgt := 89) hx hb dX6_circuit_84 (by decide) (fun c84 => ?_) (fun c84 => ?_)
              · refine lv_iconst (v := nI 0) hx hb dX6_circuit_89 (by decide) ?_
                refine lv_istore (lv' := [(6, .int (nI 0)), (5, .int (nI (S ||| (2 ^ e)))), (4, .int (nI (16384 * kd))), (0, .ref (ad 20)), (1, .int (nI kd)), (2, .int (nI S)), (3, .int (nI e))]) hx hb dX6_circuit_90 hl (by decide) rfl (fun ls hl => ?_)
                refine lv_iconst (v := nI 0) hx hb dX6_circuit_92 (by decide) ?_
                refine lv_istore (lv' := [(7, .int (nI 0)), (6, .int (nI 0)), (5, .int (nI (S ||| (2 ^ e)))), (4, .int (nI (16384 * kd))), (0, .ref (ad 20)), (1, .int (nI kd)), (2, .int (nI S)), (3, .int (nI e))]) hx hb dX6_circuit_93 hl (by decide) rfl (fun ls hl => ?_)
                have L95 : ∀ (n : Nat) (i : Nat), i ≤ gE g ∧ gE g + 1 ≤ i + n → ∀ (H : Heap) (locs : List Loc), va_P D vwCl [(ad 20, .inr (5, [.int (nI 0), .int (nI (gV g)), .int (nI (gC g)), .int (nI (gE g)), .ref (ad 21), .ref (ad 22), .ref (ad 23), .ref (ad 24), .ref (ad 25), .int (bI true), .ref (ad 26), .ref (ad 27), .ref (ad 28), .int (nI (mo g (2 ^ gE g))), .ref (ad 29), .ref (ad 30)])), (ad 21, .inl (cy 0, 6, .inl (fun i => nI (gL g i)))), (ad 22, .inl (cy 0, 14, .inl (fun i => nI (gF g i)))), (ad 23, .inl (cy 0, 14, .inl (fun i => nI (gS g i)))), (ad 24, .inl (cy 0, 14, .inl (fun i => nI (gH g i)))), (ad 25, .inl (cy 0, 14, .inl (fun i => zI (gW g i)))), (ad 26, .inl (cy 1, 32768, .inl u35.1)), (ad 27, .inl (cy 0, 32768, .inl u35.2.1)), (ad 28, .inl (cy 0, 15, .inl u35.2.2.1)), (ad 29, .inl (cy 0, 8, .inl u35.2.2.2.1)), (ad 30, .inl (cy 0, 6, .inl u35.2.2.2.2))] H → va_D (inW (wM cy ad g th (bI kb) ms ff fr_ fb fp fc)) [(ad 20, .inr (5, [.int (nI 0), .int (nI (gV g)), .int (nI (gC g)), .int (nI (gE g)), .ref (ad 21), .ref (ad 22), .ref (ad 23), .ref (ad 24), .ref (ad 25), .int (bI true), .ref (ad 26), .ref (ad 27), .ref (ad 28), .int (nI (mo g (2 ^ gE g))), .ref (ad 29), .ref (ad 30)])), (ad 21, .inl (cy 0, 6, .inl (fun i => nI (gL g i)))), (ad 22, .inl (cy 0, 14, .inl (fun i => nI (gF g i)))), (ad 23, .inl (cy 0, 14, .inl (fun i => nI (gS g i)))), (ad 24, .inl (cy 0, 14, .inl (fun i => nI (gH g i)))), (ad 25, .inl (cy 0, 14, .inl (fun i => zI (gW g i)))), (ad 26, .inl (cy 1, 32768, .inl u35.1)), (ad 27, .inl (cy 0, 32768, .inl u35.2.1)), (ad 28, .inl (cy 0, 15, .inl u35.2.2.1)), (ad 29, .inl (cy 0, 8, .inl u35.2.2.2.1)), (ad 30, .inl (cy 0, 6, .inl u35.2.2.2.2))] → va_S (inW (wM cy ad g th (bI kb) ms ff fr_ fb fp fc)) s.heap H locs → ∀ (ls : Array Slot), lv_has ls 8 [(0, .ref (ad 20)), (4, .int (nI (16384 * kd))), (5, .int (nI (S ||| 2 ^ e))), (6, .int (nI (ms_mk i (cmP g kd (S ||| 2 ^ e))))), (7, .int (nI i))] → W p l ev (headSpec wsX6_circuit ({ frames := 3, cells := 0, slots := 0, locals := 71 })).room s m [.ref (ad 20), .int (nI kd), .int (nI S), .int (nI e)].toArray below meth c H locs 0 0 (MQ below (va_Qi (fun (r : Int32) (u : (Nat → Int32) × (Nat → Int32) × (Nat → Int32) × (Nat → Int32) × (Nat → Int32)) => r = ciA g kd S e ∧ lrF g (2 ^ gE g) u.1 ∧ lrR g (2 ^ gE g) u.2.1 ∧ lrB g (2 ^ gE g) u.2.2.1) (fun u t => va_P D vwCl ((fun u : (Nat → Int32) × (Nat → Int32) × (Nat → Int32) × (Nat → Int32) × (Nat → Int32) => wM cy ad g (nI 0) (bI true) (nI (mo g (2 ^ gE g))) u.1 u.2.1 u.2.2.1 u.2.2.2.1 u.2.2.2.2) u) t.heap) (inW (wM cy ad g th (bI kb) ms ff fr_ fb fp fc))) [.ref (ad 20), .int (nI kd), .int (nI S), .int (nI e)].toArray s 0 0 (inW (wM cy ad g th (bI kb) ms ff fr_ fb fp fc))) (F0 m 95 ls []) := by
                  intro n
                  induction n with
                  | zero =>
                    intro i hfuel  H locs hP hD hS ls hl
                    exact absurd hfuel.2 (by have := hfuel.1; omega)
                  | succ n ih95 =>
                    intro i hfuel  H locs hP hD hS ls hl
                    obtain ⟨hfu1, hfu2⟩ := hfuel
                    refine lv_iload hx hb dX6_circuit_95 (lv_at hl 4 rfl) ?_
                    refine lv_aload_n hx hb dX6_circuit_97 rfl (lv_at hl 0 rfl) ?_
                    refine va_get (D := D) (ci := 5) (v := .int (nI (gE g))) (C := RX6) (T := TX6) (N := 16) hx hb hts inX6 hown hK.1 hP 0 rfl rfl 3 (by decide) (hts (.fieldLink RX6 56 "ColourForestsModel" "edges" "I") (List.mem_of_getElem? (i := 2) rfl)) (fun _ h9 => h9) rfl dX6_circuit_98 ?_
                    refine n_ge (a := i) (b := (gE g)) (tgt := 151) hx hb dX6_circuit_101 (by decide) (by omega) (by omega) (fun c101 => ?_) (fun c101 => ?_)
                    · refine lv_iload hx hb dX6_circuit_151 (lv_at hl 3 rfl) ?_
                      exact wi_ret u35 hx hb hr hlocks hS hP ⟨(by unfold ciA; rw [if_pos ⟨c54, c62⟩, if_neg (by rw [c84]; decide), show gE g = i by omega]), hF, hR, hB⟩ dX6_circuit_153
                    · refine lv_iload hx hb dX6_circuit_104 (lv_at hl 3 rfl) ?_
                      refine lv_iload hx hb dX6_circuit_106 (lv_at hl 2 rfl) ?_
                      refine lv_iload hx hb dX6_circuit_108 (lv_at hl 4 rfl) ?_
                      refine pu_call (va_runS (As := [.int (nI (S ||| 2 ^ e)), .int (nI i)]) (rest := [.int (nI (ms_mk i (cmP g kd (S ||| 2 ^ e))))]) ⟨hx, hb, hml, hown, hts⟩ (c_X6_has l D cy (S := S ||| 2 ^ e) (e := i) (by omega) (by omega)) (va_cwS 2 hts gX6_circuit_X6_has rfl rfl rfl (by decide +kernel) ⟨Nat.le_of_ble_eq_true rfl, Nat.le_of_ble_eq_true rfl⟩) (PU_preS hK hP [] rfl) rfl rfl hl.1 rfl (lv_room (Nat.le_of_ble_eq_true rfl)) dX6_circuit_110 ⟨(Nat.zero_le _), (Nat.zero_le _)⟩) hS hP (fun H locs hP hS => ?_)
                      refine b_eq (b := ((S ||| 2 ^ e).testBit i)) (tgt := 141) hx hb dX6_circuit_113 (by decide) (fun c113 => ?_) (fun c113 => ?_)
                      · refine lv_iconst (v := nI 0) hx hb dX6_circuit_141 (by decide) ?_
                        refine lv_ior hx hb dX6_circuit_142 ?_
                        refine lv_as (y := (nI (ms_mk (i + 1) (cmP g kd (S ||| 2 ^ e))))) (by rw [ni_or]; congr 1; first | exact mk_n2 (cmP_f (Or.inl c113)) | exact mk_n2 (cmP_f (Or.inr c131))) ?_
                        refine lv_istore (lv' := [(6, .int (nI (ms_mk (i + 1) (cmP g kd (S ||| 2 ^ e))))), (0, .ref (ad 20)), (4, .int (nI (16384 * kd))), (5, .int (nI (S ||| 2 ^ e))), (7, .int (nI i))]) hx hb dX6_circuit_143 hl (by decide) rfl (fun ls hl => ?_)
                        refine lv_iinc (v := (nI (i + 1))) (lv' := [(7, .int (nI (i + 1))), (6, .int (nI (ms_mk (i + 1) (cmP g kd (S ||| 2 ^ e))))), (0, .ref (ad 20)), (4, .int (nI (16384 * kd))), (5, .int (nI (S ||| 2 ^ e)))]) hx hb dX6_circuit_145 hl (k := 4) rfl (ni_inc _) (by decide) rfl (fun ls hl => ?_)
                        refine lv_goto (tgt := 95) hx hb dX6_circuit_148 (by decide) ?_
                        exact ih95 (i + 1) ⟨by omega, by omega⟩  _ _ hP hD hS _ (lv_sub hl [2, 3, 4, 1, 0] rfl)
                      · have hxl : (S ||| 2 ^ e) ^^^ 2 ^ i < 2 ^ gE g := Nat.xor_lt_two_pow hB9 (ms_pow_lt (by omega))
                        refine lv_aload_n hx hb dX6_circuit_116 rfl (lv_at hl 0 rfl) ?_
                        refine va_get (D := D) (ci := 5) (v := .ref (ad 26)) (C := RX6) (T := TX6) (N := 16) hx hb hts inX6 hown hK.1 hP 0 rfl rfl 10 (by decide) (hts (.fieldLink RX6 33 "ColourForestsModel" "free" "[Z") (List.mem_of_getElem? (i := 3) rfl)) (fun _ h9 => h9) rfl dX6_circuit_117 ?_
                        refine lv_iload hx hb dX6_circuit_120 (lv_at hl 1 rfl) ?_
                        refine lv_iload hx hb dX6_circuit_122 (lv_at hl 2 rfl) ?_
                        refine lv_iconst (v := nI 1) hx hb dX6_circuit_124 (by decide) ?_
                        refine lv_iload hx hb dX6_circuit_125 (lv_at hl 4 rfl) ?_
                        refine lv_ishl hx hb dX6_circuit_127 ?_
                        refine lv_as (y := (nI (2 ^ i))) (ni_bit (by omega)) ?_
                        refine lv_ixor hx hb dX6_circuit_128 ?_
                        refine lv_as (y := (nI ((S ||| 2 ^ e) ^^^ (2 ^ i)))) (ni_xor _ _) ?_
                        refine lv_iadd hx hb dX6_circuit_129 ?_
                        refine lv_as (y := (nI ((16384 * kd) + ((S ||| 2 ^ e) ^^^ (2 ^ i))))) (nI_add _ _) ?_
                        refine rd_z (k := ((16384 * kd) + ((S ||| 2 ^ e) ^^^ (2 ^ i)))) (v := (bI (fN g kd (ms_sd (S ||| 2 ^ e) (2 ^ i))))) hx hb hK hP 6 rfl (by omega) (by decide) (by rw [xor_bit c113]; exact hF kd _ hk9 (ms_sd_lt hB9)) dX6_circuit_130 ?_
                        refine b_eq (b := (fN g kd (ms_sd (S ||| 2 ^ e) (2 ^ i)))) (tgt := 141) hx hb dX6_circuit_131 (by decide) (fun c131 => ?_) (fun c131 => ?_)
                        · refine lv_iconst (v := nI 0) hx hb dX6_circuit_141 (by decide) ?_
                          refine lv_ior hx hb dX6_circuit_142 ?_
                          refine lv_as (y := (nI (ms_mk (i + 1) (cmP g kd (S ||| 2 ^ e))))) (by rw [ni_or]; congr 1; first | exact mk_n2 (cmP_f (Or.inl c113)) | exact mk_n2 (cmP_f (Or.inr c131))) ?_
                          refine lv_istore (lv' := [(6, .int (nI (ms_mk (i + 1) (cmP g kd (S ||| 2 ^ e))))), (0, .ref (ad 20)), (4, .int (nI (16384 * kd))), (5, .int (nI (S ||| 2 ^ e))), (7, .int (nI i))]) hx hb dX6_circuit_143 hl (by decide) rfl (fun ls hl => ?_)
                          refine lv_iinc (v := (nI (i + 1))) (lv' := [(7, .int (nI (i + 1))), (6, .int (nI (ms_mk (i + 1) (cmP g kd (S ||| 2 ^ e))))), (0, .ref (ad 20)), (4, .int (nI (16384 * kd))), (5, .int (nI (S ||| 2 ^ e)))]) hx hb dX6_circuit_145 hl (k := 4) rfl (ni_inc _) (by decide) rfl (fun ls hl => ?_)
                          refine lv_goto (tgt := 95) hx hb dX6_circuit_148 (by decide) ?_
                          exact ih95 (i + 1) ⟨by omega, by omega⟩  _ _ hP hD hS _ (lv_sub hl [2, 3, 4, 1, 0] rfl)
                        · refine lv_iconst (v := nI 1) hx hb dX6_circuit_134 (by decide) ?_
                          refine lv_iload hx hb dX6_circuit_135 (lv_at hl 4 rfl) ?_
                          refine lv_ishl hx hb dX6_circuit_137 ?_
                          refine lv_as (y := (nI (2 ^ i))) (ni_bit (by omega)) ?_
                          refine lv_goto (tgt := 142) hx hb dX6_circuit_138 (by decide) ?_
                          refine lv_ior hx hb dX6_circuit_142 ?_
                          refine lv_as (y := (nI (ms_mk (i + 1) (cmP g kd (S ||| 2 ^ e))))) (by rw [ni_or]; congr 1; exact mk_y2 (cmP_t c113 c131)) ?_
                          refine lv_istore (lv' := [(6, .int (nI (ms_mk (i + 1) (cmP g kd (S ||| 2 ^ e))))), (0, .ref (ad 20)), (4, .int (nI (16384 * kd))), (5, .int (nI (S ||| 2 ^ e))), (7, .int (nI i))]) hx hb dX6_circuit_143 hl (by decide) rfl (fun ls hl => ?_)
                          refine lv_iinc (v := (nI (i + 1))) (lv' := [(7, .int (nI (i + 1))), (6, .int (nI (ms_mk (i + 1) (cmP g kd (S ||| 2 ^ e))))), (0, .ref (ad 20)), (4, .int (nI (16384 * kd))), (5, .int (nI (S ||| 2 ^ e)))]) hx hb dX6_circuit_145 hl (k := 4) rfl (ni_inc _) (by decide) rfl (fun ls hl => ?_)
                          refine lv_goto (tgt := 95) hx hb dX6_circuit_148 (by decide) ?_
                          exact ih95 (i + 1) ⟨by omega, by omega⟩  _ _ hP hD hS _ (lv_sub hl [2, 3, 4, 1, 0] rfl)
                exact L95 (gE g + 1) 0 ⟨Nat.zero_le _, by omega⟩  _ _ hP hD hS _ (lv_sub hl [4, 3, 2, 1, 0] rfl)
              · refine lv_iconst (v := nI 0) hx hb dX6_circuit_87 (by decide) ?_
                exact wi_ret u35 hx hb hr hlocks hS hP ⟨(by unfold ciA; rw [if_pos ⟨c54, c62⟩, if_pos c84]), hF, hR, hB⟩ dX6_circuit_88
            · refine lv_iconst (v := zI (-1)) hx hb dX6_circuit_65 (by decide) ?_
              exact wi_ret u35 hx hb hr hlocks hS hP ⟨(by unfold ciA; first | rw [if_neg (fun q => absurd (c54.symm.trans q.1) (by decide))] | rw [if_neg (fun q => absurd (c62.symm.trans q.2) (by decide))]), hF, hR, hB⟩ dX6_circuit_66
        · exact absurd c29 (by omega)

set_option maxHeartbeats 4000000 in
set_option maxRecDepth 100000 in
theorem c_X6_closure_no (l : Launch) (D : va_G) (cy : Nat → ClassId) (ad : Nat → Nat) {g : GT} (hg : gOK g) (th kn ms : Int32) {x y : Int32} (h : (decide (x = 0 ∨ x = nI 1) && isN y (2 ^ gE g)) = false) : WI l yX6_closure wsX6_closure ({ frames := 1, cells := 0, slots := 0, locals := 21 }) D cy [.ref (ad 20), .int x, .int y] [(ad 20, .inr (5, [.int th, .int (nI (gV g)), .int (nI (gC g)), .int (nI (gE g)), .ref (ad 21), .ref (ad 22), .ref (ad 23), .ref (ad 24), .ref (ad 25), .int kn, .ref (ad 26), .ref (ad 27), .ref (ad 28), .int ms, .ref (ad 29), .ref (ad 30)]))] (fun (r : Int32) (_ : Unit) => r = zI (-1)) (fun _ : Unit => [(ad 20, .inr (5, [.int (nI 0), .int (nI (gV g)), .int (nI (gC g)), .int (nI (gE g)), .ref (ad 21), .ref (ad 22), .ref (ad 23), .ref (ad 24), .ref (ad 25), .int kn, .ref (ad 26), .ref (ad 27), .ref (ad 28), .int ms, .ref (ad 29), .ref (ad 30)]))]) := by
  refine Met.ofW (cc := cX6_closure) (maxL := 6) (ret := (some .int)) (by decide) rfl ?_
  intro p ev s m args below meth c s₁ B hml hv
  obtain ⟨rfl, ⟨hK, hP⟩, hD0⟩ := hv
  have hx := B.exec
  have hb := B.bytes
  have hr := B.returns
  have hts := atoms_spec (ws := wsX6_closure) B.pre
  have hown : s.vm.findClass RX6 = some m.cls := findClass_of_methodNamed B.named
  have hlocks := B.notSynchronized
  have hD : va_D (inW [(ad 20, .inr (5, [.int th, .int (nI (gV g)), .int (nI (gC g)), .int (nI (gE g)), .ref (ad 21), .ref (ad 22), .ref (ad 23), .ref (ad 24), .ref (ad 25), .int kn, .ref (ad 26), .ref (ad 27), .ref (ad 28), .int ms, .ref (ad 29), .ref (ad 30)]))]) ([(ad 20, .inr (5, [.int th, .int (nI (gV g)), .int (nI (gC g)), .int (nI (gE g)), .ref (ad 21), .ref (ad 22), .ref (ad 23), .ref (ad 24), .ref (ad 25), .int kn, .ref (ad 26), .ref (ad 27), .ref (ad 28), .int ms, .ref (ad 29), .ref (ad 30)]))]) := inW_self hD0
  have hS : va_S (inW [(ad 20, .inr (5, [.int th, .int (nI (gV g)), .int (nI (gC g)), .int (nI (gE g)), .ref (ad 21), .ref (ad 22), .ref (ad 23), .ref (ad 24), .ref (ad 25), .int kn, .ref (ad 26), .ref (ad 27), .ref (ad 28), .int ms, .ref (ad 29), .ref (ad 30)]))]) s.heap s.heap [] := va_S.rf
  have hP : va_P D vwCl [(ad 20, .inr (5, [.int th, .int (nI (gV g)), .int (nI (gC g)), .int (nI (gE g)), .ref (ad 21), .ref (ad 22), .ref (ad 23), .ref (ad 24), .ref (ad 25), .int kn, .ref (ad 26), .ref (ad 27), .ref (ad 28), .int ms, .ref (ad 29), .ref (ad 30)]))] s.heap := hP
  have inX6 : ∀ w ∈ wsX60, w ∈ wsX6_closure := by decide +kernel
  have hl := lv_entry ([.ref (ad 20), .int x, .int y]) (n := 6) (Nat.le_of_ble_eq_true rfl)
  rw [lg_entry_eq]
  generalize (lg_sl ([.ref (ad 20), .int x, .int y]) ++ List.replicate (6 - (lg_sl ([.ref (ad 20), .int x, .int y])).length) Slot.unset).toArray = ls at hl ⊢
  have hl : lv_has ls 6 [(0, .ref (ad 20)), (1, .int x), (2, .int y)] := hl
  have hgen := True.intro
  have hE := hg.2.2.1
  have hV := hg.1
  have hC := hg.2.1
  have hS8 : 2 ^ gE g ≤ 2 ^ 14 := Nat.pow_le_pow_right (by decide) hE
  refine lv_aload_n hx hb dX6_closure_0 rfl (lv_at hl 0 rfl) ?_
  refine lv_iconst (v := nI 0) hx hb dX6_closure_1 (by decide) ?_
  refine va_put (D := D) (ci := 5) (v := .int (nI 0)) (ty := .int) (C := RX6) (T := TX6) (N := 16) hx hb hts inX6 tyX6 tyX6_ok nmX6 hown hK.1 hP hD hS 0 rfl rfl 0 (by decide) (hts (.fieldLink RX6 49 "ColourForestsModel" "thrown" "I") (List.mem_of_getElem? (i := 1) rfl)) (fun _ h9 => h9) rfl (by decide +kernel) rfl rfl (Nat.le_of_ble_eq_true rfl) dX6_closure_2 (fun H locs hP hD hS => ?_)
  have hP : va_P D vwCl [(ad 20, .inr (5, [.int (nI 0), .int (nI (gV g)), .int (nI (gC g)), .int (nI (gE g)), .ref (ad 21), .ref (ad 22), .ref (ad 23), .ref (ad 24), .ref (ad 25), .int kn, .ref (ad 26), .ref (ad 27), .ref (ad 28), .int ms, .ref (ad 29), .ref (ad 30)]))] H := hP
  have hD : va_D (inW [(ad 20, .inr (5, [.int th, .int (nI (gV g)), .int (nI (gC g)), .int (nI (gE g)), .ref (ad 21), .ref (ad 22), .ref (ad 23), .ref (ad 24), .ref (ad 25), .int kn, .ref (ad 26), .ref (ad 27), .ref (ad 28), .int ms, .ref (ad 29), .ref (ad 30)]))]) [(ad 20, .inr (5, [.int (nI 0), .int (nI (gV g)), .int (nI (gC g)), .int (nI (gE g)), .ref (ad 21), .ref (ad 22), .ref (ad 23), .ref (ad 24), .ref (ad 25), .int kn, .ref (ad 26), .ref (ad 27), .ref (ad 28), .int ms, .ref (ad 29), .ref (ad 30)]))] := hD
  refine lv_iload_n hx hb dX6_closure_5 rfl (lv_at hl 1 rfl) ?_
  refine pu_call (va_runS (As := [.int x]) (rest := []) ⟨hx, hb, hml, hown, hts⟩ (c_X6_isKind l D cy x) (va_cwS 1 hts gX6_closure_X6_isKind rfl rfl rfl (by decide +kernel) ⟨Nat.le_of_ble_eq_true rfl, Nat.le_of_ble_eq_true rfl⟩) (PU_preS hK hP [] rfl) rfl rfl hl.1 rfl (lv_room (Nat.le_of_ble_eq_true rfl)) dX6_closure_6 ⟨(Nat.zero_le _), (Nat.zero_le _)⟩) hS hP (fun H locs hP hS => ?_)
  refine b_eq (b := (decide (x = 0 ∨ x = nI 1))) (tgt := 20) hx hb dX6_closure_9 (by decide) (fun c9 => ?_) (fun c9 => ?_)
  · have c9 := of_decide_eq_false c9
    refine lv_iconst (v := zI (-1)) hx hb dX6_closure_20 (by decide) ?_
    exact wi_ret () hx hb hr hlocks hS hP rfl dX6_closure_21
  · have c9 := of_decide_eq_true c9
    refine lv_aload_n hx hb dX6_closure_12 rfl (lv_at hl 0 rfl) ?_
    refine lv_iload_n hx hb dX6_closure_13 rfl (lv_at hl 2 rfl) ?_
    refine pu_call (va_runV (As := [.int y]) (rest := []) ⟨hx, hb, hml, hown, hts⟩ (c_X6_isSet l D cy ad hg ((nI 0)) kn ms y) (cwV 1 hts gX6_closure_X6_isSet rfl rfl rfl (by decide +kernel) ⟨Nat.le_of_ble_eq_true rfl, Nat.le_of_ble_eq_true rfl⟩) (PU_preV (ci := 5) (q0 := 0) hK hP 0 rfl rfl [0] rfl) rfl rfl hl.1 rfl (lv_room (Nat.le_of_ble_eq_true rfl)) dX6_closure_14 ⟨(Nat.zero_le _), (Nat.zero_le _)⟩) hS hP (fun H locs hP hS => ?_)
    refine b_ne (b := (isN y (2 ^ gE g))) (tgt := 22) hx hb dX6_closure_17 (by decide) (fun c17 => ?_) (fun c17 => ?_)
    · exact absurd h (by rw [decide_eq_true c9, c17]; decide)
    · refine lv_iconst (v := zI (-1)) hx hb dX6_closure_20 (by decide) ?_
      exact wi_ret () hx hb hr hlocks hS hP rfl dX6_closure_21

set_option maxHeartbeats 4000000 in
set_option maxRecDepth 100000 in
theorem c_X6_closure_yes (l : Launch) (D : va_G) (cy : Nat → ClassId) (ad : Nat → Nat) {g : GT} (hg : gOK g) (th : Int32) {kb : Bool} {ms : Int32} {ff fr_ fb fp fc : Nat → Int32} (hv9 : kb = true → lrF g (2 ^ gE g) ff ∧ lrR g (2 ^ gE g) fr_ ∧ lrB g (2 ^ gE g) fb ∧ ms = nI (mo g (2 ^ gE g))) {kd S : Nat} (hk9 : kd < 2) (hS9 : S < 2 ^ gE g) : WI l yX6_closure wsX6_closure ({ frames := 3, cells := 0, slots := 0, locals := 71 }) D cy [.ref (ad 20), .int (nI kd), .int (nI S)] (wM cy ad g th (bI kb) ms ff fr_ fb fp fc) (fun (r : Int32) (u : (Nat → Int32) × (Nat → Int32) × (Nat → Int32) × (Nat → Int32) × (Nat → Int32)) => r = nI (cloN (rN g kd) (gE g) S) ∧ lrF g (2 ^ gE g) u.1 ∧ lrR g (2 ^ gE g) u.2.1 ∧ lrB g (2 ^ gE g) u.2.2.1) (fun u : (Nat → Int32) × (Nat → Int32) × (Nat → Int32) × (Nat → Int32) × (Nat → Int32) => wM cy ad g (nI 0) (bI true) (nI (mo g (2 ^ gE g))) u.1 u.2.1 u.2.2.1 u.2.2.2.1 u.2.2.2.2) := by
  refine Met.ofW (cc := cX6_closure) (maxL := 6) (ret := (some .int)) (by decide) rfl ?_
  intro p ev s m args below meth c s₁ B hml hv
  obtain ⟨rfl, ⟨hK, hP⟩, hD0⟩ := hv
  have hx := B.exec
  have hb := B.bytes
  have hr := B.returns
  have hts := atoms_spec (ws := wsX6_closure) B.pre
  have hown : s.vm.findClass RX6 = some m.cls := findClass_of_methodNamed B.named
  have hlocks := B.notSynchronized
  have hD : va_D (inW (wM cy ad g th (bI kb) ms ff fr_ fb fp fc)) (wM cy ad g th (bI kb) ms ff fr_ fb fp fc) := inW_self hD0
  have hS : va_S (inW (wM cy ad g th (bI kb) ms ff fr_ fb fp fc)) s.heap s.heap [] := va_S.rf
  have hP : va_P D vwCl (wM cy ad g th (bI kb) ms ff fr_ fb fp fc) s.heap := hP
  have inX6 : ∀ w ∈ wsX60, w ∈ wsX6_closure := by decide +kernel
  have hl := lv_entry ([.ref (ad 20), .int (nI kd), .int (nI S)]) (n := 6) (Nat.le_of_ble_eq_true rfl)
  rw [lg_entry_eq]
  generalize (lg_sl ([.ref (ad 20), .int (nI kd), .int (nI S)]) ++ List.replicate (6 - (lg_sl ([.ref (ad 20), .int (nI kd), .int (nI S)])).length) Slot.unset).toArray = ls at hl ⊢
  have hl : lv_has ls 6 [(0, .ref (ad 20)), (1, .int (nI kd)), (2, .int (nI S))] := hl
  have hgen := True.intro
  have hE := hg.2.2.1
  have hV := hg.1
  have hC := hg.2.1
  have hS8 : 2 ^ gE g ≤ 2 ^ 14 := Nat.pow_le_pow_right (by decide) hE
  refine lv_aload_n hx hb dX6_closure_0 rfl (lv_at hl 0 rfl) ?_
  refine lv_iconst (v := nI 0) hx hb dX6_closure_1 (by decide) ?_
  refine va_put (D := D) (ci := 5) (v := .int (nI 0)) (ty := .int) (C := RX6) (T := TX6) (N := 16) hx hb hts inX6 tyX6 tyX6_ok nmX6 hown hK.1 hP hD hS 0 rfl rfl 0 (by decide) (hts (.fieldLink RX6 49 "ColourForestsModel" "thrown" "I") (List.mem_of_getElem? (i := 1) rfl)) (fun _ h9 => h9) rfl (by decide +kernel) rfl rfl (Nat.le_of_ble_eq_true rfl) dX6_closure_2 (fun H locs hP hD hS => ?_)
  have hP : va_P D vwCl [(ad 20, .inr (5, [.int (nI 0), .int (nI (gV g)), .int (nI (gC g)), .int (nI (gE g)), .ref (ad 21), .ref (ad 22), .ref (ad 23), .ref (ad 24), .ref (ad 25), .int (bI kb), .ref (ad 26), .ref (ad 27), .ref (ad 28), .int ms, .ref (ad 29), .ref (ad 30)])), (ad 21, .inl (cy 0, 6, .inl (fun i => nI (gL g i)))), (ad 22, .inl (cy 0, 14, .inl (fun i => nI (gF g i)))), (ad 23, .inl (cy 0, 14, .inl (fun i => nI (gS g i)))), (ad 24, .inl (cy 0, 14, .inl (fun i => nI (gH g i)))), (ad 25, .inl (cy 0, 14, .inl (fun i => zI (gW g i)))), (ad 26, .inl (cy 1, 32768, .inl ff)), (ad 27, .inl (cy 0, 32768, .inl fr_)), (ad 28, .inl (cy 0, 15, .inl fb)), (ad 29, .inl (cy 0, 8, .inl fp)), (ad 30, .inl (cy 0, 6, .inl fc))] H := hP
  have hD : va_D (inW (wM cy ad g th (bI kb) ms ff fr_ fb fp fc)) [(ad 20, .inr (5, [.int (nI 0), .int (nI (gV g)), .int (nI (gC g)), .int (nI (gE g)), .ref (ad 21), .ref (ad 22), .ref (ad 23), .ref (ad 24), .ref (ad 25), .int (bI kb), .ref (ad 26), .ref (ad 27), .ref (ad 28), .int ms, .ref (ad 29), .ref (ad 30)])), (ad 21, .inl (cy 0, 6, .inl (fun i => nI (gL g i)))), (ad 22, .inl (cy 0, 14, .inl (fun i => nI (gF g i)))), (ad 23, .inl (cy 0, 14, .inl (fun i => nI (gS g i)))), (ad 24, .inl (cy 0, 14, .inl (fun i => nI (gH g i)))), (ad 25, .inl (cy 0, 14, .inl (fun i => zI (gW g i)))), (ad 26, .inl (cy 1, 32768, .inl ff)), (ad 27, .inl (cy 0, 32768, .inl fr_)), (ad 28, .inl (cy 0, 15, .inl fb)), (ad 29, .inl (cy 0, 8, .inl fp)), (ad 30, .inl (cy 0, 6, .inl fc))] := hD
  refine lv_iload_n hx hb dX6_closure_5 rfl (lv_at hl 1 rfl) ?_
  refine pu_call (va_runS (As := [.int (nI kd)]) (rest := []) ⟨hx, hb, hml, hown, hts⟩ (c_X6_isKind l D cy ((nI kd))) (va_cwS 1 hts gX6_closure_X6_isKind rfl rfl rfl (by decide +kernel) ⟨Nat.le_of_ble_eq_true rfl, Nat.le_of_ble_eq_true rfl⟩) (PU_preS hK hP [] rfl) rfl rfl hl.1 rfl (lv_room (Nat.le_of_ble_eq_true rfl)) dX6_closure_6 ⟨(Nat.zero_le _), (Nat.zero_le _)⟩) hS hP (fun H locs hP hS => ?_)
  refine b_eq (b := (decide ((nI kd) = 0 ∨ (nI kd) = nI 1))) (tgt := 20) hx hb dX6_closure_9 (by decide) (fun c9 => ?_) (fun c9 => ?_)
  · have c9 := of_decide_eq_false c9
    exact absurd (isK hk9) c9
  · have c9 := of_decide_eq_true c9
    refine lv_aload_n hx hb dX6_closure_12 rfl (lv_at hl 0 rfl) ?_
    refine lv_iload_n hx hb dX6_closure_13 rfl (lv_at hl 2 rfl) ?_
    refine pu_call (va_runV (As := [.int (nI S)]) (rest := []) ⟨hx, hb, hml, hown, hts⟩ (c_X6_isSet l D cy ad hg ((nI 0)) ((bI kb)) ms ((nI S))) (cwV 1 hts gX6_closure_X6_isSet rfl rfl rfl (by decide +kernel) ⟨Nat.le_of_ble_eq_true rfl, Nat.le_of_ble_eq_true rfl⟩) (PU_preV (ci := 5) (q0 := 0) hK hP 0 rfl rfl [0] rfl) rfl rfl hl.1 rfl (lv_room (Nat.le_of_ble_eq_true rfl)) dX6_closure_14 ⟨(Nat.zero_le _), (Nat.zero_le _)⟩) hS hP (fun H locs hP hS => ?_)
    refine b_ne (b := (isN ((nI S)) (2 ^ gE g))) (tgt := 22) hx hb dX6_closure_17 (by decide) (fun c17 => ?_) (fun c17 => ?_)
    · refine lv_aload_n hx hb dX6_closure_22 rfl (lv_at hl 0 rfl) ?_
      refine wr_callv [0, 1, 2, 3, 4, 5, 6, 7, 8, 9, 10] (va_runV (As := []) (rest := []) ⟨hx, hb, hml, hown, hts⟩ (c_X6_learn l D cy ad hg ((nI 0)) (kb := kb) (ms := ms) (ff := ff) (fr_ := fr_) (fb := fb) (fp := fp) (fc := fc) hv9) (cwV 0 hts gX6_closure_X6_learn rfl rfl rfl (by decide +kernel) ⟨Nat.le_of_ble_eq_true rfl, Nat.le_of_ble_eq_true rfl⟩) (WR_preV (ci := 5) (q0 := 0) hK hP hD rfl rfl [0, 1, 2, 3, 4, 5, 6, 7, 8, 9, 10] (by decide) rfl rfl) rfl rfl hl.1 rfl (lv_room (Nat.le_of_ble_eq_true rfl)) dX6_closure_23 ⟨(Nat.zero_le _), (Nat.zero_le _)⟩) hS hP hD rfl (fun _ => rfl) (fun _ => rfl) (fun u23 H locs w23 hP hD hS => ?_)
      obtain ⟨hF, hR, hB⟩ := w23
      have hP : va_P D vwCl [(ad 20, .inr (5, [.int (nI 0), .int (nI (gV g)), .int (nI (gC g)), .int (nI (gE g)), .ref (ad 21), .ref (ad 22), .ref (ad 23), .ref (ad 24), .ref (ad 25), .int (bI true), .ref (ad 26), .ref (ad 27), .ref (ad 28), .int (nI (mo g (2 ^ gE g))), .ref (ad 29), .ref (ad 30)])), (ad 21, .inl (cy 0, 6, .inl (fun i => nI (gL g i)))), (ad 22, .inl (cy 0, 14, .inl (fun i => nI (gF g i)))), (ad 23, .inl (cy 0, 14, .inl (fun i => nI (gS g i)))), (ad 24, .inl (cy 0, 14, .inl (fun i => nI (gH g i)))), (ad 25, .inl (cy 0, 14, .inl (fun i => zI (gW g i)))), (ad 26, .inl (cy 1, 32768, .inl u23.1)), (ad 27, .inl (cy 0, 32768, .inl u23.2.1)), (ad 28, .inl (cy 0, 15, .inl u23.2.2.1)), (ad 29, .inl (cy 0, 8, .inl u23.2.2.2.1)), (ad 30, .inl (cy 0, 6, .inl u23.2.2.2.2))] H := hP
      have hD : va_D (inW (wM cy ad g th (bI kb) ms ff fr_ fb fp fc)) [(ad 20, .inr (5, [.int (nI 0), .int (nI (gV g)), .int (nI (gC g)), .int (nI (gE g)), .ref (ad 21), .ref (ad 22), .ref (ad 23), .ref (ad 24), .ref (ad 25), .int (bI true), .ref (ad 26), .ref (ad 27), .ref (ad 28), .int (nI (mo g (2 ^ gE g))), .ref (ad 29), .ref (ad 30)])), (ad 21, .inl (cy 0, 6, .inl (fun i => nI (gL g i)))), (ad 22, .inl (cy 0, 14, .inl (fun i => nI (gF g i)))), (ad 23, .inl (cy 0, 14, .inl (fun i => nI (gS g i)))), (ad 24, .inl (cy 0, 14, .inl (fun i => nI (gH g i)))), (ad 25, .inl (cy 0, 14, .inl (fun i => zI (gW g i)))), (ad 26, .inl (cy 1, 32768, .inl u23.1)), (ad 27, .inl (cy 0, 32768, .inl u23.2.1)), (ad 28, .inl (cy 0, 15, .inl u23.2.2.1)), (ad 29, .inl (cy 0, 8, .inl u23.2.2.2.1)), (ad 30, .inl (cy 0, 6, .inl u23.2.2.2.2))] := hD
      refine lv_sipush (v := nI 16384) hx hb dX6_closure_26 (by decide) ?_
      refine lv_iload_n hx hb dX6_closure_29 rfl (lv_at hl 1 rfl) ?_
      refine lv_imul hx hb dX6_closure_30 ?_
      refine lv_as (y := (nI (16384 * kd))) (ni_mul _ _) ?_
      refine lv_istore_n (lv' := [(3, .int (nI (16384 * kd))), (0, .ref (ad 20)), (1, .int (nI kd)), (2, .int (nI S))]) hx hb dX6_closure_31 rfl hl (by decide) rfl (fun ls hl => ?_)
      refine lv_iload_n hx hb dX6_closure_32 rfl (lv_at hl 3 rfl) ?_
      refine lv_istore (lv' := [(4, .int (nI S)), (3, .int (nI (16384 * kd))), (0, .ref (ad 20)), (1, .int (nI kd)), (2, .int (nI S))]) hx hb dX6_closure_33 hl (by decide) rfl (fun ls hl => ?_)
      refine lv_iconst (v := nI 0) hx hb dX6_closure_35 (by decide) ?_
      refine lv_istore (lv' := [(5, .int (nI 0)), (4, .int (nI S)), (3, .int (nI (16384 * kd))), (0, .ref (ad 20)), (1, .int (nI kd)), (2, .int (nI S))]) hx hb dX6_closure_36 hl (by decide) rfl (fun ls hl => ?_)
      have L38 : ∀ (n : Nat) (e : Nat), e ≤ gE g ∧ gE g + 1 ≤ e + n → ∀ (H : Heap) (locs : List Loc), va_P D vwCl [(ad 20, .inr (5, [.int (nI 0), .int (nI (gV g)), .int (nI (gC g)), .int (nI (gE g)), .ref (ad 21), .ref (ad 22), .ref (ad 23), .ref (ad 24), .ref (ad 25), .int (bI true), .ref (ad 26), .ref (ad 27), .ref (ad 28), .int (nI (mo g (2 ^ gE g))), .ref (ad 29), .ref (ad 30)])), (ad 21, .inl (cy 0, 6, .inl (fun i => nI (gL g i)))), (ad 22, .inl (cy 0, 14, .inl (fun i => nI (gF g i)))), (ad 23, .inl (cy 0, 14, .inl (fun i => nI (gS g i)))), (ad 24, .inl (cy 0, 14, .inl (fun i => nI (gH g i)))), (ad 25, .inl (cy 0, 14, .inl (fun i => zI (gW g i)))), (ad 26, .inl (cy 1, 32768, .inl u23.1)), (ad 27, .inl (cy 0, 32768, .inl u23.2.1)), (ad 28, .inl (cy 0, 15, .inl u23.2.2.1)), (ad 29, .inl (cy 0, 8, .inl u23.2.2.2.1)), (ad 30, .inl (cy 0, 6, .inl u23.2.2.2.2))] H → va_D (inW (wM cy ad g th (bI kb) ms ff fr_ fb fp fc)) [(ad 20, .inr (5, [.int (nI 0), .int (nI (gV g)), .int (nI (gC g)), .int (nI (gE g)), .ref (ad 21), .ref (ad 22), .ref (ad 23), .ref (ad 24), .ref (ad 25), .int (bI true), .ref (ad 26), .ref (ad 27), .ref (ad 28), .int (nI (mo g (2 ^ gE g))), .ref (ad 29), .ref (ad 30)])), (ad 21, .inl (cy 0, 6, .inl (fun i => nI (gL g i)))), (ad 22, .inl (cy 0, 14, .inl (fun i => nI (gF g i)))), (ad 23, .inl (cy 0, 14, .inl (fun i => nI (gS g i)))), (ad 24, .inl (cy 0, 14, .inl (fun i => nI (gH g i)))), (ad 25, .inl (cy 0, 14, .inl (fun i => zI (gW g i)))), (ad 26, .inl (cy 1, 32768, .inl u23.1)), (ad 27, .inl (cy 0, 32768, .inl u23.2.1)), (ad 28, .inl (cy 0, 15, .inl u23.2.2.1)), (ad 29, .inl (cy 0, 8, .inl u23.2.2.2.1)), (ad 30, .inl (cy 0, 6, .inl u23.2.2.2.2))] → va_S (inW (wM cy ad g th (bI kb) ms ff fr_ fb fp fc)) s.heap H locs → ∀ (ls : Array Slot), lv_has ls 6 [(0, .ref (ad 20)), (2, .int (nI S)), (3, .int (nI (16384 * kd))), (4, .int (nI (S ||| ms_mk e (cloP (rN g kd) S)))), (5, .int (nI e))] → W p l ev (headSpec wsX6_closure ({ frames := 3, cells := 0, slots := 0, locals := 71 })).room s m [.ref (ad 20), .int (nI kd), .int (nI S)].toArray below meth c H locs 0 0 (MQ below (va_Qi (fun (r : Int32) (u : (Nat → Int32) × (Nat → Int32) × (Nat → Int32) × (Nat → Int32) × (Nat → Int32)) => r = nI (cloN (rN g kd) (gE g) S) ∧ lrF g (2 ^ gE g) u.1 ∧ lrR g (2 ^ gE g) u.2.1 ∧ lrB g (2 ^ gE g) u.2.2.1) (fun u t => va_P D vwCl ((fun u : (Nat → Int32) × (Nat → Int32) × (Nat → Int32) × (Nat → Int32) × (Nat → Int32) => wM cy ad g (nI 0) (bI true) (nI (mo g (2 ^ gE g))) u.1 u.2.1 u.2.2.1 u.2.2.2.1 u.2.2.2.2) u) t.heap) (inW (wM cy ad g th (bI kb) ms ff fr_ fb fp fc))) [.ref (ad 20), .int (nI kd), .int (nI S)].toArray s 0 0 (inW (wM cy ad g th (bI kb) ms ff fr_ fb fp fc))) (F0 m 38 ls []) := by
        intro n
        induction n with
        | zero =>
          intro e hfuel  H locs hP hD hS ls hl
          exact absurd hfuel.2 (by have := hfuel.1; omega)
        | succ n ih38 =>
          intro e hfuel  H locs hP hD hS ls hl
          obtain ⟨hfu1, hfu2⟩ := hfuel
          refine lv_iload hx hb dX6_closure_38 (lv_at hl 4 rfl) ?_
          refine lv_aload_n hx hb dX6_closure_40 rfl (lv_at hl 0 rfl) ?_
          refine va_get (D := D) (ci := 5) (v := .int (nI (gE g))) (C := RX6) (T := TX6) (N := 16) hx hb hts inX6 hown hK.1 hP 0 rfl rfl 3 (by decide) (hts (.fieldLink RX6 56 "ColourForestsModel" "edges" "I") (List.mem_of_getElem? (i := 2) rfl)) (fun _ h9 => h9) rfl dX6_closure_41 ?_
          refine n_ge (a := e) (b := (gE g)) (tgt := 90) hx hb dX6_closure_44 (by decide) (by omega) (by omega) (fun c44 => ?_) (fun c44 => ?_)
          · refine lv_iload hx hb dX6_closure_90 (lv_at hl 3 rfl) ?_
            exact wi_ret u23 hx hb hr hlocks hS hP ⟨(by rw [show e = gE g by omega]; rfl), hF, hR, hB⟩ dX6_closure_92
          · have hB9 : S ||| 2 ^ e < 2 ^ gE g := ms_ins_lt hS9 (by omega)
            have hr1 := rN_le hg kd (S ||| 2 ^ e)
            have hr2 := rN_le hg kd S
            refine lv_iload hx hb dX6_closure_47 (lv_at hl 3 rfl) ?_
            refine lv_aload_n hx hb dX6_closure_49 rfl (lv_at hl 0 rfl) ?_
            refine va_get (D := D) (ci := 5) (v := .ref (ad 27)) (C := RX6) (T := TX6) (N := 16) hx hb hts inX6 hown hK.1 hP 0 rfl rfl 11 (by decide) (hts (.fieldLink RX6 37 "ColourForestsModel" "ranks" "[I") (List.mem_of_getElem? (i := 3) rfl)) (fun _ h9 => h9) rfl dX6_closure_50 ?_
            refine lv_iload_n hx hb dX6_closure_53 rfl (lv_at hl 2 rfl) ?_
            refine lv_iload_n hx hb dX6_closure_54 rfl (lv_at hl 1 rfl) ?_
            refine lv_iconst (v := nI 1) hx hb dX6_closure_55 (by decide) ?_
            refine lv_iload hx hb dX6_closure_56 (lv_at hl 4 rfl) ?_
            refine lv_ishl hx hb dX6_closure_58 ?_
            refine lv_as (y := (nI (2 ^ e))) (ni_bit (by omega)) ?_
            refine lv_ior hx hb dX6_closure_59 ?_
            refine lv_as (y := (nI (S ||| (2 ^ e)))) (ni_or _ _) ?_
            refine lv_iadd hx hb dX6_closure_60 ?_
            refine lv_as (y := (nI ((16384 * kd) + (S ||| (2 ^ e))))) (nI_add _ _) ?_
            refine rd_i (k := ((16384 * kd) + (S ||| (2 ^ e)))) (v := (nI (rN g kd (S ||| 2 ^ e)))) hx hb hK hP 7 rfl (by omega) (by decide) (hR kd _ hk9 hB9) dX6_closure_61 ?_
            refine lv_aload_n hx hb dX6_closure_62 rfl (lv_at hl 0 rfl) ?_
            refine va_get (D := D) (ci := 5) (v := .ref (ad 27)) (C := RX6) (T := TX6) (N := 16) hx hb hts inX6 hown hK.1 hP 0 rfl rfl 11 (by decide) (hts (.fieldLink RX6 37 "ColourForestsModel" "ranks" "[I") (List.mem_of_getElem? (i := 3) rfl)) (fun _ h9 => h9) rfl dX6_closure_63 ?_
            refine lv_iload_n hx hb dX6_closure_66 rfl (lv_at hl 2 rfl) ?_
            refine lv_iload_n hx hb dX6_closure_67 rfl (lv_at hl 1 rfl) ?_
            refine lv_iadd hx hb dX6_closure_68 ?_
            refine lv_as (y := (nI ((16384 * kd) + S))) (nI_add _ _) ?_
            refine rd_i (k := ((16384 * kd) + S)) (v := (nI (rN g kd S))) hx hb hK hP 7 rfl (by omega) (by decide) (hR kd _ hk9 hS9) dX6_closure_69 ?_
            refine n_ne (a := (rN g kd (S ||| 2 ^ e))) (b := (rN g kd S)) (tgt := 80) hx hb dX6_closure_70 (by decide) (by omega) (by omega) (fun c70 => ?_) (fun c70 => ?_)
            · refine lv_iconst (v := nI 0) hx hb dX6_closure_80 (by decide) ?_
              refine lv_ior hx hb dX6_closure_81 ?_
              refine lv_as (y := (nI (S ||| ms_mk (e + 1) (cloP (rN g kd) S)))) (by rw [ni_or]; congr 1; exact cl_n c70) ?_
              refine lv_istore (lv' := [(4, .int (nI (S ||| ms_mk (e + 1) (cloP (rN g kd) S)))), (0, .ref (ad 20)), (2, .int (nI S)), (3, .int (nI (16384 * kd))), (5, .int (nI e))]) hx hb dX6_closure_82 hl (by decide) rfl (fun ls hl => ?_)
              refine lv_iinc (v := (nI (e + 1))) (lv' := [(5, .int (nI (e + 1))), (4, .int (nI (S ||| ms_mk (e + 1) (cloP (rN g kd) S)))), (0, .ref (ad 20)), (2, .int (nI S)), (3, .int (nI (16384 * kd)))]) hx hb dX6_closure_84 hl (k := 4) rfl (ni_inc _) (by decide) rfl (fun ls hl => ?_)
              refine lv_goto (tgt := 38) hx hb dX6_closure_87 (by decide) ?_
              exact ih38 (e + 1) ⟨by omega, by omega⟩  _ _ hP hD hS _ (lv_sub hl [2, 3, 4, 1, 0] rfl)
            · refine lv_iconst (v := nI 1) hx hb dX6_closure_73 (by decide) ?_
              refine lv_iload hx hb dX6_closure_74 (lv_at hl 4 rfl) ?_
              refine lv_ishl hx hb dX6_closure_76 ?_
              refine lv_as (y := (nI (2 ^ e))) (ni_bit (by omega)) ?_
              refine lv_goto (tgt := 81) hx hb dX6_closure_77 (by decide) ?_
              refine lv_ior hx hb dX6_closure_81 ?_
              refine lv_as (y := (nI (S ||| ms_mk (e + 1) (cloP (rN g kd) S)))) (by rw [ni_or]; congr 1; exact cl_y c70) ?_
              refine lv_istore (lv' := [(4, .int (nI (S ||| ms_mk (e + 1) (cloP (rN g kd) S)))), (0, .ref (ad 20)), (2, .int (nI S)), (3, .int (nI (16384 * kd))), (5, .int (nI e))]) hx hb dX6_closure_82 hl (by decide) rfl (fun ls hl => ?_)
              refine lv_iinc (v := (nI (e + 1))) (lv' := [(5, .int (nI (e + 1))), (4, .int (nI (S ||| ms_mk (e + 1) (cloP (rN g kd) S)))), (0, .ref (ad 20)), (2, .int (nI S)), (3, .int (nI (16384 * kd)))]) hx hb dX6_closure_84 hl (k := 4) rfl (ni_inc _) (by decide) rfl (fun ls hl => ?_)
              refine lv_goto (tgt := 38) hx hb dX6_closure_87 (by decide) ?_
              exact ih38 (e + 1) ⟨by omega, by omega⟩  _ _ hP hD hS _ (lv_sub hl [2, 3, 4, 1, 0] rfl)
      exact L38 (gE g + 1) 0 ⟨Nat.zero_le _, by omega⟩  _ _ hP hD hS _ (by rw [show ms_mk 0 _ = 0 from rfl, Nat.or_zero]; exact lv_sub hl [3, 5, 2, 1, 0] rfl)
    · exact absurd (c17.symm.trans (isN_y hS9 (by omega))) (by decide)

set_option maxHeartbeats 4000000 in
set_option maxRecDepth 100000 in
theorem c_X6_most (l : Launch) (D : va_G) (cy : Nat → ClassId) (ad : Nat → Nat) {g : GT} (hg : gOK g) (th : Int32) {kb : Bool} {ms : Int32} {ff fr_ fb fp fc : Nat → Int32} (hv9 : kb = true → lrF g (2 ^ gE g) ff ∧ lrR g (2 ^ gE g) fr_ ∧ lrB g (2 ^ gE g) fb ∧ ms = nI (mo g (2 ^ gE g))) : WI l yX6_most wsX6_most ({ frames := 3, cells := 0, slots := 0, locals := 71 }) D cy [.ref (ad 20)] (wM cy ad g th (bI kb) ms ff fr_ fb fp fc) (fun (r : Int32) (u : (Nat → Int32) × (Nat → Int32) × (Nat → Int32) × (Nat → Int32) × (Nat → Int32)) => r = nI (moA g) ∧ lrF g (2 ^ gE g) u.1 ∧ lrR g (2 ^ gE g) u.2.1 ∧ lrB g (2 ^ gE g) u.2.2.1) (fun u : (Nat → Int32) × (Nat → Int32) × (Nat → Int32) × (Nat → Int32) × (Nat → Int32) => wM cy ad g (nI 0) (bI true) (nI (mo g (2 ^ gE g))) u.1 u.2.1 u.2.2.1 u.2.2.2.1 u.2.2.2.2) := by
  refine Met.ofW (cc := cX6_most) (maxL := 1) (ret := (some .int)) (by decide) rfl ?_
  intro p ev s m args below meth c s₁ B hml hv
  obtain ⟨rfl, ⟨hK, hP⟩, hD0⟩ := hv
  have hx := B.exec
  have hb := B.bytes
  have hr := B.returns
  have hts := atoms_spec (ws := wsX6_most) B.pre
  have hown : s.vm.findClass RX6 = some m.cls := findClass_of_methodNamed B.named
  have hlocks := B.notSynchronized
  have hD : va_D (inW (wM cy ad g th (bI kb) ms ff fr_ fb fp fc)) (wM cy ad g th (bI kb) ms ff fr_ fb fp fc) := inW_self hD0
  have hS : va_S (inW (wM cy ad g th (bI kb) ms ff fr_ fb fp fc)) s.heap s.heap [] := va_S.rf
  have hP : va_P D vwCl (wM cy ad g th (bI kb) ms ff fr_ fb fp fc) s.heap := hP
  have inX6 : ∀ w ∈ wsX60, w ∈ wsX6_most := by decide +kernel
  have hl := lv_entry ([.ref (ad 20)]) (n := 1) (Nat.le_of_ble_eq_true rfl)
  rw [lg_entry_eq]
  generalize (lg_sl ([.ref (ad 20)]) ++ List.replicate (1 - (lg_sl ([.ref (ad 20)])).length) Slot.unset).toArray = ls at hl ⊢
  have hl : lv_has ls 1 [(0, .ref (ad 20))] := hl
  have hgen := True.intro
  have hE := hg.2.2.1
  have hV := hg.1
  have hC := hg.2.1
  have hS8 : 2 ^ gE g ≤ 2 ^ 14 := Nat.pow_le_pow_right (by decide) hE
  refine lv_aload_n hx hb dX6_most_0 rfl (lv_at hl 0 rfl) ?_
  refine lv_iconst (v := nI 0) hx hb dX6_most_1 (by decide) ?_
  refine va_put (D := D) (ci := 5) (v := .int (nI 0)) (ty := .int) (C := RX6) (T := TX6) (N := 16) hx hb hts inX6 tyX6 tyX6_ok nmX6 hown hK.1 hP hD hS 0 rfl rfl 0 (by decide) (hts (.fieldLink RX6 49 "ColourForestsModel" "thrown" "I") (List.mem_of_getElem? (i := 1) rfl)) (fun _ h9 => h9) rfl (by decide +kernel) rfl rfl (Nat.le_of_ble_eq_true rfl) dX6_most_2 (fun H locs hP hD hS => ?_)
  have hP : va_P D vwCl [(ad 20, .inr (5, [.int (nI 0), .int (nI (gV g)), .int (nI (gC g)), .int (nI (gE g)), .ref (ad 21), .ref (ad 22), .ref (ad 23), .ref (ad 24), .ref (ad 25), .int (bI kb), .ref (ad 26), .ref (ad 27), .ref (ad 28), .int ms, .ref (ad 29), .ref (ad 30)])), (ad 21, .inl (cy 0, 6, .inl (fun i => nI (gL g i)))), (ad 22, .inl (cy 0, 14, .inl (fun i => nI (gF g i)))), (ad 23, .inl (cy 0, 14, .inl (fun i => nI (gS g i)))), (ad 24, .inl (cy 0, 14, .inl (fun i => nI (gH g i)))), (ad 25, .inl (cy 0, 14, .inl (fun i => zI (gW g i)))), (ad 26, .inl (cy 1, 32768, .inl ff)), (ad 27, .inl (cy 0, 32768, .inl fr_)), (ad 28, .inl (cy 0, 15, .inl fb)), (ad 29, .inl (cy 0, 8, .inl fp)), (ad 30, .inl (cy 0, 6, .inl fc))] H := hP
  have hD : va_D (inW (wM cy ad g th (bI kb) ms ff fr_ fb fp fc)) [(ad 20, .inr (5, [.int (nI 0), .int (nI (gV g)), .int (nI (gC g)), .int (nI (gE g)), .ref (ad 21), .ref (ad 22), .ref (ad 23), .ref (ad 24), .ref (ad 25), .int (bI kb), .ref (ad 26), .ref (ad 27), .ref (ad 28), .int ms, .ref (ad 29), .ref (ad 30)])), (ad 21, .inl (cy 0, 6, .inl (fun i => nI (gL g i)))), (ad 22, .inl (cy 0, 14, .inl (fun i => nI (gF g i)))), (ad 23, .inl (cy 0, 14, .inl (fun i => nI (gS g i)))), (ad 24, .inl (cy 0, 14, .inl (fun i => nI (gH g i)))), (ad 25, .inl (cy 0, 14, .inl (fun i => zI (gW g i)))), (ad 26, .inl (cy 1, 32768, .inl ff)), (ad 27, .inl (cy 0, 32768, .inl fr_)), (ad 28, .inl (cy 0, 15, .inl fb)), (ad 29, .inl (cy 0, 8, .inl fp)), (ad 30, .inl (cy 0, 6, .inl fc))] := hD
  refine lv_aload_n hx hb dX6_most_5 rfl (lv_at hl 0 rfl) ?_
  refine wr_callv [0, 1, 2, 3, 4, 5, 6, 7, 8, 9, 10] (va_runV (As := []) (rest := []) ⟨hx, hb, hml, hown, hts⟩ (c_X6_learn l D cy ad hg ((nI 0)) (kb := kb) (ms := ms) (ff := ff) (fr_ := fr_) (fb := fb) (fp := fp) (fc := fc) hv9) (cwV 0 hts gX6_most_X6_learn rfl rfl rfl (by decide +kernel) ⟨Nat.le_of_ble_eq_true rfl, Nat.le_of_ble_eq_true rfl⟩) (WR_preV (ci := 5) (q0 := 0) hK hP hD rfl rfl [0, 1, 2, 3, 4, 5, 6, 7, 8, 9, 10] (by decide) rfl rfl) rfl rfl hl.1 rfl (lv_room (Nat.le_of_ble_eq_true rfl)) dX6_most_6 ⟨(Nat.zero_le _), (Nat.zero_le _)⟩) hS hP hD rfl (fun _ => rfl) (fun _ => rfl) (fun u6 H locs w6 hP hD hS => ?_)
  obtain ⟨hF, hR, hB⟩ := w6
  have hP : va_P D vwCl [(ad 20, .inr (5, [.int (nI 0), .int (nI (gV g)), .int (nI (gC g)), .int (nI (gE g)), .ref (ad 21), .ref (ad 22), .ref (ad 23), .ref (ad 24), .ref (ad 25), .int (bI true), .ref (ad 26), .ref (ad 27), .ref (ad 28), .int (nI (mo g (2 ^ gE g))), .ref (ad 29), .ref (ad 30)])), (ad 21, .inl (cy 0, 6, .inl (fun i => nI (gL g i)))), (ad 22, .inl (cy 0, 14, .inl (fun i => nI (gF g i)))), (ad 23, .inl (cy 0, 14, .inl (fun i => nI (gS g i)))), (ad 24, .inl (cy 0, 14, .inl (fun i => nI (gH g i)))), (ad 25, .inl (cy 0, 14, .inl (fun i => zI (gW g i)))), (ad 26, .inl (cy 1, 32768, .inl u6.1)), (ad 27, .inl (cy 0, 32768, .inl u6.2.1)), (ad 28, .inl (cy 0, 15, .inl u6.2.2.1)), (ad 29, .inl (cy 0, 8, .inl u6.2.2.2.1)), (ad 30, .inl (cy 0, 6, .inl u6.2.2.2.2))] H := hP
  have hD : va_D (inW (wM cy ad g th (bI kb) ms ff fr_ fb fp fc)) [(ad 20, .inr (5, [.int (nI 0), .int (nI (gV g)), .int (nI (gC g)), .int (nI (gE g)), .ref (ad 21), .ref (ad 22), .ref (ad 23), .ref (ad 24), .ref (ad 25), .int (bI true), .ref (ad 26), .ref (ad 27), .ref (ad 28), .int (nI (mo g (2 ^ gE g))), .ref (ad 29), .ref (ad 30)])), (ad 21, .inl (cy 0, 6, .inl (fun i => nI (gL g i)))), (ad 22, .inl (cy 0, 14, .inl (fun i => nI (gF g i)))), (ad 23, .inl (cy 0, 14, .inl (fun i => nI (gS g i)))), (ad 24, .inl (cy 0, 14, .inl (fun i => nI (gH g i)))), (ad 25, .inl (cy 0, 14, .inl (fun i => zI (gW g i)))), (ad 26, .inl (cy 1, 32768, .inl u6.1)), (ad 27, .inl (cy 0, 32768, .inl u6.2.1)), (ad 28, .inl (cy 0, 15, .inl u6.2.2.1)), (ad 29, .inl (cy 0, 8, .inl u6.2.2.2.1)), (ad 30, .inl (cy 0, 6, .inl u6.2.2.2.2))] := hD
  refine lv_aload_n hx hb dX6_most_9 rfl (lv_at hl 0 rfl) ?_
  refine va_get (D := D) (ci := 5) (v := .int (nI (mo g (2 ^ gE g)))) (C := RX6) (T := TX6) (N := 16) hx hb hts inX6 hown hK.1 hP 0 rfl rfl 13 (by decide) (hts (.fieldLink RX6 70 "ColourForestsModel" "most" "I") (List.mem_of_getElem? (i := 2) rfl)) (fun _ h9 => h9) rfl dX6_most_10 ?_
  exact wi_ret u6 hx hb hr hlocks hS hP ⟨rfl, hF, hR, hB⟩ dX6_most_13

set_option maxHeartbeats 4000000 in
set_option maxRecDepth 100000 in
theorem c_X6_dearest_no (l : Launch) (D : va_G) (cy : Nat → ClassId) (ad : Nat → Nat) {g : GT} (hg : gOK g) (th : Int32) {kb : Bool} {ms : Int32} {ff fr_ fb fp fc : Nat → Int32} (hv9 : kb = true → lrF g (2 ^ gE g) ff ∧ lrR g (2 ^ gE g) fr_ ∧ lrB g (2 ^ gE g) fb ∧ ms = nI (mo g (2 ^ gE g))) {x : Int32} (h : isN x (moA g + 1) = false) : WI l yX6_dearest wsX6_dearest ({ frames := 3, cells := 0, slots := 0, locals := 71 }) D cy [.ref (ad 20), .int x] (wM cy ad g th (bI kb) ms ff fr_ fb fp fc) (fun (r : Int32) (u : (Nat → Int32) × (Nat → Int32) × (Nat → Int32) × (Nat → Int32) × (Nat → Int32)) => r = zI (-1) ∧ lrF g (2 ^ gE g) u.1 ∧ lrR g (2 ^ gE g) u.2.1 ∧ lrB g (2 ^ gE g) u.2.2.1) (fun u : (Nat → Int32) × (Nat → Int32) × (Nat → Int32) × (Nat → Int32) × (Nat → Int32) => wM cy ad g (nI 0) (bI true) (nI (mo g (2 ^ gE g))) u.1 u.2.1 u.2.2.1 u.2.2.2.1 u.2.2.2.2) := by
  refine Met.ofW (cc := cX6_dearest) (maxL := 2) (ret := (some .int)) (by decide) rfl ?_
  intro p ev s m args below meth c s₁ B hml hv
  obtain ⟨rfl, ⟨hK, hP⟩, hD0⟩ := hv
  have hx := B.exec
  have hb := B.bytes
  have hr := B.returns
  have hts := atoms_spec (ws := wsX6_dearest) B.pre
  have hown : s.vm.findClass RX6 = some m.cls := findClass_of_methodNamed B.named
  have hlocks := B.notSynchronized
  have hD : va_D (inW (wM cy ad g th (bI kb) ms ff fr_ fb fp fc)) (wM cy ad g th (bI kb) ms ff fr_ fb fp fc) := inW_self hD0
  have hS : va_S (inW (wM cy ad g th (bI kb) ms ff fr_ fb fp fc)) s.heap s.heap [] := va_S.rf
  have hP : va_P D vwCl (wM cy ad g th (bI kb) ms ff fr_ fb fp fc) s.heap := hP
  have inX6 : ∀ w ∈ wsX60, w ∈ wsX6_dearest := by decide +kernel
  have hl := lv_entry ([.ref (ad 20), .int x]) (n := 2) (Nat.le_of_ble_eq_true rfl)
  rw [lg_entry_eq]
  generalize (lg_sl ([.ref (ad 20), .int x]) ++ List.replicate (2 - (lg_sl ([.ref (ad 20), .int x])).length) Slot.unset).toArray = ls at hl ⊢
  have hl : lv_has ls 2 [(0, .ref (ad 20)), (1, .int x)] := hl
  have hgen := True.intro
  have hE := hg.2.2.1
  have hV := hg.1
  have hC := hg.2.1
  have hS8 : 2 ^ gE g ≤ 2 ^ 14 := Nat.pow_le_pow_right (by decide) hE
  have hp1 := Nat.two_pow_pos (gE g)
  have hmo := mo_le g hg
  have hme : mo g (2 ^ gE g) = moA g := rfl
  refine lv_aload_n hx hb dX6_dearest_0 rfl (lv_at hl 0 rfl) ?_
  refine lv_iconst (v := nI 0) hx hb dX6_dearest_1 (by decide) ?_
  refine va_put (D := D) (ci := 5) (v := .int (nI 0)) (ty := .int) (C := RX6) (T := TX6) (N := 16) hx hb hts inX6 tyX6 tyX6_ok nmX6 hown hK.1 hP hD hS 0 rfl rfl 0 (by decide) (hts (.fieldLink RX6 49 "ColourForestsModel" "thrown" "I") (List.mem_of_getElem? (i := 1) rfl)) (fun _ h9 => h9) rfl (by decide +kernel) rfl rfl (Nat.le_of_ble_eq_true rfl) dX6_dearest_2 (fun H locs hP hD hS => ?_)
  have hP : va_P D vwCl [(ad 20, .inr (5, [.int (nI 0), .int (nI (gV g)), .int (nI (gC g)), .int (nI (gE g)), .ref (ad 21), .ref (ad 22), .ref (ad 23), .ref (ad 24), .ref (ad 25), .int (bI kb), .ref (ad 26), .ref (ad 27), .ref (ad 28), .int ms, .ref (ad 29), .ref (ad 30)])), (ad 21, .inl (cy 0, 6, .inl (fun i => nI (gL g i)))), (ad 22, .inl (cy 0, 14, .inl (fun i => nI (gF g i)))), (ad 23, .inl (cy 0, 14, .inl (fun i => nI (gS g i)))), (ad 24, .inl (cy 0, 14, .inl (fun i => nI (gH g i)))), (ad 25, .inl (cy 0, 14, .inl (fun i => zI (gW g i)))), (ad 26, .inl (cy 1, 32768, .inl ff)), (ad 27, .inl (cy 0, 32768, .inl fr_)), (ad 28, .inl (cy 0, 15, .inl fb)), (ad 29, .inl (cy 0, 8, .inl fp)), (ad 30, .inl (cy 0, 6, .inl fc))] H := hP
  have hD : va_D (inW (wM cy ad g th (bI kb) ms ff fr_ fb fp fc)) [(ad 20, .inr (5, [.int (nI 0), .int (nI (gV g)), .int (nI (gC g)), .int (nI (gE g)), .ref (ad 21), .ref (ad 22), .ref (ad 23), .ref (ad 24), .ref (ad 25), .int (bI kb), .ref (ad 26), .ref (ad 27), .ref (ad 28), .int ms, .ref (ad 29), .ref (ad 30)])), (ad 21, .inl (cy 0, 6, .inl (fun i => nI (gL g i)))), (ad 22, .inl (cy 0, 14, .inl (fun i => nI (gF g i)))), (ad 23, .inl (cy 0, 14, .inl (fun i => nI (gS g i)))), (ad 24, .inl (cy 0, 14, .inl (fun i => nI (gH g i)))), (ad 25, .inl (cy 0, 14, .inl (fun i => zI (gW g i)))), (ad 26, .inl (cy 1, 32768, .inl ff)), (ad 27, .inl (cy 0, 32768, .inl fr_)), (ad 28, .inl (cy 0, 15, .inl fb)), (ad 29, .inl (cy 0, 8, .inl fp)), (ad 30, .inl (cy 0, 6, .inl fc))] := hD
  refine lv_aload_n hx hb dX6_dearest_5 rfl (lv_at hl 0 rfl) ?_
  refine wr_callv [0, 1, 2, 3, 4, 5, 6, 7, 8, 9, 10] (va_runV (As := []) (rest := []) ⟨hx, hb, hml, hown, hts⟩ (c_X6_learn l D cy ad hg ((nI 0)) (kb := kb) (ms := ms) (ff := ff) (fr_ := fr_) (fb := fb) (fp := fp) (fc := fc) hv9) (cwV 0 hts gX6_dearest_X6_learn rfl rfl rfl (by decide +kernel) ⟨Nat.le_of_ble_eq_true rfl, Nat.le_of_ble_eq_true rfl⟩) (WR_preV (ci := 5) (q0 := 0) hK hP hD rfl rfl [0, 1, 2, 3, 4, 5, 6, 7, 8, 9, 10] (by decide) rfl rfl) rfl rfl hl.1 rfl (lv_room (Nat.le_of_ble_eq_true rfl)) dX6_dearest_6 ⟨(Nat.zero_le _), (Nat.zero_le _)⟩) hS hP hD rfl (fun _ => rfl) (fun _ => rfl) (fun u6 H locs w6 hP hD hS => ?_)
  obtain ⟨hF, hR, hB⟩ := w6
  have hP : va_P D vwCl [(ad 20, .inr (5, [.int (nI 0), .int (nI (gV g)), .int (nI (gC g)), .int (nI (gE g)), .ref (ad 21), .ref (ad 22), .ref (ad 23), .ref (ad 24), .ref (ad 25), .int (bI true), .ref (ad 26), .ref (ad 27), .ref (ad 28), .int (nI (mo g (2 ^ gE g))), .ref (ad 29), .ref (ad 30)])), (ad 21, .inl (cy 0, 6, .inl (fun i => nI (gL g i)))), (ad 22, .inl (cy 0, 14, .inl (fun i => nI (gF g i)))), (ad 23, .inl (cy 0, 14, .inl (fun i => nI (gS g i)))), (ad 24, .inl (cy 0, 14, .inl (fun i => nI (gH g i)))), (ad 25, .inl (cy 0, 14, .inl (fun i => zI (gW g i)))), (ad 26, .inl (cy 1, 32768, .inl u6.1)), (ad 27, .inl (cy 0, 32768, .inl u6.2.1)), (ad 28, .inl (cy 0, 15, .inl u6.2.2.1)), (ad 29, .inl (cy 0, 8, .inl u6.2.2.2.1)), (ad 30, .inl (cy 0, 6, .inl u6.2.2.2.2))] H := hP
  have hD : va_D (inW (wM cy ad g th (bI kb) ms ff fr_ fb fp fc)) [(ad 20, .inr (5, [.int (nI 0), .int (nI (gV g)), .int (nI (gC g)), .int (nI (gE g)), .ref (ad 21), .ref (ad 22), .ref (ad 23), .ref (ad 24), .ref (ad 25), .int (bI true), .ref (ad 26), .ref (ad 27), .ref (ad 28), .int (nI (mo g (2 ^ gE g))), .ref (ad 29), .ref (ad 30)])), (ad 21, .inl (cy 0, 6, .inl (fun i => nI (gL g i)))), (ad 22, .inl (cy 0, 14, .inl (fun i => nI (gF g i)))), (ad 23, .inl (cy 0, 14, .inl (fun i => nI (gS g i)))), (ad 24, .inl (cy 0, 14, .inl (fun i => nI (gH g i)))), (ad 25, .inl (cy 0, 14, .inl (fun i => zI (gW g i)))), (ad 26, .inl (cy 1, 32768, .inl u6.1)), (ad 27, .inl (cy 0, 32768, .inl u6.2.1)), (ad 28, .inl (cy 0, 15, .inl u6.2.2.1)), (ad 29, .inl (cy 0, 8, .inl u6.2.2.2.1)), (ad 30, .inl (cy 0, 6, .inl u6.2.2.2.2))] := hD
  refine lv_iload_n hx hb dX6_dearest_9 rfl (lv_at hl 1 rfl) ?_
  refine lv_if_lt (tgt := 21) hx hb dX6_dearest_10 (by decide) (fun c10 => ?_) (fun c10 => ?_)
  · refine lv_iconst (v := zI (-1)) hx hb dX6_dearest_21 (by decide) ?_
    refine lv_goto (tgt := 31) hx hb dX6_dearest_22 (by decide) ?_
    exact wi_ret u6 hx hb hr hlocks hS hP ⟨rfl, hF, hR, hB⟩ dX6_dearest_31
  · refine lv_iload_n hx hb dX6_dearest_13 rfl (lv_at hl 1 rfl) ?_
    refine lv_aload_n hx hb dX6_dearest_14 rfl (lv_at hl 0 rfl) ?_
    refine va_get (D := D) (ci := 5) (v := .int (nI (mo g (2 ^ gE g)))) (C := RX6) (T := TX6) (N := 16) hx hb hts inX6 hown hK.1 hP 0 rfl rfl 13 (by decide) (hts (.fieldLink RX6 70 "ColourForestsModel" "most" "I") (List.mem_of_getElem? (i := 2) rfl)) (fun _ h9 => h9) rfl dX6_dearest_15 ?_
    refine lv_icmp_le (tgt := 25) hx hb dX6_dearest_18 (by decide) (fun c18 => ?_) (fun c18 => ?_)
    · exact (mo_up' (by omega) h c10 c18).elim
    · refine lv_iconst (v := zI (-1)) hx hb dX6_dearest_21 (by decide) ?_
      refine lv_goto (tgt := 31) hx hb dX6_dearest_22 (by decide) ?_
      exact wi_ret u6 hx hb hr hlocks hS hP ⟨rfl, hF, hR, hB⟩ dX6_dearest_31

set_option maxHeartbeats 4000000 in
set_option maxRecDepth 100000 in
theorem c_X6_dearest_yes (l : Launch) (D : va_G) (cy : Nat → ClassId) (ad : Nat → Nat) {g : GT} (hg : gOK g) (th : Int32) {kb : Bool} {ms : Int32} {ff fr_ fb fp fc : Nat → Int32} (hv9 : kb = true → lrF g (2 ^ gE g) ff ∧ lrR g (2 ^ gE g) fr_ ∧ lrB g (2 ^ gE g) fb ∧ ms = nI (mo g (2 ^ gE g))) {k9 : Nat} (hk9 : k9 ≤ moA g) : WI l yX6_dearest wsX6_dearest ({ frames := 3, cells := 0, slots := 0, locals := 71 }) D cy [.ref (ad 20), .int (nI k9)] (wM cy ad g th (bI kb) ms ff fr_ fb fp fc) (fun (r : Int32) (u : (Nat → Int32) × (Nat → Int32) × (Nat → Int32) × (Nat → Int32) × (Nat → Int32)) => r = nI (dsA g k9) ∧ lrF g (2 ^ gE g) u.1 ∧ lrR g (2 ^ gE g) u.2.1 ∧ lrB g (2 ^ gE g) u.2.2.1) (fun u : (Nat → Int32) × (Nat → Int32) × (Nat → Int32) × (Nat → Int32) × (Nat → Int32) => wM cy ad g (nI 0) (bI true) (nI (mo g (2 ^ gE g))) u.1 u.2.1 u.2.2.1 u.2.2.2.1 u.2.2.2.2) := by
  refine Met.ofW (cc := cX6_dearest) (maxL := 2) (ret := (some .int)) (by decide) rfl ?_
  intro p ev s m args below meth c s₁ B hml hv
  obtain ⟨rfl, ⟨hK, hP⟩, hD0⟩ := hv
  have hx := B.exec
  have hb := B.bytes
  have hr := B.returns
  have hts := atoms_spec (ws := wsX6_dearest) B.pre
  have hown : s.vm.findClass RX6 = some m.cls := findClass_of_methodNamed B.named
  have hlocks := B.notSynchronized
  have hD : va_D (inW (wM cy ad g th (bI kb) ms ff fr_ fb fp fc)) (wM cy ad g th (bI kb) ms ff fr_ fb fp fc) := inW_self hD0
  have hS : va_S (inW (wM cy ad g th (bI kb) ms ff fr_ fb fp fc)) s.heap s.heap [] := va_S.rf
  have hP : va_P D vwCl (wM cy ad g th (bI kb) ms ff fr_ fb fp fc) s.heap := hP
  have inX6 : ∀ w ∈ wsX60, w ∈ wsX6_dearest := by decide +kernel
  have hl := lv_entry ([.ref (ad 20), .int (nI k9)]) (n := 2) (Nat.le_of_ble_eq_true rfl)
  rw [lg_entry_eq]
  generalize (lg_sl ([.ref (ad 20), .int (nI k9)]) ++ List.replicate (2 - (lg_sl ([.ref (ad 20), .int (nI k9)])).length) Slot.unset).toArray = ls at hl ⊢
  have hl : lv_has ls 2 [(0, .ref (ad 20)), (1, .int (nI k9))] := hl
  have hgen := True.intro
  have hE := hg.2.2.1
  have hV := hg.1
  have hC := hg.2.1
  have hS8 : 2 ^ gE g ≤ 2 ^ 14 := Nat.pow_le_pow_right (by decide) hE
  have hp1 := Nat.two_pow_pos (gE g)
  have hmo := mo_le g hg
  have hme : mo g (2 ^ gE g) = moA g := rfl
  refine lv_aload_n hx hb dX6_dearest_0 rfl (lv_at hl 0 rfl) ?_
  refine lv_iconst (v := nI 0) hx hb dX6_dearest_1 (by decide) ?_
  refine va_put (D := D) (ci := 5) (v := .int (nI 0)) (ty := .int) (C := RX6) (T := TX6) (N := 16) hx hb hts inX6 tyX6 tyX6_ok nmX6 hown hK.1 hP hD hS 0 rfl rfl 0 (by decide) (hts (.fieldLink RX6 49 "ColourForestsModel" "thrown" "I") (List.mem_of_getElem? (i := 1) rfl)) (fun _ h9 => h9) rfl (by decide +kernel) rfl rfl (Nat.le_of_ble_eq_true rfl) dX6_dearest_2 (fun H locs hP hD hS => ?_)
  have hP : va_P D vwCl [(ad 20, .inr (5, [.int (nI 0), .int (nI (gV g)), .int (nI (gC g)), .int (nI (gE g)), .ref (ad 21), .ref (ad 22), .ref (ad 23), .ref (ad 24), .ref (ad 25), .int (bI kb), .ref (ad 26), .ref (ad 27), .ref (ad 28), .int ms, .ref (ad 29), .ref (ad 30)])), (ad 21, .inl (cy 0, 6, .inl (fun i => nI (gL g i)))), (ad 22, .inl (cy 0, 14, .inl (fun i => nI (gF g i)))), (ad 23, .inl (cy 0, 14, .inl (fun i => nI (gS g i)))), (ad 24, .inl (cy 0, 14, .inl (fun i => nI (gH g i)))), (ad 25, .inl (cy 0, 14, .inl (fun i => zI (gW g i)))), (ad 26, .inl (cy 1, 32768, .inl ff)), (ad 27, .inl (cy 0, 32768, .inl fr_)), (ad 28, .inl (cy 0, 15, .inl fb)), (ad 29, .inl (cy 0, 8, .inl fp)), (ad 30, .inl (cy 0, 6, .inl fc))] H := hP
  have hD : va_D (inW (wM cy ad g th (bI kb) ms ff fr_ fb fp fc)) [(ad 20, .inr (5, [.int (nI 0), .int (nI (gV g)), .int (nI (gC g)), .int (nI (gE g)), .ref (ad 21), .ref (ad 22), .ref (ad 23), .ref (ad 24), .ref (ad 25), .int (bI kb), .ref (ad 26), .ref (ad 27), .ref (ad 28), .int ms, .ref (ad 29), .ref (ad 30)])), (ad 21, .inl (cy 0, 6, .inl (fun i => nI (gL g i)))), (ad 22, .inl (cy 0, 14, .inl (fun i => nI (gF g i)))), (ad 23, .inl (cy 0, 14, .inl (fun i => nI (gS g i)))), (ad 24, .inl (cy 0, 14, .inl (fun i => nI (gH g i)))), (ad 25, .inl (cy 0, 14, .inl (fun i => zI (gW g i)))), (ad 26, .inl (cy 1, 32768, .inl ff)), (ad 27, .inl (cy 0, 32768, .inl fr_)), (ad 28, .inl (cy 0, 15, .inl fb)), (ad 29, .inl (cy 0, 8, .inl fp)), (ad 30, .inl (cy 0, 6, .inl fc))] := hD
  refine lv_aload_n hx hb dX6_dearest_5 rfl (lv_at hl 0 rfl) ?_
  refine wr_callv [0, 1, 2, 3, 4, 5, 6, 7, 8, 9, 10] (va_runV (As := []) (rest := []) ⟨hx, hb, hml, hown, hts⟩ (c_X6_learn l D cy ad hg ((nI 0)) (kb := kb) (ms := ms) (ff := ff) (fr_ := fr_) (fb := fb) (fp := fp) (fc := fc) hv9) (cwV 0 hts gX6_dearest_X6_learn rfl rfl rfl (by decide +kernel) ⟨Nat.le_of_ble_eq_true rfl, Nat.le_of_ble_eq_true rfl⟩) (WR_preV (ci := 5) (q0 := 0) hK hP hD rfl rfl [0, 1, 2, 3, 4, 5, 6, 7, 8, 9, 10] (by decide) rfl rfl) rfl rfl hl.1 rfl (lv_room (Nat.le_of_ble_eq_true rfl)) dX6_dearest_6 ⟨(Nat.zero_le _), (Nat.zero_le _)⟩) hS hP hD rfl (fun _ => rfl) (fun _ => rfl) (fun u6 H locs w6 hP hD hS => ?_)
  obtain ⟨hF, hR, hB⟩ := w6
  have hP : va_P D vwCl [(ad 20, .inr (5, [.int (nI 0), .int (nI (gV g)), .int (nI (gC g)), .int (nI (gE g)), .ref (ad 21), .ref (ad 22), .ref (ad 23), .ref (ad 24), .ref (ad 25), .int (bI true), .ref (ad 26), .ref (ad 27), .ref (ad 28), .int (nI (mo g (2 ^ gE g))), .ref (ad 29), .ref (ad 30)])), (ad 21, .inl (cy 0, 6, .inl (fun i => nI (gL g i)))), (ad 22, .inl (cy 0, 14, .inl (fun i => nI (gF g i)))), (ad 23, .inl (cy 0, 14, .inl (fun i => nI (gS g i)))), (ad 24, .inl (cy 0, 14, .inl (fun i => nI (gH g i)))), (ad 25, .inl (cy 0, 14, .inl (fun i => zI (gW g i)))), (ad 26, .inl (cy 1, 32768, .inl u6.1)), (ad 27, .inl (cy 0, 32768, .inl u6.2.1)), (ad 28, .inl (cy 0, 15, .inl u6.2.2.1)), (ad 29, .inl (cy 0, 8, .inl u6.2.2.2.1)), (ad 30, .inl (cy 0, 6, .inl u6.2.2.2.2))] H := hP
  have hD : va_D (inW (wM cy ad g th (bI kb) ms ff fr_ fb fp fc)) [(ad 20, .inr (5, [.int (nI 0), .int (nI (gV g)), .int (nI (gC g)), .int (nI (gE g)), .ref (ad 21), .ref (ad 22), .ref (ad 23), .ref (ad 24), .ref (ad 25), .int (bI true), .ref (ad 26), .ref (ad 27), .ref (ad 28), .int (nI (mo g (2 ^ gE g))), .ref (ad 29), .ref (ad 30)])), (ad 21, .inl (cy 0, 6, .inl (fun i => nI (gL g i)))), (ad 22, .inl (cy 0, 14, .inl (fun i => nI (gF g i)))), (ad 23, .inl (cy 0, 14, .inl (fun i => nI (gS g i)))), (ad 24, .inl (cy 0, 14, .inl (fun i => nI (gH g i)))), (ad 25, .inl (cy 0, 14, .inl (fun i => zI (gW g i)))), (ad 26, .inl (cy 1, 32768, .inl u6.1)), (ad 27, .inl (cy 0, 32768, .inl u6.2.1)), (ad 28, .inl (cy 0, 15, .inl u6.2.2.1)), (ad 29, .inl (cy 0, 8, .inl u6.2.2.2.1)), (ad 30, .inl (cy 0, 6, .inl u6.2.2.2.2))] := hD
  refine lv_iload_n hx hb dX6_dearest_9 rfl (lv_at hl 1 rfl) ?_
  refine lv_if_lt (tgt := 21) hx hb dX6_dearest_10 (by decide) (fun c10 => ?_) (fun c10 => ?_)
  · exact absurd c10 (nlt0 (by omega))
  · refine lv_iload_n hx hb dX6_dearest_13 rfl (lv_at hl 1 rfl) ?_
    refine lv_aload_n hx hb dX6_dearest_14 rfl (lv_at hl 0 rfl) ?_
    refine va_get (D := D) (ci := 5) (v := .int (nI (mo g (2 ^ gE g)))) (C := RX6) (T := TX6) (N := 16) hx hb hts inX6 hown hK.1 hP 0 rfl rfl 13 (by decide) (hts (.fieldLink RX6 70 "ColourForestsModel" "most" "I") (List.mem_of_getElem? (i := 2) rfl)) (fun _ h9 => h9) rfl dX6_dearest_15 ?_
    refine n_le (a := k9) (b := (mo g (2 ^ gE g))) (tgt := 25) hx hb dX6_dearest_18 (by decide) (by omega) (by omega) (fun c18 => ?_) (fun c18 => ?_)
    · refine lv_aload_n hx hb dX6_dearest_25 rfl (lv_at hl 0 rfl) ?_
      refine va_get (D := D) (ci := 5) (v := .ref (ad 28)) (C := RX6) (T := TX6) (N := 16) hx hb hts inX6 hown hK.1 hP 0 rfl rfl 12 (by decide) (hts (.fieldLink RX6 40 "ColourForestsModel" "best" "[I") (List.mem_of_getElem? (i := 3) rfl)) (fun _ h9 => h9) rfl dX6_dearest_26 ?_
      refine lv_iload_n hx hb dX6_dearest_29 rfl (lv_at hl 1 rfl) ?_
      refine rd_i (k := k9) (v := (nI (dsA g k9))) hx hb hK hP 8 rfl (by omega) (by decide) (lrB_ds hg hB hk9) dX6_dearest_30 ?_
      exact wi_ret u6 hx hb hr hlocks hS hP ⟨rfl, hF, hR, hB⟩ dX6_dearest_31
    · exact absurd c18 (by omega)

set_option maxHeartbeats 4000000 in
set_option maxRecDepth 100000 in
theorem c_X6_weight_no (l : Launch) (D : va_G) (cy : Nat → ClassId) (ad : Nat → Nat) {g : GT} (hg : gOK g) (th : Int32) {kb : Bool} {ms : Int32} {ff fr_ fb fp fc : Nat → Int32} (hv9 : kb = true → lrF g (2 ^ gE g) ff ∧ lrR g (2 ^ gE g) fr_ ∧ lrB g (2 ^ gE g) fb ∧ ms = nI (mo g (2 ^ gE g))) {x : Int32} (h : isN x (moA g + 1) = false) : WI l yX6_weight wsX6_weight ({ frames := 3, cells := 0, slots := 0, locals := 71 }) D cy [.ref (ad 20), .int x] (wM cy ad g th (bI kb) ms ff fr_ fb fp fc) (fun (r : Int32) (u : (Nat → Int32) × (Nat → Int32) × (Nat → Int32) × (Nat → Int32) × (Nat → Int32)) => r = nI 0 ∧ lrF g (2 ^ gE g) u.1 ∧ lrR g (2 ^ gE g) u.2.1 ∧ lrB g (2 ^ gE g) u.2.2.1) (fun u : (Nat → Int32) × (Nat → Int32) × (Nat → Int32) × (Nat → Int32) × (Nat → Int32) => wM cy ad g (nI 1) (bI true) (nI (mo g (2 ^ gE g))) u.1 u.2.1 u.2.2.1 u.2.2.2.1 u.2.2.2.2) := by
  refine Met.ofW (cc := cX6_weight) (maxL := 2) (ret := (some .int)) (by decide) rfl ?_
  intro p ev s m args below meth c s₁ B hml hv
  obtain ⟨rfl, ⟨hK, hP⟩, hD0⟩ := hv
  have hx := B.exec
  have hb := B.bytes
  have hr := B.returns
  have hts := atoms_spec (ws := wsX6_weight) B.pre
  have hown : s.vm.findClass RX6 = some m.cls := findClass_of_methodNamed B.named
  have hlocks := B.notSynchronized
  have hD : va_D (inW (wM cy ad g th (bI kb) ms ff fr_ fb fp fc)) (wM cy ad g th (bI kb) ms ff fr_ fb fp fc) := inW_self hD0
  have hS : va_S (inW (wM cy ad g th (bI kb) ms ff fr_ fb fp fc)) s.heap s.heap [] := va_S.rf
  have hP : va_P D vwCl (wM cy ad g th (bI kb) ms ff fr_ fb fp fc) s.heap := hP
  have inX6 : ∀ w ∈ wsX60, w ∈ wsX6_weight := by decide +kernel
  have hl := lv_entry ([.ref (ad 20), .int x]) (n := 2) (Nat.le_of_ble_eq_true rfl)
  rw [lg_entry_eq]
  generalize (lg_sl ([.ref (ad 20), .int x]) ++ List.replicate (2 - (lg_sl ([.ref (ad 20), .int x])).length) Slot.unset).toArray = ls at hl ⊢
  have hl : lv_has ls 2 [(0, .ref (ad 20)), (1, .int x)] := hl
  have hgen := True.intro
  have hE := hg.2.2.1
  have hV := hg.1
  have hC := hg.2.1
  have hS8 : 2 ^ gE g ≤ 2 ^ 14 := Nat.pow_le_pow_right (by decide) hE
  have hp1 := Nat.two_pow_pos (gE g)
  have hmo := mo_le g hg
  have hme : mo g (2 ^ gE g) = moA g := rfl
  refine lv_aload_n hx hb dX6_weight_0 rfl (lv_at hl 0 rfl) ?_
  refine wr_callv [0, 1, 2, 3, 4, 5, 6, 7, 8, 9, 10] (va_runV (As := []) (rest := []) ⟨hx, hb, hml, hown, hts⟩ (c_X6_learn l D cy ad hg th (kb := kb) (ms := ms) (ff := ff) (fr_ := fr_) (fb := fb) (fp := fp) (fc := fc) hv9) (cwV 0 hts gX6_weight_X6_learn rfl rfl rfl (by decide +kernel) ⟨Nat.le_of_ble_eq_true rfl, Nat.le_of_ble_eq_true rfl⟩) (WR_preV (ci := 5) (q0 := 0) hK hP hD rfl rfl [0, 1, 2, 3, 4, 5, 6, 7, 8, 9, 10] (by decide) rfl rfl) rfl rfl hl.1 rfl (lv_room (Nat.le_of_ble_eq_true rfl)) dX6_weight_1 ⟨(Nat.zero_le _), (Nat.zero_le _)⟩) hS hP hD rfl (fun _ => rfl) (fun _ => rfl) (fun u1 H locs w1 hP hD hS => ?_)
  obtain ⟨hF, hR, hB⟩ := w1
  have hP : va_P D vwCl [(ad 20, .inr (5, [.int th, .int (nI (gV g)), .int (nI (gC g)), .int (nI (gE g)), .ref (ad 21), .ref (ad 22), .ref (ad 23), .ref (ad 24), .ref (ad 25), .int (bI true), .ref (ad 26), .ref (ad 27), .ref (ad 28), .int (nI (mo g (2 ^ gE g))), .ref (ad 29), .ref (ad 30)])), (ad 21, .inl (cy 0, 6, .inl (fun i => nI (gL g i)))), (ad 22, .inl (cy 0, 14, .inl (fun i => nI (gF g i)))), (ad 23, .inl (cy 0, 14, .inl (fun i => nI (gS g i)))), (ad 24, .inl (cy 0, 14, .inl (fun i => nI (gH g i)))), (ad 25, .inl (cy 0, 14, .inl (fun i => zI (gW g i)))), (ad 26, .inl (cy 1, 32768, .inl u1.1)), (ad 27, .inl (cy 0, 32768, .inl u1.2.1)), (ad 28, .inl (cy 0, 15, .inl u1.2.2.1)), (ad 29, .inl (cy 0, 8, .inl u1.2.2.2.1)), (ad 30, .inl (cy 0, 6, .inl u1.2.2.2.2))] H := hP
  have hD : va_D (inW (wM cy ad g th (bI kb) ms ff fr_ fb fp fc)) [(ad 20, .inr (5, [.int th, .int (nI (gV g)), .int (nI (gC g)), .int (nI (gE g)), .ref (ad 21), .ref (ad 22), .ref (ad 23), .ref (ad 24), .ref (ad 25), .int (bI true), .ref (ad 26), .ref (ad 27), .ref (ad 28), .int (nI (mo g (2 ^ gE g))), .ref (ad 29), .ref (ad 30)])), (ad 21, .inl (cy 0, 6, .inl (fun i => nI (gL g i)))), (ad 22, .inl (cy 0, 14, .inl (fun i => nI (gF g i)))), (ad 23, .inl (cy 0, 14, .inl (fun i => nI (gS g i)))), (ad 24, .inl (cy 0, 14, .inl (fun i => nI (gH g i)))), (ad 25, .inl (cy 0, 14, .inl (fun i => zI (gW g i)))), (ad 26, .inl (cy 1, 32768, .inl u1.1)), (ad 27, .inl (cy 0, 32768, .inl u1.2.1)), (ad 28, .inl (cy 0, 15, .inl u1.2.2.1)), (ad 29, .inl (cy 0, 8, .inl u1.2.2.2.1)), (ad 30, .inl (cy 0, 6, .inl u1.2.2.2.2))] := hD
  refine lv_aload_n hx hb dX6_weight_4 rfl (lv_at hl 0 rfl) ?_
  refine lv_iload_n hx hb dX6_weight_5 rfl (lv_at hl 1 rfl) ?_
  refine lv_if_lt (tgt := 17) hx hb dX6_weight_6 (by decide) (fun c6 => ?_) (fun c6 => ?_)
  · refine lv_iconst (v := nI 1) hx hb dX6_weight_17 (by decide) ?_
    refine lv_goto (tgt := 22) hx hb dX6_weight_18 (by decide) ?_
    refine wr_calli [0] (va_runV (As := [.int (nI 1)]) (rest := []) ⟨hx, hb, hml, hown, hts⟩ (c_X6_refuses l D cy ad g th ((bI true)) ((nI (mo g (2 ^ gE g)))) ((nI 1))) (cwV 1 hts gX6_weight_X6_refuses rfl rfl rfl (by decide +kernel) ⟨Nat.le_of_ble_eq_true rfl, Nat.le_of_ble_eq_true rfl⟩) (WR_preV (ci := 5) (q0 := 0) hK hP hD rfl rfl [0] (by decide) rfl rfl) rfl rfl hl.1 rfl (lv_room (Nat.le_of_ble_eq_true rfl)) dX6_weight_22 ⟨(Nat.zero_le _), (Nat.zero_le _)⟩) hS hP hD rfl (fun _ => rfl) (fun _ => rfl) (fun r22 u22 H locs w22 hP hD hS => ?_)
    refine lv_as (y := bI true) (by rw [w22]; first | rfl | decide) ?_
    have hP : va_P D vwCl [(ad 20, .inr (5, [.int (nI 1), .int (nI (gV g)), .int (nI (gC g)), .int (nI (gE g)), .ref (ad 21), .ref (ad 22), .ref (ad 23), .ref (ad 24), .ref (ad 25), .int (bI true), .ref (ad 26), .ref (ad 27), .ref (ad 28), .int (nI (mo g (2 ^ gE g))), .ref (ad 29), .ref (ad 30)])), (ad 21, .inl (cy 0, 6, .inl (fun i => nI (gL g i)))), (ad 22, .inl (cy 0, 14, .inl (fun i => nI (gF g i)))), (ad 23, .inl (cy 0, 14, .inl (fun i => nI (gS g i)))), (ad 24, .inl (cy 0, 14, .inl (fun i => nI (gH g i)))), (ad 25, .inl (cy 0, 14, .inl (fun i => zI (gW g i)))), (ad 26, .inl (cy 1, 32768, .inl u1.1)), (ad 27, .inl (cy 0, 32768, .inl u1.2.1)), (ad 28, .inl (cy 0, 15, .inl u1.2.2.1)), (ad 29, .inl (cy 0, 8, .inl u1.2.2.2.1)), (ad 30, .inl (cy 0, 6, .inl u1.2.2.2.2))] H := hP
    have hD : va_D (inW (wM cy ad g th (bI kb) ms ff fr_ fb fp fc)) [(ad 20, .inr (5, [.int (nI 1), .int (nI (gV g)), .int (nI (gC g)), .int (nI (gE g)), .ref (ad 21), .ref (ad 22), .ref (ad 23), .ref (ad 24), .ref (ad 25), .int (bI true), .ref (ad 26), .ref (ad 27), .ref (ad 28), .int (nI (mo g (2 ^ gE g))), .ref (ad 29), .ref (ad 30)])), (ad 21, .inl (cy 0, 6, .inl (fun i => nI (gL g i)))), (ad 22, .inl (cy 0, 14, .inl (fun i => nI (gF g i)))), (ad 23, .inl (cy 0, 14, .inl (fun i => nI (gS g i)))), (ad 24, .inl (cy 0, 14, .inl (fun i => nI (gH g i)))), (ad 25, .inl (cy 0, 14, .inl (fun i => zI (gW g i)))), (ad 26, .inl (cy 1, 32768, .inl u1.1)), (ad 27, .inl (cy 0, 32768, .inl u1.2.1)), (ad 28, .inl (cy 0, 15, .inl u1.2.2.1)), (ad 29, .inl (cy 0, 8, .inl u1.2.2.2.1)), (ad 30, .inl (cy 0, 6, .inl u1.2.2.2.2))] := hD
    refine b_eq (b := true) (tgt := 32) hx hb dX6_weight_25 (by decide) (fun c25 => ?_) (fun c25 => ?_)
    · cases c25
    · refine lv_iconst (v := nI 0) hx hb dX6_weight_28 (by decide) ?_
      refine lv_goto (tgt := 42) hx hb dX6_weight_29 (by decide) ?_
      exact wi_ret u1 hx hb hr hlocks hS hP ⟨rfl, hF, hR, hB⟩ dX6_weight_42
  · refine lv_iload_n hx hb dX6_weight_9 rfl (lv_at hl 1 rfl) ?_
    refine lv_aload_n hx hb dX6_weight_10 rfl (lv_at hl 0 rfl) ?_
    refine va_get (D := D) (ci := 5) (v := .int (nI (mo g (2 ^ gE g)))) (C := RX6) (T := TX6) (N := 16) hx hb hts inX6 hown hK.1 hP 0 rfl rfl 13 (by decide) (hts (.fieldLink RX6 70 "ColourForestsModel" "most" "I") (List.mem_of_getElem? (i := 1) rfl)) (fun _ h9 => h9) rfl dX6_weight_11 ?_
    refine lv_icmp_le (tgt := 21) hx hb dX6_weight_14 (by decide) (fun c14 => ?_) (fun c14 => ?_)
    · exact (mo_up' (by omega) h c6 c14).elim
    · refine lv_iconst (v := nI 1) hx hb dX6_weight_17 (by decide) ?_
      refine lv_goto (tgt := 22) hx hb dX6_weight_18 (by decide) ?_
      refine wr_calli [0] (va_runV (As := [.int (nI 1)]) (rest := []) ⟨hx, hb, hml, hown, hts⟩ (c_X6_refuses l D cy ad g th ((bI true)) ((nI (mo g (2 ^ gE g)))) ((nI 1))) (cwV 1 hts gX6_weight_X6_refuses rfl rfl rfl (by decide +kernel) ⟨Nat.le_of_ble_eq_true rfl, Nat.le_of_ble_eq_true rfl⟩) (WR_preV (ci := 5) (q0 := 0) hK hP hD rfl rfl [0] (by decide) rfl rfl) rfl rfl hl.1 rfl (lv_room (Nat.le_of_ble_eq_true rfl)) dX6_weight_22 ⟨(Nat.zero_le _), (Nat.zero_le _)⟩) hS hP hD rfl (fun _ => rfl) (fun _ => rfl) (fun r22 u22 H locs w22 hP hD hS => ?_)
      refine lv_as (y := bI true) (by rw [w22]; first | rfl | decide) ?_
      have hP : va_P D vwCl [(ad 20, .inr (5, [.int (nI 1), .int (nI (gV g)), .int (nI (gC g)), .int (nI (gE g)), .ref (ad 21), .ref (ad 22), .ref (ad 23), .ref (ad 24), .ref (ad 25), .int (bI true), .ref (ad 26), .ref (ad 27), .ref (ad 28), .int (nI (mo g (2 ^ gE g))), .ref (ad 29), .ref (ad 30)])), (ad 21, .inl (cy 0, 6, .inl (fun i => nI (gL g i)))), (ad 22, .inl (cy 0, 14, .inl (fun i => nI (gF g i)))), (ad 23, .inl (cy 0, 14, .inl (fun i => nI (gS g i)))), (ad 24, .inl (cy 0, 14, .inl (fun i => nI (gH g i)))), (ad 25, .inl (cy 0, 14, .inl (fun i => zI (gW g i)))), (ad 26, .inl (cy 1, 32768, .inl u1.1)), (ad 27, .inl (cy 0, 32768, .inl u1.2.1)), (ad 28, .inl (cy 0, 15, .inl u1.2.2.1)), (ad 29, .inl (cy 0, 8, .inl u1.2.2.2.1)), (ad 30, .inl (cy 0, 6, .inl u1.2.2.2.2))] H := hP
      have hD : va_D (inW (wM cy ad g th (bI kb) ms ff fr_ fb fp fc)) [(ad 20, .inr (5, [.int (nI 1), .int (nI (gV g)), .int (nI (gC g)), .int (nI (gE g)), .ref (ad 21), .ref (ad 22), .ref (ad 23), .ref (ad 24), .ref (ad 25), .int (bI true), .ref (ad 26), .ref (ad 27), .ref (ad 28), .int (nI (mo g (2 ^ gE g))), .ref (ad 29), .ref (ad 30)])), (ad 21, .inl (cy 0, 6, .inl (fun i => nI (gL g i)))), (ad 22, .inl (cy 0, 14, .inl (fun i => nI (gF g i)))), (ad 23, .inl (cy 0, 14, .inl (fun i => nI (gS g i)))), (ad 24, .inl (cy 0, 14, .inl (fun i => nI (gH g i)))), (ad 25, .inl (cy 0, 14, .inl (fun i => zI (gW g i)))), (ad 26, .inl (cy 1, 32768, .inl u1.1)), (ad 27, .inl (cy 0, 32768, .inl u1.2.1)), (ad 28, .inl (cy 0, 15, .inl u1.2.2.1)), (ad 29, .inl (cy 0, 8, .inl u1.2.2.2.1)), (ad 30, .inl (cy 0, 6, .inl u1.2.2.2.2))] := hD
      refine b_eq (b := true) (tgt := 32) hx hb dX6_weight_25 (by decide) (fun c25 => ?_) (fun c25 => ?_)
      · cases c25
      · refine lv_iconst (v := nI 0) hx hb dX6_weight_28 (by decide) ?_
        refine lv_goto (tgt := 42) hx hb dX6_weight_29 (by decide) ?_
        exact wi_ret u1 hx hb hr hlocks hS hP ⟨rfl, hF, hR, hB⟩ dX6_weight_42

set_option maxHeartbeats 4000000 in
set_option maxRecDepth 100000 in
theorem c_X6_weight_yes (l : Launch) (D : va_G) (cy : Nat → ClassId) (ad : Nat → Nat) {g : GT} (hg : gOK g) (th : Int32) {kb : Bool} {ms : Int32} {ff fr_ fb fp fc : Nat → Int32} (hv9 : kb = true → lrF g (2 ^ gE g) ff ∧ lrR g (2 ^ gE g) fr_ ∧ lrB g (2 ^ gE g) fb ∧ ms = nI (mo g (2 ^ gE g))) {k9 : Nat} (hk9 : k9 ≤ moA g) : WI l yX6_weight wsX6_weight ({ frames := 3, cells := 0, slots := 0, locals := 71 }) D cy [.ref (ad 20), .int (nI k9)] (wM cy ad g th (bI kb) ms ff fr_ fb fp fc) (fun (r : Int32) (u : (Nat → Int32) × (Nat → Int32) × (Nat → Int32) × (Nat → Int32) × (Nat → Int32)) => r = zI (wB g k9) ∧ lrF g (2 ^ gE g) u.1 ∧ lrR g (2 ^ gE g) u.2.1 ∧ lrB g (2 ^ gE g) u.2.2.1) (fun u : (Nat → Int32) × (Nat → Int32) × (Nat → Int32) × (Nat → Int32) × (Nat → Int32) => wM cy ad g (nI 0) (bI true) (nI (mo g (2 ^ gE g))) u.1 u.2.1 u.2.2.1 u.2.2.2.1 u.2.2.2.2) := by
  refine Met.ofW (cc := cX6_weight) (maxL := 2) (ret := (some .int)) (by decide) rfl ?_
  intro p ev s m args below meth c s₁ B hml hv
  obtain ⟨rfl, ⟨hK, hP⟩, hD0⟩ := hv
  have hx := B.exec
  have hb := B.bytes
  have hr := B.returns
  have hts := atoms_spec (ws := wsX6_weight) B.pre
  have hown : s.vm.findClass RX6 = some m.cls := findClass_of_methodNamed B.named
  have hlocks := B.notSynchronized
  have hD : va_D (inW (wM cy ad g th (bI kb) ms ff fr_ fb fp fc)) (wM cy ad g th (bI kb) ms ff fr_ fb fp fc) := inW_self hD0
  have hS : va_S (inW (wM cy ad g th (bI kb) ms ff fr_ fb fp fc)) s.heap s.heap [] := va_S.rf
  have hP : va_P D vwCl (wM cy ad g th (bI kb) ms ff fr_ fb fp fc) s.heap := hP
  have inX6 : ∀ w ∈ wsX60, w ∈ wsX6_weight := by decide +kernel
  have hl := lv_entry ([.ref (ad 20), .int (nI k9)]) (n := 2) (Nat.le_of_ble_eq_true rfl)
  rw [lg_entry_eq]
  generalize (lg_sl ([.ref (ad 20), .int (nI k9)]) ++ List.replicate (2 - (lg_sl ([.ref (ad 20), .int (nI k9)])).length) Slot.unset).toArray = ls at hl ⊢
  have hl : lv_has ls 2 [(0, .ref (ad 20)), (1, .int (nI k9))] := hl
  have hgen := True.intro
  have hE := hg.2.2.1
  have hV := hg.1
  have hC := hg.2.1
  have hS8 : 2 ^ gE g ≤ 2 ^ 14 := Nat.pow_le_pow_right (by decide) hE
  have hp1 := Nat.two_pow_pos (gE g)
  have hmo := mo_le g hg
  have hme : mo g (2 ^ gE g) = moA g := rfl
  have hds := dsA_lt hg hk9
  refine lv_aload_n hx hb dX6_weight_0 rfl (lv_at hl 0 rfl) ?_
  refine wr_callv [0, 1, 2, 3, 4, 5, 6, 7, 8, 9, 10] (va_runV (As := []) (rest := []) ⟨hx, hb, hml, hown, hts⟩ (c_X6_learn l D cy ad hg th (kb := kb) (ms := ms) (ff := ff) (fr_ := fr_) (fb := fb) (fp := fp) (fc := fc) hv9) (cwV 0 hts gX6_weight_X6_learn rfl rfl rfl (by decide +kernel) ⟨Nat.le_of_ble_eq_true rfl, Nat.le_of_ble_eq_true rfl⟩) (WR_preV (ci := 5) (q0 := 0) hK hP hD rfl rfl [0, 1, 2, 3, 4, 5, 6, 7, 8, 9, 10] (by decide) rfl rfl) rfl rfl hl.1 rfl (lv_room (Nat.le_of_ble_eq_true rfl)) dX6_weight_1 ⟨(Nat.zero_le _), (Nat.zero_le _)⟩) hS hP hD rfl (fun _ => rfl) (fun _ => rfl) (fun u1 H locs w1 hP hD hS => ?_)
  obtain ⟨hF, hR, hB⟩ := w1
  have hP : va_P D vwCl [(ad 20, .inr (5, [.int th, .int (nI (gV g)), .int (nI (gC g)), .int (nI (gE g)), .ref (ad 21), .ref (ad 22), .ref (ad 23), .ref (ad 24), .ref (ad 25), .int (bI true), .ref (ad 26), .ref (ad 27), .ref (ad 28), .int (nI (mo g (2 ^ gE g))), .ref (ad 29), .ref (ad 30)])), (ad 21, .inl (cy 0, 6, .inl (fun i => nI (gL g i)))), (ad 22, .inl (cy 0, 14, .inl (fun i => nI (gF g i)))), (ad 23, .inl (cy 0, 14, .inl (fun i => nI (gS g i)))), (ad 24, .inl (cy 0, 14, .inl (fun i => nI (gH g i)))), (ad 25, .inl (cy 0, 14, .inl (fun i => zI (gW g i)))), (ad 26, .inl (cy 1, 32768, .inl u1.1)), (ad 27, .inl (cy 0, 32768, .inl u1.2.1)), (ad 28, .inl (cy 0, 15, .inl u1.2.2.1)), (ad 29, .inl (cy 0, 8, .inl u1.2.2.2.1)), (ad 30, .inl (cy 0, 6, .inl u1.2.2.2.2))] H := hP
  have hD : va_D (inW (wM cy ad g th (bI kb) ms ff fr_ fb fp fc)) [(ad 20, .inr (5, [.int th, .int (nI (gV g)), .int (nI (gC g)), .int (nI (gE g)), .ref (ad 21), .ref (ad 22), .ref (ad 23), .ref (ad 24), .ref (ad 25), .int (bI true), .ref (ad 26), .ref (ad 27), .ref (ad 28), .int (nI (mo g (2 ^ gE g))), .ref (ad 29), .ref (ad 30)])), (ad 21, .inl (cy 0, 6, .inl (fun i => nI (gL g i)))), (ad 22, .inl (cy 0, 14, .inl (fun i => nI (gF g i)))), (ad 23, .inl (cy 0, 14, .inl (fun i => nI (gS g i)))), (ad 24, .inl (cy 0, 14, .inl (fun i => nI (gH g i)))), (ad 25, .inl (cy 0, 14, .inl (fun i => zI (gW g i)))), (ad 26, .inl (cy 1, 32768, .inl u1.1)), (ad 27, .inl (cy 0, 32768, .inl u1.2.1)), (ad 28, .inl (cy 0, 15, .inl u1.2.2.1)), (ad 29, .inl (cy 0, 8, .inl u1.2.2.2.1)), (ad 30, .inl (cy 0, 6, .inl u1.2.2.2.2))] := hD
  refine lv_aload_n hx hb dX6_weight_4 rfl (lv_at hl 0 rfl) ?_
  refine lv_iload_n hx hb dX6_weight_5 rfl (lv_at hl 1 rfl) ?_
  refine lv_if_lt (tgt := 17) hx hb dX6_weight_6 (by decide) (fun c6 => ?_) (fun c6 => ?_)
  · exact absurd c6 (nlt0 (by omega))
  · refine lv_iload_n hx hb dX6_weight_9 rfl (lv_at hl 1 rfl) ?_
    refine lv_aload_n hx hb dX6_weight_10 rfl (lv_at hl 0 rfl) ?_
    refine va_get (D := D) (ci := 5) (v := .int (nI (mo g (2 ^ gE g)))) (C := RX6) (T := TX6) (N := 16) hx hb hts inX6 hown hK.1 hP 0 rfl rfl 13 (by decide) (hts (.fieldLink RX6 70 "ColourForestsModel" "most" "I") (List.mem_of_getElem? (i := 1) rfl)) (fun _ h9 => h9) rfl dX6_weight_11 ?_
    refine n_le (a := k9) (b := (mo g (2 ^ gE g))) (tgt := 21) hx hb dX6_weight_14 (by decide) (by omega) (by omega) (fun c14 => ?_) (fun c14 => ?_)
    · refine lv_iconst (v := nI 0) hx hb dX6_weight_21 (by decide) ?_
      refine wr_calli [0] (va_runV (As := [.int (nI 0)]) (rest := []) ⟨hx, hb, hml, hown, hts⟩ (c_X6_refuses l D cy ad g th ((bI true)) ((nI (mo g (2 ^ gE g)))) ((nI 0))) (cwV 1 hts gX6_weight_X6_refuses rfl rfl rfl (by decide +kernel) ⟨Nat.le_of_ble_eq_true rfl, Nat.le_of_ble_eq_true rfl⟩) (WR_preV (ci := 5) (q0 := 0) hK hP hD rfl rfl [0] (by decide) rfl rfl) rfl rfl hl.1 rfl (lv_room (Nat.le_of_ble_eq_true rfl)) dX6_weight_22 ⟨(Nat.zero_le _), (Nat.zero_le _)⟩) hS hP hD rfl (fun _ => rfl) (fun _ => rfl) (fun r22 u22 H locs w22 hP hD hS => ?_)
      refine lv_as (y := bI false) (by rw [w22]; first | rfl | decide) ?_
      have hP : va_P D vwCl [(ad 20, .inr (5, [.int (nI 0), .int (nI (gV g)), .int (nI (gC g)), .int (nI (gE g)), .ref (ad 21), .ref (ad 22), .ref (ad 23), .ref (ad 24), .ref (ad 25), .int (bI true), .ref (ad 26), .ref (ad 27), .ref (ad 28), .int (nI (mo g (2 ^ gE g))), .ref (ad 29), .ref (ad 30)])), (ad 21, .inl (cy 0, 6, .inl (fun i => nI (gL g i)))), (ad 22, .inl (cy 0, 14, .inl (fun i => nI (gF g i)))), (ad 23, .inl (cy 0, 14, .inl (fun i => nI (gS g i)))), (ad 24, .inl (cy 0, 14, .inl (fun i => nI (gH g i)))), (ad 25, .inl (cy 0, 14, .inl (fun i => zI (gW g i)))), (ad 26, .inl (cy 1, 32768, .inl u1.1)), (ad 27, .inl (cy 0, 32768, .inl u1.2.1)), (ad 28, .inl (cy 0, 15, .inl u1.2.2.1)), (ad 29, .inl (cy 0, 8, .inl u1.2.2.2.1)), (ad 30, .inl (cy 0, 6, .inl u1.2.2.2.2))] H := hP
      have hD : va_D (inW (wM cy ad g th (bI kb) ms ff fr_ fb fp fc)) [(ad 20, .inr (5, [.int (nI 0), .int (nI (gV g)), .int (nI (gC g)), .int (nI (gE g)), .ref (ad 21), .ref (ad 22), .ref (ad 23), .ref (ad 24), .ref (ad 25), .int (bI true), .ref (ad 26), .ref (ad 27), .ref (ad 28), .int (nI (mo g (2 ^ gE g))), .ref (ad 29), .ref (ad 30)])), (ad 21, .inl (cy 0, 6, .inl (fun i => nI (gL g i)))), (ad 22, .inl (cy 0, 14, .inl (fun i => nI (gF g i)))), (ad 23, .inl (cy 0, 14, .inl (fun i => nI (gS g i)))), (ad 24, .inl (cy 0, 14, .inl (fun i => nI (gH g i)))), (ad 25, .inl (cy 0, 14, .inl (fun i => zI (gW g i)))), (ad 26, .inl (cy 1, 32768, .inl u1.1)), (ad 27, .inl (cy 0, 32768, .inl u1.2.1)), (ad 28, .inl (cy 0, 15, .inl u1.2.2.1)), (ad 29, .inl (cy 0, 8, .inl u1.2.2.2.1)), (ad 30, .inl (cy 0, 6, .inl u1.2.2.2.2))] := hD
      refine b_eq (b := false) (tgt := 32) hx hb dX6_weight_25 (by decide) (fun c25 => ?_) (fun c25 => ?_)
      · refine lv_aload_n hx hb dX6_weight_32 rfl (lv_at hl 0 rfl) ?_
        refine lv_aload_n hx hb dX6_weight_33 rfl (lv_at hl 0 rfl) ?_
        refine va_get (D := D) (ci := 5) (v := .ref (ad 28)) (C := RX6) (T := TX6) (N := 16) hx hb hts inX6 hown hK.1 hP 0 rfl rfl 12 (by decide) (hts (.fieldLink RX6 40 "ColourForestsModel" "best" "[I") (List.mem_of_getElem? (i := 2) rfl)) (fun _ h9 => h9) rfl dX6_weight_34 ?_
        refine lv_iload_n hx hb dX6_weight_37 rfl (lv_at hl 1 rfl) ?_
        refine rd_i (k := k9) (v := (nI (dsA g k9))) hx hb hK hP 8 rfl (by omega) (by decide) (lrB_ds hg hB hk9) dX6_weight_38 ?_
        refine pu_call (va_runV (As := [.int (nI (dsA g k9))]) (rest := []) ⟨hx, hb, hml, hown, hts⟩ (c_X6_weightOf l D cy ad hg ((nI 0)) ((bI true)) ((nI (mo g (2 ^ gE g)))) (S := dsA g k9) (by omega)) (cwV 1 hts gX6_weight_X6_weightOf rfl rfl rfl (by decide +kernel) ⟨Nat.le_of_ble_eq_true rfl, Nat.le_of_ble_eq_true rfl⟩) (PU_preV (ci := 5) (q0 := 0) hK hP 0 rfl rfl [0, 5] rfl) rfl rfl hl.1 rfl (lv_room (Nat.le_of_ble_eq_true rfl)) dX6_weight_39 ⟨(Nat.zero_le _), (Nat.zero_le _)⟩) hS hP (fun H locs hP hS => ?_)
        exact wi_ret u1 hx hb hr hlocks hS hP ⟨(by rw [wB_is hg hk9]), hF, hR, hB⟩ dX6_weight_42
      · cases c25
    · exact absurd c14 (by omega)

set_option maxHeartbeats 4000000 in
set_option maxRecDepth 100000 in
theorem c_X6_heaviest (l : Launch) (D : va_G) (cy : Nat → ClassId) (ad : Nat → Nat) {g : GT} (hg : gOK g) (th : Int32) {kb : Bool} {ms : Int32} {ff fr_ fb fp fc : Nat → Int32} (hv9 : kb = true → lrF g (2 ^ gE g) ff ∧ lrR g (2 ^ gE g) fr_ ∧ lrB g (2 ^ gE g) fb ∧ ms = nI (mo g (2 ^ gE g))) : WI l yX6_heaviest wsX6_heaviest ({ frames := 3, cells := 0, slots := 0, locals := 71 }) D cy [.ref (ad 20)] (wM cy ad g th (bI kb) ms ff fr_ fb fp fc) (fun (r : Int32) (u : (Nat → Int32) × (Nat → Int32) × (Nat → Int32) × (Nat → Int32) × (Nat → Int32)) => r = nI (hv (wB g) (moA g)) ∧ lrF g (2 ^ gE g) u.1 ∧ lrR g (2 ^ gE g) u.2.1 ∧ lrB g (2 ^ gE g) u.2.2.1) (fun u : (Nat → Int32) × (Nat → Int32) × (Nat → Int32) × (Nat → Int32) × (Nat → Int32) => wM cy ad g (nI 0) (bI true) (nI (mo g (2 ^ gE g))) u.1 u.2.1 u.2.2.1 u.2.2.2.1 u.2.2.2.2) := by
  refine Met.ofW (cc := cX6_heaviest) (maxL := 3) (ret := (some .int)) (by decide) rfl ?_
  intro p ev s m args below meth c s₁ B hml hv
  obtain ⟨rfl, ⟨hK, hP⟩, hD0⟩ := hv
  have hx := B.exec
  have hb := B.bytes
  have hr := B.returns
  have hts := atoms_spec (ws := wsX6_heaviest) B.pre
  have hown : s.vm.findClass RX6 = some m.cls := findClass_of_methodNamed B.named
  have hlocks := B.notSynchronized
  have hD : va_D (inW (wM cy ad g th (bI kb) ms ff fr_ fb fp fc)) (wM cy ad g th (bI kb) ms ff fr_ fb fp fc) := inW_self hD0
  have hS : va_S (inW (wM cy ad g th (bI kb) ms ff fr_ fb fp fc)) s.heap s.heap [] := va_S.rf
  have hP : va_P D vwCl (wM cy ad g th (bI kb) ms ff fr_ fb fp fc) s.heap := hP
  have inX6 : ∀ w ∈ wsX60, w ∈ wsX6_heaviest := by decide +kernel
  have hl := lv_entry ([.ref (ad 20)]) (n := 3) (Nat.le_of_ble_eq_true rfl)
  rw [lg_entry_eq]
  generalize (lg_sl ([.ref (ad 20)]) ++ List.replicate (3 - (lg_sl ([.ref (ad 20)])).length) Slot.unset).toArray = ls at hl ⊢
  have hl : lv_has ls 3 [(0, .ref (ad 20))] := hl
  have hgen := True.intro
  have hE := hg.2.2.1
  have hV := hg.1
  have hC := hg.2.1
  have hS8 : 2 ^ gE g ≤ 2 ^ 14 := Nat.pow_le_pow_right (by decide) hE
  have hp1 := Nat.two_pow_pos (gE g)
  have hmo := mo_le g hg
  have hme : mo g (2 ^ gE g) = moA g := rfl
  refine lv_aload_n hx hb dX6_heaviest_0 rfl (lv_at hl 0 rfl) ?_
  refine lv_iconst (v := nI 0) hx hb dX6_heaviest_1 (by decide) ?_
  refine va_put (D := D) (ci := 5) (v := .int (nI 0)) (ty := .int) (C := RX6) (T := TX6) (N := 16) hx hb hts inX6 tyX6 tyX6_ok nmX6 hown hK.1 hP hD hS 0 rfl rfl 0 (by decide) (hts (.fieldLink RX6 49 "ColourForestsModel" "thrown" "I") (List.mem_of_getElem? (i := 1) rfl)) (fun _ h9 => h9) rfl (by decide +kernel) rfl rfl (Nat.le_of_ble_eq_true rfl) dX6_heaviest_2 (fun H locs hP hD hS => ?_)
  have hP : va_P D vwCl [(ad 20, .inr (5, [.int (nI 0), .int (nI (gV g)), .int (nI (gC g)), .int (nI (gE g)), .ref (ad 21), .ref (ad 22), .ref (ad 23), .ref (ad 24), .ref (ad 25), .int (bI kb), .ref (ad 26), .ref (ad 27), .ref (ad 28), .int ms, .ref (ad 29), .ref (ad 30)])), (ad 21, .inl (cy 0, 6, .inl (fun i => nI (gL g i)))), (ad 22, .inl (cy 0, 14, .inl (fun i => nI (gF g i)))), (ad 23, .inl (cy 0, 14, .inl (fun i => nI (gS g i)))), (ad 24, .inl (cy 0, 14, .inl (fun i => nI (gH g i)))), (ad 25, .inl (cy 0, 14, .inl (fun i => zI (gW g i)))), (ad 26, .inl (cy 1, 32768, .inl ff)), (ad 27, .inl (cy 0, 32768, .inl fr_)), (ad 28, .inl (cy 0, 15, .inl fb)), (ad 29, .inl (cy 0, 8, .inl fp)), (ad 30, .inl (cy 0, 6, .inl fc))] H := hP
  have hD : va_D (inW (wM cy ad g th (bI kb) ms ff fr_ fb fp fc)) [(ad 20, .inr (5, [.int (nI 0), .int (nI (gV g)), .int (nI (gC g)), .int (nI (gE g)), .ref (ad 21), .ref (ad 22), .ref (ad 23), .ref (ad 24), .ref (ad 25), .int (bI kb), .ref (ad 26), .ref (ad 27), .ref (ad 28), .int ms, .ref (ad 29), .ref (ad 30)])), (ad 21, .inl (cy 0, 6, .inl (fun i => nI (gL g i)))), (ad 22, .inl (cy 0, 14, .inl (fun i => nI (gF g i)))), (ad 23, .inl (cy 0, 14, .inl (fun i => nI (gS g i)))), (ad 24, .inl (cy 0, 14, .inl (fun i => nI (gH g i)))), (ad 25, .inl (cy 0, 14, .inl (fun i => zI (gW g i)))), (ad 26, .inl (cy 1, 32768, .inl ff)), (ad 27, .inl (cy 0, 32768, .inl fr_)), (ad 28, .inl (cy 0, 15, .inl fb)), (ad 29, .inl (cy 0, 8, .inl fp)), (ad 30, .inl (cy 0, 6, .inl fc))] := hD
  refine lv_aload_n hx hb dX6_heaviest_5 rfl (lv_at hl 0 rfl) ?_
  refine wr_callv [0, 1, 2, 3, 4, 5, 6, 7, 8, 9, 10] (va_runV (As := []) (rest := []) ⟨hx, hb, hml, hown, hts⟩ (c_X6_learn l D cy ad hg ((nI 0)) (kb := kb) (ms := ms) (ff := ff) (fr_ := fr_) (fb := fb) (fp := fp) (fc := fc) hv9) (cwV 0 hts gX6_heaviest_X6_learn rfl rfl rfl (by decide +kernel) ⟨Nat.le_of_ble_eq_true rfl, Nat.le_of_ble_eq_true rfl⟩) (WR_preV (ci := 5) (q0 := 0) hK hP hD rfl rfl [0, 1, 2, 3, 4, 5, 6, 7, 8, 9, 10] (by decide) rfl rfl) rfl rfl hl.1 rfl (lv_room (Nat.le_of_ble_eq_true rfl)) dX6_heaviest_6 ⟨(Nat.zero_le _), (Nat.zero_le _)⟩) hS hP hD rfl (fun _ => rfl) (fun _ => rfl) (fun u6 H locs w6 hP hD hS => ?_)
  obtain ⟨hF, hR, hB⟩ := w6
  have hP : va_P D vwCl [(ad 20, .inr (5, [.int (nI 0), .int (nI (gV g)), .int (nI (gC g)), .int (nI (gE g)), .ref (ad 21), .ref (ad 22), .ref (ad 23), .ref (ad 24), .ref (ad 25), .int (bI true), .ref (ad 26), .ref (ad 27), .ref (ad 28), .int (nI (mo g (2 ^ gE g))), .ref (ad 29), .ref (ad 30)])), (ad 21, .inl (cy 0, 6, .inl (fun i => nI (gL g i)))), (ad 22, .inl (cy 0, 14, .inl (fun i => nI (gF g i)))), (ad 23, .inl (cy 0, 14, .inl (fun i => nI (gS g i)))), (ad 24, .inl (cy 0, 14, .inl (fun i => nI (gH g i)))), (ad 25, .inl (cy 0, 14, .inl (fun i => zI (gW g i)))), (ad 26, .inl (cy 1, 32768, .inl u6.1)), (ad 27, .inl (cy 0, 32768, .inl u6.2.1)), (ad 28, .inl (cy 0, 15, .inl u6.2.2.1)), (ad 29, .inl (cy 0, 8, .inl u6.2.2.2.1)), (ad 30, .inl (cy 0, 6, .inl u6.2.2.2.2))] H := hP
  have hD : va_D (inW (wM cy ad g th (bI kb) ms ff fr_ fb fp fc)) [(ad 20, .inr (5, [.int (nI 0), .int (nI (gV g)), .int (nI (gC g)), .int (nI (gE g)), .ref (ad 21), .ref (ad 22), .ref (ad 23), .ref (ad 24), .ref (ad 25), .int (bI true), .ref (ad 26), .ref (ad 27), .ref (ad 28), .int (nI (mo g (2 ^ gE g))), .ref (ad 29), .ref (ad 30)])), (ad 21, .inl (cy 0, 6, .inl (fun i => nI (gL g i)))), (ad 22, .inl (cy 0, 14, .inl (fun i => nI (gF g i)))), (ad 23, .inl (cy 0, 14, .inl (fun i => nI (gS g i)))), (ad 24, .inl (cy 0, 14, .inl (fun i => nI (gH g i)))), (ad 25, .inl (cy 0, 14, .inl (fun i => zI (gW g i)))), (ad 26, .inl (cy 1, 32768, .inl u6.1)), (ad 27, .inl (cy 0, 32768, .inl u6.2.1)), (ad 28, .inl (cy 0, 15, .inl u6.2.2.1)), (ad 29, .inl (cy 0, 8, .inl u6.2.2.2.1)), (ad 30, .inl (cy 0, 6, .inl u6.2.2.2.2))] := hD
  refine lv_iconst (v := nI 0) hx hb dX6_heaviest_9 (by decide) ?_
  refine lv_istore_n (lv' := [(1, .int (nI 0)), (0, .ref (ad 20))]) hx hb dX6_heaviest_10 rfl hl (by decide) rfl (fun ls hl => ?_)
  refine lv_iconst (v := nI 1) hx hb dX6_heaviest_11 (by decide) ?_
  refine lv_istore_n (lv' := [(2, .int (nI 1)), (1, .int (nI 0)), (0, .ref (ad 20))]) hx hb dX6_heaviest_12 rfl hl (by decide) rfl (fun ls hl => ?_)
  have L13 : ∀ (n : Nat) (j : Nat), j ≤ moA g ∧ moA g + 1 ≤ j + n → ∀ (H : Heap) (locs : List Loc), va_P D vwCl [(ad 20, .inr (5, [.int (nI 0), .int (nI (gV g)), .int (nI (gC g)), .int (nI (gE g)), .ref (ad 21), .ref (ad 22), .ref (ad 23), .ref (ad 24), .ref (ad 25), .int (bI true), .ref (ad 26), .ref (ad 27), .ref (ad 28), .int (nI (mo g (2 ^ gE g))), .ref (ad 29), .ref (ad 30)])), (ad 21, .inl (cy 0, 6, .inl (fun i => nI (gL g i)))), (ad 22, .inl (cy 0, 14, .inl (fun i => nI (gF g i)))), (ad 23, .inl (cy 0, 14, .inl (fun i => nI (gS g i)))), (ad 24, .inl (cy 0, 14, .inl (fun i => nI (gH g i)))), (ad 25, .inl (cy 0, 14, .inl (fun i => zI (gW g i)))), (ad 26, .inl (cy 1, 32768, .inl u6.1)), (ad 27, .inl (cy 0, 32768, .inl u6.2.1)), (ad 28, .inl (cy 0, 15, .inl u6.2.2.1)), (ad 29, .inl (cy 0, 8, .inl u6.2.2.2.1)), (ad 30, .inl (cy 0, 6, .inl u6.2.2.2.2))] H → va_D (inW (wM cy ad g th (bI kb) ms ff fr_ fb fp fc)) [(ad 20, .inr (5, [.int (nI 0), .int (nI (gV g)), .int (nI (gC g)), .int (nI (gE g)), .ref (ad 21), .ref (ad 22), .ref (ad 23), .ref (ad 24), .ref (ad 25), .int (bI true), .ref (ad 26), .ref (ad 27), .ref (ad 28), .int (nI (mo g (2 ^ gE g))), .ref (ad 29), .ref (ad 30)])), (ad 21, .inl (cy 0, 6, .inl (fun i => nI (gL g i)))), (ad 22, .inl (cy 0, 14, .inl (fun i => nI (gF g i)))), (ad 23, .inl (cy 0, 14, .inl (fun i => nI (gS g i)))), (ad 24, .inl (cy 0, 14, .inl (fun i => nI (gH g i)))), (ad 25, .inl (cy 0, 14, .inl (fun i => zI (gW g i)))), (ad 26, .inl (cy 1, 32768, .inl u6.1)), (ad 27, .inl (cy 0, 32768, .inl u6.2.1)), (ad 28, .inl (cy 0, 15, .inl u6.2.2.1)), (ad 29, .inl (cy 0, 8, .inl u6.2.2.2.1)), (ad 30, .inl (cy 0, 6, .inl u6.2.2.2.2))] → va_S (inW (wM cy ad g th (bI kb) ms ff fr_ fb fp fc)) s.heap H locs → ∀ (ls : Array Slot), lv_has ls 3 [(0, .ref (ad 20)), (1, .int (nI (hv (wB g) j))), (2, .int (nI (j + 1)))] → W p l ev (headSpec wsX6_heaviest ({ frames := 3, cells := 0, slots := 0, locals := 71 })).room s m [.ref (ad 20)].toArray below meth c H locs 0 0 (MQ below (va_Qi (fun (r : Int32) (u : (Nat → Int32) × (Nat → Int32) × (Nat → Int32) × (Nat → Int32) × (Nat → Int32)) => r = nI (hv (wB g) (moA g)) ∧ lrF g (2 ^ gE g) u.1 ∧ lrR g (2 ^ gE g) u.2.1 ∧ lrB g (2 ^ gE g) u.2.2.1) (fun u t => va_P D vwCl ((fun u : (Nat → Int32) × (Nat → Int32) × (Nat → Int32) × (Nat → Int32) × (Nat → Int32) => wM cy ad g (nI 0) (bI true) (nI (mo g (2 ^ gE g))) u.1 u.2.1 u.2.2.1 u.2.2.2.1 u.2.2.2.2) u) t.heap) (inW (wM cy ad g th (bI kb) ms ff fr_ fb fp fc))) [.ref (ad 20)].toArray s 0 0 (inW (wM cy ad g th (bI kb) ms ff fr_ fb fp fc))) (F0 m 13 ls []) := by
    intro n
    induction n with
    | zero =>
      intro j hfuel  H locs hP hD hS ls hl
      exact absurd hfuel.2 (by have := hfuel.1; omega)
    | succ n ih13 =>
      intro j hfuel  H locs hP hD hS ls hl
      obtain ⟨hfu1, hfu2⟩ := hfuel
      have hhv := hv_le (wB g) j
      refine lv_iload_n hx hb dX6_heaviest_13 rfl (lv_at hl 2 rfl) ?_
      refine lv_aload_n hx hb dX6_heaviest_14 rfl (lv_at hl 0 rfl) ?_
      refine va_get (D := D) (ci := 5) (v := .int (nI (mo g (2 ^ gE g)))) (C := RX6) (T := TX6) (N := 16) hx hb hts inX6 hown hK.1 hP 0 rfl rfl 13 (by decide) (hts (.fieldLink RX6 70 "ColourForestsModel" "most" "I") (List.mem_of_getElem? (i := 2) rfl)) (fun _ h9 => h9) rfl dX6_heaviest_15 ?_
      refine n_gt (a := (j + 1)) (b := (mo g (2 ^ gE g))) (tgt := 56) hx hb dX6_heaviest_18 (by decide) (by omega) (by omega) (fun c18 => ?_) (fun c18 => ?_)
      · refine lv_iload_n hx hb dX6_heaviest_56 rfl (lv_at hl 1 rfl) ?_
        exact wi_ret u6 hx hb hr hlocks hS hP ⟨(by rw [show j = moA g by omega]), hF, hR, hB⟩ dX6_heaviest_57
      · have hd1 := dsA_lt hg (k := j + 1) (by omega)
        have hd2 := dsA_lt hg (k := hv (wB g) j) (by omega)
        have hw1 := wS_bd hg (dsA g (j + 1))
        have hw2 := wS_bd hg (dsA g (hv (wB g) j))
        refine lv_aload_n hx hb dX6_heaviest_21 rfl (lv_at hl 0 rfl) ?_
        refine lv_aload_n hx hb dX6_heaviest_22 rfl (lv_at hl 0 rfl) ?_
        refine va_get (D := D) (ci := 5) (v := .ref (ad 28)) (C := RX6) (T := TX6) (N := 16) hx hb hts inX6 hown hK.1 hP 0 rfl rfl 12 (by decide) (hts (.fieldLink RX6 40 "ColourForestsModel" "best" "[I") (List.mem_of_getElem? (i := 3) rfl)) (fun _ h9 => h9) rfl dX6_heaviest_23 ?_
        refine lv_iload_n hx hb dX6_heaviest_26 rfl (lv_at hl 2 rfl) ?_
        refine rd_i (k := (j + 1)) (v := (nI (dsA g (j + 1)))) hx hb hK hP 8 rfl (by omega) (by decide) (lrB_ds hg hB (by omega)) dX6_heaviest_27 ?_
        refine pu_call (va_runV (As := [.int (nI (dsA g (j + 1)))]) (rest := []) ⟨hx, hb, hml, hown, hts⟩ (c_X6_weightOf l D cy ad hg ((nI 0)) ((bI true)) ((nI (mo g (2 ^ gE g)))) (S := dsA g (j + 1)) (by omega)) (cwV 1 hts gX6_heaviest_X6_weightOf rfl rfl rfl (by decide +kernel) ⟨Nat.le_of_ble_eq_true rfl, Nat.le_of_ble_eq_true rfl⟩) (PU_preV (ci := 5) (q0 := 0) hK hP 0 rfl rfl [0, 5] rfl) rfl rfl hl.1 rfl (lv_room (Nat.le_of_ble_eq_true rfl)) dX6_heaviest_28 ⟨(Nat.zero_le _), (Nat.zero_le _)⟩) hS hP (fun H locs hP hS => ?_)
        refine lv_aload_n hx hb dX6_heaviest_31 rfl (lv_at hl 0 rfl) ?_
        refine lv_aload_n hx hb dX6_heaviest_32 rfl (lv_at hl 0 rfl) ?_
        refine va_get (D := D) (ci := 5) (v := .ref (ad 28)) (C := RX6) (T := TX6) (N := 16) hx hb hts inX6 hown hK.1 hP 0 rfl rfl 12 (by decide) (hts (.fieldLink RX6 40 "ColourForestsModel" "best" "[I") (List.mem_of_getElem? (i := 3) rfl)) (fun _ h9 => h9) rfl dX6_heaviest_33 ?_
        refine lv_iload_n hx hb dX6_heaviest_36 rfl (lv_at hl 1 rfl) ?_
        refine rd_i (k := (hv (wB g) j)) (v := (nI (dsA g (hv (wB g) j)))) hx hb hK hP 8 rfl (by omega) (by decide) (lrB_ds hg hB (by omega)) dX6_heaviest_37 ?_
        refine pu_call (va_runV (As := [.int (nI (dsA g (hv (wB g) j)))]) (rest := [.int (zI (wS g (dsA g (j + 1))))]) ⟨hx, hb, hml, hown, hts⟩ (c_X6_weightOf l D cy ad hg ((nI 0)) ((bI true)) ((nI (mo g (2 ^ gE g)))) (S := dsA g (hv (wB g) j)) (by omega)) (cwV 1 hts gX6_heaviest_X6_weightOf rfl rfl rfl (by decide +kernel) ⟨Nat.le_of_ble_eq_true rfl, Nat.le_of_ble_eq_true rfl⟩) (PU_preV (ci := 5) (q0 := 0) hK hP 0 rfl rfl [0, 5] rfl) rfl rfl hl.1 rfl (lv_room (Nat.le_of_ble_eq_true rfl)) dX6_heaviest_38 ⟨(Nat.zero_le _), (Nat.zero_le _)⟩) hS hP (fun H locs hP hS => ?_)
        refine z_le (a := (wS g (dsA g (j + 1)))) (b := (wS g (dsA g (hv (wB g) j)))) (tgt := 48) hx hb dX6_heaviest_41 (by decide) ⟨by omega, by omega⟩ ⟨by omega, by omega⟩ (fun c41 => ?_) (fun c41 => ?_)
        · refine lv_iload_n hx hb dX6_heaviest_48 rfl (lv_at hl 1 rfl) ?_
          refine lv_istore_n (lv' := [(1, .int (nI (hv (wB g) j))), (0, .ref (ad 20)), (2, .int (nI (j + 1)))]) hx hb dX6_heaviest_49 rfl hl (by decide) rfl (fun ls hl => ?_)
          refine lv_iinc (v := (nI (j + 1 + 1))) (lv' := [(2, .int (nI (j + 1 + 1))), (1, .int (nI (hv (wB g) j))), (0, .ref (ad 20))]) hx hb dX6_heaviest_50 hl (k := 2) rfl (ni_inc _) (by decide) rfl (fun ls hl => ?_)
          refine lv_goto (tgt := 13) hx hb dX6_heaviest_53 (by decide) ?_
          exact ih13 (j + 1) ⟨by omega, by omega⟩  _ _ hP hD hS _ (by first | (rw [hv_y (w := wB g) (by rw [wB_is hg (by omega), wB_is hg (by omega)]; exact c41)]; exact lv_sub hl [2, 1, 0] rfl) | (rw [hv_n (w := wB g) (by rw [wB_is hg (by omega), wB_is hg (by omega)]; omega)]; exact lv_sub hl [2, 1, 0] rfl))
        · refine lv_iload_n hx hb dX6_heaviest_44 rfl (lv_at hl 2 rfl) ?_
          refine lv_goto (tgt := 49) hx hb dX6_heaviest_45 (by decide) ?_
          refine lv_istore_n (lv' := [(1, .int (nI (j + 1))), (0, .ref (ad 20)), (2, .int (nI (j + 1)))]) hx hb dX6_heaviest_49 rfl hl (by decide) rfl (fun ls hl => ?_)
          refine lv_iinc (v := (nI (j + 1 + 1))) (lv' := [(2, .int (nI (j + 1 + 1))), (1, .int (nI (j + 1))), (0, .ref (ad 20))]) hx hb dX6_heaviest_50 hl (k := 2) rfl (ni_inc _) (by decide) rfl (fun ls hl => ?_)
          refine lv_goto (tgt := 13) hx hb dX6_heaviest_53 (by decide) ?_
          exact ih13 (j + 1) ⟨by omega, by omega⟩  _ _ hP hD hS _ (by first | (rw [hv_y (w := wB g) (by rw [wB_is hg (by omega), wB_is hg (by omega)]; exact c41)]; exact lv_sub hl [2, 1, 0] rfl) | (rw [hv_n (w := wB g) (by rw [wB_is hg (by omega), wB_is hg (by omega)]; omega)]; exact lv_sub hl [2, 1, 0] rfl))
  exact L13 (moA g + 1) 0 ⟨Nat.zero_le _, by omega⟩  _ _ hP hD hS _ (lv_sub hl [2, 1, 0] rfl)

set_option maxHeartbeats 4000000 in
set_option maxRecDepth 100000 in
theorem c_X6_witness_no (l : Launch) (D : va_G) (cy : Nat → ClassId) (ad : Nat → Nat) {g : GT} (hg : gOK g) (th kn ms : Int32) {x : Int32} (h : isN x 2 = false) : WI l yX6_witness wsX6_witness ({ frames := 0, cells := 0, slots := 0, locals := 0 }) D cy [.ref (ad 20), .int x] [(ad 20, .inr (5, [.int th, .int (nI (gV g)), .int (nI (gC g)), .int (nI (gE g)), .ref (ad 21), .ref (ad 22), .ref (ad 23), .ref (ad 24), .ref (ad 25), .int kn, .ref (ad 26), .ref (ad 27), .ref (ad 28), .int ms, .ref (ad 29), .ref (ad 30)]))] (fun (r : Int32) (_ : Unit) => r = zI (-1)) (fun _ : Unit => [(ad 20, .inr (5, [.int (nI 0), .int (nI (gV g)), .int (nI (gC g)), .int (nI (gE g)), .ref (ad 21), .ref (ad 22), .ref (ad 23), .ref (ad 24), .ref (ad 25), .int kn, .ref (ad 26), .ref (ad 27), .ref (ad 28), .int ms, .ref (ad 29), .ref (ad 30)]))]) := by
  refine Met.ofW (cc := cX6_witness) (maxL := 6) (ret := (some .int)) (by decide) rfl ?_
  intro p ev s m args below meth c s₁ B hml hv
  obtain ⟨rfl, ⟨hK, hP⟩, hD0⟩ := hv
  have hx := B.exec
  have hb := B.bytes
  have hr := B.returns
  have hts := atoms_spec (ws := wsX6_witness) B.pre
  have hown : s.vm.findClass RX6 = some m.cls := findClass_of_methodNamed B.named
  have hlocks := B.notSynchronized
  have hD : va_D (inW [(ad 20, .inr (5, [.int th, .int (nI (gV g)), .int (nI (gC g)), .int (nI (gE g)), .ref (ad 21), .ref (ad 22), .ref (ad 23), .ref (ad 24), .ref (ad 25), .int kn, .ref (ad 26), .ref (ad 27), .ref (ad 28), .int ms, .ref (ad 29), .ref (ad 30)]))]) ([(ad 20, .inr (5, [.int th, .int (nI (gV g)), .int (nI (gC g)), .int (nI (gE g)), .ref (ad 21), .ref (ad 22), .ref (ad 23), .ref (ad 24), .ref (ad 25), .int kn, .ref (ad 26), .ref (ad 27), .ref (ad 28), .int ms, .ref (ad 29), .ref (ad 30)]))]) := inW_self hD0
  have hS : va_S (inW [(ad 20, .inr (5, [.int th, .int (nI (gV g)), .int (nI (gC g)), .int (nI (gE g)), .ref (ad 21), .ref (ad 22), .ref (ad 23), .ref (ad 24), .ref (ad 25), .int kn, .ref (ad 26), .ref (ad 27), .ref (ad 28), .int ms, .ref (ad 29), .ref (ad 30)]))]) s.heap s.heap [] := va_S.rf
  have hP : va_P D vwCl [(ad 20, .inr (5, [.int th, .int (nI (gV g)), .int (nI (gC g)), .int (nI (gE g)), .ref (ad 21), .ref (ad 22), .ref (ad 23), .ref (ad 24), .ref (ad 25), .int kn, .ref (ad 26), .ref (ad 27), .ref (ad 28), .int ms, .ref (ad 29), .ref (ad 30)]))] s.heap := hP
  have inX6 : ∀ w ∈ wsX60, w ∈ wsX6_witness := by decide +kernel
  have hl := lv_entry ([.ref (ad 20), .int x]) (n := 6) (Nat.le_of_ble_eq_true rfl)
  rw [lg_entry_eq]
  generalize (lg_sl ([.ref (ad 20), .int x]) ++ List.replicate (6 - (lg_sl ([.ref (ad 20), .int x])).length) Slot.unset).toArray = ls at hl ⊢
  have hl : lv_has ls 6 [(0, .ref (ad 20)), (1, .int x)] := hl
  have hgen := True.intro
  have hE := hg.2.2.1
  have hV := hg.1
  have hC := hg.2.1
  have hS8 : 2 ^ gE g ≤ 2 ^ 14 := Nat.pow_le_pow_right (by decide) hE
  refine lv_aload_n hx hb dX6_witness_0 rfl (lv_at hl 0 rfl) ?_
  refine lv_iconst (v := nI 0) hx hb dX6_witness_1 (by decide) ?_
  refine va_put (D := D) (ci := 5) (v := .int (nI 0)) (ty := .int) (C := RX6) (T := TX6) (N := 16) hx hb hts inX6 tyX6 tyX6_ok nmX6 hown hK.1 hP hD hS 0 rfl rfl 0 (by decide) (hts (.fieldLink RX6 49 "ColourForestsModel" "thrown" "I") (List.mem_of_getElem? (i := 1) rfl)) (fun _ h9 => h9) rfl (by decide +kernel) rfl rfl (Nat.le_of_ble_eq_true rfl) dX6_witness_2 (fun H locs hP hD hS => ?_)
  have hP : va_P D vwCl [(ad 20, .inr (5, [.int (nI 0), .int (nI (gV g)), .int (nI (gC g)), .int (nI (gE g)), .ref (ad 21), .ref (ad 22), .ref (ad 23), .ref (ad 24), .ref (ad 25), .int kn, .ref (ad 26), .ref (ad 27), .ref (ad 28), .int ms, .ref (ad 29), .ref (ad 30)]))] H := hP
  have hD : va_D (inW [(ad 20, .inr (5, [.int th, .int (nI (gV g)), .int (nI (gC g)), .int (nI (gE g)), .ref (ad 21), .ref (ad 22), .ref (ad 23), .ref (ad 24), .ref (ad 25), .int kn, .ref (ad 26), .ref (ad 27), .ref (ad 28), .int ms, .ref (ad 29), .ref (ad 30)]))]) [(ad 20, .inr (5, [.int (nI 0), .int (nI (gV g)), .int (nI (gC g)), .int (nI (gE g)), .ref (ad 21), .ref (ad 22), .ref (ad 23), .ref (ad 24), .ref (ad 25), .int kn, .ref (ad 26), .ref (ad 27), .ref (ad 28), .int ms, .ref (ad 29), .ref (ad 30)]))] := hD
  refine lv_iload_n hx hb dX6_witness_5 rfl (lv_at hl 1 rfl) ?_
  refine lv_if_lt (tgt := 14) hx hb dX6_witness_6 (by decide) (fun c6 => ?_) (fun c6 => ?_)
  · refine lv_iconst (v := zI (-1)) hx hb dX6_witness_14 (by decide) ?_
    exact wi_ret () hx hb hr hlocks hS hP rfl dX6_witness_15
  · refine lv_iload_n hx hb dX6_witness_9 rfl (lv_at hl 1 rfl) ?_
    refine lv_iconst (v := nI 1) hx hb dX6_witness_10 (by decide) ?_
    refine lv_icmp_le (tgt := 16) hx hb dX6_witness_11 (by decide) (fun c11 => ?_) (fun c11 => ?_)
    · exact (mo_up' (n := 1) (by decide) h c6 c11).elim
    · refine lv_iconst (v := zI (-1)) hx hb dX6_witness_14 (by decide) ?_
      exact wi_ret () hx hb hr hlocks hS hP rfl dX6_witness_15

set_option maxHeartbeats 4000000 in
set_option maxRecDepth 100000 in
theorem c_X6_witness_yes (l : Launch) (D : va_G) (cy : Nat → ClassId) (ad : Nat → Nat) {g : GT} (hg : gOK g) (th : Int32) {kb : Bool} {ms : Int32} {ff fr_ fb fp fc : Nat → Int32} (hv9 : kb = true → lrF g (2 ^ gE g) ff ∧ lrR g (2 ^ gE g) fr_ ∧ lrB g (2 ^ gE g) fb ∧ ms = nI (mo g (2 ^ gE g))) {k9 : Nat} (hk9 : k9 < 2) : WI l yX6_witness wsX6_witness ({ frames := 3, cells := 0, slots := 0, locals := 71 }) D cy [.ref (ad 20), .int (nI k9)] (wM cy ad g th (bI kb) ms ff fr_ fb fp fc) (fun (r : Int32) (u : (Nat → Int32) × (Nat → Int32) × (Nat → Int32) × (Nat → Int32) × (Nat → Int32)) => r = nI (wiA g k9) ∧ lrF g (2 ^ gE g) u.1 ∧ lrR g (2 ^ gE g) u.2.1 ∧ lrB g (2 ^ gE g) u.2.2.1) (fun u : (Nat → Int32) × (Nat → Int32) × (Nat → Int32) × (Nat → Int32) × (Nat → Int32) => wM cy ad g (nI 0) (bI true) (nI (mo g (2 ^ gE g))) u.1 u.2.1 u.2.2.1 u.2.2.2.1 u.2.2.2.2) := by
  refine Met.ofW (cc := cX6_witness) (maxL := 6) (ret := (some .int)) (by decide) rfl ?_
  intro p ev s m args below meth c s₁ B hml hv
  obtain ⟨rfl, ⟨hK, hP⟩, hD0⟩ := hv
  have hx := B.exec
  have hb := B.bytes
  have hr := B.returns
  have hts := atoms_spec (ws := wsX6_witness) B.pre
  have hown : s.vm.findClass RX6 = some m.cls := findClass_of_methodNamed B.named
  have hlocks := B.notSynchronized
  have hD : va_D (inW (wM cy ad g th (bI kb) ms ff fr_ fb fp fc)) (wM cy ad g th (bI kb) ms ff fr_ fb fp fc) := inW_self hD0
  have hS : va_S (inW (wM cy ad g th (bI kb) ms ff fr_ fb fp fc)) s.heap s.heap [] := va_S.rf
  have hP : va_P D vwCl (wM cy ad g th (bI kb) ms ff fr_ fb fp fc) s.heap := hP
  have inX6 : ∀ w ∈ wsX60, w ∈ wsX6_witness := by decide +kernel
  have hl := lv_entry ([.ref (ad 20), .int (nI k9)]) (n := 6) (Nat.le_of_ble_eq_true rfl)
  rw [lg_entry_eq]
  generalize (lg_sl ([.ref (ad 20), .int (nI k9)]) ++ List.replicate (6 - (lg_sl ([.ref (ad 20), .int (nI k9)])).length) Slot.unset).toArray = ls at hl ⊢
  have hl : lv_has ls 6 [(0, .ref (ad 20)), (1, .int (nI k9))] := hl
  have hgen := True.intro
  have hE := hg.2.2.1
  have hV := hg.1
  have hC := hg.2.1
  have hS8 : 2 ^ gE g ≤ 2 ^ 14 := Nat.pow_le_pow_right (by decide) hE
  have hp1 := Nat.two_pow_pos (gE g)
  have hmo := mo_le g hg
  have hme : mo g (2 ^ gE g) = moA g := rfl
  refine lv_aload_n hx hb dX6_witness_0 rfl (lv_at hl 0 rfl) ?_
  refine lv_iconst (v := nI 0) hx hb dX6_witness_1 (by decide) ?_
  refine va_put (D := D) (ci := 5) (v := .int (nI 0)) (ty := .int) (C := RX6) (T := TX6) (N := 16) hx hb hts inX6 tyX6 tyX6_ok nmX6 hown hK.1 hP hD hS 0 rfl rfl 0 (by decide) (hts (.fieldLink RX6 49 "ColourForestsModel" "thrown" "I") (List.mem_of_getElem? (i := 1) rfl)) (fun _ h9 => h9) rfl (by decide +kernel) rfl rfl (Nat.le_of_ble_eq_true rfl) dX6_witness_2 (fun H locs hP hD hS => ?_)
  have hP : va_P D vwCl [(ad 20, .inr (5, [.int (nI 0), .int (nI (gV g)), .int (nI (gC g)), .int (nI (gE g)), .ref (ad 21), .ref (ad 22), .ref (ad 23), .ref (ad 24), .ref (ad 25), .int (bI kb), .ref (ad 26), .ref (ad 27), .ref (ad 28), .int ms, .ref (ad 29), .ref (ad 30)])), (ad 21, .inl (cy 0, 6, .inl (fun i => nI (gL g i)))), (ad 22, .inl (cy 0, 14, .inl (fun i => nI (gF g i)))), (ad 23, .inl (cy 0, 14, .inl (fun i => nI (gS g i)))), (ad 24, .inl (cy 0, 14, .inl (fun i => nI (gH g i)))), (ad 25, .inl (cy 0, 14, .inl (fun i => zI (gW g i)))), (ad 26, .inl (cy 1, 32768, .inl ff)), (ad 27, .inl (cy 0, 32768, .inl fr_)), (ad 28, .inl (cy 0, 15, .inl fb)), (ad 29, .inl (cy 0, 8, .inl fp)), (ad 30, .inl (cy 0, 6, .inl fc))] H := hP
  have hD : va_D (inW (wM cy ad g th (bI kb) ms ff fr_ fb fp fc)) [(ad 20, .inr (5, [.int (nI 0), .int (nI (gV g)), .int (nI (gC g)), .int (nI (gE g)), .ref (ad 21), .ref (ad 22), .ref (ad 23), .ref (ad 24), .ref (ad 25), .int (bI kb), .ref (ad 26), .ref (ad 27), .ref (ad 28), .int ms, .ref (ad 29), .ref (ad 30)])), (ad 21, .inl (cy 0, 6, .inl (fun i => nI (gL g i)))), (ad 22, .inl (cy 0, 14, .inl (fun i => nI (gF g i)))), (ad 23, .inl (cy 0, 14, .inl (fun i => nI (gS g i)))), (ad 24, .inl (cy 0, 14, .inl (fun i => nI (gH g i)))), (ad 25, .inl (cy 0, 14, .inl (fun i => zI (gW g i)))), (ad 26, .inl (cy 1, 32768, .inl ff)), (ad 27, .inl (cy 0, 32768, .inl fr_)), (ad 28, .inl (cy 0, 15, .inl fb)), (ad 29, .inl (cy 0, 8, .inl fp)), (ad 30, .inl (cy 0, 6, .inl fc))] := hD
  refine lv_iload_n hx hb dX6_witness_5 rfl (lv_at hl 1 rfl) ?_
  refine lv_if_lt (tgt := 14) hx hb dX6_witness_6 (by decide) (fun c6 => ?_) (fun c6 => ?_)
  · exact absurd c6 (nlt0 (by omega))
  · refine lv_iload_n hx hb dX6_witness_9 rfl (lv_at hl 1 rfl) ?_
    refine lv_iconst (v := nI 1) hx hb dX6_witness_10 (by decide) ?_
    refine n_le (a := k9) (b := 1) (tgt := 16) hx hb dX6_witness_11 (by decide) (by omega) (by omega) (fun c11 => ?_) (fun c11 => ?_)
    · refine lv_aload_n hx hb dX6_witness_16 rfl (lv_at hl 0 rfl) ?_
      refine wr_callv [0, 1, 2, 3, 4, 5, 6, 7, 8, 9, 10] (va_runV (As := []) (rest := []) ⟨hx, hb, hml, hown, hts⟩ (c_X6_learn l D cy ad hg ((nI 0)) (kb := kb) (ms := ms) (ff := ff) (fr_ := fr_) (fb := fb) (fp := fp) (fc := fc) hv9) (cwV 0 hts gX6_witness_X6_learn rfl rfl rfl (by decide +kernel) ⟨Nat.le_of_ble_eq_true rfl, Nat.le_of_ble_eq_true rfl⟩) (WR_preV (ci := 5) (q0 := 0) hK hP hD rfl rfl [0, 1, 2, 3, 4, 5, 6, 7, 8, 9, 10] (by decide) rfl rfl) rfl rfl hl.1 rfl (lv_room (Nat.le_of_ble_eq_true rfl)) dX6_witness_17 ⟨(Nat.zero_le _), (Nat.zero_le _)⟩) hS hP hD rfl (fun _ => rfl) (fun _ => rfl) (fun u17 H locs w17 hP hD hS => ?_)
      obtain ⟨hF, hR, hB⟩ := w17
      have hP : va_P D vwCl [(ad 20, .inr (5, [.int (nI 0), .int (nI (gV g)), .int (nI (gC g)), .int (nI (gE g)), .ref (ad 21), .ref (ad 22), .ref (ad 23), .ref (ad 24), .ref (ad 25), .int (bI true), .ref (ad 26), .ref (ad 27), .ref (ad 28), .int (nI (mo g (2 ^ gE g))), .ref (ad 29), .ref (ad 30)])), (ad 21, .inl (cy 0, 6, .inl (fun i => nI (gL g i)))), (ad 22, .inl (cy 0, 14, .inl (fun i => nI (gF g i)))), (ad 23, .inl (cy 0, 14, .inl (fun i => nI (gS g i)))), (ad 24, .inl (cy 0, 14, .inl (fun i => nI (gH g i)))), (ad 25, .inl (cy 0, 14, .inl (fun i => zI (gW g i)))), (ad 26, .inl (cy 1, 32768, .inl u17.1)), (ad 27, .inl (cy 0, 32768, .inl u17.2.1)), (ad 28, .inl (cy 0, 15, .inl u17.2.2.1)), (ad 29, .inl (cy 0, 8, .inl u17.2.2.2.1)), (ad 30, .inl (cy 0, 6, .inl u17.2.2.2.2))] H := hP
      have hD : va_D (inW (wM cy ad g th (bI kb) ms ff fr_ fb fp fc)) [(ad 20, .inr (5, [.int (nI 0), .int (nI (gV g)), .int (nI (gC g)), .int (nI (gE g)), .ref (ad 21), .ref (ad 22), .ref (ad 23), .ref (ad 24), .ref (ad 25), .int (bI true), .ref (ad 26), .ref (ad 27), .ref (ad 28), .int (nI (mo g (2 ^ gE g))), .ref (ad 29), .ref (ad 30)])), (ad 21, .inl (cy 0, 6, .inl (fun i => nI (gL g i)))), (ad 22, .inl (cy 0, 14, .inl (fun i => nI (gF g i)))), (ad 23, .inl (cy 0, 14, .inl (fun i => nI (gS g i)))), (ad 24, .inl (cy 0, 14, .inl (fun i => nI (gH g i)))), (ad 25, .inl (cy 0, 14, .inl (fun i => zI (gW g i)))), (ad 26, .inl (cy 1, 32768, .inl u17.1)), (ad 27, .inl (cy 0, 32768, .inl u17.2.1)), (ad 28, .inl (cy 0, 15, .inl u17.2.2.1)), (ad 29, .inl (cy 0, 8, .inl u17.2.2.2.1)), (ad 30, .inl (cy 0, 6, .inl u17.2.2.2.2))] := hD
      refine lv_iconst (v := nI 1) hx hb dX6_witness_20 (by decide) ?_
      refine lv_aload_n hx hb dX6_witness_21 rfl (lv_at hl 0 rfl) ?_
      refine va_get (D := D) (ci := 5) (v := .int (nI (gE g))) (C := RX6) (T := TX6) (N := 16) hx hb hts inX6 hown hK.1 hP 0 rfl rfl 3 (by decide) (hts (.fieldLink RX6 56 "ColourForestsModel" "edges" "I") (List.mem_of_getElem? (i := 2) rfl)) (fun _ h9 => h9) rfl dX6_witness_22 ?_
      refine lv_ishl hx hb dX6_witness_25 ?_
      refine lv_as (y := (nI (2 ^ (gE g)))) (ni_bit (by omega)) ?_
      refine lv_iconst (v := nI 1) hx hb dX6_witness_26 (by decide) ?_
      refine lv_isub hx hb dX6_witness_27 ?_
      refine lv_as (y := (nI ((2 ^ (gE g)) - 1))) (ni_sub (by omega)) ?_
      refine lv_istore_n (lv' := [(2, .int (nI ((2 ^ (gE g)) - 1))), (0, .ref (ad 20)), (1, .int (nI k9))]) hx hb dX6_witness_28 rfl hl (by decide) rfl (fun ls hl => ?_)
      refine lv_iload_n hx hb dX6_witness_29 rfl (lv_at hl 0 rfl) ?_
      refine lv_istore_n (lv' := [(3, .int (nI ((2 ^ (gE g)) - 1))), (2, .int (nI ((2 ^ (gE g)) - 1))), (0, .ref (ad 20)), (1, .int (nI k9))]) hx hb dX6_witness_30 rfl hl (by decide) rfl (fun ls hl => ?_)
      refine lv_iconst (v := nI 0) hx hb dX6_witness_31 (by decide) ?_
      refine lv_istore (lv' := [(4, .int (nI 0)), (3, .int (nI ((2 ^ (gE g)) - 1))), (2, .int (nI ((2 ^ (gE g)) - 1))), (0, .ref (ad 20)), (1, .int (nI k9))]) hx hb dX6_witness_32 hl (by decide) rfl (fun ls hl => ?_)
      refine lv_iconst (v := nI 0) hx hb dX6_witness_34 (by decide) ?_
      refine lv_istore (lv' := [(5, .int (nI 0)), (4, .int (nI 0)), (3, .int (nI ((2 ^ (gE g)) - 1))), (2, .int (nI ((2 ^ (gE g)) - 1))), (0, .ref (ad 20)), (1, .int (nI k9))]) hx hb dX6_witness_35 hl (by decide) rfl (fun ls hl => ?_)
      have L37 : ∀ (n : Nat) (sm : Nat), sm ≤ 2 ^ gE g ∧ 2 ^ gE g + 1 ≤ sm + n → ∀ (H : Heap) (locs : List Loc), va_P D vwCl [(ad 20, .inr (5, [.int (nI 0), .int (nI (gV g)), .int (nI (gC g)), .int (nI (gE g)), .ref (ad 21), .ref (ad 22), .ref (ad 23), .ref (ad 24), .ref (ad 25), .int (bI true), .ref (ad 26), .ref (ad 27), .ref (ad 28), .int (nI (mo g (2 ^ gE g))), .ref (ad 29), .ref (ad 30)])), (ad 21, .inl (cy 0, 6, .inl (fun i => nI (gL g i)))), (ad 22, .inl (cy 0, 14, .inl (fun i => nI (gF g i)))), (ad 23, .inl (cy 0, 14, .inl (fun i => nI (gS g i)))), (ad 24, .inl (cy 0, 14, .inl (fun i => nI (gH g i)))), (ad 25, .inl (cy 0, 14, .inl (fun i => zI (gW g i)))), (ad 26, .inl (cy 1, 32768, .inl u17.1)), (ad 27, .inl (cy 0, 32768, .inl u17.2.1)), (ad 28, .inl (cy 0, 15, .inl u17.2.2.1)), (ad 29, .inl (cy 0, 8, .inl u17.2.2.2.1)), (ad 30, .inl (cy 0, 6, .inl u17.2.2.2.2))] H → va_D (inW (wM cy ad g th (bI kb) ms ff fr_ fb fp fc)) [(ad 20, .inr (5, [.int (nI 0), .int (nI (gV g)), .int (nI (gC g)), .int (nI (gE g)), .ref (ad 21), .ref (ad 22), .ref (ad 23), .ref (ad 24), .ref (ad 25), .int (bI true), .ref (ad 26), .ref (ad 27), .ref (ad 28), .int (nI (mo g (2 ^ gE g))), .ref (ad 29), .ref (ad 30)])), (ad 21, .inl (cy 0, 6, .inl (fun i => nI (gL g i)))), (ad 22, .inl (cy 0, 14, .inl (fun i => nI (gF g i)))), (ad 23, .inl (cy 0, 14, .inl (fun i => nI (gS g i)))), (ad 24, .inl (cy 0, 14, .inl (fun i => nI (gH g i)))), (ad 25, .inl (cy 0, 14, .inl (fun i => zI (gW g i)))), (ad 26, .inl (cy 1, 32768, .inl u17.1)), (ad 27, .inl (cy 0, 32768, .inl u17.2.1)), (ad 28, .inl (cy 0, 15, .inl u17.2.2.1)), (ad 29, .inl (cy 0, 8, .inl u17.2.2.2.1)), (ad 30, .inl (cy 0, 6, .inl u17.2.2.2.2))] → va_S (inW (wM cy ad g th (bI kb) ms ff fr_ fb fp fc)) s.heap H locs → ∀ (ls : Array Slot), lv_has ls 6 [(0, .ref (ad 20)), (1, .int (nI k9)), (2, .int (nI (2 ^ gE g - 1))), (3, .int (nI (wAnd (wP g) (gE g) sm))), (4, .int (nI (wOr (wP g) sm))), (5, .int (nI sm))] → W p l ev (headSpec wsX6_witness ({ frames := 3, cells := 0, slots := 0, locals := 71 })).room s m [.ref (ad 20), .int (nI k9)].toArray below meth c H locs 0 0 (MQ below (va_Qi (fun (r : Int32) (u : (Nat → Int32) × (Nat → Int32) × (Nat → Int32) × (Nat → Int32) × (Nat → Int32)) => r = nI (wiA g k9) ∧ lrF g (2 ^ gE g) u.1 ∧ lrR g (2 ^ gE g) u.2.1 ∧ lrB g (2 ^ gE g) u.2.2.1) (fun u t => va_P D vwCl ((fun u : (Nat → Int32) × (Nat → Int32) × (Nat → Int32) × (Nat → Int32) × (Nat → Int32) => wM cy ad g (nI 0) (bI true) (nI (mo g (2 ^ gE g))) u.1 u.2.1 u.2.2.1 u.2.2.2.1 u.2.2.2.2) u) t.heap) (inW (wM cy ad g th (bI kb) ms ff fr_ fb fp fc))) [.ref (ad 20), .int (nI k9)].toArray s 0 0 (inW (wM cy ad g th (bI kb) ms ff fr_ fb fp fc))) (F0 m 37 ls []) := by
        intro n
        induction n with
        | zero =>
          intro sm hfuel  H locs hP hD hS ls hl
          exact absurd hfuel.2 (by have := hfuel.1; omega)
        | succ n ih37 =>
          intro sm hfuel  H locs hP hD hS ls hl
          obtain ⟨hfu1, hfu2⟩ := hfuel
          refine lv_iload hx hb dX6_witness_37 (lv_at hl 5 rfl) ?_
          refine lv_iload_n hx hb dX6_witness_39 rfl (lv_at hl 2 rfl) ?_
          refine n_gt (a := sm) (b := (2 ^ gE g - 1)) (tgt := 89) hx hb dX6_witness_40 (by decide) (by omega) (by omega) (fun c40 => ?_) (fun c40 => ?_)
          · refine lv_iload_n hx hb dX6_witness_89 rfl (lv_at hl 1 rfl) ?_
            refine lv_if_ne (tgt := 97) hx hb dX6_witness_90 (by decide) (fun c90 => ?_) (fun c90 => ?_)
            · have c90 := n0_ne c90
              refine lv_iload hx hb dX6_witness_97 (lv_at hl 4 rfl) ?_
              exact wi_ret u17 hx hb hr hlocks hS hP ⟨(by unfold wiA; first | rw [if_pos c90, show sm = 2 ^ gE g by omega] | rw [if_neg c90, show sm = 2 ^ gE g by omega]), hF, hR, hB⟩ dX6_witness_99
            · have c90 := n0_of (by omega) c90
              refine lv_iload_n hx hb dX6_witness_93 rfl (lv_at hl 3 rfl) ?_
              refine lv_goto (tgt := 99) hx hb dX6_witness_94 (by decide) ?_
              exact wi_ret u17 hx hb hr hlocks hS hP ⟨(by unfold wiA; first | rw [if_pos c90, show sm = 2 ^ gE g by omega] | rw [if_neg c90, show sm = 2 ^ gE g by omega]), hF, hR, hB⟩ dX6_witness_99
          · have hr1 := rA_le g sm
            have hr2 := rB_le g (ms_sd (2 ^ gE g - 1) sm)
            have hx9 : ms_sd (2 ^ gE g - 1) sm < 2 ^ gE g := ms_sd_lt (ms_full_lt _)
            refine lv_aload_n hx hb dX6_witness_43 rfl (lv_at hl 0 rfl) ?_
            refine va_get (D := D) (ci := 5) (v := .ref (ad 27)) (C := RX6) (T := TX6) (N := 16) hx hb hts inX6 hown hK.1 hP 0 rfl rfl 11 (by decide) (hts (.fieldLink RX6 37 "ColourForestsModel" "ranks" "[I") (List.mem_of_getElem? (i := 3) rfl)) (fun _ h9 => h9) rfl dX6_witness_44 ?_
            refine lv_iload hx hb dX6_witness_47 (lv_at hl 5 rfl) ?_
            refine rd_i (k := sm) (v := (nI (rA g sm))) hx hb hK hP 7 rfl (by omega) (by decide) (lrR_at0 hR (by omega)) dX6_witness_49 ?_
            refine lv_aload_n hx hb dX6_witness_50 rfl (lv_at hl 0 rfl) ?_
            refine va_get (D := D) (ci := 5) (v := .ref (ad 27)) (C := RX6) (T := TX6) (N := 16) hx hb hts inX6 hown hK.1 hP 0 rfl rfl 11 (by decide) (hts (.fieldLink RX6 37 "ColourForestsModel" "ranks" "[I") (List.mem_of_getElem? (i := 3) rfl)) (fun _ h9 => h9) rfl dX6_witness_51 ?_
            refine lv_sipush (v := nI 16384) hx hb dX6_witness_54 (by decide) ?_
            refine lv_iload_n hx hb dX6_witness_57 rfl (lv_at hl 2 rfl) ?_
            refine lv_iload hx hb dX6_witness_58 (lv_at hl 5 rfl) ?_
            refine lv_ixor hx hb dX6_witness_60 ?_
            refine lv_as (y := (nI (ms_sd (2 ^ gE g - 1) sm))) (by rw [ni_xor, xor_full (by omega)]) ?_
            refine lv_iadd hx hb dX6_witness_61 ?_
            refine lv_as (y := (nI (16384 + (ms_sd (2 ^ gE g - 1) sm)))) (nI_add _ _) ?_
            refine rd_i (k := (16384 + (ms_sd (2 ^ gE g - 1) sm))) (v := (nI (rB g (ms_sd (2 ^ gE g - 1) sm)))) hx hb hK hP 7 rfl (by omega) (by decide) (lrR_at1 hR hx9) dX6_witness_62 ?_
            refine lv_iadd hx hb dX6_witness_63 ?_
            refine lv_as (y := (nI (rA g sm + rB g (ms_sd (2 ^ gE g - 1) sm)))) (nI_add _ _) ?_
            refine lv_aload_n hx hb dX6_witness_64 rfl (lv_at hl 0 rfl) ?_
            refine va_get (D := D) (ci := 5) (v := .int (nI (mo g (2 ^ gE g)))) (C := RX6) (T := TX6) (N := 16) hx hb hts inX6 hown hK.1 hP 0 rfl rfl 13 (by decide) (hts (.fieldLink RX6 70 "ColourForestsModel" "most" "I") (List.mem_of_getElem? (i := 4) rfl)) (fun _ h9 => h9) rfl dX6_witness_65 ?_
            refine n_ne (a := (rA g sm + rB g (ms_sd (2 ^ gE g - 1) sm))) (b := (mo g (2 ^ gE g))) (tgt := 83) hx hb dX6_witness_68 (by decide) (by omega) (by omega) (fun c68 => ?_) (fun c68 => ?_)
            · refine lv_iinc (v := (nI (sm + 1))) (lv' := [(5, .int (nI (sm + 1))), (0, .ref (ad 20)), (1, .int (nI k9)), (2, .int (nI (2 ^ gE g - 1))), (3, .int (nI (wAnd (wP g) (gE g) sm))), (4, .int (nI (wOr (wP g) sm)))]) hx hb dX6_witness_83 hl (k := 5) rfl (ni_inc _) (by decide) rfl (fun ls hl => ?_)
              refine lv_goto (tgt := 37) hx hb dX6_witness_86 (by decide) ?_
              exact ih37 (sm + 1) ⟨by omega, by omega⟩  _ _ hP hD hS _ (by first | (rw [wAnd_y (show wP g sm = true from decide_eq_true c68), wOr_y (show wP g sm = true from decide_eq_true c68)]; exact lv_sub hl [1, 2, 3, 4, 5, 0] rfl) | (rw [wAnd_n (show wP g sm = false from decide_eq_false c68), wOr_n (show wP g sm = false from decide_eq_false c68)]; exact lv_sub hl [1, 2, 3, 4, 5, 0] rfl))
            · refine lv_iload_n hx hb dX6_witness_71 rfl (lv_at hl 3 rfl) ?_
              refine lv_iload hx hb dX6_witness_72 (lv_at hl 5 rfl) ?_
              refine lv_iand hx hb dX6_witness_74 ?_
              refine lv_as (y := (nI ((wAnd (wP g) (gE g) sm) &&& sm))) (ni_and _ _) ?_
              refine lv_istore_n (lv' := [(3, .int (nI ((wAnd (wP g) (gE g) sm) &&& sm))), (0, .ref (ad 20)), (1, .int (nI k9)), (2, .int (nI (2 ^ gE g - 1))), (4, .int (nI (wOr (wP g) sm))), (5, .int (nI sm))]) hx hb dX6_witness_75 rfl hl (by decide) rfl (fun ls hl => ?_)
              refine lv_iload hx hb dX6_witness_76 (lv_at hl 4 rfl) ?_
              refine lv_iload hx hb dX6_witness_78 (lv_at hl 5 rfl) ?_
              refine lv_ior hx hb dX6_witness_80 ?_
              refine lv_as (y := (nI ((wOr (wP g) sm) ||| sm))) (ni_or _ _) ?_
              refine lv_istore (lv' := [(4, .int (nI ((wOr (wP g) sm) ||| sm))), (3, .int (nI ((wAnd (wP g) (gE g) sm) &&& sm))), (0, .ref (ad 20)), (1, .int (nI k9)), (2, .int (nI (2 ^ gE g - 1))), (5, .int (nI sm))]) hx hb dX6_witness_81 hl (by decide) rfl (fun ls hl => ?_)
              refine lv_iinc (v := (nI (sm + 1))) (lv' := [(5, .int (nI (sm + 1))), (4, .int (nI ((wOr (wP g) sm) ||| sm))), (3, .int (nI ((wAnd (wP g) (gE g) sm) &&& sm))), (0, .ref (ad 20)), (1, .int (nI k9)), (2, .int (nI (2 ^ gE g - 1)))]) hx hb dX6_witness_83 hl (k := 5) rfl (ni_inc _) (by decide) rfl (fun ls hl => ?_)
              refine lv_goto (tgt := 37) hx hb dX6_witness_86 (by decide) ?_
              exact ih37 (sm + 1) ⟨by omega, by omega⟩  _ _ hP hD hS _ (by first | (rw [wAnd_y (show wP g sm = true from decide_eq_true c68), wOr_y (show wP g sm = true from decide_eq_true c68)]; exact lv_sub hl [3, 4, 5, 2, 1, 0] rfl) | (rw [wAnd_n (show wP g sm = false from decide_eq_false c68), wOr_n (show wP g sm = false from decide_eq_false c68)]; exact lv_sub hl [3, 4, 5, 2, 1, 0] rfl))
      exact L37 (2 ^ gE g + 1) 0 ⟨Nat.zero_le _, by omega⟩  _ _ hP hD hS _ (lv_sub hl [4, 5, 3, 2, 1, 0] rfl)
    · exact absurd c11 (by omega)

set_option maxHeartbeats 4000000 in
set_option maxRecDepth 100000 in
theorem c_X6_check (l : Launch) (D : va_G) (cy : Nat → ClassId) (ad : Nat → Nat) (g : GT) (th kn ms : Int32) : WI l yX6_check wsX6_check ({ frames := 0, cells := 0, slots := 0, locals := 0 }) D cy [.ref (ad 20)] [(ad 20, .inr (5, [.int th, .int (nI (gV g)), .int (nI (gC g)), .int (nI (gE g)), .ref (ad 21), .ref (ad 22), .ref (ad 23), .ref (ad 24), .ref (ad 25), .int kn, .ref (ad 26), .ref (ad 27), .ref (ad 28), .int ms, .ref (ad 29), .ref (ad 30)]))] (fun (r : Int32) (_ : Unit) => r = nI 1) (fun _ : Unit => [(ad 20, .inr (5, [.int (nI 0), .int (nI (gV g)), .int (nI (gC g)), .int (nI (gE g)), .ref (ad 21), .ref (ad 22), .ref (ad 23), .ref (ad 24), .ref (ad 25), .int kn, .ref (ad 26), .ref (ad 27), .ref (ad 28), .int ms, .ref (ad 29), .ref (ad 30)]))]) := by
  refine Met.ofW (cc := cX6_check) (maxL := 1) (ret := (some .int)) (by decide) rfl ?_
  intro p ev s m args below meth c s₁ B hml hv
  obtain ⟨rfl, ⟨hK, hP⟩, hD0⟩ := hv
  have hx := B.exec
  have hb := B.bytes
  have hr := B.returns
  have hts := atoms_spec (ws := wsX6_check) B.pre
  have hown : s.vm.findClass RX6 = some m.cls := findClass_of_methodNamed B.named
  have hlocks := B.notSynchronized
  have hD : va_D (inW [(ad 20, .inr (5, [.int th, .int (nI (gV g)), .int (nI (gC g)), .int (nI (gE g)), .ref (ad 21), .ref (ad 22), .ref (ad 23), .ref (ad 24), .ref (ad 25), .int kn, .ref (ad 26), .ref (ad 27), .ref (ad 28), .int ms, .ref (ad 29), .ref (ad 30)]))]) ([(ad 20, .inr (5, [.int th, .int (nI (gV g)), .int (nI (gC g)), .int (nI (gE g)), .ref (ad 21), .ref (ad 22), .ref (ad 23), .ref (ad 24), .ref (ad 25), .int kn, .ref (ad 26), .ref (ad 27), .ref (ad 28), .int ms, .ref (ad 29), .ref (ad 30)]))]) := inW_self hD0
  have hS : va_S (inW [(ad 20, .inr (5, [.int th, .int (nI (gV g)), .int (nI (gC g)), .int (nI (gE g)), .ref (ad 21), .ref (ad 22), .ref (ad 23), .ref (ad 24), .ref (ad 25), .int kn, .ref (ad 26), .ref (ad 27), .ref (ad 28), .int ms, .ref (ad 29), .ref (ad 30)]))]) s.heap s.heap [] := va_S.rf
  have hP : va_P D vwCl [(ad 20, .inr (5, [.int th, .int (nI (gV g)), .int (nI (gC g)), .int (nI (gE g)), .ref (ad 21), .ref (ad 22), .ref (ad 23), .ref (ad 24), .ref (ad 25), .int kn, .ref (ad 26), .ref (ad 27), .ref (ad 28), .int ms, .ref (ad 29), .ref (ad 30)]))] s.heap := hP
  have inX6 : ∀ w ∈ wsX60, w ∈ wsX6_check := by decide +kernel
  have hl := lv_entry ([.ref (ad 20)]) (n := 1) (Nat.le_of_ble_eq_true rfl)
  rw [lg_entry_eq]
  generalize (lg_sl ([.ref (ad 20)]) ++ List.replicate (1 - (lg_sl ([.ref (ad 20)])).length) Slot.unset).toArray = ls at hl ⊢
  have hl : lv_has ls 1 [(0, .ref (ad 20))] := hl
  have hgen := True.intro
  refine lv_aload_n hx hb dX6_check_0 rfl (lv_at hl 0 rfl) ?_
  refine lv_iconst (v := nI 0) hx hb dX6_check_1 (by decide) ?_
  refine va_put (D := D) (ci := 5) (v := .int (nI 0)) (ty := .int) (C := RX6) (T := TX6) (N := 16) hx hb hts inX6 tyX6 tyX6_ok nmX6 hown hK.1 hP hD hS 0 rfl rfl 0 (by decide) (hts (.fieldLink RX6 49 "ColourForestsModel" "thrown" "I") (List.mem_of_getElem? (i := 1) rfl)) (fun _ h9 => h9) rfl (by decide +kernel) rfl rfl (Nat.le_of_ble_eq_true rfl) dX6_check_2 (fun H locs hP hD hS => ?_)
  have hP : va_P D vwCl [(ad 20, .inr (5, [.int (nI 0), .int (nI (gV g)), .int (nI (gC g)), .int (nI (gE g)), .ref (ad 21), .ref (ad 22), .ref (ad 23), .ref (ad 24), .ref (ad 25), .int kn, .ref (ad 26), .ref (ad 27), .ref (ad 28), .int ms, .ref (ad 29), .ref (ad 30)]))] H := hP
  have hD : va_D (inW [(ad 20, .inr (5, [.int th, .int (nI (gV g)), .int (nI (gC g)), .int (nI (gE g)), .ref (ad 21), .ref (ad 22), .ref (ad 23), .ref (ad 24), .ref (ad 25), .int kn, .ref (ad 26), .ref (ad 27), .ref (ad 28), .int ms, .ref (ad 29), .ref (ad 30)]))]) [(ad 20, .inr (5, [.int (nI 0), .int (nI (gV g)), .int (nI (gC g)), .int (nI (gE g)), .ref (ad 21), .ref (ad 22), .ref (ad 23), .ref (ad 24), .ref (ad 25), .int kn, .ref (ad 26), .ref (ad 27), .ref (ad 28), .int ms, .ref (ad 29), .ref (ad 30)]))] := hD
  refine lv_iconst (v := nI 1) hx hb dX6_check_5 (by decide) ?_
  exact wi_ret () hx hb hr hlocks hS hP rfl dX6_check_6

set_option maxHeartbeats 4000000 in
set_option maxRecDepth 100000 in
theorem c_X6_count_3 (l : Launch) (D : va_G) (cy : Nat → ClassId) (ad : Nat → Nat) {g : GT} (hg : gOK g) (th : Int32) {kb : Bool} {ms : Int32} {ff fr_ fb fp fc : Nat → Int32} (hv9 : kb = true → lrF g (2 ^ gE g) ff ∧ lrR g (2 ^ gE g) fr_ ∧ lrB g (2 ^ gE g) fb ∧ ms = nI (mo g (2 ^ gE g))) : WI l yX6_count wsX6_count ({ frames := 3, cells := 0, slots := 0, locals := 71 }) D cy [.ref (ad 20), .int (nI 3)] (wM cy ad g th (bI kb) ms ff fr_ fb fp fc) (fun (r : Int32) (u : (Nat → Int32) × (Nat → Int32) × (Nat → Int32) × (Nat → Int32) × (Nat → Int32)) => r = nI (nP (cfP g (rA g (2 ^ gE g - 1))) (2 ^ gE g)) ∧ lrF g (2 ^ gE g) u.1 ∧ lrR g (2 ^ gE g) u.2.1 ∧ lrB g (2 ^ gE g) u.2.2.1) (fun u : (Nat → Int32) × (Nat → Int32) × (Nat → Int32) × (Nat → Int32) × (Nat → Int32) => wM cy ad g (nI 0) (bI true) (nI (mo g (2 ^ gE g))) u.1 u.2.1 u.2.2.1 u.2.2.2.1 u.2.2.2.2) := by
  refine Met.ofW (cc := cX6_count) (maxL := 6) (ret := (some .int)) (by decide) rfl ?_
  intro p ev s m args below meth c s₁ B hml hv
  obtain ⟨rfl, ⟨hK, hP⟩, hD0⟩ := hv
  have hx := B.exec
  have hb := B.bytes
  have hr := B.returns
  have hts := atoms_spec (ws := wsX6_count) B.pre
  have hown : s.vm.findClass RX6 = some m.cls := findClass_of_methodNamed B.named
  have hlocks := B.notSynchronized
  have hD : va_D (inW (wM cy ad g th (bI kb) ms ff fr_ fb fp fc)) (wM cy ad g th (bI kb) ms ff fr_ fb fp fc) := inW_self hD0
  have hS : va_S (inW (wM cy ad g th (bI kb) ms ff fr_ fb fp fc)) s.heap s.heap [] := va_S.rf
  have hP : va_P D vwCl (wM cy ad g th (bI kb) ms ff fr_ fb fp fc) s.heap := hP
  have inX6 : ∀ w ∈ wsX60, w ∈ wsX6_count := by decide +kernel
  have hl := lv_entry ([.ref (ad 20), .int (nI 3)]) (n := 6) (Nat.le_of_ble_eq_true rfl)
  rw [lg_entry_eq]
  generalize (lg_sl ([.ref (ad 20), .int (nI 3)]) ++ List.replicate (6 - (lg_sl ([.ref (ad 20), .int (nI 3)])).length) Slot.unset).toArray = ls at hl ⊢
  have hl : lv_has ls 6 [(0, .ref (ad 20)), (1, .int (nI 3))] := hl
  have hgen := True.intro
  have hE := hg.2.2.1
  have hV := hg.1
  have hC := hg.2.1
  have hS8 : 2 ^ gE g ≤ 2 ^ 14 := Nat.pow_le_pow_right (by decide) hE
  have hf1 := rA_le g (2 ^ gE g - 1)
  have hf2 := ms_full_lt (gE g)
  refine lv_aload_n hx hb dX6_count_0 rfl (lv_at hl 0 rfl) ?_
  refine lv_iconst (v := nI 0) hx hb dX6_count_1 (by decide) ?_
  refine va_put (D := D) (ci := 5) (v := .int (nI 0)) (ty := .int) (C := RX6) (T := TX6) (N := 16) hx hb hts inX6 tyX6 tyX6_ok nmX6 hown hK.1 hP hD hS 0 rfl rfl 0 (by decide) (hts (.fieldLink RX6 49 "ColourForestsModel" "thrown" "I") (List.mem_of_getElem? (i := 1) rfl)) (fun _ h9 => h9) rfl (by decide +kernel) rfl rfl (Nat.le_of_ble_eq_true rfl) dX6_count_2 (fun H locs hP hD hS => ?_)
  have hP : va_P D vwCl [(ad 20, .inr (5, [.int (nI 0), .int (nI (gV g)), .int (nI (gC g)), .int (nI (gE g)), .ref (ad 21), .ref (ad 22), .ref (ad 23), .ref (ad 24), .ref (ad 25), .int (bI kb), .ref (ad 26), .ref (ad 27), .ref (ad 28), .int ms, .ref (ad 29), .ref (ad 30)])), (ad 21, .inl (cy 0, 6, .inl (fun i => nI (gL g i)))), (ad 22, .inl (cy 0, 14, .inl (fun i => nI (gF g i)))), (ad 23, .inl (cy 0, 14, .inl (fun i => nI (gS g i)))), (ad 24, .inl (cy 0, 14, .inl (fun i => nI (gH g i)))), (ad 25, .inl (cy 0, 14, .inl (fun i => zI (gW g i)))), (ad 26, .inl (cy 1, 32768, .inl ff)), (ad 27, .inl (cy 0, 32768, .inl fr_)), (ad 28, .inl (cy 0, 15, .inl fb)), (ad 29, .inl (cy 0, 8, .inl fp)), (ad 30, .inl (cy 0, 6, .inl fc))] H := hP
  have hD : va_D (inW (wM cy ad g th (bI kb) ms ff fr_ fb fp fc)) [(ad 20, .inr (5, [.int (nI 0), .int (nI (gV g)), .int (nI (gC g)), .int (nI (gE g)), .ref (ad 21), .ref (ad 22), .ref (ad 23), .ref (ad 24), .ref (ad 25), .int (bI kb), .ref (ad 26), .ref (ad 27), .ref (ad 28), .int ms, .ref (ad 29), .ref (ad 30)])), (ad 21, .inl (cy 0, 6, .inl (fun i => nI (gL g i)))), (ad 22, .inl (cy 0, 14, .inl (fun i => nI (gF g i)))), (ad 23, .inl (cy 0, 14, .inl (fun i => nI (gS g i)))), (ad 24, .inl (cy 0, 14, .inl (fun i => nI (gH g i)))), (ad 25, .inl (cy 0, 14, .inl (fun i => zI (gW g i)))), (ad 26, .inl (cy 1, 32768, .inl ff)), (ad 27, .inl (cy 0, 32768, .inl fr_)), (ad 28, .inl (cy 0, 15, .inl fb)), (ad 29, .inl (cy 0, 8, .inl fp)), (ad 30, .inl (cy 0, 6, .inl fc))] := hD
  refine lv_aload_n hx hb dX6_count_5 rfl (lv_at hl 0 rfl) ?_
  refine wr_callv [0, 1, 2, 3, 4, 5, 6, 7, 8, 9, 10] (va_runV (As := []) (rest := []) ⟨hx, hb, hml, hown, hts⟩ (c_X6_learn l D cy ad hg ((nI 0)) (kb := kb) (ms := ms) (ff := ff) (fr_ := fr_) (fb := fb) (fp := fp) (fc := fc) hv9) (cwV 0 hts gX6_count_X6_learn rfl rfl rfl (by decide +kernel) ⟨Nat.le_of_ble_eq_true rfl, Nat.le_of_ble_eq_true rfl⟩) (WR_preV (ci := 5) (q0 := 0) hK hP hD rfl rfl [0, 1, 2, 3, 4, 5, 6, 7, 8, 9, 10] (by decide) rfl rfl) rfl rfl hl.1 rfl (lv_room (Nat.le_of_ble_eq_true rfl)) dX6_count_6 ⟨(Nat.zero_le _), (Nat.zero_le _)⟩) hS hP hD rfl (fun _ => rfl) (fun _ => rfl) (fun u6 H locs w6 hP hD hS => ?_)
  obtain ⟨hF, hR, hB⟩ := w6
  have hP : va_P D vwCl [(ad 20, .inr (5, [.int (nI 0), .int (nI (gV g)), .int (nI (gC g)), .int (nI (gE g)), .ref (ad 21), .ref (ad 22), .ref (ad 23), .ref (ad 24), .ref (ad 25), .int (bI true), .ref (ad 26), .ref (ad 27), .ref (ad 28), .int (nI (mo g (2 ^ gE g))), .ref (ad 29), .ref (ad 30)])), (ad 21, .inl (cy 0, 6, .inl (fun i => nI (gL g i)))), (ad 22, .inl (cy 0, 14, .inl (fun i => nI (gF g i)))), (ad 23, .inl (cy 0, 14, .inl (fun i => nI (gS g i)))), (ad 24, .inl (cy 0, 14, .inl (fun i => nI (gH g i)))), (ad 25, .inl (cy 0, 14, .inl (fun i => zI (gW g i)))), (ad 26, .inl (cy 1, 32768, .inl u6.1)), (ad 27, .inl (cy 0, 32768, .inl u6.2.1)), (ad 28, .inl (cy 0, 15, .inl u6.2.2.1)), (ad 29, .inl (cy 0, 8, .inl u6.2.2.2.1)), (ad 30, .inl (cy 0, 6, .inl u6.2.2.2.2))] H := hP
  have hD : va_D (inW (wM cy ad g th (bI kb) ms ff fr_ fb fp fc)) [(ad 20, .inr (5, [.int (nI 0), .int (nI (gV g)), .int (nI (gC g)), .int (nI (gE g)), .ref (ad 21), .ref (ad 22), .ref (ad 23), .ref (ad 24), .ref (ad 25), .int (bI true), .ref (ad 26), .ref (ad 27), .ref (ad 28), .int (nI (mo g (2 ^ gE g))), .ref (ad 29), .ref (ad 30)])), (ad 21, .inl (cy 0, 6, .inl (fun i => nI (gL g i)))), (ad 22, .inl (cy 0, 14, .inl (fun i => nI (gF g i)))), (ad 23, .inl (cy 0, 14, .inl (fun i => nI (gS g i)))), (ad 24, .inl (cy 0, 14, .inl (fun i => nI (gH g i)))), (ad 25, .inl (cy 0, 14, .inl (fun i => zI (gW g i)))), (ad 26, .inl (cy 1, 32768, .inl u6.1)), (ad 27, .inl (cy 0, 32768, .inl u6.2.1)), (ad 28, .inl (cy 0, 15, .inl u6.2.2.1)), (ad 29, .inl (cy 0, 8, .inl u6.2.2.2.1)), (ad 30, .inl (cy 0, 6, .inl u6.2.2.2.2))] := hD
  refine lv_iconst (v := nI 0) hx hb dX6_count_9 (by decide) ?_
  refine lv_istore_n (lv' := [(2, .int (nI 0)), (0, .ref (ad 20)), (1, .int (nI 3))]) hx hb dX6_count_10 rfl hl (by decide) rfl (fun ls hl => ?_)
  refine lv_aload_n hx hb dX6_count_11 rfl (lv_at hl 1 rfl) ?_
  refine va_get (D := D) (ci := 5) (v := .ref (ad 27)) (C := RX6) (T := TX6) (N := 16) hx hb hts inX6 hown hK.1 hP 0 rfl rfl 11 (by decide) (hts (.fieldLink RX6 37 "ColourForestsModel" "ranks" "[I") (List.mem_of_getElem? (i := 2) rfl)) (fun _ h9 => h9) rfl dX6_count_12 ?_
  refine lv_iconst (v := nI 1) hx hb dX6_count_15 (by decide) ?_
  refine lv_aload_n hx hb dX6_count_16 rfl (lv_at hl 1 rfl) ?_
  refine va_get (D := D) (ci := 5) (v := .int (nI (gE g))) (C := RX6) (T := TX6) (N := 16) hx hb hts inX6 hown hK.1 hP 0 rfl rfl 3 (by decide) (hts (.fieldLink RX6 56 "ColourForestsModel" "edges" "I") (List.mem_of_getElem? (i := 3) rfl)) (fun _ h9 => h9) rfl dX6_count_17 ?_
  refine lv_ishl hx hb dX6_count_20 ?_
  refine lv_as (y := (nI (2 ^ (gE g)))) (ni_bit (by omega)) ?_
  refine lv_iconst (v := nI 1) hx hb dX6_count_21 (by decide) ?_
  refine lv_isub hx hb dX6_count_22 ?_
  refine lv_as (y := (nI ((2 ^ (gE g)) - 1))) (ni_sub (by omega)) ?_
  refine rd_i (k := ((2 ^ (gE g)) - 1)) (v := (nI (rA g (2 ^ gE g - 1)))) hx hb hK hP 7 rfl (by omega) (by decide) (lrR_at0 hR hf2) dX6_count_23 ?_
  refine lv_istore_n (lv' := [(3, .int (nI (rA g (2 ^ gE g - 1)))), (2, .int (nI 0)), (0, .ref (ad 20)), (1, .int (nI 3))]) hx hb dX6_count_24 rfl hl (by decide) rfl (fun ls hl => ?_)
  refine lv_iconst (v := nI 0) hx hb dX6_count_25 (by decide) ?_
  refine lv_istore (lv' := [(4, .int (nI 0)), (3, .int (nI (rA g (2 ^ gE g - 1)))), (2, .int (nI 0)), (0, .ref (ad 20)), (1, .int (nI 3))]) hx hb dX6_count_26 hl (by decide) rfl (fun ls hl => ?_)
  have L28 : ∀ (n : Nat) (sm : Nat), sm ≤ 2 ^ gE g ∧ 2 ^ gE g + 1 ≤ sm + n → ∀ (H : Heap) (locs : List Loc), va_P D vwCl [(ad 20, .inr (5, [.int (nI 0), .int (nI (gV g)), .int (nI (gC g)), .int (nI (gE g)), .ref (ad 21), .ref (ad 22), .ref (ad 23), .ref (ad 24), .ref (ad 25), .int (bI true), .ref (ad 26), .ref (ad 27), .ref (ad 28), .int (nI (mo g (2 ^ gE g))), .ref (ad 29), .ref (ad 30)])), (ad 21, .inl (cy 0, 6, .inl (fun i => nI (gL g i)))), (ad 22, .inl (cy 0, 14, .inl (fun i => nI (gF g i)))), (ad 23, .inl (cy 0, 14, .inl (fun i => nI (gS g i)))), (ad 24, .inl (cy 0, 14, .inl (fun i => nI (gH g i)))), (ad 25, .inl (cy 0, 14, .inl (fun i => zI (gW g i)))), (ad 26, .inl (cy 1, 32768, .inl u6.1)), (ad 27, .inl (cy 0, 32768, .inl u6.2.1)), (ad 28, .inl (cy 0, 15, .inl u6.2.2.1)), (ad 29, .inl (cy 0, 8, .inl u6.2.2.2.1)), (ad 30, .inl (cy 0, 6, .inl u6.2.2.2.2))] H → va_D (inW (wM cy ad g th (bI kb) ms ff fr_ fb fp fc)) [(ad 20, .inr (5, [.int (nI 0), .int (nI (gV g)), .int (nI (gC g)), .int (nI (gE g)), .ref (ad 21), .ref (ad 22), .ref (ad 23), .ref (ad 24), .ref (ad 25), .int (bI true), .ref (ad 26), .ref (ad 27), .ref (ad 28), .int (nI (mo g (2 ^ gE g))), .ref (ad 29), .ref (ad 30)])), (ad 21, .inl (cy 0, 6, .inl (fun i => nI (gL g i)))), (ad 22, .inl (cy 0, 14, .inl (fun i => nI (gF g i)))), (ad 23, .inl (cy 0, 14, .inl (fun i => nI (gS g i)))), (ad 24, .inl (cy 0, 14, .inl (fun i => nI (gH g i)))), (ad 25, .inl (cy 0, 14, .inl (fun i => zI (gW g i)))), (ad 26, .inl (cy 1, 32768, .inl u6.1)), (ad 27, .inl (cy 0, 32768, .inl u6.2.1)), (ad 28, .inl (cy 0, 15, .inl u6.2.2.1)), (ad 29, .inl (cy 0, 8, .inl u6.2.2.2.1)), (ad 30, .inl (cy 0, 6, .inl u6.2.2.2.2))] → va_S (inW (wM cy ad g th (bI kb) ms ff fr_ fb fp fc)) s.heap H locs → ∀ (ls : Array Slot), lv_has ls 6 [(0, .ref (ad 20)), (1, .int (nI 3)), (2, .int (nI (nP (cfP g (rA g (2 ^ gE g - 1))) sm))), (3, .int (nI (rA g (2 ^ gE g - 1)))), (4, .int (nI sm))] → W p l ev (headSpec wsX6_count ({ frames := 3, cells := 0, slots := 0, locals := 71 })).room s m [.ref (ad 20), .int (nI 3)].toArray below meth c H locs 0 0 (MQ below (va_Qi (fun (r : Int32) (u : (Nat → Int32) × (Nat → Int32) × (Nat → Int32) × (Nat → Int32) × (Nat → Int32)) => r = nI (nP (cfP g (rA g (2 ^ gE g - 1))) (2 ^ gE g)) ∧ lrF g (2 ^ gE g) u.1 ∧ lrR g (2 ^ gE g) u.2.1 ∧ lrB g (2 ^ gE g) u.2.2.1) (fun u t => va_P D vwCl ((fun u : (Nat → Int32) × (Nat → Int32) × (Nat → Int32) × (Nat → Int32) × (Nat → Int32) => wM cy ad g (nI 0) (bI true) (nI (mo g (2 ^ gE g))) u.1 u.2.1 u.2.2.1 u.2.2.2.1 u.2.2.2.2) u) t.heap) (inW (wM cy ad g th (bI kb) ms ff fr_ fb fp fc))) [.ref (ad 20), .int (nI 3)].toArray s 0 0 (inW (wM cy ad g th (bI kb) ms ff fr_ fb fp fc))) (F0 m 28 ls []) := by
    intro n
    induction n with
    | zero =>
      intro sm hfuel  H locs hP hD hS ls hl
      exact absurd hfuel.2 (by have := hfuel.1; omega)
    | succ n ih28 =>
      intro sm hfuel  H locs hP hD hS ls hl
      obtain ⟨hfu1, hfu2⟩ := hfuel
      have hnp := nP_le (cfP g (rA g (2 ^ gE g - 1))) sm
      have hcd := ms_card_le 14 sm
      refine lv_iload hx hb dX6_count_28 (lv_at hl 4 rfl) ?_
      refine lv_iconst (v := nI 1) hx hb dX6_count_30 (by decide) ?_
      refine lv_aload_n hx hb dX6_count_31 rfl (lv_at hl 0 rfl) ?_
      refine va_get (D := D) (ci := 5) (v := .int (nI (gE g))) (C := RX6) (T := TX6) (N := 16) hx hb hts inX6 hown hK.1 hP 0 rfl rfl 3 (by decide) (hts (.fieldLink RX6 56 "ColourForestsModel" "edges" "I") (List.mem_of_getElem? (i := 3) rfl)) (fun _ h9 => h9) rfl dX6_count_32 ?_
      refine lv_ishl hx hb dX6_count_35 ?_
      refine lv_as (y := (nI (2 ^ (gE g)))) (ni_bit (by omega)) ?_
      refine n_ge (a := sm) (b := (2 ^ (gE g))) (tgt := 121) hx hb dX6_count_36 (by decide) (by omega) (by omega) (fun c36 => ?_) (fun c36 => ?_)
      · refine lv_iload_n hx hb dX6_count_121 rfl (lv_at hl 1 rfl) ?_
        refine lv_tableIn (off := 49) (tgt := 171) hx hb dX6_count_122 (by decide) (by decide) (by decide) (by decide) ?_
        refine lv_iload_n hx hb dX6_count_171 rfl (lv_at hl 2 rfl) ?_
        exact wi_ret u6 hx hb hr hlocks hS hP ⟨(by rw [show sm = 2 ^ gE g by omega]), hF, hR, hB⟩ dX6_count_172
      · refine lv_iload_n hx hb dX6_count_39 rfl (lv_at hl 1 rfl) ?_
        refine lv_iconst (v := nI 3) hx hb dX6_count_40 (by decide) ?_
        refine n_ne (a := 3) (b := 3) (tgt := 71) hx hb dX6_count_41 (by decide) (by omega) (by omega) (fun c41 => ?_) (fun c41 => ?_)
        · exact absurd rfl c41
        · refine lv_aload_n hx hb dX6_count_44 rfl (lv_at hl 0 rfl) ?_
          refine va_get (D := D) (ci := 5) (v := .ref (ad 26)) (C := RX6) (T := TX6) (N := 16) hx hb hts inX6 hown hK.1 hP 0 rfl rfl 10 (by decide) (hts (.fieldLink RX6 33 "ColourForestsModel" "free" "[Z") (List.mem_of_getElem? (i := 4) rfl)) (fun _ h9 => h9) rfl dX6_count_45 ?_
          refine lv_iload hx hb dX6_count_48 (lv_at hl 4 rfl) ?_
          refine rd_z (k := sm) (v := (bI (fr g sm))) hx hb hK hP 6 rfl (by omega) (by decide) (lrF_at0 hF (by omega)) dX6_count_50 ?_
          refine b_eq (b := (fr g sm)) (tgt := 67) hx hb dX6_count_51 (by decide) (fun c51 => ?_) (fun c51 => ?_)
          · refine lv_iconst (v := nI 0) hx hb dX6_count_67 (by decide) ?_
            refine lv_goto (tgt := 100) hx hb dX6_count_68 (by decide) ?_
            refine lv_istore (lv' := [(5, .int (nI 0)), (0, .ref (ad 20)), (1, .int (nI 3)), (2, .int (nI (nP (cfP g (rA g (2 ^ gE g - 1))) sm))), (3, .int (nI (rA g (2 ^ gE g - 1)))), (4, .int (nI sm))]) hx hb dX6_count_100 hl (by decide) rfl (fun ls hl => ?_)
            refine lv_iload_n hx hb dX6_count_102 rfl (lv_at hl 3 rfl) ?_
            refine lv_iload hx hb dX6_count_103 (lv_at hl 0 rfl) ?_
            refine lv_if_eq (tgt := 112) hx hb dX6_count_105 (by decide) (fun c105 => ?_) (fun c105 => ?_)
            · refine lv_iconst (v := nI 0) hx hb dX6_count_112 (by decide) ?_
              refine lv_iadd hx hb dX6_count_113 ?_
              refine lv_as (y := (nI (nP (cfP g (rA g (2 ^ gE g - 1))) (sm + 1)))) (by rw [nI_add]; congr 1; first | exact (nP_n (cfP_f (Or.inl c51))).symm | exact (nP_n (cfP_f (Or.inr c60))).symm) ?_
              refine lv_istore_n (lv' := [(2, .int (nI (nP (cfP g (rA g (2 ^ gE g - 1))) (sm + 1)))), (5, .int (nI 0)), (0, .ref (ad 20)), (1, .int (nI 3)), (3, .int (nI (rA g (2 ^ gE g - 1)))), (4, .int (nI sm))]) hx hb dX6_count_114 rfl hl (by decide) rfl (fun ls hl => ?_)
              refine lv_iinc (v := (nI (sm + 1))) (lv' := [(4, .int (nI (sm + 1))), (2, .int (nI (nP (cfP g (rA g (2 ^ gE g - 1))) (sm + 1)))), (5, .int (nI 0)), (0, .ref (ad 20)), (1, .int (nI 3)), (3, .int (nI (rA g (2 ^ gE g - 1))))]) hx hb dX6_count_115 hl (k := 5) rfl (ni_inc _) (by decide) rfl (fun ls hl => ?_)
              refine lv_goto (tgt := 28) hx hb dX6_count_118 (by decide) ?_
              exact ih28 (sm + 1) ⟨by omega, by omega⟩  _ _ hP hD hS _ (lv_sub hl [3, 4, 1, 5, 0] rfl)
            · exact absurd (by decide) c105
          · refine lv_iload hx hb dX6_count_54 (lv_at hl 4 rfl) ?_
            refine pu_call (va_runS (As := [.int (nI sm)]) (rest := []) ⟨hx, hb, hml, hown, hts⟩ (c_X6_size l D cy (S := sm) (by omega)) (va_cwS 1 hts gX6_count_X6_size rfl rfl rfl (by decide +kernel) ⟨Nat.le_of_ble_eq_true rfl, Nat.le_of_ble_eq_true rfl⟩) (PU_preS hK hP [] rfl) rfl rfl hl.1 rfl (lv_room (Nat.le_of_ble_eq_true rfl)) dX6_count_56 ⟨(Nat.zero_le _), (Nat.zero_le _)⟩) hS hP (fun H locs hP hS => ?_)
            refine lv_iload_n hx hb dX6_count_59 rfl (lv_at hl 3 rfl) ?_
            refine n_ne (a := (ms_card 14 sm)) (b := (rA g (2 ^ gE g - 1))) (tgt := 67) hx hb dX6_count_60 (by decide) (by omega) (by omega) (fun c60 => ?_) (fun c60 => ?_)
            · refine lv_iconst (v := nI 0) hx hb dX6_count_67 (by decide) ?_
              refine lv_goto (tgt := 100) hx hb dX6_count_68 (by decide) ?_
              refine lv_istore (lv' := [(5, .int (nI 0)), (0, .ref (ad 20)), (1, .int (nI 3)), (2, .int (nI (nP (cfP g (rA g (2 ^ gE g - 1))) sm))), (3, .int (nI (rA g (2 ^ gE g - 1)))), (4, .int (nI sm))]) hx hb dX6_count_100 hl (by decide) rfl (fun ls hl => ?_)
              refine lv_iload_n hx hb dX6_count_102 rfl (lv_at hl 3 rfl) ?_
              refine lv_iload hx hb dX6_count_103 (lv_at hl 0 rfl) ?_
              refine lv_if_eq (tgt := 112) hx hb dX6_count_105 (by decide) (fun c105 => ?_) (fun c105 => ?_)
              · refine lv_iconst (v := nI 0) hx hb dX6_count_112 (by decide) ?_
                refine lv_iadd hx hb dX6_count_113 ?_
                refine lv_as (y := (nI (nP (cfP g (rA g (2 ^ gE g - 1))) (sm + 1)))) (by rw [nI_add]; congr 1; first | exact (nP_n (cfP_f (Or.inl c51))).symm | exact (nP_n (cfP_f (Or.inr c60))).symm) ?_
                refine lv_istore_n (lv' := [(2, .int (nI (nP (cfP g (rA g (2 ^ gE g - 1))) (sm + 1)))), (5, .int (nI 0)), (0, .ref (ad 20)), (1, .int (nI 3)), (3, .int (nI (rA g (2 ^ gE g - 1)))), (4, .int (nI sm))]) hx hb dX6_count_114 rfl hl (by decide) rfl (fun ls hl => ?_)
                refine lv_iinc (v := (nI (sm + 1))) (lv' := [(4, .int (nI (sm + 1))), (2, .int (nI (nP (cfP g (rA g (2 ^ gE g - 1))) (sm + 1)))), (5, .int (nI 0)), (0, .ref (ad 20)), (1, .int (nI 3)), (3, .int (nI (rA g (2 ^ gE g - 1))))]) hx hb dX6_count_115 hl (k := 5) rfl (ni_inc _) (by decide) rfl (fun ls hl => ?_)
                refine lv_goto (tgt := 28) hx hb dX6_count_118 (by decide) ?_
                exact ih28 (sm + 1) ⟨by omega, by omega⟩  _ _ hP hD hS _ (lv_sub hl [3, 4, 1, 5, 0] rfl)
              · exact absurd (by decide) c105
            · refine lv_iconst (v := nI 1) hx hb dX6_count_63 (by decide) ?_
              refine lv_goto (tgt := 100) hx hb dX6_count_64 (by decide) ?_
              refine lv_istore (lv' := [(5, .int (nI 1)), (0, .ref (ad 20)), (1, .int (nI 3)), (2, .int (nI (nP (cfP g (rA g (2 ^ gE g - 1))) sm))), (3, .int (nI (rA g (2 ^ gE g - 1)))), (4, .int (nI sm))]) hx hb dX6_count_100 hl (by decide) rfl (fun ls hl => ?_)
              refine lv_iload_n hx hb dX6_count_102 rfl (lv_at hl 3 rfl) ?_
              refine lv_iload hx hb dX6_count_103 (lv_at hl 0 rfl) ?_
              refine lv_if_eq (tgt := 112) hx hb dX6_count_105 (by decide) (fun c105 => ?_) (fun c105 => ?_)
              · exact absurd c105 (by decide)
              · refine lv_iconst (v := nI 1) hx hb dX6_count_108 (by decide) ?_
                refine lv_goto (tgt := 113) hx hb dX6_count_109 (by decide) ?_
                refine lv_iadd hx hb dX6_count_113 ?_
                refine lv_as (y := (nI (nP (cfP g (rA g (2 ^ gE g - 1))) (sm + 1)))) (by rw [nI_add]; congr 1; exact (nP_y (cfP_t c51 c60)).symm) ?_
                refine lv_istore_n (lv' := [(2, .int (nI (nP (cfP g (rA g (2 ^ gE g - 1))) (sm + 1)))), (5, .int (nI 1)), (0, .ref (ad 20)), (1, .int (nI 3)), (3, .int (nI (rA g (2 ^ gE g - 1)))), (4, .int (nI sm))]) hx hb dX6_count_114 rfl hl (by decide) rfl (fun ls hl => ?_)
                refine lv_iinc (v := (nI (sm + 1))) (lv' := [(4, .int (nI (sm + 1))), (2, .int (nI (nP (cfP g (rA g (2 ^ gE g - 1))) (sm + 1)))), (5, .int (nI 1)), (0, .ref (ad 20)), (1, .int (nI 3)), (3, .int (nI (rA g (2 ^ gE g - 1))))]) hx hb dX6_count_115 hl (k := 5) rfl (ni_inc _) (by decide) rfl (fun ls hl => ?_)
                refine lv_goto (tgt := 28) hx hb dX6_count_118 (by decide) ?_
                exact ih28 (sm + 1) ⟨by omega, by omega⟩  _ _ hP hD hS _ (lv_sub hl [3, 4, 1, 5, 0] rfl)
  exact L28 (2 ^ gE g + 1) 0 ⟨Nat.zero_le _, by omega⟩  _ _ hP hD hS _ (lv_sub hl [3, 4, 2, 1, 0] rfl)

set_option maxHeartbeats 4000000 in
set_option maxRecDepth 100000 in
theorem c_X6_count_o (l : Launch) (D : va_G) (cy : Nat → ClassId) (ad : Nat → Nat) {g : GT} (hg : gOK g) (th : Int32) {kb : Bool} {ms : Int32} {ff fr_ fb fp fc : Nat → Int32} (hv9 : kb = true → lrF g (2 ^ gE g) ff ∧ lrR g (2 ^ gE g) fr_ ∧ lrB g (2 ^ gE g) fb ∧ ms = nI (mo g (2 ^ gE g))) {x : Int32} (hx3 : ¬ x = nI 3) : WI l yX6_count wsX6_count ({ frames := 3, cells := 0, slots := 0, locals := 71 }) D cy [.ref (ad 20), .int x] (wM cy ad g th (bI kb) ms ff fr_ fb fp fc) (fun (r : Int32) (u : (Nat → Int32) × (Nat → Int32) × (Nat → Int32) × (Nat → Int32) × (Nat → Int32)) => r = coR g x ∧ lrF g (2 ^ gE g) u.1 ∧ lrR g (2 ^ gE g) u.2.1 ∧ lrB g (2 ^ gE g) u.2.2.1) (fun u : (Nat → Int32) × (Nat → Int32) × (Nat → Int32) × (Nat → Int32) × (Nat → Int32) => wM cy ad g (nI 0) (bI true) (nI (mo g (2 ^ gE g))) u.1 u.2.1 u.2.2.1 u.2.2.2.1 u.2.2.2.2) := by
  refine Met.ofW (cc := cX6_count) (maxL := 6) (ret := (some .int)) (by decide) rfl ?_
  intro p ev s m args below meth c s₁ B hml hv
  obtain ⟨rfl, ⟨hK, hP⟩, hD0⟩ := hv
  have hx := B.exec
  have hb := B.bytes
  have hr := B.returns
  have hts := atoms_spec (ws := wsX6_count) B.pre
  have hown : s.vm.findClass RX6 = some m.cls := findClass_of_methodNamed B.named
  have hlocks := B.notSynchronized
  have hD : va_D (inW (wM cy ad g th (bI kb) ms ff fr_ fb fp fc)) (wM cy ad g th (bI kb) ms ff fr_ fb fp fc) := inW_self hD0
  have hS : va_S (inW (wM cy ad g th (bI kb) ms ff fr_ fb fp fc)) s.heap s.heap [] := va_S.rf
  have hP : va_P D vwCl (wM cy ad g th (bI kb) ms ff fr_ fb fp fc) s.heap := hP
  have inX6 : ∀ w ∈ wsX60, w ∈ wsX6_count := by decide +kernel
  have hl := lv_entry ([.ref (ad 20), .int x]) (n := 6) (Nat.le_of_ble_eq_true rfl)
  rw [lg_entry_eq]
  generalize (lg_sl ([.ref (ad 20), .int x]) ++ List.replicate (6 - (lg_sl ([.ref (ad 20), .int x])).length) Slot.unset).toArray = ls at hl ⊢
  have hl : lv_has ls 6 [(0, .ref (ad 20)), (1, .int x)] := hl
  have hgen := True.intro
  have hE := hg.2.2.1
  have hV := hg.1
  have hC := hg.2.1
  have hS8 : 2 ^ gE g ≤ 2 ^ 14 := Nat.pow_le_pow_right (by decide) hE
  have hf1 := rA_le g (2 ^ gE g - 1)
  have hf2 := ms_full_lt (gE g)
  refine lv_aload_n hx hb dX6_count_0 rfl (lv_at hl 0 rfl) ?_
  refine lv_iconst (v := nI 0) hx hb dX6_count_1 (by decide) ?_
  refine va_put (D := D) (ci := 5) (v := .int (nI 0)) (ty := .int) (C := RX6) (T := TX6) (N := 16) hx hb hts inX6 tyX6 tyX6_ok nmX6 hown hK.1 hP hD hS 0 rfl rfl 0 (by decide) (hts (.fieldLink RX6 49 "ColourForestsModel" "thrown" "I") (List.mem_of_getElem? (i := 1) rfl)) (fun _ h9 => h9) rfl (by decide +kernel) rfl rfl (Nat.le_of_ble_eq_true rfl) dX6_count_2 (fun H locs hP hD hS => ?_)
  have hP : va_P D vwCl [(ad 20, .inr (5, [.int (nI 0), .int (nI (gV g)), .int (nI (gC g)), .int (nI (gE g)), .ref (ad 21), .ref (ad 22), .ref (ad 23), .ref (ad 24), .ref (ad 25), .int (bI kb), .ref (ad 26), .ref (ad 27), .ref (ad 28), .int ms, .ref (ad 29), .ref (ad 30)])), (ad 21, .inl (cy 0, 6, .inl (fun i => nI (gL g i)))), (ad 22, .inl (cy 0, 14, .inl (fun i => nI (gF g i)))), (ad 23, .inl (cy 0, 14, .inl (fun i => nI (gS g i)))), (ad 24, .inl (cy 0, 14, .inl (fun i => nI (gH g i)))), (ad 25, .inl (cy 0, 14, .inl (fun i => zI (gW g i)))), (ad 26, .inl (cy 1, 32768, .inl ff)), (ad 27, .inl (cy 0, 32768, .inl fr_)), (ad 28, .inl (cy 0, 15, .inl fb)), (ad 29, .inl (cy 0, 8, .inl fp)), (ad 30, .inl (cy 0, 6, .inl fc))] H := hP
  have hD : va_D (inW (wM cy ad g th (bI kb) ms ff fr_ fb fp fc)) [(ad 20, .inr (5, [.int (nI 0), .int (nI (gV g)), .int (nI (gC g)), .int (nI (gE g)), .ref (ad 21), .ref (ad 22), .ref (ad 23), .ref (ad 24), .ref (ad 25), .int (bI kb), .ref (ad 26), .ref (ad 27), .ref (ad 28), .int ms, .ref (ad 29), .ref (ad 30)])), (ad 21, .inl (cy 0, 6, .inl (fun i => nI (gL g i)))), (ad 22, .inl (cy 0, 14, .inl (fun i => nI (gF g i)))), (ad 23, .inl (cy 0, 14, .inl (fun i => nI (gS g i)))), (ad 24, .inl (cy 0, 14, .inl (fun i => nI (gH g i)))), (ad 25, .inl (cy 0, 14, .inl (fun i => zI (gW g i)))), (ad 26, .inl (cy 1, 32768, .inl ff)), (ad 27, .inl (cy 0, 32768, .inl fr_)), (ad 28, .inl (cy 0, 15, .inl fb)), (ad 29, .inl (cy 0, 8, .inl fp)), (ad 30, .inl (cy 0, 6, .inl fc))] := hD
  refine lv_aload_n hx hb dX6_count_5 rfl (lv_at hl 0 rfl) ?_
  refine wr_callv [0, 1, 2, 3, 4, 5, 6, 7, 8, 9, 10] (va_runV (As := []) (rest := []) ⟨hx, hb, hml, hown, hts⟩ (c_X6_learn l D cy ad hg ((nI 0)) (kb := kb) (ms := ms) (ff := ff) (fr_ := fr_) (fb := fb) (fp := fp) (fc := fc) hv9) (cwV 0 hts gX6_count_X6_learn rfl rfl rfl (by decide +kernel) ⟨Nat.le_of_ble_eq_true rfl, Nat.le_of_ble_eq_true rfl⟩) (WR_preV (ci := 5) (q0 := 0) hK hP hD rfl rfl [0, 1, 2, 3, 4, 5, 6, 7, 8, 9, 10] (by decide) rfl rfl) rfl rfl hl.1 rfl (lv_room (Nat.le_of_ble_eq_true rfl)) dX6_count_6 ⟨(Nat.zero_le _), (Nat.zero_le _)⟩) hS hP hD rfl (fun _ => rfl) (fun _ => rfl) (fun u6 H locs w6 hP hD hS => ?_)
  obtain ⟨hF, hR, hB⟩ := w6
  have hP : va_P D vwCl [(ad 20, .inr (5, [.int (nI 0), .int (nI (gV g)), .int (nI (gC g)), .int (nI (gE g)), .ref (ad 21), .ref (ad 22), .ref (ad 23), .ref (ad 24), .ref (ad 25), .int (bI true), .ref (ad 26), .ref (ad 27), .ref (ad 28), .int (nI (mo g (2 ^ gE g))), .ref (ad 29), .ref (ad 30)])), (ad 21, .inl (cy 0, 6, .inl (fun i => nI (gL g i)))), (ad 22, .inl (cy 0, 14, .inl (fun i => nI (gF g i)))), (ad 23, .inl (cy 0, 14, .inl (fun i => nI (gS g i)))), (ad 24, .inl (cy 0, 14, .inl (fun i => nI (gH g i)))), (ad 25, .inl (cy 0, 14, .inl (fun i => zI (gW g i)))), (ad 26, .inl (cy 1, 32768, .inl u6.1)), (ad 27, .inl (cy 0, 32768, .inl u6.2.1)), (ad 28, .inl (cy 0, 15, .inl u6.2.2.1)), (ad 29, .inl (cy 0, 8, .inl u6.2.2.2.1)), (ad 30, .inl (cy 0, 6, .inl u6.2.2.2.2))] H := hP
  have hD : va_D (inW (wM cy ad g th (bI kb) ms ff fr_ fb fp fc)) [(ad 20, .inr (5, [.int (nI 0), .int (nI (gV g)), .int (nI (gC g)), .int (nI (gE g)), .ref (ad 21), .ref (ad 22), .ref (ad 23), .ref (ad 24), .ref (ad 25), .int (bI true), .ref (ad 26), .ref (ad 27), .ref (ad 28), .int (nI (mo g (2 ^ gE g))), .ref (ad 29), .ref (ad 30)])), (ad 21, .inl (cy 0, 6, .inl (fun i => nI (gL g i)))), (ad 22, .inl (cy 0, 14, .inl (fun i => nI (gF g i)))), (ad 23, .inl (cy 0, 14, .inl (fun i => nI (gS g i)))), (ad 24, .inl (cy 0, 14, .inl (fun i => nI (gH g i)))), (ad 25, .inl (cy 0, 14, .inl (fun i => zI (gW g i)))), (ad 26, .inl (cy 1, 32768, .inl u6.1)), (ad 27, .inl (cy 0, 32768, .inl u6.2.1)), (ad 28, .inl (cy 0, 15, .inl u6.2.2.1)), (ad 29, .inl (cy 0, 8, .inl u6.2.2.2.1)), (ad 30, .inl (cy 0, 6, .inl u6.2.2.2.2))] := hD
  refine lv_iconst (v := nI 0) hx hb dX6_count_9 (by decide) ?_
  refine lv_istore_n (lv' := [(2, .int (nI 0)), (0, .ref (ad 20)), (1, .int x)]) hx hb dX6_count_10 rfl hl (by decide) rfl (fun ls hl => ?_)
  refine lv_aload_n hx hb dX6_count_11 rfl (lv_at hl 1 rfl) ?_
  refine va_get (D := D) (ci := 5) (v := .ref (ad 27)) (C := RX6) (T := TX6) (N := 16) hx hb hts inX6 hown hK.1 hP 0 rfl rfl 11 (by decide) (hts (.fieldLink RX6 37 "ColourForestsModel" "ranks" "[I") (List.mem_of_getElem? (i := 2) rfl)) (fun _ h9 => h9) rfl dX6_count_12 ?_
  refine lv_iconst (v := nI 1) hx hb dX6_count_15 (by decide) ?_
  refine lv_aload_n hx hb dX6_count_16 rfl (lv_at hl 1 rfl) ?_
  refine va_get (D := D) (ci := 5) (v := .int (nI (gE g))) (C := RX6) (T := TX6) (N := 16) hx hb hts inX6 hown hK.1 hP 0 rfl rfl 3 (by decide) (hts (.fieldLink RX6 56 "ColourForestsModel" "edges" "I") (List.mem_of_getElem? (i := 3) rfl)) (fun _ h9 => h9) rfl dX6_count_17 ?_
  refine lv_ishl hx hb dX6_count_20 ?_
  refine lv_as (y := (nI (2 ^ (gE g)))) (ni_bit (by omega)) ?_
  refine lv_iconst (v := nI 1) hx hb dX6_count_21 (by decide) ?_
  refine lv_isub hx hb dX6_count_22 ?_
  refine lv_as (y := (nI ((2 ^ (gE g)) - 1))) (ni_sub (by omega)) ?_
  refine rd_i (k := ((2 ^ (gE g)) - 1)) (v := (nI (rA g (2 ^ gE g - 1)))) hx hb hK hP 7 rfl (by omega) (by decide) (lrR_at0 hR hf2) dX6_count_23 ?_
  refine lv_istore_n (lv' := [(3, .int (nI (rA g (2 ^ gE g - 1)))), (2, .int (nI 0)), (0, .ref (ad 20)), (1, .int x)]) hx hb dX6_count_24 rfl hl (by decide) rfl (fun ls hl => ?_)
  refine lv_iconst (v := nI 0) hx hb dX6_count_25 (by decide) ?_
  refine lv_istore (lv' := [(4, .int (nI 0)), (3, .int (nI (rA g (2 ^ gE g - 1)))), (2, .int (nI 0)), (0, .ref (ad 20)), (1, .int x)]) hx hb dX6_count_26 hl (by decide) rfl (fun ls hl => ?_)
  have L28 : ∀ (n : Nat) (sm : Nat), sm ≤ 2 ^ gE g ∧ 2 ^ gE g + 1 ≤ sm + n → ∀ (H : Heap) (locs : List Loc), va_P D vwCl [(ad 20, .inr (5, [.int (nI 0), .int (nI (gV g)), .int (nI (gC g)), .int (nI (gE g)), .ref (ad 21), .ref (ad 22), .ref (ad 23), .ref (ad 24), .ref (ad 25), .int (bI true), .ref (ad 26), .ref (ad 27), .ref (ad 28), .int (nI (mo g (2 ^ gE g))), .ref (ad 29), .ref (ad 30)])), (ad 21, .inl (cy 0, 6, .inl (fun i => nI (gL g i)))), (ad 22, .inl (cy 0, 14, .inl (fun i => nI (gF g i)))), (ad 23, .inl (cy 0, 14, .inl (fun i => nI (gS g i)))), (ad 24, .inl (cy 0, 14, .inl (fun i => nI (gH g i)))), (ad 25, .inl (cy 0, 14, .inl (fun i => zI (gW g i)))), (ad 26, .inl (cy 1, 32768, .inl u6.1)), (ad 27, .inl (cy 0, 32768, .inl u6.2.1)), (ad 28, .inl (cy 0, 15, .inl u6.2.2.1)), (ad 29, .inl (cy 0, 8, .inl u6.2.2.2.1)), (ad 30, .inl (cy 0, 6, .inl u6.2.2.2.2))] H → va_D (inW (wM cy ad g th (bI kb) ms ff fr_ fb fp fc)) [(ad 20, .inr (5, [.int (nI 0), .int (nI (gV g)), .int (nI (gC g)), .int (nI (gE g)), .ref (ad 21), .ref (ad 22), .ref (ad 23), .ref (ad 24), .ref (ad 25), .int (bI true), .ref (ad 26), .ref (ad 27), .ref (ad 28), .int (nI (mo g (2 ^ gE g))), .ref (ad 29), .ref (ad 30)])), (ad 21, .inl (cy 0, 6, .inl (fun i => nI (gL g i)))), (ad 22, .inl (cy 0, 14, .inl (fun i => nI (gF g i)))), (ad 23, .inl (cy 0, 14, .inl (fun i => nI (gS g i)))), (ad 24, .inl (cy 0, 14, .inl (fun i => nI (gH g i)))), (ad 25, .inl (cy 0, 14, .inl (fun i => zI (gW g i)))), (ad 26, .inl (cy 1, 32768, .inl u6.1)), (ad 27, .inl (cy 0, 32768, .inl u6.2.1)), (ad 28, .inl (cy 0, 15, .inl u6.2.2.1)), (ad 29, .inl (cy 0, 8, .inl u6.2.2.2.1)), (ad 30, .inl (cy 0, 6, .inl u6.2.2.2.2))] → va_S (inW (wM cy ad g th (bI kb) ms ff fr_ fb fp fc)) s.heap H locs → ∀ (ls : Array Slot), lv_has ls 6 [(0, .ref (ad 20)), (1, .int x), (2, .int (nI (nP (co g) sm))), (3, .int (nI (rA g (2 ^ gE g - 1)))), (4, .int (nI sm))] → W p l ev (headSpec wsX6_count ({ frames := 3, cells := 0, slots := 0, locals := 71 })).room s m [.ref (ad 20), .int x].toArray below meth c H locs 0 0 (MQ below (va_Qi (fun (r : Int32) (u : (Nat → Int32) × (Nat → Int32) × (Nat → Int32) × (Nat → Int32) × (Nat → Int32)) => r = coR g x ∧ lrF g (2 ^ gE g) u.1 ∧ lrR g (2 ^ gE g) u.2.1 ∧ lrB g (2 ^ gE g) u.2.2.1) (fun u t => va_P D vwCl ((fun u : (Nat → Int32) × (Nat → Int32) × (Nat → Int32) × (Nat → Int32) × (Nat → Int32) => wM cy ad g (nI 0) (bI true) (nI (mo g (2 ^ gE g))) u.1 u.2.1 u.2.2.1 u.2.2.2.1 u.2.2.2.2) u) t.heap) (inW (wM cy ad g th (bI kb) ms ff fr_ fb fp fc))) [.ref (ad 20), .int x].toArray s 0 0 (inW (wM cy ad g th (bI kb) ms ff fr_ fb fp fc))) (F0 m 28 ls []) := by
    intro n
    induction n with
    | zero =>
      intro sm hfuel  H locs hP hD hS ls hl
      exact absurd hfuel.2 (by have := hfuel.1; omega)
    | succ n ih28 =>
      intro sm hfuel  H locs hP hD hS ls hl
      obtain ⟨hfu1, hfu2⟩ := hfuel
      have hnp := nP_le (co g) sm
      have hcd := ms_card_le 14 sm
      refine lv_iload hx hb dX6_count_28 (lv_at hl 4 rfl) ?_
      refine lv_iconst (v := nI 1) hx hb dX6_count_30 (by decide) ?_
      refine lv_aload_n hx hb dX6_count_31 rfl (lv_at hl 0 rfl) ?_
      refine va_get (D := D) (ci := 5) (v := .int (nI (gE g))) (C := RX6) (T := TX6) (N := 16) hx hb hts inX6 hown hK.1 hP 0 rfl rfl 3 (by decide) (hts (.fieldLink RX6 56 "ColourForestsModel" "edges" "I") (List.mem_of_getElem? (i := 3) rfl)) (fun _ h9 => h9) rfl dX6_count_32 ?_
      refine lv_ishl hx hb dX6_count_35 ?_
      refine lv_as (y := (nI (2 ^ (gE g)))) (ni_bit (by omega)) ?_
      refine n_ge (a := sm) (b := (2 ^ (gE g))) (tgt := 121) hx hb dX6_count_36 (by decide) (by omega) (by omega) (fun c36 => ?_) (fun c36 => ?_)
      · refine lv_iload_n hx hb dX6_count_121 rfl (lv_at hl 1 rfl) ?_
        rcases co_cases hx3 with q0 | ⟨q0, q1⟩ | ⟨q0, q1, q2⟩ | ⟨q0, q1, q2, q4⟩ | ⟨q0, q1, q2, q4, qo⟩
        · refine lv_tableIn (off := 34) (tgt := 156) hx hb dX6_count_122 (by rw [q0]; decide) (by rw [q0]; decide) (by rw [q0]; decide) (by decide) ?_
          refine lv_aload_n hx hb dX6_count_156 rfl (lv_at hl 0 rfl) ?_
          refine va_get (D := D) (ci := 5) (v := .int (nI (gV g))) (C := RX6) (T := TX6) (N := 16) hx hb hts inX6 hown hK.1 hP 0 rfl rfl 1 (by decide) (hts (.fieldLink RX6 7 "ColourForestsModel" "vertices" "I") (List.mem_of_getElem? (i := 5) rfl)) (fun _ h9 => h9) rfl dX6_count_157 ?_
          exact wi_ret u6 hx hb hr hlocks hS hP ⟨(by unfold coR; first | (rw [if_pos q0]) | (rw [if_neg q0, if_pos q1]) | (rw [if_neg q0, if_neg q1, if_pos q2]) | (rw [if_neg q0, if_neg q1, if_neg q2, if_pos q4, show sm = 2 ^ gE g by omega]) | (rw [if_neg q0, if_neg q1, if_neg q2, if_neg q4])), hF, hR, hB⟩ dX6_count_160
        · refine lv_tableIn (off := 39) (tgt := 161) hx hb dX6_count_122 (by rw [q1]; decide) (by rw [q1]; decide) (by rw [q1]; decide) (by decide) ?_
          refine lv_aload_n hx hb dX6_count_161 rfl (lv_at hl 0 rfl) ?_
          refine va_get (D := D) (ci := 5) (v := .int (nI (gC g))) (C := RX6) (T := TX6) (N := 16) hx hb hts inX6 hown hK.1 hP 0 rfl rfl 2 (by decide) (hts (.fieldLink RX6 13 "ColourForestsModel" "colours" "I") (List.mem_of_getElem? (i := 6) rfl)) (fun _ h9 => h9) rfl dX6_count_162 ?_
          exact wi_ret u6 hx hb hr hlocks hS hP ⟨(by unfold coR; first | (rw [if_pos q0]) | (rw [if_neg q0, if_pos q1]) | (rw [if_neg q0, if_neg q1, if_pos q2]) | (rw [if_neg q0, if_neg q1, if_neg q2, if_pos q4, show sm = 2 ^ gE g by omega]) | (rw [if_neg q0, if_neg q1, if_neg q2, if_neg q4])), hF, hR, hB⟩ dX6_count_165
        · refine lv_tableIn (off := 44) (tgt := 166) hx hb dX6_count_122 (by rw [q2]; decide) (by rw [q2]; decide) (by rw [q2]; decide) (by decide) ?_
          refine lv_aload_n hx hb dX6_count_166 rfl (lv_at hl 0 rfl) ?_
          refine va_get (D := D) (ci := 5) (v := .int (nI (gE g))) (C := RX6) (T := TX6) (N := 16) hx hb hts inX6 hown hK.1 hP 0 rfl rfl 3 (by decide) (hts (.fieldLink RX6 56 "ColourForestsModel" "edges" "I") (List.mem_of_getElem? (i := 3) rfl)) (fun _ h9 => h9) rfl dX6_count_167 ?_
          exact wi_ret u6 hx hb hr hlocks hS hP ⟨(by unfold coR; first | (rw [if_pos q0]) | (rw [if_neg q0, if_pos q1]) | (rw [if_neg q0, if_neg q1, if_pos q2]) | (rw [if_neg q0, if_neg q1, if_neg q2, if_pos q4, show sm = 2 ^ gE g by omega]) | (rw [if_neg q0, if_neg q1, if_neg q2, if_neg q4])), hF, hR, hB⟩ dX6_count_170
        · refine lv_tableIn (off := 49) (tgt := 171) hx hb dX6_count_122 (by rw [q4]; decide) (by rw [q4]; decide) (by rw [q4]; decide) (by decide) ?_
          refine lv_iload_n hx hb dX6_count_171 rfl (lv_at hl 2 rfl) ?_
          exact wi_ret u6 hx hb hr hlocks hS hP ⟨(by unfold coR; first | (rw [if_pos q0]) | (rw [if_neg q0, if_pos q1]) | (rw [if_neg q0, if_neg q1, if_pos q2]) | (rw [if_neg q0, if_neg q1, if_neg q2, if_pos q4, show sm = 2 ^ gE g by omega]) | (rw [if_neg q0, if_neg q1, if_neg q2, if_neg q4])), hF, hR, hB⟩ dX6_count_172
        · refine lv_tableOut (tgt := 173) hx hb dX6_count_122 qo (by decide) ?_
          refine lv_iconst (v := zI (-1)) hx hb dX6_count_173 (by decide) ?_
          exact wi_ret u6 hx hb hr hlocks hS hP ⟨(by unfold coR; first | (rw [if_pos q0]) | (rw [if_neg q0, if_pos q1]) | (rw [if_neg q0, if_neg q1, if_pos q2]) | (rw [if_neg q0, if_neg q1, if_neg q2, if_pos q4, show sm = 2 ^ gE g by omega]) | (rw [if_neg q0, if_neg q1, if_neg q2, if_neg q4])), hF, hR, hB⟩ dX6_count_174
      · refine lv_iload_n hx hb dX6_count_39 rfl (lv_at hl 1 rfl) ?_
        refine lv_iconst (v := nI 3) hx hb dX6_count_40 (by decide) ?_
        refine lv_icmp_ne (tgt := 71) hx hb dX6_count_41 (by decide) (fun c41 => ?_) (fun c41 => ?_)
        · refine lv_aload_n hx hb dX6_count_71 rfl (lv_at hl 0 rfl) ?_
          refine va_get (D := D) (ci := 5) (v := .ref (ad 26)) (C := RX6) (T := TX6) (N := 16) hx hb hts inX6 hown hK.1 hP 0 rfl rfl 10 (by decide) (hts (.fieldLink RX6 33 "ColourForestsModel" "free" "[Z") (List.mem_of_getElem? (i := 4) rfl)) (fun _ h9 => h9) rfl dX6_count_72 ?_
          refine lv_iload hx hb dX6_count_75 (lv_at hl 4 rfl) ?_
          refine rd_z (k := sm) (v := (bI (fr g sm))) hx hb hK hP 6 rfl (by omega) (by decide) (lrF_at0 hF (by omega)) dX6_count_77 ?_
          refine b_eq (b := (fr g sm)) (tgt := 99) hx hb dX6_count_78 (by decide) (fun c78 => ?_) (fun c78 => ?_)
          · refine lv_iconst (v := nI 0) hx hb dX6_count_99 (by decide) ?_
            refine lv_istore (lv' := [(5, .int (nI 0)), (0, .ref (ad 20)), (1, .int x), (2, .int (nI (nP (co g) sm))), (3, .int (nI (rA g (2 ^ gE g - 1)))), (4, .int (nI sm))]) hx hb dX6_count_100 hl (by decide) rfl (fun ls hl => ?_)
            refine lv_iload_n hx hb dX6_count_102 rfl (lv_at hl 3 rfl) ?_
            refine lv_iload hx hb dX6_count_103 (lv_at hl 0 rfl) ?_
            refine lv_if_eq (tgt := 112) hx hb dX6_count_105 (by decide) (fun c105 => ?_) (fun c105 => ?_)
            · refine lv_iconst (v := nI 0) hx hb dX6_count_112 (by decide) ?_
              refine lv_iadd hx hb dX6_count_113 ?_
              refine lv_as (y := (nI (nP (co g) (sm + 1)))) (by rw [nI_add]; congr 1; first | exact (nP_n (co_f (Or.inl c78))).symm | exact (nP_n (co_f (Or.inr c92))).symm) ?_
              refine lv_istore_n (lv' := [(2, .int (nI (nP (co g) (sm + 1)))), (5, .int (nI 0)), (0, .ref (ad 20)), (1, .int x), (3, .int (nI (rA g (2 ^ gE g - 1)))), (4, .int (nI sm))]) hx hb dX6_count_114 rfl hl (by decide) rfl (fun ls hl => ?_)
              refine lv_iinc (v := (nI (sm + 1))) (lv' := [(4, .int (nI (sm + 1))), (2, .int (nI (nP (co g) (sm + 1)))), (5, .int (nI 0)), (0, .ref (ad 20)), (1, .int x), (3, .int (nI (rA g (2 ^ gE g - 1))))]) hx hb dX6_count_115 hl (k := 5) rfl (ni_inc _) (by decide) rfl (fun ls hl => ?_)
              refine lv_goto (tgt := 28) hx hb dX6_count_118 (by decide) ?_
              exact ih28 (sm + 1) ⟨by omega, by omega⟩  _ _ hP hD hS _ (lv_sub hl [3, 4, 1, 5, 0] rfl)
            · exact absurd (by decide) c105
          · refine lv_aload_n hx hb dX6_count_81 rfl (lv_at hl 0 rfl) ?_
            refine va_get (D := D) (ci := 5) (v := .ref (ad 26)) (C := RX6) (T := TX6) (N := 16) hx hb hts inX6 hown hK.1 hP 0 rfl rfl 10 (by decide) (hts (.fieldLink RX6 33 "ColourForestsModel" "free" "[Z") (List.mem_of_getElem? (i := 4) rfl)) (fun _ h9 => h9) rfl dX6_count_82 ?_
            refine lv_sipush (v := nI 16384) hx hb dX6_count_85 (by decide) ?_
            refine lv_iload hx hb dX6_count_88 (lv_at hl 4 rfl) ?_
            refine lv_iadd hx hb dX6_count_90 ?_
            refine lv_as (y := (nI (16384 + sm))) (nI_add _ _) ?_
            refine rd_z (k := (16384 + sm)) (v := (bI (li g sm))) hx hb hK hP 6 rfl (by omega) (by decide) (lrF_at1 hF (by omega)) dX6_count_91 ?_
            refine b_eq (b := (li g sm)) (tgt := 99) hx hb dX6_count_92 (by decide) (fun c92 => ?_) (fun c92 => ?_)
            · refine lv_iconst (v := nI 0) hx hb dX6_count_99 (by decide) ?_
              refine lv_istore (lv' := [(5, .int (nI 0)), (0, .ref (ad 20)), (1, .int x), (2, .int (nI (nP (co g) sm))), (3, .int (nI (rA g (2 ^ gE g - 1)))), (4, .int (nI sm))]) hx hb dX6_count_100 hl (by decide) rfl (fun ls hl => ?_)
              refine lv_iload_n hx hb dX6_count_102 rfl (lv_at hl 3 rfl) ?_
              refine lv_iload hx hb dX6_count_103 (lv_at hl 0 rfl) ?_
              refine lv_if_eq (tgt := 112) hx hb dX6_count_105 (by decide) (fun c105 => ?_) (fun c105 => ?_)
              · refine lv_iconst (v := nI 0) hx hb dX6_count_112 (by decide) ?_
                refine lv_iadd hx hb dX6_count_113 ?_
                refine lv_as (y := (nI (nP (co g) (sm + 1)))) (by rw [nI_add]; congr 1; first | exact (nP_n (co_f (Or.inl c78))).symm | exact (nP_n (co_f (Or.inr c92))).symm) ?_
                refine lv_istore_n (lv' := [(2, .int (nI (nP (co g) (sm + 1)))), (5, .int (nI 0)), (0, .ref (ad 20)), (1, .int x), (3, .int (nI (rA g (2 ^ gE g - 1)))), (4, .int (nI sm))]) hx hb dX6_count_114 rfl hl (by decide) rfl (fun ls hl => ?_)
                refine lv_iinc (v := (nI (sm + 1))) (lv' := [(4, .int (nI (sm + 1))), (2, .int (nI (nP (co g) (sm + 1)))), (5, .int (nI 0)), (0, .ref (ad 20)), (1, .int x), (3, .int (nI (rA g (2 ^ gE g - 1))))]) hx hb dX6_count_115 hl (k := 5) rfl (ni_inc _) (by decide) rfl (fun ls hl => ?_)
                refine lv_goto (tgt := 28) hx hb dX6_count_118 (by decide) ?_
                exact ih28 (sm + 1) ⟨by omega, by omega⟩  _ _ hP hD hS _ (lv_sub hl [3, 4, 1, 5, 0] rfl)
              · exact absurd (by decide) c105
            · refine lv_iconst (v := nI 1) hx hb dX6_count_95 (by decide) ?_
              refine lv_goto (tgt := 100) hx hb dX6_count_96 (by decide) ?_
              refine lv_istore (lv' := [(5, .int (nI 1)), (0, .ref (ad 20)), (1, .int x), (2, .int (nI (nP (co g) sm))), (3, .int (nI (rA g (2 ^ gE g - 1)))), (4, .int (nI sm))]) hx hb dX6_count_100 hl (by decide) rfl (fun ls hl => ?_)
              refine lv_iload_n hx hb dX6_count_102 rfl (lv_at hl 3 rfl) ?_
              refine lv_iload hx hb dX6_count_103 (lv_at hl 0 rfl) ?_
              refine lv_if_eq (tgt := 112) hx hb dX6_count_105 (by decide) (fun c105 => ?_) (fun c105 => ?_)
              · exact absurd c105 (by decide)
              · refine lv_iconst (v := nI 1) hx hb dX6_count_108 (by decide) ?_
                refine lv_goto (tgt := 113) hx hb dX6_count_109 (by decide) ?_
                refine lv_iadd hx hb dX6_count_113 ?_
                refine lv_as (y := (nI (nP (co g) (sm + 1)))) (by rw [nI_add]; congr 1; exact (nP_y (co_yes c78 c92)).symm) ?_
                refine lv_istore_n (lv' := [(2, .int (nI (nP (co g) (sm + 1)))), (5, .int (nI 1)), (0, .ref (ad 20)), (1, .int x), (3, .int (nI (rA g (2 ^ gE g - 1)))), (4, .int (nI sm))]) hx hb dX6_count_114 rfl hl (by decide) rfl (fun ls hl => ?_)
                refine lv_iinc (v := (nI (sm + 1))) (lv' := [(4, .int (nI (sm + 1))), (2, .int (nI (nP (co g) (sm + 1)))), (5, .int (nI 1)), (0, .ref (ad 20)), (1, .int x), (3, .int (nI (rA g (2 ^ gE g - 1))))]) hx hb dX6_count_115 hl (k := 5) rfl (ni_inc _) (by decide) rfl (fun ls hl => ?_)
                refine lv_goto (tgt := 28) hx hb dX6_count_118 (by decide) ?_
                exact ih28 (sm + 1) ⟨by omega, by omega⟩  _ _ hP hD hS _ (lv_sub hl [3, 4, 1, 5, 0] rfl)
        · exact absurd c41 hx3
  exact L28 (2 ^ gE g + 1) 0 ⟨Nat.zero_le _, by omega⟩  _ _ hP hD hS _ (lv_sub hl [3, 4, 2, 1, 0] rfl)
