set_option maxHeartbeats 4000000 in
set_option maxRecDepth 100000 in
theorem c_X6_make_no (l : Launch) (D : va_G) (cy : Nat → ClassId) (ad : Nat → Nat) (g : GT) (th kn ms : Int32) {x y : Int32} (h : mkOK x y = false) : WV l yX6_make wsX6_make ({ frames := 1, cells := 0, slots := 0, locals := 21 }) D cy [.ref (ad 20), .int x, .int y] [(ad 20, .inr (5, [.int th, .int (nI (gV g)), .int (nI (gC g)), .int (nI (gE g)), .ref (ad 21), .ref (ad 22), .ref (ad 23), .ref (ad 24), .ref (ad 25), .int kn, .ref (ad 26), .ref (ad 27), .ref (ad 28), .int ms, .ref (ad 29), .ref (ad 30)]))] (fun _ : Unit => True) (fun _ : Unit => [(ad 20, .inr (5, [.int (nI 1), .int (nI (gV g)), .int (nI (gC g)), .int (nI (gE g)), .ref (ad 21), .ref (ad 22), .ref (ad 23), .ref (ad 24), .ref (ad 25), .int kn, .ref (ad 26), .ref (ad 27), .ref (ad 28), .int ms, .ref (ad 29), .ref (ad 30)]))]) := by
  refine Met.ofW (cc := cX6_make) (maxL := 4) (ret := none) (by decide) rfl ?_
  intro p ev s m args below meth c s₁ B hml hv
  obtain ⟨rfl, ⟨hK, hP⟩, hD0⟩ := hv
  have hx := B.exec
  have hb := B.bytes
  have hr := B.returns
  have hts := atoms_spec (ws := wsX6_make) B.pre
  have hown : s.vm.findClass RX6 = some m.cls := findClass_of_methodNamed B.named
  have hlocks := B.notSynchronized
  have hD : va_D (inW [(ad 20, .inr (5, [.int th, .int (nI (gV g)), .int (nI (gC g)), .int (nI (gE g)), .ref (ad 21), .ref (ad 22), .ref (ad 23), .ref (ad 24), .ref (ad 25), .int kn, .ref (ad 26), .ref (ad 27), .ref (ad 28), .int ms, .ref (ad 29), .ref (ad 30)]))]) ([(ad 20, .inr (5, [.int th, .int (nI (gV g)), .int (nI (gC g)), .int (nI (gE g)), .ref (ad 21), .ref (ad 22), .ref (ad 23), .ref (ad 24), .ref (ad 25), .int kn, .ref (ad 26), .ref (ad 27), .ref (ad 28), .int ms, .ref (ad 29), .ref (ad 30)]))]) := inW_self hD0
  have hS : va_S (inW [(ad 20, .inr (5, [.int th, .int (nI (gV g)), .int (nI (gC g)), .int (nI (gE g)), .ref (ad 21), .ref (ad 22), .ref (ad 23), .ref (ad 24), .ref (ad 25), .int kn, .ref (ad 26), .ref (ad 27), .ref (ad 28), .int ms, .ref (ad 29), .ref (ad 30)]))]) s.heap s.heap [] := va_S.rf
  have hP : va_P D vwCl [(ad 20, .inr (5, [.int th, .int (nI (gV g)), .int (nI (gC g)), .int (nI (gE g)), .ref (ad 21), .ref (ad 22), .ref (ad 23), .ref (ad 24), .ref (ad 25), .int kn, .ref (ad 26), .ref (ad 27), .ref (ad 28), .int ms, .ref (ad 29), .ref (ad 30)]))] s.heap := hP
  have inX6 : ∀ w ∈ wsX60, w ∈ wsX6_make := by decide +kernel
  have hl := lv_entry ([.ref (ad 20), .int x, .int y]) (n := 4) (Nat.le_of_ble_eq_true rfl)
  rw [lg_entry_eq]
  generalize (lg_sl ([.ref (ad 20), .int x, .int y]) ++ List.replicate (4 - (lg_sl ([.ref (ad 20), .int x, .int y])).length) Slot.unset).toArray = ls at hl ⊢
  have hl : lv_has ls 4 [(0, .ref (ad 20)), (1, .int x), (2, .int y)] := hl
  have hgen := True.intro
  refine lv_aload_n hx hb dX6_make_0 rfl (lv_at hl 0 rfl) ?_
  refine lv_iload_n hx hb dX6_make_1 rfl (lv_at hl 1 rfl) ?_
  refine lv_iconst (v := nI 1) hx hb dX6_make_2 (by decide) ?_
  refine lv_icmp_lt (tgt := 23) hx hb dX6_make_3 (by decide) (fun c3 => ?_) (fun c3 => ?_)
  · refine lv_iconst (v := nI 1) hx hb dX6_make_23 (by decide) ?_
    refine lv_goto (tgt := 28) hx hb dX6_make_24 (by decide) ?_
    refine wr_calli [0] (va_runV (As := [.int (nI 1)]) (rest := []) ⟨hx, hb, hml, hown, hts⟩ (c_X6_refuses l D cy ad g th kn ms ((nI 1))) (cwV 1 hts gX6_make_X6_refuses rfl rfl rfl (by decide +kernel) ⟨Nat.le_of_ble_eq_true rfl, Nat.le_of_ble_eq_true rfl⟩) (WR_preV (ci := 5) (q0 := 0) hK hP hD rfl rfl [0] (by decide) rfl rfl) rfl rfl hl.1 rfl (lv_room (Nat.le_of_ble_eq_true rfl)) dX6_make_28 ⟨(Nat.zero_le _), (Nat.zero_le _)⟩) hS hP hD rfl (fun _ => rfl) (fun _ => rfl) (fun r28 u28 H locs w28 hP hD hS => ?_)
    refine lv_as (y := bI true) (by rw [w28]; first | rfl | decide) ?_
    have hP : va_P D vwCl [(ad 20, .inr (5, [.int (nI 1), .int (nI (gV g)), .int (nI (gC g)), .int (nI (gE g)), .ref (ad 21), .ref (ad 22), .ref (ad 23), .ref (ad 24), .ref (ad 25), .int kn, .ref (ad 26), .ref (ad 27), .ref (ad 28), .int ms, .ref (ad 29), .ref (ad 30)]))] H := hP
    have hD : va_D (inW [(ad 20, .inr (5, [.int th, .int (nI (gV g)), .int (nI (gC g)), .int (nI (gE g)), .ref (ad 21), .ref (ad 22), .ref (ad 23), .ref (ad 24), .ref (ad 25), .int kn, .ref (ad 26), .ref (ad 27), .ref (ad 28), .int ms, .ref (ad 29), .ref (ad 30)]))]) [(ad 20, .inr (5, [.int (nI 1), .int (nI (gV g)), .int (nI (gC g)), .int (nI (gE g)), .ref (ad 21), .ref (ad 22), .ref (ad 23), .ref (ad 24), .ref (ad 25), .int kn, .ref (ad 26), .ref (ad 27), .ref (ad 28), .int ms, .ref (ad 29), .ref (ad 30)]))] := hD
    refine b_eq (b := true) (tgt := 35) hx hb dX6_make_31 (by decide) (fun c31 => ?_) (fun c31 => ?_)
    · cases c31
    · exact wv_ret () hx hb hr hlocks hS hP trivial dX6_make_34
  · refine lv_iload_n hx hb dX6_make_6 rfl (lv_at hl 1 rfl) ?_
    refine lv_bipush (v := nI 8) hx hb dX6_make_7 (by decide) ?_
    refine lv_icmp_gt (tgt := 23) hx hb dX6_make_9 (by decide) (fun c9 => ?_) (fun c9 => ?_)
    · refine lv_iconst (v := nI 1) hx hb dX6_make_23 (by decide) ?_
      refine lv_goto (tgt := 28) hx hb dX6_make_24 (by decide) ?_
      refine wr_calli [0] (va_runV (As := [.int (nI 1)]) (rest := []) ⟨hx, hb, hml, hown, hts⟩ (c_X6_refuses l D cy ad g th kn ms ((nI 1))) (cwV 1 hts gX6_make_X6_refuses rfl rfl rfl (by decide +kernel) ⟨Nat.le_of_ble_eq_true rfl, Nat.le_of_ble_eq_true rfl⟩) (WR_preV (ci := 5) (q0 := 0) hK hP hD rfl rfl [0] (by decide) rfl rfl) rfl rfl hl.1 rfl (lv_room (Nat.le_of_ble_eq_true rfl)) dX6_make_28 ⟨(Nat.zero_le _), (Nat.zero_le _)⟩) hS hP hD rfl (fun _ => rfl) (fun _ => rfl) (fun r28 u28 H locs w28 hP hD hS => ?_)
      refine lv_as (y := bI true) (by rw [w28]; first | rfl | decide) ?_
      have hP : va_P D vwCl [(ad 20, .inr (5, [.int (nI 1), .int (nI (gV g)), .int (nI (gC g)), .int (nI (gE g)), .ref (ad 21), .ref (ad 22), .ref (ad 23), .ref (ad 24), .ref (ad 25), .int kn, .ref (ad 26), .ref (ad 27), .ref (ad 28), .int ms, .ref (ad 29), .ref (ad 30)]))] H := hP
      have hD : va_D (inW [(ad 20, .inr (5, [.int th, .int (nI (gV g)), .int (nI (gC g)), .int (nI (gE g)), .ref (ad 21), .ref (ad 22), .ref (ad 23), .ref (ad 24), .ref (ad 25), .int kn, .ref (ad 26), .ref (ad 27), .ref (ad 28), .int ms, .ref (ad 29), .ref (ad 30)]))]) [(ad 20, .inr (5, [.int (nI 1), .int (nI (gV g)), .int (nI (gC g)), .int (nI (gE g)), .ref (ad 21), .ref (ad 22), .ref (ad 23), .ref (ad 24), .ref (ad 25), .int kn, .ref (ad 26), .ref (ad 27), .ref (ad 28), .int ms, .ref (ad 29), .ref (ad 30)]))] := hD
      refine b_eq (b := true) (tgt := 35) hx hb dX6_make_31 (by decide) (fun c31 => ?_) (fun c31 => ?_)
      · cases c31
      · exact wv_ret () hx hb hr hlocks hS hP trivial dX6_make_34
    · refine lv_iload_n hx hb dX6_make_12 rfl (lv_at hl 2 rfl) ?_
      refine lv_iconst (v := nI 1) hx hb dX6_make_13 (by decide) ?_
      refine lv_icmp_lt (tgt := 23) hx hb dX6_make_14 (by decide) (fun c14 => ?_) (fun c14 => ?_)
      · refine lv_iconst (v := nI 1) hx hb dX6_make_23 (by decide) ?_
        refine lv_goto (tgt := 28) hx hb dX6_make_24 (by decide) ?_
        refine wr_calli [0] (va_runV (As := [.int (nI 1)]) (rest := []) ⟨hx, hb, hml, hown, hts⟩ (c_X6_refuses l D cy ad g th kn ms ((nI 1))) (cwV 1 hts gX6_make_X6_refuses rfl rfl rfl (by decide +kernel) ⟨Nat.le_of_ble_eq_true rfl, Nat.le_of_ble_eq_true rfl⟩) (WR_preV (ci := 5) (q0 := 0) hK hP hD rfl rfl [0] (by decide) rfl rfl) rfl rfl hl.1 rfl (lv_room (Nat.le_of_ble_eq_true rfl)) dX6_make_28 ⟨(Nat.zero_le _), (Nat.zero_le _)⟩) hS hP hD rfl (fun _ => rfl) (fun _ => rfl) (fun r28 u28 H locs w28 hP hD hS => ?_)
        refine lv_as (y := bI true) (by rw [w28]; first | rfl | decide) ?_
        have hP : va_P D vwCl [(ad 20, .inr (5, [.int (nI 1), .int (nI (gV g)), .int (nI (gC g)), .int (nI (gE g)), .ref (ad 21), .ref (ad 22), .ref (ad 23), .ref (ad 24), .ref (ad 25), .int kn, .ref (ad 26), .ref (ad 27), .ref (ad 28), .int ms, .ref (ad 29), .ref (ad 30)]))] H := hP
        have hD : va_D (inW [(ad 20, .inr (5, [.int th, .int (nI (gV g)), .int (nI (gC g)), .int (nI (gE g)), .ref (ad 21), .ref (ad 22), .ref (ad 23), .ref (ad 24), .ref (ad 25), .int kn, .ref (ad 26), .ref (ad 27), .ref (ad 28), .int ms, .ref (ad 29), .ref (ad 30)]))]) [(ad 20, .inr (5, [.int (nI 1), .int (nI (gV g)), .int (nI (gC g)), .int (nI (gE g)), .ref (ad 21), .ref (ad 22), .ref (ad 23), .ref (ad 24), .ref (ad 25), .int kn, .ref (ad 26), .ref (ad 27), .ref (ad 28), .int ms, .ref (ad 29), .ref (ad 30)]))] := hD
        refine b_eq (b := true) (tgt := 35) hx hb dX6_make_31 (by decide) (fun c31 => ?_) (fun c31 => ?_)
        · cases c31
        · exact wv_ret () hx hb hr hlocks hS hP trivial dX6_make_34
      · refine lv_iload_n hx hb dX6_make_17 rfl (lv_at hl 2 rfl) ?_
        refine lv_bipush (v := nI 6) hx hb dX6_make_18 (by decide) ?_
        refine lv_icmp_le (tgt := 27) hx hb dX6_make_20 (by decide) (fun c20 => ?_) (fun c20 => ?_)
        · exact absurd (h.symm.trans (mk_yes c3 c9 c14 c20)) (by decide)
        · refine lv_iconst (v := nI 1) hx hb dX6_make_23 (by decide) ?_
          refine lv_goto (tgt := 28) hx hb dX6_make_24 (by decide) ?_
          refine wr_calli [0] (va_runV (As := [.int (nI 1)]) (rest := []) ⟨hx, hb, hml, hown, hts⟩ (c_X6_refuses l D cy ad g th kn ms ((nI 1))) (cwV 1 hts gX6_make_X6_refuses rfl rfl rfl (by decide +kernel) ⟨Nat.le_of_ble_eq_true rfl, Nat.le_of_ble_eq_true rfl⟩) (WR_preV (ci := 5) (q0 := 0) hK hP hD rfl rfl [0] (by decide) rfl rfl) rfl rfl hl.1 rfl (lv_room (Nat.le_of_ble_eq_true rfl)) dX6_make_28 ⟨(Nat.zero_le _), (Nat.zero_le _)⟩) hS hP hD rfl (fun _ => rfl) (fun _ => rfl) (fun r28 u28 H locs w28 hP hD hS => ?_)
          refine lv_as (y := bI true) (by rw [w28]; first | rfl | decide) ?_
          have hP : va_P D vwCl [(ad 20, .inr (5, [.int (nI 1), .int (nI (gV g)), .int (nI (gC g)), .int (nI (gE g)), .ref (ad 21), .ref (ad 22), .ref (ad 23), .ref (ad 24), .ref (ad 25), .int kn, .ref (ad 26), .ref (ad 27), .ref (ad 28), .int ms, .ref (ad 29), .ref (ad 30)]))] H := hP
          have hD : va_D (inW [(ad 20, .inr (5, [.int th, .int (nI (gV g)), .int (nI (gC g)), .int (nI (gE g)), .ref (ad 21), .ref (ad 22), .ref (ad 23), .ref (ad 24), .ref (ad 25), .int kn, .ref (ad 26), .ref (ad 27), .ref (ad 28), .int ms, .ref (ad 29), .ref (ad 30)]))]) [(ad 20, .inr (5, [.int (nI 1), .int (nI (gV g)), .int (nI (gC g)), .int (nI (gE g)), .ref (ad 21), .ref (ad 22), .ref (ad 23), .ref (ad 24), .ref (ad 25), .int kn, .ref (ad 26), .ref (ad 27), .ref (ad 28), .int ms, .ref (ad 29), .ref (ad 30)]))] := hD
          refine b_eq (b := true) (tgt := 35) hx hb dX6_make_31 (by decide) (fun c31 => ?_) (fun c31 => ?_)
          · cases c31
          · exact wv_ret () hx hb hr hlocks hS hP trivial dX6_make_34

set_option maxHeartbeats 4000000 in
set_option maxRecDepth 100000 in
theorem c_X6_make_yes (l : Launch) (D : va_G) (cy : Nat → ClassId) (ad : Nat → Nat) (g : GT) (th kn ms : Int32) {a b : Nat} (ha : 1 ≤ a ∧ a ≤ 8) (hb9 : 1 ≤ b ∧ b ≤ 6) : WV l yX6_make wsX6_make ({ frames := 1, cells := 0, slots := 0, locals := 21 }) D cy [.ref (ad 20), .int (nI a), .int (nI b)] [(ad 20, .inr (5, [.int th, .int (nI (gV g)), .int (nI (gC g)), .int (nI (gE g)), .ref (ad 21), .ref (ad 22), .ref (ad 23), .ref (ad 24), .ref (ad 25), .int kn, .ref (ad 26), .ref (ad 27), .ref (ad 28), .int ms, .ref (ad 29), .ref (ad 30)])), (ad 21, .inl (cy 0, 6, .inl (fun i => nI (gL g i))))] (fun _ : Unit => True) (fun _ : Unit => [(ad 20, .inr (5, [.int (nI 0), .int (nI (gV (mkG a b g))), .int (nI (gC (mkG a b g))), .int (nI (gE (mkG a b g))), .ref (ad 21), .ref (ad 22), .ref (ad 23), .ref (ad 24), .ref (ad 25), .int (bI false), .ref (ad 26), .ref (ad 27), .ref (ad 28), .int ms, .ref (ad 29), .ref (ad 30)])), (ad 21, .inl (cy 0, 6, .inl (fun i => nI (gL (mkG a b g) i))))]) := by
  refine Met.ofW (cc := cX6_make) (maxL := 4) (ret := none) (by decide) rfl ?_
  intro p ev s m args below meth c s₁ B hml hv
  obtain ⟨rfl, ⟨hK, hP⟩, hD0⟩ := hv
  have hx := B.exec
  have hb := B.bytes
  have hr := B.returns
  have hts := atoms_spec (ws := wsX6_make) B.pre
  have hown : s.vm.findClass RX6 = some m.cls := findClass_of_methodNamed B.named
  have hlocks := B.notSynchronized
  have hD : va_D (inW [(ad 20, .inr (5, [.int th, .int (nI (gV g)), .int (nI (gC g)), .int (nI (gE g)), .ref (ad 21), .ref (ad 22), .ref (ad 23), .ref (ad 24), .ref (ad 25), .int kn, .ref (ad 26), .ref (ad 27), .ref (ad 28), .int ms, .ref (ad 29), .ref (ad 30)])), (ad 21, .inl (cy 0, 6, .inl (fun i => nI (gL g i))))]) ([(ad 20, .inr (5, [.int th, .int (nI (gV g)), .int (nI (gC g)), .int (nI (gE g)), .ref (ad 21), .ref (ad 22), .ref (ad 23), .ref (ad 24), .ref (ad 25), .int kn, .ref (ad 26), .ref (ad 27), .ref (ad 28), .int ms, .ref (ad 29), .ref (ad 30)])), (ad 21, .inl (cy 0, 6, .inl (fun i => nI (gL g i))))]) := inW_self hD0
  have hS : va_S (inW [(ad 20, .inr (5, [.int th, .int (nI (gV g)), .int (nI (gC g)), .int (nI (gE g)), .ref (ad 21), .ref (ad 22), .ref (ad 23), .ref (ad 24), .ref (ad 25), .int kn, .ref (ad 26), .ref (ad 27), .ref (ad 28), .int ms, .ref (ad 29), .ref (ad 30)])), (ad 21, .inl (cy 0, 6, .inl (fun i => nI (gL g i))))]) s.heap s.heap [] := va_S.rf
  have hP : va_P D vwCl [(ad 20, .inr (5, [.int th, .int (nI (gV g)), .int (nI (gC g)), .int (nI (gE g)), .ref (ad 21), .ref (ad 22), .ref (ad 23), .ref (ad 24), .ref (ad 25), .int kn, .ref (ad 26), .ref (ad 27), .ref (ad 28), .int ms, .ref (ad 29), .ref (ad 30)])), (ad 21, .inl (cy 0, 6, .inl (fun i => nI (gL g i))))] s.heap := hP
  have inX6 : ∀ w ∈ wsX60, w ∈ wsX6_make := by decide +kernel
  have hl := lv_entry ([.ref (ad 20), .int (nI a), .int (nI b)]) (n := 4) (Nat.le_of_ble_eq_true rfl)
  rw [lg_entry_eq]
  generalize (lg_sl ([.ref (ad 20), .int (nI a), .int (nI b)]) ++ List.replicate (4 - (lg_sl ([.ref (ad 20), .int (nI a), .int (nI b)])).length) Slot.unset).toArray = ls at hl ⊢
  have hl : lv_has ls 4 [(0, .ref (ad 20)), (1, .int (nI a)), (2, .int (nI b))] := hl
  have hgen := True.intro
  refine lv_aload_n hx hb dX6_make_0 rfl (lv_at hl 0 rfl) ?_
  refine lv_iload_n hx hb dX6_make_1 rfl (lv_at hl 1 rfl) ?_
  refine lv_iconst (v := nI 1) hx hb dX6_make_2 (by decide) ?_
  refine n_lt (a := a) (b := 1) (tgt := 23) hx hb dX6_make_3 (by decide) (by omega) (by omega) (fun c3 => ?_) (fun c3 => ?_)
  · exact absurd c3 (by omega)
  · refine lv_iload_n hx hb dX6_make_6 rfl (lv_at hl 1 rfl) ?_
    refine lv_bipush (v := nI 8) hx hb dX6_make_7 (by decide) ?_
    refine n_gt (a := a) (b := 8) (tgt := 23) hx hb dX6_make_9 (by decide) (by omega) (by omega) (fun c9 => ?_) (fun c9 => ?_)
    · exact absurd c9 (by omega)
    · refine lv_iload_n hx hb dX6_make_12 rfl (lv_at hl 2 rfl) ?_
      refine lv_iconst (v := nI 1) hx hb dX6_make_13 (by decide) ?_
      refine n_lt (a := b) (b := 1) (tgt := 23) hx hb dX6_make_14 (by decide) (by omega) (by omega) (fun c14 => ?_) (fun c14 => ?_)
      · exact absurd c14 (by omega)
      · refine lv_iload_n hx hb dX6_make_17 rfl (lv_at hl 2 rfl) ?_
        refine lv_bipush (v := nI 6) hx hb dX6_make_18 (by decide) ?_
        refine n_le (a := b) (b := 6) (tgt := 27) hx hb dX6_make_20 (by decide) (by omega) (by omega) (fun c20 => ?_) (fun c20 => ?_)
        · refine lv_iconst (v := nI 0) hx hb dX6_make_27 (by decide) ?_
          refine wr_calli [0] (va_runV (As := [.int (nI 0)]) (rest := []) ⟨hx, hb, hml, hown, hts⟩ (c_X6_refuses l D cy ad g th kn ms ((nI 0))) (cwV 1 hts gX6_make_X6_refuses rfl rfl rfl (by decide +kernel) ⟨Nat.le_of_ble_eq_true rfl, Nat.le_of_ble_eq_true rfl⟩) (WR_preV (ci := 5) (q0 := 0) hK hP hD rfl rfl [0] (by decide) rfl rfl) rfl rfl hl.1 rfl (lv_room (Nat.le_of_ble_eq_true rfl)) dX6_make_28 ⟨(Nat.zero_le _), (Nat.zero_le _)⟩) hS hP hD rfl (fun _ => rfl) (fun _ => rfl) (fun r28 u28 H locs w28 hP hD hS => ?_)
          refine lv_as (y := bI false) (by rw [w28]; first | rfl | decide) ?_
          have hP : va_P D vwCl [(ad 20, .inr (5, [.int (nI 0), .int (nI (gV g)), .int (nI (gC g)), .int (nI (gE g)), .ref (ad 21), .ref (ad 22), .ref (ad 23), .ref (ad 24), .ref (ad 25), .int kn, .ref (ad 26), .ref (ad 27), .ref (ad 28), .int ms, .ref (ad 29), .ref (ad 30)])), (ad 21, .inl (cy 0, 6, .inl (fun i => nI (gL g i))))] H := hP
          have hD : va_D (inW [(ad 20, .inr (5, [.int th, .int (nI (gV g)), .int (nI (gC g)), .int (nI (gE g)), .ref (ad 21), .ref (ad 22), .ref (ad 23), .ref (ad 24), .ref (ad 25), .int kn, .ref (ad 26), .ref (ad 27), .ref (ad 28), .int ms, .ref (ad 29), .ref (ad 30)])), (ad 21, .inl (cy 0, 6, .inl (fun i => nI (gL g i))))]) [(ad 20, .inr (5, [.int (nI 0), .int (nI (gV g)), .int (nI (gC g)), .int (nI (gE g)), .ref (ad 21), .ref (ad 22), .ref (ad 23), .ref (ad 24), .ref (ad 25), .int kn, .ref (ad 26), .ref (ad 27), .ref (ad 28), .int ms, .ref (ad 29), .ref (ad 30)])), (ad 21, .inl (cy 0, 6, .inl (fun i => nI (gL g i))))] := hD
          refine b_eq (b := false) (tgt := 35) hx hb dX6_make_31 (by decide) (fun c31 => ?_) (fun c31 => ?_)
          · refine lv_aload_n hx hb dX6_make_35 rfl (lv_at hl 0 rfl) ?_
            refine lv_iload_n hx hb dX6_make_36 rfl (lv_at hl 1 rfl) ?_
            refine va_put (D := D) (ci := 5) (v := .int (nI a)) (ty := .int) (C := RX6) (T := TX6) (N := 16) hx hb hts inX6 tyX6 tyX6_ok nmX6 hown hK.1 hP hD hS 0 rfl rfl 1 (by decide) (hts (.fieldLink RX6 7 "ColourForestsModel" "vertices" "I") (List.mem_of_getElem? (i := 1) rfl)) (fun _ h9 => h9) rfl (by decide +kernel) rfl rfl (Nat.le_of_ble_eq_true rfl) dX6_make_37 (fun H locs hP hD hS => ?_)
            have hP : va_P D vwCl [(ad 20, .inr (5, [.int (nI 0), .int (nI a), .int (nI (gC g)), .int (nI (gE g)), .ref (ad 21), .ref (ad 22), .ref (ad 23), .ref (ad 24), .ref (ad 25), .int kn, .ref (ad 26), .ref (ad 27), .ref (ad 28), .int ms, .ref (ad 29), .ref (ad 30)])), (ad 21, .inl (cy 0, 6, .inl (fun i => nI (gL g i))))] H := hP
            have hD : va_D (inW [(ad 20, .inr (5, [.int th, .int (nI (gV g)), .int (nI (gC g)), .int (nI (gE g)), .ref (ad 21), .ref (ad 22), .ref (ad 23), .ref (ad 24), .ref (ad 25), .int kn, .ref (ad 26), .ref (ad 27), .ref (ad 28), .int ms, .ref (ad 29), .ref (ad 30)])), (ad 21, .inl (cy 0, 6, .inl (fun i => nI (gL g i))))]) [(ad 20, .inr (5, [.int (nI 0), .int (nI a), .int (nI (gC g)), .int (nI (gE g)), .ref (ad 21), .ref (ad 22), .ref (ad 23), .ref (ad 24), .ref (ad 25), .int kn, .ref (ad 26), .ref (ad 27), .ref (ad 28), .int ms, .ref (ad 29), .ref (ad 30)])), (ad 21, .inl (cy 0, 6, .inl (fun i => nI (gL g i))))] := hD
            refine lv_aload_n hx hb dX6_make_40 rfl (lv_at hl 0 rfl) ?_
            refine lv_iload_n hx hb dX6_make_41 rfl (lv_at hl 2 rfl) ?_
            refine va_put (D := D) (ci := 5) (v := .int (nI b)) (ty := .int) (C := RX6) (T := TX6) (N := 16) hx hb hts inX6 tyX6 tyX6_ok nmX6 hown hK.1 hP hD hS 0 rfl rfl 2 (by decide) (hts (.fieldLink RX6 13 "ColourForestsModel" "colours" "I") (List.mem_of_getElem? (i := 2) rfl)) (fun _ h9 => h9) rfl (by decide +kernel) rfl rfl (Nat.le_of_ble_eq_true rfl) dX6_make_42 (fun H locs hP hD hS => ?_)
            have hP : va_P D vwCl [(ad 20, .inr (5, [.int (nI 0), .int (nI a), .int (nI b), .int (nI (gE g)), .ref (ad 21), .ref (ad 22), .ref (ad 23), .ref (ad 24), .ref (ad 25), .int kn, .ref (ad 26), .ref (ad 27), .ref (ad 28), .int ms, .ref (ad 29), .ref (ad 30)])), (ad 21, .inl (cy 0, 6, .inl (fun i => nI (gL g i))))] H := hP
            have hD : va_D (inW [(ad 20, .inr (5, [.int th, .int (nI (gV g)), .int (nI (gC g)), .int (nI (gE g)), .ref (ad 21), .ref (ad 22), .ref (ad 23), .ref (ad 24), .ref (ad 25), .int kn, .ref (ad 26), .ref (ad 27), .ref (ad 28), .int ms, .ref (ad 29), .ref (ad 30)])), (ad 21, .inl (cy 0, 6, .inl (fun i => nI (gL g i))))]) [(ad 20, .inr (5, [.int (nI 0), .int (nI a), .int (nI b), .int (nI (gE g)), .ref (ad 21), .ref (ad 22), .ref (ad 23), .ref (ad 24), .ref (ad 25), .int kn, .ref (ad 26), .ref (ad 27), .ref (ad 28), .int ms, .ref (ad 29), .ref (ad 30)])), (ad 21, .inl (cy 0, 6, .inl (fun i => nI (gL g i))))] := hD
            refine lv_aload_n hx hb dX6_make_45 rfl (lv_at hl 0 rfl) ?_
            refine lv_iconst (v := nI 0) hx hb dX6_make_46 (by decide) ?_
            refine va_put (D := D) (ci := 5) (v := .int (nI 0)) (ty := .int) (C := RX6) (T := TX6) (N := 16) hx hb hts inX6 tyX6 tyX6_ok nmX6 hown hK.1 hP hD hS 0 rfl rfl 3 (by decide) (hts (.fieldLink RX6 56 "ColourForestsModel" "edges" "I") (List.mem_of_getElem? (i := 3) rfl)) (fun _ h9 => h9) rfl (by decide +kernel) rfl rfl (Nat.le_of_ble_eq_true rfl) dX6_make_47 (fun H locs hP hD hS => ?_)
            have hP : va_P D vwCl [(ad 20, .inr (5, [.int (nI 0), .int (nI a), .int (nI b), .int (nI 0), .ref (ad 21), .ref (ad 22), .ref (ad 23), .ref (ad 24), .ref (ad 25), .int kn, .ref (ad 26), .ref (ad 27), .ref (ad 28), .int ms, .ref (ad 29), .ref (ad 30)])), (ad 21, .inl (cy 0, 6, .inl (fun i => nI (gL g i))))] H := hP
            have hD : va_D (inW [(ad 20, .inr (5, [.int th, .int (nI (gV g)), .int (nI (gC g)), .int (nI (gE g)), .ref (ad 21), .ref (ad 22), .ref (ad 23), .ref (ad 24), .ref (ad 25), .int kn, .ref (ad 26), .ref (ad 27), .ref (ad 28), .int ms, .ref (ad 29), .ref (ad 30)])), (ad 21, .inl (cy 0, 6, .inl (fun i => nI (gL g i))))]) [(ad 20, .inr (5, [.int (nI 0), .int (nI a), .int (nI b), .int (nI 0), .ref (ad 21), .ref (ad 22), .ref (ad 23), .ref (ad 24), .ref (ad 25), .int kn, .ref (ad 26), .ref (ad 27), .ref (ad 28), .int ms, .ref (ad 29), .ref (ad 30)])), (ad 21, .inl (cy 0, 6, .inl (fun i => nI (gL g i))))] := hD
            refine lv_iconst (v := nI 0) hx hb dX6_make_50 (by decide) ?_
            refine lv_istore_n (lv' := [(3, .int (nI 0)), (0, .ref (ad 20)), (1, .int (nI a)), (2, .int (nI b))]) hx hb dX6_make_51 rfl hl (by decide) rfl (fun ls hl => ?_)
            have L52 : ∀ (n : Nat) (v : Nat), v ≤ 6 ∧ 7 ≤ v + n → ∀ (H : Heap) (locs : List Loc), va_P D vwCl [(ad 20, .inr (5, [.int (nI 0), .int (nI a), .int (nI b), .int (nI 0), .ref (ad 21), .ref (ad 22), .ref (ad 23), .ref (ad 24), .ref (ad 25), .int kn, .ref (ad 26), .ref (ad 27), .ref (ad 28), .int ms, .ref (ad 29), .ref (ad 30)])), (ad 21, .inl (cy 0, 6, .inl (fun i => nI (if i < v then 1 else gL g i))))] H → va_D (inW [(ad 20, .inr (5, [.int th, .int (nI (gV g)), .int (nI (gC g)), .int (nI (gE g)), .ref (ad 21), .ref (ad 22), .ref (ad 23), .ref (ad 24), .ref (ad 25), .int kn, .ref (ad 26), .ref (ad 27), .ref (ad 28), .int ms, .ref (ad 29), .ref (ad 30)])), (ad 21, .inl (cy 0, 6, .inl (fun i => nI (gL g i))))]) [(ad 20, .inr (5, [.int (nI 0), .int (nI a), .int (nI b), .int (nI 0), .ref (ad 21), .ref (ad 22), .ref (ad 23), .ref (ad 24), .ref (ad 25), .int kn, .ref (ad 26), .ref (ad 27), .ref (ad 28), .int ms, .ref (ad 29), .ref (ad 30)])), (ad 21, .inl (cy 0, 6, .inl (fun i => nI (if i < v then 1 else gL g i))))] → va_S (inW [(ad 20, .inr (5, [.int th, .int (nI (gV g)), .int (nI (gC g)), .int (nI (gE g)), .ref (ad 21), .ref (ad 22), .ref (ad 23), .ref (ad 24), .ref (ad 25), .int kn, .ref (ad 26), .ref (ad 27), .ref (ad 28), .int ms, .ref (ad 29), .ref (ad 30)])), (ad 21, .inl (cy 0, 6, .inl (fun i => nI (gL g i))))]) s.heap H locs → ∀ (ls : Array Slot), lv_has ls 4 [(0, .ref (ad 20)), (3, .int (nI v))] → W p l ev (headSpec wsX6_make ({ frames := 1, cells := 0, slots := 0, locals := 21 })).room s m [.ref (ad 20), .int (nI a), .int (nI b)].toArray below meth c H locs 0 0 (MQ below (va_Qv (fun _ : Unit => True) (fun u t => va_P D vwCl ((fun _ : Unit => [(ad 20, .inr (5, [.int (nI 0), .int (nI (gV (mkG a b g))), .int (nI (gC (mkG a b g))), .int (nI (gE (mkG a b g))), .ref (ad 21), .ref (ad 22), .ref (ad 23), .ref (ad 24), .ref (ad 25), .int (bI false), .ref (ad 26), .ref (ad 27), .ref (ad 28), .int ms, .ref (ad 29), .ref (ad 30)])), (ad 21, .inl (cy 0, 6, .inl (fun i => nI (gL (mkG a b g) i))))]) u) t.heap) (inW [(ad 20, .inr (5, [.int th, .int (nI (gV g)), .int (nI (gC g)), .int (nI (gE g)), .ref (ad 21), .ref (ad 22), .ref (ad 23), .ref (ad 24), .ref (ad 25), .int kn, .ref (ad 26), .ref (ad 27), .ref (ad 28), .int ms, .ref (ad 29), .ref (ad 30)])), (ad 21, .inl (cy 0, 6, .inl (fun i => nI (gL g i))))])) [.ref (ad 20), .int (nI a), .int (nI b)].toArray s 0 0 (inW [(ad 20, .inr (5, [.int th, .int (nI (gV g)), .int (nI (gC g)), .int (nI (gE g)), .ref (ad 21), .ref (ad 22), .ref (ad 23), .ref (ad 24), .ref (ad 25), .int kn, .ref (ad 26), .ref (ad 27), .ref (ad 28), .int ms, .ref (ad 29), .ref (ad 30)])), (ad 21, .inl (cy 0, 6, .inl (fun i => nI (gL g i))))])) (F0 m 52 ls []) := by
              intro n
              induction n with
              | zero =>
                intro v hfuel  H locs hP hD hS ls hl
                exact absurd hfuel.2 (by have := hfuel.1; omega)
              | succ n ih52 =>
                intro v hfuel  H locs hP hD hS ls hl
                obtain ⟨hfu1, hfu2⟩ := hfuel
                refine lv_iload_n hx hb dX6_make_52 rfl (lv_at hl 1 rfl) ?_
                refine lv_bipush (v := nI 6) hx hb dX6_make_53 (by decide) ?_
                refine n_ge (a := v) (b := 6) (tgt := 71) hx hb dX6_make_55 (by decide) (by omega) (by omega) (fun c55 => ?_) (fun c55 => ?_)
                · refine lv_aload_n hx hb dX6_make_71 rfl (lv_at hl 0 rfl) ?_
                  refine lv_iconst (v := nI 0) hx hb dX6_make_72 (by decide) ?_
                  refine va_put (D := D) (ci := 5) (v := .int (nI 0)) (ty := .boolean) (C := RX6) (T := TX6) (N := 16) hx hb hts inX6 tyX6 tyX6_ok nmX6 hown hK.1 hP hD hS 0 rfl rfl 9 (by decide) (hts (.fieldLink RX6 59 "ColourForestsModel" "known" "Z") (List.mem_of_getElem? (i := 5) rfl)) (fun _ h9 => h9) rfl (by decide +kernel) (by decide) rfl (Nat.le_of_ble_eq_true rfl) dX6_make_73 (fun H locs hP hD hS => ?_)
                  have hP : va_P D vwCl [(ad 20, .inr (5, [.int (nI 0), .int (nI a), .int (nI b), .int (nI 0), .ref (ad 21), .ref (ad 22), .ref (ad 23), .ref (ad 24), .ref (ad 25), .int (nI 0), .ref (ad 26), .ref (ad 27), .ref (ad 28), .int ms, .ref (ad 29), .ref (ad 30)])), (ad 21, .inl (cy 0, 6, .inl (fun i => nI (if i < v then 1 else gL g i))))] H := hP
                  have hD : va_D (inW [(ad 20, .inr (5, [.int th, .int (nI (gV g)), .int (nI (gC g)), .int (nI (gE g)), .ref (ad 21), .ref (ad 22), .ref (ad 23), .ref (ad 24), .ref (ad 25), .int kn, .ref (ad 26), .ref (ad 27), .ref (ad 28), .int ms, .ref (ad 29), .ref (ad 30)])), (ad 21, .inl (cy 0, 6, .inl (fun i => nI (gL g i))))]) [(ad 20, .inr (5, [.int (nI 0), .int (nI a), .int (nI b), .int (nI 0), .ref (ad 21), .ref (ad 22), .ref (ad 23), .ref (ad 24), .ref (ad 25), .int (nI 0), .ref (ad 26), .ref (ad 27), .ref (ad 28), .int ms, .ref (ad 29), .ref (ad 30)])), (ad 21, .inl (cy 0, 6, .inl (fun i => nI (if i < v then 1 else gL g i))))] := hD
                  have hve : v = 6 := by omega
                  subst hve
                  exact wv_ret () hx hb hr hlocks hS hP trivial dX6_make_76
                · refine lv_aload_n hx hb dX6_make_58 rfl (lv_at hl 0 rfl) ?_
                  refine va_get (D := D) (ci := 5) (v := .ref (ad 21)) (C := RX6) (T := TX6) (N := 16) hx hb hts inX6 hown hK.1 hP 0 rfl rfl 4 (by decide) (hts (.fieldLink RX6 16 "ColourForestsModel" "limits" "[I") (List.mem_of_getElem? (i := 4) rfl)) (fun _ h9 => h9) rfl dX6_make_59 ?_
                  refine lv_iload_n hx hb dX6_make_62 rfl (lv_at hl 1 rfl) ?_
                  refine lv_iconst (v := nI 1) hx hb dX6_make_63 (by decide) ?_
                  refine st_i (k := v) (g := (fun i => nI (if i < v + 1 then 1 else gL g i))) hx hb hK hP hD hS 1 rfl (by omega) (by decide) (upd_lim _ _) dX6_make_64 (fun H locs hP hD hS => ?_)
                  have hP : va_P D vwCl [(ad 20, .inr (5, [.int (nI 0), .int (nI a), .int (nI b), .int (nI 0), .ref (ad 21), .ref (ad 22), .ref (ad 23), .ref (ad 24), .ref (ad 25), .int kn, .ref (ad 26), .ref (ad 27), .ref (ad 28), .int ms, .ref (ad 29), .ref (ad 30)])), (ad 21, .inl (cy 0, 6, .inl (fun i => nI (if i < v + 1 then 1 else gL g i))))] H := hP
                  have hD : va_D (inW [(ad 20, .inr (5, [.int th, .int (nI (gV g)), .int (nI (gC g)), .int (nI (gE g)), .ref (ad 21), .ref (ad 22), .ref (ad 23), .ref (ad 24), .ref (ad 25), .int kn, .ref (ad 26), .ref (ad 27), .ref (ad 28), .int ms, .ref (ad 29), .ref (ad 30)])), (ad 21, .inl (cy 0, 6, .inl (fun i => nI (gL g i))))]) [(ad 20, .inr (5, [.int (nI 0), .int (nI a), .int (nI b), .int (nI 0), .ref (ad 21), .ref (ad 22), .ref (ad 23), .ref (ad 24), .ref (ad 25), .int kn, .ref (ad 26), .ref (ad 27), .ref (ad 28), .int ms, .ref (ad 29), .ref (ad 30)])), (ad 21, .inl (cy 0, 6, .inl (fun i => nI (if i < v + 1 then 1 else gL g i))))] := hD
                  refine lv_iinc (v := (nI (v + 1))) (lv' := [(3, .int (nI (v + 1))), (0, .ref (ad 20))]) hx hb dX6_make_65 hl (k := 1) rfl (ni_inc _) (by decide) rfl (fun ls hl => ?_)
                  refine lv_goto (tgt := 52) hx hb dX6_make_68 (by decide) ?_
                  exact ih52 (v + 1) ⟨by omega, by omega⟩  _ _ hP hD hS _ (lv_sub hl [1, 0] rfl)
            exact L52 7 0 ⟨by omega, by omega⟩  _ _ (by rw [lim_0]; exact hP) (va_D_same rfl hD) hS _ (lv_sub hl [1, 0] rfl)
          · cases c31
        · exact absurd c20 (by omega)

set_option maxHeartbeats 4000000 in
set_option maxRecDepth 100000 in
theorem c_X6_edge_no (l : Launch) (D : va_G) (cy : Nat → ClassId) (ad : Nat → Nat) {g : GT} (hg : gOK g) (th kn ms : Int32) {x y z w : Int32} (h : edOK g x y z w = false) : WI l yX6_edge wsX6_edge ({ frames := 1, cells := 0, slots := 0, locals := 20 }) D cy [.ref (ad 20), .int x, .int y, .int z, .int w] [(ad 20, .inr (5, [.int th, .int (nI (gV g)), .int (nI (gC g)), .int (nI (gE g)), .ref (ad 21), .ref (ad 22), .ref (ad 23), .ref (ad 24), .ref (ad 25), .int kn, .ref (ad 26), .ref (ad 27), .ref (ad 28), .int ms, .ref (ad 29), .ref (ad 30)]))] (fun (r : Int32) (_ : Unit) => r = zI (-1)) (fun _ : Unit => [(ad 20, .inr (5, [.int (nI 0), .int (nI (gV g)), .int (nI (gC g)), .int (nI (gE g)), .ref (ad 21), .ref (ad 22), .ref (ad 23), .ref (ad 24), .ref (ad 25), .int kn, .ref (ad 26), .ref (ad 27), .ref (ad 28), .int ms, .ref (ad 29), .ref (ad 30)]))]) := by
  refine Met.ofW (cc := cX6_edge) (maxL := 6) (ret := (some .int)) (by decide) rfl ?_
  intro p ev s m args below meth c s₁ B hml hv
  obtain ⟨rfl, ⟨hK, hP⟩, hD0⟩ := hv
  have hx := B.exec
  have hb := B.bytes
  have hr := B.returns
  have hts := atoms_spec (ws := wsX6_edge) B.pre
  have hown : s.vm.findClass RX6 = some m.cls := findClass_of_methodNamed B.named
  have hlocks := B.notSynchronized
  have hD : va_D (inW [(ad 20, .inr (5, [.int th, .int (nI (gV g)), .int (nI (gC g)), .int (nI (gE g)), .ref (ad 21), .ref (ad 22), .ref (ad 23), .ref (ad 24), .ref (ad 25), .int kn, .ref (ad 26), .ref (ad 27), .ref (ad 28), .int ms, .ref (ad 29), .ref (ad 30)]))]) ([(ad 20, .inr (5, [.int th, .int (nI (gV g)), .int (nI (gC g)), .int (nI (gE g)), .ref (ad 21), .ref (ad 22), .ref (ad 23), .ref (ad 24), .ref (ad 25), .int kn, .ref (ad 26), .ref (ad 27), .ref (ad 28), .int ms, .ref (ad 29), .ref (ad 30)]))]) := inW_self hD0
  have hS : va_S (inW [(ad 20, .inr (5, [.int th, .int (nI (gV g)), .int (nI (gC g)), .int (nI (gE g)), .ref (ad 21), .ref (ad 22), .ref (ad 23), .ref (ad 24), .ref (ad 25), .int kn, .ref (ad 26), .ref (ad 27), .ref (ad 28), .int ms, .ref (ad 29), .ref (ad 30)]))]) s.heap s.heap [] := va_S.rf
  have hP : va_P D vwCl [(ad 20, .inr (5, [.int th, .int (nI (gV g)), .int (nI (gC g)), .int (nI (gE g)), .ref (ad 21), .ref (ad 22), .ref (ad 23), .ref (ad 24), .ref (ad 25), .int kn, .ref (ad 26), .ref (ad 27), .ref (ad 28), .int ms, .ref (ad 29), .ref (ad 30)]))] s.heap := hP
  have inX6 : ∀ w ∈ wsX60, w ∈ wsX6_edge := by decide +kernel
  have hl := lv_entry ([.ref (ad 20), .int x, .int y, .int z, .int w]) (n := 6) (Nat.le_of_ble_eq_true rfl)
  rw [lg_entry_eq]
  generalize (lg_sl ([.ref (ad 20), .int x, .int y, .int z, .int w]) ++ List.replicate (6 - (lg_sl ([.ref (ad 20), .int x, .int y, .int z, .int w])).length) Slot.unset).toArray = ls at hl ⊢
  have hl : lv_has ls 6 [(0, .ref (ad 20)), (1, .int x), (2, .int y), (3, .int z), (4, .int w)] := hl
  have hgen := True.intro
  have hE := hg.2.2.1
  have hV := hg.1
  have hC := hg.2.1
  refine lv_aload_n hx hb dX6_edge_0 rfl (lv_at hl 0 rfl) ?_
  refine lv_iconst (v := nI 0) hx hb dX6_edge_1 (by decide) ?_
  refine va_put (D := D) (ci := 5) (v := .int (nI 0)) (ty := .int) (C := RX6) (T := TX6) (N := 16) hx hb hts inX6 tyX6 tyX6_ok nmX6 hown hK.1 hP hD hS 0 rfl rfl 0 (by decide) (hts (.fieldLink RX6 49 "ColourForestsModel" "thrown" "I") (List.mem_of_getElem? (i := 1) rfl)) (fun _ h9 => h9) rfl (by decide +kernel) rfl rfl (Nat.le_of_ble_eq_true rfl) dX6_edge_2 (fun H locs hP hD hS => ?_)
  have hP : va_P D vwCl [(ad 20, .inr (5, [.int (nI 0), .int (nI (gV g)), .int (nI (gC g)), .int (nI (gE g)), .ref (ad 21), .ref (ad 22), .ref (ad 23), .ref (ad 24), .ref (ad 25), .int kn, .ref (ad 26), .ref (ad 27), .ref (ad 28), .int ms, .ref (ad 29), .ref (ad 30)]))] H := hP
  have hD : va_D (inW [(ad 20, .inr (5, [.int th, .int (nI (gV g)), .int (nI (gC g)), .int (nI (gE g)), .ref (ad 21), .ref (ad 22), .ref (ad 23), .ref (ad 24), .ref (ad 25), .int kn, .ref (ad 26), .ref (ad 27), .ref (ad 28), .int ms, .ref (ad 29), .ref (ad 30)]))]) [(ad 20, .inr (5, [.int (nI 0), .int (nI (gV g)), .int (nI (gC g)), .int (nI (gE g)), .ref (ad 21), .ref (ad 22), .ref (ad 23), .ref (ad 24), .ref (ad 25), .int kn, .ref (ad 26), .ref (ad 27), .ref (ad 28), .int ms, .ref (ad 29), .ref (ad 30)]))] := hD
  refine lv_iload_n hx hb dX6_edge_5 rfl (lv_at hl 1 rfl) ?_
  refine lv_if_lt (tgt := 45) hx hb dX6_edge_6 (by decide) (fun c6 => ?_) (fun c6 => ?_)
  · refine lv_iconst (v := nI 0) hx hb dX6_edge_45 (by decide) ?_
    refine lv_istore (lv' := [(5, .int (nI 0)), (0, .ref (ad 20)), (1, .int x), (2, .int y), (3, .int z), (4, .int w)]) hx hb dX6_edge_46 hl (by decide) rfl (fun ls hl => ?_)
    refine lv_iload hx hb dX6_edge_48 (lv_at hl 0 rfl) ?_
    refine lv_if_eq (tgt := 70) hx hb dX6_edge_50 (by decide) (fun c50 => ?_) (fun c50 => ?_)
    · refine lv_iconst (v := zI (-1)) hx hb dX6_edge_70 (by decide) ?_
      exact wi_ret () hx hb hr hlocks hS hP rfl dX6_edge_71
    · exact absurd (by decide) c50
  · refine lv_iload_n hx hb dX6_edge_9 rfl (lv_at hl 1 rfl) ?_
    refine lv_aload_n hx hb dX6_edge_10 rfl (lv_at hl 0 rfl) ?_
    refine va_get (D := D) (ci := 5) (v := .int (nI (gV g))) (C := RX6) (T := TX6) (N := 16) hx hb hts inX6 hown hK.1 hP 0 rfl rfl 1 (by decide) (hts (.fieldLink RX6 7 "ColourForestsModel" "vertices" "I") (List.mem_of_getElem? (i := 2) rfl)) (fun _ h9 => h9) rfl dX6_edge_11 ?_
    refine lv_icmp_ge (tgt := 45) hx hb dX6_edge_14 (by decide) (fun c14 => ?_) (fun c14 => ?_)
    · refine lv_iconst (v := nI 0) hx hb dX6_edge_45 (by decide) ?_
      refine lv_istore (lv' := [(5, .int (nI 0)), (0, .ref (ad 20)), (1, .int x), (2, .int y), (3, .int z), (4, .int w)]) hx hb dX6_edge_46 hl (by decide) rfl (fun ls hl => ?_)
      refine lv_iload hx hb dX6_edge_48 (lv_at hl 0 rfl) ?_
      refine lv_if_eq (tgt := 70) hx hb dX6_edge_50 (by decide) (fun c50 => ?_) (fun c50 => ?_)
      · refine lv_iconst (v := zI (-1)) hx hb dX6_edge_70 (by decide) ?_
        exact wi_ret () hx hb hr hlocks hS hP rfl dX6_edge_71
      · exact absurd (by decide) c50
    · refine lv_iload_n hx hb dX6_edge_17 rfl (lv_at hl 2 rfl) ?_
      refine lv_if_lt (tgt := 45) hx hb dX6_edge_18 (by decide) (fun c18 => ?_) (fun c18 => ?_)
      · refine lv_iconst (v := nI 0) hx hb dX6_edge_45 (by decide) ?_
        refine lv_istore (lv' := [(5, .int (nI 0)), (0, .ref (ad 20)), (1, .int x), (2, .int y), (3, .int z), (4, .int w)]) hx hb dX6_edge_46 hl (by decide) rfl (fun ls hl => ?_)
        refine lv_iload hx hb dX6_edge_48 (lv_at hl 0 rfl) ?_
        refine lv_if_eq (tgt := 70) hx hb dX6_edge_50 (by decide) (fun c50 => ?_) (fun c50 => ?_)
        · refine lv_iconst (v := zI (-1)) hx hb dX6_edge_70 (by decide) ?_
          exact wi_ret () hx hb hr hlocks hS hP rfl dX6_edge_71
        · exact absurd (by decide) c50
      · refine lv_iload_n hx hb dX6_edge_21 rfl (lv_at hl 2 rfl) ?_
        refine lv_aload_n hx hb dX6_edge_22 rfl (lv_at hl 0 rfl) ?_
        refine va_get (D := D) (ci := 5) (v := .int (nI (gV g))) (C := RX6) (T := TX6) (N := 16) hx hb hts inX6 hown hK.1 hP 0 rfl rfl 1 (by decide) (hts (.fieldLink RX6 7 "ColourForestsModel" "vertices" "I") (List.mem_of_getElem? (i := 2) rfl)) (fun _ h9 => h9) rfl dX6_edge_23 ?_
        refine lv_icmp_ge (tgt := 45) hx hb dX6_edge_26 (by decide) (fun c26 => ?_) (fun c26 => ?_)
        · refine lv_iconst (v := nI 0) hx hb dX6_edge_45 (by decide) ?_
          refine lv_istore (lv' := [(5, .int (nI 0)), (0, .ref (ad 20)), (1, .int x), (2, .int y), (3, .int z), (4, .int w)]) hx hb dX6_edge_46 hl (by decide) rfl (fun ls hl => ?_)
          refine lv_iload hx hb dX6_edge_48 (lv_at hl 0 rfl) ?_
          refine lv_if_eq (tgt := 70) hx hb dX6_edge_50 (by decide) (fun c50 => ?_) (fun c50 => ?_)
          · refine lv_iconst (v := zI (-1)) hx hb dX6_edge_70 (by decide) ?_
            exact wi_ret () hx hb hr hlocks hS hP rfl dX6_edge_71
          · exact absurd (by decide) c50
        · refine lv_iload_n hx hb dX6_edge_29 rfl (lv_at hl 3 rfl) ?_
          refine lv_if_lt (tgt := 45) hx hb dX6_edge_30 (by decide) (fun c30 => ?_) (fun c30 => ?_)
          · refine lv_iconst (v := nI 0) hx hb dX6_edge_45 (by decide) ?_
            refine lv_istore (lv' := [(5, .int (nI 0)), (0, .ref (ad 20)), (1, .int x), (2, .int y), (3, .int z), (4, .int w)]) hx hb dX6_edge_46 hl (by decide) rfl (fun ls hl => ?_)
            refine lv_iload hx hb dX6_edge_48 (lv_at hl 0 rfl) ?_
            refine lv_if_eq (tgt := 70) hx hb dX6_edge_50 (by decide) (fun c50 => ?_) (fun c50 => ?_)
            · refine lv_iconst (v := zI (-1)) hx hb dX6_edge_70 (by decide) ?_
              exact wi_ret () hx hb hr hlocks hS hP rfl dX6_edge_71
            · exact absurd (by decide) c50
          · refine lv_iload_n hx hb dX6_edge_33 rfl (lv_at hl 3 rfl) ?_
            refine lv_aload_n hx hb dX6_edge_34 rfl (lv_at hl 0 rfl) ?_
            refine va_get (D := D) (ci := 5) (v := .int (nI (gC g))) (C := RX6) (T := TX6) (N := 16) hx hb hts inX6 hown hK.1 hP 0 rfl rfl 2 (by decide) (hts (.fieldLink RX6 13 "ColourForestsModel" "colours" "I") (List.mem_of_getElem? (i := 3) rfl)) (fun _ h9 => h9) rfl dX6_edge_35 ?_
            refine lv_icmp_ge (tgt := 45) hx hb dX6_edge_38 (by decide) (fun c38 => ?_) (fun c38 => ?_)
            · refine lv_iconst (v := nI 0) hx hb dX6_edge_45 (by decide) ?_
              refine lv_istore (lv' := [(5, .int (nI 0)), (0, .ref (ad 20)), (1, .int x), (2, .int y), (3, .int z), (4, .int w)]) hx hb dX6_edge_46 hl (by decide) rfl (fun ls hl => ?_)
              refine lv_iload hx hb dX6_edge_48 (lv_at hl 0 rfl) ?_
              refine lv_if_eq (tgt := 70) hx hb dX6_edge_50 (by decide) (fun c50 => ?_) (fun c50 => ?_)
              · refine lv_iconst (v := zI (-1)) hx hb dX6_edge_70 (by decide) ?_
                exact wi_ret () hx hb hr hlocks hS hP rfl dX6_edge_71
              · exact absurd (by decide) c50
            · refine lv_iconst (v := nI 1) hx hb dX6_edge_41 (by decide) ?_
              refine lv_goto (tgt := 46) hx hb dX6_edge_42 (by decide) ?_
              refine lv_istore (lv' := [(5, .int (nI 1)), (0, .ref (ad 20)), (1, .int x), (2, .int y), (3, .int z), (4, .int w)]) hx hb dX6_edge_46 hl (by decide) rfl (fun ls hl => ?_)
              refine lv_iload hx hb dX6_edge_48 (lv_at hl 0 rfl) ?_
              refine lv_if_eq (tgt := 70) hx hb dX6_edge_50 (by decide) (fun c50 => ?_) (fun c50 => ?_)
              · exact absurd c50 (by decide)
              · refine lv_iload hx hb dX6_edge_53 (lv_at hl 5 rfl) ?_
                refine pu_call (va_runS (As := [.int w]) (rest := []) ⟨hx, hb, hml, hown, hts⟩ (c_X6_isHeavy l D cy w) (va_cwS 1 hts gX6_edge_X6_isHeavy rfl rfl rfl (by decide +kernel) ⟨Nat.le_of_ble_eq_true rfl, Nat.le_of_ble_eq_true rfl⟩) (PU_preS hK hP [] rfl) rfl rfl hl.1 rfl (lv_room (Nat.le_of_ble_eq_true rfl)) dX6_edge_55 ⟨(Nat.zero_le _), (Nat.zero_le _)⟩) hS hP (fun H locs hP hS => ?_)
                refine b_ne (b := (!isW w)) (tgt := 70) hx hb dX6_edge_58 (by decide) (fun c58 => ?_) (fun c58 => ?_)
                · have c58 := b_nf c58
                  refine lv_iconst (v := zI (-1)) hx hb dX6_edge_70 (by decide) ?_
                  exact wi_ret () hx hb hr hlocks hS hP rfl dX6_edge_71
                · have c58 := b_nt c58
                  refine lv_aload_n hx hb dX6_edge_61 rfl (lv_at hl 1 rfl) ?_
                  refine va_get (D := D) (ci := 5) (v := .int (nI (gE g))) (C := RX6) (T := TX6) (N := 16) hx hb hts inX6 hown hK.1 hP 0 rfl rfl 3 (by decide) (hts (.fieldLink RX6 56 "ColourForestsModel" "edges" "I") (List.mem_of_getElem? (i := 4) rfl)) (fun _ h9 => h9) rfl dX6_edge_62 ?_
                  refine lv_bipush (v := nI 14) hx hb dX6_edge_65 (by decide) ?_
                  refine n_ne (a := (gE g)) (b := 14) (tgt := 72) hx hb dX6_edge_67 (by decide) (by omega) (by omega) (fun c67 => ?_) (fun c67 => ?_)
                  · exact absurd h (by unfold edOK; rw [isN_t (by omega) c6 c14, isN_t (by omega) c18 c26, isN_t (by omega) c30 c38, c58, decide_eq_true (show gE g ≠ 14 from c67)]; decide)
                  · refine lv_iconst (v := zI (-1)) hx hb dX6_edge_70 (by decide) ?_
                    exact wi_ret () hx hb hr hlocks hS hP rfl dX6_edge_71

set_option maxHeartbeats 4000000 in
set_option maxRecDepth 100000 in
theorem c_X6_edge_yes (l : Launch) (D : va_G) (cy : Nat → ClassId) (ad : Nat → Nat) {g : GT} (hg : gOK g) (th kn ms : Int32) {a b c9 : Nat} {w : Int} (ha : a < gV g) (hb9 : b < gV g) (hc9 : c9 < gC g) (hw : -9999 ≤ w ∧ w ≤ 9999) (hE9 : gE g < 14) : WI l yX6_edge wsX6_edge ({ frames := 1, cells := 0, slots := 0, locals := 20 }) D cy [.ref (ad 20), .int (nI a), .int (nI b), .int (nI c9), .int (zI w)] [(ad 20, .inr (5, [.int th, .int (nI (gV g)), .int (nI (gC g)), .int (nI (gE g)), .ref (ad 21), .ref (ad 22), .ref (ad 23), .ref (ad 24), .ref (ad 25), .int kn, .ref (ad 26), .ref (ad 27), .ref (ad 28), .int ms, .ref (ad 29), .ref (ad 30)])), (ad 22, .inl (cy 0, 14, .inl (fun i => nI (gF g i)))), (ad 23, .inl (cy 0, 14, .inl (fun i => nI (gS g i)))), (ad 24, .inl (cy 0, 14, .inl (fun i => nI (gH g i)))), (ad 25, .inl (cy 0, 14, .inl (fun i => zI (gW g i))))] (fun (r : Int32) (_ : Unit) => r = nI (gE g)) (fun _ : Unit => [(ad 20, .inr (5, [.int (nI 0), .int (nI (gV (edG a b c9 w g))), .int (nI (gC (edG a b c9 w g))), .int (nI (gE (edG a b c9 w g))), .ref (ad 21), .ref (ad 22), .ref (ad 23), .ref (ad 24), .ref (ad 25), .int (bI false), .ref (ad 26), .ref (ad 27), .ref (ad 28), .int ms, .ref (ad 29), .ref (ad 30)])), (ad 22, .inl (cy 0, 14, .inl (fun i => nI (gF (edG a b c9 w g) i)))), (ad 23, .inl (cy 0, 14, .inl (fun i => nI (gS (edG a b c9 w g) i)))), (ad 24, .inl (cy 0, 14, .inl (fun i => nI (gH (edG a b c9 w g) i)))), (ad 25, .inl (cy 0, 14, .inl (fun i => zI (gW (edG a b c9 w g) i))))]) := by
  refine Met.ofW (cc := cX6_edge) (maxL := 6) (ret := (some .int)) (by decide) rfl ?_
  intro p ev s m args below meth c s₁ B hml hv
  obtain ⟨rfl, ⟨hK, hP⟩, hD0⟩ := hv
  have hx := B.exec
  have hb := B.bytes
  have hr := B.returns
  have hts := atoms_spec (ws := wsX6_edge) B.pre
  have hown : s.vm.findClass RX6 = some m.cls := findClass_of_methodNamed B.named
  have hlocks := B.notSynchronized
  have hD : va_D (inW [(ad 20, .inr (5, [.int th, .int (nI (gV g)), .int (nI (gC g)), .int (nI (gE g)), .ref (ad 21), .ref (ad 22), .ref (ad 23), .ref (ad 24), .ref (ad 25), .int kn, .ref (ad 26), .ref (ad 27), .ref (ad 28), .int ms, .ref (ad 29), .ref (ad 30)])), (ad 22, .inl (cy 0, 14, .inl (fun i => nI (gF g i)))), (ad 23, .inl (cy 0, 14, .inl (fun i => nI (gS g i)))), (ad 24, .inl (cy 0, 14, .inl (fun i => nI (gH g i)))), (ad 25, .inl (cy 0, 14, .inl (fun i => zI (gW g i))))]) ([(ad 20, .inr (5, [.int th, .int (nI (gV g)), .int (nI (gC g)), .int (nI (gE g)), .ref (ad 21), .ref (ad 22), .ref (ad 23), .ref (ad 24), .ref (ad 25), .int kn, .ref (ad 26), .ref (ad 27), .ref (ad 28), .int ms, .ref (ad 29), .ref (ad 30)])), (ad 22, .inl (cy 0, 14, .inl (fun i => nI (gF g i)))), (ad 23, .inl (cy 0, 14, .inl (fun i => nI (gS g i)))), (ad 24, .inl (cy 0, 14, .inl (fun i => nI (gH g i)))), (ad 25, .inl (cy 0, 14, .inl (fun i => zI (gW g i))))]) := inW_self hD0
  have hS : va_S (inW [(ad 20, .inr (5, [.int th, .int (nI (gV g)), .int (nI (gC g)), .int (nI (gE g)), .ref (ad 21), .ref (ad 22), .ref (ad 23), .ref (ad 24), .ref (ad 25), .int kn, .ref (ad 26), .ref (ad 27), .ref (ad 28), .int ms, .ref (ad 29), .ref (ad 30)])), (ad 22, .inl (cy 0, 14, .inl (fun i => nI (gF g i)))), (ad 23, .inl (cy 0, 14, .inl (fun i => nI (gS g i)))), (ad 24, .inl (cy 0, 14, .inl (fun i => nI (gH g i)))), (ad 25, .inl (cy 0, 14, .inl (fun i => zI (gW g i))))]) s.heap s.heap [] := va_S.rf
  have hP : va_P D vwCl [(ad 20, .inr (5, [.int th, .int (nI (gV g)), .int (nI (gC g)), .int (nI (gE g)), .ref (ad 21), .ref (ad 22), .ref (ad 23), .ref (ad 24), .ref (ad 25), .int kn, .ref (ad 26), .ref (ad 27), .ref (ad 28), .int ms, .ref (ad 29), .ref (ad 30)])), (ad 22, .inl (cy 0, 14, .inl (fun i => nI (gF g i)))), (ad 23, .inl (cy 0, 14, .inl (fun i => nI (gS g i)))), (ad 24, .inl (cy 0, 14, .inl (fun i => nI (gH g i)))), (ad 25, .inl (cy 0, 14, .inl (fun i => zI (gW g i))))] s.heap := hP
  have inX6 : ∀ w ∈ wsX60, w ∈ wsX6_edge := by decide +kernel
  have hl := lv_entry ([.ref (ad 20), .int (nI a), .int (nI b), .int (nI c9), .int (zI w)]) (n := 6) (Nat.le_of_ble_eq_true rfl)
  rw [lg_entry_eq]
  generalize (lg_sl ([.ref (ad 20), .int (nI a), .int (nI b), .int (nI c9), .int (zI w)]) ++ List.replicate (6 - (lg_sl ([.ref (ad 20), .int (nI a), .int (nI b), .int (nI c9), .int (zI w)])).length) Slot.unset).toArray = ls at hl ⊢
  have hl : lv_has ls 6 [(0, .ref (ad 20)), (1, .int (nI a)), (2, .int (nI b)), (3, .int (nI c9)), (4, .int (zI w))] := hl
  have hgen := True.intro
  have hE := hg.2.2.1
  have hV := hg.1
  have hC := hg.2.1
  refine lv_aload_n hx hb dX6_edge_0 rfl (lv_at hl 0 rfl) ?_
  refine lv_iconst (v := nI 0) hx hb dX6_edge_1 (by decide) ?_
  refine va_put (D := D) (ci := 5) (v := .int (nI 0)) (ty := .int) (C := RX6) (T := TX6) (N := 16) hx hb hts inX6 tyX6 tyX6_ok nmX6 hown hK.1 hP hD hS 0 rfl rfl 0 (by decide) (hts (.fieldLink RX6 49 "ColourForestsModel" "thrown" "I") (List.mem_of_getElem? (i := 1) rfl)) (fun _ h9 => h9) rfl (by decide +kernel) rfl rfl (Nat.le_of_ble_eq_true rfl) dX6_edge_2 (fun H locs hP hD hS => ?_)
  have hP : va_P D vwCl [(ad 20, .inr (5, [.int (nI 0), .int (nI (gV g)), .int (nI (gC g)), .int (nI (gE g)), .ref (ad 21), .ref (ad 22), .ref (ad 23), .ref (ad 24), .ref (ad 25), .int kn, .ref (ad 26), .ref (ad 27), .ref (ad 28), .int ms, .ref (ad 29), .ref (ad 30)])), (ad 22, .inl (cy 0, 14, .inl (fun i => nI (gF g i)))), (ad 23, .inl (cy 0, 14, .inl (fun i => nI (gS g i)))), (ad 24, .inl (cy 0, 14, .inl (fun i => nI (gH g i)))), (ad 25, .inl (cy 0, 14, .inl (fun i => zI (gW g i))))] H := hP
  have hD : va_D (inW [(ad 20, .inr (5, [.int th, .int (nI (gV g)), .int (nI (gC g)), .int (nI (gE g)), .ref (ad 21), .ref (ad 22), .ref (ad 23), .ref (ad 24), .ref (ad 25), .int kn, .ref (ad 26), .ref (ad 27), .ref (ad 28), .int ms, .ref (ad 29), .ref (ad 30)])), (ad 22, .inl (cy 0, 14, .inl (fun i => nI (gF g i)))), (ad 23, .inl (cy 0, 14, .inl (fun i => nI (gS g i)))), (ad 24, .inl (cy 0, 14, .inl (fun i => nI (gH g i)))), (ad 25, .inl (cy 0, 14, .inl (fun i => zI (gW g i))))]) [(ad 20, .inr (5, [.int (nI 0), .int (nI (gV g)), .int (nI (gC g)), .int (nI (gE g)), .ref (ad 21), .ref (ad 22), .ref (ad 23), .ref (ad 24), .ref (ad 25), .int kn, .ref (ad 26), .ref (ad 27), .ref (ad 28), .int ms, .ref (ad 29), .ref (ad 30)])), (ad 22, .inl (cy 0, 14, .inl (fun i => nI (gF g i)))), (ad 23, .inl (cy 0, 14, .inl (fun i => nI (gS g i)))), (ad 24, .inl (cy 0, 14, .inl (fun i => nI (gH g i)))), (ad 25, .inl (cy 0, 14, .inl (fun i => zI (gW g i))))] := hD
  refine lv_iload_n hx hb dX6_edge_5 rfl (lv_at hl 1 rfl) ?_
  refine lv_if_lt (tgt := 45) hx hb dX6_edge_6 (by decide) (fun c6 => ?_) (fun c6 => ?_)
  · exact absurd c6 (nlt0 (by omega))
  · refine lv_iload_n hx hb dX6_edge_9 rfl (lv_at hl 1 rfl) ?_
    refine lv_aload_n hx hb dX6_edge_10 rfl (lv_at hl 0 rfl) ?_
    refine va_get (D := D) (ci := 5) (v := .int (nI (gV g))) (C := RX6) (T := TX6) (N := 16) hx hb hts inX6 hown hK.1 hP 0 rfl rfl 1 (by decide) (hts (.fieldLink RX6 7 "ColourForestsModel" "vertices" "I") (List.mem_of_getElem? (i := 2) rfl)) (fun _ h9 => h9) rfl dX6_edge_11 ?_
    refine n_ge (a := a) (b := (gV g)) (tgt := 45) hx hb dX6_edge_14 (by decide) (by omega) (by omega) (fun c14 => ?_) (fun c14 => ?_)
    · exact absurd c14 (by omega)
    · refine lv_iload_n hx hb dX6_edge_17 rfl (lv_at hl 2 rfl) ?_
      refine lv_if_lt (tgt := 45) hx hb dX6_edge_18 (by decide) (fun c18 => ?_) (fun c18 => ?_)
      · exact absurd c18 (nlt0 (by omega))
      · refine lv_iload_n hx hb dX6_edge_21 rfl (lv_at hl 2 rfl) ?_
        refine lv_aload_n hx hb dX6_edge_22 rfl (lv_at hl 0 rfl) ?_
        refine va_get (D := D) (ci := 5) (v := .int (nI (gV g))) (C := RX6) (T := TX6) (N := 16) hx hb hts inX6 hown hK.1 hP 0 rfl rfl 1 (by decide) (hts (.fieldLink RX6 7 "ColourForestsModel" "vertices" "I") (List.mem_of_getElem? (i := 2) rfl)) (fun _ h9 => h9) rfl dX6_edge_23 ?_
        refine n_ge (a := b) (b := (gV g)) (tgt := 45) hx hb dX6_edge_26 (by decide) (by omega) (by omega) (fun c26 => ?_) (fun c26 => ?_)
        · exact absurd c26 (by omega)
        · refine lv_iload_n hx hb dX6_edge_29 rfl (lv_at hl 3 rfl) ?_
          refine lv_if_lt (tgt := 45) hx hb dX6_edge_30 (by decide) (fun c30 => ?_) (fun c30 => ?_)
          · exact absurd c30 (nlt0 (by omega))
          · refine lv_iload_n hx hb dX6_edge_33 rfl (lv_at hl 3 rfl) ?_
            refine lv_aload_n hx hb dX6_edge_34 rfl (lv_at hl 0 rfl) ?_
            refine va_get (D := D) (ci := 5) (v := .int (nI (gC g))) (C := RX6) (T := TX6) (N := 16) hx hb hts inX6 hown hK.1 hP 0 rfl rfl 2 (by decide) (hts (.fieldLink RX6 13 "ColourForestsModel" "colours" "I") (List.mem_of_getElem? (i := 3) rfl)) (fun _ h9 => h9) rfl dX6_edge_35 ?_
            refine n_ge (a := c9) (b := (gC g)) (tgt := 45) hx hb dX6_edge_38 (by decide) (by omega) (by omega) (fun c38 => ?_) (fun c38 => ?_)
            · exact absurd c38 (by omega)
            · refine lv_iconst (v := nI 1) hx hb dX6_edge_41 (by decide) ?_
              refine lv_goto (tgt := 46) hx hb dX6_edge_42 (by decide) ?_
              refine lv_istore (lv' := [(5, .int (nI 1)), (0, .ref (ad 20)), (1, .int (nI a)), (2, .int (nI b)), (3, .int (nI c9)), (4, .int (zI w))]) hx hb dX6_edge_46 hl (by decide) rfl (fun ls hl => ?_)
              refine lv_iload hx hb dX6_edge_48 (lv_at hl 0 rfl) ?_
              refine lv_if_eq (tgt := 70) hx hb dX6_edge_50 (by decide) (fun c50 => ?_) (fun c50 => ?_)
              · exact absurd c50 (by decide)
              · refine lv_iload hx hb dX6_edge_53 (lv_at hl 5 rfl) ?_
                refine pu_call (va_runS (As := [.int (zI w)]) (rest := []) ⟨hx, hb, hml, hown, hts⟩ (c_X6_isHeavy l D cy (zI w)) (va_cwS 1 hts gX6_edge_X6_isHeavy rfl rfl rfl (by decide +kernel) ⟨Nat.le_of_ble_eq_true rfl, Nat.le_of_ble_eq_true rfl⟩) (PU_preS hK hP [] rfl) rfl rfl hl.1 rfl (lv_room (Nat.le_of_ble_eq_true rfl)) dX6_edge_55 ⟨(Nat.zero_le _), (Nat.zero_le _)⟩) hS hP (fun H locs hP hS => ?_)
                refine b_ne (b := (!isW (zI w))) (tgt := 70) hx hb dX6_edge_58 (by decide) (fun c58 => ?_) (fun c58 => ?_)
                · exact absurd c58 (by rw [isW_z hw]; decide)
                · refine lv_aload_n hx hb dX6_edge_61 rfl (lv_at hl 1 rfl) ?_
                  refine va_get (D := D) (ci := 5) (v := .int (nI (gE g))) (C := RX6) (T := TX6) (N := 16) hx hb hts inX6 hown hK.1 hP 0 rfl rfl 3 (by decide) (hts (.fieldLink RX6 56 "ColourForestsModel" "edges" "I") (List.mem_of_getElem? (i := 4) rfl)) (fun _ h9 => h9) rfl dX6_edge_62 ?_
                  refine lv_bipush (v := nI 14) hx hb dX6_edge_65 (by decide) ?_
                  refine n_ne (a := (gE g)) (b := 14) (tgt := 72) hx hb dX6_edge_67 (by decide) (by omega) (by omega) (fun c67 => ?_) (fun c67 => ?_)
                  · refine lv_aload_n hx hb dX6_edge_72 rfl (lv_at hl 1 rfl) ?_
                    refine va_get (D := D) (ci := 5) (v := .ref (ad 22)) (C := RX6) (T := TX6) (N := 16) hx hb hts inX6 hown hK.1 hP 0 rfl rfl 5 (by decide) (hts (.fieldLink RX6 20 "ColourForestsModel" "firsts" "[I") (List.mem_of_getElem? (i := 5) rfl)) (fun _ h9 => h9) rfl dX6_edge_73 ?_
                    refine lv_aload_n hx hb dX6_edge_76 rfl (lv_at hl 1 rfl) ?_
                    refine va_get (D := D) (ci := 5) (v := .int (nI (gE g))) (C := RX6) (T := TX6) (N := 16) hx hb hts inX6 hown hK.1 hP 0 rfl rfl 3 (by decide) (hts (.fieldLink RX6 56 "ColourForestsModel" "edges" "I") (List.mem_of_getElem? (i := 4) rfl)) (fun _ h9 => h9) rfl dX6_edge_77 ?_
                    refine lv_iload_n hx hb dX6_edge_80 rfl (lv_at hl 2 rfl) ?_
                    refine st_i (k := (gE g)) (g := (fun i => nI (upN (gF g) (gE g) a i))) hx hb hK hP hD hS 1 rfl (by omega) (by decide) (upd_nI _ _ _) dX6_edge_81 (fun H locs hP hD hS => ?_)
                    have hP : va_P D vwCl [(ad 20, .inr (5, [.int (nI 0), .int (nI (gV g)), .int (nI (gC g)), .int (nI (gE g)), .ref (ad 21), .ref (ad 22), .ref (ad 23), .ref (ad 24), .ref (ad 25), .int kn, .ref (ad 26), .ref (ad 27), .ref (ad 28), .int ms, .ref (ad 29), .ref (ad 30)])), (ad 22, .inl (cy 0, 14, .inl (fun i => nI (upN (gF g) (gE g) a i)))), (ad 23, .inl (cy 0, 14, .inl (fun i => nI (gS g i)))), (ad 24, .inl (cy 0, 14, .inl (fun i => nI (gH g i)))), (ad 25, .inl (cy 0, 14, .inl (fun i => zI (gW g i))))] H := hP
                    have hD : va_D (inW [(ad 20, .inr (5, [.int th, .int (nI (gV g)), .int (nI (gC g)), .int (nI (gE g)), .ref (ad 21), .ref (ad 22), .ref (ad 23), .ref (ad 24), .ref (ad 25), .int kn, .ref (ad 26), .ref (ad 27), .ref (ad 28), .int ms, .ref (ad 29), .ref (ad 30)])), (ad 22, .inl (cy 0, 14, .inl (fun i => nI (gF g i)))), (ad 23, .inl (cy 0, 14, .inl (fun i => nI (gS g i)))), (ad 24, .inl (cy 0, 14, .inl (fun i => nI (gH g i)))), (ad 25, .inl (cy 0, 14, .inl (fun i => zI (gW g i))))]) [(ad 20, .inr (5, [.int (nI 0), .int (nI (gV g)), .int (nI (gC g)), .int (nI (gE g)), .ref (ad 21), .ref (ad 22), .ref (ad 23), .ref (ad 24), .ref (ad 25), .int kn, .ref (ad 26), .ref (ad 27), .ref (ad 28), .int ms, .ref (ad 29), .ref (ad 30)])), (ad 22, .inl (cy 0, 14, .inl (fun i => nI (upN (gF g) (gE g) a i)))), (ad 23, .inl (cy 0, 14, .inl (fun i => nI (gS g i)))), (ad 24, .inl (cy 0, 14, .inl (fun i => nI (gH g i)))), (ad 25, .inl (cy 0, 14, .inl (fun i => zI (gW g i))))] := hD
                    refine lv_aload_n hx hb dX6_edge_82 rfl (lv_at hl 1 rfl) ?_
                    refine va_get (D := D) (ci := 5) (v := .ref (ad 23)) (C := RX6) (T := TX6) (N := 16) hx hb hts inX6 hown hK.1 hP 0 rfl rfl 6 (by decide) (hts (.fieldLink RX6 23 "ColourForestsModel" "seconds" "[I") (List.mem_of_getElem? (i := 6) rfl)) (fun _ h9 => h9) rfl dX6_edge_83 ?_
                    refine lv_aload_n hx hb dX6_edge_86 rfl (lv_at hl 1 rfl) ?_
                    refine va_get (D := D) (ci := 5) (v := .int (nI (gE g))) (C := RX6) (T := TX6) (N := 16) hx hb hts inX6 hown hK.1 hP 0 rfl rfl 3 (by decide) (hts (.fieldLink RX6 56 "ColourForestsModel" "edges" "I") (List.mem_of_getElem? (i := 4) rfl)) (fun _ h9 => h9) rfl dX6_edge_87 ?_
                    refine lv_iload_n hx hb dX6_edge_90 rfl (lv_at hl 3 rfl) ?_
                    refine st_i (k := (gE g)) (g := (fun i => nI (upN (gS g) (gE g) b i))) hx hb hK hP hD hS 2 rfl (by omega) (by decide) (upd_nI _ _ _) dX6_edge_91 (fun H locs hP hD hS => ?_)
                    have hP : va_P D vwCl [(ad 20, .inr (5, [.int (nI 0), .int (nI (gV g)), .int (nI (gC g)), .int (nI (gE g)), .ref (ad 21), .ref (ad 22), .ref (ad 23), .ref (ad 24), .ref (ad 25), .int kn, .ref (ad 26), .ref (ad 27), .ref (ad 28), .int ms, .ref (ad 29), .ref (ad 30)])), (ad 22, .inl (cy 0, 14, .inl (fun i => nI (upN (gF g) (gE g) a i)))), (ad 23, .inl (cy 0, 14, .inl (fun i => nI (upN (gS g) (gE g) b i)))), (ad 24, .inl (cy 0, 14, .inl (fun i => nI (gH g i)))), (ad 25, .inl (cy 0, 14, .inl (fun i => zI (gW g i))))] H := hP
                    have hD : va_D (inW [(ad 20, .inr (5, [.int th, .int (nI (gV g)), .int (nI (gC g)), .int (nI (gE g)), .ref (ad 21), .ref (ad 22), .ref (ad 23), .ref (ad 24), .ref (ad 25), .int kn, .ref (ad 26), .ref (ad 27), .ref (ad 28), .int ms, .ref (ad 29), .ref (ad 30)])), (ad 22, .inl (cy 0, 14, .inl (fun i => nI (gF g i)))), (ad 23, .inl (cy 0, 14, .inl (fun i => nI (gS g i)))), (ad 24, .inl (cy 0, 14, .inl (fun i => nI (gH g i)))), (ad 25, .inl (cy 0, 14, .inl (fun i => zI (gW g i))))]) [(ad 20, .inr (5, [.int (nI 0), .int (nI (gV g)), .int (nI (gC g)), .int (nI (gE g)), .ref (ad 21), .ref (ad 22), .ref (ad 23), .ref (ad 24), .ref (ad 25), .int kn, .ref (ad 26), .ref (ad 27), .ref (ad 28), .int ms, .ref (ad 29), .ref (ad 30)])), (ad 22, .inl (cy 0, 14, .inl (fun i => nI (upN (gF g) (gE g) a i)))), (ad 23, .inl (cy 0, 14, .inl (fun i => nI (upN (gS g) (gE g) b i)))), (ad 24, .inl (cy 0, 14, .inl (fun i => nI (gH g i)))), (ad 25, .inl (cy 0, 14, .inl (fun i => zI (gW g i))))] := hD
                    refine lv_aload_n hx hb dX6_edge_92 rfl (lv_at hl 1 rfl) ?_
                    refine va_get (D := D) (ci := 5) (v := .ref (ad 24)) (C := RX6) (T := TX6) (N := 16) hx hb hts inX6 hown hK.1 hP 0 rfl rfl 7 (by decide) (hts (.fieldLink RX6 26 "ColourForestsModel" "colourOf" "[I") (List.mem_of_getElem? (i := 7) rfl)) (fun _ h9 => h9) rfl dX6_edge_93 ?_
                    refine lv_aload_n hx hb dX6_edge_96 rfl (lv_at hl 1 rfl) ?_
                    refine va_get (D := D) (ci := 5) (v := .int (nI (gE g))) (C := RX6) (T := TX6) (N := 16) hx hb hts inX6 hown hK.1 hP 0 rfl rfl 3 (by decide) (hts (.fieldLink RX6 56 "ColourForestsModel" "edges" "I") (List.mem_of_getElem? (i := 4) rfl)) (fun _ h9 => h9) rfl dX6_edge_97 ?_
                    refine lv_iload_n hx hb dX6_edge_100 rfl (lv_at hl 4 rfl) ?_
                    refine st_i (k := (gE g)) (g := (fun i => nI (upN (gH g) (gE g) c9 i))) hx hb hK hP hD hS 3 rfl (by omega) (by decide) (upd_nI _ _ _) dX6_edge_101 (fun H locs hP hD hS => ?_)
                    have hP : va_P D vwCl [(ad 20, .inr (5, [.int (nI 0), .int (nI (gV g)), .int (nI (gC g)), .int (nI (gE g)), .ref (ad 21), .ref (ad 22), .ref (ad 23), .ref (ad 24), .ref (ad 25), .int kn, .ref (ad 26), .ref (ad 27), .ref (ad 28), .int ms, .ref (ad 29), .ref (ad 30)])), (ad 22, .inl (cy 0, 14, .inl (fun i => nI (upN (gF g) (gE g) a i)))), (ad 23, .inl (cy 0, 14, .inl (fun i => nI (upN (gS g) (gE g) b i)))), (ad 24, .inl (cy 0, 14, .inl (fun i => nI (upN (gH g) (gE g) c9 i)))), (ad 25, .inl (cy 0, 14, .inl (fun i => zI (gW g i))))] H := hP
                    have hD : va_D (inW [(ad 20, .inr (5, [.int th, .int (nI (gV g)), .int (nI (gC g)), .int (nI (gE g)), .ref (ad 21), .ref (ad 22), .ref (ad 23), .ref (ad 24), .ref (ad 25), .int kn, .ref (ad 26), .ref (ad 27), .ref (ad 28), .int ms, .ref (ad 29), .ref (ad 30)])), (ad 22, .inl (cy 0, 14, .inl (fun i => nI (gF g i)))), (ad 23, .inl (cy 0, 14, .inl (fun i => nI (gS g i)))), (ad 24, .inl (cy 0, 14, .inl (fun i => nI (gH g i)))), (ad 25, .inl (cy 0, 14, .inl (fun i => zI (gW g i))))]) [(ad 20, .inr (5, [.int (nI 0), .int (nI (gV g)), .int (nI (gC g)), .int (nI (gE g)), .ref (ad 21), .ref (ad 22), .ref (ad 23), .ref (ad 24), .ref (ad 25), .int kn, .ref (ad 26), .ref (ad 27), .ref (ad 28), .int ms, .ref (ad 29), .ref (ad 30)])), (ad 22, .inl (cy 0, 14, .inl (fun i => nI (upN (gF g) (gE g) a i)))), (ad 23, .inl (cy 0, 14, .inl (fun i => nI (upN (gS g) (gE g) b i)))), (ad 24, .inl (cy 0, 14, .inl (fun i => nI (upN (gH g) (gE g) c9 i)))), (ad 25, .inl (cy 0, 14, .inl (fun i => zI (gW g i))))] := hD
                    refine lv_aload_n hx hb dX6_edge_102 rfl (lv_at hl 1 rfl) ?_
                    refine va_get (D := D) (ci := 5) (v := .ref (ad 25)) (C := RX6) (T := TX6) (N := 16) hx hb hts inX6 hown hK.1 hP 0 rfl rfl 8 (by decide) (hts (.fieldLink RX6 29 "ColourForestsModel" "weights" "[I") (List.mem_of_getElem? (i := 8) rfl)) (fun _ h9 => h9) rfl dX6_edge_103 ?_
                    refine lv_aload_n hx hb dX6_edge_106 rfl (lv_at hl 1 rfl) ?_
                    refine va_get (D := D) (ci := 5) (v := .int (nI (gE g))) (C := RX6) (T := TX6) (N := 16) hx hb hts inX6 hown hK.1 hP 0 rfl rfl 3 (by decide) (hts (.fieldLink RX6 56 "ColourForestsModel" "edges" "I") (List.mem_of_getElem? (i := 4) rfl)) (fun _ h9 => h9) rfl dX6_edge_107 ?_
                    refine lv_iload hx hb dX6_edge_110 (lv_at hl 5 rfl) ?_
                    refine st_i (k := (gE g)) (g := (fun i => zI (upZ (gW g) (gE g) w i))) hx hb hK hP hD hS 4 rfl (by omega) (by decide) (upd_zI _ _ _) dX6_edge_112 (fun H locs hP hD hS => ?_)
                    have hP : va_P D vwCl [(ad 20, .inr (5, [.int (nI 0), .int (nI (gV g)), .int (nI (gC g)), .int (nI (gE g)), .ref (ad 21), .ref (ad 22), .ref (ad 23), .ref (ad 24), .ref (ad 25), .int kn, .ref (ad 26), .ref (ad 27), .ref (ad 28), .int ms, .ref (ad 29), .ref (ad 30)])), (ad 22, .inl (cy 0, 14, .inl (fun i => nI (upN (gF g) (gE g) a i)))), (ad 23, .inl (cy 0, 14, .inl (fun i => nI (upN (gS g) (gE g) b i)))), (ad 24, .inl (cy 0, 14, .inl (fun i => nI (upN (gH g) (gE g) c9 i)))), (ad 25, .inl (cy 0, 14, .inl (fun i => zI (upZ (gW g) (gE g) w i))))] H := hP
                    have hD : va_D (inW [(ad 20, .inr (5, [.int th, .int (nI (gV g)), .int (nI (gC g)), .int (nI (gE g)), .ref (ad 21), .ref (ad 22), .ref (ad 23), .ref (ad 24), .ref (ad 25), .int kn, .ref (ad 26), .ref (ad 27), .ref (ad 28), .int ms, .ref (ad 29), .ref (ad 30)])), (ad 22, .inl (cy 0, 14, .inl (fun i => nI (gF g i)))), (ad 23, .inl (cy 0, 14, .inl (fun i => nI (gS g i)))), (ad 24, .inl (cy 0, 14, .inl (fun i => nI (gH g i)))), (ad 25, .inl (cy 0, 14, .inl (fun i => zI (gW g i))))]) [(ad 20, .inr (5, [.int (nI 0), .int (nI (gV g)), .int (nI (gC g)), .int (nI (gE g)), .ref (ad 21), .ref (ad 22), .ref (ad 23), .ref (ad 24), .ref (ad 25), .int kn, .ref (ad 26), .ref (ad 27), .ref (ad 28), .int ms, .ref (ad 29), .ref (ad 30)])), (ad 22, .inl (cy 0, 14, .inl (fun i => nI (upN (gF g) (gE g) a i)))), (ad 23, .inl (cy 0, 14, .inl (fun i => nI (upN (gS g) (gE g) b i)))), (ad 24, .inl (cy 0, 14, .inl (fun i => nI (upN (gH g) (gE g) c9 i)))), (ad 25, .inl (cy 0, 14, .inl (fun i => zI (upZ (gW g) (gE g) w i))))] := hD
                    refine lv_aload_n hx hb dX6_edge_113 rfl (lv_at hl 1 rfl) ?_
                    refine lv_dup hx hb dX6_edge_114 rfl ?_
                    refine va_get (D := D) (ci := 5) (v := .int (nI (gE g))) (C := RX6) (T := TX6) (N := 16) hx hb hts inX6 hown hK.1 hP 0 rfl rfl 3 (by decide) (hts (.fieldLink RX6 56 "ColourForestsModel" "edges" "I") (List.mem_of_getElem? (i := 4) rfl)) (fun _ h9 => h9) rfl dX6_edge_115 ?_
                    refine lv_iconst (v := nI 1) hx hb dX6_edge_118 (by decide) ?_
                    refine lv_iadd hx hb dX6_edge_119 ?_
                    refine lv_as (y := (nI ((gE g) + 1))) (nI_add _ _) ?_
                    refine va_put (D := D) (ci := 5) (v := .int (nI ((gE g) + 1))) (ty := .int) (C := RX6) (T := TX6) (N := 16) hx hb hts inX6 tyX6 tyX6_ok nmX6 hown hK.1 hP hD hS 0 rfl rfl 3 (by decide) (hts (.fieldLink RX6 56 "ColourForestsModel" "edges" "I") (List.mem_of_getElem? (i := 4) rfl)) (fun _ h9 => h9) rfl (by decide +kernel) rfl rfl (Nat.le_of_ble_eq_true rfl) dX6_edge_120 (fun H locs hP hD hS => ?_)
                    have hP : va_P D vwCl [(ad 20, .inr (5, [.int (nI 0), .int (nI (gV g)), .int (nI (gC g)), .int (nI ((gE g) + 1)), .ref (ad 21), .ref (ad 22), .ref (ad 23), .ref (ad 24), .ref (ad 25), .int kn, .ref (ad 26), .ref (ad 27), .ref (ad 28), .int ms, .ref (ad 29), .ref (ad 30)])), (ad 22, .inl (cy 0, 14, .inl (fun i => nI (upN (gF g) (gE g) a i)))), (ad 23, .inl (cy 0, 14, .inl (fun i => nI (upN (gS g) (gE g) b i)))), (ad 24, .inl (cy 0, 14, .inl (fun i => nI (upN (gH g) (gE g) c9 i)))), (ad 25, .inl (cy 0, 14, .inl (fun i => zI (upZ (gW g) (gE g) w i))))] H := hP
                    have hD : va_D (inW [(ad 20, .inr (5, [.int th, .int (nI (gV g)), .int (nI (gC g)), .int (nI (gE g)), .ref (ad 21), .ref (ad 22), .ref (ad 23), .ref (ad 24), .ref (ad 25), .int kn, .ref (ad 26), .ref (ad 27), .ref (ad 28), .int ms, .ref (ad 29), .ref (ad 30)])), (ad 22, .inl (cy 0, 14, .inl (fun i => nI (gF g i)))), (ad 23, .inl (cy 0, 14, .inl (fun i => nI (gS g i)))), (ad 24, .inl (cy 0, 14, .inl (fun i => nI (gH g i)))), (ad 25, .inl (cy 0, 14, .inl (fun i => zI (gW g i))))]) [(ad 20, .inr (5, [.int (nI 0), .int (nI (gV g)), .int (nI (gC g)), .int (nI ((gE g) + 1)), .ref (ad 21), .ref (ad 22), .ref (ad 23), .ref (ad 24), .ref (ad 25), .int kn, .ref (ad 26), .ref (ad 27), .ref (ad 28), .int ms, .ref (ad 29), .ref (ad 30)])), (ad 22, .inl (cy 0, 14, .inl (fun i => nI (upN (gF g) (gE g) a i)))), (ad 23, .inl (cy 0, 14, .inl (fun i => nI (upN (gS g) (gE g) b i)))), (ad 24, .inl (cy 0, 14, .inl (fun i => nI (upN (gH g) (gE g) c9 i)))), (ad 25, .inl (cy 0, 14, .inl (fun i => zI (upZ (gW g) (gE g) w i))))] := hD
                    refine lv_aload_n hx hb dX6_edge_123 rfl (lv_at hl 1 rfl) ?_
                    refine lv_iconst (v := nI 0) hx hb dX6_edge_124 (by decide) ?_
                    refine va_put (D := D) (ci := 5) (v := .int (nI 0)) (ty := .boolean) (C := RX6) (T := TX6) (N := 16) hx hb hts inX6 tyX6 tyX6_ok nmX6 hown hK.1 hP hD hS 0 rfl rfl 9 (by decide) (hts (.fieldLink RX6 59 "ColourForestsModel" "known" "Z") (List.mem_of_getElem? (i := 9) rfl)) (fun _ h9 => h9) rfl (by decide +kernel) (by decide) rfl (Nat.le_of_ble_eq_true rfl) dX6_edge_125 (fun H locs hP hD hS => ?_)
                    have hP : va_P D vwCl [(ad 20, .inr (5, [.int (nI 0), .int (nI (gV g)), .int (nI (gC g)), .int (nI ((gE g) + 1)), .ref (ad 21), .ref (ad 22), .ref (ad 23), .ref (ad 24), .ref (ad 25), .int (nI 0), .ref (ad 26), .ref (ad 27), .ref (ad 28), .int ms, .ref (ad 29), .ref (ad 30)])), (ad 22, .inl (cy 0, 14, .inl (fun i => nI (upN (gF g) (gE g) a i)))), (ad 23, .inl (cy 0, 14, .inl (fun i => nI (upN (gS g) (gE g) b i)))), (ad 24, .inl (cy 0, 14, .inl (fun i => nI (upN (gH g) (gE g) c9 i)))), (ad 25, .inl (cy 0, 14, .inl (fun i => zI (upZ (gW g) (gE g) w i))))] H := hP
                    have hD : va_D (inW [(ad 20, .inr (5, [.int th, .int (nI (gV g)), .int (nI (gC g)), .int (nI (gE g)), .ref (ad 21), .ref (ad 22), .ref (ad 23), .ref (ad 24), .ref (ad 25), .int kn, .ref (ad 26), .ref (ad 27), .ref (ad 28), .int ms, .ref (ad 29), .ref (ad 30)])), (ad 22, .inl (cy 0, 14, .inl (fun i => nI (gF g i)))), (ad 23, .inl (cy 0, 14, .inl (fun i => nI (gS g i)))), (ad 24, .inl (cy 0, 14, .inl (fun i => nI (gH g i)))), (ad 25, .inl (cy 0, 14, .inl (fun i => zI (gW g i))))]) [(ad 20, .inr (5, [.int (nI 0), .int (nI (gV g)), .int (nI (gC g)), .int (nI ((gE g) + 1)), .ref (ad 21), .ref (ad 22), .ref (ad 23), .ref (ad 24), .ref (ad 25), .int (nI 0), .ref (ad 26), .ref (ad 27), .ref (ad 28), .int ms, .ref (ad 29), .ref (ad 30)])), (ad 22, .inl (cy 0, 14, .inl (fun i => nI (upN (gF g) (gE g) a i)))), (ad 23, .inl (cy 0, 14, .inl (fun i => nI (upN (gS g) (gE g) b i)))), (ad 24, .inl (cy 0, 14, .inl (fun i => nI (upN (gH g) (gE g) c9 i)))), (ad 25, .inl (cy 0, 14, .inl (fun i => zI (upZ (gW g) (gE g) w i))))] := hD
                    refine lv_aload_n hx hb dX6_edge_128 rfl (lv_at hl 1 rfl) ?_
                    refine va_get (D := D) (ci := 5) (v := .int (nI ((gE g) + 1))) (C := RX6) (T := TX6) (N := 16) hx hb hts inX6 hown hK.1 hP 0 rfl rfl 3 (by decide) (hts (.fieldLink RX6 56 "ColourForestsModel" "edges" "I") (List.mem_of_getElem? (i := 4) rfl)) (fun _ h9 => h9) rfl dX6_edge_129 ?_
                    refine lv_iconst (v := nI 1) hx hb dX6_edge_132 (by decide) ?_
                    refine lv_isub hx hb dX6_edge_133 ?_
                    refine lv_as (y := (nI (((gE g) + 1) - 1))) (ni_sub (by omega)) ?_
                    exact wi_ret () hx hb hr hlocks hS hP (by rw [Nat.add_sub_cancel]) dX6_edge_134
                  · exact absurd c67 (by omega)

set_option maxHeartbeats 4000000 in
set_option maxRecDepth 100000 in
theorem c_X6_limit_1 (l : Launch) (D : va_G) (cy : Nat → ClassId) (ad : Nat → Nat) {g : GT} (hg : gOK g) (th kn ms : Int32) {x : Int32} (y : Int32) (h : isN x (gC g) = false) : WV l yX6_limit wsX6_limit ({ frames := 1, cells := 0, slots := 0, locals := 21 }) D cy [.ref (ad 20), .int x, .int y] [(ad 20, .inr (5, [.int th, .int (nI (gV g)), .int (nI (gC g)), .int (nI (gE g)), .ref (ad 21), .ref (ad 22), .ref (ad 23), .ref (ad 24), .ref (ad 25), .int kn, .ref (ad 26), .ref (ad 27), .ref (ad 28), .int ms, .ref (ad 29), .ref (ad 30)]))] (fun _ : Unit => True) (fun _ : Unit => [(ad 20, .inr (5, [.int (nI 1), .int (nI (gV g)), .int (nI (gC g)), .int (nI (gE g)), .ref (ad 21), .ref (ad 22), .ref (ad 23), .ref (ad 24), .ref (ad 25), .int kn, .ref (ad 26), .ref (ad 27), .ref (ad 28), .int ms, .ref (ad 29), .ref (ad 30)]))]) := by
  refine Met.ofW (cc := cX6_limit) (maxL := 3) (ret := none) (by decide) rfl ?_
  intro p ev s m args below meth c s₁ B hml hv
  obtain ⟨rfl, ⟨hK, hP⟩, hD0⟩ := hv
  have hx := B.exec
  have hb := B.bytes
  have hr := B.returns
  have hts := atoms_spec (ws := wsX6_limit) B.pre
  have hown : s.vm.findClass RX6 = some m.cls := findClass_of_methodNamed B.named
  have hlocks := B.notSynchronized
  have hD : va_D (inW [(ad 20, .inr (5, [.int th, .int (nI (gV g)), .int (nI (gC g)), .int (nI (gE g)), .ref (ad 21), .ref (ad 22), .ref (ad 23), .ref (ad 24), .ref (ad 25), .int kn, .ref (ad 26), .ref (ad 27), .ref (ad 28), .int ms, .ref (ad 29), .ref (ad 30)]))]) ([(ad 20, .inr (5, [.int th, .int (nI (gV g)), .int (nI (gC g)), .int (nI (gE g)), .ref (ad 21), .ref (ad 22), .ref (ad 23), .ref (ad 24), .ref (ad 25), .int kn, .ref (ad 26), .ref (ad 27), .ref (ad 28), .int ms, .ref (ad 29), .ref (ad 30)]))]) := inW_self hD0
  have hS : va_S (inW [(ad 20, .inr (5, [.int th, .int (nI (gV g)), .int (nI (gC g)), .int (nI (gE g)), .ref (ad 21), .ref (ad 22), .ref (ad 23), .ref (ad 24), .ref (ad 25), .int kn, .ref (ad 26), .ref (ad 27), .ref (ad 28), .int ms, .ref (ad 29), .ref (ad 30)]))]) s.heap s.heap [] := va_S.rf
  have hP : va_P D vwCl [(ad 20, .inr (5, [.int th, .int (nI (gV g)), .int (nI (gC g)), .int (nI (gE g)), .ref (ad 21), .ref (ad 22), .ref (ad 23), .ref (ad 24), .ref (ad 25), .int kn, .ref (ad 26), .ref (ad 27), .ref (ad 28), .int ms, .ref (ad 29), .ref (ad 30)]))] s.heap := hP
  have inX6 : ∀ w ∈ wsX60, w ∈ wsX6_limit := by decide +kernel
  have hl := lv_entry ([.ref (ad 20), .int x, .int y]) (n := 3) (Nat.le_of_ble_eq_true rfl)
  rw [lg_entry_eq]
  generalize (lg_sl ([.ref (ad 20), .int x, .int y]) ++ List.replicate (3 - (lg_sl ([.ref (ad 20), .int x, .int y])).length) Slot.unset).toArray = ls at hl ⊢
  have hl : lv_has ls 3 [(0, .ref (ad 20)), (1, .int x), (2, .int y)] := hl
  have hgen := True.intro
  have hE := hg.2.2.1
  have hV := hg.1
  have hC := hg.2.1
  refine lv_aload_n hx hb dX6_limit_0 rfl (lv_at hl 0 rfl) ?_
  refine lv_iload_n hx hb dX6_limit_1 rfl (lv_at hl 1 rfl) ?_
  refine lv_if_lt (tgt := 13) hx hb dX6_limit_2 (by decide) (fun c2 => ?_) (fun c2 => ?_)
  · refine lv_iconst (v := nI 1) hx hb dX6_limit_13 (by decide) ?_
    refine lv_goto (tgt := 32) hx hb dX6_limit_14 (by decide) ?_
    refine wr_calli [0] (va_runV (As := [.int (nI 1)]) (rest := []) ⟨hx, hb, hml, hown, hts⟩ (c_X6_refuses l D cy ad g th kn ms ((nI 1))) (cwV 1 hts gX6_limit_X6_refuses rfl rfl rfl (by decide +kernel) ⟨Nat.le_of_ble_eq_true rfl, Nat.le_of_ble_eq_true rfl⟩) (WR_preV (ci := 5) (q0 := 0) hK hP hD rfl rfl [0] (by decide) rfl rfl) rfl rfl hl.1 rfl (lv_room (Nat.le_of_ble_eq_true rfl)) dX6_limit_32 ⟨(Nat.zero_le _), (Nat.zero_le _)⟩) hS hP hD rfl (fun _ => rfl) (fun _ => rfl) (fun r32 u32 H locs w32 hP hD hS => ?_)
    refine lv_as (y := bI true) (by rw [w32]; first | rfl | decide) ?_
    have hP : va_P D vwCl [(ad 20, .inr (5, [.int (nI 1), .int (nI (gV g)), .int (nI (gC g)), .int (nI (gE g)), .ref (ad 21), .ref (ad 22), .ref (ad 23), .ref (ad 24), .ref (ad 25), .int kn, .ref (ad 26), .ref (ad 27), .ref (ad 28), .int ms, .ref (ad 29), .ref (ad 30)]))] H := hP
    have hD : va_D (inW [(ad 20, .inr (5, [.int th, .int (nI (gV g)), .int (nI (gC g)), .int (nI (gE g)), .ref (ad 21), .ref (ad 22), .ref (ad 23), .ref (ad 24), .ref (ad 25), .int kn, .ref (ad 26), .ref (ad 27), .ref (ad 28), .int ms, .ref (ad 29), .ref (ad 30)]))]) [(ad 20, .inr (5, [.int (nI 1), .int (nI (gV g)), .int (nI (gC g)), .int (nI (gE g)), .ref (ad 21), .ref (ad 22), .ref (ad 23), .ref (ad 24), .ref (ad 25), .int kn, .ref (ad 26), .ref (ad 27), .ref (ad 28), .int ms, .ref (ad 29), .ref (ad 30)]))] := hD
    refine b_ne (b := true) (tgt := 50) hx hb dX6_limit_35 (by decide) (fun c35 => ?_) (fun c35 => ?_)
    · exact wv_ret () hx hb hr hlocks hS hP trivial dX6_limit_50
    · cases c35
  · refine lv_iload_n hx hb dX6_limit_5 rfl (lv_at hl 1 rfl) ?_
    refine lv_aload_n hx hb dX6_limit_6 rfl (lv_at hl 0 rfl) ?_
    refine va_get (D := D) (ci := 5) (v := .int (nI (gC g))) (C := RX6) (T := TX6) (N := 16) hx hb hts inX6 hown hK.1 hP 0 rfl rfl 2 (by decide) (hts (.fieldLink RX6 13 "ColourForestsModel" "colours" "I") (List.mem_of_getElem? (i := 1) rfl)) (fun _ h9 => h9) rfl dX6_limit_7 ?_
    refine lv_icmp_lt (tgt := 17) hx hb dX6_limit_10 (by decide) (fun c10 => ?_) (fun c10 => ?_)
    · exact absurd (h.symm.trans (isN_t2 (by omega) c2 c10)) (by decide)
    · refine lv_iconst (v := nI 1) hx hb dX6_limit_13 (by decide) ?_
      refine lv_goto (tgt := 32) hx hb dX6_limit_14 (by decide) ?_
      refine wr_calli [0] (va_runV (As := [.int (nI 1)]) (rest := []) ⟨hx, hb, hml, hown, hts⟩ (c_X6_refuses l D cy ad g th kn ms ((nI 1))) (cwV 1 hts gX6_limit_X6_refuses rfl rfl rfl (by decide +kernel) ⟨Nat.le_of_ble_eq_true rfl, Nat.le_of_ble_eq_true rfl⟩) (WR_preV (ci := 5) (q0 := 0) hK hP hD rfl rfl [0] (by decide) rfl rfl) rfl rfl hl.1 rfl (lv_room (Nat.le_of_ble_eq_true rfl)) dX6_limit_32 ⟨(Nat.zero_le _), (Nat.zero_le _)⟩) hS hP hD rfl (fun _ => rfl) (fun _ => rfl) (fun r32 u32 H locs w32 hP hD hS => ?_)
      refine lv_as (y := bI true) (by rw [w32]; first | rfl | decide) ?_
      have hP : va_P D vwCl [(ad 20, .inr (5, [.int (nI 1), .int (nI (gV g)), .int (nI (gC g)), .int (nI (gE g)), .ref (ad 21), .ref (ad 22), .ref (ad 23), .ref (ad 24), .ref (ad 25), .int kn, .ref (ad 26), .ref (ad 27), .ref (ad 28), .int ms, .ref (ad 29), .ref (ad 30)]))] H := hP
      have hD : va_D (inW [(ad 20, .inr (5, [.int th, .int (nI (gV g)), .int (nI (gC g)), .int (nI (gE g)), .ref (ad 21), .ref (ad 22), .ref (ad 23), .ref (ad 24), .ref (ad 25), .int kn, .ref (ad 26), .ref (ad 27), .ref (ad 28), .int ms, .ref (ad 29), .ref (ad 30)]))]) [(ad 20, .inr (5, [.int (nI 1), .int (nI (gV g)), .int (nI (gC g)), .int (nI (gE g)), .ref (ad 21), .ref (ad 22), .ref (ad 23), .ref (ad 24), .ref (ad 25), .int kn, .ref (ad 26), .ref (ad 27), .ref (ad 28), .int ms, .ref (ad 29), .ref (ad 30)]))] := hD
      refine b_ne (b := true) (tgt := 50) hx hb dX6_limit_35 (by decide) (fun c35 => ?_) (fun c35 => ?_)
      · exact wv_ret () hx hb hr hlocks hS hP trivial dX6_limit_50
      · cases c35

set_option maxHeartbeats 4000000 in
set_option maxRecDepth 100000 in
theorem c_X6_limit_2 (l : Launch) (D : va_G) (cy : Nat → ClassId) (ad : Nat → Nat) {g : GT} (hg : gOK g) (th kn ms : Int32) {x y : Int32} (h1 : isN x (gC g) = true) (h : isN y 15 = false) : WV l yX6_limit wsX6_limit ({ frames := 1, cells := 0, slots := 0, locals := 21 }) D cy [.ref (ad 20), .int x, .int y] [(ad 20, .inr (5, [.int th, .int (nI (gV g)), .int (nI (gC g)), .int (nI (gE g)), .ref (ad 21), .ref (ad 22), .ref (ad 23), .ref (ad 24), .ref (ad 25), .int kn, .ref (ad 26), .ref (ad 27), .ref (ad 28), .int ms, .ref (ad 29), .ref (ad 30)]))] (fun _ : Unit => True) (fun _ : Unit => [(ad 20, .inr (5, [.int (nI 2), .int (nI (gV g)), .int (nI (gC g)), .int (nI (gE g)), .ref (ad 21), .ref (ad 22), .ref (ad 23), .ref (ad 24), .ref (ad 25), .int kn, .ref (ad 26), .ref (ad 27), .ref (ad 28), .int ms, .ref (ad 29), .ref (ad 30)]))]) := by
  refine Met.ofW (cc := cX6_limit) (maxL := 3) (ret := none) (by decide) rfl ?_
  intro p ev s m args below meth c s₁ B hml hv
  obtain ⟨rfl, ⟨hK, hP⟩, hD0⟩ := hv
  have hx := B.exec
  have hb := B.bytes
  have hr := B.returns
  have hts := atoms_spec (ws := wsX6_limit) B.pre
  have hown : s.vm.findClass RX6 = some m.cls := findClass_of_methodNamed B.named
  have hlocks := B.notSynchronized
  have hD : va_D (inW [(ad 20, .inr (5, [.int th, .int (nI (gV g)), .int (nI (gC g)), .int (nI (gE g)), .ref (ad 21), .ref (ad 22), .ref (ad 23), .ref (ad 24), .ref (ad 25), .int kn, .ref (ad 26), .ref (ad 27), .ref (ad 28), .int ms, .ref (ad 29), .ref (ad 30)]))]) ([(ad 20, .inr (5, [.int th, .int (nI (gV g)), .int (nI (gC g)), .int (nI (gE g)), .ref (ad 21), .ref (ad 22), .ref (ad 23), .ref (ad 24), .ref (ad 25), .int kn, .ref (ad 26), .ref (ad 27), .ref (ad 28), .int ms, .ref (ad 29), .ref (ad 30)]))]) := inW_self hD0
  have hS : va_S (inW [(ad 20, .inr (5, [.int th, .int (nI (gV g)), .int (nI (gC g)), .int (nI (gE g)), .ref (ad 21), .ref (ad 22), .ref (ad 23), .ref (ad 24), .ref (ad 25), .int kn, .ref (ad 26), .ref (ad 27), .ref (ad 28), .int ms, .ref (ad 29), .ref (ad 30)]))]) s.heap s.heap [] := va_S.rf
  have hP : va_P D vwCl [(ad 20, .inr (5, [.int th, .int (nI (gV g)), .int (nI (gC g)), .int (nI (gE g)), .ref (ad 21), .ref (ad 22), .ref (ad 23), .ref (ad 24), .ref (ad 25), .int kn, .ref (ad 26), .ref (ad 27), .ref (ad 28), .int ms, .ref (ad 29), .ref (ad 30)]))] s.heap := hP
  have inX6 : ∀ w ∈ wsX60, w ∈ wsX6_limit := by decide +kernel
  have hl := lv_entry ([.ref (ad 20), .int x, .int y]) (n := 3) (Nat.le_of_ble_eq_true rfl)
  rw [lg_entry_eq]
  generalize (lg_sl ([.ref (ad 20), .int x, .int y]) ++ List.replicate (3 - (lg_sl ([.ref (ad 20), .int x, .int y])).length) Slot.unset).toArray = ls at hl ⊢
  have hl : lv_has ls 3 [(0, .ref (ad 20)), (1, .int x), (2, .int y)] := hl
  have hgen := True.intro
  have hE := hg.2.2.1
  have hV := hg.1
  have hC := hg.2.1
  refine lv_aload_n hx hb dX6_limit_0 rfl (lv_at hl 0 rfl) ?_
  refine lv_iload_n hx hb dX6_limit_1 rfl (lv_at hl 1 rfl) ?_
  refine lv_if_lt (tgt := 13) hx hb dX6_limit_2 (by decide) (fun c2 => ?_) (fun c2 => ?_)
  · exact absurd h1 (by first | (rw [isN_f0 c2]; decide) | (rw [isN_f1 (by omega) (le_of_nlt c10)]; decide))
  · refine lv_iload_n hx hb dX6_limit_5 rfl (lv_at hl 1 rfl) ?_
    refine lv_aload_n hx hb dX6_limit_6 rfl (lv_at hl 0 rfl) ?_
    refine va_get (D := D) (ci := 5) (v := .int (nI (gC g))) (C := RX6) (T := TX6) (N := 16) hx hb hts inX6 hown hK.1 hP 0 rfl rfl 2 (by decide) (hts (.fieldLink RX6 13 "ColourForestsModel" "colours" "I") (List.mem_of_getElem? (i := 1) rfl)) (fun _ h9 => h9) rfl dX6_limit_7 ?_
    refine lv_icmp_lt (tgt := 17) hx hb dX6_limit_10 (by decide) (fun c10 => ?_) (fun c10 => ?_)
    · refine lv_iload_n hx hb dX6_limit_17 rfl (lv_at hl 2 rfl) ?_
      refine lv_if_lt (tgt := 27) hx hb dX6_limit_18 (by decide) (fun c18 => ?_) (fun c18 => ?_)
      · refine lv_iconst (v := nI 2) hx hb dX6_limit_27 (by decide) ?_
        refine lv_goto (tgt := 32) hx hb dX6_limit_28 (by decide) ?_
        refine wr_calli [0] (va_runV (As := [.int (nI 2)]) (rest := []) ⟨hx, hb, hml, hown, hts⟩ (c_X6_refuses l D cy ad g th kn ms ((nI 2))) (cwV 1 hts gX6_limit_X6_refuses rfl rfl rfl (by decide +kernel) ⟨Nat.le_of_ble_eq_true rfl, Nat.le_of_ble_eq_true rfl⟩) (WR_preV (ci := 5) (q0 := 0) hK hP hD rfl rfl [0] (by decide) rfl rfl) rfl rfl hl.1 rfl (lv_room (Nat.le_of_ble_eq_true rfl)) dX6_limit_32 ⟨(Nat.zero_le _), (Nat.zero_le _)⟩) hS hP hD rfl (fun _ => rfl) (fun _ => rfl) (fun r32 u32 H locs w32 hP hD hS => ?_)
        refine lv_as (y := bI true) (by rw [w32]; first | rfl | decide) ?_
        have hP : va_P D vwCl [(ad 20, .inr (5, [.int (nI 2), .int (nI (gV g)), .int (nI (gC g)), .int (nI (gE g)), .ref (ad 21), .ref (ad 22), .ref (ad 23), .ref (ad 24), .ref (ad 25), .int kn, .ref (ad 26), .ref (ad 27), .ref (ad 28), .int ms, .ref (ad 29), .ref (ad 30)]))] H := hP
        have hD : va_D (inW [(ad 20, .inr (5, [.int th, .int (nI (gV g)), .int (nI (gC g)), .int (nI (gE g)), .ref (ad 21), .ref (ad 22), .ref (ad 23), .ref (ad 24), .ref (ad 25), .int kn, .ref (ad 26), .ref (ad 27), .ref (ad 28), .int ms, .ref (ad 29), .ref (ad 30)]))]) [(ad 20, .inr (5, [.int (nI 2), .int (nI (gV g)), .int (nI (gC g)), .int (nI (gE g)), .ref (ad 21), .ref (ad 22), .ref (ad 23), .ref (ad 24), .ref (ad 25), .int kn, .ref (ad 26), .ref (ad 27), .ref (ad 28), .int ms, .ref (ad 29), .ref (ad 30)]))] := hD
        refine b_ne (b := true) (tgt := 50) hx hb dX6_limit_35 (by decide) (fun c35 => ?_) (fun c35 => ?_)
        · exact wv_ret () hx hb hr hlocks hS hP trivial dX6_limit_50
        · cases c35
      · refine lv_iload_n hx hb dX6_limit_21 rfl (lv_at hl 2 rfl) ?_
        refine lv_bipush (v := nI 14) hx hb dX6_limit_22 (by decide) ?_
        refine lv_icmp_le (tgt := 31) hx hb dX6_limit_24 (by decide) (fun c24 => ?_) (fun c24 => ?_)
        · exact absurd (h.symm.trans (isN_t3 (n := 14) (by decide) c18 c24)) (by decide)
        · refine lv_iconst (v := nI 2) hx hb dX6_limit_27 (by decide) ?_
          refine lv_goto (tgt := 32) hx hb dX6_limit_28 (by decide) ?_
          refine wr_calli [0] (va_runV (As := [.int (nI 2)]) (rest := []) ⟨hx, hb, hml, hown, hts⟩ (c_X6_refuses l D cy ad g th kn ms ((nI 2))) (cwV 1 hts gX6_limit_X6_refuses rfl rfl rfl (by decide +kernel) ⟨Nat.le_of_ble_eq_true rfl, Nat.le_of_ble_eq_true rfl⟩) (WR_preV (ci := 5) (q0 := 0) hK hP hD rfl rfl [0] (by decide) rfl rfl) rfl rfl hl.1 rfl (lv_room (Nat.le_of_ble_eq_true rfl)) dX6_limit_32 ⟨(Nat.zero_le _), (Nat.zero_le _)⟩) hS hP hD rfl (fun _ => rfl) (fun _ => rfl) (fun r32 u32 H locs w32 hP hD hS => ?_)
          refine lv_as (y := bI true) (by rw [w32]; first | rfl | decide) ?_
          have hP : va_P D vwCl [(ad 20, .inr (5, [.int (nI 2), .int (nI (gV g)), .int (nI (gC g)), .int (nI (gE g)), .ref (ad 21), .ref (ad 22), .ref (ad 23), .ref (ad 24), .ref (ad 25), .int kn, .ref (ad 26), .ref (ad 27), .ref (ad 28), .int ms, .ref (ad 29), .ref (ad 30)]))] H := hP
          have hD : va_D (inW [(ad 20, .inr (5, [.int th, .int (nI (gV g)), .int (nI (gC g)), .int (nI (gE g)), .ref (ad 21), .ref (ad 22), .ref (ad 23), .ref (ad 24), .ref (ad 25), .int kn, .ref (ad 26), .ref (ad 27), .ref (ad 28), .int ms, .ref (ad 29), .ref (ad 30)]))]) [(ad 20, .inr (5, [.int (nI 2), .int (nI (gV g)), .int (nI (gC g)), .int (nI (gE g)), .ref (ad 21), .ref (ad 22), .ref (ad 23), .ref (ad 24), .ref (ad 25), .int kn, .ref (ad 26), .ref (ad 27), .ref (ad 28), .int ms, .ref (ad 29), .ref (ad 30)]))] := hD
          refine b_ne (b := true) (tgt := 50) hx hb dX6_limit_35 (by decide) (fun c35 => ?_) (fun c35 => ?_)
          · exact wv_ret () hx hb hr hlocks hS hP trivial dX6_limit_50
          · cases c35
    · exact absurd h1 (by first | (rw [isN_f0 c2]; decide) | (rw [isN_f1 (by omega) (le_of_nlt c10)]; decide))

set_option maxHeartbeats 4000000 in
set_option maxRecDepth 100000 in
theorem c_X6_limit_0 (l : Launch) (D : va_G) (cy : Nat → ClassId) (ad : Nat → Nat) {g : GT} (hg : gOK g) (th kn ms : Int32) {c9 n9 : Nat} (hc9 : c9 < gC g) (hn9 : n9 ≤ 14) : WV l yX6_limit wsX6_limit ({ frames := 1, cells := 0, slots := 0, locals := 21 }) D cy [.ref (ad 20), .int (nI c9), .int (nI n9)] [(ad 20, .inr (5, [.int th, .int (nI (gV g)), .int (nI (gC g)), .int (nI (gE g)), .ref (ad 21), .ref (ad 22), .ref (ad 23), .ref (ad 24), .ref (ad 25), .int kn, .ref (ad 26), .ref (ad 27), .ref (ad 28), .int ms, .ref (ad 29), .ref (ad 30)])), (ad 21, .inl (cy 0, 6, .inl (fun i => nI (gL g i))))] (fun _ : Unit => True) (fun _ : Unit => [(ad 20, .inr (5, [.int (nI 0), .int (nI (gV (liG c9 n9 g))), .int (nI (gC (liG c9 n9 g))), .int (nI (gE (liG c9 n9 g))), .ref (ad 21), .ref (ad 22), .ref (ad 23), .ref (ad 24), .ref (ad 25), .int (bI false), .ref (ad 26), .ref (ad 27), .ref (ad 28), .int ms, .ref (ad 29), .ref (ad 30)])), (ad 21, .inl (cy 0, 6, .inl (fun i => nI (gL (liG c9 n9 g) i))))]) := by
  refine Met.ofW (cc := cX6_limit) (maxL := 3) (ret := none) (by decide) rfl ?_
  intro p ev s m args below meth c s₁ B hml hv
  obtain ⟨rfl, ⟨hK, hP⟩, hD0⟩ := hv
  have hx := B.exec
  have hb := B.bytes
  have hr := B.returns
  have hts := atoms_spec (ws := wsX6_limit) B.pre
  have hown : s.vm.findClass RX6 = some m.cls := findClass_of_methodNamed B.named
  have hlocks := B.notSynchronized
  have hD : va_D (inW [(ad 20, .inr (5, [.int th, .int (nI (gV g)), .int (nI (gC g)), .int (nI (gE g)), .ref (ad 21), .ref (ad 22), .ref (ad 23), .ref (ad 24), .ref (ad 25), .int kn, .ref (ad 26), .ref (ad 27), .ref (ad 28), .int ms, .ref (ad 29), .ref (ad 30)])), (ad 21, .inl (cy 0, 6, .inl (fun i => nI (gL g i))))]) ([(ad 20, .inr (5, [.int th, .int (nI (gV g)), .int (nI (gC g)), .int (nI (gE g)), .ref (ad 21), .ref (ad 22), .ref (ad 23), .ref (ad 24), .ref (ad 25), .int kn, .ref (ad 26), .ref (ad 27), .ref (ad 28), .int ms, .ref (ad 29), .ref (ad 30)])), (ad 21, .inl (cy 0, 6, .inl (fun i => nI (gL g i))))]) := inW_self hD0
  have hS : va_S (inW [(ad 20, .inr (5, [.int th, .int (nI (gV g)), .int (nI (gC g)), .int (nI (gE g)), .ref (ad 21), .ref (ad 22), .ref (ad 23), .ref (ad 24), .ref (ad 25), .int kn, .ref (ad 26), .ref (ad 27), .ref (ad 28), .int ms, .ref (ad 29), .ref (ad 30)])), (ad 21, .inl (cy 0, 6, .inl (fun i => nI (gL g i))))]) s.heap s.heap [] := va_S.rf
  have hP : va_P D vwCl [(ad 20, .inr (5, [.int th, .int (nI (gV g)), .int (nI (gC g)), .int (nI (gE g)), .ref (ad 21), .ref (ad 22), .ref (ad 23), .ref (ad 24), .ref (ad 25), .int kn, .ref (ad 26), .ref (ad 27), .ref (ad 28), .int ms, .ref (ad 29), .ref (ad 30)])), (ad 21, .inl (cy 0, 6, .inl (fun i => nI (gL g i))))] s.heap := hP
  have inX6 : ∀ w ∈ wsX60, w ∈ wsX6_limit := by decide +kernel
  have hl := lv_entry ([.ref (ad 20), .int (nI c9), .int (nI n9)]) (n := 3) (Nat.le_of_ble_eq_true rfl)
  rw [lg_entry_eq]
  generalize (lg_sl ([.ref (ad 20), .int (nI c9), .int (nI n9)]) ++ List.replicate (3 - (lg_sl ([.ref (ad 20), .int (nI c9), .int (nI n9)])).length) Slot.unset).toArray = ls at hl ⊢
  have hl : lv_has ls 3 [(0, .ref (ad 20)), (1, .int (nI c9)), (2, .int (nI n9))] := hl
  have hgen := True.intro
  have hE := hg.2.2.1
  have hV := hg.1
  have hC := hg.2.1
  refine lv_aload_n hx hb dX6_limit_0 rfl (lv_at hl 0 rfl) ?_
  refine lv_iload_n hx hb dX6_limit_1 rfl (lv_at hl 1 rfl) ?_
  refine lv_if_lt (tgt := 13) hx hb dX6_limit_2 (by decide) (fun c2 => ?_) (fun c2 => ?_)
  · exact absurd c2 (nlt0 (by omega))
  · refine lv_iload_n hx hb dX6_limit_5 rfl (lv_at hl 1 rfl) ?_
    refine lv_aload_n hx hb dX6_limit_6 rfl (lv_at hl 0 rfl) ?_
    refine va_get (D := D) (ci := 5) (v := .int (nI (gC g))) (C := RX6) (T := TX6) (N := 16) hx hb hts inX6 hown hK.1 hP 0 rfl rfl 2 (by decide) (hts (.fieldLink RX6 13 "ColourForestsModel" "colours" "I") (List.mem_of_getElem? (i := 1) rfl)) (fun _ h9 => h9) rfl dX6_limit_7 ?_
    refine n_lt (a := c9) (b := (gC g)) (tgt := 17) hx hb dX6_limit_10 (by decide) (by omega) (by omega) (fun c10 => ?_) (fun c10 => ?_)
    · refine lv_iload_n hx hb dX6_limit_17 rfl (lv_at hl 2 rfl) ?_
      refine lv_if_lt (tgt := 27) hx hb dX6_limit_18 (by decide) (fun c18 => ?_) (fun c18 => ?_)
      · exact absurd c18 (nlt0 (by omega))
      · refine lv_iload_n hx hb dX6_limit_21 rfl (lv_at hl 2 rfl) ?_
        refine lv_bipush (v := nI 14) hx hb dX6_limit_22 (by decide) ?_
        refine n_le (a := n9) (b := 14) (tgt := 31) hx hb dX6_limit_24 (by decide) (by omega) (by omega) (fun c24 => ?_) (fun c24 => ?_)
        · refine lv_iconst (v := nI 0) hx hb dX6_limit_31 (by decide) ?_
          refine wr_calli [0] (va_runV (As := [.int (nI 0)]) (rest := []) ⟨hx, hb, hml, hown, hts⟩ (c_X6_refuses l D cy ad g th kn ms ((nI 0))) (cwV 1 hts gX6_limit_X6_refuses rfl rfl rfl (by decide +kernel) ⟨Nat.le_of_ble_eq_true rfl, Nat.le_of_ble_eq_true rfl⟩) (WR_preV (ci := 5) (q0 := 0) hK hP hD rfl rfl [0] (by decide) rfl rfl) rfl rfl hl.1 rfl (lv_room (Nat.le_of_ble_eq_true rfl)) dX6_limit_32 ⟨(Nat.zero_le _), (Nat.zero_le _)⟩) hS hP hD rfl (fun _ => rfl) (fun _ => rfl) (fun r32 u32 H locs w32 hP hD hS => ?_)
          refine lv_as (y := bI false) (by rw [w32]; first | rfl | decide) ?_
          have hP : va_P D vwCl [(ad 20, .inr (5, [.int (nI 0), .int (nI (gV g)), .int (nI (gC g)), .int (nI (gE g)), .ref (ad 21), .ref (ad 22), .ref (ad 23), .ref (ad 24), .ref (ad 25), .int kn, .ref (ad 26), .ref (ad 27), .ref (ad 28), .int ms, .ref (ad 29), .ref (ad 30)])), (ad 21, .inl (cy 0, 6, .inl (fun i => nI (gL g i))))] H := hP
          have hD : va_D (inW [(ad 20, .inr (5, [.int th, .int (nI (gV g)), .int (nI (gC g)), .int (nI (gE g)), .ref (ad 21), .ref (ad 22), .ref (ad 23), .ref (ad 24), .ref (ad 25), .int kn, .ref (ad 26), .ref (ad 27), .ref (ad 28), .int ms, .ref (ad 29), .ref (ad 30)])), (ad 21, .inl (cy 0, 6, .inl (fun i => nI (gL g i))))]) [(ad 20, .inr (5, [.int (nI 0), .int (nI (gV g)), .int (nI (gC g)), .int (nI (gE g)), .ref (ad 21), .ref (ad 22), .ref (ad 23), .ref (ad 24), .ref (ad 25), .int kn, .ref (ad 26), .ref (ad 27), .ref (ad 28), .int ms, .ref (ad 29), .ref (ad 30)])), (ad 21, .inl (cy 0, 6, .inl (fun i => nI (gL g i))))] := hD
          refine b_ne (b := false) (tgt := 50) hx hb dX6_limit_35 (by decide) (fun c35 => ?_) (fun c35 => ?_)
          · cases c35
          · refine lv_aload_n hx hb dX6_limit_38 rfl (lv_at hl 0 rfl) ?_
            refine va_get (D := D) (ci := 5) (v := .ref (ad 21)) (C := RX6) (T := TX6) (N := 16) hx hb hts inX6 hown hK.1 hP 0 rfl rfl 4 (by decide) (hts (.fieldLink RX6 16 "ColourForestsModel" "limits" "[I") (List.mem_of_getElem? (i := 2) rfl)) (fun _ h9 => h9) rfl dX6_limit_39 ?_
            refine lv_iload_n hx hb dX6_limit_42 rfl (lv_at hl 1 rfl) ?_
            refine lv_iload_n hx hb dX6_limit_43 rfl (lv_at hl 2 rfl) ?_
            refine st_i (k := c9) (g := (fun i => nI (upN (gL g) c9 n9 i))) hx hb hK hP hD hS 1 rfl (by omega) (by decide) (upd_nI _ _ _) dX6_limit_44 (fun H locs hP hD hS => ?_)
            have hP : va_P D vwCl [(ad 20, .inr (5, [.int (nI 0), .int (nI (gV g)), .int (nI (gC g)), .int (nI (gE g)), .ref (ad 21), .ref (ad 22), .ref (ad 23), .ref (ad 24), .ref (ad 25), .int kn, .ref (ad 26), .ref (ad 27), .ref (ad 28), .int ms, .ref (ad 29), .ref (ad 30)])), (ad 21, .inl (cy 0, 6, .inl (fun i => nI (upN (gL g) c9 n9 i))))] H := hP
            have hD : va_D (inW [(ad 20, .inr (5, [.int th, .int (nI (gV g)), .int (nI (gC g)), .int (nI (gE g)), .ref (ad 21), .ref (ad 22), .ref (ad 23), .ref (ad 24), .ref (ad 25), .int kn, .ref (ad 26), .ref (ad 27), .ref (ad 28), .int ms, .ref (ad 29), .ref (ad 30)])), (ad 21, .inl (cy 0, 6, .inl (fun i => nI (gL g i))))]) [(ad 20, .inr (5, [.int (nI 0), .int (nI (gV g)), .int (nI (gC g)), .int (nI (gE g)), .ref (ad 21), .ref (ad 22), .ref (ad 23), .ref (ad 24), .ref (ad 25), .int kn, .ref (ad 26), .ref (ad 27), .ref (ad 28), .int ms, .ref (ad 29), .ref (ad 30)])), (ad 21, .inl (cy 0, 6, .inl (fun i => nI (upN (gL g) c9 n9 i))))] := hD
            refine lv_aload_n hx hb dX6_limit_45 rfl (lv_at hl 0 rfl) ?_
            refine lv_iconst (v := nI 0) hx hb dX6_limit_46 (by decide) ?_
            refine va_put (D := D) (ci := 5) (v := .int (nI 0)) (ty := .boolean) (C := RX6) (T := TX6) (N := 16) hx hb hts inX6 tyX6 tyX6_ok nmX6 hown hK.1 hP hD hS 0 rfl rfl 9 (by decide) (hts (.fieldLink RX6 59 "ColourForestsModel" "known" "Z") (List.mem_of_getElem? (i := 3) rfl)) (fun _ h9 => h9) rfl (by decide +kernel) (by decide) rfl (Nat.le_of_ble_eq_true rfl) dX6_limit_47 (fun H locs hP hD hS => ?_)
            have hP : va_P D vwCl [(ad 20, .inr (5, [.int (nI 0), .int (nI (gV g)), .int (nI (gC g)), .int (nI (gE g)), .ref (ad 21), .ref (ad 22), .ref (ad 23), .ref (ad 24), .ref (ad 25), .int (nI 0), .ref (ad 26), .ref (ad 27), .ref (ad 28), .int ms, .ref (ad 29), .ref (ad 30)])), (ad 21, .inl (cy 0, 6, .inl (fun i => nI (upN (gL g) c9 n9 i))))] H := hP
            have hD : va_D (inW [(ad 20, .inr (5, [.int th, .int (nI (gV g)), .int (nI (gC g)), .int (nI (gE g)), .ref (ad 21), .ref (ad 22), .ref (ad 23), .ref (ad 24), .ref (ad 25), .int kn, .ref (ad 26), .ref (ad 27), .ref (ad 28), .int ms, .ref (ad 29), .ref (ad 30)])), (ad 21, .inl (cy 0, 6, .inl (fun i => nI (gL g i))))]) [(ad 20, .inr (5, [.int (nI 0), .int (nI (gV g)), .int (nI (gC g)), .int (nI (gE g)), .ref (ad 21), .ref (ad 22), .ref (ad 23), .ref (ad 24), .ref (ad 25), .int (nI 0), .ref (ad 26), .ref (ad 27), .ref (ad 28), .int ms, .ref (ad 29), .ref (ad 30)])), (ad 21, .inl (cy 0, 6, .inl (fun i => nI (upN (gL g) c9 n9 i))))] := hD
            exact wv_ret () hx hb hr hlocks hS hP trivial dX6_limit_50
        · exact absurd c24 (by omega)
    · exact absurd c10 (by omega)

set_option maxHeartbeats 4000000 in
set_option maxRecDepth 100000 in
theorem c_X6_weigh_1 (l : Launch) (D : va_G) (cy : Nat → ClassId) (ad : Nat → Nat) {g : GT} (hg : gOK g) (th kn ms : Int32) {x : Int32} (y : Int32) (h : isN x (gE g) = false) : WV l yX6_weigh wsX6_weigh ({ frames := 1, cells := 0, slots := 0, locals := 21 }) D cy [.ref (ad 20), .int x, .int y] [(ad 20, .inr (5, [.int th, .int (nI (gV g)), .int (nI (gC g)), .int (nI (gE g)), .ref (ad 21), .ref (ad 22), .ref (ad 23), .ref (ad 24), .ref (ad 25), .int kn, .ref (ad 26), .ref (ad 27), .ref (ad 28), .int ms, .ref (ad 29), .ref (ad 30)]))] (fun _ : Unit => True) (fun _ : Unit => [(ad 20, .inr (5, [.int (nI 1), .int (nI (gV g)), .int (nI (gC g)), .int (nI (gE g)), .ref (ad 21), .ref (ad 22), .ref (ad 23), .ref (ad 24), .ref (ad 25), .int kn, .ref (ad 26), .ref (ad 27), .ref (ad 28), .int ms, .ref (ad 29), .ref (ad 30)]))]) := by
  refine Met.ofW (cc := cX6_weigh) (maxL := 3) (ret := none) (by decide) rfl ?_
  intro p ev s m args below meth c s₁ B hml hv
  obtain ⟨rfl, ⟨hK, hP⟩, hD0⟩ := hv
  have hx := B.exec
  have hb := B.bytes
  have hr := B.returns
  have hts := atoms_spec (ws := wsX6_weigh) B.pre
  have hown : s.vm.findClass RX6 = some m.cls := findClass_of_methodNamed B.named
  have hlocks := B.notSynchronized
  have hD : va_D (inW [(ad 20, .inr (5, [.int th, .int (nI (gV g)), .int (nI (gC g)), .int (nI (gE g)), .ref (ad 21), .ref (ad 22), .ref (ad 23), .ref (ad 24), .ref (ad 25), .int kn, .ref (ad 26), .ref (ad 27), .ref (ad 28), .int ms, .ref (ad 29), .ref (ad 30)]))]) ([(ad 20, .inr (5, [.int th, .int (nI (gV g)), .int (nI (gC g)), .int (nI (gE g)), .ref (ad 21), .ref (ad 22), .ref (ad 23), .ref (ad 24), .ref (ad 25), .int kn, .ref (ad 26), .ref (ad 27), .ref (ad 28), .int ms, .ref (ad 29), .ref (ad 30)]))]) := inW_self hD0
  have hS : va_S (inW [(ad 20, .inr (5, [.int th, .int (nI (gV g)), .int (nI (gC g)), .int (nI (gE g)), .ref (ad 21), .ref (ad 22), .ref (ad 23), .ref (ad 24), .ref (ad 25), .int kn, .ref (ad 26), .ref (ad 27), .ref (ad 28), .int ms, .ref (ad 29), .ref (ad 30)]))]) s.heap s.heap [] := va_S.rf
  have hP : va_P D vwCl [(ad 20, .inr (5, [.int th, .int (nI (gV g)), .int (nI (gC g)), .int (nI (gE g)), .ref (ad 21), .ref (ad 22), .ref (ad 23), .ref (ad 24), .ref (ad 25), .int kn, .ref (ad 26), .ref (ad 27), .ref (ad 28), .int ms, .ref (ad 29), .ref (ad 30)]))] s.heap := hP
  have inX6 : ∀ w ∈ wsX60, w ∈ wsX6_weigh := by decide +kernel
  have hl := lv_entry ([.ref (ad 20), .int x, .int y]) (n := 3) (Nat.le_of_ble_eq_true rfl)
  rw [lg_entry_eq]
  generalize (lg_sl ([.ref (ad 20), .int x, .int y]) ++ List.replicate (3 - (lg_sl ([.ref (ad 20), .int x, .int y])).length) Slot.unset).toArray = ls at hl ⊢
  have hl : lv_has ls 3 [(0, .ref (ad 20)), (1, .int x), (2, .int y)] := hl
  have hgen := True.intro
  have hE := hg.2.2.1
  have hV := hg.1
  have hC := hg.2.1
  refine lv_aload_n hx hb dX6_weigh_0 rfl (lv_at hl 0 rfl) ?_
  refine lv_iload_n hx hb dX6_weigh_1 rfl (lv_at hl 1 rfl) ?_
  refine lv_if_lt (tgt := 13) hx hb dX6_weigh_2 (by decide) (fun c2 => ?_) (fun c2 => ?_)
  · refine lv_iconst (v := nI 1) hx hb dX6_weigh_13 (by decide) ?_
    refine lv_goto (tgt := 29) hx hb dX6_weigh_14 (by decide) ?_
    refine wr_calli [0] (va_runV (As := [.int (nI 1)]) (rest := []) ⟨hx, hb, hml, hown, hts⟩ (c_X6_refuses l D cy ad g th kn ms ((nI 1))) (cwV 1 hts gX6_weigh_X6_refuses rfl rfl rfl (by decide +kernel) ⟨Nat.le_of_ble_eq_true rfl, Nat.le_of_ble_eq_true rfl⟩) (WR_preV (ci := 5) (q0 := 0) hK hP hD rfl rfl [0] (by decide) rfl rfl) rfl rfl hl.1 rfl (lv_room (Nat.le_of_ble_eq_true rfl)) dX6_weigh_29 ⟨(Nat.zero_le _), (Nat.zero_le _)⟩) hS hP hD rfl (fun _ => rfl) (fun _ => rfl) (fun r29 u29 H locs w29 hP hD hS => ?_)
    refine lv_as (y := bI true) (by rw [w29]; first | rfl | decide) ?_
    have hP : va_P D vwCl [(ad 20, .inr (5, [.int (nI 1), .int (nI (gV g)), .int (nI (gC g)), .int (nI (gE g)), .ref (ad 21), .ref (ad 22), .ref (ad 23), .ref (ad 24), .ref (ad 25), .int kn, .ref (ad 26), .ref (ad 27), .ref (ad 28), .int ms, .ref (ad 29), .ref (ad 30)]))] H := hP
    have hD : va_D (inW [(ad 20, .inr (5, [.int th, .int (nI (gV g)), .int (nI (gC g)), .int (nI (gE g)), .ref (ad 21), .ref (ad 22), .ref (ad 23), .ref (ad 24), .ref (ad 25), .int kn, .ref (ad 26), .ref (ad 27), .ref (ad 28), .int ms, .ref (ad 29), .ref (ad 30)]))]) [(ad 20, .inr (5, [.int (nI 1), .int (nI (gV g)), .int (nI (gC g)), .int (nI (gE g)), .ref (ad 21), .ref (ad 22), .ref (ad 23), .ref (ad 24), .ref (ad 25), .int kn, .ref (ad 26), .ref (ad 27), .ref (ad 28), .int ms, .ref (ad 29), .ref (ad 30)]))] := hD
    refine b_ne (b := true) (tgt := 47) hx hb dX6_weigh_32 (by decide) (fun c32 => ?_) (fun c32 => ?_)
    · exact wv_ret () hx hb hr hlocks hS hP trivial dX6_weigh_47
    · cases c32
  · refine lv_iload_n hx hb dX6_weigh_5 rfl (lv_at hl 1 rfl) ?_
    refine lv_aload_n hx hb dX6_weigh_6 rfl (lv_at hl 0 rfl) ?_
    refine va_get (D := D) (ci := 5) (v := .int (nI (gE g))) (C := RX6) (T := TX6) (N := 16) hx hb hts inX6 hown hK.1 hP 0 rfl rfl 3 (by decide) (hts (.fieldLink RX6 56 "ColourForestsModel" "edges" "I") (List.mem_of_getElem? (i := 1) rfl)) (fun _ h9 => h9) rfl dX6_weigh_7 ?_
    refine lv_icmp_lt (tgt := 17) hx hb dX6_weigh_10 (by decide) (fun c10 => ?_) (fun c10 => ?_)
    · exact absurd (h.symm.trans (isN_t2 (by omega) c2 c10)) (by decide)
    · refine lv_iconst (v := nI 1) hx hb dX6_weigh_13 (by decide) ?_
      refine lv_goto (tgt := 29) hx hb dX6_weigh_14 (by decide) ?_
      refine wr_calli [0] (va_runV (As := [.int (nI 1)]) (rest := []) ⟨hx, hb, hml, hown, hts⟩ (c_X6_refuses l D cy ad g th kn ms ((nI 1))) (cwV 1 hts gX6_weigh_X6_refuses rfl rfl rfl (by decide +kernel) ⟨Nat.le_of_ble_eq_true rfl, Nat.le_of_ble_eq_true rfl⟩) (WR_preV (ci := 5) (q0 := 0) hK hP hD rfl rfl [0] (by decide) rfl rfl) rfl rfl hl.1 rfl (lv_room (Nat.le_of_ble_eq_true rfl)) dX6_weigh_29 ⟨(Nat.zero_le _), (Nat.zero_le _)⟩) hS hP hD rfl (fun _ => rfl) (fun _ => rfl) (fun r29 u29 H locs w29 hP hD hS => ?_)
      refine lv_as (y := bI true) (by rw [w29]; first | rfl | decide) ?_
      have hP : va_P D vwCl [(ad 20, .inr (5, [.int (nI 1), .int (nI (gV g)), .int (nI (gC g)), .int (nI (gE g)), .ref (ad 21), .ref (ad 22), .ref (ad 23), .ref (ad 24), .ref (ad 25), .int kn, .ref (ad 26), .ref (ad 27), .ref (ad 28), .int ms, .ref (ad 29), .ref (ad 30)]))] H := hP
      have hD : va_D (inW [(ad 20, .inr (5, [.int th, .int (nI (gV g)), .int (nI (gC g)), .int (nI (gE g)), .ref (ad 21), .ref (ad 22), .ref (ad 23), .ref (ad 24), .ref (ad 25), .int kn, .ref (ad 26), .ref (ad 27), .ref (ad 28), .int ms, .ref (ad 29), .ref (ad 30)]))]) [(ad 20, .inr (5, [.int (nI 1), .int (nI (gV g)), .int (nI (gC g)), .int (nI (gE g)), .ref (ad 21), .ref (ad 22), .ref (ad 23), .ref (ad 24), .ref (ad 25), .int kn, .ref (ad 26), .ref (ad 27), .ref (ad 28), .int ms, .ref (ad 29), .ref (ad 30)]))] := hD
      refine b_ne (b := true) (tgt := 47) hx hb dX6_weigh_32 (by decide) (fun c32 => ?_) (fun c32 => ?_)
      · exact wv_ret () hx hb hr hlocks hS hP trivial dX6_weigh_47
      · cases c32

set_option maxHeartbeats 4000000 in
set_option maxRecDepth 100000 in
theorem c_X6_weigh_2 (l : Launch) (D : va_G) (cy : Nat → ClassId) (ad : Nat → Nat) {g : GT} (hg : gOK g) (th kn ms : Int32) {x y : Int32} (h1 : isN x (gE g) = true) (h : isW y = false) : WV l yX6_weigh wsX6_weigh ({ frames := 1, cells := 0, slots := 0, locals := 21 }) D cy [.ref (ad 20), .int x, .int y] [(ad 20, .inr (5, [.int th, .int (nI (gV g)), .int (nI (gC g)), .int (nI (gE g)), .ref (ad 21), .ref (ad 22), .ref (ad 23), .ref (ad 24), .ref (ad 25), .int kn, .ref (ad 26), .ref (ad 27), .ref (ad 28), .int ms, .ref (ad 29), .ref (ad 30)]))] (fun _ : Unit => True) (fun _ : Unit => [(ad 20, .inr (5, [.int (nI 2), .int (nI (gV g)), .int (nI (gC g)), .int (nI (gE g)), .ref (ad 21), .ref (ad 22), .ref (ad 23), .ref (ad 24), .ref (ad 25), .int kn, .ref (ad 26), .ref (ad 27), .ref (ad 28), .int ms, .ref (ad 29), .ref (ad 30)]))]) := by
  refine Met.ofW (cc := cX6_weigh) (maxL := 3) (ret := none) (by decide) rfl ?_
  intro p ev s m args below meth c s₁ B hml hv
  obtain ⟨rfl, ⟨hK, hP⟩, hD0⟩ := hv
  have hx := B.exec
  have hb := B.bytes
  have hr := B.returns
  have hts := atoms_spec (ws := wsX6_weigh) B.pre
  have hown : s.vm.findClass RX6 = some m.cls := findClass_of_methodNamed B.named
  have hlocks := B.notSynchronized
  have hD : va_D (inW [(ad 20, .inr (5, [.int th, .int (nI (gV g)), .int (nI (gC g)), .int (nI (gE g)), .ref (ad 21), .ref (ad 22), .ref (ad 23), .ref (ad 24), .ref (ad 25), .int kn, .ref (ad 26), .ref (ad 27), .ref (ad 28), .int ms, .ref (ad 29), .ref (ad 30)]))]) ([(ad 20, .inr (5, [.int th, .int (nI (gV g)), .int (nI (gC g)), .int (nI (gE g)), .ref (ad 21), .ref (ad 22), .ref (ad 23), .ref (ad 24), .ref (ad 25), .int kn, .ref (ad 26), .ref (ad 27), .ref (ad 28), .int ms, .ref (ad 29), .ref (ad 30)]))]) := inW_self hD0
  have hS : va_S (inW [(ad 20, .inr (5, [.int th, .int (nI (gV g)), .int (nI (gC g)), .int (nI (gE g)), .ref (ad 21), .ref (ad 22), .ref (ad 23), .ref (ad 24), .ref (ad 25), .int kn, .ref (ad 26), .ref (ad 27), .ref (ad 28), .int ms, .ref (ad 29), .ref (ad 30)]))]) s.heap s.heap [] := va_S.rf
  have hP : va_P D vwCl [(ad 20, .inr (5, [.int th, .int (nI (gV g)), .int (nI (gC g)), .int (nI (gE g)), .ref (ad 21), .ref (ad 22), .ref (ad 23), .ref (ad 24), .ref (ad 25), .int kn, .ref (ad 26), .ref (ad 27), .ref (ad 28), .int ms, .ref (ad 29), .ref (ad 30)]))] s.heap := hP
  have inX6 : ∀ w ∈ wsX60, w ∈ wsX6_weigh := by decide +kernel
  have hl := lv_entry ([.ref (ad 20), .int x, .int y]) (n := 3) (Nat.le_of_ble_eq_true rfl)
  rw [lg_entry_eq]
  generalize (lg_sl ([.ref (ad 20), .int x, .int y]) ++ List.replicate (3 - (lg_sl ([.ref (ad 20), .int x, .int y])).length) Slot.unset).toArray = ls at hl ⊢
  have hl : lv_has ls 3 [(0, .ref (ad 20)), (1, .int x), (2, .int y)] := hl
  have hgen := True.intro
  have hE := hg.2.2.1
  have hV := hg.1
  have hC := hg.2.1
  refine lv_aload_n hx hb dX6_weigh_0 rfl (lv_at hl 0 rfl) ?_
  refine lv_iload_n hx hb dX6_weigh_1 rfl (lv_at hl 1 rfl) ?_
  refine lv_if_lt (tgt := 13) hx hb dX6_weigh_2 (by decide) (fun c2 => ?_) (fun c2 => ?_)
  · exact absurd h1 (by first | (rw [isN_f0 c2]; decide) | (rw [isN_f1 (by omega) (le_of_nlt c10)]; decide))
  · refine lv_iload_n hx hb dX6_weigh_5 rfl (lv_at hl 1 rfl) ?_
    refine lv_aload_n hx hb dX6_weigh_6 rfl (lv_at hl 0 rfl) ?_
    refine va_get (D := D) (ci := 5) (v := .int (nI (gE g))) (C := RX6) (T := TX6) (N := 16) hx hb hts inX6 hown hK.1 hP 0 rfl rfl 3 (by decide) (hts (.fieldLink RX6 56 "ColourForestsModel" "edges" "I") (List.mem_of_getElem? (i := 1) rfl)) (fun _ h9 => h9) rfl dX6_weigh_7 ?_
    refine lv_icmp_lt (tgt := 17) hx hb dX6_weigh_10 (by decide) (fun c10 => ?_) (fun c10 => ?_)
    · refine lv_iload_n hx hb dX6_weigh_17 rfl (lv_at hl 2 rfl) ?_
      refine pu_call (va_runS (As := [.int y]) (rest := [.ref (ad 20)]) ⟨hx, hb, hml, hown, hts⟩ (c_X6_isHeavy l D cy y) (va_cwS 1 hts gX6_weigh_X6_isHeavy rfl rfl rfl (by decide +kernel) ⟨Nat.le_of_ble_eq_true rfl, Nat.le_of_ble_eq_true rfl⟩) (PU_preS hK hP [] rfl) rfl rfl hl.1 rfl (lv_room (Nat.le_of_ble_eq_true rfl)) dX6_weigh_18 ⟨(Nat.zero_le _), (Nat.zero_le _)⟩) hS hP (fun H locs hP hS => ?_)
      refine b_eq (b := (!isW y)) (tgt := 28) hx hb dX6_weigh_21 (by decide) (fun c21 => ?_) (fun c21 => ?_)
      · exact absurd c21 (by rw [h]; decide)
      · refine lv_iconst (v := nI 2) hx hb dX6_weigh_24 (by decide) ?_
        refine lv_goto (tgt := 29) hx hb dX6_weigh_25 (by decide) ?_
        refine wr_calli [0] (va_runV (As := [.int (nI 2)]) (rest := []) ⟨hx, hb, hml, hown, hts⟩ (c_X6_refuses l D cy ad g th kn ms ((nI 2))) (cwV 1 hts gX6_weigh_X6_refuses rfl rfl rfl (by decide +kernel) ⟨Nat.le_of_ble_eq_true rfl, Nat.le_of_ble_eq_true rfl⟩) (WR_preV (ci := 5) (q0 := 0) hK hP hD rfl rfl [0] (by decide) rfl rfl) rfl rfl hl.1 rfl (lv_room (Nat.le_of_ble_eq_true rfl)) dX6_weigh_29 ⟨(Nat.zero_le _), (Nat.zero_le _)⟩) hS hP hD rfl (fun _ => rfl) (fun _ => rfl) (fun r29 u29 H locs w29 hP hD hS => ?_)
        refine lv_as (y := bI true) (by rw [w29]; first | rfl | decide) ?_
        have hP : va_P D vwCl [(ad 20, .inr (5, [.int (nI 2), .int (nI (gV g)), .int (nI (gC g)), .int (nI (gE g)), .ref (ad 21), .ref (ad 22), .ref (ad 23), .ref (ad 24), .ref (ad 25), .int kn, .ref (ad 26), .ref (ad 27), .ref (ad 28), .int ms, .ref (ad 29), .ref (ad 30)]))] H := hP
        have hD : va_D (inW [(ad 20, .inr (5, [.int th, .int (nI (gV g)), .int (nI (gC g)), .int (nI (gE g)), .ref (ad 21), .ref (ad 22), .ref (ad 23), .ref (ad 24), .ref (ad 25), .int kn, .ref (ad 26), .ref (ad 27), .ref (ad 28), .int ms, .ref (ad 29), .ref (ad 30)]))]) [(ad 20, .inr (5, [.int (nI 2), .int (nI (gV g)), .int (nI (gC g)), .int (nI (gE g)), .ref (ad 21), .ref (ad 22), .ref (ad 23), .ref (ad 24), .ref (ad 25), .int kn, .ref (ad 26), .ref (ad 27), .ref (ad 28), .int ms, .ref (ad 29), .ref (ad 30)]))] := hD
        refine b_ne (b := true) (tgt := 47) hx hb dX6_weigh_32 (by decide) (fun c32 => ?_) (fun c32 => ?_)
        · exact wv_ret () hx hb hr hlocks hS hP trivial dX6_weigh_47
        · cases c32
    · exact absurd h1 (by first | (rw [isN_f0 c2]; decide) | (rw [isN_f1 (by omega) (le_of_nlt c10)]; decide))

set_option maxHeartbeats 4000000 in
set_option maxRecDepth 100000 in
theorem c_X6_weigh_0 (l : Launch) (D : va_G) (cy : Nat → ClassId) (ad : Nat → Nat) {g : GT} (hg : gOK g) (th kn ms : Int32) {e : Nat} {w : Int} (he : e < gE g) (hw : -9999 ≤ w ∧ w ≤ 9999) : WV l yX6_weigh wsX6_weigh ({ frames := 1, cells := 0, slots := 0, locals := 21 }) D cy [.ref (ad 20), .int (nI e), .int (zI w)] [(ad 20, .inr (5, [.int th, .int (nI (gV g)), .int (nI (gC g)), .int (nI (gE g)), .ref (ad 21), .ref (ad 22), .ref (ad 23), .ref (ad 24), .ref (ad 25), .int kn, .ref (ad 26), .ref (ad 27), .ref (ad 28), .int ms, .ref (ad 29), .ref (ad 30)])), (ad 25, .inl (cy 0, 14, .inl (fun i => zI (gW g i))))] (fun _ : Unit => True) (fun _ : Unit => [(ad 20, .inr (5, [.int (nI 0), .int (nI (gV (weG e w g))), .int (nI (gC (weG e w g))), .int (nI (gE (weG e w g))), .ref (ad 21), .ref (ad 22), .ref (ad 23), .ref (ad 24), .ref (ad 25), .int (bI false), .ref (ad 26), .ref (ad 27), .ref (ad 28), .int ms, .ref (ad 29), .ref (ad 30)])), (ad 25, .inl (cy 0, 14, .inl (fun i => zI (gW (weG e w g) i))))]) := by
  refine Met.ofW (cc := cX6_weigh) (maxL := 3) (ret := none) (by decide) rfl ?_
  intro p ev s m args below meth c s₁ B hml hv
  obtain ⟨rfl, ⟨hK, hP⟩, hD0⟩ := hv
  have hx := B.exec
  have hb := B.bytes
  have hr := B.returns
  have hts := atoms_spec (ws := wsX6_weigh) B.pre
  have hown : s.vm.findClass RX6 = some m.cls := findClass_of_methodNamed B.named
  have hlocks := B.notSynchronized
  have hD : va_D (inW [(ad 20, .inr (5, [.int th, .int (nI (gV g)), .int (nI (gC g)), .int (nI (gE g)), .ref (ad 21), .ref (ad 22), .ref (ad 23), .ref (ad 24), .ref (ad 25), .int kn, .ref (ad 26), .ref (ad 27), .ref (ad 28), .int ms, .ref (ad 29), .ref (ad 30)])), (ad 25, .inl (cy 0, 14, .inl (fun i => zI (gW g i))))]) ([(ad 20, .inr (5, [.int th, .int (nI (gV g)), .int (nI (gC g)), .int (nI (gE g)), .ref (ad 21), .ref (ad 22), .ref (ad 23), .ref (ad 24), .ref (ad 25), .int kn, .ref (ad 26), .ref (ad 27), .ref (ad 28), .int ms, .ref (ad 29), .ref (ad 30)])), (ad 25, .inl (cy 0, 14, .inl (fun i => zI (gW g i))))]) := inW_self hD0
  have hS : va_S (inW [(ad 20, .inr (5, [.int th, .int (nI (gV g)), .int (nI (gC g)), .int (nI (gE g)), .ref (ad 21), .ref (ad 22), .ref (ad 23), .ref (ad 24), .ref (ad 25), .int kn, .ref (ad 26), .ref (ad 27), .ref (ad 28), .int ms, .ref (ad 29), .ref (ad 30)])), (ad 25, .inl (cy 0, 14, .inl (fun i => zI (gW g i))))]) s.heap s.heap [] := va_S.rf
  have hP : va_P D vwCl [(ad 20, .inr (5, [.int th, .int (nI (gV g)), .int (nI (gC g)), .int (nI (gE g)), .ref (ad 21), .ref (ad 22), .ref (ad 23), .ref (ad 24), .ref (ad 25), .int kn, .ref (ad 26), .ref (ad 27), .ref (ad 28), .int ms, .ref (ad 29), .ref (ad 30)])), (ad 25, .inl (cy 0, 14, .inl (fun i => zI (gW g i))))] s.heap := hP
  have inX6 : ∀ w ∈ wsX60, w ∈ wsX6_weigh := by decide +kernel
  have hl := lv_entry ([.ref (ad 20), .int (nI e), .int (zI w)]) (n := 3) (Nat.le_of_ble_eq_true rfl)
  rw [lg_entry_eq]
  generalize (lg_sl ([.ref (ad 20), .int (nI e), .int (zI w)]) ++ List.replicate (3 - (lg_sl ([.ref (ad 20), .int (nI e), .int (zI w)])).length) Slot.unset).toArray = ls at hl ⊢
  have hl : lv_has ls 3 [(0, .ref (ad 20)), (1, .int (nI e)), (2, .int (zI w))] := hl
  have hgen := True.intro
  have hE := hg.2.2.1
  have hV := hg.1
  have hC := hg.2.1
  refine lv_aload_n hx hb dX6_weigh_0 rfl (lv_at hl 0 rfl) ?_
  refine lv_iload_n hx hb dX6_weigh_1 rfl (lv_at hl 1 rfl) ?_
  refine lv_if_lt (tgt := 13) hx hb dX6_weigh_2 (by decide) (fun c2 => ?_) (fun c2 => ?_)
  · exact absurd c2 (nlt0 (by omega))
  · refine lv_iload_n hx hb dX6_weigh_5 rfl (lv_at hl 1 rfl) ?_
    refine lv_aload_n hx hb dX6_weigh_6 rfl (lv_at hl 0 rfl) ?_
    refine va_get (D := D) (ci := 5) (v := .int (nI (gE g))) (C := RX6) (T := TX6) (N := 16) hx hb hts inX6 hown hK.1 hP 0 rfl rfl 3 (by decide) (hts (.fieldLink RX6 56 "ColourForestsModel" "edges" "I") (List.mem_of_getElem? (i := 1) rfl)) (fun _ h9 => h9) rfl dX6_weigh_7 ?_
    refine n_lt (a := e) (b := (gE g)) (tgt := 17) hx hb dX6_weigh_10 (by decide) (by omega) (by omega) (fun c10 => ?_) (fun c10 => ?_)
    · refine lv_iload_n hx hb dX6_weigh_17 rfl (lv_at hl 2 rfl) ?_
      refine pu_call (va_runS (As := [.int (zI w)]) (rest := [.ref (ad 20)]) ⟨hx, hb, hml, hown, hts⟩ (c_X6_isHeavy l D cy ((zI w))) (va_cwS 1 hts gX6_weigh_X6_isHeavy rfl rfl rfl (by decide +kernel) ⟨Nat.le_of_ble_eq_true rfl, Nat.le_of_ble_eq_true rfl⟩) (PU_preS hK hP [] rfl) rfl rfl hl.1 rfl (lv_room (Nat.le_of_ble_eq_true rfl)) dX6_weigh_18 ⟨(Nat.zero_le _), (Nat.zero_le _)⟩) hS hP (fun H locs hP hS => ?_)
      refine b_eq (b := (!isW ((zI w)))) (tgt := 28) hx hb dX6_weigh_21 (by decide) (fun c21 => ?_) (fun c21 => ?_)
      · refine lv_iconst (v := nI 0) hx hb dX6_weigh_28 (by decide) ?_
        refine wr_calli [0] (va_runV (As := [.int (nI 0)]) (rest := []) ⟨hx, hb, hml, hown, hts⟩ (c_X6_refuses l D cy ad g th kn ms ((nI 0))) (cwV 1 hts gX6_weigh_X6_refuses rfl rfl rfl (by decide +kernel) ⟨Nat.le_of_ble_eq_true rfl, Nat.le_of_ble_eq_true rfl⟩) (WR_preV (ci := 5) (q0 := 0) hK hP hD rfl rfl [0] (by decide) rfl rfl) rfl rfl hl.1 rfl (lv_room (Nat.le_of_ble_eq_true rfl)) dX6_weigh_29 ⟨(Nat.zero_le _), (Nat.zero_le _)⟩) hS hP hD rfl (fun _ => rfl) (fun _ => rfl) (fun r29 u29 H locs w29 hP hD hS => ?_)
        refine lv_as (y := bI false) (by rw [w29]; first | rfl | decide) ?_
        have hP : va_P D vwCl [(ad 20, .inr (5, [.int (nI 0), .int (nI (gV g)), .int (nI (gC g)), .int (nI (gE g)), .ref (ad 21), .ref (ad 22), .ref (ad 23), .ref (ad 24), .ref (ad 25), .int kn, .ref (ad 26), .ref (ad 27), .ref (ad 28), .int ms, .ref (ad 29), .ref (ad 30)])), (ad 25, .inl (cy 0, 14, .inl (fun i => zI (gW g i))))] H := hP
        have hD : va_D (inW [(ad 20, .inr (5, [.int th, .int (nI (gV g)), .int (nI (gC g)), .int (nI (gE g)), .ref (ad 21), .ref (ad 22), .ref (ad 23), .ref (ad 24), .ref (ad 25), .int kn, .ref (ad 26), .ref (ad 27), .ref (ad 28), .int ms, .ref (ad 29), .ref (ad 30)])), (ad 25, .inl (cy 0, 14, .inl (fun i => zI (gW g i))))]) [(ad 20, .inr (5, [.int (nI 0), .int (nI (gV g)), .int (nI (gC g)), .int (nI (gE g)), .ref (ad 21), .ref (ad 22), .ref (ad 23), .ref (ad 24), .ref (ad 25), .int kn, .ref (ad 26), .ref (ad 27), .ref (ad 28), .int ms, .ref (ad 29), .ref (ad 30)])), (ad 25, .inl (cy 0, 14, .inl (fun i => zI (gW g i))))] := hD
        refine b_ne (b := false) (tgt := 47) hx hb dX6_weigh_32 (by decide) (fun c32 => ?_) (fun c32 => ?_)
        · cases c32
        · refine lv_aload_n hx hb dX6_weigh_35 rfl (lv_at hl 0 rfl) ?_
          refine va_get (D := D) (ci := 5) (v := .ref (ad 25)) (C := RX6) (T := TX6) (N := 16) hx hb hts inX6 hown hK.1 hP 0 rfl rfl 8 (by decide) (hts (.fieldLink RX6 29 "ColourForestsModel" "weights" "[I") (List.mem_of_getElem? (i := 2) rfl)) (fun _ h9 => h9) rfl dX6_weigh_36 ?_
          refine lv_iload_n hx hb dX6_weigh_39 rfl (lv_at hl 1 rfl) ?_
          refine lv_iload_n hx hb dX6_weigh_40 rfl (lv_at hl 2 rfl) ?_
          refine st_i (k := e) (g := (fun i => zI (upZ (gW g) e w i))) hx hb hK hP hD hS 1 rfl (by omega) (by decide) (upd_zI _ _ _) dX6_weigh_41 (fun H locs hP hD hS => ?_)
          have hP : va_P D vwCl [(ad 20, .inr (5, [.int (nI 0), .int (nI (gV g)), .int (nI (gC g)), .int (nI (gE g)), .ref (ad 21), .ref (ad 22), .ref (ad 23), .ref (ad 24), .ref (ad 25), .int kn, .ref (ad 26), .ref (ad 27), .ref (ad 28), .int ms, .ref (ad 29), .ref (ad 30)])), (ad 25, .inl (cy 0, 14, .inl (fun i => zI (upZ (gW g) e w i))))] H := hP
          have hD : va_D (inW [(ad 20, .inr (5, [.int th, .int (nI (gV g)), .int (nI (gC g)), .int (nI (gE g)), .ref (ad 21), .ref (ad 22), .ref (ad 23), .ref (ad 24), .ref (ad 25), .int kn, .ref (ad 26), .ref (ad 27), .ref (ad 28), .int ms, .ref (ad 29), .ref (ad 30)])), (ad 25, .inl (cy 0, 14, .inl (fun i => zI (gW g i))))]) [(ad 20, .inr (5, [.int (nI 0), .int (nI (gV g)), .int (nI (gC g)), .int (nI (gE g)), .ref (ad 21), .ref (ad 22), .ref (ad 23), .ref (ad 24), .ref (ad 25), .int kn, .ref (ad 26), .ref (ad 27), .ref (ad 28), .int ms, .ref (ad 29), .ref (ad 30)])), (ad 25, .inl (cy 0, 14, .inl (fun i => zI (upZ (gW g) e w i))))] := hD
          refine lv_aload_n hx hb dX6_weigh_42 rfl (lv_at hl 0 rfl) ?_
          refine lv_iconst (v := nI 0) hx hb dX6_weigh_43 (by decide) ?_
          refine va_put (D := D) (ci := 5) (v := .int (nI 0)) (ty := .boolean) (C := RX6) (T := TX6) (N := 16) hx hb hts inX6 tyX6 tyX6_ok nmX6 hown hK.1 hP hD hS 0 rfl rfl 9 (by decide) (hts (.fieldLink RX6 59 "ColourForestsModel" "known" "Z") (List.mem_of_getElem? (i := 3) rfl)) (fun _ h9 => h9) rfl (by decide +kernel) (by decide) rfl (Nat.le_of_ble_eq_true rfl) dX6_weigh_44 (fun H locs hP hD hS => ?_)
          have hP : va_P D vwCl [(ad 20, .inr (5, [.int (nI 0), .int (nI (gV g)), .int (nI (gC g)), .int (nI (gE g)), .ref (ad 21), .ref (ad 22), .ref (ad 23), .ref (ad 24), .ref (ad 25), .int (nI 0), .ref (ad 26), .ref (ad 27), .ref (ad 28), .int ms, .ref (ad 29), .ref (ad 30)])), (ad 25, .inl (cy 0, 14, .inl (fun i => zI (upZ (gW g) e w i))))] H := hP
          have hD : va_D (inW [(ad 20, .inr (5, [.int th, .int (nI (gV g)), .int (nI (gC g)), .int (nI (gE g)), .ref (ad 21), .ref (ad 22), .ref (ad 23), .ref (ad 24), .ref (ad 25), .int kn, .ref (ad 26), .ref (ad 27), .ref (ad 28), .int ms, .ref (ad 29), .ref (ad 30)])), (ad 25, .inl (cy 0, 14, .inl (fun i => zI (gW g i))))]) [(ad 20, .inr (5, [.int (nI 0), .int (nI (gV g)), .int (nI (gC g)), .int (nI (gE g)), .ref (ad 21), .ref (ad 22), .ref (ad 23), .ref (ad 24), .ref (ad 25), .int (nI 0), .ref (ad 26), .ref (ad 27), .ref (ad 28), .int ms, .ref (ad 29), .ref (ad 30)])), (ad 25, .inl (cy 0, 14, .inl (fun i => zI (upZ (gW g) e w i))))] := hD
          exact wv_ret () hx hb hr hlocks hS hP trivial dX6_weigh_47
      · exact absurd c21 (by rw [isW_z hw]; decide)
    · exact absurd c10 (by omega)
