set_option maxHeartbeats 4000000 in
set_option maxRecDepth 100000 in
theorem c_J7_fill_53178 (l : Launch) (D : va_G) (cy : Nat → ClassId) (ad : Nat → Nat) (g : GT) : WV l yJ7_fill_53178 wsJ7_fill_53178 ({ frames := 0, cells := 0, slots := 0, locals := 0 }) D cy [.ref (ad 2), .int (nI 1)] [(ad 2, .inl (cy 0, 6, .inl (fun i => nI (gL g i))))] (fun _ : Unit => True) (fun _ : Unit => [(ad 2, .inl (cy 0, 6, .inl (fun i => nI (if i < 6 then 1 else gL g i))))]) := by
  refine Met.ofW (cc := cJ7_fill_53178) (maxL := 4) (ret := none) (by decide) rfl ?_
  intro p ev s m args below meth c s₁ B hml hv
  obtain ⟨rfl, ⟨hK, hP⟩, hD0⟩ := hv
  have hx := B.exec
  have hb := B.bytes
  have hr := B.returns
  have hts := atoms_spec (ws := wsJ7_fill_53178) B.pre
  have hown : s.vm.findClass RJ7 = some m.cls := findClass_of_methodNamed B.named
  have hlocks := B.notSynchronized
  have hD : va_D (inW [(ad 2, .inl (cy 0, 6, .inl (fun i => nI (gL g i))))]) ([(ad 2, .inl (cy 0, 6, .inl (fun i => nI (gL g i))))]) := inW_self hD0
  have hS : va_S (inW [(ad 2, .inl (cy 0, 6, .inl (fun i => nI (gL g i))))]) s.heap s.heap [] := va_S.rf
  have hP : va_P D vwCl [(ad 2, .inl (cy 0, 6, .inl (fun i => nI (gL g i))))] s.heap := hP
  have hl := lv_entry ([.ref (ad 2), .int (nI 1)]) (n := 4) (Nat.le_of_ble_eq_true rfl)
  rw [lg_entry_eq]
  generalize (lg_sl ([.ref (ad 2), .int (nI 1)]) ++ List.replicate (4 - (lg_sl ([.ref (ad 2), .int (nI 1)])).length) Slot.unset).toArray = ls at hl ⊢
  have hl : lv_has ls 4 [(0, .ref (ad 2)), (1, .int (nI 1))] := hl
  have hgen := True.intro
  refine lv_iconst (v := nI 0) hx hb dJ7_fill_53178_0 (by decide) ?_
  refine lv_istore_n (lv' := [(2, .int (nI 0)), (0, .ref (ad 2)), (1, .int (nI 1))]) hx hb dJ7_fill_53178_1 rfl hl (by decide) rfl (fun ls hl => ?_)
  refine lv_aload_n hx hb dJ7_fill_53178_2 rfl (lv_at hl 1 rfl) ?_
  refine alen_i hx hb hK hP 0 rfl (by decide) dJ7_fill_53178_3 ?_
  refine lv_istore_n (lv' := [(3, .int (nI 6)), (2, .int (nI 0)), (0, .ref (ad 2)), (1, .int (nI 1))]) hx hb dJ7_fill_53178_4 rfl hl (by decide) rfl (fun ls hl => ?_)
  have L5 : ∀ (n : Nat) (v : Nat), v ≤ 6 ∧ 7 ≤ v + n → ∀ (H : Heap) (locs : List Loc), va_P D vwCl [(ad 2, .inl (cy 0, 6, .inl (fun i => nI (if i < v then 1 else gL g i))))] H → va_D (inW [(ad 2, .inl (cy 0, 6, .inl (fun i => nI (gL g i))))]) [(ad 2, .inl (cy 0, 6, .inl (fun i => nI (if i < v then 1 else gL g i))))] → va_S (inW [(ad 2, .inl (cy 0, 6, .inl (fun i => nI (gL g i))))]) s.heap H locs → ∀ (ls : Array Slot), lv_has ls 4 [(0, .ref (ad 2)), (1, .int (nI 1)), (2, .int (nI v)), (3, .int (nI 6))] → W p l ev (headSpec wsJ7_fill_53178 ({ frames := 0, cells := 0, slots := 0, locals := 0 })).room s m [.ref (ad 2), .int (nI 1)].toArray below meth c H locs 0 0 (MQ below (va_Qv (fun _ : Unit => True) (fun u t => va_P D vwCl ((fun _ : Unit => [(ad 2, .inl (cy 0, 6, .inl (fun i => nI (if i < 6 then 1 else gL g i))))]) u) t.heap) (inW [(ad 2, .inl (cy 0, 6, .inl (fun i => nI (gL g i))))])) [.ref (ad 2), .int (nI 1)].toArray s 0 0 (inW [(ad 2, .inl (cy 0, 6, .inl (fun i => nI (gL g i))))])) (F0 m 5 ls []) := by
    intro n
    induction n with
    | zero =>
      intro v hfuel  H locs hP hD hS ls hl
      exact absurd hfuel.2 (by have := hfuel.1; omega)
    | succ n ih5 =>
      intro v hfuel  H locs hP hD hS ls hl
      obtain ⟨hfu1, hfu2⟩ := hfuel
      refine lv_iload_n hx hb dJ7_fill_53178_5 rfl (lv_at hl 2 rfl) ?_
      refine lv_iload_n hx hb dJ7_fill_53178_6 rfl (lv_at hl 3 rfl) ?_
      refine n_ge (a := v) (b := 6) (tgt := 20) hx hb dJ7_fill_53178_7 (by decide) (by omega) (by omega) (fun c7 => ?_) (fun c7 => ?_)
      · have hve : v = 6 := by omega
        subst hve
        exact wv_ret () hx hb hr hlocks hS hP trivial dJ7_fill_53178_20
      · refine lv_aload_n hx hb dJ7_fill_53178_10 rfl (lv_at hl 0 rfl) ?_
        refine lv_iload_n hx hb dJ7_fill_53178_11 rfl (lv_at hl 2 rfl) ?_
        refine lv_iload_n hx hb dJ7_fill_53178_12 rfl (lv_at hl 1 rfl) ?_
        refine st_i (k := v) (g := (fun i => nI (if i < v + 1 then 1 else gL g i))) hx hb hK hP hD hS 0 rfl (by omega) (by decide) (upd_lim _ _) dJ7_fill_53178_13 (fun H locs hP hD hS => ?_)
        have hP : va_P D vwCl [(ad 2, .inl (cy 0, 6, .inl (fun i => nI (if i < v + 1 then 1 else gL g i))))] H := hP
        have hD : va_D (inW [(ad 2, .inl (cy 0, 6, .inl (fun i => nI (gL g i))))]) [(ad 2, .inl (cy 0, 6, .inl (fun i => nI (if i < v + 1 then 1 else gL g i))))] := hD
        refine lv_iinc (v := (nI (v + 1))) (lv' := [(2, .int (nI (v + 1))), (0, .ref (ad 2)), (1, .int (nI 1)), (3, .int (nI 6))]) hx hb dJ7_fill_53178_14 hl (k := 2) rfl (ni_inc _) (by decide) rfl (fun ls hl => ?_)
        refine lv_goto (tgt := 5) hx hb dJ7_fill_53178_17 (by decide) ?_
        exact ih5 (v + 1) ⟨by omega, by omega⟩  _ _ hP hD hS _ (lv_sub hl [1, 2, 0, 3] rfl)
  exact L5 7 0 ⟨by omega, by omega⟩  _ _ (by rw [lim_0]; exact hP) (va_D_same rfl hD) hS _ (lv_sub hl [2, 3, 1, 0] rfl)

set_option maxHeartbeats 4000000 in
set_option maxRecDepth 100000 in
theorem c_X0_restart (l : Launch) (D : va_G) (cy : Nat → ClassId) (ad : Nat → Nat) (ch : Int32) (g : GT) {a b : Nat} : WV l yX0_restart wsX0_restart ({ frames := 1, cells := 0, slots := 0, locals := 23 }) D cy [.ref (ad 1), .int (nI a), .int (nI b)] [(ad 1, .inr (0, [.int (nI (gV g)), .int (nI (gC g)), .int (nI (gE g)), .int ch, .ref (ad 2), .ref (ad 3), .ref (ad 4), .ref (ad 5), .ref (ad 6)])), (ad 2, .inl (cy 0, 6, .inl (fun i => nI (gL g i))))] (fun _ : Unit => True) (fun _ : Unit => [(ad 1, .inr (0, [.int (nI (gV (mkG a b g))), .int (nI (gC (mkG a b g))), .int (nI (gE (mkG a b g))), .int (ch + nI 1), .ref (ad 2), .ref (ad 3), .ref (ad 4), .ref (ad 5), .ref (ad 6)])), (ad 2, .inl (cy 0, 6, .inl (fun i => nI (gL (mkG a b g) i))))]) := by
  refine Met.ofW (cc := cX0_restart) (maxL := 3) (ret := none) (by decide) rfl ?_
  intro p ev s m args below meth c s₁ B hml hv
  obtain ⟨rfl, ⟨hK, hP⟩, hD0⟩ := hv
  have hx := B.exec
  have hb := B.bytes
  have hr := B.returns
  have hts := atoms_spec (ws := wsX0_restart) B.pre
  have hown : s.vm.findClass RX0 = some m.cls := findClass_of_methodNamed B.named
  have hlocks := B.notSynchronized
  have hD : va_D (inW [(ad 1, .inr (0, [.int (nI (gV g)), .int (nI (gC g)), .int (nI (gE g)), .int ch, .ref (ad 2), .ref (ad 3), .ref (ad 4), .ref (ad 5), .ref (ad 6)])), (ad 2, .inl (cy 0, 6, .inl (fun i => nI (gL g i))))]) ([(ad 1, .inr (0, [.int (nI (gV g)), .int (nI (gC g)), .int (nI (gE g)), .int ch, .ref (ad 2), .ref (ad 3), .ref (ad 4), .ref (ad 5), .ref (ad 6)])), (ad 2, .inl (cy 0, 6, .inl (fun i => nI (gL g i))))]) := inW_self hD0
  have hS : va_S (inW [(ad 1, .inr (0, [.int (nI (gV g)), .int (nI (gC g)), .int (nI (gE g)), .int ch, .ref (ad 2), .ref (ad 3), .ref (ad 4), .ref (ad 5), .ref (ad 6)])), (ad 2, .inl (cy 0, 6, .inl (fun i => nI (gL g i))))]) s.heap s.heap [] := va_S.rf
  have hP : va_P D vwCl [(ad 1, .inr (0, [.int (nI (gV g)), .int (nI (gC g)), .int (nI (gE g)), .int ch, .ref (ad 2), .ref (ad 3), .ref (ad 4), .ref (ad 5), .ref (ad 6)])), (ad 2, .inl (cy 0, 6, .inl (fun i => nI (gL g i))))] s.heap := hP
  have inX0 : ∀ w ∈ wsX00, w ∈ wsX0_restart := by decide +kernel
  have hl := lv_entry ([.ref (ad 1), .int (nI a), .int (nI b)]) (n := 3) (Nat.le_of_ble_eq_true rfl)
  rw [lg_entry_eq]
  generalize (lg_sl ([.ref (ad 1), .int (nI a), .int (nI b)]) ++ List.replicate (3 - (lg_sl ([.ref (ad 1), .int (nI a), .int (nI b)])).length) Slot.unset).toArray = ls at hl ⊢
  have hl : lv_has ls 3 [(0, .ref (ad 1)), (1, .int (nI a)), (2, .int (nI b))] := hl
  have hgen := True.intro
  refine lv_aload_n hx hb dX0_restart_0 rfl (lv_at hl 0 rfl) ?_
  refine lv_iload_n hx hb dX0_restart_1 rfl (lv_at hl 1 rfl) ?_
  refine va_put (D := D) (ci := 0) (v := .int (nI a)) (ty := .int) (C := RX0) (T := TX0) (N := 9) hx hb hts inX0 tyX0 tyX0_ok nmX0 hown hK.1 hP hD hS 0 rfl rfl 0 (by decide) (hts (.fieldLink RX0 27 "ColourForests$Graph" "vertices" "I") (List.mem_of_getElem? (i := 1) rfl)) (fun _ h9 => h9) rfl (by decide +kernel) rfl rfl (Nat.le_of_ble_eq_true rfl) dX0_restart_2 (fun H locs hP hD hS => ?_)
  have hP : va_P D vwCl [(ad 1, .inr (0, [.int (nI a), .int (nI (gC g)), .int (nI (gE g)), .int ch, .ref (ad 2), .ref (ad 3), .ref (ad 4), .ref (ad 5), .ref (ad 6)])), (ad 2, .inl (cy 0, 6, .inl (fun i => nI (gL g i))))] H := hP
  have hD : va_D (inW [(ad 1, .inr (0, [.int (nI (gV g)), .int (nI (gC g)), .int (nI (gE g)), .int ch, .ref (ad 2), .ref (ad 3), .ref (ad 4), .ref (ad 5), .ref (ad 6)])), (ad 2, .inl (cy 0, 6, .inl (fun i => nI (gL g i))))]) [(ad 1, .inr (0, [.int (nI a), .int (nI (gC g)), .int (nI (gE g)), .int ch, .ref (ad 2), .ref (ad 3), .ref (ad 4), .ref (ad 5), .ref (ad 6)])), (ad 2, .inl (cy 0, 6, .inl (fun i => nI (gL g i))))] := hD
  refine lv_aload_n hx hb dX0_restart_5 rfl (lv_at hl 0 rfl) ?_
  refine lv_iload_n hx hb dX0_restart_6 rfl (lv_at hl 2 rfl) ?_
  refine va_put (D := D) (ci := 0) (v := .int (nI b)) (ty := .int) (C := RX0) (T := TX0) (N := 9) hx hb hts inX0 tyX0 tyX0_ok nmX0 hown hK.1 hP hD hS 0 rfl rfl 1 (by decide) (hts (.fieldLink RX0 31 "ColourForests$Graph" "colours" "I") (List.mem_of_getElem? (i := 2) rfl)) (fun _ h9 => h9) rfl (by decide +kernel) rfl rfl (Nat.le_of_ble_eq_true rfl) dX0_restart_7 (fun H locs hP hD hS => ?_)
  have hP : va_P D vwCl [(ad 1, .inr (0, [.int (nI a), .int (nI b), .int (nI (gE g)), .int ch, .ref (ad 2), .ref (ad 3), .ref (ad 4), .ref (ad 5), .ref (ad 6)])), (ad 2, .inl (cy 0, 6, .inl (fun i => nI (gL g i))))] H := hP
  have hD : va_D (inW [(ad 1, .inr (0, [.int (nI (gV g)), .int (nI (gC g)), .int (nI (gE g)), .int ch, .ref (ad 2), .ref (ad 3), .ref (ad 4), .ref (ad 5), .ref (ad 6)])), (ad 2, .inl (cy 0, 6, .inl (fun i => nI (gL g i))))]) [(ad 1, .inr (0, [.int (nI a), .int (nI b), .int (nI (gE g)), .int ch, .ref (ad 2), .ref (ad 3), .ref (ad 4), .ref (ad 5), .ref (ad 6)])), (ad 2, .inl (cy 0, 6, .inl (fun i => nI (gL g i))))] := hD
  refine lv_aload_n hx hb dX0_restart_10 rfl (lv_at hl 0 rfl) ?_
  refine lv_iconst (v := nI 0) hx hb dX0_restart_11 (by decide) ?_
  refine va_put (D := D) (ci := 0) (v := .int (nI 0)) (ty := .int) (C := RX0) (T := TX0) (N := 9) hx hb hts inX0 tyX0 tyX0_ok nmX0 hown hK.1 hP hD hS 0 rfl rfl 2 (by decide) (hts (.fieldLink RX0 34 "ColourForests$Graph" "edges" "I") (List.mem_of_getElem? (i := 3) rfl)) (fun _ h9 => h9) rfl (by decide +kernel) rfl rfl (Nat.le_of_ble_eq_true rfl) dX0_restart_12 (fun H locs hP hD hS => ?_)
  have hP : va_P D vwCl [(ad 1, .inr (0, [.int (nI a), .int (nI b), .int (nI 0), .int ch, .ref (ad 2), .ref (ad 3), .ref (ad 4), .ref (ad 5), .ref (ad 6)])), (ad 2, .inl (cy 0, 6, .inl (fun i => nI (gL g i))))] H := hP
  have hD : va_D (inW [(ad 1, .inr (0, [.int (nI (gV g)), .int (nI (gC g)), .int (nI (gE g)), .int ch, .ref (ad 2), .ref (ad 3), .ref (ad 4), .ref (ad 5), .ref (ad 6)])), (ad 2, .inl (cy 0, 6, .inl (fun i => nI (gL g i))))]) [(ad 1, .inr (0, [.int (nI a), .int (nI b), .int (nI 0), .int ch, .ref (ad 2), .ref (ad 3), .ref (ad 4), .ref (ad 5), .ref (ad 6)])), (ad 2, .inl (cy 0, 6, .inl (fun i => nI (gL g i))))] := hD
  refine lv_aload_n hx hb dX0_restart_15 rfl (lv_at hl 0 rfl) ?_
  refine va_get (D := D) (ci := 0) (v := .ref (ad 2)) (C := RX0) (T := TX0) (N := 9) hx hb hts inX0 hown hK.1 hP 0 rfl rfl 4 (by decide) (hts (.fieldLink RX0 9 "ColourForests$Graph" "limits" "[I") (List.mem_of_getElem? (i := 4) rfl)) (fun _ h9 => h9) rfl dX0_restart_16 ?_
  refine lv_iconst (v := nI 1) hx hb dX0_restart_19 (by decide) ?_
  refine wr_callv [1] (va_runS (As := [.ref (ad 2), .int (nI 1)]) (rest := []) ⟨hx, hb, hml, hown, hts⟩ (c_J7_fill_53178 l D cy ad g) (va_cwS 2 hts gX0_restart_J7_fill_53178 rfl rfl rfl (by decide +kernel) ⟨Nat.le_of_ble_eq_true rfl, Nat.le_of_ble_eq_true rfl⟩) (WR_preS hK hP hD [1] (by decide) rfl rfl) rfl rfl hl.1 rfl (lv_room (Nat.le_of_ble_eq_true rfl)) dX0_restart_20 ⟨(Nat.zero_le _), (Nat.zero_le _)⟩) hS hP hD rfl (fun _ => rfl) (fun _ => rfl) (fun u20 H locs w20 hP hD hS => ?_)
  have hP : va_P D vwCl [(ad 1, .inr (0, [.int (nI a), .int (nI b), .int (nI 0), .int ch, .ref (ad 2), .ref (ad 3), .ref (ad 4), .ref (ad 5), .ref (ad 6)])), (ad 2, .inl (cy 0, 6, .inl (fun i => nI (if i < 6 then 1 else gL g i))))] H := hP
  have hD : va_D (inW [(ad 1, .inr (0, [.int (nI (gV g)), .int (nI (gC g)), .int (nI (gE g)), .int ch, .ref (ad 2), .ref (ad 3), .ref (ad 4), .ref (ad 5), .ref (ad 6)])), (ad 2, .inl (cy 0, 6, .inl (fun i => nI (gL g i))))]) [(ad 1, .inr (0, [.int (nI a), .int (nI b), .int (nI 0), .int ch, .ref (ad 2), .ref (ad 3), .ref (ad 4), .ref (ad 5), .ref (ad 6)])), (ad 2, .inl (cy 0, 6, .inl (fun i => nI (if i < 6 then 1 else gL g i))))] := hD
  refine lv_aload_n hx hb dX0_restart_23 rfl (lv_at hl 0 rfl) ?_
  refine lv_dup hx hb dX0_restart_24 rfl ?_
  refine va_get (D := D) (ci := 0) (v := .int ch) (C := RX0) (T := TX0) (N := 9) hx hb hts inX0 hown hK.1 hP 0 rfl rfl 3 (by decide) (hts (.fieldLink RX0 43 "ColourForests$Graph" "changes" "I") (List.mem_of_getElem? (i := 5) rfl)) (fun _ h9 => h9) rfl dX0_restart_25 ?_
  refine lv_iconst (v := nI 1) hx hb dX0_restart_28 (by decide) ?_
  refine lv_iadd hx hb dX0_restart_29 ?_
  refine lv_as (y := (ch + nI 1)) rfl ?_
  refine va_put (D := D) (ci := 0) (v := .int (ch + nI 1)) (ty := .int) (C := RX0) (T := TX0) (N := 9) hx hb hts inX0 tyX0 tyX0_ok nmX0 hown hK.1 hP hD hS 0 rfl rfl 3 (by decide) (hts (.fieldLink RX0 43 "ColourForests$Graph" "changes" "I") (List.mem_of_getElem? (i := 5) rfl)) (fun _ h9 => h9) rfl (by decide +kernel) rfl rfl (Nat.le_of_ble_eq_true rfl) dX0_restart_30 (fun H locs hP hD hS => ?_)
  have hP : va_P D vwCl [(ad 1, .inr (0, [.int (nI a), .int (nI b), .int (nI 0), .int (ch + nI 1), .ref (ad 2), .ref (ad 3), .ref (ad 4), .ref (ad 5), .ref (ad 6)])), (ad 2, .inl (cy 0, 6, .inl (fun i => nI (if i < 6 then 1 else gL g i))))] H := hP
  have hD : va_D (inW [(ad 1, .inr (0, [.int (nI (gV g)), .int (nI (gC g)), .int (nI (gE g)), .int ch, .ref (ad 2), .ref (ad 3), .ref (ad 4), .ref (ad 5), .ref (ad 6)])), (ad 2, .inl (cy 0, 6, .inl (fun i => nI (gL g i))))]) [(ad 1, .inr (0, [.int (nI a), .int (nI b), .int (nI 0), .int (ch + nI 1), .ref (ad 2), .ref (ad 3), .ref (ad 4), .ref (ad 5), .ref (ad 6)])), (ad 2, .inl (cy 0, 6, .inl (fun i => nI (if i < 6 then 1 else gL g i))))] := hD
  exact wv_ret () hx hb hr hlocks hS hP trivial dX0_restart_33

set_option maxHeartbeats 4000000 in
set_option maxRecDepth 100000 in
theorem c_X0_addEdge (l : Launch) (D : va_G) (cy : Nat → ClassId) (ad : Nat → Nat) (ch : Int32) (g : GT) {a b c9 : Nat} {w : Int} (hE9 : gE g < 14) : WI l yX0_addEdge wsX0_addEdge ({ frames := 0, cells := 0, slots := 0, locals := 0 }) D cy [.ref (ad 1), .int (nI a), .int (nI b), .int (nI c9), .int (zI w)] [(ad 1, .inr (0, [.int (nI (gV g)), .int (nI (gC g)), .int (nI (gE g)), .int ch, .ref (ad 2), .ref (ad 3), .ref (ad 4), .ref (ad 5), .ref (ad 6)])), (ad 3, .inl (cy 0, 14, .inl (fun i => nI (gF g i)))), (ad 4, .inl (cy 0, 14, .inl (fun i => nI (gS g i)))), (ad 5, .inl (cy 0, 14, .inl (fun i => nI (gH g i)))), (ad 6, .inl (cy 0, 14, .inl (fun i => zI (gW g i))))] (fun (r : Int32) (_ : Unit) => r = nI (gE g)) (fun _ : Unit => [(ad 1, .inr (0, [.int (nI (gV (edG a b c9 w g))), .int (nI (gC (edG a b c9 w g))), .int (nI (gE (edG a b c9 w g))), .int (ch + nI 1), .ref (ad 2), .ref (ad 3), .ref (ad 4), .ref (ad 5), .ref (ad 6)])), (ad 3, .inl (cy 0, 14, .inl (fun i => nI (gF (edG a b c9 w g) i)))), (ad 4, .inl (cy 0, 14, .inl (fun i => nI (gS (edG a b c9 w g) i)))), (ad 5, .inl (cy 0, 14, .inl (fun i => nI (gH (edG a b c9 w g) i)))), (ad 6, .inl (cy 0, 14, .inl (fun i => zI (gW (edG a b c9 w g) i))))]) := by
  refine Met.ofW (cc := cX0_addEdge) (maxL := 6) (ret := (some .int)) (by decide) rfl ?_
  intro p ev s m args below meth c s₁ B hml hv
  obtain ⟨rfl, ⟨hK, hP⟩, hD0⟩ := hv
  have hx := B.exec
  have hb := B.bytes
  have hr := B.returns
  have hts := atoms_spec (ws := wsX0_addEdge) B.pre
  have hown : s.vm.findClass RX0 = some m.cls := findClass_of_methodNamed B.named
  have hlocks := B.notSynchronized
  have hD : va_D (inW [(ad 1, .inr (0, [.int (nI (gV g)), .int (nI (gC g)), .int (nI (gE g)), .int ch, .ref (ad 2), .ref (ad 3), .ref (ad 4), .ref (ad 5), .ref (ad 6)])), (ad 3, .inl (cy 0, 14, .inl (fun i => nI (gF g i)))), (ad 4, .inl (cy 0, 14, .inl (fun i => nI (gS g i)))), (ad 5, .inl (cy 0, 14, .inl (fun i => nI (gH g i)))), (ad 6, .inl (cy 0, 14, .inl (fun i => zI (gW g i))))]) ([(ad 1, .inr (0, [.int (nI (gV g)), .int (nI (gC g)), .int (nI (gE g)), .int ch, .ref (ad 2), .ref (ad 3), .ref (ad 4), .ref (ad 5), .ref (ad 6)])), (ad 3, .inl (cy 0, 14, .inl (fun i => nI (gF g i)))), (ad 4, .inl (cy 0, 14, .inl (fun i => nI (gS g i)))), (ad 5, .inl (cy 0, 14, .inl (fun i => nI (gH g i)))), (ad 6, .inl (cy 0, 14, .inl (fun i => zI (gW g i))))]) := inW_self hD0
  have hS : va_S (inW [(ad 1, .inr (0, [.int (nI (gV g)), .int (nI (gC g)), .int (nI (gE g)), .int ch, .ref (ad 2), .ref (ad 3), .ref (ad 4), .ref (ad 5), .ref (ad 6)])), (ad 3, .inl (cy 0, 14, .inl (fun i => nI (gF g i)))), (ad 4, .inl (cy 0, 14, .inl (fun i => nI (gS g i)))), (ad 5, .inl (cy 0, 14, .inl (fun i => nI (gH g i)))), (ad 6, .inl (cy 0, 14, .inl (fun i => zI (gW g i))))]) s.heap s.heap [] := va_S.rf
  have hP : va_P D vwCl [(ad 1, .inr (0, [.int (nI (gV g)), .int (nI (gC g)), .int (nI (gE g)), .int ch, .ref (ad 2), .ref (ad 3), .ref (ad 4), .ref (ad 5), .ref (ad 6)])), (ad 3, .inl (cy 0, 14, .inl (fun i => nI (gF g i)))), (ad 4, .inl (cy 0, 14, .inl (fun i => nI (gS g i)))), (ad 5, .inl (cy 0, 14, .inl (fun i => nI (gH g i)))), (ad 6, .inl (cy 0, 14, .inl (fun i => zI (gW g i))))] s.heap := hP
  have inX0 : ∀ w ∈ wsX00, w ∈ wsX0_addEdge := by decide +kernel
  have hl := lv_entry ([.ref (ad 1), .int (nI a), .int (nI b), .int (nI c9), .int (zI w)]) (n := 6) (Nat.le_of_ble_eq_true rfl)
  rw [lg_entry_eq]
  generalize (lg_sl ([.ref (ad 1), .int (nI a), .int (nI b), .int (nI c9), .int (zI w)]) ++ List.replicate (6 - (lg_sl ([.ref (ad 1), .int (nI a), .int (nI b), .int (nI c9), .int (zI w)])).length) Slot.unset).toArray = ls at hl ⊢
  have hl : lv_has ls 6 [(0, .ref (ad 1)), (1, .int (nI a)), (2, .int (nI b)), (3, .int (nI c9)), (4, .int (zI w))] := hl
  have hgen := True.intro
  refine lv_aload_n hx hb dX0_addEdge_0 rfl (lv_at hl 0 rfl) ?_
  refine va_get (D := D) (ci := 0) (v := .int (nI (gE g))) (C := RX0) (T := TX0) (N := 9) hx hb hts inX0 hown hK.1 hP 0 rfl rfl 2 (by decide) (hts (.fieldLink RX0 34 "ColourForests$Graph" "edges" "I") (List.mem_of_getElem? (i := 1) rfl)) (fun _ h9 => h9) rfl dX0_addEdge_1 ?_
  refine lv_istore (lv' := [(5, .int (nI (gE g))), (0, .ref (ad 1)), (1, .int (nI a)), (2, .int (nI b)), (3, .int (nI c9)), (4, .int (zI w))]) hx hb dX0_addEdge_4 hl (by decide) rfl (fun ls hl => ?_)
  refine lv_aload_n hx hb dX0_addEdge_6 rfl (lv_at hl 1 rfl) ?_
  refine va_get (D := D) (ci := 0) (v := .ref (ad 3)) (C := RX0) (T := TX0) (N := 9) hx hb hts inX0 hown hK.1 hP 0 rfl rfl 5 (by decide) (hts (.fieldLink RX0 15 "ColourForests$Graph" "firstEnds" "[I") (List.mem_of_getElem? (i := 2) rfl)) (fun _ h9 => h9) rfl dX0_addEdge_7 ?_
  refine lv_iload hx hb dX0_addEdge_10 (lv_at hl 0 rfl) ?_
  refine lv_iload_n hx hb dX0_addEdge_12 rfl (lv_at hl 2 rfl) ?_
  refine st_i (k := (gE g)) (g := (fun i => nI (upN (gF g) (gE g) a i))) hx hb hK hP hD hS 1 rfl (by omega) (by decide) (upd_nI _ _ _) dX0_addEdge_13 (fun H locs hP hD hS => ?_)
  have hP : va_P D vwCl [(ad 1, .inr (0, [.int (nI (gV g)), .int (nI (gC g)), .int (nI (gE g)), .int ch, .ref (ad 2), .ref (ad 3), .ref (ad 4), .ref (ad 5), .ref (ad 6)])), (ad 3, .inl (cy 0, 14, .inl (fun i => nI (upN (gF g) (gE g) a i)))), (ad 4, .inl (cy 0, 14, .inl (fun i => nI (gS g i)))), (ad 5, .inl (cy 0, 14, .inl (fun i => nI (gH g i)))), (ad 6, .inl (cy 0, 14, .inl (fun i => zI (gW g i))))] H := hP
  have hD : va_D (inW [(ad 1, .inr (0, [.int (nI (gV g)), .int (nI (gC g)), .int (nI (gE g)), .int ch, .ref (ad 2), .ref (ad 3), .ref (ad 4), .ref (ad 5), .ref (ad 6)])), (ad 3, .inl (cy 0, 14, .inl (fun i => nI (gF g i)))), (ad 4, .inl (cy 0, 14, .inl (fun i => nI (gS g i)))), (ad 5, .inl (cy 0, 14, .inl (fun i => nI (gH g i)))), (ad 6, .inl (cy 0, 14, .inl (fun i => zI (gW g i))))]) [(ad 1, .inr (0, [.int (nI (gV g)), .int (nI (gC g)), .int (nI (gE g)), .int ch, .ref (ad 2), .ref (ad 3), .ref (ad 4), .ref (ad 5), .ref (ad 6)])), (ad 3, .inl (cy 0, 14, .inl (fun i => nI (upN (gF g) (gE g) a i)))), (ad 4, .inl (cy 0, 14, .inl (fun i => nI (gS g i)))), (ad 5, .inl (cy 0, 14, .inl (fun i => nI (gH g i)))), (ad 6, .inl (cy 0, 14, .inl (fun i => zI (gW g i))))] := hD
  refine lv_aload_n hx hb dX0_addEdge_14 rfl (lv_at hl 1 rfl) ?_
  refine va_get (D := D) (ci := 0) (v := .ref (ad 4)) (C := RX0) (T := TX0) (N := 9) hx hb hts inX0 hown hK.1 hP 0 rfl rfl 6 (by decide) (hts (.fieldLink RX0 18 "ColourForests$Graph" "secondEnds" "[I") (List.mem_of_getElem? (i := 3) rfl)) (fun _ h9 => h9) rfl dX0_addEdge_15 ?_
  refine lv_iload hx hb dX0_addEdge_18 (lv_at hl 0 rfl) ?_
  refine lv_iload_n hx hb dX0_addEdge_20 rfl (lv_at hl 3 rfl) ?_
  refine st_i (k := (gE g)) (g := (fun i => nI (upN (gS g) (gE g) b i))) hx hb hK hP hD hS 2 rfl (by omega) (by decide) (upd_nI _ _ _) dX0_addEdge_21 (fun H locs hP hD hS => ?_)
  have hP : va_P D vwCl [(ad 1, .inr (0, [.int (nI (gV g)), .int (nI (gC g)), .int (nI (gE g)), .int ch, .ref (ad 2), .ref (ad 3), .ref (ad 4), .ref (ad 5), .ref (ad 6)])), (ad 3, .inl (cy 0, 14, .inl (fun i => nI (upN (gF g) (gE g) a i)))), (ad 4, .inl (cy 0, 14, .inl (fun i => nI (upN (gS g) (gE g) b i)))), (ad 5, .inl (cy 0, 14, .inl (fun i => nI (gH g i)))), (ad 6, .inl (cy 0, 14, .inl (fun i => zI (gW g i))))] H := hP
  have hD : va_D (inW [(ad 1, .inr (0, [.int (nI (gV g)), .int (nI (gC g)), .int (nI (gE g)), .int ch, .ref (ad 2), .ref (ad 3), .ref (ad 4), .ref (ad 5), .ref (ad 6)])), (ad 3, .inl (cy 0, 14, .inl (fun i => nI (gF g i)))), (ad 4, .inl (cy 0, 14, .inl (fun i => nI (gS g i)))), (ad 5, .inl (cy 0, 14, .inl (fun i => nI (gH g i)))), (ad 6, .inl (cy 0, 14, .inl (fun i => zI (gW g i))))]) [(ad 1, .inr (0, [.int (nI (gV g)), .int (nI (gC g)), .int (nI (gE g)), .int ch, .ref (ad 2), .ref (ad 3), .ref (ad 4), .ref (ad 5), .ref (ad 6)])), (ad 3, .inl (cy 0, 14, .inl (fun i => nI (upN (gF g) (gE g) a i)))), (ad 4, .inl (cy 0, 14, .inl (fun i => nI (upN (gS g) (gE g) b i)))), (ad 5, .inl (cy 0, 14, .inl (fun i => nI (gH g i)))), (ad 6, .inl (cy 0, 14, .inl (fun i => zI (gW g i))))] := hD
  refine lv_aload_n hx hb dX0_addEdge_22 rfl (lv_at hl 1 rfl) ?_
  refine va_get (D := D) (ci := 0) (v := .ref (ad 5)) (C := RX0) (T := TX0) (N := 9) hx hb hts inX0 hown hK.1 hP 0 rfl rfl 7 (by decide) (hts (.fieldLink RX0 21 "ColourForests$Graph" "hues" "[I") (List.mem_of_getElem? (i := 4) rfl)) (fun _ h9 => h9) rfl dX0_addEdge_23 ?_
  refine lv_iload hx hb dX0_addEdge_26 (lv_at hl 0 rfl) ?_
  refine lv_iload_n hx hb dX0_addEdge_28 rfl (lv_at hl 4 rfl) ?_
  refine st_i (k := (gE g)) (g := (fun i => nI (upN (gH g) (gE g) c9 i))) hx hb hK hP hD hS 3 rfl (by omega) (by decide) (upd_nI _ _ _) dX0_addEdge_29 (fun H locs hP hD hS => ?_)
  have hP : va_P D vwCl [(ad 1, .inr (0, [.int (nI (gV g)), .int (nI (gC g)), .int (nI (gE g)), .int ch, .ref (ad 2), .ref (ad 3), .ref (ad 4), .ref (ad 5), .ref (ad 6)])), (ad 3, .inl (cy 0, 14, .inl (fun i => nI (upN (gF g) (gE g) a i)))), (ad 4, .inl (cy 0, 14, .inl (fun i => nI (upN (gS g) (gE g) b i)))), (ad 5, .inl (cy 0, 14, .inl (fun i => nI (upN (gH g) (gE g) c9 i)))), (ad 6, .inl (cy 0, 14, .inl (fun i => zI (gW g i))))] H := hP
  have hD : va_D (inW [(ad 1, .inr (0, [.int (nI (gV g)), .int (nI (gC g)), .int (nI (gE g)), .int ch, .ref (ad 2), .ref (ad 3), .ref (ad 4), .ref (ad 5), .ref (ad 6)])), (ad 3, .inl (cy 0, 14, .inl (fun i => nI (gF g i)))), (ad 4, .inl (cy 0, 14, .inl (fun i => nI (gS g i)))), (ad 5, .inl (cy 0, 14, .inl (fun i => nI (gH g i)))), (ad 6, .inl (cy 0, 14, .inl (fun i => zI (gW g i))))]) [(ad 1, .inr (0, [.int (nI (gV g)), .int (nI (gC g)), .int (nI (gE g)), .int ch, .ref (ad 2), .ref (ad 3), .ref (ad 4), .ref (ad 5), .ref (ad 6)])), (ad 3, .inl (cy 0, 14, .inl (fun i => nI (upN (gF g) (gE g) a i)))), (ad 4, .inl (cy 0, 14, .inl (fun i => nI (upN (gS g) (gE g) b i)))), (ad 5, .inl (cy 0, 14, .inl (fun i => nI (upN (gH g) (gE g) c9 i)))), (ad 6, .inl (cy 0, 14, .inl (fun i => zI (gW g i))))] := hD
  refine lv_aload_n hx hb dX0_addEdge_30 rfl (lv_at hl 1 rfl) ?_
  refine va_get (D := D) (ci := 0) (v := .ref (ad 6)) (C := RX0) (T := TX0) (N := 9) hx hb hts inX0 hown hK.1 hP 0 rfl rfl 8 (by decide) (hts (.fieldLink RX0 24 "ColourForests$Graph" "weights" "[I") (List.mem_of_getElem? (i := 5) rfl)) (fun _ h9 => h9) rfl dX0_addEdge_31 ?_
  refine lv_iload hx hb dX0_addEdge_34 (lv_at hl 0 rfl) ?_
  refine lv_iload hx hb dX0_addEdge_36 (lv_at hl 5 rfl) ?_
  refine st_i (k := (gE g)) (g := (fun i => zI (upZ (gW g) (gE g) w i))) hx hb hK hP hD hS 4 rfl (by omega) (by decide) (upd_zI _ _ _) dX0_addEdge_38 (fun H locs hP hD hS => ?_)
  have hP : va_P D vwCl [(ad 1, .inr (0, [.int (nI (gV g)), .int (nI (gC g)), .int (nI (gE g)), .int ch, .ref (ad 2), .ref (ad 3), .ref (ad 4), .ref (ad 5), .ref (ad 6)])), (ad 3, .inl (cy 0, 14, .inl (fun i => nI (upN (gF g) (gE g) a i)))), (ad 4, .inl (cy 0, 14, .inl (fun i => nI (upN (gS g) (gE g) b i)))), (ad 5, .inl (cy 0, 14, .inl (fun i => nI (upN (gH g) (gE g) c9 i)))), (ad 6, .inl (cy 0, 14, .inl (fun i => zI (upZ (gW g) (gE g) w i))))] H := hP
  have hD : va_D (inW [(ad 1, .inr (0, [.int (nI (gV g)), .int (nI (gC g)), .int (nI (gE g)), .int ch, .ref (ad 2), .ref (ad 3), .ref (ad 4), .ref (ad 5), .ref (ad 6)])), (ad 3, .inl (cy 0, 14, .inl (fun i => nI (gF g i)))), (ad 4, .inl (cy 0, 14, .inl (fun i => nI (gS g i)))), (ad 5, .inl (cy 0, 14, .inl (fun i => nI (gH g i)))), (ad 6, .inl (cy 0, 14, .inl (fun i => zI (gW g i))))]) [(ad 1, .inr (0, [.int (nI (gV g)), .int (nI (gC g)), .int (nI (gE g)), .int ch, .ref (ad 2), .ref (ad 3), .ref (ad 4), .ref (ad 5), .ref (ad 6)])), (ad 3, .inl (cy 0, 14, .inl (fun i => nI (upN (gF g) (gE g) a i)))), (ad 4, .inl (cy 0, 14, .inl (fun i => nI (upN (gS g) (gE g) b i)))), (ad 5, .inl (cy 0, 14, .inl (fun i => nI (upN (gH g) (gE g) c9 i)))), (ad 6, .inl (cy 0, 14, .inl (fun i => zI (upZ (gW g) (gE g) w i))))] := hD
  refine lv_aload_n hx hb dX0_addEdge_39 rfl (lv_at hl 1 rfl) ?_
  refine lv_dup hx hb dX0_addEdge_40 rfl ?_
  refine va_get (D := D) (ci := 0) (v := .int (nI (gE g))) (C := RX0) (T := TX0) (N := 9) hx hb hts inX0 hown hK.1 hP 0 rfl rfl 2 (by decide) (hts (.fieldLink RX0 34 "ColourForests$Graph" "edges" "I") (List.mem_of_getElem? (i := 1) rfl)) (fun _ h9 => h9) rfl dX0_addEdge_41 ?_
  refine lv_iconst (v := nI 1) hx hb dX0_addEdge_44 (by decide) ?_
  refine lv_iadd hx hb dX0_addEdge_45 ?_
  refine lv_as (y := (nI ((gE g) + 1))) (nI_add _ _) ?_
  refine va_put (D := D) (ci := 0) (v := .int (nI ((gE g) + 1))) (ty := .int) (C := RX0) (T := TX0) (N := 9) hx hb hts inX0 tyX0 tyX0_ok nmX0 hown hK.1 hP hD hS 0 rfl rfl 2 (by decide) (hts (.fieldLink RX0 34 "ColourForests$Graph" "edges" "I") (List.mem_of_getElem? (i := 1) rfl)) (fun _ h9 => h9) rfl (by decide +kernel) rfl rfl (Nat.le_of_ble_eq_true rfl) dX0_addEdge_46 (fun H locs hP hD hS => ?_)
  have hP : va_P D vwCl [(ad 1, .inr (0, [.int (nI (gV g)), .int (nI (gC g)), .int (nI ((gE g) + 1)), .int ch, .ref (ad 2), .ref (ad 3), .ref (ad 4), .ref (ad 5), .ref (ad 6)])), (ad 3, .inl (cy 0, 14, .inl (fun i => nI (upN (gF g) (gE g) a i)))), (ad 4, .inl (cy 0, 14, .inl (fun i => nI (upN (gS g) (gE g) b i)))), (ad 5, .inl (cy 0, 14, .inl (fun i => nI (upN (gH g) (gE g) c9 i)))), (ad 6, .inl (cy 0, 14, .inl (fun i => zI (upZ (gW g) (gE g) w i))))] H := hP
  have hD : va_D (inW [(ad 1, .inr (0, [.int (nI (gV g)), .int (nI (gC g)), .int (nI (gE g)), .int ch, .ref (ad 2), .ref (ad 3), .ref (ad 4), .ref (ad 5), .ref (ad 6)])), (ad 3, .inl (cy 0, 14, .inl (fun i => nI (gF g i)))), (ad 4, .inl (cy 0, 14, .inl (fun i => nI (gS g i)))), (ad 5, .inl (cy 0, 14, .inl (fun i => nI (gH g i)))), (ad 6, .inl (cy 0, 14, .inl (fun i => zI (gW g i))))]) [(ad 1, .inr (0, [.int (nI (gV g)), .int (nI (gC g)), .int (nI ((gE g) + 1)), .int ch, .ref (ad 2), .ref (ad 3), .ref (ad 4), .ref (ad 5), .ref (ad 6)])), (ad 3, .inl (cy 0, 14, .inl (fun i => nI (upN (gF g) (gE g) a i)))), (ad 4, .inl (cy 0, 14, .inl (fun i => nI (upN (gS g) (gE g) b i)))), (ad 5, .inl (cy 0, 14, .inl (fun i => nI (upN (gH g) (gE g) c9 i)))), (ad 6, .inl (cy 0, 14, .inl (fun i => zI (upZ (gW g) (gE g) w i))))] := hD
  refine lv_aload_n hx hb dX0_addEdge_49 rfl (lv_at hl 1 rfl) ?_
  refine lv_dup hx hb dX0_addEdge_50 rfl ?_
  refine va_get (D := D) (ci := 0) (v := .int ch) (C := RX0) (T := TX0) (N := 9) hx hb hts inX0 hown hK.1 hP 0 rfl rfl 3 (by decide) (hts (.fieldLink RX0 43 "ColourForests$Graph" "changes" "I") (List.mem_of_getElem? (i := 6) rfl)) (fun _ h9 => h9) rfl dX0_addEdge_51 ?_
  refine lv_iconst (v := nI 1) hx hb dX0_addEdge_54 (by decide) ?_
  refine lv_iadd hx hb dX0_addEdge_55 ?_
  refine lv_as (y := (ch + nI 1)) rfl ?_
  refine va_put (D := D) (ci := 0) (v := .int (ch + nI 1)) (ty := .int) (C := RX0) (T := TX0) (N := 9) hx hb hts inX0 tyX0 tyX0_ok nmX0 hown hK.1 hP hD hS 0 rfl rfl 3 (by decide) (hts (.fieldLink RX0 43 "ColourForests$Graph" "changes" "I") (List.mem_of_getElem? (i := 6) rfl)) (fun _ h9 => h9) rfl (by decide +kernel) rfl rfl (Nat.le_of_ble_eq_true rfl) dX0_addEdge_56 (fun H locs hP hD hS => ?_)
  have hP : va_P D vwCl [(ad 1, .inr (0, [.int (nI (gV g)), .int (nI (gC g)), .int (nI ((gE g) + 1)), .int (ch + nI 1), .ref (ad 2), .ref (ad 3), .ref (ad 4), .ref (ad 5), .ref (ad 6)])), (ad 3, .inl (cy 0, 14, .inl (fun i => nI (upN (gF g) (gE g) a i)))), (ad 4, .inl (cy 0, 14, .inl (fun i => nI (upN (gS g) (gE g) b i)))), (ad 5, .inl (cy 0, 14, .inl (fun i => nI (upN (gH g) (gE g) c9 i)))), (ad 6, .inl (cy 0, 14, .inl (fun i => zI (upZ (gW g) (gE g) w i))))] H := hP
  have hD : va_D (inW [(ad 1, .inr (0, [.int (nI (gV g)), .int (nI (gC g)), .int (nI (gE g)), .int ch, .ref (ad 2), .ref (ad 3), .ref (ad 4), .ref (ad 5), .ref (ad 6)])), (ad 3, .inl (cy 0, 14, .inl (fun i => nI (gF g i)))), (ad 4, .inl (cy 0, 14, .inl (fun i => nI (gS g i)))), (ad 5, .inl (cy 0, 14, .inl (fun i => nI (gH g i)))), (ad 6, .inl (cy 0, 14, .inl (fun i => zI (gW g i))))]) [(ad 1, .inr (0, [.int (nI (gV g)), .int (nI (gC g)), .int (nI ((gE g) + 1)), .int (ch + nI 1), .ref (ad 2), .ref (ad 3), .ref (ad 4), .ref (ad 5), .ref (ad 6)])), (ad 3, .inl (cy 0, 14, .inl (fun i => nI (upN (gF g) (gE g) a i)))), (ad 4, .inl (cy 0, 14, .inl (fun i => nI (upN (gS g) (gE g) b i)))), (ad 5, .inl (cy 0, 14, .inl (fun i => nI (upN (gH g) (gE g) c9 i)))), (ad 6, .inl (cy 0, 14, .inl (fun i => zI (upZ (gW g) (gE g) w i))))] := hD
  refine lv_iload hx hb dX0_addEdge_59 (lv_at hl 0 rfl) ?_
  exact wi_ret () hx hb hr hlocks hS hP rfl dX0_addEdge_61

set_option maxHeartbeats 4000000 in
set_option maxRecDepth 100000 in
theorem c_X0_setLimit (l : Launch) (D : va_G) (cy : Nat → ClassId) (ad : Nat → Nat) (ch : Int32) (g : GT) {c9 n9 : Nat} (hc9 : c9 < 6) : WV l yX0_setLimit wsX0_setLimit ({ frames := 0, cells := 0, slots := 0, locals := 0 }) D cy [.ref (ad 1), .int (nI c9), .int (nI n9)] [(ad 1, .inr (0, [.int (nI (gV g)), .int (nI (gC g)), .int (nI (gE g)), .int ch, .ref (ad 2), .ref (ad 3), .ref (ad 4), .ref (ad 5), .ref (ad 6)])), (ad 2, .inl (cy 0, 6, .inl (fun i => nI (gL g i))))] (fun _ : Unit => True) (fun _ : Unit => [(ad 1, .inr (0, [.int (nI (gV (liG c9 n9 g))), .int (nI (gC (liG c9 n9 g))), .int (nI (gE (liG c9 n9 g))), .int (ch + nI 1), .ref (ad 2), .ref (ad 3), .ref (ad 4), .ref (ad 5), .ref (ad 6)])), (ad 2, .inl (cy 0, 6, .inl (fun i => nI (gL (liG c9 n9 g) i))))]) := by
  refine Met.ofW (cc := cX0_setLimit) (maxL := 3) (ret := none) (by decide) rfl ?_
  intro p ev s m args below meth c s₁ B hml hv
  obtain ⟨rfl, ⟨hK, hP⟩, hD0⟩ := hv
  have hx := B.exec
  have hb := B.bytes
  have hr := B.returns
  have hts := atoms_spec (ws := wsX0_setLimit) B.pre
  have hown : s.vm.findClass RX0 = some m.cls := findClass_of_methodNamed B.named
  have hlocks := B.notSynchronized
  have hD : va_D (inW [(ad 1, .inr (0, [.int (nI (gV g)), .int (nI (gC g)), .int (nI (gE g)), .int ch, .ref (ad 2), .ref (ad 3), .ref (ad 4), .ref (ad 5), .ref (ad 6)])), (ad 2, .inl (cy 0, 6, .inl (fun i => nI (gL g i))))]) ([(ad 1, .inr (0, [.int (nI (gV g)), .int (nI (gC g)), .int (nI (gE g)), .int ch, .ref (ad 2), .ref (ad 3), .ref (ad 4), .ref (ad 5), .ref (ad 6)])), (ad 2, .inl (cy 0, 6, .inl (fun i => nI (gL g i))))]) := inW_self hD0
  have hS : va_S (inW [(ad 1, .inr (0, [.int (nI (gV g)), .int (nI (gC g)), .int (nI (gE g)), .int ch, .ref (ad 2), .ref (ad 3), .ref (ad 4), .ref (ad 5), .ref (ad 6)])), (ad 2, .inl (cy 0, 6, .inl (fun i => nI (gL g i))))]) s.heap s.heap [] := va_S.rf
  have hP : va_P D vwCl [(ad 1, .inr (0, [.int (nI (gV g)), .int (nI (gC g)), .int (nI (gE g)), .int ch, .ref (ad 2), .ref (ad 3), .ref (ad 4), .ref (ad 5), .ref (ad 6)])), (ad 2, .inl (cy 0, 6, .inl (fun i => nI (gL g i))))] s.heap := hP
  have inX0 : ∀ w ∈ wsX00, w ∈ wsX0_setLimit := by decide +kernel
  have hl := lv_entry ([.ref (ad 1), .int (nI c9), .int (nI n9)]) (n := 3) (Nat.le_of_ble_eq_true rfl)
  rw [lg_entry_eq]
  generalize (lg_sl ([.ref (ad 1), .int (nI c9), .int (nI n9)]) ++ List.replicate (3 - (lg_sl ([.ref (ad 1), .int (nI c9), .int (nI n9)])).length) Slot.unset).toArray = ls at hl ⊢
  have hl : lv_has ls 3 [(0, .ref (ad 1)), (1, .int (nI c9)), (2, .int (nI n9))] := hl
  have hgen := True.intro
  refine lv_aload_n hx hb dX0_setLimit_0 rfl (lv_at hl 0 rfl) ?_
  refine va_get (D := D) (ci := 0) (v := .ref (ad 2)) (C := RX0) (T := TX0) (N := 9) hx hb hts inX0 hown hK.1 hP 0 rfl rfl 4 (by decide) (hts (.fieldLink RX0 9 "ColourForests$Graph" "limits" "[I") (List.mem_of_getElem? (i := 1) rfl)) (fun _ h9 => h9) rfl dX0_setLimit_1 ?_
  refine lv_iload_n hx hb dX0_setLimit_4 rfl (lv_at hl 1 rfl) ?_
  refine lv_iload_n hx hb dX0_setLimit_5 rfl (lv_at hl 2 rfl) ?_
  refine st_i (k := c9) (g := (fun i => nI (upN (gL g) c9 n9 i))) hx hb hK hP hD hS 1 rfl (by omega) (by decide) (upd_nI _ _ _) dX0_setLimit_6 (fun H locs hP hD hS => ?_)
  have hP : va_P D vwCl [(ad 1, .inr (0, [.int (nI (gV g)), .int (nI (gC g)), .int (nI (gE g)), .int ch, .ref (ad 2), .ref (ad 3), .ref (ad 4), .ref (ad 5), .ref (ad 6)])), (ad 2, .inl (cy 0, 6, .inl (fun i => nI (upN (gL g) c9 n9 i))))] H := hP
  have hD : va_D (inW [(ad 1, .inr (0, [.int (nI (gV g)), .int (nI (gC g)), .int (nI (gE g)), .int ch, .ref (ad 2), .ref (ad 3), .ref (ad 4), .ref (ad 5), .ref (ad 6)])), (ad 2, .inl (cy 0, 6, .inl (fun i => nI (gL g i))))]) [(ad 1, .inr (0, [.int (nI (gV g)), .int (nI (gC g)), .int (nI (gE g)), .int ch, .ref (ad 2), .ref (ad 3), .ref (ad 4), .ref (ad 5), .ref (ad 6)])), (ad 2, .inl (cy 0, 6, .inl (fun i => nI (upN (gL g) c9 n9 i))))] := hD
  refine lv_aload_n hx hb dX0_setLimit_7 rfl (lv_at hl 0 rfl) ?_
  refine lv_dup hx hb dX0_setLimit_8 rfl ?_
  refine va_get (D := D) (ci := 0) (v := .int ch) (C := RX0) (T := TX0) (N := 9) hx hb hts inX0 hown hK.1 hP 0 rfl rfl 3 (by decide) (hts (.fieldLink RX0 43 "ColourForests$Graph" "changes" "I") (List.mem_of_getElem? (i := 2) rfl)) (fun _ h9 => h9) rfl dX0_setLimit_9 ?_
  refine lv_iconst (v := nI 1) hx hb dX0_setLimit_12 (by decide) ?_
  refine lv_iadd hx hb dX0_setLimit_13 ?_
  refine lv_as (y := (ch + nI 1)) rfl ?_
  refine va_put (D := D) (ci := 0) (v := .int (ch + nI 1)) (ty := .int) (C := RX0) (T := TX0) (N := 9) hx hb hts inX0 tyX0 tyX0_ok nmX0 hown hK.1 hP hD hS 0 rfl rfl 3 (by decide) (hts (.fieldLink RX0 43 "ColourForests$Graph" "changes" "I") (List.mem_of_getElem? (i := 2) rfl)) (fun _ h9 => h9) rfl (by decide +kernel) rfl rfl (Nat.le_of_ble_eq_true rfl) dX0_setLimit_14 (fun H locs hP hD hS => ?_)
  have hP : va_P D vwCl [(ad 1, .inr (0, [.int (nI (gV g)), .int (nI (gC g)), .int (nI (gE g)), .int (ch + nI 1), .ref (ad 2), .ref (ad 3), .ref (ad 4), .ref (ad 5), .ref (ad 6)])), (ad 2, .inl (cy 0, 6, .inl (fun i => nI (upN (gL g) c9 n9 i))))] H := hP
  have hD : va_D (inW [(ad 1, .inr (0, [.int (nI (gV g)), .int (nI (gC g)), .int (nI (gE g)), .int ch, .ref (ad 2), .ref (ad 3), .ref (ad 4), .ref (ad 5), .ref (ad 6)])), (ad 2, .inl (cy 0, 6, .inl (fun i => nI (gL g i))))]) [(ad 1, .inr (0, [.int (nI (gV g)), .int (nI (gC g)), .int (nI (gE g)), .int (ch + nI 1), .ref (ad 2), .ref (ad 3), .ref (ad 4), .ref (ad 5), .ref (ad 6)])), (ad 2, .inl (cy 0, 6, .inl (fun i => nI (upN (gL g) c9 n9 i))))] := hD
  exact wv_ret () hx hb hr hlocks hS hP trivial dX0_setLimit_17

set_option maxHeartbeats 4000000 in
set_option maxRecDepth 100000 in
theorem c_X0_setWeight (l : Launch) (D : va_G) (cy : Nat → ClassId) (ad : Nat → Nat) (ch : Int32) (g : GT) {e : Nat} {w : Int} (he : e < 14) : WV l yX0_setWeight wsX0_setWeight ({ frames := 0, cells := 0, slots := 0, locals := 0 }) D cy [.ref (ad 1), .int (nI e), .int (zI w)] [(ad 1, .inr (0, [.int (nI (gV g)), .int (nI (gC g)), .int (nI (gE g)), .int ch, .ref (ad 2), .ref (ad 3), .ref (ad 4), .ref (ad 5), .ref (ad 6)])), (ad 6, .inl (cy 0, 14, .inl (fun i => zI (gW g i))))] (fun _ : Unit => True) (fun _ : Unit => [(ad 1, .inr (0, [.int (nI (gV (weG e w g))), .int (nI (gC (weG e w g))), .int (nI (gE (weG e w g))), .int (ch + nI 1), .ref (ad 2), .ref (ad 3), .ref (ad 4), .ref (ad 5), .ref (ad 6)])), (ad 6, .inl (cy 0, 14, .inl (fun i => zI (gW (weG e w g) i))))]) := by
  refine Met.ofW (cc := cX0_setWeight) (maxL := 3) (ret := none) (by decide) rfl ?_
  intro p ev s m args below meth c s₁ B hml hv
  obtain ⟨rfl, ⟨hK, hP⟩, hD0⟩ := hv
  have hx := B.exec
  have hb := B.bytes
  have hr := B.returns
  have hts := atoms_spec (ws := wsX0_setWeight) B.pre
  have hown : s.vm.findClass RX0 = some m.cls := findClass_of_methodNamed B.named
  have hlocks := B.notSynchronized
  have hD : va_D (inW [(ad 1, .inr (0, [.int (nI (gV g)), .int (nI (gC g)), .int (nI (gE g)), .int ch, .ref (ad 2), .ref (ad 3), .ref (ad 4), .ref (ad 5), .ref (ad 6)])), (ad 6, .inl (cy 0, 14, .inl (fun i => zI (gW g i))))]) ([(ad 1, .inr (0, [.int (nI (gV g)), .int (nI (gC g)), .int (nI (gE g)), .int ch, .ref (ad 2), .ref (ad 3), .ref (ad 4), .ref (ad 5), .ref (ad 6)])), (ad 6, .inl (cy 0, 14, .inl (fun i => zI (gW g i))))]) := inW_self hD0
  have hS : va_S (inW [(ad 1, .inr (0, [.int (nI (gV g)), .int (nI (gC g)), .int (nI (gE g)), .int ch, .ref (ad 2), .ref (ad 3), .ref (ad 4), .ref (ad 5), .ref (ad 6)])), (ad 6, .inl (cy 0, 14, .inl (fun i => zI (gW g i))))]) s.heap s.heap [] := va_S.rf
  have hP : va_P D vwCl [(ad 1, .inr (0, [.int (nI (gV g)), .int (nI (gC g)), .int (nI (gE g)), .int ch, .ref (ad 2), .ref (ad 3), .ref (ad 4), .ref (ad 5), .ref (ad 6)])), (ad 6, .inl (cy 0, 14, .inl (fun i => zI (gW g i))))] s.heap := hP
  have inX0 : ∀ w ∈ wsX00, w ∈ wsX0_setWeight := by decide +kernel
  have hl := lv_entry ([.ref (ad 1), .int (nI e), .int (zI w)]) (n := 3) (Nat.le_of_ble_eq_true rfl)
  rw [lg_entry_eq]
  generalize (lg_sl ([.ref (ad 1), .int (nI e), .int (zI w)]) ++ List.replicate (3 - (lg_sl ([.ref (ad 1), .int (nI e), .int (zI w)])).length) Slot.unset).toArray = ls at hl ⊢
  have hl : lv_has ls 3 [(0, .ref (ad 1)), (1, .int (nI e)), (2, .int (zI w))] := hl
  have hgen := True.intro
  refine lv_aload_n hx hb dX0_setWeight_0 rfl (lv_at hl 0 rfl) ?_
  refine va_get (D := D) (ci := 0) (v := .ref (ad 6)) (C := RX0) (T := TX0) (N := 9) hx hb hts inX0 hown hK.1 hP 0 rfl rfl 8 (by decide) (hts (.fieldLink RX0 24 "ColourForests$Graph" "weights" "[I") (List.mem_of_getElem? (i := 1) rfl)) (fun _ h9 => h9) rfl dX0_setWeight_1 ?_
  refine lv_iload_n hx hb dX0_setWeight_4 rfl (lv_at hl 1 rfl) ?_
  refine lv_iload_n hx hb dX0_setWeight_5 rfl (lv_at hl 2 rfl) ?_
  refine st_i (k := e) (g := (fun i => zI (upZ (gW g) e w i))) hx hb hK hP hD hS 1 rfl (by omega) (by decide) (upd_zI _ _ _) dX0_setWeight_6 (fun H locs hP hD hS => ?_)
  have hP : va_P D vwCl [(ad 1, .inr (0, [.int (nI (gV g)), .int (nI (gC g)), .int (nI (gE g)), .int ch, .ref (ad 2), .ref (ad 3), .ref (ad 4), .ref (ad 5), .ref (ad 6)])), (ad 6, .inl (cy 0, 14, .inl (fun i => zI (upZ (gW g) e w i))))] H := hP
  have hD : va_D (inW [(ad 1, .inr (0, [.int (nI (gV g)), .int (nI (gC g)), .int (nI (gE g)), .int ch, .ref (ad 2), .ref (ad 3), .ref (ad 4), .ref (ad 5), .ref (ad 6)])), (ad 6, .inl (cy 0, 14, .inl (fun i => zI (gW g i))))]) [(ad 1, .inr (0, [.int (nI (gV g)), .int (nI (gC g)), .int (nI (gE g)), .int ch, .ref (ad 2), .ref (ad 3), .ref (ad 4), .ref (ad 5), .ref (ad 6)])), (ad 6, .inl (cy 0, 14, .inl (fun i => zI (upZ (gW g) e w i))))] := hD
  refine lv_aload_n hx hb dX0_setWeight_7 rfl (lv_at hl 0 rfl) ?_
  refine lv_dup hx hb dX0_setWeight_8 rfl ?_
  refine va_get (D := D) (ci := 0) (v := .int ch) (C := RX0) (T := TX0) (N := 9) hx hb hts inX0 hown hK.1 hP 0 rfl rfl 3 (by decide) (hts (.fieldLink RX0 43 "ColourForests$Graph" "changes" "I") (List.mem_of_getElem? (i := 2) rfl)) (fun _ h9 => h9) rfl dX0_setWeight_9 ?_
  refine lv_iconst (v := nI 1) hx hb dX0_setWeight_12 (by decide) ?_
  refine lv_iadd hx hb dX0_setWeight_13 ?_
  refine lv_as (y := (ch + nI 1)) rfl ?_
  refine va_put (D := D) (ci := 0) (v := .int (ch + nI 1)) (ty := .int) (C := RX0) (T := TX0) (N := 9) hx hb hts inX0 tyX0 tyX0_ok nmX0 hown hK.1 hP hD hS 0 rfl rfl 3 (by decide) (hts (.fieldLink RX0 43 "ColourForests$Graph" "changes" "I") (List.mem_of_getElem? (i := 2) rfl)) (fun _ h9 => h9) rfl (by decide +kernel) rfl rfl (Nat.le_of_ble_eq_true rfl) dX0_setWeight_14 (fun H locs hP hD hS => ?_)
  have hP : va_P D vwCl [(ad 1, .inr (0, [.int (nI (gV g)), .int (nI (gC g)), .int (nI (gE g)), .int (ch + nI 1), .ref (ad 2), .ref (ad 3), .ref (ad 4), .ref (ad 5), .ref (ad 6)])), (ad 6, .inl (cy 0, 14, .inl (fun i => zI (upZ (gW g) e w i))))] H := hP
  have hD : va_D (inW [(ad 1, .inr (0, [.int (nI (gV g)), .int (nI (gC g)), .int (nI (gE g)), .int ch, .ref (ad 2), .ref (ad 3), .ref (ad 4), .ref (ad 5), .ref (ad 6)])), (ad 6, .inl (cy 0, 14, .inl (fun i => zI (gW g i))))]) [(ad 1, .inr (0, [.int (nI (gV g)), .int (nI (gC g)), .int (nI (gE g)), .int (ch + nI 1), .ref (ad 2), .ref (ad 3), .ref (ad 4), .ref (ad 5), .ref (ad 6)])), (ad 6, .inl (cy 0, 14, .inl (fun i => zI (upZ (gW g) e w i))))] := hD
  exact wv_ret () hx hb hr hlocks hS hP trivial dX0_setWeight_17

set_option maxHeartbeats 4000000 in
set_option maxRecDepth 100000 in
theorem c_X5_make_yes (l : Launch) (D : va_G) (cy : Nat → ClassId) (ad : Nat → Nat) (ch : Int32) (g : GT) {a b : Nat} (ha : 1 ≤ a ∧ a ≤ 8) (hb9 : 1 ≤ b ∧ b ≤ 6) : WV l yX5_make wsX5_make ({ frames := 2, cells := 0, slots := 0, locals := 45 }) D cy [.ref (ad 0), .int (nI a), .int (nI b)] [(ad 0, .inr (4, [.ref (ad 1), .ref (ad 7), .ref (ad 8), .ref (ad 9)])), (ad 1, .inr (0, [.int (nI (gV g)), .int (nI (gC g)), .int (nI (gE g)), .int ch, .ref (ad 2), .ref (ad 3), .ref (ad 4), .ref (ad 5), .ref (ad 6)])), (ad 2, .inl (cy 0, 6, .inl (fun i => nI (gL g i))))] (fun _ : Unit => True) (fun _ : Unit => [(ad 0, .inr (4, [.ref (ad 1), .ref (ad 7), .ref (ad 8), .ref (ad 9)])), (ad 1, .inr (0, [.int (nI (gV (mkG a b g))), .int (nI (gC (mkG a b g))), .int (nI (gE (mkG a b g))), .int (ch + nI 1), .ref (ad 2), .ref (ad 3), .ref (ad 4), .ref (ad 5), .ref (ad 6)])), (ad 2, .inl (cy 0, 6, .inl (fun i => nI (gL (mkG a b g) i))))]) := by
  refine Met.ofW (cc := cX5_make) (maxL := 3) (ret := none) (by decide) rfl ?_
  intro p ev s m args below meth c s₁ B hml hv
  obtain ⟨rfl, ⟨hK, hP⟩, hD0⟩ := hv
  have hx := B.exec
  have hb := B.bytes
  have hr := B.returns
  have hts := atoms_spec (ws := wsX5_make) B.pre
  have hown : s.vm.findClass RX5 = some m.cls := findClass_of_methodNamed B.named
  have hlocks := B.notSynchronized
  have hD : va_D (inW [(ad 0, .inr (4, [.ref (ad 1), .ref (ad 7), .ref (ad 8), .ref (ad 9)])), (ad 1, .inr (0, [.int (nI (gV g)), .int (nI (gC g)), .int (nI (gE g)), .int ch, .ref (ad 2), .ref (ad 3), .ref (ad 4), .ref (ad 5), .ref (ad 6)])), (ad 2, .inl (cy 0, 6, .inl (fun i => nI (gL g i))))]) ([(ad 0, .inr (4, [.ref (ad 1), .ref (ad 7), .ref (ad 8), .ref (ad 9)])), (ad 1, .inr (0, [.int (nI (gV g)), .int (nI (gC g)), .int (nI (gE g)), .int ch, .ref (ad 2), .ref (ad 3), .ref (ad 4), .ref (ad 5), .ref (ad 6)])), (ad 2, .inl (cy 0, 6, .inl (fun i => nI (gL g i))))]) := inW_self hD0
  have hS : va_S (inW [(ad 0, .inr (4, [.ref (ad 1), .ref (ad 7), .ref (ad 8), .ref (ad 9)])), (ad 1, .inr (0, [.int (nI (gV g)), .int (nI (gC g)), .int (nI (gE g)), .int ch, .ref (ad 2), .ref (ad 3), .ref (ad 4), .ref (ad 5), .ref (ad 6)])), (ad 2, .inl (cy 0, 6, .inl (fun i => nI (gL g i))))]) s.heap s.heap [] := va_S.rf
  have hP : va_P D vwCl [(ad 0, .inr (4, [.ref (ad 1), .ref (ad 7), .ref (ad 8), .ref (ad 9)])), (ad 1, .inr (0, [.int (nI (gV g)), .int (nI (gC g)), .int (nI (gE g)), .int ch, .ref (ad 2), .ref (ad 3), .ref (ad 4), .ref (ad 5), .ref (ad 6)])), (ad 2, .inl (cy 0, 6, .inl (fun i => nI (gL g i))))] s.heap := hP
  have inX5 : ∀ w ∈ wsX50, w ∈ wsX5_make := by decide +kernel
  have inX0 : ∀ w ∈ wsX00, w ∈ wsX5_make := by decide +kernel
  have hl := lv_entry ([.ref (ad 0), .int (nI a), .int (nI b)]) (n := 3) (Nat.le_of_ble_eq_true rfl)
  rw [lg_entry_eq]
  generalize (lg_sl ([.ref (ad 0), .int (nI a), .int (nI b)]) ++ List.replicate (3 - (lg_sl ([.ref (ad 0), .int (nI a), .int (nI b)])).length) Slot.unset).toArray = ls at hl ⊢
  have hl : lv_has ls 3 [(0, .ref (ad 0)), (1, .int (nI a)), (2, .int (nI b))] := hl
  have hgen := True.intro
  refine lv_iload_n hx hb dX5_make_0 rfl (lv_at hl 1 rfl) ?_
  refine lv_iconst (v := nI 1) hx hb dX5_make_1 (by decide) ?_
  refine lv_bipush (v := nI 8) hx hb dX5_make_2 (by decide) ?_
  refine pu_call (va_runS (As := [.int (nI a), .int (nI 1), .int (nI 8)]) (rest := []) ⟨hx, hb, hml, hown, hts⟩ (c_X5_within l D cy (nI a) (nI 1) (nI 8)) (va_cwS 3 hts gX5_make_X5_within rfl rfl rfl (by decide +kernel) ⟨Nat.le_of_ble_eq_true rfl, Nat.le_of_ble_eq_true rfl⟩) (PU_preS hK hP [] rfl) rfl rfl hl.1 rfl (lv_room (Nat.le_of_ble_eq_true rfl)) dX5_make_4 ⟨(Nat.zero_le _), (Nat.zero_le _)⟩) hS hP (fun H locs hP hS => ?_)
  refine b_eq (b := (decide ((nI 1) ≤ (nI a) ∧ (nI a) ≤ (nI 8)))) (tgt := 20) hx hb dX5_make_7 (by decide) (fun c7 => ?_) (fun c7 => ?_)
  · have c7 := of_decide_eq_false c7
    exact absurd (wi_ok ha.1 ha.2 (by decide)) c7
  · have c7 := of_decide_eq_true c7
    refine lv_iload_n hx hb dX5_make_10 rfl (lv_at hl 2 rfl) ?_
    refine lv_iconst (v := nI 1) hx hb dX5_make_11 (by decide) ?_
    refine lv_bipush (v := nI 6) hx hb dX5_make_12 (by decide) ?_
    refine pu_call (va_runS (As := [.int (nI b), .int (nI 1), .int (nI 6)]) (rest := []) ⟨hx, hb, hml, hown, hts⟩ (c_X5_within l D cy (nI b) (nI 1) (nI 6)) (va_cwS 3 hts gX5_make_X5_within rfl rfl rfl (by decide +kernel) ⟨Nat.le_of_ble_eq_true rfl, Nat.le_of_ble_eq_true rfl⟩) (PU_preS hK hP [] rfl) rfl rfl hl.1 rfl (lv_room (Nat.le_of_ble_eq_true rfl)) dX5_make_14 ⟨(Nat.zero_le _), (Nat.zero_le _)⟩) hS hP (fun H locs hP hS => ?_)
    refine b_ne (b := (decide ((nI 1) ≤ (nI b) ∧ (nI b) ≤ (nI 6)))) (tgt := 30) hx hb dX5_make_17 (by decide) (fun c17 => ?_) (fun c17 => ?_)
    · have c17 := of_decide_eq_true c17
      refine lv_aload_n hx hb dX5_make_30 rfl (lv_at hl 0 rfl) ?_
      refine va_get (D := D) (ci := 4) (v := .ref (ad 1)) (C := RX5) (T := TX5) (N := 4) hx hb hts inX5 hown hK.1 hP 0 rfl rfl 0 (by decide) (hts (.fieldLink RX5 10 "ColourForests" "graph" "LColourForests$Graph;") (List.mem_of_getElem? (i := 3) rfl)) (fun _ h9 => h9) rfl dX5_make_31 ?_
      refine lv_iload_n hx hb dX5_make_34 rfl (lv_at hl 1 rfl) ?_
      refine lv_iload_n hx hb dX5_make_35 rfl (lv_at hl 2 rfl) ?_
      refine wr_callv [1, 2] (va_runV (As := [.int (nI a), .int (nI b)]) (rest := []) ⟨hx, hb, hml, hown, hts⟩ (c_X0_restart l D cy ad ch g (a := a) (b := b)) (cwV 2 hts gX5_make_X0_restart rfl rfl rfl (by decide +kernel) ⟨Nat.le_of_ble_eq_true rfl, Nat.le_of_ble_eq_true rfl⟩) (WR_preV (ci := 0) (q0 := 1) hK hP hD rfl rfl [1, 2] (by decide) rfl rfl) rfl rfl hl.1 rfl (lv_room (Nat.le_of_ble_eq_true rfl)) dX5_make_36 ⟨(Nat.zero_le _), (Nat.zero_le _)⟩) hS hP hD rfl (fun _ => rfl) (fun _ => rfl) (fun u36 H locs w36 hP hD hS => ?_)
      have hP : va_P D vwCl [(ad 0, .inr (4, [.ref (ad 1), .ref (ad 7), .ref (ad 8), .ref (ad 9)])), (ad 1, .inr (0, [.int (nI (gV (mkG a b g))), .int (nI (gC (mkG a b g))), .int (nI (gE (mkG a b g))), .int (ch + nI 1), .ref (ad 2), .ref (ad 3), .ref (ad 4), .ref (ad 5), .ref (ad 6)])), (ad 2, .inl (cy 0, 6, .inl (fun i => nI (gL (mkG a b g) i))))] H := hP
      have hD : va_D (inW [(ad 0, .inr (4, [.ref (ad 1), .ref (ad 7), .ref (ad 8), .ref (ad 9)])), (ad 1, .inr (0, [.int (nI (gV g)), .int (nI (gC g)), .int (nI (gE g)), .int ch, .ref (ad 2), .ref (ad 3), .ref (ad 4), .ref (ad 5), .ref (ad 6)])), (ad 2, .inl (cy 0, 6, .inl (fun i => nI (gL g i))))]) [(ad 0, .inr (4, [.ref (ad 1), .ref (ad 7), .ref (ad 8), .ref (ad 9)])), (ad 1, .inr (0, [.int (nI (gV (mkG a b g))), .int (nI (gC (mkG a b g))), .int (nI (gE (mkG a b g))), .int (ch + nI 1), .ref (ad 2), .ref (ad 3), .ref (ad 4), .ref (ad 5), .ref (ad 6)])), (ad 2, .inl (cy 0, 6, .inl (fun i => nI (gL (mkG a b g) i))))] := hD
      exact wv_ret () hx hb hr hlocks hS hP trivial dX5_make_39
    · have c17 := of_decide_eq_false c17
      exact absurd (wi_ok hb9.1 hb9.2 (by decide)) c17

set_option maxHeartbeats 4000000 in
set_option maxRecDepth 100000 in
theorem c_X5_edge_no (l : Launch) (D : va_G) (cy : Nat → ClassId) (ad : Nat → Nat) (ch : Int32) {g : GT} (hg : gOK g) {x y z w : Int32} (h : edOK g x y z w = false) : PU l yX5_edge wsX5_edge ({ frames := 2, cells := 0, slots := 0, locals := 43 }) D cy [.ref (ad 0), .int x, .int y, .int z, .int w] [(ad 0, .inr (4, [.ref (ad 1), .ref (ad 7), .ref (ad 8), .ref (ad 9)])), (ad 1, .inr (0, [.int (nI (gV g)), .int (nI (gC g)), .int (nI (gE g)), .int ch, .ref (ad 2), .ref (ad 3), .ref (ad 4), .ref (ad 5), .ref (ad 6)])), (ad 2, .inl (cy 0, 6, .inl (fun i => nI (gL g i)))), (ad 3, .inl (cy 0, 14, .inl (fun i => nI (gF g i)))), (ad 4, .inl (cy 0, 14, .inl (fun i => nI (gS g i)))), (ad 5, .inl (cy 0, 14, .inl (fun i => nI (gH g i)))), (ad 6, .inl (cy 0, 14, .inl (fun i => zI (gW g i))))] ((zI (-1))) := by
  refine Met.ofW (cc := cX5_edge) (maxL := 5) (ret := (some .int)) (by decide) rfl ?_
  intro p ev s m args below meth c s₁ B hml hv
  obtain ⟨rfl, hK, hP⟩ := hv
  have hx := B.exec
  have hb := B.bytes
  have hr := B.returns
  have hts := atoms_spec (ws := wsX5_edge) B.pre
  have hown : s.vm.findClass RX5 = some m.cls := findClass_of_methodNamed B.named
  have hlocks := B.notSynchronized
  have hS : va_S (fun _ => False) s.heap s.heap [] := va_S.rf
  have hP : va_P D vwCl [(ad 0, .inr (4, [.ref (ad 1), .ref (ad 7), .ref (ad 8), .ref (ad 9)])), (ad 1, .inr (0, [.int (nI (gV g)), .int (nI (gC g)), .int (nI (gE g)), .int ch, .ref (ad 2), .ref (ad 3), .ref (ad 4), .ref (ad 5), .ref (ad 6)])), (ad 2, .inl (cy 0, 6, .inl (fun i => nI (gL g i)))), (ad 3, .inl (cy 0, 14, .inl (fun i => nI (gF g i)))), (ad 4, .inl (cy 0, 14, .inl (fun i => nI (gS g i)))), (ad 5, .inl (cy 0, 14, .inl (fun i => nI (gH g i)))), (ad 6, .inl (cy 0, 14, .inl (fun i => zI (gW g i))))] s.heap := hP
  have inX5 : ∀ w ∈ wsX50, w ∈ wsX5_edge := by decide +kernel
  have inX0 : ∀ w ∈ wsX00, w ∈ wsX5_edge := by decide +kernel
  have hl := lv_entry ([.ref (ad 0), .int x, .int y, .int z, .int w]) (n := 5) (Nat.le_of_ble_eq_true rfl)
  rw [lg_entry_eq]
  generalize (lg_sl ([.ref (ad 0), .int x, .int y, .int z, .int w]) ++ List.replicate (5 - (lg_sl ([.ref (ad 0), .int x, .int y, .int z, .int w])).length) Slot.unset).toArray = ls at hl ⊢
  have hl : lv_has ls 5 [(0, .ref (ad 0)), (1, .int x), (2, .int y), (3, .int z), (4, .int w)] := hl
  have hgen := True.intro
  have hE := hg.2.2.1
  have hV := hg.1
  have hC := hg.2.1
  refine lv_aload_n hx hb dX5_edge_0 rfl (lv_at hl 0 rfl) ?_
  refine va_get (D := D) (ci := 4) (v := .ref (ad 1)) (C := RX5) (T := TX5) (N := 4) hx hb hts inX5 hown hK.1 hP 0 rfl rfl 0 (by decide) (hts (.fieldLink RX5 10 "ColourForests" "graph" "LColourForests$Graph;") (List.mem_of_getElem? (i := 1) rfl)) (fun _ h9 => h9) rfl dX5_edge_1 ?_
  refine lv_iload_n hx hb dX5_edge_4 rfl (lv_at hl 1 rfl) ?_
  refine pu_call (va_runV (As := [.int x]) (rest := []) ⟨hx, hb, hml, hown, hts⟩ (c_X0_hasVertex l D cy ad ch hg x) (cwV 1 hts gX5_edge_X0_hasVertex rfl rfl rfl (by decide +kernel) ⟨Nat.le_of_ble_eq_true rfl, Nat.le_of_ble_eq_true rfl⟩) (PU_preV (ci := 0) (q0 := 1) hK hP 0 rfl rfl [1, 2, 3, 4, 5, 6] rfl) rfl rfl hl.1 rfl (lv_room (Nat.le_of_ble_eq_true rfl)) dX5_edge_5 ⟨(Nat.zero_le _), (Nat.zero_le _)⟩) hS hP (fun H locs hP hS => ?_)
  refine b_eq (b := (isN x (gV g))) (tgt := 33) hx hb dX5_edge_8 (by decide) (fun c8 => ?_) (fun c8 => ?_)
  · refine lv_iconst (v := zI (-1)) hx hb dX5_edge_33 (by decide) ?_
    exact pu_iret (y := yX5_edge) hx hb hr hlocks hS (by first | rfl | (simp [bI, *]; done) | (simp_all [bI]; done)) dX5_edge_34
  · refine lv_aload_n hx hb dX5_edge_11 rfl (lv_at hl 0 rfl) ?_
    refine va_get (D := D) (ci := 4) (v := .ref (ad 1)) (C := RX5) (T := TX5) (N := 4) hx hb hts inX5 hown hK.1 hP 0 rfl rfl 0 (by decide) (hts (.fieldLink RX5 10 "ColourForests" "graph" "LColourForests$Graph;") (List.mem_of_getElem? (i := 1) rfl)) (fun _ h9 => h9) rfl dX5_edge_12 ?_
    refine lv_iload_n hx hb dX5_edge_15 rfl (lv_at hl 2 rfl) ?_
    refine pu_call (va_runV (As := [.int y]) (rest := []) ⟨hx, hb, hml, hown, hts⟩ (c_X0_hasVertex l D cy ad ch hg y) (cwV 1 hts gX5_edge_X0_hasVertex rfl rfl rfl (by decide +kernel) ⟨Nat.le_of_ble_eq_true rfl, Nat.le_of_ble_eq_true rfl⟩) (PU_preV (ci := 0) (q0 := 1) hK hP 0 rfl rfl [1, 2, 3, 4, 5, 6] rfl) rfl rfl hl.1 rfl (lv_room (Nat.le_of_ble_eq_true rfl)) dX5_edge_16 ⟨(Nat.zero_le _), (Nat.zero_le _)⟩) hS hP (fun H locs hP hS => ?_)
    refine b_eq (b := (isN y (gV g))) (tgt := 33) hx hb dX5_edge_19 (by decide) (fun c19 => ?_) (fun c19 => ?_)
    · refine lv_iconst (v := zI (-1)) hx hb dX5_edge_33 (by decide) ?_
      exact pu_iret (y := yX5_edge) hx hb hr hlocks hS (by first | rfl | (simp [bI, *]; done) | (simp_all [bI]; done)) dX5_edge_34
    · refine lv_aload_n hx hb dX5_edge_22 rfl (lv_at hl 0 rfl) ?_
      refine va_get (D := D) (ci := 4) (v := .ref (ad 1)) (C := RX5) (T := TX5) (N := 4) hx hb hts inX5 hown hK.1 hP 0 rfl rfl 0 (by decide) (hts (.fieldLink RX5 10 "ColourForests" "graph" "LColourForests$Graph;") (List.mem_of_getElem? (i := 1) rfl)) (fun _ h9 => h9) rfl dX5_edge_23 ?_
      refine lv_iload_n hx hb dX5_edge_26 rfl (lv_at hl 3 rfl) ?_
      refine pu_call (va_runV (As := [.int z]) (rest := []) ⟨hx, hb, hml, hown, hts⟩ (c_X0_hasColour l D cy ad ch hg z) (cwV 1 hts gX5_edge_X0_hasColour rfl rfl rfl (by decide +kernel) ⟨Nat.le_of_ble_eq_true rfl, Nat.le_of_ble_eq_true rfl⟩) (PU_preV (ci := 0) (q0 := 1) hK hP 0 rfl rfl [1, 2, 3, 4, 5, 6] rfl) rfl rfl hl.1 rfl (lv_room (Nat.le_of_ble_eq_true rfl)) dX5_edge_27 ⟨(Nat.zero_le _), (Nat.zero_le _)⟩) hS hP (fun H locs hP hS => ?_)
      refine b_ne (b := (isN z (gC g))) (tgt := 35) hx hb dX5_edge_30 (by decide) (fun c30 => ?_) (fun c30 => ?_)
      · refine lv_iload hx hb dX5_edge_35 (lv_at hl 4 rfl) ?_
        refine pu_call (va_runS (As := [.int w]) (rest := []) ⟨hx, hb, hml, hown, hts⟩ (c_X5_isWeight l D cy w) (va_cwS 1 hts gX5_edge_X5_isWeight rfl rfl rfl (by decide +kernel) ⟨Nat.le_of_ble_eq_true rfl, Nat.le_of_ble_eq_true rfl⟩) (PU_preS hK hP [] rfl) rfl rfl hl.1 rfl (lv_room (Nat.le_of_ble_eq_true rfl)) dX5_edge_37 ⟨(Nat.zero_le _), (Nat.zero_le _)⟩) hS hP (fun H locs hP hS => ?_)
        refine b_eq (b := (isW w)) (tgt := 55) hx hb dX5_edge_40 (by decide) (fun c40 => ?_) (fun c40 => ?_)
        · refine lv_iconst (v := zI (-1)) hx hb dX5_edge_55 (by decide) ?_
          exact pu_iret (y := yX5_edge) hx hb hr hlocks hS (by first | rfl | (simp [bI, *]; done) | (simp_all [bI]; done)) dX5_edge_56
        · refine lv_aload_n hx hb dX5_edge_43 rfl (lv_at hl 0 rfl) ?_
          refine va_get (D := D) (ci := 4) (v := .ref (ad 1)) (C := RX5) (T := TX5) (N := 4) hx hb hts inX5 hown hK.1 hP 0 rfl rfl 0 (by decide) (hts (.fieldLink RX5 10 "ColourForests" "graph" "LColourForests$Graph;") (List.mem_of_getElem? (i := 1) rfl)) (fun _ h9 => h9) rfl dX5_edge_44 ?_
          refine va_get (D := D) (ci := 0) (v := .int (nI (gE g))) (C := RX0) (T := TX0) (N := 9) hx hb hts inX0 hown hK.1 hP 1 rfl rfl 2 (by decide) (hts (.fieldLink RX5 63 "ColourForests$Graph" "edges" "I") (List.mem_of_getElem? (i := 2) rfl)) (fun _ h9 => h9) rfl dX5_edge_47 ?_
          refine lv_bipush (v := nI 14) hx hb dX5_edge_50 (by decide) ?_
          refine n_ne (a := (gE g)) (b := 14) (tgt := 57) hx hb dX5_edge_52 (by decide) (by omega) (by omega) (fun c52 => ?_) (fun c52 => ?_)
          · exact absurd h (by unfold edOK; rw [c8, c19, c30, c40, decide_eq_true (show gE g ≠ 14 from c52)]; decide)
          · refine lv_iconst (v := zI (-1)) hx hb dX5_edge_55 (by decide) ?_
            exact pu_iret (y := yX5_edge) hx hb hr hlocks hS (by first | rfl | (simp [bI, *]; done) | (simp_all [bI]; done)) dX5_edge_56
      · refine lv_iconst (v := zI (-1)) hx hb dX5_edge_33 (by decide) ?_
        exact pu_iret (y := yX5_edge) hx hb hr hlocks hS (by first | rfl | (simp [bI, *]; done) | (simp_all [bI]; done)) dX5_edge_34

set_option maxHeartbeats 4000000 in
set_option maxRecDepth 100000 in
theorem c_X5_edge_yes (l : Launch) (D : va_G) (cy : Nat → ClassId) (ad : Nat → Nat) (ch : Int32) {g : GT} (hg : gOK g) {a b c9 : Nat} {w : Int} (ha : a < gV g) (hb9 : b < gV g) (hc9 : c9 < gC g) (hw : -9999 ≤ w ∧ w ≤ 9999) (hE9 : gE g < 14) : WI l yX5_edge wsX5_edge ({ frames := 2, cells := 0, slots := 0, locals := 43 }) D cy [.ref (ad 0), .int (nI a), .int (nI b), .int (nI c9), .int (zI w)] [(ad 0, .inr (4, [.ref (ad 1), .ref (ad 7), .ref (ad 8), .ref (ad 9)])), (ad 1, .inr (0, [.int (nI (gV g)), .int (nI (gC g)), .int (nI (gE g)), .int ch, .ref (ad 2), .ref (ad 3), .ref (ad 4), .ref (ad 5), .ref (ad 6)])), (ad 2, .inl (cy 0, 6, .inl (fun i => nI (gL g i)))), (ad 3, .inl (cy 0, 14, .inl (fun i => nI (gF g i)))), (ad 4, .inl (cy 0, 14, .inl (fun i => nI (gS g i)))), (ad 5, .inl (cy 0, 14, .inl (fun i => nI (gH g i)))), (ad 6, .inl (cy 0, 14, .inl (fun i => zI (gW g i))))] (fun (r : Int32) (_ : Unit) => r = nI (gE g)) (fun _ : Unit => [(ad 0, .inr (4, [.ref (ad 1), .ref (ad 7), .ref (ad 8), .ref (ad 9)])), (ad 1, .inr (0, [.int (nI (gV (edG a b c9 w g))), .int (nI (gC (edG a b c9 w g))), .int (nI (gE (edG a b c9 w g))), .int (ch + nI 1), .ref (ad 2), .ref (ad 3), .ref (ad 4), .ref (ad 5), .ref (ad 6)])), (ad 2, .inl (cy 0, 6, .inl (fun i => nI (gL (edG a b c9 w g) i)))), (ad 3, .inl (cy 0, 14, .inl (fun i => nI (gF (edG a b c9 w g) i)))), (ad 4, .inl (cy 0, 14, .inl (fun i => nI (gS (edG a b c9 w g) i)))), (ad 5, .inl (cy 0, 14, .inl (fun i => nI (gH (edG a b c9 w g) i)))), (ad 6, .inl (cy 0, 14, .inl (fun i => zI (gW (edG a b c9 w g) i))))]) := by
  refine Met.ofW (cc := cX5_edge) (maxL := 5) (ret := (some .int)) (by decide) rfl ?_
  intro p ev s m args below meth c s₁ B hml hv
  obtain ⟨rfl, ⟨hK, hP⟩, hD0⟩ := hv
  have hx := B.exec
  have hb := B.bytes
  have hr := B.returns
  have hts := atoms_spec (ws := wsX5_edge) B.pre
  have hown : s.vm.findClass RX5 = some m.cls := findClass_of_methodNamed B.named
  have hlocks := B.notSynchronized
  have hD : va_D (inW [(ad 0, .inr (4, [.ref (ad 1), .ref (ad 7), .ref (ad 8), .ref (ad 9)])), (ad 1, .inr (0, [.int (nI (gV g)), .int (nI (gC g)), .int (nI (gE g)), .int ch, .ref (ad 2), .ref (ad 3), .ref (ad 4), .ref (ad 5), .ref (ad 6)])), (ad 2, .inl (cy 0, 6, .inl (fun i => nI (gL g i)))), (ad 3, .inl (cy 0, 14, .inl (fun i => nI (gF g i)))), (ad 4, .inl (cy 0, 14, .inl (fun i => nI (gS g i)))), (ad 5, .inl (cy 0, 14, .inl (fun i => nI (gH g i)))), (ad 6, .inl (cy 0, 14, .inl (fun i => zI (gW g i))))]) ([(ad 0, .inr (4, [.ref (ad 1), .ref (ad 7), .ref (ad 8), .ref (ad 9)])), (ad 1, .inr (0, [.int (nI (gV g)), .int (nI (gC g)), .int (nI (gE g)), .int ch, .ref (ad 2), .ref (ad 3), .ref (ad 4), .ref (ad 5), .ref (ad 6)])), (ad 2, .inl (cy 0, 6, .inl (fun i => nI (gL g i)))), (ad 3, .inl (cy 0, 14, .inl (fun i => nI (gF g i)))), (ad 4, .inl (cy 0, 14, .inl (fun i => nI (gS g i)))), (ad 5, .inl (cy 0, 14, .inl (fun i => nI (gH g i)))), (ad 6, .inl (cy 0, 14, .inl (fun i => zI (gW g i))))]) := inW_self hD0
  have hS : va_S (inW [(ad 0, .inr (4, [.ref (ad 1), .ref (ad 7), .ref (ad 8), .ref (ad 9)])), (ad 1, .inr (0, [.int (nI (gV g)), .int (nI (gC g)), .int (nI (gE g)), .int ch, .ref (ad 2), .ref (ad 3), .ref (ad 4), .ref (ad 5), .ref (ad 6)])), (ad 2, .inl (cy 0, 6, .inl (fun i => nI (gL g i)))), (ad 3, .inl (cy 0, 14, .inl (fun i => nI (gF g i)))), (ad 4, .inl (cy 0, 14, .inl (fun i => nI (gS g i)))), (ad 5, .inl (cy 0, 14, .inl (fun i => nI (gH g i)))), (ad 6, .inl (cy 0, 14, .inl (fun i => zI (gW g i))))]) s.heap s.heap [] := va_S.rf
  have hP : va_P D vwCl [(ad 0, .inr (4, [.ref (ad 1), .ref (ad 7), .ref (ad 8), .ref (ad 9)])), (ad 1, .inr (0, [.int (nI (gV g)), .int (nI (gC g)), .int (nI (gE g)), .int ch, .ref (ad 2), .ref (ad 3), .ref (ad 4), .ref (ad 5), .ref (ad 6)])), (ad 2, .inl (cy 0, 6, .inl (fun i => nI (gL g i)))), (ad 3, .inl (cy 0, 14, .inl (fun i => nI (gF g i)))), (ad 4, .inl (cy 0, 14, .inl (fun i => nI (gS g i)))), (ad 5, .inl (cy 0, 14, .inl (fun i => nI (gH g i)))), (ad 6, .inl (cy 0, 14, .inl (fun i => zI (gW g i))))] s.heap := hP
  have inX5 : ∀ w ∈ wsX50, w ∈ wsX5_edge := by decide +kernel
  have inX0 : ∀ w ∈ wsX00, w ∈ wsX5_edge := by decide +kernel
  have hl := lv_entry ([.ref (ad 0), .int (nI a), .int (nI b), .int (nI c9), .int (zI w)]) (n := 5) (Nat.le_of_ble_eq_true rfl)
  rw [lg_entry_eq]
  generalize (lg_sl ([.ref (ad 0), .int (nI a), .int (nI b), .int (nI c9), .int (zI w)]) ++ List.replicate (5 - (lg_sl ([.ref (ad 0), .int (nI a), .int (nI b), .int (nI c9), .int (zI w)])).length) Slot.unset).toArray = ls at hl ⊢
  have hl : lv_has ls 5 [(0, .ref (ad 0)), (1, .int (nI a)), (2, .int (nI b)), (3, .int (nI c9)), (4, .int (zI w))] := hl
  have hgen := True.intro
  have hE := hg.2.2.1
  have hV := hg.1
  have hC := hg.2.1
  refine lv_aload_n hx hb dX5_edge_0 rfl (lv_at hl 0 rfl) ?_
  refine va_get (D := D) (ci := 4) (v := .ref (ad 1)) (C := RX5) (T := TX5) (N := 4) hx hb hts inX5 hown hK.1 hP 0 rfl rfl 0 (by decide) (hts (.fieldLink RX5 10 "ColourForests" "graph" "LColourForests$Graph;") (List.mem_of_getElem? (i := 1) rfl)) (fun _ h9 => h9) rfl dX5_edge_1 ?_
  refine lv_iload_n hx hb dX5_edge_4 rfl (lv_at hl 1 rfl) ?_
  refine pu_call (va_runV (As := [.int (nI a)]) (rest := []) ⟨hx, hb, hml, hown, hts⟩ (c_X0_hasVertex l D cy ad ch hg ((nI a))) (cwV 1 hts gX5_edge_X0_hasVertex rfl rfl rfl (by decide +kernel) ⟨Nat.le_of_ble_eq_true rfl, Nat.le_of_ble_eq_true rfl⟩) (PU_preV (ci := 0) (q0 := 1) hK hP 0 rfl rfl [1, 2, 3, 4, 5, 6] rfl) rfl rfl hl.1 rfl (lv_room (Nat.le_of_ble_eq_true rfl)) dX5_edge_5 ⟨(Nat.zero_le _), (Nat.zero_le _)⟩) hS hP (fun H locs hP hS => ?_)
  refine b_eq (b := (isN ((nI a)) (gV g))) (tgt := 33) hx hb dX5_edge_8 (by decide) (fun c8 => ?_) (fun c8 => ?_)
  · exact absurd (c8.symm.trans (isN_y ha (by omega))) (by decide)
  · refine lv_aload_n hx hb dX5_edge_11 rfl (lv_at hl 0 rfl) ?_
    refine va_get (D := D) (ci := 4) (v := .ref (ad 1)) (C := RX5) (T := TX5) (N := 4) hx hb hts inX5 hown hK.1 hP 0 rfl rfl 0 (by decide) (hts (.fieldLink RX5 10 "ColourForests" "graph" "LColourForests$Graph;") (List.mem_of_getElem? (i := 1) rfl)) (fun _ h9 => h9) rfl dX5_edge_12 ?_
    refine lv_iload_n hx hb dX5_edge_15 rfl (lv_at hl 2 rfl) ?_
    refine pu_call (va_runV (As := [.int (nI b)]) (rest := []) ⟨hx, hb, hml, hown, hts⟩ (c_X0_hasVertex l D cy ad ch hg ((nI b))) (cwV 1 hts gX5_edge_X0_hasVertex rfl rfl rfl (by decide +kernel) ⟨Nat.le_of_ble_eq_true rfl, Nat.le_of_ble_eq_true rfl⟩) (PU_preV (ci := 0) (q0 := 1) hK hP 0 rfl rfl [1, 2, 3, 4, 5, 6] rfl) rfl rfl hl.1 rfl (lv_room (Nat.le_of_ble_eq_true rfl)) dX5_edge_16 ⟨(Nat.zero_le _), (Nat.zero_le _)⟩) hS hP (fun H locs hP hS => ?_)
    refine b_eq (b := (isN ((nI b)) (gV g))) (tgt := 33) hx hb dX5_edge_19 (by decide) (fun c19 => ?_) (fun c19 => ?_)
    · exact absurd (c19.symm.trans (isN_y hb9 (by omega))) (by decide)
    · refine lv_aload_n hx hb dX5_edge_22 rfl (lv_at hl 0 rfl) ?_
      refine va_get (D := D) (ci := 4) (v := .ref (ad 1)) (C := RX5) (T := TX5) (N := 4) hx hb hts inX5 hown hK.1 hP 0 rfl rfl 0 (by decide) (hts (.fieldLink RX5 10 "ColourForests" "graph" "LColourForests$Graph;") (List.mem_of_getElem? (i := 1) rfl)) (fun _ h9 => h9) rfl dX5_edge_23 ?_
      refine lv_iload_n hx hb dX5_edge_26 rfl (lv_at hl 3 rfl) ?_
      refine pu_call (va_runV (As := [.int (nI c9)]) (rest := []) ⟨hx, hb, hml, hown, hts⟩ (c_X0_hasColour l D cy ad ch hg ((nI c9))) (cwV 1 hts gX5_edge_X0_hasColour rfl rfl rfl (by decide +kernel) ⟨Nat.le_of_ble_eq_true rfl, Nat.le_of_ble_eq_true rfl⟩) (PU_preV (ci := 0) (q0 := 1) hK hP 0 rfl rfl [1, 2, 3, 4, 5, 6] rfl) rfl rfl hl.1 rfl (lv_room (Nat.le_of_ble_eq_true rfl)) dX5_edge_27 ⟨(Nat.zero_le _), (Nat.zero_le _)⟩) hS hP (fun H locs hP hS => ?_)
      refine b_ne (b := (isN ((nI c9)) (gC g))) (tgt := 35) hx hb dX5_edge_30 (by decide) (fun c30 => ?_) (fun c30 => ?_)
      · refine lv_iload hx hb dX5_edge_35 (lv_at hl 4 rfl) ?_
        refine pu_call (va_runS (As := [.int (zI w)]) (rest := []) ⟨hx, hb, hml, hown, hts⟩ (c_X5_isWeight l D cy (zI w)) (va_cwS 1 hts gX5_edge_X5_isWeight rfl rfl rfl (by decide +kernel) ⟨Nat.le_of_ble_eq_true rfl, Nat.le_of_ble_eq_true rfl⟩) (PU_preS hK hP [] rfl) rfl rfl hl.1 rfl (lv_room (Nat.le_of_ble_eq_true rfl)) dX5_edge_37 ⟨(Nat.zero_le _), (Nat.zero_le _)⟩) hS hP (fun H locs hP hS => ?_)
        refine b_eq (b := (isW (zI w))) (tgt := 55) hx hb dX5_edge_40 (by decide) (fun c40 => ?_) (fun c40 => ?_)
        · exact absurd (c40.symm.trans (isW_z hw)) (by decide)
        · refine lv_aload_n hx hb dX5_edge_43 rfl (lv_at hl 0 rfl) ?_
          refine va_get (D := D) (ci := 4) (v := .ref (ad 1)) (C := RX5) (T := TX5) (N := 4) hx hb hts inX5 hown hK.1 hP 0 rfl rfl 0 (by decide) (hts (.fieldLink RX5 10 "ColourForests" "graph" "LColourForests$Graph;") (List.mem_of_getElem? (i := 1) rfl)) (fun _ h9 => h9) rfl dX5_edge_44 ?_
          refine va_get (D := D) (ci := 0) (v := .int (nI (gE g))) (C := RX0) (T := TX0) (N := 9) hx hb hts inX0 hown hK.1 hP 1 rfl rfl 2 (by decide) (hts (.fieldLink RX5 63 "ColourForests$Graph" "edges" "I") (List.mem_of_getElem? (i := 2) rfl)) (fun _ h9 => h9) rfl dX5_edge_47 ?_
          refine lv_bipush (v := nI 14) hx hb dX5_edge_50 (by decide) ?_
          refine n_ne (a := (gE g)) (b := 14) (tgt := 57) hx hb dX5_edge_52 (by decide) (by omega) (by omega) (fun c52 => ?_) (fun c52 => ?_)
          · refine lv_aload_n hx hb dX5_edge_57 rfl (lv_at hl 0 rfl) ?_
            refine va_get (D := D) (ci := 4) (v := .ref (ad 1)) (C := RX5) (T := TX5) (N := 4) hx hb hts inX5 hown hK.1 hP 0 rfl rfl 0 (by decide) (hts (.fieldLink RX5 10 "ColourForests" "graph" "LColourForests$Graph;") (List.mem_of_getElem? (i := 1) rfl)) (fun _ h9 => h9) rfl dX5_edge_58 ?_
            refine lv_iload_n hx hb dX5_edge_61 rfl (lv_at hl 1 rfl) ?_
            refine lv_iload_n hx hb dX5_edge_62 rfl (lv_at hl 2 rfl) ?_
            refine lv_iload_n hx hb dX5_edge_63 rfl (lv_at hl 3 rfl) ?_
            refine lv_iload hx hb dX5_edge_64 (lv_at hl 4 rfl) ?_
            refine wr_calli [1, 3, 4, 5, 6] (va_runV (As := [.int (nI a), .int (nI b), .int (nI c9), .int (zI w)]) (rest := []) ⟨hx, hb, hml, hown, hts⟩ (c_X0_addEdge l D cy ad ch g (a := a) (b := b) (c9 := c9) (w := w) hE9) (cwV 4 hts gX5_edge_X0_addEdge rfl rfl rfl (by decide +kernel) ⟨Nat.le_of_ble_eq_true rfl, Nat.le_of_ble_eq_true rfl⟩) (WR_preV (ci := 0) (q0 := 1) hK hP hD rfl rfl [1, 3, 4, 5, 6] (by decide) rfl rfl) rfl rfl hl.1 rfl (lv_room (Nat.le_of_ble_eq_true rfl)) dX5_edge_66 ⟨(Nat.zero_le _), (Nat.zero_le _)⟩) hS hP hD rfl (fun _ => rfl) (fun _ => rfl) (fun r66 u66 H locs w66 hP hD hS => ?_)
            have hP : va_P D vwCl [(ad 0, .inr (4, [.ref (ad 1), .ref (ad 7), .ref (ad 8), .ref (ad 9)])), (ad 1, .inr (0, [.int (nI (gV (edG a b c9 w g))), .int (nI (gC (edG a b c9 w g))), .int (nI (gE (edG a b c9 w g))), .int (ch + nI 1), .ref (ad 2), .ref (ad 3), .ref (ad 4), .ref (ad 5), .ref (ad 6)])), (ad 2, .inl (cy 0, 6, .inl (fun i => nI (gL g i)))), (ad 3, .inl (cy 0, 14, .inl (fun i => nI (gF (edG a b c9 w g) i)))), (ad 4, .inl (cy 0, 14, .inl (fun i => nI (gS (edG a b c9 w g) i)))), (ad 5, .inl (cy 0, 14, .inl (fun i => nI (gH (edG a b c9 w g) i)))), (ad 6, .inl (cy 0, 14, .inl (fun i => zI (gW (edG a b c9 w g) i))))] H := hP
            have hD : va_D (inW [(ad 0, .inr (4, [.ref (ad 1), .ref (ad 7), .ref (ad 8), .ref (ad 9)])), (ad 1, .inr (0, [.int (nI (gV g)), .int (nI (gC g)), .int (nI (gE g)), .int ch, .ref (ad 2), .ref (ad 3), .ref (ad 4), .ref (ad 5), .ref (ad 6)])), (ad 2, .inl (cy 0, 6, .inl (fun i => nI (gL g i)))), (ad 3, .inl (cy 0, 14, .inl (fun i => nI (gF g i)))), (ad 4, .inl (cy 0, 14, .inl (fun i => nI (gS g i)))), (ad 5, .inl (cy 0, 14, .inl (fun i => nI (gH g i)))), (ad 6, .inl (cy 0, 14, .inl (fun i => zI (gW g i))))]) [(ad 0, .inr (4, [.ref (ad 1), .ref (ad 7), .ref (ad 8), .ref (ad 9)])), (ad 1, .inr (0, [.int (nI (gV (edG a b c9 w g))), .int (nI (gC (edG a b c9 w g))), .int (nI (gE (edG a b c9 w g))), .int (ch + nI 1), .ref (ad 2), .ref (ad 3), .ref (ad 4), .ref (ad 5), .ref (ad 6)])), (ad 2, .inl (cy 0, 6, .inl (fun i => nI (gL g i)))), (ad 3, .inl (cy 0, 14, .inl (fun i => nI (gF (edG a b c9 w g) i)))), (ad 4, .inl (cy 0, 14, .inl (fun i => nI (gS (edG a b c9 w g) i)))), (ad 5, .inl (cy 0, 14, .inl (fun i => nI (gH (edG a b c9 w g) i)))), (ad 6, .inl (cy 0, 14, .inl (fun i => zI (gW (edG a b c9 w g) i))))] := hD
            exact wi_ret () hx hb hr hlocks hS hP w66 dX5_edge_69
          · exact absurd c52 (by omega)
      · exact absurd (c30.symm.trans (isN_y hc9 (by omega))) (by decide)

set_option maxHeartbeats 4000000 in
set_option maxRecDepth 100000 in
theorem c_X5_limit_0 (l : Launch) (D : va_G) (cy : Nat → ClassId) (ad : Nat → Nat) (ch : Int32) {g : GT} (hg : gOK g) {c9 n9 : Nat} (hc9 : c9 < gC g) (hn9 : n9 ≤ 14) : WV l yX5_limit wsX5_limit ({ frames := 2, cells := 0, slots := 0, locals := 43 }) D cy [.ref (ad 0), .int (nI c9), .int (nI n9)] [(ad 0, .inr (4, [.ref (ad 1), .ref (ad 7), .ref (ad 8), .ref (ad 9)])), (ad 1, .inr (0, [.int (nI (gV g)), .int (nI (gC g)), .int (nI (gE g)), .int ch, .ref (ad 2), .ref (ad 3), .ref (ad 4), .ref (ad 5), .ref (ad 6)])), (ad 2, .inl (cy 0, 6, .inl (fun i => nI (gL g i)))), (ad 3, .inl (cy 0, 14, .inl (fun i => nI (gF g i)))), (ad 4, .inl (cy 0, 14, .inl (fun i => nI (gS g i)))), (ad 5, .inl (cy 0, 14, .inl (fun i => nI (gH g i)))), (ad 6, .inl (cy 0, 14, .inl (fun i => zI (gW g i))))] (fun _ : Unit => True) (fun _ : Unit => [(ad 0, .inr (4, [.ref (ad 1), .ref (ad 7), .ref (ad 8), .ref (ad 9)])), (ad 1, .inr (0, [.int (nI (gV (liG c9 n9 g))), .int (nI (gC (liG c9 n9 g))), .int (nI (gE (liG c9 n9 g))), .int (ch + nI 1), .ref (ad 2), .ref (ad 3), .ref (ad 4), .ref (ad 5), .ref (ad 6)])), (ad 2, .inl (cy 0, 6, .inl (fun i => nI (gL (liG c9 n9 g) i)))), (ad 3, .inl (cy 0, 14, .inl (fun i => nI (gF g i)))), (ad 4, .inl (cy 0, 14, .inl (fun i => nI (gS g i)))), (ad 5, .inl (cy 0, 14, .inl (fun i => nI (gH g i)))), (ad 6, .inl (cy 0, 14, .inl (fun i => zI (gW g i))))]) := by
  refine Met.ofW (cc := cX5_limit) (maxL := 3) (ret := none) (by decide) rfl ?_
  intro p ev s m args below meth c s₁ B hml hv
  obtain ⟨rfl, ⟨hK, hP⟩, hD0⟩ := hv
  have hx := B.exec
  have hb := B.bytes
  have hr := B.returns
  have hts := atoms_spec (ws := wsX5_limit) B.pre
  have hown : s.vm.findClass RX5 = some m.cls := findClass_of_methodNamed B.named
  have hlocks := B.notSynchronized
  have hD : va_D (inW [(ad 0, .inr (4, [.ref (ad 1), .ref (ad 7), .ref (ad 8), .ref (ad 9)])), (ad 1, .inr (0, [.int (nI (gV g)), .int (nI (gC g)), .int (nI (gE g)), .int ch, .ref (ad 2), .ref (ad 3), .ref (ad 4), .ref (ad 5), .ref (ad 6)])), (ad 2, .inl (cy 0, 6, .inl (fun i => nI (gL g i)))), (ad 3, .inl (cy 0, 14, .inl (fun i => nI (gF g i)))), (ad 4, .inl (cy 0, 14, .inl (fun i => nI (gS g i)))), (ad 5, .inl (cy 0, 14, .inl (fun i => nI (gH g i)))), (ad 6, .inl (cy 0, 14, .inl (fun i => zI (gW g i))))]) ([(ad 0, .inr (4, [.ref (ad 1), .ref (ad 7), .ref (ad 8), .ref (ad 9)])), (ad 1, .inr (0, [.int (nI (gV g)), .int (nI (gC g)), .int (nI (gE g)), .int ch, .ref (ad 2), .ref (ad 3), .ref (ad 4), .ref (ad 5), .ref (ad 6)])), (ad 2, .inl (cy 0, 6, .inl (fun i => nI (gL g i)))), (ad 3, .inl (cy 0, 14, .inl (fun i => nI (gF g i)))), (ad 4, .inl (cy 0, 14, .inl (fun i => nI (gS g i)))), (ad 5, .inl (cy 0, 14, .inl (fun i => nI (gH g i)))), (ad 6, .inl (cy 0, 14, .inl (fun i => zI (gW g i))))]) := inW_self hD0
  have hS : va_S (inW [(ad 0, .inr (4, [.ref (ad 1), .ref (ad 7), .ref (ad 8), .ref (ad 9)])), (ad 1, .inr (0, [.int (nI (gV g)), .int (nI (gC g)), .int (nI (gE g)), .int ch, .ref (ad 2), .ref (ad 3), .ref (ad 4), .ref (ad 5), .ref (ad 6)])), (ad 2, .inl (cy 0, 6, .inl (fun i => nI (gL g i)))), (ad 3, .inl (cy 0, 14, .inl (fun i => nI (gF g i)))), (ad 4, .inl (cy 0, 14, .inl (fun i => nI (gS g i)))), (ad 5, .inl (cy 0, 14, .inl (fun i => nI (gH g i)))), (ad 6, .inl (cy 0, 14, .inl (fun i => zI (gW g i))))]) s.heap s.heap [] := va_S.rf
  have hP : va_P D vwCl [(ad 0, .inr (4, [.ref (ad 1), .ref (ad 7), .ref (ad 8), .ref (ad 9)])), (ad 1, .inr (0, [.int (nI (gV g)), .int (nI (gC g)), .int (nI (gE g)), .int ch, .ref (ad 2), .ref (ad 3), .ref (ad 4), .ref (ad 5), .ref (ad 6)])), (ad 2, .inl (cy 0, 6, .inl (fun i => nI (gL g i)))), (ad 3, .inl (cy 0, 14, .inl (fun i => nI (gF g i)))), (ad 4, .inl (cy 0, 14, .inl (fun i => nI (gS g i)))), (ad 5, .inl (cy 0, 14, .inl (fun i => nI (gH g i)))), (ad 6, .inl (cy 0, 14, .inl (fun i => zI (gW g i))))] s.heap := hP
  have inX5 : ∀ w ∈ wsX50, w ∈ wsX5_limit := by decide +kernel
  have inX0 : ∀ w ∈ wsX00, w ∈ wsX5_limit := by decide +kernel
  have hl := lv_entry ([.ref (ad 0), .int (nI c9), .int (nI n9)]) (n := 3) (Nat.le_of_ble_eq_true rfl)
  rw [lg_entry_eq]
  generalize (lg_sl ([.ref (ad 0), .int (nI c9), .int (nI n9)]) ++ List.replicate (3 - (lg_sl ([.ref (ad 0), .int (nI c9), .int (nI n9)])).length) Slot.unset).toArray = ls at hl ⊢
  have hl : lv_has ls 3 [(0, .ref (ad 0)), (1, .int (nI c9)), (2, .int (nI n9))] := hl
  have hgen := True.intro
  have hE := hg.2.2.1
  have hV := hg.1
  have hC := hg.2.1
  refine lv_aload_n hx hb dX5_limit_0 rfl (lv_at hl 0 rfl) ?_
  refine va_get (D := D) (ci := 4) (v := .ref (ad 1)) (C := RX5) (T := TX5) (N := 4) hx hb hts inX5 hown hK.1 hP 0 rfl rfl 0 (by decide) (hts (.fieldLink RX5 10 "ColourForests" "graph" "LColourForests$Graph;") (List.mem_of_getElem? (i := 5) rfl)) (fun _ h9 => h9) rfl dX5_limit_1 ?_
  refine lv_iload_n hx hb dX5_limit_4 rfl (lv_at hl 1 rfl) ?_
  refine pu_call (va_runV (As := [.int (nI c9)]) (rest := []) ⟨hx, hb, hml, hown, hts⟩ (c_X0_hasColour l D cy ad ch hg ((nI c9))) (cwV 1 hts gX5_limit_X0_hasColour rfl rfl rfl (by decide +kernel) ⟨Nat.le_of_ble_eq_true rfl, Nat.le_of_ble_eq_true rfl⟩) (PU_preV (ci := 0) (q0 := 1) hK hP 0 rfl rfl [1, 2, 3, 4, 5, 6] rfl) rfl rfl hl.1 rfl (lv_room (Nat.le_of_ble_eq_true rfl)) dX5_limit_5 ⟨(Nat.zero_le _), (Nat.zero_le _)⟩) hS hP (fun H locs hP hS => ?_)
  refine b_ne (b := (isN ((nI c9)) (gC g))) (tgt := 21) hx hb dX5_limit_8 (by decide) (fun c8 => ?_) (fun c8 => ?_)
  · refine lv_iload_n hx hb dX5_limit_21 rfl (lv_at hl 2 rfl) ?_
    refine lv_iconst (v := nI 0) hx hb dX5_limit_22 (by decide) ?_
    refine lv_bipush (v := nI 14) hx hb dX5_limit_23 (by decide) ?_
    refine pu_call (va_runS (As := [.int (nI n9), .int (nI 0), .int (nI 14)]) (rest := []) ⟨hx, hb, hml, hown, hts⟩ (c_X5_within l D cy (nI n9) (nI 0) (nI 14)) (va_cwS 3 hts gX5_limit_X5_within rfl rfl rfl (by decide +kernel) ⟨Nat.le_of_ble_eq_true rfl, Nat.le_of_ble_eq_true rfl⟩) (PU_preS hK hP [] rfl) rfl rfl hl.1 rfl (lv_room (Nat.le_of_ble_eq_true rfl)) dX5_limit_25 ⟨(Nat.zero_le _), (Nat.zero_le _)⟩) hS hP (fun H locs hP hS => ?_)
    refine b_ne (b := (decide ((nI 0) ≤ (nI n9) ∧ (nI n9) ≤ (nI 14)))) (tgt := 41) hx hb dX5_limit_28 (by decide) (fun c28 => ?_) (fun c28 => ?_)
    · have c28 := of_decide_eq_true c28
      refine lv_aload_n hx hb dX5_limit_41 rfl (lv_at hl 0 rfl) ?_
      refine va_get (D := D) (ci := 4) (v := .ref (ad 1)) (C := RX5) (T := TX5) (N := 4) hx hb hts inX5 hown hK.1 hP 0 rfl rfl 0 (by decide) (hts (.fieldLink RX5 10 "ColourForests" "graph" "LColourForests$Graph;") (List.mem_of_getElem? (i := 5) rfl)) (fun _ h9 => h9) rfl dX5_limit_42 ?_
      refine lv_iload_n hx hb dX5_limit_45 rfl (lv_at hl 1 rfl) ?_
      refine lv_iload_n hx hb dX5_limit_46 rfl (lv_at hl 2 rfl) ?_
      refine wr_callv [1, 2] (va_runV (As := [.int (nI c9), .int (nI n9)]) (rest := []) ⟨hx, hb, hml, hown, hts⟩ (c_X0_setLimit l D cy ad ch g (c9 := c9) (n9 := n9) (by omega)) (cwV 2 hts gX5_limit_X0_setLimit rfl rfl rfl (by decide +kernel) ⟨Nat.le_of_ble_eq_true rfl, Nat.le_of_ble_eq_true rfl⟩) (WR_preV (ci := 0) (q0 := 1) hK hP hD rfl rfl [1, 2] (by decide) rfl rfl) rfl rfl hl.1 rfl (lv_room (Nat.le_of_ble_eq_true rfl)) dX5_limit_47 ⟨(Nat.zero_le _), (Nat.zero_le _)⟩) hS hP hD rfl (fun _ => rfl) (fun _ => rfl) (fun u47 H locs w47 hP hD hS => ?_)
      have hP : va_P D vwCl [(ad 0, .inr (4, [.ref (ad 1), .ref (ad 7), .ref (ad 8), .ref (ad 9)])), (ad 1, .inr (0, [.int (nI (gV (liG c9 n9 g))), .int (nI (gC (liG c9 n9 g))), .int (nI (gE (liG c9 n9 g))), .int (ch + nI 1), .ref (ad 2), .ref (ad 3), .ref (ad 4), .ref (ad 5), .ref (ad 6)])), (ad 2, .inl (cy 0, 6, .inl (fun i => nI (gL (liG c9 n9 g) i)))), (ad 3, .inl (cy 0, 14, .inl (fun i => nI (gF g i)))), (ad 4, .inl (cy 0, 14, .inl (fun i => nI (gS g i)))), (ad 5, .inl (cy 0, 14, .inl (fun i => nI (gH g i)))), (ad 6, .inl (cy 0, 14, .inl (fun i => zI (gW g i))))] H := hP
      have hD : va_D (inW [(ad 0, .inr (4, [.ref (ad 1), .ref (ad 7), .ref (ad 8), .ref (ad 9)])), (ad 1, .inr (0, [.int (nI (gV g)), .int (nI (gC g)), .int (nI (gE g)), .int ch, .ref (ad 2), .ref (ad 3), .ref (ad 4), .ref (ad 5), .ref (ad 6)])), (ad 2, .inl (cy 0, 6, .inl (fun i => nI (gL g i)))), (ad 3, .inl (cy 0, 14, .inl (fun i => nI (gF g i)))), (ad 4, .inl (cy 0, 14, .inl (fun i => nI (gS g i)))), (ad 5, .inl (cy 0, 14, .inl (fun i => nI (gH g i)))), (ad 6, .inl (cy 0, 14, .inl (fun i => zI (gW g i))))]) [(ad 0, .inr (4, [.ref (ad 1), .ref (ad 7), .ref (ad 8), .ref (ad 9)])), (ad 1, .inr (0, [.int (nI (gV (liG c9 n9 g))), .int (nI (gC (liG c9 n9 g))), .int (nI (gE (liG c9 n9 g))), .int (ch + nI 1), .ref (ad 2), .ref (ad 3), .ref (ad 4), .ref (ad 5), .ref (ad 6)])), (ad 2, .inl (cy 0, 6, .inl (fun i => nI (gL (liG c9 n9 g) i)))), (ad 3, .inl (cy 0, 14, .inl (fun i => nI (gF g i)))), (ad 4, .inl (cy 0, 14, .inl (fun i => nI (gS g i)))), (ad 5, .inl (cy 0, 14, .inl (fun i => nI (gH g i)))), (ad 6, .inl (cy 0, 14, .inl (fun i => zI (gW g i))))] := hD
      exact wv_ret () hx hb hr hlocks hS hP trivial dX5_limit_50
    · have c28 := of_decide_eq_false c28
      exact absurd (wi_ok (Nat.zero_le _) hn9 (by decide)) c28
  · exact absurd (c8.symm.trans (isN_y hc9 (by omega))) (by decide)

set_option maxHeartbeats 4000000 in
set_option maxRecDepth 100000 in
theorem c_X5_weigh_0 (l : Launch) (D : va_G) (cy : Nat → ClassId) (ad : Nat → Nat) (ch : Int32) {g : GT} (hg : gOK g) {e : Nat} {w : Int} (he : e < gE g) (hw : -9999 ≤ w ∧ w ≤ 9999) : WV l yX5_weigh wsX5_weigh ({ frames := 2, cells := 0, slots := 0, locals := 43 }) D cy [.ref (ad 0), .int (nI e), .int (zI w)] [(ad 0, .inr (4, [.ref (ad 1), .ref (ad 7), .ref (ad 8), .ref (ad 9)])), (ad 1, .inr (0, [.int (nI (gV g)), .int (nI (gC g)), .int (nI (gE g)), .int ch, .ref (ad 2), .ref (ad 3), .ref (ad 4), .ref (ad 5), .ref (ad 6)])), (ad 2, .inl (cy 0, 6, .inl (fun i => nI (gL g i)))), (ad 3, .inl (cy 0, 14, .inl (fun i => nI (gF g i)))), (ad 4, .inl (cy 0, 14, .inl (fun i => nI (gS g i)))), (ad 5, .inl (cy 0, 14, .inl (fun i => nI (gH g i)))), (ad 6, .inl (cy 0, 14, .inl (fun i => zI (gW g i))))] (fun _ : Unit => True) (fun _ : Unit => [(ad 0, .inr (4, [.ref (ad 1), .ref (ad 7), .ref (ad 8), .ref (ad 9)])), (ad 1, .inr (0, [.int (nI (gV (weG e w g))), .int (nI (gC (weG e w g))), .int (nI (gE (weG e w g))), .int (ch + nI 1), .ref (ad 2), .ref (ad 3), .ref (ad 4), .ref (ad 5), .ref (ad 6)])), (ad 2, .inl (cy 0, 6, .inl (fun i => nI (gL g i)))), (ad 3, .inl (cy 0, 14, .inl (fun i => nI (gF g i)))), (ad 4, .inl (cy 0, 14, .inl (fun i => nI (gS g i)))), (ad 5, .inl (cy 0, 14, .inl (fun i => nI (gH g i)))), (ad 6, .inl (cy 0, 14, .inl (fun i => zI (gW (weG e w g) i))))]) := by
  refine Met.ofW (cc := cX5_weigh) (maxL := 3) (ret := none) (by decide) rfl ?_
  intro p ev s m args below meth c s₁ B hml hv
  obtain ⟨rfl, ⟨hK, hP⟩, hD0⟩ := hv
  have hx := B.exec
  have hb := B.bytes
  have hr := B.returns
  have hts := atoms_spec (ws := wsX5_weigh) B.pre
  have hown : s.vm.findClass RX5 = some m.cls := findClass_of_methodNamed B.named
  have hlocks := B.notSynchronized
  have hD : va_D (inW [(ad 0, .inr (4, [.ref (ad 1), .ref (ad 7), .ref (ad 8), .ref (ad 9)])), (ad 1, .inr (0, [.int (nI (gV g)), .int (nI (gC g)), .int (nI (gE g)), .int ch, .ref (ad 2), .ref (ad 3), .ref (ad 4), .ref (ad 5), .ref (ad 6)])), (ad 2, .inl (cy 0, 6, .inl (fun i => nI (gL g i)))), (ad 3, .inl (cy 0, 14, .inl (fun i => nI (gF g i)))), (ad 4, .inl (cy 0, 14, .inl (fun i => nI (gS g i)))), (ad 5, .inl (cy 0, 14, .inl (fun i => nI (gH g i)))), (ad 6, .inl (cy 0, 14, .inl (fun i => zI (gW g i))))]) ([(ad 0, .inr (4, [.ref (ad 1), .ref (ad 7), .ref (ad 8), .ref (ad 9)])), (ad 1, .inr (0, [.int (nI (gV g)), .int (nI (gC g)), .int (nI (gE g)), .int ch, .ref (ad 2), .ref (ad 3), .ref (ad 4), .ref (ad 5), .ref (ad 6)])), (ad 2, .inl (cy 0, 6, .inl (fun i => nI (gL g i)))), (ad 3, .inl (cy 0, 14, .inl (fun i => nI (gF g i)))), (ad 4, .inl (cy 0, 14, .inl (fun i => nI (gS g i)))), (ad 5, .inl (cy 0, 14, .inl (fun i => nI (gH g i)))), (ad 6, .inl (cy 0, 14, .inl (fun i => zI (gW g i))))]) := inW_self hD0
  have hS : va_S (inW [(ad 0, .inr (4, [.ref (ad 1), .ref (ad 7), .ref (ad 8), .ref (ad 9)])), (ad 1, .inr (0, [.int (nI (gV g)), .int (nI (gC g)), .int (nI (gE g)), .int ch, .ref (ad 2), .ref (ad 3), .ref (ad 4), .ref (ad 5), .ref (ad 6)])), (ad 2, .inl (cy 0, 6, .inl (fun i => nI (gL g i)))), (ad 3, .inl (cy 0, 14, .inl (fun i => nI (gF g i)))), (ad 4, .inl (cy 0, 14, .inl (fun i => nI (gS g i)))), (ad 5, .inl (cy 0, 14, .inl (fun i => nI (gH g i)))), (ad 6, .inl (cy 0, 14, .inl (fun i => zI (gW g i))))]) s.heap s.heap [] := va_S.rf
  have hP : va_P D vwCl [(ad 0, .inr (4, [.ref (ad 1), .ref (ad 7), .ref (ad 8), .ref (ad 9)])), (ad 1, .inr (0, [.int (nI (gV g)), .int (nI (gC g)), .int (nI (gE g)), .int ch, .ref (ad 2), .ref (ad 3), .ref (ad 4), .ref (ad 5), .ref (ad 6)])), (ad 2, .inl (cy 0, 6, .inl (fun i => nI (gL g i)))), (ad 3, .inl (cy 0, 14, .inl (fun i => nI (gF g i)))), (ad 4, .inl (cy 0, 14, .inl (fun i => nI (gS g i)))), (ad 5, .inl (cy 0, 14, .inl (fun i => nI (gH g i)))), (ad 6, .inl (cy 0, 14, .inl (fun i => zI (gW g i))))] s.heap := hP
  have inX5 : ∀ w ∈ wsX50, w ∈ wsX5_weigh := by decide +kernel
  have inX0 : ∀ w ∈ wsX00, w ∈ wsX5_weigh := by decide +kernel
  have hl := lv_entry ([.ref (ad 0), .int (nI e), .int (zI w)]) (n := 3) (Nat.le_of_ble_eq_true rfl)
  rw [lg_entry_eq]
  generalize (lg_sl ([.ref (ad 0), .int (nI e), .int (zI w)]) ++ List.replicate (3 - (lg_sl ([.ref (ad 0), .int (nI e), .int (zI w)])).length) Slot.unset).toArray = ls at hl ⊢
  have hl : lv_has ls 3 [(0, .ref (ad 0)), (1, .int (nI e)), (2, .int (zI w))] := hl
  have hgen := True.intro
  have hE := hg.2.2.1
  have hV := hg.1
  have hC := hg.2.1
  refine lv_aload_n hx hb dX5_weigh_0 rfl (lv_at hl 0 rfl) ?_
  refine va_get (D := D) (ci := 4) (v := .ref (ad 1)) (C := RX5) (T := TX5) (N := 4) hx hb hts inX5 hown hK.1 hP 0 rfl rfl 0 (by decide) (hts (.fieldLink RX5 10 "ColourForests" "graph" "LColourForests$Graph;") (List.mem_of_getElem? (i := 5) rfl)) (fun _ h9 => h9) rfl dX5_weigh_1 ?_
  refine lv_iload_n hx hb dX5_weigh_4 rfl (lv_at hl 1 rfl) ?_
  refine pu_call (va_runV (As := [.int (nI e)]) (rest := []) ⟨hx, hb, hml, hown, hts⟩ (c_X0_hasEdge l D cy ad ch hg ((nI e))) (cwV 1 hts gX5_weigh_X0_hasEdge rfl rfl rfl (by decide +kernel) ⟨Nat.le_of_ble_eq_true rfl, Nat.le_of_ble_eq_true rfl⟩) (PU_preV (ci := 0) (q0 := 1) hK hP 0 rfl rfl [1, 2, 3, 4, 5, 6] rfl) rfl rfl hl.1 rfl (lv_room (Nat.le_of_ble_eq_true rfl)) dX5_weigh_5 ⟨(Nat.zero_le _), (Nat.zero_le _)⟩) hS hP (fun H locs hP hS => ?_)
  refine b_ne (b := (isN ((nI e)) (gE g))) (tgt := 21) hx hb dX5_weigh_8 (by decide) (fun c8 => ?_) (fun c8 => ?_)
  · refine lv_iload_n hx hb dX5_weigh_21 rfl (lv_at hl 2 rfl) ?_
    refine pu_call (va_runS (As := [.int (zI w)]) (rest := []) ⟨hx, hb, hml, hown, hts⟩ (c_X5_isWeight l D cy (zI w)) (va_cwS 1 hts gX5_weigh_X5_isWeight rfl rfl rfl (by decide +kernel) ⟨Nat.le_of_ble_eq_true rfl, Nat.le_of_ble_eq_true rfl⟩) (PU_preS hK hP [] rfl) rfl rfl hl.1 rfl (lv_room (Nat.le_of_ble_eq_true rfl)) dX5_weigh_22 ⟨(Nat.zero_le _), (Nat.zero_le _)⟩) hS hP (fun H locs hP hS => ?_)
    refine b_ne (b := (isW (zI w))) (tgt := 38) hx hb dX5_weigh_25 (by decide) (fun c25 => ?_) (fun c25 => ?_)
    · refine lv_aload_n hx hb dX5_weigh_38 rfl (lv_at hl 0 rfl) ?_
      refine va_get (D := D) (ci := 4) (v := .ref (ad 1)) (C := RX5) (T := TX5) (N := 4) hx hb hts inX5 hown hK.1 hP 0 rfl rfl 0 (by decide) (hts (.fieldLink RX5 10 "ColourForests" "graph" "LColourForests$Graph;") (List.mem_of_getElem? (i := 5) rfl)) (fun _ h9 => h9) rfl dX5_weigh_39 ?_
      refine lv_iload_n hx hb dX5_weigh_42 rfl (lv_at hl 1 rfl) ?_
      refine lv_iload_n hx hb dX5_weigh_43 rfl (lv_at hl 2 rfl) ?_
      refine wr_callv [1, 6] (va_runV (As := [.int (nI e), .int (zI w)]) (rest := []) ⟨hx, hb, hml, hown, hts⟩ (c_X0_setWeight l D cy ad ch g (e := e) (w := w) (by omega)) (cwV 2 hts gX5_weigh_X0_setWeight rfl rfl rfl (by decide +kernel) ⟨Nat.le_of_ble_eq_true rfl, Nat.le_of_ble_eq_true rfl⟩) (WR_preV (ci := 0) (q0 := 1) hK hP hD rfl rfl [1, 6] (by decide) rfl rfl) rfl rfl hl.1 rfl (lv_room (Nat.le_of_ble_eq_true rfl)) dX5_weigh_44 ⟨(Nat.zero_le _), (Nat.zero_le _)⟩) hS hP hD rfl (fun _ => rfl) (fun _ => rfl) (fun u44 H locs w44 hP hD hS => ?_)
      have hP : va_P D vwCl [(ad 0, .inr (4, [.ref (ad 1), .ref (ad 7), .ref (ad 8), .ref (ad 9)])), (ad 1, .inr (0, [.int (nI (gV (weG e w g))), .int (nI (gC (weG e w g))), .int (nI (gE (weG e w g))), .int (ch + nI 1), .ref (ad 2), .ref (ad 3), .ref (ad 4), .ref (ad 5), .ref (ad 6)])), (ad 2, .inl (cy 0, 6, .inl (fun i => nI (gL g i)))), (ad 3, .inl (cy 0, 14, .inl (fun i => nI (gF g i)))), (ad 4, .inl (cy 0, 14, .inl (fun i => nI (gS g i)))), (ad 5, .inl (cy 0, 14, .inl (fun i => nI (gH g i)))), (ad 6, .inl (cy 0, 14, .inl (fun i => zI (gW (weG e w g) i))))] H := hP
      have hD : va_D (inW [(ad 0, .inr (4, [.ref (ad 1), .ref (ad 7), .ref (ad 8), .ref (ad 9)])), (ad 1, .inr (0, [.int (nI (gV g)), .int (nI (gC g)), .int (nI (gE g)), .int ch, .ref (ad 2), .ref (ad 3), .ref (ad 4), .ref (ad 5), .ref (ad 6)])), (ad 2, .inl (cy 0, 6, .inl (fun i => nI (gL g i)))), (ad 3, .inl (cy 0, 14, .inl (fun i => nI (gF g i)))), (ad 4, .inl (cy 0, 14, .inl (fun i => nI (gS g i)))), (ad 5, .inl (cy 0, 14, .inl (fun i => nI (gH g i)))), (ad 6, .inl (cy 0, 14, .inl (fun i => zI (gW g i))))]) [(ad 0, .inr (4, [.ref (ad 1), .ref (ad 7), .ref (ad 8), .ref (ad 9)])), (ad 1, .inr (0, [.int (nI (gV (weG e w g))), .int (nI (gC (weG e w g))), .int (nI (gE (weG e w g))), .int (ch + nI 1), .ref (ad 2), .ref (ad 3), .ref (ad 4), .ref (ad 5), .ref (ad 6)])), (ad 2, .inl (cy 0, 6, .inl (fun i => nI (gL g i)))), (ad 3, .inl (cy 0, 14, .inl (fun i => nI (gF g i)))), (ad 4, .inl (cy 0, 14, .inl (fun i => nI (gS g i)))), (ad 5, .inl (cy 0, 14, .inl (fun i => nI (gH g i)))), (ad 6, .inl (cy 0, 14, .inl (fun i => zI (gW (weG e w g) i))))] := hD
      exact wv_ret () hx hb hr hlocks hS hP trivial dX5_weigh_47
    · exact absurd (c25.symm.trans (isW_z hw)) (by decide)
  · exact absurd (c8.symm.trans (isN_y he (by omega))) (by decide)

set_option maxHeartbeats 4000000 in
set_option maxRecDepth 100000 in
theorem c_X5_weight_yes (l : Launch) (D : va_G) (cy : Nat → ClassId) (ad : Nat → Nat) (ch : Int32) {g : GT} (hg : gOK g) {sn wf cs ms wd : Int32} {fd fw fp frm ft : Nat → Int32} (hv9 : sn = ch → wf = nI (sF g (2 ^ gE g)) ∧ cs = nI (nP (co g) (2 ^ gE g)) ∧ ms = nI (mo g (2 ^ gE g)) ∧ wd = nI (sW g (2 ^ gE g)) ∧ tabs g (2 ^ gE g) fd fw) {k9 : Nat} (hk9 : k9 ≤ moA g) : WI l yX5_weight wsX5_weight ({ frames := 5, cells := 0, slots := 0, locals := 117 }) D cy [.ref (ad 0), .int (nI k9)] (wX cy ad ch g sn wf cs ms wd fd fw fp frm ft) (fun (r : Int32) (u : (Nat → Int32) × (Nat → Int32) × (Nat → Int32) × (Nat → Int32) × (Nat → Int32)) => r = zI (wB g k9) ∧ tabs g (2 ^ gE g) u.1 u.2.1) (fun u : (Nat → Int32) × (Nat → Int32) × (Nat → Int32) × (Nat → Int32) × (Nat → Int32) => wX cy ad ch g ch (nI (sF g (2 ^ gE g))) (nI (nP (co g) (2 ^ gE g))) (nI (mo g (2 ^ gE g))) (nI (sW g (2 ^ gE g))) u.1 u.2.1 u.2.2.1 u.2.2.2.1 u.2.2.2.2) := by
  refine Met.ofW (cc := cX5_weight) (maxL := 2) (ret := (some .int)) (by decide) rfl ?_
  intro p ev s m args below meth c s₁ B hml hv
  obtain ⟨rfl, ⟨hK, hP⟩, hD0⟩ := hv
  have hx := B.exec
  have hb := B.bytes
  have hr := B.returns
  have hts := atoms_spec (ws := wsX5_weight) B.pre
  have hown : s.vm.findClass RX5 = some m.cls := findClass_of_methodNamed B.named
  have hlocks := B.notSynchronized
  have hD : va_D (inW (wX cy ad ch g sn wf cs ms wd fd fw fp frm ft)) (wX cy ad ch g sn wf cs ms wd fd fw fp frm ft) := inW_self hD0
  have hS : va_S (inW (wX cy ad ch g sn wf cs ms wd fd fw fp frm ft)) s.heap s.heap [] := va_S.rf
  have hP : va_P D vwCl (wX cy ad ch g sn wf cs ms wd fd fw fp frm ft) s.heap := hP
  have inX5 : ∀ w ∈ wsX50, w ∈ wsX5_weight := by decide +kernel
  have inX4 : ∀ w ∈ wsX40, w ∈ wsX5_weight := by decide +kernel
  have hl := lv_entry ([.ref (ad 0), .int (nI k9)]) (n := 2) (Nat.le_of_ble_eq_true rfl)
  rw [lg_entry_eq]
  generalize (lg_sl ([.ref (ad 0), .int (nI k9)]) ++ List.replicate (2 - (lg_sl ([.ref (ad 0), .int (nI k9)])).length) Slot.unset).toArray = ls at hl ⊢
  have hl : lv_has ls 2 [(0, .ref (ad 0)), (1, .int (nI k9))] := hl
  have hgen := True.intro
  have hE := hg.2.2.1
  have hV := hg.1
  have hC := hg.2.1
  have hS8 : 2 ^ gE g ≤ 2 ^ 14 := Nat.pow_le_pow_right (by decide) hE
  have hmo := mo_le g hg
  have hme : mo g (2 ^ gE g) = moA g := rfl
  refine lv_aload_n hx hb dX5_weight_0 rfl (lv_at hl 0 rfl) ?_
  refine va_get (D := D) (ci := 4) (v := .ref (ad 9)) (C := RX5) (T := TX5) (N := 4) hx hb hts inX5 hown hK.1 hP 0 rfl rfl 3 (by decide) (hts (.fieldLink RX5 34 "ColourForests" "survey" "LColourForests$Survey;") (List.mem_of_getElem? (i := 3) rfl)) (fun _ h9 => h9) rfl dX5_weight_1 ?_
  refine wr_callv [3, 4, 5, 6, 7, 8, 9, 10, 11, 12, 13, 14] (va_runV (As := []) (rest := []) ⟨hx, hb, hml, hown, hts⟩ (c_X4_refresh l D cy ad ch hg (sn := sn) (wf := wf) (cs := cs) (ms := ms) (wd := wd) (fd := fd) (fw := fw) (fp := fp) (frm := frm) (ft := ft) hv9) (cwV 0 hts gX5_weight_X4_refresh rfl rfl rfl (by decide +kernel) ⟨Nat.le_of_ble_eq_true rfl, Nat.le_of_ble_eq_true rfl⟩) (WR_preV (ci := 3) (q0 := 3) hK hP hD rfl rfl [3, 4, 5, 6, 7, 8, 9, 10, 11, 12, 13, 14] (by decide) rfl rfl) rfl rfl hl.1 rfl (lv_room (Nat.le_of_ble_eq_true rfl)) dX5_weight_4 ⟨(Nat.zero_le _), (Nat.zero_le _)⟩) hS hP hD rfl (fun _ => rfl) (fun _ => rfl) (fun u4 H locs w4 hP hD hS => ?_)
  have hP : va_P D vwCl [(ad 0, .inr (4, [.ref (ad 1), .ref (ad 7), .ref (ad 8), .ref (ad 9)])), (ad 7, .inr (2, [.ref (ad 1)])), (ad 8, .inr (1, [.ref (ad 1)])), (ad 9, .inr (3, [.ref (ad 1), .int ch, .int (nI (sF g (2 ^ gE g))), .int (nI (nP (co g) (2 ^ gE g))), .int (nI (mo g (2 ^ gE g))), .ref (ad 10), .ref (ad 11), .int (nI (sW g (2 ^ gE g))), .ref (ad 12), .ref (ad 13), .ref (ad 14)])), (ad 10, .inl (cy 0, 8, .inl u4.1)), (ad 11, .inl (cy 0, 8, .inl u4.2.1)), (ad 12, .inl (cy 0, 15, .inl u4.2.2.1)), (ad 13, .inl (cy 0, 15, .inl u4.2.2.2.1)), (ad 14, .inl (cy 0, 15, .inl u4.2.2.2.2)), (ad 1, .inr (0, [.int (nI (gV g)), .int (nI (gC g)), .int (nI (gE g)), .int ch, .ref (ad 2), .ref (ad 3), .ref (ad 4), .ref (ad 5), .ref (ad 6)])), (ad 2, .inl (cy 0, 6, .inl (fun i => nI (gL g i)))), (ad 3, .inl (cy 0, 14, .inl (fun i => nI (gF g i)))), (ad 4, .inl (cy 0, 14, .inl (fun i => nI (gS g i)))), (ad 5, .inl (cy 0, 14, .inl (fun i => nI (gH g i)))), (ad 6, .inl (cy 0, 14, .inl (fun i => zI (gW g i))))] H := hP
  have hD : va_D (inW (wX cy ad ch g sn wf cs ms wd fd fw fp frm ft)) [(ad 0, .inr (4, [.ref (ad 1), .ref (ad 7), .ref (ad 8), .ref (ad 9)])), (ad 7, .inr (2, [.ref (ad 1)])), (ad 8, .inr (1, [.ref (ad 1)])), (ad 9, .inr (3, [.ref (ad 1), .int ch, .int (nI (sF g (2 ^ gE g))), .int (nI (nP (co g) (2 ^ gE g))), .int (nI (mo g (2 ^ gE g))), .ref (ad 10), .ref (ad 11), .int (nI (sW g (2 ^ gE g))), .ref (ad 12), .ref (ad 13), .ref (ad 14)])), (ad 10, .inl (cy 0, 8, .inl u4.1)), (ad 11, .inl (cy 0, 8, .inl u4.2.1)), (ad 12, .inl (cy 0, 15, .inl u4.2.2.1)), (ad 13, .inl (cy 0, 15, .inl u4.2.2.2.1)), (ad 14, .inl (cy 0, 15, .inl u4.2.2.2.2)), (ad 1, .inr (0, [.int (nI (gV g)), .int (nI (gC g)), .int (nI (gE g)), .int ch, .ref (ad 2), .ref (ad 3), .ref (ad 4), .ref (ad 5), .ref (ad 6)])), (ad 2, .inl (cy 0, 6, .inl (fun i => nI (gL g i)))), (ad 3, .inl (cy 0, 14, .inl (fun i => nI (gF g i)))), (ad 4, .inl (cy 0, 14, .inl (fun i => nI (gS g i)))), (ad 5, .inl (cy 0, 14, .inl (fun i => nI (gH g i)))), (ad 6, .inl (cy 0, 14, .inl (fun i => zI (gW g i))))] := hD
  have htb : tabs g (2 ^ gE g) u4.1 u4.2.1 := w4
  refine lv_aload_n hx hb dX5_weight_7 rfl (lv_at hl 0 rfl) ?_
  refine va_get (D := D) (ci := 4) (v := .ref (ad 9)) (C := RX5) (T := TX5) (N := 4) hx hb hts inX5 hown hK.1 hP 0 rfl rfl 3 (by decide) (hts (.fieldLink RX5 34 "ColourForests" "survey" "LColourForests$Survey;") (List.mem_of_getElem? (i := 3) rfl)) (fun _ h9 => h9) rfl dX5_weight_8 ?_
  refine lv_iload_n hx hb dX5_weight_11 rfl (lv_at hl 1 rfl) ?_
  refine pu_call (va_runV (As := [.int (nI k9)]) (rest := []) ⟨hx, hb, hml, hown, hts⟩ (c_X4_hasSize l D cy ad ch (nI (sF g (2 ^ gE g))) (nI (nP (co g) (2 ^ gE g))) (nI (sW g (2 ^ gE g))) (m9 := mo g (2 ^ gE g)) (by omega) ((nI k9))) (cwV 1 hts gX5_weight_X4_hasSize rfl rfl rfl (by decide +kernel) ⟨Nat.le_of_ble_eq_true rfl, Nat.le_of_ble_eq_true rfl⟩) (PU_preV (ci := 3) (q0 := 3) hK hP 0 rfl rfl [3] rfl) rfl rfl hl.1 rfl (lv_room (Nat.le_of_ble_eq_true rfl)) dX5_weight_12 ⟨(Nat.zero_le _), (Nat.zero_le _)⟩) hS hP (fun H locs hP hS => ?_)
  refine b_ne (b := (isN ((nI k9)) (mo g (2 ^ gE g) + 1))) (tgt := 28) hx hb dX5_weight_15 (by decide) (fun c15 => ?_) (fun c15 => ?_)
  · refine lv_aload_n hx hb dX5_weight_28 rfl (lv_at hl 0 rfl) ?_
    refine va_get (D := D) (ci := 4) (v := .ref (ad 9)) (C := RX5) (T := TX5) (N := 4) hx hb hts inX5 hown hK.1 hP 0 rfl rfl 3 (by decide) (hts (.fieldLink RX5 34 "ColourForests" "survey" "LColourForests$Survey;") (List.mem_of_getElem? (i := 3) rfl)) (fun _ h9 => h9) rfl dX5_weight_29 ?_
    refine va_get (D := D) (ci := 3) (v := .ref (ad 11)) (C := RX4) (T := TX4) (N := 11) hx hb hts inX4 hown hK.1 hP 3 rfl rfl 6 (by decide) (hts (.fieldLink RX5 151 "ColourForests$Survey" "dearestWeights" "[I") (List.mem_of_getElem? (i := 4) rfl)) (fun _ h9 => h9) rfl dX5_weight_32 ?_
    refine lv_iload_n hx hb dX5_weight_35 rfl (lv_at hl 1 rfl) ?_
    refine rd_i (k := k9) (v := (zI (wB g k9))) hx hb hK hP 5 rfl (by omega) (by decide) (tabs_ds hg htb hk9).2 dX5_weight_36 ?_
    exact wi_ret u4 hx hb hr hlocks hS hP ⟨rfl, htb⟩ dX5_weight_37
  · exact absurd (c15.symm.trans (isN_y (by omega) (by omega))) (by decide)
