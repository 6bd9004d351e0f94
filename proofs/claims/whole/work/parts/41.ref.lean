set_option maxHeartbeats 4000000 in
set_option maxRecDepth 100000 in
theorem c_X6_thrown (l : Launch) (D : va_G) (cy : Nat → ClassId) (ad : Nat → Nat) {g : GT} (th kn ms : Int32) : PU l yX6_thrown wsX6_thrown ({ frames := 0, cells := 0, slots := 0, locals := 0 }) D cy [.ref (ad 20)] [(ad 20, .inr (5, [.int th, .int (nI (gV g)), .int (nI (gC g)), .int (nI (gE g)), .ref (ad 21), .ref (ad 22), .ref (ad 23), .ref (ad 24), .ref (ad 25), .int kn, .ref (ad 26), .ref (ad 27), .ref (ad 28), .int ms, .ref (ad 29), .ref (ad 30)]))] (th) := by
  refine Met.ofW (cc := cX6_thrown) (maxL := 1) (ret := (some .int)) (by decide) rfl ?_
  intro p ev s m args below meth c s₁ B hml hv
  obtain ⟨rfl, hK, hP⟩ := hv
  have hx := B.exec
  have hb := B.bytes
  have hr := B.returns
  have hts := atoms_spec (ws := wsX6_thrown) B.pre
  have hown : s.vm.findClass RX6 = some m.cls := findClass_of_methodNamed B.named
  have hlocks := B.notSynchronized
  have hS : va_S (fun _ => False) s.heap s.heap [] := va_S.rf
  have hP : va_P D vwCl [(ad 20, .inr (5, [.int th, .int (nI (gV g)), .int (nI (gC g)), .int (nI (gE g)), .ref (ad 21), .ref (ad 22), .ref (ad 23), .ref (ad 24), .ref (ad 25), .int kn, .ref (ad 26), .ref (ad 27), .ref (ad 28), .int ms, .ref (ad 29), .ref (ad 30)]))] s.heap := hP
  have inX6 : ∀ w ∈ wsX60, w ∈ wsX6_thrown := by decide +kernel
  have hl := lv_entry ([.ref (ad 20)]) (n := 1) (Nat.le_of_ble_eq_true rfl)
  rw [lg_entry_eq]
  generalize (lg_sl ([.ref (ad 20)]) ++ List.replicate (1 - (lg_sl ([.ref (ad 20)])).length) Slot.unset).toArray = ls at hl ⊢
  have hl : lv_has ls 1 [(0, .ref (ad 20))] := hl
  have hgen := True.intro
  refine lv_aload_n hx hb dX6_thrown_0 rfl (lv_at hl 0 rfl) ?_
  refine va_get (D := D) (ci := 5) (v := .int th) (C := RX6) (T := TX6) (N := 16) hx hb hts inX6 hown hK.1 hP 0 rfl rfl 0 (by decide) (hts (.fieldLink RX6 49 "ColourForestsModel" "thrown" "I") (List.mem_of_getElem? (i := 1) rfl)) (fun _ h9 => h9) rfl dX6_thrown_1 ?_
  exact pu_iret (y := yX6_thrown) hx hb hr hlocks hS (by first | rfl | (simp [bI, *]; done) | (simp_all [bI]; done)) dX6_thrown_4

set_option maxHeartbeats 4000000 in
set_option maxRecDepth 100000 in
theorem c_X6_refuses (l : Launch) (D : va_G) (cy : Nat → ClassId) (ad : Nat → Nat) (g : GT) (th kn ms : Int32) (y9 : Int32) : WI l yX6_refuses wsX6_refuses ({ frames := 0, cells := 0, slots := 0, locals := 0 }) D cy [.ref (ad 20), .int y9] [(ad 20, .inr (5, [.int th, .int (nI (gV g)), .int (nI (gC g)), .int (nI (gE g)), .ref (ad 21), .ref (ad 22), .ref (ad 23), .ref (ad 24), .ref (ad 25), .int kn, .ref (ad 26), .ref (ad 27), .ref (ad 28), .int ms, .ref (ad 29), .ref (ad 30)]))] (fun (r : Int32) (_ : Unit) => r = bI (!decide (y9 ≤ 0))) (fun _ : Unit => [(ad 20, .inr (5, [.int y9, .int (nI (gV g)), .int (nI (gC g)), .int (nI (gE g)), .ref (ad 21), .ref (ad 22), .ref (ad 23), .ref (ad 24), .ref (ad 25), .int kn, .ref (ad 26), .ref (ad 27), .ref (ad 28), .int ms, .ref (ad 29), .ref (ad 30)]))]) := by
  refine Met.ofW (cc := cX6_refuses) (maxL := 2) (ret := (some .boolean)) (by decide) rfl ?_
  intro p ev s m args below meth c s₁ B hml hv
  obtain ⟨rfl, ⟨hK, hP⟩, hD0⟩ := hv
  have hx := B.exec
  have hb := B.bytes
  have hr := B.returns
  have hts := atoms_spec (ws := wsX6_refuses) B.pre
  have hown : s.vm.findClass RX6 = some m.cls := findClass_of_methodNamed B.named
  have hlocks := B.notSynchronized
  have hD : va_D (inW [(ad 20, .inr (5, [.int th, .int (nI (gV g)), .int (nI (gC g)), .int (nI (gE g)), .ref (ad 21), .ref (ad 22), .ref (ad 23), .ref (ad 24), .ref (ad 25), .int kn, .ref (ad 26), .ref (ad 27), .ref (ad 28), .int ms, .ref (ad 29), .ref (ad 30)]))]) ([(ad 20, .inr (5, [.int th, .int (nI (gV g)), .int (nI (gC g)), .int (nI (gE g)), .ref (ad 21), .ref (ad 22), .ref (ad 23), .ref (ad 24), .ref (ad 25), .int kn, .ref (ad 26), .ref (ad 27), .ref (ad 28), .int ms, .ref (ad 29), .ref (ad 30)]))]) := inW_self hD0
  have hS : va_S (inW [(ad 20, .inr (5, [.int th, .int (nI (gV g)), .int (nI (gC g)), .int (nI (gE g)), .ref (ad 21), .ref (ad 22), .ref (ad 23), .ref (ad 24), .ref (ad 25), .int kn, .ref (ad 26), .ref (ad 27), .ref (ad 28), .int ms, .ref (ad 29), .ref (ad 30)]))]) s.heap s.heap [] := va_S.rf
  have hP : va_P D vwCl [(ad 20, .inr (5, [.int th, .int (nI (gV g)), .int (nI (gC g)), .int (nI (gE g)), .ref (ad 21), .ref (ad 22), .ref (ad 23), .ref (ad 24), .ref (ad 25), .int kn, .ref (ad 26), .ref (ad 27), .ref (ad 28), .int ms, .ref (ad 29), .ref (ad 30)]))] s.heap := hP
  have inX6 : ∀ w ∈ wsX60, w ∈ wsX6_refuses := by decide +kernel
  have hl := lv_entry ([.ref (ad 20), .int y9]) (n := 2) (Nat.le_of_ble_eq_true rfl)
  rw [lg_entry_eq]
  generalize (lg_sl ([.ref (ad 20), .int y9]) ++ List.replicate (2 - (lg_sl ([.ref (ad 20), .int y9])).length) Slot.unset).toArray = ls at hl ⊢
  have hl : lv_has ls 2 [(0, .ref (ad 20)), (1, .int y9)] := hl
  have hgen := True.intro
  refine lv_aload_n hx hb dX6_refuses_0 rfl (lv_at hl 0 rfl) ?_
  refine lv_iload_n hx hb dX6_refuses_1 rfl (lv_at hl 1 rfl) ?_
  refine va_put (D := D) (ci := 5) (v := .int y9) (ty := .int) (C := RX6) (T := TX6) (N := 16) hx hb hts inX6 tyX6 tyX6_ok nmX6 hown hK.1 hP hD hS 0 rfl rfl 0 (by decide) (hts (.fieldLink RX6 49 "ColourForestsModel" "thrown" "I") (List.mem_of_getElem? (i := 1) rfl)) (fun _ h9 => h9) rfl (by decide +kernel) rfl rfl (Nat.le_of_ble_eq_true rfl) dX6_refuses_2 (fun H locs hP hD hS => ?_)
  have hP : va_P D vwCl [(ad 20, .inr (5, [.int y9, .int (nI (gV g)), .int (nI (gC g)), .int (nI (gE g)), .ref (ad 21), .ref (ad 22), .ref (ad 23), .ref (ad 24), .ref (ad 25), .int kn, .ref (ad 26), .ref (ad 27), .ref (ad 28), .int ms, .ref (ad 29), .ref (ad 30)]))] H := hP
  have hD : va_D (inW [(ad 20, .inr (5, [.int th, .int (nI (gV g)), .int (nI (gC g)), .int (nI (gE g)), .ref (ad 21), .ref (ad 22), .ref (ad 23), .ref (ad 24), .ref (ad 25), .int kn, .ref (ad 26), .ref (ad 27), .ref (ad 28), .int ms, .ref (ad 29), .ref (ad 30)]))]) [(ad 20, .inr (5, [.int y9, .int (nI (gV g)), .int (nI (gC g)), .int (nI (gE g)), .ref (ad 21), .ref (ad 22), .ref (ad 23), .ref (ad 24), .ref (ad 25), .int kn, .ref (ad 26), .ref (ad 27), .ref (ad 28), .int ms, .ref (ad 29), .ref (ad 30)]))] := hD
  refine lv_iload_n hx hb dX6_refuses_5 rfl (lv_at hl 1 rfl) ?_
  refine lv_if_le (tgt := 13) hx hb dX6_refuses_6 (by decide) (fun c6 => ?_) (fun c6 => ?_)
  · refine lv_iconst (v := nI 0) hx hb dX6_refuses_13 (by decide) ?_
    exact wz_ret () hx hb hr hlocks hS hP (b := !decide (y9 ≤ 0)) (by first | (rw [decide_eq_true c6]; rfl) | (rw [decide_eq_false c6]; rfl)) (by first | (rw [decide_eq_true c6]; rfl) | (rw [decide_eq_false c6]; rfl)) dX6_refuses_14
  · refine lv_iconst (v := nI 1) hx hb dX6_refuses_9 (by decide) ?_
    refine lv_goto (tgt := 14) hx hb dX6_refuses_10 (by decide) ?_
    exact wz_ret () hx hb hr hlocks hS hP (b := !decide (y9 ≤ 0)) (by first | (rw [decide_eq_true c6]; rfl) | (rw [decide_eq_false c6]; rfl)) (by first | (rw [decide_eq_true c6]; rfl) | (rw [decide_eq_false c6]; rfl)) dX6_refuses_14

set_option maxHeartbeats 4000000 in
set_option maxRecDepth 100000 in
theorem c_X6_isHeavy (l : Launch) (D : va_G) (cy : Nat → ClassId) (x : Int32) : PU l yX6_isHeavy wsX6_isHeavy ({ frames := 0, cells := 0, slots := 0, locals := 0 }) D cy [.int x] [] ((bI (!isW x))) := by
  refine Met.ofW (cc := cX6_isHeavy) (maxL := 1) (ret := (some .boolean)) (by decide) rfl ?_
  intro p ev s m args below meth c s₁ B hml hv
  obtain ⟨rfl, hK, hP⟩ := hv
  have hx := B.exec
  have hb := B.bytes
  have hr := B.returns
  have hts := atoms_spec (ws := wsX6_isHeavy) B.pre
  have hown : s.vm.findClass RX6 = some m.cls := findClass_of_methodNamed B.named
  have hlocks := B.notSynchronized
  have hS : va_S (fun _ => False) s.heap s.heap [] := va_S.rf
  have hP : va_P D vwCl [] s.heap := hP
  have hl := lv_entry ([.int x]) (n := 1) (Nat.le_of_ble_eq_true rfl)
  rw [lg_entry_eq]
  generalize (lg_sl ([.int x]) ++ List.replicate (1 - (lg_sl ([.int x])).length) Slot.unset).toArray = ls at hl ⊢
  have hl : lv_has ls 1 [(0, .int x)] := hl
  have hgen := True.intro
  refine lv_iload_n hx hb dX6_isHeavy_0 rfl (lv_at hl 0 rfl) ?_
  refine lv_sipush (v := zI (-9999)) hx hb dX6_isHeavy_1 (by decide) ?_
  refine lv_icmp_lt (tgt := 14) hx hb dX6_isHeavy_4 (by decide) (fun c4 => ?_) (fun c4 => ?_)
  · refine lv_iconst (v := nI 1) hx hb dX6_isHeavy_14 (by decide) ?_
    refine lv_goto (tgt := 19) hx hb dX6_isHeavy_15 (by decide) ?_
    exact pu_zret hx hb hr hlocks hS (hv_ok x (by first | exact Or.inl ⟨c4, rfl⟩ | exact Or.inr (Or.inl ⟨c4, c11, rfl⟩) | exact Or.inr (Or.inr ⟨c4, c11, rfl⟩))) dX6_isHeavy_19
  · refine lv_iload_n hx hb dX6_isHeavy_7 rfl (lv_at hl 0 rfl) ?_
    refine lv_sipush (v := nI 9999) hx hb dX6_isHeavy_8 (by decide) ?_
    refine lv_icmp_le (tgt := 18) hx hb dX6_isHeavy_11 (by decide) (fun c11 => ?_) (fun c11 => ?_)
    · refine lv_iconst (v := nI 0) hx hb dX6_isHeavy_18 (by decide) ?_
      exact pu_zret hx hb hr hlocks hS (hv_ok x (by first | exact Or.inl ⟨c4, rfl⟩ | exact Or.inr (Or.inl ⟨c4, c11, rfl⟩) | exact Or.inr (Or.inr ⟨c4, c11, rfl⟩))) dX6_isHeavy_19
    · refine lv_iconst (v := nI 1) hx hb dX6_isHeavy_14 (by decide) ?_
      refine lv_goto (tgt := 19) hx hb dX6_isHeavy_15 (by decide) ?_
      exact pu_zret hx hb hr hlocks hS (hv_ok x (by first | exact Or.inl ⟨c4, rfl⟩ | exact Or.inr (Or.inl ⟨c4, c11, rfl⟩) | exact Or.inr (Or.inr ⟨c4, c11, rfl⟩))) dX6_isHeavy_19

set_option maxHeartbeats 4000000 in
set_option maxRecDepth 100000 in
theorem c_X6_has (l : Launch) (D : va_G) (cy : Nat → ClassId) {S e : Nat} (hS9 : S < 2 ^ 31) (he9 : e < 32) : PU l yX6_has wsX6_has ({ frames := 0, cells := 0, slots := 0, locals := 0 }) D cy [.int (nI S), .int (nI e)] [] ((bI (S.testBit e))) := by
  refine Met.ofW (cc := cX6_has) (maxL := 2) (ret := (some .boolean)) (by decide) rfl ?_
  intro p ev s m args below meth c s₁ B hml hv
  obtain ⟨rfl, hK, hP⟩ := hv
  have hx := B.exec
  have hb := B.bytes
  have hr := B.returns
  have hts := atoms_spec (ws := wsX6_has) B.pre
  have hown : s.vm.findClass RX6 = some m.cls := findClass_of_methodNamed B.named
  have hlocks := B.notSynchronized
  have hS : va_S (fun _ => False) s.heap s.heap [] := va_S.rf
  have hP : va_P D vwCl [] s.heap := hP
  have hl := lv_entry ([.int (nI S), .int (nI e)]) (n := 2) (Nat.le_of_ble_eq_true rfl)
  rw [lg_entry_eq]
  generalize (lg_sl ([.int (nI S), .int (nI e)]) ++ List.replicate (2 - (lg_sl ([.int (nI S), .int (nI e)])).length) Slot.unset).toArray = ls at hl ⊢
  have hl : lv_has ls 2 [(0, .int (nI S)), (1, .int (nI e))] := hl
  have hgen := True.intro
  refine lv_iload_n hx hb dX6_has_0 rfl (lv_at hl 0 rfl) ?_
  refine lv_iload_n hx hb dX6_has_1 rfl (lv_at hl 1 rfl) ?_
  refine lv_ishr hx hb dX6_has_2 ?_
  refine lv_as (y := (nI S >>> (nI e &&& 31))) rfl ?_
  refine lv_iconst (v := nI 1) hx hb dX6_has_3 (by decide) ?_
  refine lv_iand hx hb dX6_has_4 ?_
  refine lv_as (y := (bI (S.testBit e))) (hb_of2 hS9 he9) ?_
  refine lv_iconst (v := nI 1) hx hb dX6_has_5 (by decide) ?_
  refine lv_icmp_ne (tgt := 13) hx hb dX6_has_6 (by decide) (fun c6 => ?_) (fun c6 => ?_)
  · have c6 : S.testBit e = false := by cases h : S.testBit e; rfl; exact absurd (by rw [h]; rfl) c6
    refine lv_iconst (v := nI 0) hx hb dX6_has_13 (by decide) ?_
    exact pu_zret hx hb hr hlocks hS (by rw [c6]; rfl) dX6_has_14
  · have c6 : S.testBit e = true := by cases h : S.testBit e; (rw [h] at c6; exact absurd c6 (by decide)); rfl
    refine lv_iconst (v := nI 1) hx hb dX6_has_9 (by decide) ?_
    refine lv_goto (tgt := 14) hx hb dX6_has_10 (by decide) ?_
    exact pu_zret hx hb hr hlocks hS (by rw [c6]; rfl) dX6_has_14

set_option maxHeartbeats 4000000 in
set_option maxRecDepth 100000 in
theorem c_X6_size (l : Launch) (D : va_G) (cy : Nat → ClassId) {S : Nat} (hS9 : S < 16384) : PU l yX6_size wsX6_size ({ frames := 0, cells := 0, slots := 0, locals := 0 }) D cy [.int (nI S)] [] ((nI (ms_card 14 S))) := by
  refine Met.ofW (cc := cX6_size) (maxL := 3) (ret := (some .int)) (by decide) rfl ?_
  intro p ev s m args below meth c s₁ B hml hv
  obtain ⟨rfl, hK, hP⟩ := hv
  have hx := B.exec
  have hb := B.bytes
  have hr := B.returns
  have hts := atoms_spec (ws := wsX6_size) B.pre
  have hown : s.vm.findClass RX6 = some m.cls := findClass_of_methodNamed B.named
  have hlocks := B.notSynchronized
  have hS : va_S (fun _ => False) s.heap s.heap [] := va_S.rf
  have hP : va_P D vwCl [] s.heap := hP
  have hl := lv_entry ([.int (nI S)]) (n := 3) (Nat.le_of_ble_eq_true rfl)
  rw [lg_entry_eq]
  generalize (lg_sl ([.int (nI S)]) ++ List.replicate (3 - (lg_sl ([.int (nI S)])).length) Slot.unset).toArray = ls at hl ⊢
  have hl : lv_has ls 3 [(0, .int (nI S))] := hl
  have hgen := True.intro
  refine lv_iconst (v := nI 0) hx hb dX6_size_0 (by decide) ?_
  refine lv_istore_n (lv' := [(1, .int (nI 0)), (0, .int (nI S))]) hx hb dX6_size_1 rfl hl (by decide) rfl (fun ls hl => ?_)
  refine lv_iconst (v := nI 0) hx hb dX6_size_2 (by decide) ?_
  refine lv_istore_n (lv' := [(2, .int (nI 0)), (1, .int (nI 0)), (0, .int (nI S))]) hx hb dX6_size_3 rfl hl (by decide) rfl (fun ls hl => ?_)
  have L4 : ∀ (n : Nat) (e : Nat), e ≤ 14 ∧ 15 ≤ e + n → ∀ (H : Heap) (locs : List Loc), va_P D vwCl [] H → va_S (fun _ => False) s.heap H locs → ∀ (ls : Array Slot), lv_has ls 3 [(0, .int (nI S)), (1, .int (nI (ms_card e S))), (2, .int (nI e))] → W p l ev (headSpec wsX6_size ({ frames := 0, cells := 0, slots := 0, locals := 0 })).room s m [.int (nI S)].toArray below meth c H locs 0 0 (MQ below (va_Qi (fun (x : Int32) (_ : Unit) => x = (nI (ms_card 14 S))) (fun _ _ => True) (fun _ => False)) [.int (nI S)].toArray s 0 0 (fun _ => False)) (F0 m 4 ls []) := by
    intro n
    induction n with
    | zero =>
      intro e hfuel  H locs hP hS ls hl
      exact absurd hfuel.2 (by have := hfuel.1; omega)
    | succ n ih4 =>
      intro e hfuel  H locs hP hS ls hl
      obtain ⟨hfu1, hfu2⟩ := hfuel
      refine lv_iload_n hx hb dX6_size_4 rfl (lv_at hl 2 rfl) ?_
      refine lv_bipush (v := nI 14) hx hb dX6_size_5 (by decide) ?_
      refine n_ge (a := e) (b := 14) (tgt := 24) hx hb dX6_size_7 (by decide) (by omega) (by omega) (fun c7 => ?_) (fun c7 => ?_)
      · refine lv_iload_n hx hb dX6_size_24 rfl (lv_at hl 1 rfl) ?_
        exact pu_iret (y := yX6_size) hx hb hr hlocks hS (by rw [show e = 14 by omega]) dX6_size_25
      · refine lv_iload_n hx hb dX6_size_10 rfl (lv_at hl 1 rfl) ?_
        refine lv_iload_n hx hb dX6_size_11 rfl (lv_at hl 0 rfl) ?_
        refine lv_iload_n hx hb dX6_size_12 rfl (lv_at hl 2 rfl) ?_
        refine lv_ishr hx hb dX6_size_13 ?_
        refine lv_as (y := (nI S >>> (nI e &&& 31))) rfl ?_
        refine lv_iconst (v := nI 1) hx hb dX6_size_14 (by decide) ?_
        refine lv_iand hx hb dX6_size_15 ?_
        refine lv_as (y := (bI (S.testBit e))) (hb_of2 (by omega) (by omega)) ?_
        refine lv_iadd hx hb dX6_size_16 ?_
        refine lv_as (y := (nI (ms_card (e + 1) S))) (card_s e S) ?_
        refine lv_istore_n (lv' := [(1, .int (nI (ms_card (e + 1) S))), (0, .int (nI S)), (2, .int (nI e))]) hx hb dX6_size_17 rfl hl (by decide) rfl (fun ls hl => ?_)
        refine lv_iinc (v := (nI (e + 1))) (lv' := [(2, .int (nI (e + 1))), (1, .int (nI (ms_card (e + 1) S))), (0, .int (nI S))]) hx hb dX6_size_18 hl (k := 2) rfl (ni_inc _) (by decide) rfl (fun ls hl => ?_)
        refine lv_goto (tgt := 4) hx hb dX6_size_21 (by decide) ?_
        exact ih4 (e + 1) ⟨by omega, by omega⟩  _ _ hP hS _ (lv_sub hl [2, 1, 0] rfl)
  exact L4 15 0 ⟨by omega, by omega⟩  _ _ hP hS _ (lv_sub hl [2, 1, 0] rfl)

set_option maxHeartbeats 4000000 in
set_option maxRecDepth 100000 in
theorem c_X6_weightOf (l : Launch) (D : va_G) (cy : Nat → ClassId) (ad : Nat → Nat) {g : GT} (hg : gOK g) (th kn ms : Int32) {S : Nat} (hS9 : S < 2 ^ gE g) : PU l yX6_weightOf wsX6_weightOf ({ frames := 1, cells := 0, slots := 0, locals := 21 }) D cy [.ref (ad 20), .int (nI S)] [(ad 20, .inr (5, [.int th, .int (nI (gV g)), .int (nI (gC g)), .int (nI (gE g)), .ref (ad 21), .ref (ad 22), .ref (ad 23), .ref (ad 24), .ref (ad 25), .int kn, .ref (ad 26), .ref (ad 27), .ref (ad 28), .int ms, .ref (ad 29), .ref (ad 30)])), (ad 25, .inl (cy 0, 14, .inl (fun i => zI (gW g i))))] ((zI (wS g S))) := by
  refine Met.ofW (cc := cX6_weightOf) (maxL := 4) (ret := (some .int)) (by decide) rfl ?_
  intro p ev s m args below meth c s₁ B hml hv
  obtain ⟨rfl, hK, hP⟩ := hv
  have hx := B.exec
  have hb := B.bytes
  have hr := B.returns
  have hts := atoms_spec (ws := wsX6_weightOf) B.pre
  have hown : s.vm.findClass RX6 = some m.cls := findClass_of_methodNamed B.named
  have hlocks := B.notSynchronized
  have hS : va_S (fun _ => False) s.heap s.heap [] := va_S.rf
  have hP : va_P D vwCl [(ad 20, .inr (5, [.int th, .int (nI (gV g)), .int (nI (gC g)), .int (nI (gE g)), .ref (ad 21), .ref (ad 22), .ref (ad 23), .ref (ad 24), .ref (ad 25), .int kn, .ref (ad 26), .ref (ad 27), .ref (ad 28), .int ms, .ref (ad 29), .ref (ad 30)])), (ad 25, .inl (cy 0, 14, .inl (fun i => zI (gW g i))))] s.heap := hP
  have inX6 : ∀ w ∈ wsX60, w ∈ wsX6_weightOf := by decide +kernel
  have hl := lv_entry ([.ref (ad 20), .int (nI S)]) (n := 4) (Nat.le_of_ble_eq_true rfl)
  rw [lg_entry_eq]
  generalize (lg_sl ([.ref (ad 20), .int (nI S)]) ++ List.replicate (4 - (lg_sl ([.ref (ad 20), .int (nI S)])).length) Slot.unset).toArray = ls at hl ⊢
  have hl : lv_has ls 4 [(0, .ref (ad 20)), (1, .int (nI S))] := hl
  have hgen := True.intro
  have hE := hg.2.2.1
  have hV := hg.1
  have hC := hg.2.1
  have hS8 : 2 ^ gE g ≤ 2 ^ 14 := Nat.pow_le_pow_right (by decide) hE
  refine lv_iconst (v := nI 0) hx hb dX6_weightOf_0 (by decide) ?_
  refine lv_istore_n (lv' := [(2, .int (nI 0)), (0, .ref (ad 20)), (1, .int (nI S))]) hx hb dX6_weightOf_1 rfl hl (by decide) rfl (fun ls hl => ?_)
  refine lv_iconst (v := nI 0) hx hb dX6_weightOf_2 (by decide) ?_
  refine lv_istore_n (lv' := [(3, .int (nI 0)), (2, .int (nI 0)), (0, .ref (ad 20)), (1, .int (nI S))]) hx hb dX6_weightOf_3 rfl hl (by decide) rfl (fun ls hl => ?_)
  have L4 : ∀ (n : Nat) (e : Nat), e ≤ gE g ∧ gE g + 1 ≤ e + n → ∀ (H : Heap) (locs : List Loc), va_P D vwCl [(ad 20, .inr (5, [.int th, .int (nI (gV g)), .int (nI (gC g)), .int (nI (gE g)), .ref (ad 21), .ref (ad 22), .ref (ad 23), .ref (ad 24), .ref (ad 25), .int kn, .ref (ad 26), .ref (ad 27), .ref (ad 28), .int ms, .ref (ad 29), .ref (ad 30)])), (ad 25, .inl (cy 0, 14, .inl (fun i => zI (gW g i))))] H → va_S (fun _ => False) s.heap H locs → ∀ (ls : Array Slot), lv_has ls 4 [(0, .ref (ad 20)), (1, .int (nI S)), (2, .int (zI (wZ (gW g) e S))), (3, .int (nI e))] → W p l ev (headSpec wsX6_weightOf ({ frames := 1, cells := 0, slots := 0, locals := 21 })).room s m [.ref (ad 20), .int (nI S)].toArray below meth c H locs 0 0 (MQ below (va_Qi (fun (x : Int32) (_ : Unit) => x = (zI (wS g S))) (fun _ _ => True) (fun _ => False)) [.ref (ad 20), .int (nI S)].toArray s 0 0 (fun _ => False)) (F0 m 4 ls []) := by
    intro n
    induction n with
    | zero =>
      intro e hfuel  H locs hP hS ls hl
      exact absurd hfuel.2 (by have := hfuel.1; omega)
    | succ n ih4 =>
      intro e hfuel  H locs hP hS ls hl
      obtain ⟨hfu1, hfu2⟩ := hfuel
      refine lv_iload_n hx hb dX6_weightOf_4 rfl (lv_at hl 3 rfl) ?_
      refine lv_aload_n hx hb dX6_weightOf_5 rfl (lv_at hl 0 rfl) ?_
      refine va_get (D := D) (ci := 5) (v := .int (nI (gE g))) (C := RX6) (T := TX6) (N := 16) hx hb hts inX6 hown hK.1 hP 0 rfl rfl 3 (by decide) (hts (.fieldLink RX6 56 "ColourForestsModel" "edges" "I") (List.mem_of_getElem? (i := 1) rfl)) (fun _ h9 => h9) rfl dX6_weightOf_6 ?_
      refine n_ge (a := e) (b := (gE g)) (tgt := 39) hx hb dX6_weightOf_9 (by decide) (by omega) (by omega) (fun c9 => ?_) (fun c9 => ?_)
      · refine lv_iload_n hx hb dX6_weightOf_39 rfl (lv_at hl 2 rfl) ?_
        exact pu_iret (y := yX6_weightOf) hx hb hr hlocks hS (by rw [show e = gE g by omega]; rfl) dX6_weightOf_40
      · refine lv_iload_n hx hb dX6_weightOf_12 rfl (lv_at hl 2 rfl) ?_
        refine lv_iload_n hx hb dX6_weightOf_13 rfl (lv_at hl 1 rfl) ?_
        refine lv_iload_n hx hb dX6_weightOf_14 rfl (lv_at hl 3 rfl) ?_
        refine pu_call (va_runS (As := [.int (nI S), .int (nI e)]) (rest := [.int (zI (wZ (gW g) e S))]) ⟨hx, hb, hml, hown, hts⟩ (c_X6_has l D cy (S := S) (e := e) (by omega) (by omega)) (va_cwS 2 hts gX6_weightOf_X6_has rfl rfl rfl (by decide +kernel) ⟨Nat.le_of_ble_eq_true rfl, Nat.le_of_ble_eq_true rfl⟩) (PU_preS hK hP [] rfl) rfl rfl hl.1 rfl (lv_room (Nat.le_of_ble_eq_true rfl)) dX6_weightOf_15 ⟨(Nat.zero_le _), (Nat.zero_le _)⟩) hS hP (fun H locs hP hS => ?_)
        refine b_eq (b := (S.testBit e)) (tgt := 30) hx hb dX6_weightOf_18 (by decide) (fun c18 => ?_) (fun c18 => ?_)
        · refine lv_iconst (v := nI 0) hx hb dX6_weightOf_30 (by decide) ?_
          refine lv_iadd hx hb dX6_weightOf_31 ?_
          refine lv_as (y := (zI (wZ (gW g) (e + 1) S))) (by rw [wZ_s, if_neg (by rw [c18]; decide), Int.add_zero]; show zI _ + zI 0 = _; rw [zI_add, Int.add_zero]) ?_
          refine lv_istore_n (lv' := [(2, .int (zI (wZ (gW g) (e + 1) S))), (0, .ref (ad 20)), (1, .int (nI S)), (3, .int (nI e))]) hx hb dX6_weightOf_32 rfl hl (by decide) rfl (fun ls hl => ?_)
          refine lv_iinc (v := (nI (e + 1))) (lv' := [(3, .int (nI (e + 1))), (2, .int (zI (wZ (gW g) (e + 1) S))), (0, .ref (ad 20)), (1, .int (nI S))]) hx hb dX6_weightOf_33 hl (k := 3) rfl (ni_inc _) (by decide) rfl (fun ls hl => ?_)
          refine lv_goto (tgt := 4) hx hb dX6_weightOf_36 (by decide) ?_
          exact ih4 (e + 1) ⟨by omega, by omega⟩  _ _ hP hS _ (lv_sub hl [2, 3, 1, 0] rfl)
        · refine lv_aload_n hx hb dX6_weightOf_21 rfl (lv_at hl 0 rfl) ?_
          refine va_get (D := D) (ci := 5) (v := .ref (ad 25)) (C := RX6) (T := TX6) (N := 16) hx hb hts inX6 hown hK.1 hP 0 rfl rfl 8 (by decide) (hts (.fieldLink RX6 29 "ColourForestsModel" "weights" "[I") (List.mem_of_getElem? (i := 2) rfl)) (fun _ h9 => h9) rfl dX6_weightOf_22 ?_
          refine lv_iload_n hx hb dX6_weightOf_25 rfl (lv_at hl 3 rfl) ?_
          refine rd_i (k := e) (v := (zI (gW g e))) hx hb hK hP 1 rfl (by omega) (by decide) rfl dX6_weightOf_26 ?_
          refine lv_goto (tgt := 31) hx hb dX6_weightOf_27 (by decide) ?_
          refine lv_iadd hx hb dX6_weightOf_31 ?_
          refine lv_as (y := (zI (wZ (gW g) (e + 1) S))) (by rw [wZ_s, if_pos c18, zI_add]) ?_
          refine lv_istore_n (lv' := [(2, .int (zI (wZ (gW g) (e + 1) S))), (0, .ref (ad 20)), (1, .int (nI S)), (3, .int (nI e))]) hx hb dX6_weightOf_32 rfl hl (by decide) rfl (fun ls hl => ?_)
          refine lv_iinc (v := (nI (e + 1))) (lv' := [(3, .int (nI (e + 1))), (2, .int (zI (wZ (gW g) (e + 1) S))), (0, .ref (ad 20)), (1, .int (nI S))]) hx hb dX6_weightOf_33 hl (k := 3) rfl (ni_inc _) (by decide) rfl (fun ls hl => ?_)
          refine lv_goto (tgt := 4) hx hb dX6_weightOf_36 (by decide) ?_
          exact ih4 (e + 1) ⟨by omega, by omega⟩  _ _ hP hS _ (lv_sub hl [2, 3, 1, 0] rfl)
  exact L4 (gE g + 1) 0 ⟨by omega, by omega⟩  _ _ hP hS _ (lv_sub hl [2, 3, 1, 0] rfl)

set_option maxHeartbeats 4000000 in
set_option maxRecDepth 100000 in
theorem c_X6_isSet (l : Launch) (D : va_G) (cy : Nat → ClassId) (ad : Nat → Nat) {g : GT} (hg : gOK g) (th kn ms : Int32) (x : Int32) : PU l yX6_isSet wsX6_isSet ({ frames := 0, cells := 0, slots := 0, locals := 0 }) D cy [.ref (ad 20), .int x] [(ad 20, .inr (5, [.int th, .int (nI (gV g)), .int (nI (gC g)), .int (nI (gE g)), .ref (ad 21), .ref (ad 22), .ref (ad 23), .ref (ad 24), .ref (ad 25), .int kn, .ref (ad 26), .ref (ad 27), .ref (ad 28), .int ms, .ref (ad 29), .ref (ad 30)]))] ((bI (isN x (2 ^ gE g)))) := by
  refine Met.ofW (cc := cX6_isSet) (maxL := 2) (ret := (some .boolean)) (by decide) rfl ?_
  intro p ev s m args below meth c s₁ B hml hv
  obtain ⟨rfl, hK, hP⟩ := hv
  have hx := B.exec
  have hb := B.bytes
  have hr := B.returns
  have hts := atoms_spec (ws := wsX6_isSet) B.pre
  have hown : s.vm.findClass RX6 = some m.cls := findClass_of_methodNamed B.named
  have hlocks := B.notSynchronized
  have hS : va_S (fun _ => False) s.heap s.heap [] := va_S.rf
  have hP : va_P D vwCl [(ad 20, .inr (5, [.int th, .int (nI (gV g)), .int (nI (gC g)), .int (nI (gE g)), .ref (ad 21), .ref (ad 22), .ref (ad 23), .ref (ad 24), .ref (ad 25), .int kn, .ref (ad 26), .ref (ad 27), .ref (ad 28), .int ms, .ref (ad 29), .ref (ad 30)]))] s.heap := hP
  have inX6 : ∀ w ∈ wsX60, w ∈ wsX6_isSet := by decide +kernel
  have hl := lv_entry ([.ref (ad 20), .int x]) (n := 2) (Nat.le_of_ble_eq_true rfl)
  rw [lg_entry_eq]
  generalize (lg_sl ([.ref (ad 20), .int x]) ++ List.replicate (2 - (lg_sl ([.ref (ad 20), .int x])).length) Slot.unset).toArray = ls at hl ⊢
  have hl : lv_has ls 2 [(0, .ref (ad 20)), (1, .int x)] := hl
  have hgen := True.intro
  have hE := hg.2.2.1
  have hV := hg.1
  have hC := hg.2.1
  have hS8 : 2 ^ gE g ≤ 2 ^ 14 := Nat.pow_le_pow_right (by decide) hE
  refine lv_iload_n hx hb dX6_isSet_0 rfl (lv_at hl 1 rfl) ?_
  refine lv_if_lt (tgt := 18) hx hb dX6_isSet_1 (by decide) (fun c1 => ?_) (fun c1 => ?_)
  · refine lv_iconst (v := nI 0) hx hb dX6_isSet_18 (by decide) ?_
    exact pu_zret hx hb hr hlocks hS (is_ok x (by omega) (by first | exact Or.inl ⟨c1, rfl⟩ | exact Or.inr (Or.inl ⟨c1, c11, rfl⟩) | exact Or.inr (Or.inr ⟨c1, c11, rfl⟩))) dX6_isSet_19
  · refine lv_iload_n hx hb dX6_isSet_4 rfl (lv_at hl 1 rfl) ?_
    refine lv_iconst (v := nI 1) hx hb dX6_isSet_5 (by decide) ?_
    refine lv_aload_n hx hb dX6_isSet_6 rfl (lv_at hl 0 rfl) ?_
    refine va_get (D := D) (ci := 5) (v := .int (nI (gE g))) (C := RX6) (T := TX6) (N := 16) hx hb hts inX6 hown hK.1 hP 0 rfl rfl 3 (by decide) (hts (.fieldLink RX6 56 "ColourForestsModel" "edges" "I") (List.mem_of_getElem? (i := 1) rfl)) (fun _ h9 => h9) rfl dX6_isSet_7 ?_
    refine lv_ishl hx hb dX6_isSet_10 ?_
    refine lv_as (y := (nI (2 ^ (gE g)))) (ni_bit (by omega)) ?_
    refine lv_icmp_ge (tgt := 18) hx hb dX6_isSet_11 (by decide) (fun c11 => ?_) (fun c11 => ?_)
    · refine lv_iconst (v := nI 0) hx hb dX6_isSet_18 (by decide) ?_
      exact pu_zret hx hb hr hlocks hS (is_ok x (by omega) (by first | exact Or.inl ⟨c1, rfl⟩ | exact Or.inr (Or.inl ⟨c1, c11, rfl⟩) | exact Or.inr (Or.inr ⟨c1, c11, rfl⟩))) dX6_isSet_19
    · refine lv_iconst (v := nI 1) hx hb dX6_isSet_14 (by decide) ?_
      refine lv_goto (tgt := 19) hx hb dX6_isSet_15 (by decide) ?_
      exact pu_zret hx hb hr hlocks hS (is_ok x (by omega) (by first | exact Or.inl ⟨c1, rfl⟩ | exact Or.inr (Or.inl ⟨c1, c11, rfl⟩) | exact Or.inr (Or.inr ⟨c1, c11, rfl⟩))) dX6_isSet_19

set_option maxHeartbeats 4000000 in
set_option maxRecDepth 100000 in
theorem c_X6_isKind (l : Launch) (D : va_G) (cy : Nat → ClassId) (x : Int32) : PU l yX6_isKind wsX6_isKind ({ frames := 0, cells := 0, slots := 0, locals := 0 }) D cy [.int x] [] ((bI (decide (x = 0 ∨ x = nI 1)))) := by
  refine Met.ofW (cc := cX6_isKind) (maxL := 1) (ret := (some .boolean)) (by decide) rfl ?_
  intro p ev s m args below meth c s₁ B hml hv
  obtain ⟨rfl, hK, hP⟩ := hv
  have hx := B.exec
  have hb := B.bytes
  have hr := B.returns
  have hts := atoms_spec (ws := wsX6_isKind) B.pre
  have hown : s.vm.findClass RX6 = some m.cls := findClass_of_methodNamed B.named
  have hlocks := B.notSynchronized
  have hS : va_S (fun _ => False) s.heap s.heap [] := va_S.rf
  have hP : va_P D vwCl [] s.heap := hP
  have hl := lv_entry ([.int x]) (n := 1) (Nat.le_of_ble_eq_true rfl)
  rw [lg_entry_eq]
  generalize (lg_sl ([.int x]) ++ List.replicate (1 - (lg_sl ([.int x])).length) Slot.unset).toArray = ls at hl ⊢
  have hl : lv_has ls 1 [(0, .int x)] := hl
  have hgen := True.intro
  refine lv_iload_n hx hb dX6_isKind_0 rfl (lv_at hl 0 rfl) ?_
  refine lv_if_eq (tgt := 9) hx hb dX6_isKind_1 (by decide) (fun c1 => ?_) (fun c1 => ?_)
  · refine lv_iconst (v := nI 1) hx hb dX6_isKind_9 (by decide) ?_
    refine lv_goto (tgt := 14) hx hb dX6_isKind_10 (by decide) ?_
    exact pu_zret hx hb hr hlocks hS (by first | (rw [decide_eq_true (Or.inl c1)]; rfl) | (rw [decide_eq_true (Or.inr c6)]; rfl) | (rw [decide_eq_false (fun q => q.elim c1 c6)]; rfl)) dX6_isKind_14
  · refine lv_iload_n hx hb dX6_isKind_4 rfl (lv_at hl 0 rfl) ?_
    refine lv_iconst (v := nI 1) hx hb dX6_isKind_5 (by decide) ?_
    refine lv_icmp_ne (tgt := 13) hx hb dX6_isKind_6 (by decide) (fun c6 => ?_) (fun c6 => ?_)
    · refine lv_iconst (v := nI 0) hx hb dX6_isKind_13 (by decide) ?_
      exact pu_zret hx hb hr hlocks hS (by first | (rw [decide_eq_true (Or.inl c1)]; rfl) | (rw [decide_eq_true (Or.inr c6)]; rfl) | (rw [decide_eq_false (fun q => q.elim c1 c6)]; rfl)) dX6_isKind_14
    · refine lv_iconst (v := nI 1) hx hb dX6_isKind_9 (by decide) ?_
      refine lv_goto (tgt := 14) hx hb dX6_isKind_10 (by decide) ?_
      exact pu_zret hx hb hr hlocks hS (by first | (rw [decide_eq_true (Or.inl c1)]; rfl) | (rw [decide_eq_true (Or.inr c6)]; rfl) | (rw [decide_eq_false (fun q => q.elim c1 c6)]; rfl)) dX6_isKind_14

set_option maxHeartbeats 4000000 in
set_option maxRecDepth 100000 in
theorem c_X6_hasNoRing (l : Launch) (D : va_G) (cy : Nat → ClassId) (ad : Nat → Nat) {g : GT} (hg : gOK g) (th kn ms : Int32) (fp : Nat → Int32) {S : Nat} (hS9 : S < 2 ^ gE g) : WI l yX6_hasNoRing wsX6_hasNoRing ({ frames := 1, cells := 0, slots := 0, locals := 21 }) D cy [.ref (ad 20), .int (nI S)] [(ad 20, .inr (5, [.int th, .int (nI (gV g)), .int (nI (gC g)), .int (nI (gE g)), .ref (ad 21), .ref (ad 22), .ref (ad 23), .ref (ad 24), .ref (ad 25), .int kn, .ref (ad 26), .ref (ad 27), .ref (ad 28), .int ms, .ref (ad 29), .ref (ad 30)])), (ad 22, .inl (cy 0, 14, .inl (fun i => nI (gF g i)))), (ad 23, .inl (cy 0, 14, .inl (fun i => nI (gS g i)))), (ad 29, .inl (cy 0, 8, .inl fp))] (fun (r : Int32) (_ : Nat → Int32) => r = bI (fr g S)) (fun u : Nat → Int32 => [(ad 20, .inr (5, [.int th, .int (nI (gV g)), .int (nI (gC g)), .int (nI (gE g)), .ref (ad 21), .ref (ad 22), .ref (ad 23), .ref (ad 24), .ref (ad 25), .int kn, .ref (ad 26), .ref (ad 27), .ref (ad 28), .int ms, .ref (ad 29), .ref (ad 30)])), (ad 22, .inl (cy 0, 14, .inl (fun i => nI (gF g i)))), (ad 23, .inl (cy 0, 14, .inl (fun i => nI (gS g i)))), (ad 29, .inl (cy 0, 8, .inl u))]) := by
  refine Met.ofW (cc := cX6_hasNoRing) (maxL := 6) (ret := (some .boolean)) (by decide) rfl ?_
  intro p ev s m args below meth c s₁ B hml hv
  obtain ⟨rfl, ⟨hK, hP⟩, hD0⟩ := hv
  have hx := B.exec
  have hb := B.bytes
  have hr := B.returns
  have hts := atoms_spec (ws := wsX6_hasNoRing) B.pre
  have hown : s.vm.findClass RX6 = some m.cls := findClass_of_methodNamed B.named
  have hlocks := B.notSynchronized
  have hD : va_D (inW [(ad 20, .inr (5, [.int th, .int (nI (gV g)), .int (nI (gC g)), .int (nI (gE g)), .ref (ad 21), .ref (ad 22), .ref (ad 23), .ref (ad 24), .ref (ad 25), .int kn, .ref (ad 26), .ref (ad 27), .ref (ad 28), .int ms, .ref (ad 29), .ref (ad 30)])), (ad 22, .inl (cy 0, 14, .inl (fun i => nI (gF g i)))), (ad 23, .inl (cy 0, 14, .inl (fun i => nI (gS g i)))), (ad 29, .inl (cy 0, 8, .inl fp))]) ([(ad 20, .inr (5, [.int th, .int (nI (gV g)), .int (nI (gC g)), .int (nI (gE g)), .ref (ad 21), .ref (ad 22), .ref (ad 23), .ref (ad 24), .ref (ad 25), .int kn, .ref (ad 26), .ref (ad 27), .ref (ad 28), .int ms, .ref (ad 29), .ref (ad 30)])), (ad 22, .inl (cy 0, 14, .inl (fun i => nI (gF g i)))), (ad 23, .inl (cy 0, 14, .inl (fun i => nI (gS g i)))), (ad 29, .inl (cy 0, 8, .inl fp))]) := inW_self hD0
  have hS : va_S (inW [(ad 20, .inr (5, [.int th, .int (nI (gV g)), .int (nI (gC g)), .int (nI (gE g)), .ref (ad 21), .ref (ad 22), .ref (ad 23), .ref (ad 24), .ref (ad 25), .int kn, .ref (ad 26), .ref (ad 27), .ref (ad 28), .int ms, .ref (ad 29), .ref (ad 30)])), (ad 22, .inl (cy 0, 14, .inl (fun i => nI (gF g i)))), (ad 23, .inl (cy 0, 14, .inl (fun i => nI (gS g i)))), (ad 29, .inl (cy 0, 8, .inl fp))]) s.heap s.heap [] := va_S.rf
  have hP : va_P D vwCl [(ad 20, .inr (5, [.int th, .int (nI (gV g)), .int (nI (gC g)), .int (nI (gE g)), .ref (ad 21), .ref (ad 22), .ref (ad 23), .ref (ad 24), .ref (ad 25), .int kn, .ref (ad 26), .ref (ad 27), .ref (ad 28), .int ms, .ref (ad 29), .ref (ad 30)])), (ad 22, .inl (cy 0, 14, .inl (fun i => nI (gF g i)))), (ad 23, .inl (cy 0, 14, .inl (fun i => nI (gS g i)))), (ad 29, .inl (cy 0, 8, .inl fp))] s.heap := hP
  have inX6 : ∀ w ∈ wsX60, w ∈ wsX6_hasNoRing := by decide +kernel
  have hl := lv_entry ([.ref (ad 20), .int (nI S)]) (n := 6) (Nat.le_of_ble_eq_true rfl)
  rw [lg_entry_eq]
  generalize (lg_sl ([.ref (ad 20), .int (nI S)]) ++ List.replicate (6 - (lg_sl ([.ref (ad 20), .int (nI S)])).length) Slot.unset).toArray = ls at hl ⊢
  have hl : lv_has ls 6 [(0, .ref (ad 20)), (1, .int (nI S))] := hl
  have hgen := True.intro
  have hE := hg.2.2.1
  have hV := hg.1
  have hC := hg.2.1
  have hS8 : 2 ^ gE g ≤ 2 ^ 14 := Nat.pow_le_pow_right (by decide) hE
  refine lv_iconst (v := nI 0) hx hb dX6_hasNoRing_0 (by decide) ?_
  refine lv_istore_n (lv' := [(2, .int (nI 0)), (0, .ref (ad 20)), (1, .int (nI S))]) hx hb dX6_hasNoRing_1 rfl hl (by decide) rfl (fun ls hl => ?_)
  have L2 : ∀ (n : Nat) (v : Nat) (q : Nat → Int32), v ≤ gV g ∧ gV g + 1 ≤ v + n → ago v q (fun v => v) → ∀ (H : Heap) (locs : List Loc), va_P D vwCl [(ad 20, .inr (5, [.int th, .int (nI (gV g)), .int (nI (gC g)), .int (nI (gE g)), .ref (ad 21), .ref (ad 22), .ref (ad 23), .ref (ad 24), .ref (ad 25), .int kn, .ref (ad 26), .ref (ad 27), .ref (ad 28), .int ms, .ref (ad 29), .ref (ad 30)])), (ad 22, .inl (cy 0, 14, .inl (fun i => nI (gF g i)))), (ad 23, .inl (cy 0, 14, .inl (fun i => nI (gS g i)))), (ad 29, .inl (cy 0, 8, .inl q))] H → va_D (inW [(ad 20, .inr (5, [.int th, .int (nI (gV g)), .int (nI (gC g)), .int (nI (gE g)), .ref (ad 21), .ref (ad 22), .ref (ad 23), .ref (ad 24), .ref (ad 25), .int kn, .ref (ad 26), .ref (ad 27), .ref (ad 28), .int ms, .ref (ad 29), .ref (ad 30)])), (ad 22, .inl (cy 0, 14, .inl (fun i => nI (gF g i)))), (ad 23, .inl (cy 0, 14, .inl (fun i => nI (gS g i)))), (ad 29, .inl (cy 0, 8, .inl fp))]) [(ad 20, .inr (5, [.int th, .int (nI (gV g)), .int (nI (gC g)), .int (nI (gE g)), .ref (ad 21), .ref (ad 22), .ref (ad 23), .ref (ad 24), .ref (ad 25), .int kn, .ref (ad 26), .ref (ad 27), .ref (ad 28), .int ms, .ref (ad 29), .ref (ad 30)])), (ad 22, .inl (cy 0, 14, .inl (fun i => nI (gF g i)))), (ad 23, .inl (cy 0, 14, .inl (fun i => nI (gS g i)))), (ad 29, .inl (cy 0, 8, .inl q))] → va_S (inW [(ad 20, .inr (5, [.int th, .int (nI (gV g)), .int (nI (gC g)), .int (nI (gE g)), .ref (ad 21), .ref (ad 22), .ref (ad 23), .ref (ad 24), .ref (ad 25), .int kn, .ref (ad 26), .ref (ad 27), .ref (ad 28), .int ms, .ref (ad 29), .ref (ad 30)])), (ad 22, .inl (cy 0, 14, .inl (fun i => nI (gF g i)))), (ad 23, .inl (cy 0, 14, .inl (fun i => nI (gS g i)))), (ad 29, .inl (cy 0, 8, .inl fp))]) s.heap H locs → ∀ (ls : Array Slot), lv_has ls 6 [(0, .ref (ad 20)), (1, .int (nI S)), (2, .int (nI v))] → W p l ev (headSpec wsX6_hasNoRing ({ frames := 1, cells := 0, slots := 0, locals := 21 })).room s m [.ref (ad 20), .int (nI S)].toArray below meth c H locs 0 0 (MQ below (va_Qi (fun (r : Int32) (_ : Nat → Int32) => r = bI (fr g S)) (fun u t => va_P D vwCl ((fun u : Nat → Int32 => [(ad 20, .inr (5, [.int th, .int (nI (gV g)), .int (nI (gC g)), .int (nI (gE g)), .ref (ad 21), .ref (ad 22), .ref (ad 23), .ref (ad 24), .ref (ad 25), .int kn, .ref (ad 26), .ref (ad 27), .ref (ad 28), .int ms, .ref (ad 29), .ref (ad 30)])), (ad 22, .inl (cy 0, 14, .inl (fun i => nI (gF g i)))), (ad 23, .inl (cy 0, 14, .inl (fun i => nI (gS g i)))), (ad 29, .inl (cy 0, 8, .inl u))]) u) t.heap) (inW [(ad 20, .inr (5, [.int th, .int (nI (gV g)), .int (nI (gC g)), .int (nI (gE g)), .ref (ad 21), .ref (ad 22), .ref (ad 23), .ref (ad 24), .ref (ad 25), .int kn, .ref (ad 26), .ref (ad 27), .ref (ad 28), .int ms, .ref (ad 29), .ref (ad 30)])), (ad 22, .inl (cy 0, 14, .inl (fun i => nI (gF g i)))), (ad 23, .inl (cy 0, 14, .inl (fun i => nI (gS g i)))), (ad 29, .inl (cy 0, 8, .inl fp))])) [.ref (ad 20), .int (nI S)].toArray s 0 0 (inW [(ad 20, .inr (5, [.int th, .int (nI (gV g)), .int (nI (gC g)), .int (nI (gE g)), .ref (ad 21), .ref (ad 22), .ref (ad 23), .ref (ad 24), .ref (ad 25), .int kn, .ref (ad 26), .ref (ad 27), .ref (ad 28), .int ms, .ref (ad 29), .ref (ad 30)])), (ad 22, .inl (cy 0, 14, .inl (fun i => nI (gF g i)))), (ad 23, .inl (cy 0, 14, .inl (fun i => nI (gS g i)))), (ad 29, .inl (cy 0, 8, .inl fp))])) (F0 m 2 ls []) := by
    intro n
    induction n with
    | zero =>
      intro v q hfuel hago H locs hP hD hS ls hl
      exact absurd hfuel.2 (by have := hfuel.1; omega)
    | succ n ih2 =>
      intro v q hfuel hago H locs hP hD hS ls hl
      obtain ⟨hfu1, hfu2⟩ := hfuel
      refine lv_iload_n hx hb dX6_hasNoRing_2 rfl (lv_at hl 2 rfl) ?_
      refine lv_aload_n hx hb dX6_hasNoRing_3 rfl (lv_at hl 0 rfl) ?_
      refine va_get (D := D) (ci := 5) (v := .int (nI (gV g))) (C := RX6) (T := TX6) (N := 16) hx hb hts inX6 hown hK.1 hP 0 rfl rfl 1 (by decide) (hts (.fieldLink RX6 7 "ColourForestsModel" "vertices" "I") (List.mem_of_getElem? (i := 1) rfl)) (fun _ h9 => h9) rfl dX6_hasNoRing_4 ?_
      refine n_ge (a := v) (b := (gV g)) (tgt := 23) hx hb dX6_hasNoRing_7 (by decide) (by omega) (by omega) (fun c7 => ?_) (fun c7 => ?_)
      · refine lv_iconst (v := nI 0) hx hb dX6_hasNoRing_23 (by decide) ?_
        refine lv_istore_n (lv' := [(2, .int (nI 0)), (0, .ref (ad 20)), (1, .int (nI S))]) hx hb dX6_hasNoRing_24 rfl hl (by decide) rfl (fun ls hl => ?_)
        have L25 : ∀ (n : Nat) (e : Nat) (q : Nat → Int32), e ≤ gE g ∧ gE g + 1 ≤ e + n → rng g S e q → ∀ (H : Heap) (locs : List Loc), va_P D vwCl [(ad 20, .inr (5, [.int th, .int (nI (gV g)), .int (nI (gC g)), .int (nI (gE g)), .ref (ad 21), .ref (ad 22), .ref (ad 23), .ref (ad 24), .ref (ad 25), .int kn, .ref (ad 26), .ref (ad 27), .ref (ad 28), .int ms, .ref (ad 29), .ref (ad 30)])), (ad 22, .inl (cy 0, 14, .inl (fun i => nI (gF g i)))), (ad 23, .inl (cy 0, 14, .inl (fun i => nI (gS g i)))), (ad 29, .inl (cy 0, 8, .inl q))] H → va_D (inW [(ad 20, .inr (5, [.int th, .int (nI (gV g)), .int (nI (gC g)), .int (nI (gE g)), .ref (ad 21), .ref (ad 22), .ref (ad 23), .ref (ad 24), .ref (ad 25), .int kn, .ref (ad 26), .ref (ad 27), .ref (ad 28), .int ms, .ref (ad 29), .ref (ad 30)])), (ad 22, .inl (cy 0, 14, .inl (fun i => nI (gF g i)))), (ad 23, .inl (cy 0, 14, .inl (fun i => nI (gS g i)))), (ad 29, .inl (cy 0, 8, .inl fp))]) [(ad 20, .inr (5, [.int th, .int (nI (gV g)), .int (nI (gC g)), .int (nI (gE g)), .ref (ad 21), .ref (ad 22), .ref (ad 23), .ref (ad 24), .ref (ad 25), .int kn, .ref (ad 26), .ref (ad 27), .ref (ad 28), .int ms, .ref (ad 29), .ref (ad 30)])), (ad 22, .inl (cy 0, 14, .inl (fun i => nI (gF g i)))), (ad 23, .inl (cy 0, 14, .inl (fun i => nI (gS g i)))), (ad 29, .inl (cy 0, 8, .inl q))] → va_S (inW [(ad 20, .inr (5, [.int th, .int (nI (gV g)), .int (nI (gC g)), .int (nI (gE g)), .ref (ad 21), .ref (ad 22), .ref (ad 23), .ref (ad 24), .ref (ad 25), .int kn, .ref (ad 26), .ref (ad 27), .ref (ad 28), .int ms, .ref (ad 29), .ref (ad 30)])), (ad 22, .inl (cy 0, 14, .inl (fun i => nI (gF g i)))), (ad 23, .inl (cy 0, 14, .inl (fun i => nI (gS g i)))), (ad 29, .inl (cy 0, 8, .inl fp))]) s.heap H locs → ∀ (ls : Array Slot), lv_has ls 6 [(0, .ref (ad 20)), (1, .int (nI S)), (2, .int (nI e))] → W p l ev (headSpec wsX6_hasNoRing ({ frames := 1, cells := 0, slots := 0, locals := 21 })).room s m [.ref (ad 20), .int (nI S)].toArray below meth c H locs 0 0 (MQ below (va_Qi (fun (r : Int32) (_ : Nat → Int32) => r = bI (fr g S)) (fun u t => va_P D vwCl ((fun u : Nat → Int32 => [(ad 20, .inr (5, [.int th, .int (nI (gV g)), .int (nI (gC g)), .int (nI (gE g)), .ref (ad 21), .ref (ad 22), .ref (ad 23), .ref (ad 24), .ref (ad 25), .int kn, .ref (ad 26), .ref (ad 27), .ref (ad 28), .int ms, .ref (ad 29), .ref (ad 30)])), (ad 22, .inl (cy 0, 14, .inl (fun i => nI (gF g i)))), (ad 23, .inl (cy 0, 14, .inl (fun i => nI (gS g i)))), (ad 29, .inl (cy 0, 8, .inl u))]) u) t.heap) (inW [(ad 20, .inr (5, [.int th, .int (nI (gV g)), .int (nI (gC g)), .int (nI (gE g)), .ref (ad 21), .ref (ad 22), .ref (ad 23), .ref (ad 24), .ref (ad 25), .int kn, .ref (ad 26), .ref (ad 27), .ref (ad 28), .int ms, .ref (ad 29), .ref (ad 30)])), (ad 22, .inl (cy 0, 14, .inl (fun i => nI (gF g i)))), (ad 23, .inl (cy 0, 14, .inl (fun i => nI (gS g i)))), (ad 29, .inl (cy 0, 8, .inl fp))])) [.ref (ad 20), .int (nI S)].toArray s 0 0 (inW [(ad 20, .inr (5, [.int th, .int (nI (gV g)), .int (nI (gC g)), .int (nI (gE g)), .ref (ad 21), .ref (ad 22), .ref (ad 23), .ref (ad 24), .ref (ad 25), .int kn, .ref (ad 26), .ref (ad 27), .ref (ad 28), .int ms, .ref (ad 29), .ref (ad 30)])), (ad 22, .inl (cy 0, 14, .inl (fun i => nI (gF g i)))), (ad 23, .inl (cy 0, 14, .inl (fun i => nI (gS g i)))), (ad 29, .inl (cy 0, 8, .inl fp))])) (F0 m 25 ls []) := by
          intro n
          induction n with
          | zero =>
            intro e q hfuel hrg H locs hP hD hS ls hl
            exact absurd hfuel.2 (by have := hfuel.1; omega)
          | succ n ih25 =>
            intro e q hfuel hrg H locs hP hD hS ls hl
            obtain ⟨hfu1, hfu2⟩ := hfuel
            refine lv_iload_n hx hb dX6_hasNoRing_25 rfl (lv_at hl 2 rfl) ?_
            refine lv_aload_n hx hb dX6_hasNoRing_26 rfl (lv_at hl 0 rfl) ?_
            refine va_get (D := D) (ci := 5) (v := .int (nI (gE g))) (C := RX6) (T := TX6) (N := 16) hx hb hts inX6 hown hK.1 hP 0 rfl rfl 3 (by decide) (hts (.fieldLink RX6 56 "ColourForestsModel" "edges" "I") (List.mem_of_getElem? (i := 3) rfl)) (fun _ h9 => h9) rfl dX6_hasNoRing_27 ?_
            refine n_ge (a := e) (b := (gE g)) (tgt := 128) hx hb dX6_hasNoRing_30 (by decide) (by omega) (by omega) (fun c30 => ?_) (fun c30 => ?_)
            · refine lv_iconst (v := nI 1) hx hb dX6_hasNoRing_128 (by decide) ?_
              exact wz_ret q hx hb hr hlocks hS hP (b := fr g S) (by rw [rng_end hg hS9 (by rw [show gE g = e by omega]; exact hrg)]; rfl) (by rw [rng_end hg hS9 (by rw [show gE g = e by omega]; exact hrg)]; rfl) dX6_hasNoRing_129
            · refine lv_iload_n hx hb dX6_hasNoRing_33 rfl (lv_at hl 1 rfl) ?_
              refine lv_iload_n hx hb dX6_hasNoRing_34 rfl (lv_at hl 2 rfl) ?_
              refine pu_call (va_runS (As := [.int (nI S), .int (nI e)]) (rest := []) ⟨hx, hb, hml, hown, hts⟩ (c_X6_has l D cy (S := S) (e := e) (by omega) (by omega)) (va_cwS 2 hts gX6_hasNoRing_X6_has rfl rfl rfl (by decide +kernel) ⟨Nat.le_of_ble_eq_true rfl, Nat.le_of_ble_eq_true rfl⟩) (PU_preS hK hP [] rfl) rfl rfl hl.1 rfl (lv_room (Nat.le_of_ble_eq_true rfl)) dX6_hasNoRing_35 ⟨(Nat.zero_le _), (Nat.zero_le _)⟩) hS hP (fun H locs hP hS => ?_)
              refine b_eq (b := (S.testBit e)) (tgt := 122) hx hb dX6_hasNoRing_38 (by decide) (fun c38 => ?_) (fun c38 => ?_)
              · refine lv_iinc (v := (nI (e + 1))) (lv' := [(2, .int (nI (e + 1))), (0, .ref (ad 20)), (1, .int (nI S))]) hx hb dX6_hasNoRing_122 hl (k := 2) rfl (ni_inc _) (by decide) rfl (fun ls hl => ?_)
                refine lv_goto (tgt := 25) hx hb dX6_hasNoRing_125 (by decide) ?_
                exact ih25 (e + 1) q ⟨by omega, by omega⟩ (rng_n hrg c38) _ _ hP hD hS _ (lv_sub hl [1, 2, 0] rfl)
              · obtain ⟨he1, he2, he3, he4, he5⟩ := hg.2.2.2.2 e (by omega)
                obtain ⟨f, hf1, hf2, hf3, hf4⟩ := hrg
                have hfa := hf2 _ he1
                have hfb := hf2 _ he2
                refine lv_aload_n hx hb dX6_hasNoRing_41 rfl (lv_at hl 0 rfl) ?_
                refine va_get (D := D) (ci := 5) (v := .ref (ad 29)) (C := RX6) (T := TX6) (N := 16) hx hb hts inX6 hown hK.1 hP 0 rfl rfl 14 (by decide) (hts (.fieldLink RX6 43 "ColourForestsModel" "parts" "[I") (List.mem_of_getElem? (i := 2) rfl)) (fun _ h9 => h9) rfl dX6_hasNoRing_42 ?_
                refine lv_aload_n hx hb dX6_hasNoRing_45 rfl (lv_at hl 0 rfl) ?_
                refine va_get (D := D) (ci := 5) (v := .ref (ad 22)) (C := RX6) (T := TX6) (N := 16) hx hb hts inX6 hown hK.1 hP 0 rfl rfl 5 (by decide) (hts (.fieldLink RX6 20 "ColourForestsModel" "firsts" "[I") (List.mem_of_getElem? (i := 4) rfl)) (fun _ h9 => h9) rfl dX6_hasNoRing_46 ?_
                refine lv_iload_n hx hb dX6_hasNoRing_49 rfl (lv_at hl 2 rfl) ?_
                refine rd_i (k := e) (v := (nI (gF g e))) hx hb hK hP 1 rfl (by omega) (by decide) rfl dX6_hasNoRing_50 ?_
                refine rd_i (k := (gF g e)) (v := (nI (f (gF g e)))) hx hb hK hP 3 rfl (by omega) (by decide) (hf1 _ he1) dX6_hasNoRing_51 ?_
                refine lv_istore_n (lv' := [(3, .int (nI (f (gF g e)))), (0, .ref (ad 20)), (1, .int (nI S)), (2, .int (nI e))]) hx hb dX6_hasNoRing_52 rfl hl (by decide) rfl (fun ls hl => ?_)
                refine lv_aload_n hx hb dX6_hasNoRing_53 rfl (lv_at hl 1 rfl) ?_
                refine va_get (D := D) (ci := 5) (v := .ref (ad 29)) (C := RX6) (T := TX6) (N := 16) hx hb hts inX6 hown hK.1 hP 0 rfl rfl 14 (by decide) (hts (.fieldLink RX6 43 "ColourForestsModel" "parts" "[I") (List.mem_of_getElem? (i := 2) rfl)) (fun _ h9 => h9) rfl dX6_hasNoRing_54 ?_
                refine lv_aload_n hx hb dX6_hasNoRing_57 rfl (lv_at hl 1 rfl) ?_
                refine va_get (D := D) (ci := 5) (v := .ref (ad 23)) (C := RX6) (T := TX6) (N := 16) hx hb hts inX6 hown hK.1 hP 0 rfl rfl 6 (by decide) (hts (.fieldLink RX6 23 "ColourForestsModel" "seconds" "[I") (List.mem_of_getElem? (i := 5) rfl)) (fun _ h9 => h9) rfl dX6_hasNoRing_58 ?_
                refine lv_iload_n hx hb dX6_hasNoRing_61 rfl (lv_at hl 3 rfl) ?_
                refine rd_i (k := e) (v := (nI (gS g e))) hx hb hK hP 2 rfl (by omega) (by decide) rfl dX6_hasNoRing_62 ?_
                refine rd_i (k := (gS g e)) (v := (nI (f (gS g e)))) hx hb hK hP 3 rfl (by omega) (by decide) (hf1 _ he2) dX6_hasNoRing_63 ?_
                refine lv_istore (lv' := [(4, .int (nI (f (gS g e)))), (3, .int (nI (f (gF g e)))), (0, .ref (ad 20)), (1, .int (nI S)), (2, .int (nI e))]) hx hb dX6_hasNoRing_64 hl (by decide) rfl (fun ls hl => ?_)
                refine lv_iload_n hx hb dX6_hasNoRing_66 rfl (lv_at hl 1 rfl) ?_
                refine lv_iload hx hb dX6_hasNoRing_67 (lv_at hl 0 rfl) ?_
                refine n_ne (a := (f (gF g e))) (b := (f (gS g e))) (tgt := 74) hx hb dX6_hasNoRing_69 (by decide) (by omega) (by omega) (fun c69 => ?_) (fun c69 => ?_)
                · refine lv_iconst (v := nI 0) hx hb dX6_hasNoRing_74 (by decide) ?_
                  refine lv_istore (lv' := [(5, .int (nI 0)), (4, .int (nI (f (gS g e)))), (3, .int (nI (f (gF g e)))), (0, .ref (ad 20)), (1, .int (nI S)), (2, .int (nI e))]) hx hb dX6_hasNoRing_75 hl (by decide) rfl (fun ls hl => ?_)
                  have L77 : ∀ (n : Nat) (v : Nat) (q2 : Nat → Int32), v ≤ gV g ∧ gV g + 1 ≤ v + n → ago2 (gV g) v q2 f (re2 f (f (gF g e)) (f (gS g e))) → ∀ (H : Heap) (locs : List Loc), va_P D vwCl [(ad 20, .inr (5, [.int th, .int (nI (gV g)), .int (nI (gC g)), .int (nI (gE g)), .ref (ad 21), .ref (ad 22), .ref (ad 23), .ref (ad 24), .ref (ad 25), .int kn, .ref (ad 26), .ref (ad 27), .ref (ad 28), .int ms, .ref (ad 29), .ref (ad 30)])), (ad 22, .inl (cy 0, 14, .inl (fun i => nI (gF g i)))), (ad 23, .inl (cy 0, 14, .inl (fun i => nI (gS g i)))), (ad 29, .inl (cy 0, 8, .inl q2))] H → va_D (inW [(ad 20, .inr (5, [.int th, .int (nI (gV g)), .int (nI (gC g)), .int (nI (gE g)), .ref (ad 21), .ref (ad 22), .ref (ad 23), .ref (ad 24), .ref (ad 25), .int kn, .ref (ad 26), .ref (ad 27), .ref (ad 28), .int ms, .ref (ad 29), .ref (ad 30)])), (ad 22, .inl (cy 0, 14, .inl (fun i => nI (gF g i)))), (ad 23, .inl (cy 0, 14, .inl (fun i => nI (gS g i)))), (ad 29, .inl (cy 0, 8, .inl fp))]) [(ad 20, .inr (5, [.int th, .int (nI (gV g)), .int (nI (gC g)), .int (nI (gE g)), .ref (ad 21), .ref (ad 22), .ref (ad 23), .ref (ad 24), .ref (ad 25), .int kn, .ref (ad 26), .ref (ad 27), .ref (ad 28), .int ms, .ref (ad 29), .ref (ad 30)])), (ad 22, .inl (cy 0, 14, .inl (fun i => nI (gF g i)))), (ad 23, .inl (cy 0, 14, .inl (fun i => nI (gS g i)))), (ad 29, .inl (cy 0, 8, .inl q2))] → va_S (inW [(ad 20, .inr (5, [.int th, .int (nI (gV g)), .int (nI (gC g)), .int (nI (gE g)), .ref (ad 21), .ref (ad 22), .ref (ad 23), .ref (ad 24), .ref (ad 25), .int kn, .ref (ad 26), .ref (ad 27), .ref (ad 28), .int ms, .ref (ad 29), .ref (ad 30)])), (ad 22, .inl (cy 0, 14, .inl (fun i => nI (gF g i)))), (ad 23, .inl (cy 0, 14, .inl (fun i => nI (gS g i)))), (ad 29, .inl (cy 0, 8, .inl fp))]) s.heap H locs → ∀ (ls : Array Slot), lv_has ls 6 [(0, .ref (ad 20)), (1, .int (nI S)), (2, .int (nI e)), (3, .int (nI (f (gF g e)))), (4, .int (nI (f (gS g e)))), (5, .int (nI v))] → W p l ev (headSpec wsX6_hasNoRing ({ frames := 1, cells := 0, slots := 0, locals := 21 })).room s m [.ref (ad 20), .int (nI S)].toArray below meth c H locs 0 0 (MQ below (va_Qi (fun (r : Int32) (_ : Nat → Int32) => r = bI (fr g S)) (fun u t => va_P D vwCl ((fun u : Nat → Int32 => [(ad 20, .inr (5, [.int th, .int (nI (gV g)), .int (nI (gC g)), .int (nI (gE g)), .ref (ad 21), .ref (ad 22), .ref (ad 23), .ref (ad 24), .ref (ad 25), .int kn, .ref (ad 26), .ref (ad 27), .ref (ad 28), .int ms, .ref (ad 29), .ref (ad 30)])), (ad 22, .inl (cy 0, 14, .inl (fun i => nI (gF g i)))), (ad 23, .inl (cy 0, 14, .inl (fun i => nI (gS g i)))), (ad 29, .inl (cy 0, 8, .inl u))]) u) t.heap) (inW [(ad 20, .inr (5, [.int th, .int (nI (gV g)), .int (nI (gC g)), .int (nI (gE g)), .ref (ad 21), .ref (ad 22), .ref (ad 23), .ref (ad 24), .ref (ad 25), .int kn, .ref (ad 26), .ref (ad 27), .ref (ad 28), .int ms, .ref (ad 29), .ref (ad 30)])), (ad 22, .inl (cy 0, 14, .inl (fun i => nI (gF g i)))), (ad 23, .inl (cy 0, 14, .inl (fun i => nI (gS g i)))), (ad 29, .inl (cy 0, 8, .inl fp))])) [.ref (ad 20), .int (nI S)].toArray s 0 0 (inW [(ad 20, .inr (5, [.int th, .int (nI (gV g)), .int (nI (gC g)), .int (nI (gE g)), .ref (ad 21), .ref (ad 22), .ref (ad 23), .ref (ad 24), .ref (ad 25), .int kn, .ref (ad 26), .ref (ad 27), .ref (ad 28), .int ms, .ref (ad 29), .ref (ad 30)])), (ad 22, .inl (cy 0, 14, .inl (fun i => nI (gF g i)))), (ad 23, .inl (cy 0, 14, .inl (fun i => nI (gS g i)))), (ad 29, .inl (cy 0, 8, .inl fp))])) (F0 m 77 ls []) := by
                    intro n
                    induction n with
                    | zero =>
                      intro v q2 hfuel hq2 H locs hP hD hS ls hl
                      exact absurd hfuel.2 (by have := hfuel.1; omega)
                    | succ n ih77 =>
                      intro v q2 hfuel hq2 H locs hP hD hS ls hl
                      obtain ⟨hfv1, hfv2⟩ := hfuel
                      refine lv_iload hx hb dX6_hasNoRing_77 (lv_at hl 5 rfl) ?_
                      refine lv_aload_n hx hb dX6_hasNoRing_79 rfl (lv_at hl 0 rfl) ?_
                      refine va_get (D := D) (ci := 5) (v := .int (nI (gV g))) (C := RX6) (T := TX6) (N := 16) hx hb hts inX6 hown hK.1 hP 0 rfl rfl 1 (by decide) (hts (.fieldLink RX6 7 "ColourForestsModel" "vertices" "I") (List.mem_of_getElem? (i := 1) rfl)) (fun _ h9 => h9) rfl dX6_hasNoRing_80 ?_
                      refine n_ge (a := v) (b := (gV g)) (tgt := 122) hx hb dX6_hasNoRing_83 (by decide) (by omega) (by omega) (fun c83 => ?_) (fun c83 => ?_)
                      · have hve : v = gV g := by omega
                        rw [hve] at hq2
                        refine lv_iinc (v := (nI (e + 1))) (lv' := [(2, .int (nI (e + 1))), (0, .ref (ad 20)), (1, .int (nI S)), (3, .int (nI (f (gF g e)))), (4, .int (nI (f (gS g e)))), (5, .int (nI v))]) hx hb dX6_hasNoRing_122 hl (k := 2) rfl (ni_inc _) (by decide) rfl (fun ls hl => ?_)
                        refine lv_goto (tgt := 25) hx hb dX6_hasNoRing_125 (by decide) ?_
                        exact ih25 (e + 1) q2 ⟨by omega, by omega⟩ (rng_y hg (by omega) hf2 hf3 hf4 c38 c69 (ago2_e hq2)) _ _ hP hD hS _ (lv_sub hl [1, 2, 0] rfl)
                      · have hfw := hf2 v (by omega)
                        refine lv_aload_n hx hb dX6_hasNoRing_86 rfl (lv_at hl 0 rfl) ?_
                        refine va_get (D := D) (ci := 5) (v := .ref (ad 29)) (C := RX6) (T := TX6) (N := 16) hx hb hts inX6 hown hK.1 hP 0 rfl rfl 14 (by decide) (hts (.fieldLink RX6 43 "ColourForestsModel" "parts" "[I") (List.mem_of_getElem? (i := 2) rfl)) (fun _ h9 => h9) rfl dX6_hasNoRing_87 ?_
                        refine lv_iload hx hb dX6_hasNoRing_90 (lv_at hl 5 rfl) ?_
                        refine lv_aload_n hx hb dX6_hasNoRing_92 rfl (lv_at hl 0 rfl) ?_
                        refine va_get (D := D) (ci := 5) (v := .ref (ad 29)) (C := RX6) (T := TX6) (N := 16) hx hb hts inX6 hown hK.1 hP 0 rfl rfl 14 (by decide) (hts (.fieldLink RX6 43 "ColourForestsModel" "parts" "[I") (List.mem_of_getElem? (i := 2) rfl)) (fun _ h9 => h9) rfl dX6_hasNoRing_93 ?_
                        refine lv_iload hx hb dX6_hasNoRing_96 (lv_at hl 5 rfl) ?_
                        refine rd_i (k := v) (v := (nI (f v))) hx hb hK hP 3 rfl (by omega) (by decide) (ago2_at hq2 (by omega)) dX6_hasNoRing_98 ?_
                        refine lv_iload_n hx hb dX6_hasNoRing_99 rfl (lv_at hl 3 rfl) ?_
                        refine n_ne (a := (f v)) (b := (f (gF g e))) (tgt := 108) hx hb dX6_hasNoRing_100 (by decide) (by omega) (by omega) (fun c100 => ?_) (fun c100 => ?_)
                        · refine lv_aload_n hx hb dX6_hasNoRing_108 rfl (lv_at hl 0 rfl) ?_
                          refine va_get (D := D) (ci := 5) (v := .ref (ad 29)) (C := RX6) (T := TX6) (N := 16) hx hb hts inX6 hown hK.1 hP 0 rfl rfl 14 (by decide) (hts (.fieldLink RX6 43 "ColourForestsModel" "parts" "[I") (List.mem_of_getElem? (i := 2) rfl)) (fun _ h9 => h9) rfl dX6_hasNoRing_109 ?_
                          refine lv_iload hx hb dX6_hasNoRing_112 (lv_at hl 5 rfl) ?_
                          refine rd_i (k := v) (v := (nI (f v))) hx hb hK hP 3 rfl (by omega) (by decide) (ago2_at hq2 (by omega)) dX6_hasNoRing_114 ?_
                          refine st_i (k := v) (g := (upd q2 v ((nI (f v))))) hx hb hK hP hD hS 3 rfl (by omega) (by decide) rfl dX6_hasNoRing_115 (fun H locs hP hD hS => ?_)
                          have hP : va_P D vwCl [(ad 20, .inr (5, [.int th, .int (nI (gV g)), .int (nI (gC g)), .int (nI (gE g)), .ref (ad 21), .ref (ad 22), .ref (ad 23), .ref (ad 24), .ref (ad 25), .int kn, .ref (ad 26), .ref (ad 27), .ref (ad 28), .int ms, .ref (ad 29), .ref (ad 30)])), (ad 22, .inl (cy 0, 14, .inl (fun i => nI (gF g i)))), (ad 23, .inl (cy 0, 14, .inl (fun i => nI (gS g i)))), (ad 29, .inl (cy 0, 8, .inl (upd q2 v ((nI (f v))))))] H := hP
                          have hD : va_D (inW [(ad 20, .inr (5, [.int th, .int (nI (gV g)), .int (nI (gC g)), .int (nI (gE g)), .ref (ad 21), .ref (ad 22), .ref (ad 23), .ref (ad 24), .ref (ad 25), .int kn, .ref (ad 26), .ref (ad 27), .ref (ad 28), .int ms, .ref (ad 29), .ref (ad 30)])), (ad 22, .inl (cy 0, 14, .inl (fun i => nI (gF g i)))), (ad 23, .inl (cy 0, 14, .inl (fun i => nI (gS g i)))), (ad 29, .inl (cy 0, 8, .inl fp))]) [(ad 20, .inr (5, [.int th, .int (nI (gV g)), .int (nI (gC g)), .int (nI (gE g)), .ref (ad 21), .ref (ad 22), .ref (ad 23), .ref (ad 24), .ref (ad 25), .int kn, .ref (ad 26), .ref (ad 27), .ref (ad 28), .int ms, .ref (ad 29), .ref (ad 30)])), (ad 22, .inl (cy 0, 14, .inl (fun i => nI (gF g i)))), (ad 23, .inl (cy 0, 14, .inl (fun i => nI (gS g i)))), (ad 29, .inl (cy 0, 8, .inl (upd q2 v ((nI (f v))))))] := hD
                          refine lv_iinc (v := (nI (v + 1))) (lv' := [(5, .int (nI (v + 1))), (0, .ref (ad 20)), (1, .int (nI S)), (2, .int (nI e)), (3, .int (nI (f (gF g e)))), (4, .int (nI (f (gS g e))))]) hx hb dX6_hasNoRing_116 hl (k := 5) rfl (ni_inc _) (by decide) rfl (fun ls hl => ?_)
                          refine lv_goto (tgt := 77) hx hb dX6_hasNoRing_119 (by decide) ?_
                          exact ih77 (v + 1) ((upd q2 v ((nI (f v))))) ⟨by omega, by omega⟩ (ago2_s hq2 (by show _ = nI (if f v = f (gF g e) then f (gS g e) else f v); rw [if_neg c100])) _ _ hP hD hS _ (lv_sub hl [1, 2, 3, 4, 5, 0] rfl)
                        · refine lv_iload hx hb dX6_hasNoRing_103 (lv_at hl 4 rfl) ?_
                          refine lv_goto (tgt := 115) hx hb dX6_hasNoRing_105 (by decide) ?_
                          refine st_i (k := v) (g := (upd q2 v ((nI (f (gS g e)))))) hx hb hK hP hD hS 3 rfl (by omega) (by decide) rfl dX6_hasNoRing_115 (fun H locs hP hD hS => ?_)
                          have hP : va_P D vwCl [(ad 20, .inr (5, [.int th, .int (nI (gV g)), .int (nI (gC g)), .int (nI (gE g)), .ref (ad 21), .ref (ad 22), .ref (ad 23), .ref (ad 24), .ref (ad 25), .int kn, .ref (ad 26), .ref (ad 27), .ref (ad 28), .int ms, .ref (ad 29), .ref (ad 30)])), (ad 22, .inl (cy 0, 14, .inl (fun i => nI (gF g i)))), (ad 23, .inl (cy 0, 14, .inl (fun i => nI (gS g i)))), (ad 29, .inl (cy 0, 8, .inl (upd q2 v ((nI (f (gS g e)))))))] H := hP
                          have hD : va_D (inW [(ad 20, .inr (5, [.int th, .int (nI (gV g)), .int (nI (gC g)), .int (nI (gE g)), .ref (ad 21), .ref (ad 22), .ref (ad 23), .ref (ad 24), .ref (ad 25), .int kn, .ref (ad 26), .ref (ad 27), .ref (ad 28), .int ms, .ref (ad 29), .ref (ad 30)])), (ad 22, .inl (cy 0, 14, .inl (fun i => nI (gF g i)))), (ad 23, .inl (cy 0, 14, .inl (fun i => nI (gS g i)))), (ad 29, .inl (cy 0, 8, .inl fp))]) [(ad 20, .inr (5, [.int th, .int (nI (gV g)), .int (nI (gC g)), .int (nI (gE g)), .ref (ad 21), .ref (ad 22), .ref (ad 23), .ref (ad 24), .ref (ad 25), .int kn, .ref (ad 26), .ref (ad 27), .ref (ad 28), .int ms, .ref (ad 29), .ref (ad 30)])), (ad 22, .inl (cy 0, 14, .inl (fun i => nI (gF g i)))), (ad 23, .inl (cy 0, 14, .inl (fun i => nI (gS g i)))), (ad 29, .inl (cy 0, 8, .inl (upd q2 v ((nI (f (gS g e)))))))] := hD
                          refine lv_iinc (v := (nI (v + 1))) (lv' := [(5, .int (nI (v + 1))), (0, .ref (ad 20)), (1, .int (nI S)), (2, .int (nI e)), (3, .int (nI (f (gF g e)))), (4, .int (nI (f (gS g e))))]) hx hb dX6_hasNoRing_116 hl (k := 5) rfl (ni_inc _) (by decide) rfl (fun ls hl => ?_)
                          refine lv_goto (tgt := 77) hx hb dX6_hasNoRing_119 (by decide) ?_
                          exact ih77 (v + 1) ((upd q2 v ((nI (f (gS g e)))))) ⟨by omega, by omega⟩ (ago2_s hq2 (by show _ = nI (if f v = f (gF g e) then f (gS g e) else f v); rw [if_pos c100])) _ _ hP hD hS _ (lv_sub hl [1, 2, 3, 4, 5, 0] rfl)
                  exact L77 (gV g + 1) 0 q ⟨by omega, by omega⟩ (ago2_0 hf1) _ _ hP hD hS _ (lv_sub hl [3, 4, 5, 2, 1, 0] rfl)
                · refine lv_iconst (v := nI 0) hx hb dX6_hasNoRing_72 (by decide) ?_
                  exact wz_ret q hx hb hr hlocks hS hP (b := fr g S) (by rw [rng_no hg hS9 (by omega) hf3 c38 c69]; rfl) (by rw [rng_no hg hS9 (by omega) hf3 c38 c69]; rfl) dX6_hasNoRing_73
        exact L25 (gE g + 1) 0 q ⟨by omega, by omega⟩ (rng_0 (by rw [show gV g = v by omega]; exact hago)) _ _ hP hD hS _ (lv_sub hl [1, 2, 0] rfl)
      · refine lv_aload_n hx hb dX6_hasNoRing_10 rfl (lv_at hl 0 rfl) ?_
        refine va_get (D := D) (ci := 5) (v := .ref (ad 29)) (C := RX6) (T := TX6) (N := 16) hx hb hts inX6 hown hK.1 hP 0 rfl rfl 14 (by decide) (hts (.fieldLink RX6 43 "ColourForestsModel" "parts" "[I") (List.mem_of_getElem? (i := 2) rfl)) (fun _ h9 => h9) rfl dX6_hasNoRing_11 ?_
        refine lv_iload_n hx hb dX6_hasNoRing_14 rfl (lv_at hl 2 rfl) ?_
        refine lv_iload_n hx hb dX6_hasNoRing_15 rfl (lv_at hl 2 rfl) ?_
        refine st_i (k := v) (g := (upd q v ((nI v)))) hx hb hK hP hD hS 3 rfl (by omega) (by decide) rfl dX6_hasNoRing_16 (fun H locs hP hD hS => ?_)
        have hP : va_P D vwCl [(ad 20, .inr (5, [.int th, .int (nI (gV g)), .int (nI (gC g)), .int (nI (gE g)), .ref (ad 21), .ref (ad 22), .ref (ad 23), .ref (ad 24), .ref (ad 25), .int kn, .ref (ad 26), .ref (ad 27), .ref (ad 28), .int ms, .ref (ad 29), .ref (ad 30)])), (ad 22, .inl (cy 0, 14, .inl (fun i => nI (gF g i)))), (ad 23, .inl (cy 0, 14, .inl (fun i => nI (gS g i)))), (ad 29, .inl (cy 0, 8, .inl (upd q v ((nI v)))))] H := hP
        have hD : va_D (inW [(ad 20, .inr (5, [.int th, .int (nI (gV g)), .int (nI (gC g)), .int (nI (gE g)), .ref (ad 21), .ref (ad 22), .ref (ad 23), .ref (ad 24), .ref (ad 25), .int kn, .ref (ad 26), .ref (ad 27), .ref (ad 28), .int ms, .ref (ad 29), .ref (ad 30)])), (ad 22, .inl (cy 0, 14, .inl (fun i => nI (gF g i)))), (ad 23, .inl (cy 0, 14, .inl (fun i => nI (gS g i)))), (ad 29, .inl (cy 0, 8, .inl fp))]) [(ad 20, .inr (5, [.int th, .int (nI (gV g)), .int (nI (gC g)), .int (nI (gE g)), .ref (ad 21), .ref (ad 22), .ref (ad 23), .ref (ad 24), .ref (ad 25), .int kn, .ref (ad 26), .ref (ad 27), .ref (ad 28), .int ms, .ref (ad 29), .ref (ad 30)])), (ad 22, .inl (cy 0, 14, .inl (fun i => nI (gF g i)))), (ad 23, .inl (cy 0, 14, .inl (fun i => nI (gS g i)))), (ad 29, .inl (cy 0, 8, .inl (upd q v ((nI v)))))] := hD
        refine lv_iinc (v := (nI (v + 1))) (lv' := [(2, .int (nI (v + 1))), (0, .ref (ad 20)), (1, .int (nI S))]) hx hb dX6_hasNoRing_17 hl (k := 2) rfl (ni_inc _) (by decide) rfl (fun ls hl => ?_)
        refine lv_goto (tgt := 2) hx hb dX6_hasNoRing_20 (by decide) ?_
        exact ih2 (v + 1) ((upd q v (nI v))) ⟨by omega, by omega⟩ (ago_s hago rfl) _ _ hP hD hS _ (lv_sub hl [1, 2, 0] rfl)
  exact L2 (gV g + 1) 0 fp ⟨by omega, by omega⟩ (ago_0 _ _) _ _ hP hD hS _ (lv_sub hl [1, 2, 0] rfl)

set_option maxHeartbeats 4000000 in
set_option maxRecDepth 100000 in
theorem c_X6_keepsLimits (l : Launch) (D : va_G) (cy : Nat → ClassId) (ad : Nat → Nat) {g : GT} (hg : gOK g) (th kn ms : Int32) (fc : Nat → Int32) {S : Nat} (hS9 : S < 2 ^ gE g) : WI l yX6_keepsLimits wsX6_keepsLimits ({ frames := 1, cells := 0, slots := 0, locals := 21 }) D cy [.ref (ad 20), .int (nI S)] [(ad 20, .inr (5, [.int th, .int (nI (gV g)), .int (nI (gC g)), .int (nI (gE g)), .ref (ad 21), .ref (ad 22), .ref (ad 23), .ref (ad 24), .ref (ad 25), .int kn, .ref (ad 26), .ref (ad 27), .ref (ad 28), .int ms, .ref (ad 29), .ref (ad 30)])), (ad 21, .inl (cy 0, 6, .inl (fun i => nI (gL g i)))), (ad 24, .inl (cy 0, 14, .inl (fun i => nI (gH g i)))), (ad 30, .inl (cy 0, 6, .inl fc))] (fun (r : Int32) (_ : Nat → Int32) => r = bI (li g S)) (fun u : Nat → Int32 => [(ad 20, .inr (5, [.int th, .int (nI (gV g)), .int (nI (gC g)), .int (nI (gE g)), .ref (ad 21), .ref (ad 22), .ref (ad 23), .ref (ad 24), .ref (ad 25), .int kn, .ref (ad 26), .ref (ad 27), .ref (ad 28), .int ms, .ref (ad 29), .ref (ad 30)])), (ad 21, .inl (cy 0, 6, .inl (fun i => nI (gL g i)))), (ad 24, .inl (cy 0, 14, .inl (fun i => nI (gH g i)))), (ad 30, .inl (cy 0, 6, .inl u))]) := by
  refine Met.ofW (cc := cX6_keepsLimits) (maxL := 4) (ret := (some .boolean)) (by decide) rfl ?_
  intro p ev s m args below meth c s₁ B hml hv
  obtain ⟨rfl, ⟨hK, hP⟩, hD0⟩ := hv
  have hx := B.exec
  have hb := B.bytes
  have hr := B.returns
  have hts := atoms_spec (ws := wsX6_keepsLimits) B.pre
  have hown : s.vm.findClass RX6 = some m.cls := findClass_of_methodNamed B.named
  have hlocks := B.notSynchronized
  have hD : va_D (inW [(ad 20, .inr (5, [.int th, .int (nI (gV g)), .int (nI (gC g)), .int (nI (gE g)), .ref (ad 21), .ref (ad 22), .ref (ad 23), .ref (ad 24), .ref (ad 25), .int kn, .ref (ad 26), .ref (ad 27), .ref (ad 28), .int ms, .ref (ad 29), .ref (ad 30)])), (ad 21, .inl (cy 0, 6, .inl (fun i => nI (gL g i)))), (ad 24, .inl (cy 0, 14, .inl (fun i => nI (gH g i)))), (ad 30, .inl (cy 0, 6, .inl fc))]) ([(ad 20, .inr (5, [.int th, .int (nI (gV g)), .int (nI (gC g)), .int (nI (gE g)), .ref (ad 21), .ref (ad 22), .ref (ad 23), .ref (ad 24), .ref (ad 25), .int kn, .ref (ad 26), .ref (ad 27), .ref (ad 28), .int ms, .ref (ad 29), .ref (ad 30)])), (ad 21, .inl (cy 0, 6, .inl (fun i => nI (gL g i)))), (ad 24, .inl (cy 0, 14, .inl (fun i => nI (gH g i)))), (ad 30, .inl (cy 0, 6, .inl fc))]) := inW_self hD0
  have hS : va_S (inW [(ad 20, .inr (5, [.int th, .int (nI (gV g)), .int (nI (gC g)), .int (nI (gE g)), .ref (ad 21), .ref (ad 22), .ref (ad 23), .ref (ad 24), .ref (ad 25), .int kn, .ref (ad 26), .ref (ad 27), .ref (ad 28), .int ms, .ref (ad 29), .ref (ad 30)])), (ad 21, .inl (cy 0, 6, .inl (fun i => nI (gL g i)))), (ad 24, .inl (cy 0, 14, .inl (fun i => nI (gH g i)))), (ad 30, .inl (cy 0, 6, .inl fc))]) s.heap s.heap [] := va_S.rf
  have hP : va_P D vwCl [(ad 20, .inr (5, [.int th, .int (nI (gV g)), .int (nI (gC g)), .int (nI (gE g)), .ref (ad 21), .ref (ad 22), .ref (ad 23), .ref (ad 24), .ref (ad 25), .int kn, .ref (ad 26), .ref (ad 27), .ref (ad 28), .int ms, .ref (ad 29), .ref (ad 30)])), (ad 21, .inl (cy 0, 6, .inl (fun i => nI (gL g i)))), (ad 24, .inl (cy 0, 14, .inl (fun i => nI (gH g i)))), (ad 30, .inl (cy 0, 6, .inl fc))] s.heap := hP
  have inX6 : ∀ w ∈ wsX60, w ∈ wsX6_keepsLimits := by decide +kernel
  have hl := lv_entry ([.ref (ad 20), .int (nI S)]) (n := 4) (Nat.le_of_ble_eq_true rfl)
  rw [lg_entry_eq]
  generalize (lg_sl ([.ref (ad 20), .int (nI S)]) ++ List.replicate (4 - (lg_sl ([.ref (ad 20), .int (nI S)])).length) Slot.unset).toArray = ls at hl ⊢
  have hl : lv_has ls 4 [(0, .ref (ad 20)), (1, .int (nI S))] := hl
  have hgen := True.intro
  have hE := hg.2.2.1
  have hV := hg.1
  have hC := hg.2.1
  have hS8 : 2 ^ gE g ≤ 2 ^ 14 := Nat.pow_le_pow_right (by decide) hE
  refine lv_iconst (v := nI 0) hx hb dX6_keepsLimits_0 (by decide) ?_
  refine lv_istore_n (lv' := [(2, .int (nI 0)), (0, .ref (ad 20)), (1, .int (nI S))]) hx hb dX6_keepsLimits_1 rfl hl (by decide) rfl (fun ls hl => ?_)
  have L2 : ∀ (n : Nat) (c9 : Nat) (q : Nat → Int32), c9 ≤ gC g ∧ gC g + 1 ≤ c9 + n → zro c9 q → ∀ (H : Heap) (locs : List Loc), va_P D vwCl [(ad 20, .inr (5, [.int th, .int (nI (gV g)), .int (nI (gC g)), .int (nI (gE g)), .ref (ad 21), .ref (ad 22), .ref (ad 23), .ref (ad 24), .ref (ad 25), .int kn, .ref (ad 26), .ref (ad 27), .ref (ad 28), .int ms, .ref (ad 29), .ref (ad 30)])), (ad 21, .inl (cy 0, 6, .inl (fun i => nI (gL g i)))), (ad 24, .inl (cy 0, 14, .inl (fun i => nI (gH g i)))), (ad 30, .inl (cy 0, 6, .inl q))] H → va_D (inW [(ad 20, .inr (5, [.int th, .int (nI (gV g)), .int (nI (gC g)), .int (nI (gE g)), .ref (ad 21), .ref (ad 22), .ref (ad 23), .ref (ad 24), .ref (ad 25), .int kn, .ref (ad 26), .ref (ad 27), .ref (ad 28), .int ms, .ref (ad 29), .ref (ad 30)])), (ad 21, .inl (cy 0, 6, .inl (fun i => nI (gL g i)))), (ad 24, .inl (cy 0, 14, .inl (fun i => nI (gH g i)))), (ad 30, .inl (cy 0, 6, .inl fc))]) [(ad 20, .inr (5, [.int th, .int (nI (gV g)), .int (nI (gC g)), .int (nI (gE g)), .ref (ad 21), .ref (ad 22), .ref (ad 23), .ref (ad 24), .ref (ad 25), .int kn, .ref (ad 26), .ref (ad 27), .ref (ad 28), .int ms, .ref (ad 29), .ref (ad 30)])), (ad 21, .inl (cy 0, 6, .inl (fun i => nI (gL g i)))), (ad 24, .inl (cy 0, 14, .inl (fun i => nI (gH g i)))), (ad 30, .inl (cy 0, 6, .inl q))] → va_S (inW [(ad 20, .inr (5, [.int th, .int (nI (gV g)), .int (nI (gC g)), .int (nI (gE g)), .ref (ad 21), .ref (ad 22), .ref (ad 23), .ref (ad 24), .ref (ad 25), .int kn, .ref (ad 26), .ref (ad 27), .ref (ad 28), .int ms, .ref (ad 29), .ref (ad 30)])), (ad 21, .inl (cy 0, 6, .inl (fun i => nI (gL g i)))), (ad 24, .inl (cy 0, 14, .inl (fun i => nI (gH g i)))), (ad 30, .inl (cy 0, 6, .inl fc))]) s.heap H locs → ∀ (ls : Array Slot), lv_has ls 4 [(0, .ref (ad 20)), (1, .int (nI S)), (2, .int (nI c9))] → W p l ev (headSpec wsX6_keepsLimits ({ frames := 1, cells := 0, slots := 0, locals := 21 })).room s m [.ref (ad 20), .int (nI S)].toArray below meth c H locs 0 0 (MQ below (va_Qi (fun (r : Int32) (_ : Nat → Int32) => r = bI (li g S)) (fun u t => va_P D vwCl ((fun u : Nat → Int32 => [(ad 20, .inr (5, [.int th, .int (nI (gV g)), .int (nI (gC g)), .int (nI (gE g)), .ref (ad 21), .ref (ad 22), .ref (ad 23), .ref (ad 24), .ref (ad 25), .int kn, .ref (ad 26), .ref (ad 27), .ref (ad 28), .int ms, .ref (ad 29), .ref (ad 30)])), (ad 21, .inl (cy 0, 6, .inl (fun i => nI (gL g i)))), (ad 24, .inl (cy 0, 14, .inl (fun i => nI (gH g i)))), (ad 30, .inl (cy 0, 6, .inl u))]) u) t.heap) (inW [(ad 20, .inr (5, [.int th, .int (nI (gV g)), .int (nI (gC g)), .int (nI (gE g)), .ref (ad 21), .ref (ad 22), .ref (ad 23), .ref (ad 24), .ref (ad 25), .int kn, .ref (ad 26), .ref (ad 27), .ref (ad 28), .int ms, .ref (ad 29), .ref (ad 30)])), (ad 21, .inl (cy 0, 6, .inl (fun i => nI (gL g i)))), (ad 24, .inl (cy 0, 14, .inl (fun i => nI (gH g i)))), (ad 30, .inl (cy 0, 6, .inl fc))])) [.ref (ad 20), .int (nI S)].toArray s 0 0 (inW [(ad 20, .inr (5, [.int th, .int (nI (gV g)), .int (nI (gC g)), .int (nI (gE g)), .ref (ad 21), .ref (ad 22), .ref (ad 23), .ref (ad 24), .ref (ad 25), .int kn, .ref (ad 26), .ref (ad 27), .ref (ad 28), .int ms, .ref (ad 29), .ref (ad 30)])), (ad 21, .inl (cy 0, 6, .inl (fun i => nI (gL g i)))), (ad 24, .inl (cy 0, 14, .inl (fun i => nI (gH g i)))), (ad 30, .inl (cy 0, 6, .inl fc))])) (F0 m 2 ls []) := by
    intro n
    induction n with
    | zero =>
      intro c9 q hfuel hz H locs hP hD hS ls hl
      exact absurd hfuel.2 (by have := hfuel.1; omega)
    | succ n ih2 =>
      intro c9 q hfuel hz H locs hP hD hS ls hl
      obtain ⟨hfu1, hfu2⟩ := hfuel
      refine lv_iload_n hx hb dX6_keepsLimits_2 rfl (lv_at hl 2 rfl) ?_
      refine lv_aload_n hx hb dX6_keepsLimits_3 rfl (lv_at hl 0 rfl) ?_
      refine va_get (D := D) (ci := 5) (v := .int (nI (gC g))) (C := RX6) (T := TX6) (N := 16) hx hb hts inX6 hown hK.1 hP 0 rfl rfl 2 (by decide) (hts (.fieldLink RX6 13 "ColourForestsModel" "colours" "I") (List.mem_of_getElem? (i := 1) rfl)) (fun _ h9 => h9) rfl dX6_keepsLimits_4 ?_
      refine n_ge (a := c9) (b := (gC g)) (tgt := 23) hx hb dX6_keepsLimits_7 (by decide) (by omega) (by omega) (fun c7 => ?_) (fun c7 => ?_)
      · refine lv_iconst (v := nI 1) hx hb dX6_keepsLimits_23 (by decide) ?_
        refine lv_istore_n (lv' := [(2, .int (nI 1)), (0, .ref (ad 20)), (1, .int (nI S))]) hx hb dX6_keepsLimits_24 rfl hl (by decide) rfl (fun ls hl => ?_)
        refine lv_iconst (v := nI 0) hx hb dX6_keepsLimits_25 (by decide) ?_
        refine lv_istore_n (lv' := [(3, .int (nI 0)), (2, .int (nI 1)), (0, .ref (ad 20)), (1, .int (nI S))]) hx hb dX6_keepsLimits_26 rfl hl (by decide) rfl (fun ls hl => ?_)
        have L27 : ∀ (n : Nat) (e : Nat) (q : Nat → Int32), e ≤ gE g ∧ gE g + 1 ≤ e + n → kco g S e q → ∀ (H : Heap) (locs : List Loc), va_P D vwCl [(ad 20, .inr (5, [.int th, .int (nI (gV g)), .int (nI (gC g)), .int (nI (gE g)), .ref (ad 21), .ref (ad 22), .ref (ad 23), .ref (ad 24), .ref (ad 25), .int kn, .ref (ad 26), .ref (ad 27), .ref (ad 28), .int ms, .ref (ad 29), .ref (ad 30)])), (ad 21, .inl (cy 0, 6, .inl (fun i => nI (gL g i)))), (ad 24, .inl (cy 0, 14, .inl (fun i => nI (gH g i)))), (ad 30, .inl (cy 0, 6, .inl q))] H → va_D (inW [(ad 20, .inr (5, [.int th, .int (nI (gV g)), .int (nI (gC g)), .int (nI (gE g)), .ref (ad 21), .ref (ad 22), .ref (ad 23), .ref (ad 24), .ref (ad 25), .int kn, .ref (ad 26), .ref (ad 27), .ref (ad 28), .int ms, .ref (ad 29), .ref (ad 30)])), (ad 21, .inl (cy 0, 6, .inl (fun i => nI (gL g i)))), (ad 24, .inl (cy 0, 14, .inl (fun i => nI (gH g i)))), (ad 30, .inl (cy 0, 6, .inl fc))]) [(ad 20, .inr (5, [.int th, .int (nI (gV g)), .int (nI (gC g)), .int (nI (gE g)), .ref (ad 21), .ref (ad 22), .ref (ad 23), .ref (ad 24), .ref (ad 25), .int kn, .ref (ad 26), .ref (ad 27), .ref (ad 28), .int ms, .ref (ad 29), .ref (ad 30)])), (ad 21, .inl (cy 0, 6, .inl (fun i => nI (gL g i)))), (ad 24, .inl (cy 0, 14, .inl (fun i => nI (gH g i)))), (ad 30, .inl (cy 0, 6, .inl q))] → va_S (inW [(ad 20, .inr (5, [.int th, .int (nI (gV g)), .int (nI (gC g)), .int (nI (gE g)), .ref (ad 21), .ref (ad 22), .ref (ad 23), .ref (ad 24), .ref (ad 25), .int kn, .ref (ad 26), .ref (ad 27), .ref (ad 28), .int ms, .ref (ad 29), .ref (ad 30)])), (ad 21, .inl (cy 0, 6, .inl (fun i => nI (gL g i)))), (ad 24, .inl (cy 0, 14, .inl (fun i => nI (gH g i)))), (ad 30, .inl (cy 0, 6, .inl fc))]) s.heap H locs → ∀ (ls : Array Slot), lv_has ls 4 [(0, .ref (ad 20)), (1, .int (nI S)), (2, .int (bI (kps g S e))), (3, .int (nI e))] → W p l ev (headSpec wsX6_keepsLimits ({ frames := 1, cells := 0, slots := 0, locals := 21 })).room s m [.ref (ad 20), .int (nI S)].toArray below meth c H locs 0 0 (MQ below (va_Qi (fun (r : Int32) (_ : Nat → Int32) => r = bI (li g S)) (fun u t => va_P D vwCl ((fun u : Nat → Int32 => [(ad 20, .inr (5, [.int th, .int (nI (gV g)), .int (nI (gC g)), .int (nI (gE g)), .ref (ad 21), .ref (ad 22), .ref (ad 23), .ref (ad 24), .ref (ad 25), .int kn, .ref (ad 26), .ref (ad 27), .ref (ad 28), .int ms, .ref (ad 29), .ref (ad 30)])), (ad 21, .inl (cy 0, 6, .inl (fun i => nI (gL g i)))), (ad 24, .inl (cy 0, 14, .inl (fun i => nI (gH g i)))), (ad 30, .inl (cy 0, 6, .inl u))]) u) t.heap) (inW [(ad 20, .inr (5, [.int th, .int (nI (gV g)), .int (nI (gC g)), .int (nI (gE g)), .ref (ad 21), .ref (ad 22), .ref (ad 23), .ref (ad 24), .ref (ad 25), .int kn, .ref (ad 26), .ref (ad 27), .ref (ad 28), .int ms, .ref (ad 29), .ref (ad 30)])), (ad 21, .inl (cy 0, 6, .inl (fun i => nI (gL g i)))), (ad 24, .inl (cy 0, 14, .inl (fun i => nI (gH g i)))), (ad 30, .inl (cy 0, 6, .inl fc))])) [.ref (ad 20), .int (nI S)].toArray s 0 0 (inW [(ad 20, .inr (5, [.int th, .int (nI (gV g)), .int (nI (gC g)), .int (nI (gE g)), .ref (ad 21), .ref (ad 22), .ref (ad 23), .ref (ad 24), .ref (ad 25), .int kn, .ref (ad 26), .ref (ad 27), .ref (ad 28), .int ms, .ref (ad 29), .ref (ad 30)])), (ad 21, .inl (cy 0, 6, .inl (fun i => nI (gL g i)))), (ad 24, .inl (cy 0, 14, .inl (fun i => nI (gH g i)))), (ad 30, .inl (cy 0, 6, .inl fc))])) (F0 m 27 ls []) := by
          intro n
          induction n with
          | zero =>
            intro e q hfuel hk H locs hP hD hS ls hl
            exact absurd hfuel.2 (by have := hfuel.1; omega)
          | succ n ih27 =>
            intro e q hfuel hk H locs hP hD hS ls hl
            obtain ⟨hfu1, hfu2⟩ := hfuel
            have hgap := cntB_gap (g := g) S e
            refine lv_iload_n hx hb dX6_keepsLimits_27 rfl (lv_at hl 3 rfl) ?_
            refine lv_aload_n hx hb dX6_keepsLimits_28 rfl (lv_at hl 0 rfl) ?_
            refine va_get (D := D) (ci := 5) (v := .int (nI (gE g))) (C := RX6) (T := TX6) (N := 16) hx hb hts inX6 hown hK.1 hP 0 rfl rfl 3 (by decide) (hts (.fieldLink RX6 56 "ColourForestsModel" "edges" "I") (List.mem_of_getElem? (i := 3) rfl)) (fun _ h9 => h9) rfl dX6_keepsLimits_29 ?_
            refine n_ge (a := e) (b := (gE g)) (tgt := 99) hx hb dX6_keepsLimits_32 (by decide) (by omega) (by omega) (fun c32 => ?_) (fun c32 => ?_)
            · refine lv_iload_n hx hb dX6_keepsLimits_99 rfl (lv_at hl 2 rfl) ?_
              exact wz_ret q hx hb hr hlocks hS hP (b := li g S) (by rw [show e = gE g by omega, kps_e hg hS9]) (by rw [show e = gE g by omega, kps_e hg hS9]) dX6_keepsLimits_100
            · refine lv_iload_n hx hb dX6_keepsLimits_35 rfl (lv_at hl 1 rfl) ?_
              refine lv_iload_n hx hb dX6_keepsLimits_36 rfl (lv_at hl 3 rfl) ?_
              refine pu_call (va_runS (As := [.int (nI S), .int (nI e)]) (rest := []) ⟨hx, hb, hml, hown, hts⟩ (c_X6_has l D cy (S := S) (e := e) (by omega) (by omega)) (va_cwS 2 hts gX6_keepsLimits_X6_has rfl rfl rfl (by decide +kernel) ⟨Nat.le_of_ble_eq_true rfl, Nat.le_of_ble_eq_true rfl⟩) (PU_preS hK hP [] rfl) rfl rfl hl.1 rfl (lv_room (Nat.le_of_ble_eq_true rfl)) dX6_keepsLimits_37 ⟨(Nat.zero_le _), (Nat.zero_le _)⟩) hS hP (fun H locs hP hS => ?_)
              refine b_eq (b := (S.testBit e)) (tgt := 93) hx hb dX6_keepsLimits_40 (by decide) (fun c40 => ?_) (fun c40 => ?_)
              · refine lv_iinc (v := (nI (e + 1))) (lv' := [(3, .int (nI (e + 1))), (0, .ref (ad 20)), (1, .int (nI S)), (2, .int (bI (kps g S e)))]) hx hb dX6_keepsLimits_93 hl (k := 3) rfl (ni_inc _) (by decide) rfl (fun ls hl => ?_)
                refine lv_goto (tgt := 27) hx hb dX6_keepsLimits_96 (by decide) ?_
                exact ih27 (e + 1) q ⟨by omega, by omega⟩ (kco_n hk c40) _ _ hP hD hS _ (by first | (rw [kps_n c40]; exact lv_sub hl [1, 2, 3, 0] rfl) | (rw [kps_y hg (by omega) c40, c59]; exact lv_sub hl [1, 2, 3, 0] rfl) | (rw [kps_y hg (by omega) c40, c59, Bool.true_and, decide_eq_true (by rw [kcN_y c40]; omega)]; exact lv_sub hl [1, 2, 3, 0] rfl) | (rw [kps_y hg (by omega) c40, c59, Bool.true_and, decide_eq_false (by rw [kcN_y c40]; omega)]; exact lv_sub hl [1, 2, 3, 0] rfl))
              · obtain ⟨he1, he2, he3, he4, he5⟩ := hg.2.2.2.2 e (by omega)
                have hkl := kcN_le g S (gH g e) e
                have hLm := hg.2.2.2.1 (gH g e)
                refine lv_aload_n hx hb dX6_keepsLimits_43 rfl (lv_at hl 0 rfl) ?_
                refine va_get (D := D) (ci := 5) (v := .ref (ad 30)) (C := RX6) (T := TX6) (N := 16) hx hb hts inX6 hown hK.1 hP 0 rfl rfl 15 (by decide) (hts (.fieldLink RX6 46 "ColourForestsModel" "counts" "[I") (List.mem_of_getElem? (i := 2) rfl)) (fun _ h9 => h9) rfl dX6_keepsLimits_44 ?_
                refine lv_aload_n hx hb dX6_keepsLimits_47 rfl (lv_at hl 0 rfl) ?_
                refine va_get (D := D) (ci := 5) (v := .ref (ad 24)) (C := RX6) (T := TX6) (N := 16) hx hb hts inX6 hown hK.1 hP 0 rfl rfl 7 (by decide) (hts (.fieldLink RX6 26 "ColourForestsModel" "colourOf" "[I") (List.mem_of_getElem? (i := 4) rfl)) (fun _ h9 => h9) rfl dX6_keepsLimits_48 ?_
                refine lv_iload_n hx hb dX6_keepsLimits_51 rfl (lv_at hl 3 rfl) ?_
                refine rd_i (k := e) (v := (nI (gH g e))) hx hb hK hP 2 rfl (by omega) (by decide) rfl dX6_keepsLimits_52 ?_
                refine lv_dup2_11 hx hb dX6_keepsLimits_53 rfl rfl ?_
                refine rd_i (k := (gH g e)) (v := (nI (kcN g S (gH g e) e))) hx hb hK hP 3 rfl (by omega) (by decide) (hk _ he3) dX6_keepsLimits_54 ?_
                refine lv_iconst (v := nI 1) hx hb dX6_keepsLimits_55 (by decide) ?_
                refine lv_iadd hx hb dX6_keepsLimits_56 ?_
                refine lv_as (y := (nI ((kcN g S (gH g e) e) + 1))) (nI_add _ _) ?_
                refine st_i (k := (gH g e)) (g := (upd q (gH g e) ((nI ((kcN g S (gH g e) e) + 1))))) hx hb hK hP hD hS 3 rfl (by omega) (by decide) rfl dX6_keepsLimits_57 (fun H locs hP hD hS => ?_)
                have hP : va_P D vwCl [(ad 20, .inr (5, [.int th, .int (nI (gV g)), .int (nI (gC g)), .int (nI (gE g)), .ref (ad 21), .ref (ad 22), .ref (ad 23), .ref (ad 24), .ref (ad 25), .int kn, .ref (ad 26), .ref (ad 27), .ref (ad 28), .int ms, .ref (ad 29), .ref (ad 30)])), (ad 21, .inl (cy 0, 6, .inl (fun i => nI (gL g i)))), (ad 24, .inl (cy 0, 14, .inl (fun i => nI (gH g i)))), (ad 30, .inl (cy 0, 6, .inl (upd q (gH g e) ((nI ((kcN g S (gH g e) e) + 1))))))] H := hP
                have hD : va_D (inW [(ad 20, .inr (5, [.int th, .int (nI (gV g)), .int (nI (gC g)), .int (nI (gE g)), .ref (ad 21), .ref (ad 22), .ref (ad 23), .ref (ad 24), .ref (ad 25), .int kn, .ref (ad 26), .ref (ad 27), .ref (ad 28), .int ms, .ref (ad 29), .ref (ad 30)])), (ad 21, .inl (cy 0, 6, .inl (fun i => nI (gL g i)))), (ad 24, .inl (cy 0, 14, .inl (fun i => nI (gH g i)))), (ad 30, .inl (cy 0, 6, .inl fc))]) [(ad 20, .inr (5, [.int th, .int (nI (gV g)), .int (nI (gC g)), .int (nI (gE g)), .ref (ad 21), .ref (ad 22), .ref (ad 23), .ref (ad 24), .ref (ad 25), .int kn, .ref (ad 26), .ref (ad 27), .ref (ad 28), .int ms, .ref (ad 29), .ref (ad 30)])), (ad 21, .inl (cy 0, 6, .inl (fun i => nI (gL g i)))), (ad 24, .inl (cy 0, 14, .inl (fun i => nI (gH g i)))), (ad 30, .inl (cy 0, 6, .inl (upd q (gH g e) ((nI ((kcN g S (gH g e) e) + 1))))))] := hD
                refine lv_iload_n hx hb dX6_keepsLimits_58 rfl (lv_at hl 2 rfl) ?_
                refine b_eq (b := (kps g S e)) (tgt := 91) hx hb dX6_keepsLimits_59 (by decide) (fun c59 => ?_) (fun c59 => ?_)
                · refine lv_iconst (v := nI 0) hx hb dX6_keepsLimits_91 (by decide) ?_
                  refine lv_istore_n (lv' := [(2, .int (nI 0)), (0, .ref (ad 20)), (1, .int (nI S)), (3, .int (nI e))]) hx hb dX6_keepsLimits_92 rfl hl (by decide) rfl (fun ls hl => ?_)
                  refine lv_iinc (v := (nI (e + 1))) (lv' := [(3, .int (nI (e + 1))), (2, .int (nI 0)), (0, .ref (ad 20)), (1, .int (nI S))]) hx hb dX6_keepsLimits_93 hl (k := 3) rfl (ni_inc _) (by decide) rfl (fun ls hl => ?_)
                  refine lv_goto (tgt := 27) hx hb dX6_keepsLimits_96 (by decide) ?_
                  exact ih27 (e + 1) ((upd q (gH g e) ((nI ((kcN g S (gH g e) e) + 1))))) ⟨by omega, by omega⟩ (kco_y hk c40) _ _ hP hD hS _ (by first | (rw [kps_n c40]; exact lv_sub hl [2, 3, 1, 0] rfl) | (rw [kps_y hg (by omega) c40, c59]; exact lv_sub hl [2, 3, 1, 0] rfl) | (rw [kps_y hg (by omega) c40, c59, Bool.true_and, decide_eq_true (by rw [kcN_y c40]; omega)]; exact lv_sub hl [2, 3, 1, 0] rfl) | (rw [kps_y hg (by omega) c40, c59, Bool.true_and, decide_eq_false (by rw [kcN_y c40]; omega)]; exact lv_sub hl [2, 3, 1, 0] rfl))
                · refine lv_aload_n hx hb dX6_keepsLimits_62 rfl (lv_at hl 0 rfl) ?_
                  refine va_get (D := D) (ci := 5) (v := .ref (ad 30)) (C := RX6) (T := TX6) (N := 16) hx hb hts inX6 hown hK.1 hP 0 rfl rfl 15 (by decide) (hts (.fieldLink RX6 46 "ColourForestsModel" "counts" "[I") (List.mem_of_getElem? (i := 2) rfl)) (fun _ h9 => h9) rfl dX6_keepsLimits_63 ?_
                  refine lv_aload_n hx hb dX6_keepsLimits_66 rfl (lv_at hl 0 rfl) ?_
                  refine va_get (D := D) (ci := 5) (v := .ref (ad 24)) (C := RX6) (T := TX6) (N := 16) hx hb hts inX6 hown hK.1 hP 0 rfl rfl 7 (by decide) (hts (.fieldLink RX6 26 "ColourForestsModel" "colourOf" "[I") (List.mem_of_getElem? (i := 4) rfl)) (fun _ h9 => h9) rfl dX6_keepsLimits_67 ?_
                  refine lv_iload_n hx hb dX6_keepsLimits_70 rfl (lv_at hl 3 rfl) ?_
                  refine rd_i (k := e) (v := (nI (gH g e))) hx hb hK hP 2 rfl (by omega) (by decide) rfl dX6_keepsLimits_71 ?_
                  refine rd_i (k := (gH g e)) (v := (nI (kcN g S (gH g e) e + 1))) hx hb hK hP 3 rfl (by omega) (by decide) upd_eq dX6_keepsLimits_72 ?_
                  refine lv_aload_n hx hb dX6_keepsLimits_73 rfl (lv_at hl 0 rfl) ?_
                  refine va_get (D := D) (ci := 5) (v := .ref (ad 21)) (C := RX6) (T := TX6) (N := 16) hx hb hts inX6 hown hK.1 hP 0 rfl rfl 4 (by decide) (hts (.fieldLink RX6 16 "ColourForestsModel" "limits" "[I") (List.mem_of_getElem? (i := 5) rfl)) (fun _ h9 => h9) rfl dX6_keepsLimits_74 ?_
                  refine lv_aload_n hx hb dX6_keepsLimits_77 rfl (lv_at hl 0 rfl) ?_
                  refine va_get (D := D) (ci := 5) (v := .ref (ad 24)) (C := RX6) (T := TX6) (N := 16) hx hb hts inX6 hown hK.1 hP 0 rfl rfl 7 (by decide) (hts (.fieldLink RX6 26 "ColourForestsModel" "colourOf" "[I") (List.mem_of_getElem? (i := 4) rfl)) (fun _ h9 => h9) rfl dX6_keepsLimits_78 ?_
                  refine lv_iload_n hx hb dX6_keepsLimits_81 rfl (lv_at hl 3 rfl) ?_
                  refine rd_i (k := e) (v := (nI (gH g e))) hx hb hK hP 2 rfl (by omega) (by decide) rfl dX6_keepsLimits_82 ?_
                  refine rd_i (k := (gH g e)) (v := (nI (gL g (gH g e)))) hx hb hK hP 1 rfl (by omega) (by decide) rfl dX6_keepsLimits_83 ?_
                  refine n_gt (a := (kcN g S (gH g e) e + 1)) (b := (gL g (gH g e))) (tgt := 91) hx hb dX6_keepsLimits_84 (by decide) (by omega) (by omega) (fun c84 => ?_) (fun c84 => ?_)
                  · refine lv_iconst (v := nI 0) hx hb dX6_keepsLimits_91 (by decide) ?_
                    refine lv_istore_n (lv' := [(2, .int (nI 0)), (0, .ref (ad 20)), (1, .int (nI S)), (3, .int (nI e))]) hx hb dX6_keepsLimits_92 rfl hl (by decide) rfl (fun ls hl => ?_)
                    refine lv_iinc (v := (nI (e + 1))) (lv' := [(3, .int (nI (e + 1))), (2, .int (nI 0)), (0, .ref (ad 20)), (1, .int (nI S))]) hx hb dX6_keepsLimits_93 hl (k := 3) rfl (ni_inc _) (by decide) rfl (fun ls hl => ?_)
                    refine lv_goto (tgt := 27) hx hb dX6_keepsLimits_96 (by decide) ?_
                    exact ih27 (e + 1) ((upd q (gH g e) ((nI ((kcN g S (gH g e) e) + 1))))) ⟨by omega, by omega⟩ (kco_y hk c40) _ _ hP hD hS _ (by first | (rw [kps_n c40]; exact lv_sub hl [2, 3, 1, 0] rfl) | (rw [kps_y hg (by omega) c40, c59]; exact lv_sub hl [2, 3, 1, 0] rfl) | (rw [kps_y hg (by omega) c40, c59, Bool.true_and, decide_eq_true (by rw [kcN_y c40]; omega)]; exact lv_sub hl [2, 3, 1, 0] rfl) | (rw [kps_y hg (by omega) c40, c59, Bool.true_and, decide_eq_false (by rw [kcN_y c40]; omega)]; exact lv_sub hl [2, 3, 1, 0] rfl))
                  · refine lv_iconst (v := nI 1) hx hb dX6_keepsLimits_87 (by decide) ?_
                    refine lv_goto (tgt := 92) hx hb dX6_keepsLimits_88 (by decide) ?_
                    refine lv_istore_n (lv' := [(2, .int (nI 1)), (0, .ref (ad 20)), (1, .int (nI S)), (3, .int (nI e))]) hx hb dX6_keepsLimits_92 rfl hl (by decide) rfl (fun ls hl => ?_)
                    refine lv_iinc (v := (nI (e + 1))) (lv' := [(3, .int (nI (e + 1))), (2, .int (nI 1)), (0, .ref (ad 20)), (1, .int (nI S))]) hx hb dX6_keepsLimits_93 hl (k := 3) rfl (ni_inc _) (by decide) rfl (fun ls hl => ?_)
                    refine lv_goto (tgt := 27) hx hb dX6_keepsLimits_96 (by decide) ?_
                    exact ih27 (e + 1) ((upd q (gH g e) ((nI ((kcN g S (gH g e) e) + 1))))) ⟨by omega, by omega⟩ (kco_y hk c40) _ _ hP hD hS _ (by first | (rw [kps_n c40]; exact lv_sub hl [2, 3, 1, 0] rfl) | (rw [kps_y hg (by omega) c40, c59]; exact lv_sub hl [2, 3, 1, 0] rfl) | (rw [kps_y hg (by omega) c40, c59, Bool.true_and, decide_eq_true (by rw [kcN_y c40]; omega)]; exact lv_sub hl [2, 3, 1, 0] rfl) | (rw [kps_y hg (by omega) c40, c59, Bool.true_and, decide_eq_false (by rw [kcN_y c40]; omega)]; exact lv_sub hl [2, 3, 1, 0] rfl))
        exact L27 (gE g + 1) 0 q ⟨by omega, by omega⟩ (fun c hc => by rw [hz c (by omega)]; rfl) _ _ hP hD hS _ (by rw [kps_0]; exact lv_sub hl [2, 3, 1, 0] rfl)
      · refine lv_aload_n hx hb dX6_keepsLimits_10 rfl (lv_at hl 0 rfl) ?_
        refine va_get (D := D) (ci := 5) (v := .ref (ad 30)) (C := RX6) (T := TX6) (N := 16) hx hb hts inX6 hown hK.1 hP 0 rfl rfl 15 (by decide) (hts (.fieldLink RX6 46 "ColourForestsModel" "counts" "[I") (List.mem_of_getElem? (i := 2) rfl)) (fun _ h9 => h9) rfl dX6_keepsLimits_11 ?_
        refine lv_iload_n hx hb dX6_keepsLimits_14 rfl (lv_at hl 2 rfl) ?_
        refine lv_iconst (v := nI 0) hx hb dX6_keepsLimits_15 (by decide) ?_
        refine st_i (k := c9) (g := (upd q c9 ((nI 0)))) hx hb hK hP hD hS 3 rfl (by omega) (by decide) rfl dX6_keepsLimits_16 (fun H locs hP hD hS => ?_)
        have hP : va_P D vwCl [(ad 20, .inr (5, [.int th, .int (nI (gV g)), .int (nI (gC g)), .int (nI (gE g)), .ref (ad 21), .ref (ad 22), .ref (ad 23), .ref (ad 24), .ref (ad 25), .int kn, .ref (ad 26), .ref (ad 27), .ref (ad 28), .int ms, .ref (ad 29), .ref (ad 30)])), (ad 21, .inl (cy 0, 6, .inl (fun i => nI (gL g i)))), (ad 24, .inl (cy 0, 14, .inl (fun i => nI (gH g i)))), (ad 30, .inl (cy 0, 6, .inl (upd q c9 ((nI 0)))))] H := hP
        have hD : va_D (inW [(ad 20, .inr (5, [.int th, .int (nI (gV g)), .int (nI (gC g)), .int (nI (gE g)), .ref (ad 21), .ref (ad 22), .ref (ad 23), .ref (ad 24), .ref (ad 25), .int kn, .ref (ad 26), .ref (ad 27), .ref (ad 28), .int ms, .ref (ad 29), .ref (ad 30)])), (ad 21, .inl (cy 0, 6, .inl (fun i => nI (gL g i)))), (ad 24, .inl (cy 0, 14, .inl (fun i => nI (gH g i)))), (ad 30, .inl (cy 0, 6, .inl fc))]) [(ad 20, .inr (5, [.int th, .int (nI (gV g)), .int (nI (gC g)), .int (nI (gE g)), .ref (ad 21), .ref (ad 22), .ref (ad 23), .ref (ad 24), .ref (ad 25), .int kn, .ref (ad 26), .ref (ad 27), .ref (ad 28), .int ms, .ref (ad 29), .ref (ad 30)])), (ad 21, .inl (cy 0, 6, .inl (fun i => nI (gL g i)))), (ad 24, .inl (cy 0, 14, .inl (fun i => nI (gH g i)))), (ad 30, .inl (cy 0, 6, .inl (upd q c9 ((nI 0)))))] := hD
        refine lv_iinc (v := (nI (c9 + 1))) (lv' := [(2, .int (nI (c9 + 1))), (0, .ref (ad 20)), (1, .int (nI S))]) hx hb dX6_keepsLimits_17 hl (k := 2) rfl (ni_inc _) (by decide) rfl (fun ls hl => ?_)
        refine lv_goto (tgt := 2) hx hb dX6_keepsLimits_20 (by decide) ?_
        exact ih2 (c9 + 1) ((upd q c9 (nI 0))) ⟨by omega, by omega⟩ (zro_s hz) _ _ hP hD hS _ (lv_sub hl [1, 2, 0] rfl)
  exact L2 (gC g + 1) 0 fc ⟨by omega, by omega⟩ (fun c hc => by omega) _ _ hP hD hS _ (lv_sub hl [1, 2, 0] rfl)
