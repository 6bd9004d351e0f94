set_option maxHeartbeats 4000000 in
set_option maxRecDepth 100000 in
theorem c_X6_thrown (l : Launch) (D : va_G) (cy : Nat → ClassId) (ad : Nat → Nat) {g : GT} (th kn ms : Int32) : PU l yX6_thrown wsX6_thrown ({ frames := 0, cells := 0, slots := 0, locals := 0 }) D cy [.ref (ad 20)] [(ad 20, .inr (5, [.int th, .int (nI (gV g)), .int (nI (gC g)), .int (nI (gE g)), .ref (ad 21), .ref (ad 22), .ref (ad 23), .ref (ad 24), .ref (ad 25), .int kn, .ref (ad 26), .ref (ad 27), .ref (ad 28), .int ms, .ref (ad 29), .ref (ad 30)]))] (th) := by
  refine Met.ofW (cc := cX6_thrown) (maxL := 1) (ret := (some .int)) (by decide) rfl ?_
  intro p ev s m args below meth c s₁ B hml hv
  obtain ⟨rfl, hK, hP⟩ := hv
  have hx := B.exec
  have hb := B.bytes
  have hr := B.returns
  have hts := atoms_spec (ws := wsX6_thrown) B.pre
  have hown : s.vm.findClass RX6 = some m.cls := findClass_of_methodNamed B.named
  have hlocks := B.notSynchronized
  have hS : va_S (fun _ => False) s.heap s.heap [] := va_S.rf
  have hP : va_P D vwCl [(ad 20, .inr (5, [.int th, .int (nI (gV g)), .int (nI (gC g)), .int (nI (gE g)), .ref (ad 21), .ref (ad 22), .ref (ad 23), .ref (ad 24), .ref (ad 25), .int kn, .ref (ad 26), .ref (ad 27), .ref (ad 28), .int ms, .ref (ad 29), .ref (ad 30)]))] s.heap := hP
  have inX6 : ∀ w ∈ wsX60, w ∈ wsX6_thrown := by decide +kernel
  have hl := lv_entry ([.ref (ad 20)]) (n := 1) (Nat.le_of_ble_eq_true rfl)
  rw [lg_entry_eq]
  generalize (lg_sl ([.ref (ad 20)]) ++ List.replicate (1 - (lg_sl ([.ref (ad 20)])).length) Slot.unset).toArray = ls at hl ⊢
  have hl : lv_has ls 1 [(0, .ref (ad 20))] := hl
  have hgen := True.intro
  refine lv_aload_n hx hb dX6_thrown_0 rfl (lv_at hl 0 rfl) ?_
  refine va_get (D := D) (ci := 5) (v := .int th) (C := RX6) (T := TX6) (N := 16) hx hb hts inX6 hown hK.1 hP 0 rfl rfl 0 (by decide) (hts (.fieldLink RX6 49 "ColourForestsModel" "thrown" "I") (List.mem_of_getElem? (i := 1) rfl)) (fun _ h9 => h9) rfl dX6_thrown_1 ?_
  exact pu_iret (y := yX6_thrown) hx hb hr hlocks hS (by first | rfl | (simp [bI, *]; done) | (simp_all [bI]; done)) dX6_thrown_4

set_option maxHeartbeats 4000000 in
set_option maxRecDepth 100000 in
theorem c_X6_refuses (l : Launch) (D : va_G) (cy : Nat → ClassId) (ad : Nat → Nat) (g : GT) (th kn ms : Int32) (y9 : Int32) : WI l yX6_refuses wsX6_refuses ({ frames := 0, cells := 0, slots := 0, locals := 0 }) D cy [.ref (ad 20), .int y9] [(ad 20, .inr (5, [.int th, .int (nI (gV g)), .int (nI (gC g)), .int (nI (gE g)), .ref (ad 21), .ref (ad 22), .ref (ad 23), .ref (ad 24), .ref (ad 25), .int kn, .ref (ad 26), .ref (ad 27), .ref (ad 28), .int ms, .ref (ad 29), .ref (ad 30)]))] (fun (r : Int32) (_ : Unit) => r = bI (!decide (y9 ≤ 0))) (fun _ : Unit => [(ad 20, .inr (5, [.int y9, .int (nI (gV g)), .int (nI (gC g)), .int (nI (gE g)), .ref (ad 21), .ref (ad 22), .ref (ad 23), .ref (ad 24), .ref (ad 25), .int kn, .ref (ad 26), .ref (ad 27), .ref (ad 28), .int ms, .ref (ad 29), .ref (ad 30)]))]) := by
  refine Met.ofW (cc := cX6_refuses) (maxL := 2) (ret := (some .boolean)) (by decide) rfl ?_
  intro p ev s m args below meth c s₁ B hml hv
  obtain ⟨rfl, ⟨hK, hP⟩, hD0⟩ := hv
  have hx := B.exec
  have hb := B.bytes
  have hr := B.returns
  have hts := atoms_spec (ws := wsX6_refuses) B.pre
  have hown : s.vm.findClass RX6 = some m.cls := findClass_of_methodNamed B.named
  have hlocks := B.notSynchronized
  have hD : va_D (inW [(ad 20, .inr (5, [.int th, .int (nI (gV g)), .int (nI (gC g)), .int (nI (gE g)), .ref (ad 21), .ref (ad 22), .ref (ad 23), .ref (ad 24), .ref (ad 25), .int kn, .ref (ad 26), .ref (ad 27), .ref (ad 28), .int ms, .ref (ad 29), .ref (ad 30)]))]) ([(ad 20, .inr (5, [.int th, .int (nI (gV g)), .int (nI (gC g)), .int (nI (gE g)), .ref (ad 21), .ref (ad 22), .ref (ad 23), .ref (ad 24), .ref (ad 25), .int kn, .ref (ad 26), .ref (ad 27), .ref (ad 28), .int ms, .ref (ad 29), .ref (ad 30)]))]) := inW_self hD0
  have hS : va_S (inW [(ad 20, .inr (5, [.int th, .int (nI (gV g)), .int (nI (gC g)), .int (nI (gE g)), .ref (ad 21), .ref (ad 22), .ref (ad 23), .ref (ad 24), .ref (ad 25), .int kn, .ref (ad 26), .ref (ad 27), .ref (ad 28), .int ms, .ref (ad 29), .ref (ad 30)]))]) s.heap s.heap [] := va_S.rf
  have hP : va_P D vwCl [(ad 20, .inr (5, [.int th, .int (nI (gV g)), .int (nI (gC g)), .int (nI (gE g)), .ref (ad 21), .ref (ad 22), .ref (ad 23), .ref (ad 24), .ref (ad 25), .int kn, .ref (ad 26), .ref (ad 27), .ref (ad 28), .int ms, .ref (ad 29), .ref (ad 30)]))] s.heap := hP
  have inX6 : ∀ w ∈ wsX60, w ∈ wsX6_refuses := by decide +kernel
  have hl := lv_entry ([.ref (ad 20), .int y9]) (n := 2) (Nat.le_of_ble_eq_true rfl)
  rw [lg_entry_eq]
  generalize (lg_sl ([.ref (ad 20), .int y9]) ++ List.replicate (2 - (lg_sl ([.ref (ad 20), .int y9])).length) Slot.unset).toArray = ls at hl ⊢
  have hl : lv_has ls 2 [(0, .ref (ad 20)), (1, .int y9)] := hl
  have hgen := True.intro
  refine lv_aload_n hx hb dX6_refuses_0 rfl (lv_at hl 0 rfl) ?_
  refine lv_iload_n hx hb dX6_refuses_1 rfl (lv_at hl 1 rfl) ?_
  refine va_put (D := D) (ci := 5) (v := .int y9) (ty := .int) (C := RX6) (T := TX6) (N := 16) hx hb hts inX6 tyX6 tyX6_ok nmX6 hown hK.1 hP hD hS 0 rfl rfl 0 (by decide) (hts (.fieldLink RX6 49 "ColourForestsModel" "thrown" "I") (List.mem_of_getElem? (i := 1) rfl)) (fun _ h9 => h9) rfl (by decide +kernel) rfl rfl (Nat.le_of_ble_eq_true rfl) dX6_refuses_2 (fun H locs hP hD hS => ?_)
  have hP : va_P D vwCl [(ad 20, .inr (5, [.int y9, .int (nI (gV g)), .int (nI (gC g)), .int (nI (gE g)), .ref (ad 21), .ref (ad 22), .ref (ad 23), .ref (ad 24), .ref (ad 25), .int kn, .ref (ad 26), .ref (ad 27), .ref (ad 28), .int ms, .ref (ad 29), .ref (ad 30)]))] H := hP
  have hD : va_D (inW [(ad 20, .inr (5, [.int th, .int (nI (gV g)), .int (nI (gC g)), .int (nI (gE g)), .ref (ad 21), .ref (ad 22), .ref (ad 23), .ref (ad 24), .ref (ad 25), .int kn, .ref (ad 26), .ref (ad 27), .ref (ad 28), .int ms, .ref (ad 29), .ref (ad 30)]))]) [(ad 20, .inr (5, [.int y9, .int (nI (gV g)), .int (nI (gC g)), .int (nI (gE g)), .ref (ad 21), .ref (ad 22), .ref (ad 23), .ref (ad 24), .ref (ad 25), .int kn, .ref (ad 26), .ref (ad 27), .ref (ad 28), .int ms, .ref (ad 29), .ref (ad 30)]))] := hD
  refine lv_iload_n hx hb dX6_refuses_5 rfl (lv_at hl 1 rfl) ?_
  refine lv_if_le (tgt := 13) hx hb dX6_refuses_6 (by decide) (fun c6 => ?_) (fun c6 => ?_)
  · refine lv_iconst (v := nI 0) hx hb dX6_refuses_13 (by decide) ?_
    exact wz_ret () hx hb hr hlocks hS hP (b := !decide (y9 ≤ 0)) (by first | (rw [decide_eq_true c6]; rfl) | (rw [decide_eq_false c6]; rfl)) (by first | (rw [decide_eq_true c6]; rfl) | (rw [decide_eq_false c6]; rfl)) dX6_refuses_14
  · refine lv_iconst (v := nI 1) hx hb dX6_refuses_9 (by decide) ?_
    refine lv_goto (tgt := 14) hx hb dX6_refuses_10 (by decide) ?_
    exact wz_ret () hx hb hr hlocks hS hP (b := !decide (y9 ≤ 0)) (by first | (rw [decide_eq_true c6]; rfl) | (rw [decide_eq_false c6]; rfl)) (by first | (rw [decide_eq_true c6]; rfl) | (rw [decide_eq_false c6]; rfl)) dX6_refuses_14

set_option maxHeartbeats 4000000 in
set_option maxRecDepth 100000 in
theorem c_X6_isHeavy (l : Launch) (D : va_G) (cy : Nat → ClassId) (x : Int32) : PU l yX6_isHeavy wsX6_isHeavy ({ frames := 0, cells := 0, slots := 0, locals := 0 }) D cy [.int x] [] ((bI (!isW x))) := by
  refine Met.ofW (cc := cX6_isHeavy) (maxL := 1) (ret := (some .boolean)) (by decide) rfl ?_
  intro p ev s m args below meth c s₁ B hml hv
  obtain ⟨rfl, hK, hP⟩ := hv
  have hx := B.exec
  have hb := B.bytes
  have hr := B.returns
  have hts := atoms_spec (ws := wsX6_isHeavy) B.pre
  have hown : s.vm.findClass RX6 = some m.cls := findClass_of_methodNamed B.named
  have hlocks := B.notSynchronized
  have hS : va_S (fun _ => False) s.heap s.heap [] := va_S.rf
  have hP : va_P D vwCl [] s.heap := hP
  have hl := lv_entry ([.int x]) (n := 1) (Nat.le_of_ble_eq_true rfl)
  rw [lg_entry_eq]
  generalize (lg_sl ([.int x]) ++ List.replicate (1 - (lg_sl ([.int x])).length) Slot.unset).toArray = ls at hl ⊢
  have hl : lv_has ls 1 [(0, .int x)] := hl
  have hgen := True.intro
  refine lv_iload_n hx hb dX6_isHeavy_0 rfl (lv_at hl 0 rfl) ?_
  refine lv_sipush (v := zI (-9999)) hx hb dX6_isHeavy_1 (by decide) ?_
  refine lv_icmp_lt (tgt := 14) hx hb dX6_isHeavy_4 (by decide) (fun c4 => ?_) (fun c4 => ?_)
  · refine lv_iconst (v := nI 1) hx hb dX6_isHeavy_14 (by decide) ?_
    refine lv_goto (tgt := 19) hx hb dX6_isHeavy_15 (by decide) ?_
    exact pu_zret hx hb hr hlocks hS (hv_ok x (by first | exact Or.inl ⟨c4, rfl⟩ | exact Or.inr (Or.inl ⟨c4, c11, rfl⟩) | exact Or.inr (Or.inr ⟨c4, c11, rfl⟩))) dX6_isHeavy_19
  · refine lv_iload_n hx hb dX6_isHeavy_7 rfl (lv_at hl 0 rfl) ?_
    refine lv_sipush (v := nI 9999) hx hb dX6_isHeavy_8 (by decide) ?_
    refine lv_icmp_le (tgt := 18) hx hb dX6_isHeavy_11 (by decide) (fun c11 => ?_) (fun c11 => ?_)
    · refine lv_iconst (v := nI 0) hx hb dX6_isHeavy_18 (by decide) ?_
      exact pu_zret hx hb hr hlocks hS (hv_ok x (by first | exact Or.inl ⟨c4, rfl⟩ | exact Or.inr (Or.inl ⟨c4, c11, rfl⟩) | exact Or.inr (Or.inr ⟨c4, c11, rfl⟩))) dX6_isHeavy_19
    · refine lv_iconst (v := nI 1) hx hb dX6_isHeavy_14 (by decide) ?_
      refine lv_goto (tgt := 19) hx hb dX6_isHeavy_15 (by decide) ?_
      exact pu_zret hx hb hr hlocks hS (hv_ok x (by first | exact Or.inl ⟨c4, rfl⟩ | exact Or.inr (Or.inl ⟨c4, c11, rfl⟩) | exact Or.inr (Or.inr ⟨c4, c11, rfl⟩))) dX6_isHeavy_19

set_option maxHeartbeats 4000000 in
set_option maxRecDepth 100000 in
theorem c_X6_has (l : Launch) (D : va_G) (cy : Nat → ClassId) {S e : Nat} (hS9 : S < 2 ^ 31) (he9 : e < 32) : PU l yX6_has wsX6_has ({ frames := 0, cells := 0, slots := 0, locals := 0 }) D cy [.int (nI S), .int (nI e)] [] ((bI (S.testBit e))) := by
  refine Met.ofW (cc := cX6_has) (maxL := 2) (ret := (some .boolean)) (by decide) rfl ?_
  intro p ev s m args below meth c s₁ B hml hv
  obtain ⟨rfl, hK, hP⟩ := hv
  have hx := B.exec
  have hb := B.bytes
  have hr := B.returns
  have hts := atoms_spec (ws := wsX6_has) B.pre
  have hown : s.vm.findClass RX6 = some m.cls := findClass_of_methodNamed B.named
  have hlocks := B.notSynchronized
  have hS : va_S (fun _ => False) s.heap s.heap [] := va_S.rf
  have hP : va_P D vwCl [] s.heap := hP
  have hl := lv_entry ([.int (nI S), .int (nI e)]) (n := 2) (Nat.le_of_ble_eq_true rfl)
  rw [lg_entry_eq]
  generalize (lg_sl ([.int (nI S), .int (nI e)]) ++ List.replicate (2 - (lg_sl ([.int (nI S), .int (nI e)])).length) Slot.unset).toArray = ls at hl ⊢
  have hl : lv_has ls 2 [(0, .int (nI S)), (1, .int (nI e))] := hl
  have hgen := True.intro
  refine lv_iload_n hx hb dX6_has_0 rfl (lv_at hl 0 rfl) ?_
  refine lv_iload_n hx hb dX6_has_1 rfl (lv_at hl 1 rfl) ?_
  refine lv_ishr hx hb dX6_has_2 ?_
  refine lv_as (y := (nI S >>> (nI e &&& 31))) rfl ?_
  refine lv_iconst (v := nI 1) hx hb dX6_has_3 (by decide) ?_
  refine lv_iand hx hb dX6_has_4 ?_
  refine lv_as (y := (bI (S.testBit e))) (hb_of2 hS9 he9) ?_
  refine lv_iconst (v := nI 1) hx hb dX6_has_5 (by decide) ?_
  refine lv_icmp_ne (tgt := 13) hx hb dX6_has_6 (by decide) (fun c6 => ?_) (fun c6 => ?_)
  · have c6 : S.testBit e = false := by cases h : S.testBit e; rfl; exact absurd (by rw [h]; rfl) c6
    refine lv_iconst (v := nI 0) hx hb dX6_has_13 (by decide) ?_
    exact pu_zret hx hb hr hlocks hS (by rw [c6]; rfl) dX6_has_14
  · have c6 : S.testBit e = true := by cases h : S.testBit e; (rw [h] at c6; exact absurd c6 (by decide)); rfl
    refine lv_iconst (v := nI 1) hx hb dX6_has_9 (by decide) ?_
    refine lv_goto (tgt := 14) hx hb dX6_has_10 (by decide) ?_
    exact pu_zret hx hb hr hlocks hS (by rw [c6]; rfl) dX6_has_14

set_option maxHeartbeats 4000000 in
set_option maxRecDepth 100000 in
theorem c_X6_size (l : Launch) (D : va_G) (cy : Nat → ClassId) {S : Nat} (hS9 : S < 16384) : PU l yX6_size wsX6_size ({ frames := 0, cells := 0, slots := 0, locals := 0 }) D cy [.int (nI S)] [] ((nI (ms_card 14 S))) := by
  refine Met.ofW (cc := cX6_size) (maxL := 3) (ret := (some .int)) (by decide) rfl ?_
  intro p ev s m args below meth c s₁ B hml hv
  obtain ⟨rfl, hK, hP⟩ := hv
  have hx := B.exec
  have hb := B.bytes
  have hr := B.returns
  have hts := atoms_spec (ws := wsX6_size) B.pre
  have hown : s.vm.findClass RX6 = some m.cls := findClass_of_methodNamed B.named
  have hlocks := B.notSynchronized
  have hS : va_S (fun _ => False) s.heap s.heap [] := va_S.rf
  have hP : va_P D vwCl [] s.heap := hP
  have hl := lv_entry ([.int (nI S)]) (n := 3) (Nat.le_of_ble_eq_true rfl)
  rw [lg_entry_eq]
  generalize (lg_sl ([.int (nI S)]) ++ List.replicate (3 - (lg_sl ([.int (nI S)])).length) Slot.unset).toArray = ls at hl ⊢
  have hl : lv_has ls 3 [(0, .int (nI S))] := hl
  have hgen := True.intro
  refine lv_iconst (v := nI 0) hx hb dX6_size_0 (by decide) ?_
  refine lv_istore_n (lv' := [(1, .int (nI 0)), (0, .int (nI S))]) hx hb dX6_size_1 rfl hl (by decide) rfl (fun ls hl => ?_)
  refine lv_iconst (v := nI 0) hx hb dX6_size_2 (by decide) ?_
  refine lv_istore_n (lv' := [(2, .int (nI 0)), (1, .int (nI 0)), (0, .int (nI S))]) hx hb dX6_size_3 rfl hl (by decide) rfl (fun ls hl => ?_)
  have L4 : ∀ (n : Nat) (e : Nat), e ≤ 14 ∧ 15 ≤ e + n → ∀ (H : Heap) (locs : List Loc), va_P D vwCl [] H → va_S (fun _ => False) s.heap H locs → ∀ (ls : Array Slot), lv_has ls 3 [(0, .int (nI S)), (1, .int (nI (ms_card e S))), (2, .int (nI e))] → W p l ev (headSpec wsX6_size ({ frames := 0, cells := 0, slots := 0, locals := 0 })).room s m [.int (nI S)].toArray below meth c H locs 0 0 (MQ below (va_Qi (fun (x : Int32) (_ : Unit) => x = (nI (ms_card 14 S))) (fun _ _ => True) (fun _ => False)) [.int (nI S)].toArray s 0 0 (fun _ => False)) (F0 m 4 ls []) := by
    intro n
    induction n with
    | zero =>
      intro e hfuel  H locs hP hS ls hl
      exact absurd hfuel.2 (by have := hfuel.1; omega)
    | succ n ih4 =>
      intro e hfuel  H locs hP hS ls hl
      obtain ⟨hfu1, hfu2⟩ := hfuel
      refine lv_iload_n hx hb dX6_size_4 rfl (lv_at hl 2 rfl) ?_
      refine lv_bipush (v := nI 14) hx hb dX6_size_5 (by decide) ?_
      refine n_ge (a := e) (b := 14) (tgt := 24) hx hb dX6_size_7 (by decide) (by omega) (by omega) (fun c7 => ?_) (fun c7 => ?_)
      · refine lv_iload_n hx hb dX6_size_24 rfl (lv_at hl 1 rfl) ?_
        exact pu_iret (y := yX6_size) hx hb hr hlocks hS (by rw [show e = 14 by omega]) dX6_size_25
      · refine lv_iload_n hx hb dX6_size_10 rfl (lv_at hl 1 rfl) ?_
        refine lv_iload_n hx hb dX6_size_11 rfl (lv_at hl 0 rfl) ?_
        refine lv_iload_n hx hb dX6_size_12 rfl (lv_at hl 2 rfl) ?_
        refine lv_ishr hx hb dX6_size_13 ?_
        refine lv_as (y := (nI S >>> (nI e &&& 31))) rfl ?_
        refine lv_iconst (v := nI 1) hx hb dX6_size_14 (by decide) ?_
        refine lv_iand hx hb dX6_size_15 ?_
        refine lv_as (y := (bI (S.testBit e))) (hb_of2 (by omega) (by omega)) ?_
        refine lv_iadd hx hb dX6_size_16 ?_
        refine lv_as (y := (nI (ms_card (e + 1) S))) (card_s e S) ?_
        refine lv_istore_n (lv' := [(1, .int (nI (ms_card (e + 1) S))), (0, .int (nI S)), (2, .int (nI e))]) hx hb dX6_size_17 rfl hl (by decide) rfl (fun ls hl => ?_)
        refine lv_iinc (v := (nI (e + 1))) (lv' := [(2, .int (nI (e + 1))), (1, .int (nI (ms_card (e + 1) S))), (0, .int (nI S))]) hx hb dX6_size_18 hl (k := 2) rfl (ni_inc _) (by decide) rfl (fun ls hl => ?_)
        refine lv_goto (tgt := 4) hx hb dX6_size_21 (by decide) ?_
        exact ih4 (e + 1) ⟨by omega, by omega⟩  _ _ hP hS _ (lv_sub hl [2, 1, 0] rfl)
  exact L4 15 0 ⟨by omega, by omega⟩  _ _ hP hS _ (lv_sub hl [2, 1, 0] rfl)

set_option maxHeartbeats 4000000 in
set_option maxRecDepth 100000 in
theorem c_X6_weightOf (l : Launch) (D : va_G) (cy : Nat → ClassId) (ad : Nat → Nat) {g : GT} (hg : gOK g) (th kn ms : Int32) {S : Nat} (hS9 : S < 2 ^ gE g) : PU l yX6_weightOf wsX6_weightOf ({ frames := 1, cells := 0, slots := 0, locals := 21 }) D cy [.ref (ad 20), .int (nI S)] [(ad 20, .inr (5, [.int th, .int (nI (gV g)), .int (nI (gC g)), .int (nI (gE g)), .ref (ad 21), .ref (ad 22), .ref (ad 23), .ref (ad 24), .ref (ad 25), .int kn, .ref (ad 26), .ref (ad 27), .ref (ad 28), .int ms, .ref (ad 29), .ref (ad 30)])), (ad 25, .inl (cy 0, 14, .inl (fun i => zI (gW g i))))] ((zI (wS g S))) := by
  refine Met.ofW (cc := cX6_weightOf) (maxL := 4) (ret := (some .int)) (by decide) rfl ?_
  intro p ev s m args below meth c s₁ B hml hv
  obtain ⟨rfl, hK, hP⟩ := hv
  have hx := B.exec
  have hb := B.bytes
  have hr := B.returns
  have hts := atoms_spec (ws := wsX6_weightOf) B.pre
  have hown : s.vm.findClass RX6 = some m.cls := findClass_of_methodNamed B.named
  have hlocks := B.notSynchronized
  have hS : va_S (fun _ => False) s.heap s.heap [] := va_S.rf
  have hP : va_P D vwCl [(ad 20, .inr (5, [.int th, .int (nI (gV g)), .int (nI (gC g)), .int (nI (gE g)), .ref (ad 21), .ref (ad 22), .ref (ad 23), .ref (ad 24), .ref (ad 25), .int kn, .ref (ad 26), .ref (ad 27), .ref (ad 28), .int ms, .ref (ad 29), .ref (ad 30)])), (ad 25, .inl (cy 0, 14, .inl (fun i => zI (gW g i))))] s.heap := hP
  have inX6 : ∀ w ∈ wsX60, w ∈ wsX6_weightOf := by decide +kernel
  have hl := lv_entry ([.ref (ad 20), .int (nI S)]) (n := 4) (Nat.le_of_ble_eq_true rfl)
  rw [lg_entry_eq]
  generalize (lg_sl ([.ref (ad 20), .int (nI S)]) ++ List.replicate (4 - (lg_sl ([.ref (ad 20), .int (nI S)])).length) Slot.unset).toArray = ls at hl ⊢
  have hl : lv_has ls 4 [(0, .ref (ad 20)), (1, .int (nI S))] := hl
  have hgen := True.intro
  have hE := hg.2.2.1
  have hV := hg.1
  have hC := hg.2.1
  have hS8 : 2 ^ gE g ≤ 2 ^ 14 := Nat.pow_le_pow_right (by decide) hE
  refine lv_iconst (v := nI 0) hx hb dX6_weightOf_0 (by decide) ?_
  refine lv_istore_n (lv' := [(2, .int (nI 0)), (0, .ref (ad 20)), (1, .int (nI S))]) hx hb dX6_weightOf_1 rfl hl (by decide) rfl (fun ls hl => ?_)
  refine lv_iconst (v := nI 0) hx hb dX6_weightOf_2 (by decide) ?_
  refine lv_istore_n (lv' := [(3, .int (nI 0)), (2, .int (nI 0)), (0, .ref (ad 20)), (1, .int (nI S))]) hx hb dX6_weightOf_3 rfl hl (by decide) rfl (fun ls hl => ?_)
  have L4 : ∀ (n : Nat) (e : Nat), e ≤ gE g ∧ gE g + 1 ≤ e + n → ∀ (H : Heap) (locs : List Loc), va_P D vwCl [(ad 20, .inr (5, [.int th, .int (nI (gV g)), .int (nI (gC g)), .int (nI (gE g)), .ref (ad 21), .ref (ad 22), .ref (ad 23), .ref (ad 24), .ref (ad 25), .int kn, .ref (ad 26), .ref (ad 27), .ref (ad 28), .int ms, .ref (ad 29), .ref (ad 30)])), (ad 25, .inl (cy 0, 14, .inl (fun i => zI (gW g i))))] H → va_S (fun _ => False) s.heap H locs → ∀ (ls : Array Slot), lv_has ls 4 [(0, .ref (ad 20)), (1, .int (nI S)), (2, .int (zI (wZ (gW g) e S))), (3, .int (nI e))] → W p l ev (headSpec wsX6_weightOf ({ frames := 1, cells := 0, slots := 0, locals := 21 })).room s m [.ref (ad 20), .int (nI S)].toArray below meth c H locs 0 0 (MQ below (va_Qi (fun (x : Int32) (_ : Unit) => x = (zI (wS g S))) (fun _ _ => True) (fun _ => False)) [.ref (ad 20), .int (nI S)].toArray s 0 0 (fun _ => False)) (F0 m 4 ls []) := by
    intro n
    induction n with
    | zero =>
      intro e hfuel  H locs hP hS ls hl
      exact absurd hfuel.2 (by have := hfuel.1; omega)
    | succ n ih4 =>
      intro e hfuel  H locs hP hS ls hl
      obtain ⟨hfu1, hfu2⟩ := hfuel
      refine lv_iload_n hx hb dX6_weightOf_4 rfl (lv_at hl 3 rfl) ?_
      refine lv_aload_n hx hb dX6_weightOf_5 rfl (lv_at hl 0 rfl) ?_
      refine va_get (D := D) (ci := 5) (v := .int (nI (gE g))) (C := RX6) (T := TX6) (N := 16) hx hb hts inX6 hown hK.1 hP 0 rfl rfl 3 (by decide) (hts (.fieldLink RX6 56 "ColourForestsModel" "edges" "I") (List.mem_of_getElem? (i := 1) rfl)) (fun _ h9 => h9) rfl dX6_weightOf_6 ?_
      refine n_ge (a := e) (b := (gE g)) (tgt := 39) hx hb dX6_weightOf_9 (by decide) (by omega) (by omega) (fun c9 => ?_) (fun c9 => ?_)
      · refine lv_iload_n hx hb dX6_weightOf_39 rfl (lv_at hl 2 rfl) ?_
        exact pu_iret (y := yX6_weightOf) hx hb hr hlocks hS (by rw [show e = gE g by omega]; rfl) dX6_weightOf_40
      · refine lv_iload_n hx hb dX6_weightOf_12 rfl (lv_at hl 2 rfl) ?_
        refine lv_iload_n hx hb dX6_weightOf_13 rfl (lv_at hl 1 rfl) ?_
        refine lv_iload_n hx hb dX6_weightOf_14 rfl (lv_at hl 3 rfl) ?_
        refine pu_call (va_runS (As := [.int (nI S), .int (nI e)]) (rest := [.int (zI (wZ (gW g) e S))]) ⟨hx, hb, hml, hown, hts⟩ (c_X6_has l D cy (S := S) (e := e) (by omega) (by omega)) (va_cwS 2 hts gX6_weightOf_X6_has rfl rfl rfl (by decide +kernel) ⟨Nat.le_of_ble_eq_true rfl, Nat.le_of_ble_eq_true rfl⟩) (PU_preS hK hP [] rfl) rfl rfl hl.1 rfl (lv_room (Nat.le_of_ble_eq_true rfl)) dX6_weightOf_15 ⟨(Nat.zero_le _), (Nat.zero_le _)⟩) hS hP (fun H locs hP hS => ?_)
        refine b_eq (b := (S.testBit e)) (tgt := 30) hx hb dX6_weightOf_18 (by decide) (fun c18 => ?_) (fun c18 => ?_)
        · refine lv_iconst (v := nI 0) hx hb dX6_weightOf_30 (by decide) ?_
          refine lv_iadd hx hb dX6_weightOf_31 ?_
          refine lv_as (y := (zI (wZ (gW g) (e + 1) S))) (by rw [wZ_s, if_neg (by rw [c18]; decide), Int.add_zero]; show zI _ + zI 0 = _; rw [zI_add, Int.add_zero]) ?_
          refine lv_istore_n (lv' := [(2, .int (zI (wZ (gW g) (e + 1) S))), (0, .ref (ad 20)), (1, .int (nI S)), (3, .int (nI e))]) hx hb dX6_weightOf_32 rfl hl (by decide) rfl (fun ls hl => ?_)
          refine lv_iinc (v := (nI (e + 1))) (lv' := [(3, .int (nI (e + 1))), (2, .int (zI (wZ (gW g) (e + 1) S))), (0, .ref (ad 20)), (1, .int (nI S))]) hx hb dX6_weightOf_33 hl (k := 3) rfl (ni_inc _) (by decide) rfl (fun ls hl => ?_)
          refine lv_goto (tgt := 4) hx hb dX6_weightOf_36 (by decide) ?_
          exact ih4 (e + 1) ⟨by omega, by omega⟩  _ _ hP hS _ (lv_sub hl [2, 3, 1, 0] rfl)
        · refine lv_aload_n hx hb dX6_weightOf_21 rfl (lv_at hl 0 rfl) ?_
          refine va_get (D := D) (ci := 5) (v := .ref (ad 25)) (C := RX6) (T := TX6) (N := 16) hx hb hts inX6 hown hK.1 hP 0 rfl rfl 8 (by decide) (hts (.fieldLink RX6 29 "ColourForestsModel" "weights" "[I") (List.mem_of_getElem? (i := 2) rfl)) (fun _ h9 => h9) rfl dX6_weightOf_22 ?_
          refine lv_iload_n hx hb dX6_weightOf_25 rfl (lv_at hl 3 rfl) ?_
          refine rd_i (k := e) (v := (zI (gW g e))) hx hb hK hP 1 rfl (by omega) (by decide) rfl dX6_weightOf_26 ?_
          refine lv_goto (tgt := 31) hx hb dX6_weightOf_27 (by decide) ?_
          refine lv_iadd hx hb dX6_weightOf_31 ?_
          refine lv_as (y := (zI (wZ (gW g) (e + 1) S))) (by rw [wZ_s, if_pos c18, zI_add]) ?_
          refine lv_istore_n (lv' := [(2, .int (zI (wZ (gW g) (e + 1) S))), (0, .ref (ad 20)), (1, .int (nI S)), (3, .int (nI e))]) hx hb dX6_weightOf_32 rfl hl (by decide) rfl (fun ls hl => ?_)
          refine lv_iinc (v := (nI (e + 1))) (lv' := [(3, .int (nI (e + 1))), (2, .int (zI (wZ (gW g) (e + 1) S))), (0, .ref (ad 20)), (1, .int (nI S))]) hx hb dX6_weightOf_33 hl (k := 3) rfl (ni_inc _) (by decide) rfl (fun ls hl => ?_)
          refine lv_goto (tgt := 4) hx hb dX6_weightOf_36 (by decide) ?_
          exact ih4 (e + 1) ⟨by omega, by omega⟩  _ _ hP hS _ (lv_sub hl [2, 3, 1, 0] rfl)
  exact L4 (gE g + 1) 0 ⟨by omega, by omega⟩  _ _ hP hS _ (lv_sub hl [2, 3, 1, 0] rfl)

set_option maxHeartbeats 4000000 in
set_option maxRecDepth 100000 in
theorem c_X6_isSet (l : Launch) (D : va_G) (cy : Nat → ClassId) (ad : Nat → Nat) {g : GT} (hg : gOK g) (th kn ms : Int32) (x : Int32) : PU l yX6_isSet wsX6_isSet ({ frames := 0, cells := 0, slots := 0, locals := 0 }) D cy [.ref (ad 20), .int x] [(ad 20, .inr (5, [.int th, .int (nI (gV g)), .int (nI (gC g)), .int (nI (gE g)), .ref (ad 21), .ref (ad 22), .ref (ad 23), .ref (ad 24), .ref (ad 25), .int kn, .ref (ad 26), .ref (ad 27), .ref (ad 28), .int ms, .ref (ad 29), .ref (ad 30)]))] ((bI (isN x (2 ^ gE g)))) := by
  refine Met.ofW (cc := cX6_isSet) (maxL := 2) (ret := (some .boolean)) (by decide) rfl ?_
  intro p ev s m args below meth c s₁ B hml hv
  obtain ⟨rfl, hK, hP⟩ := hv
  have hx := B.exec
  have hb := B.bytes
  have hr := B.returns
  have hts := atoms_spec (ws := wsX6_isSet) B.pre
  have hown : s.vm.findClass RX6 = some m.cls := findClass_of_methodNamed B.named
  have hlocks := B.notSynchronized
  have hS : va_S (fun _ => False) s.heap s.heap [] := va_S.rf
  have hP : va_P D vwCl [(ad 20, .inr (5, [.int th, .int (nI (gV g)), .int (nI (gC g)), .int (nI (gE g)), .ref (ad 21), .ref (ad 22), .ref (ad 23), .ref (ad 24), .ref (ad 25), .int kn, .ref (ad 26), .ref (ad 27), .ref (ad 28), .int ms, .ref (ad 29), .ref (ad 30)]))] s.heap := hP
  have inX6 : ∀ w ∈ wsX60, w ∈ wsX6_isSet := by decide +kernel
  have hl := lv_entry ([.ref (ad 20), .int x]) (n := 2) (Nat.le_of_ble_eq_true rfl)
  rw [lg_entry_eq]
  generalize (lg_sl ([.ref (ad 20), .int x]) ++ List.replicate (2 - (lg_sl ([.ref (ad 20), .int x])).length) Slot.unset).toArray = ls at hl ⊢
  have hl : lv_has ls 2 [(0, .ref (ad 20)), (1, .int x)] := hl
  have hgen := True.intro
  have hE := hg.2.2.1
  have hV := hg.1
  have hC := hg.2.1
  have hS8 : 2 ^ gE g ≤ 2 ^ 14 := Nat.pow_le_pow_right (by decide) hE
  refine lv_iload_n hx hb dX6_isSet_0 rfl (lv_at hl 1 rfl) ?_
  refine lv_if_lt (tgt := 18) hx hb dX6_isSet_1 (by decide) (fun c1 => ?_) (fun c1 => ?_)
  · refine lv_iconst (v := nI 0) hx hb dX6_isSet_18 (by decide) ?_
    exact pu_zret hx hb hr hlocks hS (is_ok x (by omega) (by first | exact Or.inl ⟨c1, rfl⟩ | exact Or.inr (Or.inl ⟨c1, c11, rfl⟩) | exact Or.inr (Or.inr ⟨c1, c11, rfl⟩))) dX6_isSet_19
  · refine lv_iload_n hx hb dX6_isSet_4 rfl (lv_at hl 1 rfl) ?_
    refine lv_iconst (v := nI 1) hx hb dX6_isSet_5 (by decide) ?_
    refine lv_aload_n hx hb dX6_isSet_6 rfl (lv_at hl 0 rfl) ?_
    refine va_get (D := D) (ci := 5) (v := .int (nI (gE g))) (C := RX6) (T := TX6) (N := 16) hx hb hts inX6 hown hK.1 hP 0 rfl rfl 3 (by decide) (hts (.fieldLink RX6 56 "ColourForestsModel" "edges" "I") (List.mem_of_getElem? (i := 1) rfl)) (fun _ h9 => h9) rfl dX6_isSet_7 ?_
    refine lv_ishl hx hb dX6_isSet_10 ?_
    refine lv_as (y := (nI (2 ^ (gE g)))) (ni_bit (by omega)) ?_
    refine lv_icmp_ge (tgt := 18) hx hb dX6_isSet_11 (by decide) (fun c11 => ?_) (fun c11 => ?_)
    · refine lv_iconst (v := nI 0) hx hb dX6_isSet_18 (by decide) ?_
      exact pu_zret hx hb hr hlocks hS (is_ok x (by omega) (by first | exact Or.inl ⟨c1, rfl⟩ | exact Or.inr (Or.inl ⟨c1, c11, rfl⟩) | exact Or.inr (Or.inr ⟨c1, c11, rfl⟩))) dX6_isSet_19
    · refine lv_iconst (v := nI 1) hx hb dX6_isSet_14 (by decide) ?_
      refine lv_goto (tgt := 19) hx hb dX6_isSet_15 (by decide) ?_
      exact pu_zret hx hb hr hlocks hS (is_ok x (by omega) (by first | exact Or.inl ⟨c1, rfl⟩ | exact Or.inr (Or.inl ⟨c1, c11, rfl⟩) | exact Or.inr (Or.inr ⟨c1, c11, rfl⟩))) dX6_isSet_19

set_option maxHeartbeats 4000000 in
set_option maxRecDepth 100000 in
theorem c_X6_isKind (l : Launch) (D : va_G) (cy : Nat → ClassId) (x : Int32) : PU l yX6_isKind wsX6_isKind ({ frames := 0, cells := 0, slots := 0, locals := 0 }) D cy [.int x] [] ((bI (decide (x = 0 ∨ x = nI 1)))) := by
  refine Met.ofW (cc := cX6_isKind) (maxL := 1) (ret := (some .boolean)) (by decide) rfl ?_
  intro p ev s m args below meth c s₁ B hml hv
  obtain ⟨rfl, hK, hP⟩ := hv
  have hx := B.exec
  have hb := B.bytes
  have hr := B.returns
  have hts := atoms_spec (ws := wsX6_isKind) B.pre
  have hown : s.vm.findClass RX6 = some m.cls := findClass_of_methodNamed B.named
  have hlocks := B.notSynchronized
  have hS : va_S (fun _ => False) s.heap s.heap [] := va_S.rf
  have hP : va_P D vwCl [] s.heap := hP
  have hl := lv_entry ([.int x]) (n := 1) (Nat.le_of_ble_eq_true rfl)
  rw [lg_entry_eq]
  generalize (lg_sl ([.int x]) ++ List.replicate (1 - (lg_sl ([.int x])).length) Slot.unset).toArray = ls at hl ⊢
  have hl : lv_has ls 1 [(0, .int x)] := hl
  have hgen := True.intro
  refine lv_iload_n hx hb dX6_isKind_0 rfl (lv_at hl 0 rfl) ?_
  refine lv_if_eq (tgt := 9) hx hb dX6_isKind_1 (by decide) (fun c1 => ?_) (fun c1 => ?_)
  · refine lv_iconst (v := nI 1) hx hb dX6_isKind_9 (by decide) ?_
    refine lv_goto (tgt := 14) hx hb dX6_isKind_10 (by decide) ?_
    exact pu_zret hx hb hr hlocks hS (by first | (rw [decide_eq_true (Or.inl c1)]; rfl) | (rw [decide_eq_true (Or.inr c6)]; rfl) | (rw [decide_eq_false (fun q => q.elim c1 c6)]; rfl)) dX6_isKind_14
  · refine lv_iload_n hx hb dX6_isKind_4 rfl (lv_at hl 0 rfl) ?_
    refine lv_iconst (v := nI 1) hx hb dX6_isKind_5 (by decide) ?_
    refine lv_icmp_ne (tgt := 13) hx hb dX6_isKind_6 (by decide) (fun c6 => ?_) (fun c6 => ?_)
    · refine lv_iconst (v := nI 0) hx hb dX6_isKind_13 (by decide) ?_
      exact pu_zret hx hb hr hlocks hS (by first | (rw [decide_eq_true (Or.inl c1)]; rfl) | (rw [decide_eq_true (Or.inr c6)]; rfl) | (rw [decide_eq_false (fun q => q.elim c1 c6)]; rfl)) dX6_isKind_14
    · refine lv_iconst (v := nI 1) hx hb dX6_isKind_9 (by decide) ?_
      refine lv_goto (tgt := 14) hx hb dX6_isKind_10 (by decide) ?_
      exact pu_zret hx hb hr hlocks hS (by first | (rw [decide_eq_true (Or.inl c1)]; rfl) | (rw [decide_eq_true (Or.inr c6)]; rfl) | (rw [decide_eq_false (fun q => q.elim c1 c6)]; rfl)) dX6_isKind_14

set_option maxHeartbeats 4000000 in
set_option maxRecDepth 100000 in
theorem c_X6_hasNoRing (l : Launch) (D : va_G) (cy : Nat → ClassId) (ad : Nat → Nat) {g : GT} (hg : gOK g) (th kn ms : Int32) (fp : Nat → Int32) {S : Nat} (hS9 : S < 2 ^ gE g) : WI l yX6_hasNoRing wsX6_hasNoRing ({ frames := 1, cells := 0, slots := 0, locals := 21 }) D cy [.ref (ad 20), .int (nI S)] [(ad 20, .inr (5, [.int th, .int (nI (gV g)), .int (nI (gC g)), .int (nI (gE g)), .ref (ad 21), .ref (ad 22), .ref (ad 23), .ref (ad 24), .ref (ad 25), .int kn, .ref (ad 26), .ref (ad 27), .ref (ad 28), .int ms, .ref (ad 29), .ref (ad 30)])), (ad 22, .inl (cy 0, 14, .inl (fun i => nI (gF g i)))), (ad 23, .inl (cy 0, 14, .inl (fun i => nI (gS g i)))), (ad 29, .inl (cy 0, 8, .inl fp))] (fun (r : Int32) (_ : Nat → Int32) => r = bI (fr g S)) (fun u : Nat → Int32 => [(ad 20, .inr (5, [.int th, .int (nI (gV g)), .int (nI (gC g)), .int (nI (gE g)), .ref (ad 21), .ref (ad 22), .ref (ad 23), .ref (ad 24), .ref (ad 25), .int kn, .ref (ad 26), .ref (ad 27), .ref (ad 28), .int ms, .ref (ad 29), .ref (ad 30)])), (ad 22, .inl (cy 0, 14, .inl (fun i => nI (gF g i)))), (ad 23, .inl (cy 0, 14, .inl (fun i => nI (gS g i)))), (ad 29, .inl (cy 0, 8, .inl u))]) := by
  refine Met.ofW (cc := cX6_hasNoRing) (maxL := 6) (ret := (some .boolean)) (by decide) rfl ?_
  intro p ev s m args below meth c s₁ B hml hv
  obtain ⟨rfl, ⟨hK, hP⟩, hD0⟩ := hv
  have hx := B.exec
  have hb := B.bytes
  have hr := B.returns
  have hts := atoms_spec (ws := wsX6_hasNoRing) B.pre
  have hown : s.vm.findClass RX6 = some m.cls := findClass_of_methodNamed B.named
  have hlocks := B.notSynchronized
  have hD : va_D (inW [(ad 20, .inr (5, [.int th, .int (nI (gV g)), .int (nI (gC g)), .int (nI (gE g)), .ref (ad 21), .ref (ad 22), .ref (ad 23), .ref (ad 24), .ref (ad 25), .int kn, .ref (ad 26), .ref (ad 27), .ref (ad 28), .int ms, .ref (ad 29), .ref (ad 30)])), (ad 22, .inl (cy 0, 14, .inl (fun i => nI (gF g i)))), (ad 23, .inl (cy 0, 14, .inl (fun i => nI (gS g i)))), (ad 29, .inl (cy 0, 8, .inl fp))]) ([(ad 20, .inr (5, [.int th, .int (nI (gV g)), .int (nI (gC g)), .int (nI (gE g)), .ref (ad 21), .ref (ad 22), .ref (ad 23), .ref (ad 24), .ref (ad 25), .int kn, .ref (ad 26), .ref (ad 27), .ref (ad 28), .int ms, .ref (ad 29), .ref (ad 30)])), (ad 22, .inl (cy 0, 14, .inl (fun i => nI (gF g i)))), (ad 23, .inl (cy 0, 14, .inl (fun i => nI (gS g i)))), (ad 29, .inl (cy 0, 8, .inl fp))]) := inW_self hD0
  have hS : va_S (inW [(ad 20, .inr (5, [.int th, .int (nI (gV g)), .int (nI (gC g)), .int (nI (gE g)), .ref (ad 21), .ref (ad 22), .ref (ad 23), .ref (ad 24), .ref (ad 25), .int kn, .ref (ad 26), .ref (ad 27), .ref (ad 28), .int ms, .ref (ad 29), .ref (ad 30)])), (ad 22, .inl (cy 0, 14, .inl (fun i => nI (gF g i)))), (ad 23, .inl (cy 0, 14, .inl (fun i => nI (gS g i)))), (ad 29, .inl (cy 0, 8, .inl fp))]) s.heap s.heap [] := va_S.rf
  have hP : va_P D vwCl [(ad 20, .inr (5, [.int th, .int (nI (gV g)), .int (nI (gC g)), .int (nI (gE g)), .ref (ad 21), .ref (ad 22), .ref (ad 23), .ref (ad 24), .ref (ad 25), .int kn, .ref (ad 26), .ref (ad 27), .ref (ad 28), .int ms, .ref (ad 29), .ref (ad 30)])), (ad 22, .inl (cy 0, 14, .inl (fun i => nI (gF g i)))), (ad 23, .inl (cy 0, 14, .inl (fun i => nI (gS g i)))), (ad 29, .inl (cy 0, 8, .inl fp))] s.heap := hP
  have inX6 : ∀ w ∈ wsX60, w ∈ wsX6_hasNoRing := by decide +kernel
  have hl := lv_entry ([.ref (ad 20), .int (nI S)]) (n := 6) (Nat.le_of_ble_eq_true rfl)
  rw [lg_entry_eq]
  generalize (lg_sl ([.ref (ad 20), .int (nI S)]) ++ List.replicate (6 - (lg_sl ([.ref (ad 20), .int (nI S)])).length) Slot.unset).toArray = ls at hl ⊢
  have hl : lv_has ls 6 [(0, .ref (ad 20)), (1, .int (nI S))] := hl
  have hgen := True.intro
  have hE := hg.2.2.1
  have hV := hg.1
  have hC := hg.2.1
  have hS8 : 2 ^ gE g ≤ 2 ^ 14 := Nat.pow_le_pow_right (by decide) hE
  refine lv_iconst (v := nI 0) hx hb dX6_hasNoRing_0 (by decide) ?_
  refine lv_istore_n (lv' := [(2, .int (nI 0)), (0, .ref (ad 20)), (1, .int (nI S))]) hx hb dX6_hasNoRing_1 rfl hl (by decide) rfl (fun ls hl => ?_)
  have L2 : ∀ (n : Nat) (v : Nat) (q : Nat → Int32), v ≤ gV g ∧ gV g + 1 ≤ v + n → ago v q (fun v => v) → ∀ (H : Heap) (locs : List Loc), va_P D vwCl [(ad 20, .inr (5, [.int th, .int (nI (gV g)), .int (nI (gC g)), .int (nI (gE g)), .ref (ad 21), .ref (ad 22), .ref (ad 23), .ref (ad 24), .ref (ad 25), .int kn, .ref (ad 26), .ref (ad 27), .ref (ad 28), .int ms, .ref (ad 29), .ref (ad 30)])), (ad 22, .inl (cy 0, 14, .inl (fun i => nI (gF g i)))), (ad 23, .inl (cy 0, 14, .inl (fun i => nI (gS g i)))), (ad 29, .inl (cy 0, 8, .inl q))] H → va_D (inW [(ad 20, .inr (5, [.int th, .int (nI (gV g)), .int (nI (gC g)), .int (nI (gE g)), .ref (ad 21), .ref (ad 22), .ref (ad 23), .ref (ad 24), .ref (ad 25), .int kn, .ref (ad 26), .ref (ad 27), .ref (ad 28), .int ms, .ref (ad 29), .ref (ad 30)])), (ad 22, .inl (cy 0, 14, .inl (fun i => nI (gF g i)))), (ad 23, .inl (cy 0, 14, .inl (fun i => nI (gS g i)))), (ad 29, .inl (cy 0, 8, .inl fp))]) [(ad 20, .inr (5, [.int th, .int (nI (gV g)), .int (nI (gC g)), .int (nI (gE g)), .ref (ad 21), .ref (ad 22), .ref (ad 23), .ref (ad 24), .ref (ad 25), .int kn, .ref (ad 26), .ref (ad 27), .ref (ad 28), .int ms, .ref (ad 29), .ref (ad 30)])), (ad 22, .inl (cy 0, 14, .inl (fun i => nI (gF g i)))), (ad 23, .inl (cy 0, 14, .inl (fun i => nI (gS g i)))), (ad 29, .inl (cy 0, 8, .inl q))] → va_S (inW [(ad 20, .inr (5, [.int th, .int (nI (gV g)), .int (nI (gC g)), .int (nI (gE g)), .ref (ad 21), .ref (ad 22), .ref (ad 23), .ref (ad 24), .ref (ad 25), .int kn, .ref (ad 26), .ref (ad 27), .ref (ad 28), .int ms, .ref (ad 29), .ref (ad 30)])), (ad 22, .inl (cy 0, 14, .inl (fun i => nI (gF g i)))), (ad 23, .inl (cy 0, 14, .inl (fun i => nI (gS g i)))), (ad 29, .inl (cy 0, 8, .inl fp))]) s.heap H locs → ∀ (ls : Array Slot), lv_has ls 6 [(0, .ref (ad 20)), (1, .int (nI S)), (2, .int (nI v))] → W p l ev (headSpec wsX6_hasNoRing ({ frames := 1, cells := 0, slots := 0, locals := 21 })).room s m [.ref (ad 20), .int (nI S)].toArray below meth c H locs 0 0 (MQ below (va_Qi (fun (r : Int32) (_ : Nat → Int32) => r = bI (fr g S)) (fun u t => va_P D vwCl ((fun u : Nat → Int32 => [(ad 20, .inr (5, [.int th, .int (nI (gV g)), .int (nI (gC g)), .int (nI (gE g)), .ref (ad 21), .ref (ad 22), .ref (ad 23), .ref (ad 24), .ref (ad 25), .int kn, .ref (ad 26), .ref (ad 27), .ref (ad 28), .int ms, .ref (ad 29), .ref (ad 30)])), (ad 22, .inl (cy 0, 14, .inl (fun i => nI (gF g i)))), (ad 23, .inl (cy 0, 14, .inl (fun i => nI (gS g i)))), (ad 29, .inl (cy 0, 8, .inl u))]) u) t.heap) (inW [(ad 20, .inr (5, [.int th, .int (nI (gV g)), .int (nI (gC g)), .int (nI (gE g)), .ref (ad 21), .ref (ad 22), .ref (ad 23), .ref (ad 24), .ref (ad 25), .int kn, .ref (ad 26), .ref (ad 27), .ref (ad 28), .int ms, .ref (ad 29), .ref (ad 30)])), (ad 22, .inl (cy 0, 14, .inl (fun i => nI (gF g i)))), (ad 23, .inl (cy 0, 14, .inl (fun i => nI (gS g i)))), (ad 29, .inl (cy 0, 8, .inl fp))])) [.ref (ad 20), .int (nI S)].toArray s 0 0 (inW [(ad 20, .inr (5, [.int th, .int (nI (gV g)), .int (nI (gC g)), .int (nI (gE g)), .ref (ad 21), .ref (ad 22), .ref (ad 23), .ref (ad 24), .ref (ad 25), .int kn, .ref (ad 26), .ref (ad 27), .ref (ad 28), .int ms, .ref (ad 29), .ref (ad 30)])), (ad 22, .inl (cy 0, 14, .inl (fun i => nI (gF g i)))), (ad 23, .inl (cy 0, 14, .inl (fun i => nI (gS g i)))), (ad 29, .inl (cy 0, 8, .inl fp))])) (F0 m 2 ls []) := by
    intro n
    induction n with
    | zero =>
      intro v q hfuel hago H locs hP hD hS ls hl
      exact absurd hfuel.2 (by have := hfuel.1; omega)
    | succ n ih2 =>
      intro v q hfuel hago H locs hP hD hS ls hl
      obtain ⟨hfu1, hfu2⟩ := hfuel
      refine lv_iload_n hx hb dX6_hasNoRing_2 rfl (lv_at hl 2 rfl) ?_
      refine lv_aload_n hx hb dX6_hasNoRing_3 rfl (lv_at hl 0 rfl) ?_
      refine va_get (D := D) (ci := 5) (v := .int (nI (gV g))) (C := RX6) (T := TX6) (N := 16) hx hb hts inX6 hown hK.1 hP 0 rfl rfl 1 (by decide) (hts (.fieldLink RX6 7 "ColourForestsModel" "vertices" "I") (List.mem_of_getElem? (i := 1) rfl)) (fun _ h9 => h9) rfl dX6_hasNoRing_4 ?_
      refine n_ge (a := v) (b := (gV g)) (tgt := 23) hx hb dX6_hasNoRing_7 (by decide) (by omega) (by omega) (fun c7 => ?_) (fun c7 => ?_)
      · refine lv_iconst (v := nI 0) hx hb dX6_hasNoRing_23 (by decide) ?_
        refine lv_istore_n (lv' := [(2, .int (nI 0)), (0, .ref (ad 20)), (1, .int (nI S))]) hx hb dX6_hasNoRing_24 rfl hl (by decide) rfl (fun ls hl => ?_)
        have L25 : ∀ (n : Nat) (e : Nat) (q : Nat → Int32), e ≤ gE g ∧ gE g + 1 ≤ e + n → rng g S e q → ∀ (H : Heap) (locs : List Loc), va_P D vwCl [(ad 20, .inr (5, [.int th, .int (nI (gV g)), .int (nI (gC g)), .int (nI (gE g)), .ref (ad 21), .ref (ad 22), .ref (ad 23), .ref (ad 24), .ref (ad 25), .int kn, .ref (ad 26), .ref (ad 27), .ref (ad 28), .int ms, .ref (ad 29), .ref (ad 30)])), (ad 22, .inl (cy 0, 14, .inl (fun i => nI (gF g i)))), (ad 23, .inl (cy 0, 14, .inl (fun i => nI (gS g i)))), (ad 29, .inl (cy 0, 8, .inl q))] H → va_D (inW [(ad 20, .inr (5, [.int th, .int (nI (gV g)), .int (nI (gC g)), .int (nI (gE g)), .ref (ad 21), .ref (ad 22), .ref (ad 23), .ref (ad 24), .ref (ad 25), .int kn, .ref (ad 26), .ref (ad 27), .ref (ad 28), .int ms, .ref (ad 29), .ref (ad 30)])), (ad 22, .inl (cy 0, 14, .inl (fun i => nI (gF g i)))), (ad 23, .inl (cy 0, 14, .inl (fun i => nI (gS g i)))), (ad 29, .inl (cy 0, 8, .inl fp))]) [(ad 20, .inr (5, [.int th, .int (nI (gV g)), .int (nI (gC g)), .int (nI (gE g)), .ref (ad 21), .ref (ad 22), .ref (ad 23), .ref (ad 24), .ref (ad 25), .int kn, .ref (ad 26), .ref (ad 27), .ref (ad 28), .int ms, .ref (ad 29), .ref (ad 30)])), (ad 22, .inl (cy 0, 14, .inl (fun i => nI (gF g i)))), (ad 23, .inl (cy 0, 14, .inl (fun i => nI (gS g i)))), (ad 29, .inl (cy 0, 8, .inl q))] → va_S (inW [(ad 20, .inr (5, [.int th, .int (nI (gV g)), .int (nI (gC g)), .int (nI (gE g)), .ref (ad 21), .ref (ad 22), .ref (ad 23), .ref (ad 24), .ref (ad 25), .int kn, .ref (ad 26), .ref (ad 27), .ref (ad 28), .int ms, .ref (ad 29), .ref (ad 30)])), (ad 22, .inl (cy 0, 14, .inl (fun i => nI (gF g i)))), (ad 23, .inl (cy 0, 14, .inl (fun i => nI (gS g i)))), (ad 29, .inl (cy 0, 8, .inl fp))]) s.heap H locs → ∀ (ls : Array Slot), lv_has ls 6 [(0, .ref (ad 20)), (1, .int (nI S)), (2, .int (nI e))] → W p l ev (headSpec wsX6_hasNoRing ({ frames := 1, cells := 0, slots := 0, locals := 21 })).room s m [.ref (ad 20), .int (nI S)].toArray below meth c H locs 0 0 (MQ below (va_Qi (fun (r : Int32) (_ : Nat → Int32) => r = bI (fr g S)) (fun u t => va_P D vwCl ((fun u : Nat → Int32 => [(ad 20, .inr (5, [.int th, .int (nI (gV g)), .int (nI (gC g)), .int (nI (gE g)), .ref (ad 21), .ref (ad 22), .ref (ad 23), .ref (ad 24), .ref (ad 25), .int kn, .ref (ad 26), .ref (ad 27), .ref (ad 28), .int ms, .ref (ad 29), .ref (ad 30)])), (ad 22, .inl (cy 0, 14, .inl (fun i => nI (gF g i)))), (ad 23, .inl (cy 0, 14, .inl (fun i => nI (gS g i)))), (ad 29, .inl (cy 0, 8, .inl u))]) u) t.heap) (inW [(ad 20, .inr (5, [.int th, .int (nI (gV g)), .int (nI (gC g)), .int (nI (gE g)), .ref (ad 21), .ref (ad 22), .ref (ad 23), .ref (ad 24), .ref (ad 25), .int kn, .ref (ad 26), .ref (ad 27), .ref (ad 28), .int ms, .ref (ad 29), .ref (ad 30)])), (ad 22, .inl (cy 0, 14, .inl (fun i => nI (gF g i)))), (ad 23, .inl (cy 0, 14, .inl (fun i => nI (gS g i)))), (ad 29, .inl (cy 0, 8, .inl fp))])) [.ref (ad 20), .int (nI S)].toArray s 0 0 (inW [(ad 20, .inr (5, [.int th, .int (nI (gV g)), .int (nI (gC g)), .int (nI (gE g)), .ref (ad 21), .ref (ad 22), .ref (ad 23), .ref (ad 24), .ref (ad 25), .int kn, .ref (ad 26), .ref (ad 27), .ref (ad 28), .int ms, .ref (ad 29), .ref (ad 30)])), (ad 22, .inl (cy 0, 14, .inl (fun i => nI (gF g i)))), (ad 23, .inl (cy 0, 14, .inl (fun i => nI (gS g i)))), (ad 29, .inl (cy 0, 8, .inl fp))])) (F0 m 25 ls []) := by
          intro n
          induction n with
          | zero =>
            intro e q hfuel hrg H locs hP hD hS ls hl
            exact absurd hfuel.2 (by have := hfuel.1; omega)
          | succ n ih25 =>
            intro e q hfuel hrg H locs hP hD hS ls hl
            obtain ⟨hfu1, hfu2⟩ := hfuel
            refine lv_iload_n hx hb dX6_hasNoRing_25 rfl (lv_at hl 2 rfl) ?_
            refine lv_aload_n hx hb dX6_hasNoRing_26 rfl (lv_at hl 0 rfl) ?_
            refine va_get (D := D) (ci := 5) (v := .int (nI (gE g))) (C := RX6) (T := TX6) (N := 16) hx hb hts inX6 hown hK.1 hP 0 rfl rfl 3 (by decide) (hts (.fieldLink RX6 56 "ColourForestsModel" "edges" "I") (List.mem_of_getElem? (i := 3) rfl)) (fun _ h9 => h9) rfl dX6_hasNoRing_27 ?_
            refine n_ge (a := e) (b := (gE g)) (tgt := 128) hx hb dX6_hasNoRing_30 (by decide) (by omega) (by omega) (fun c30 => ?_) (fun c30 => ?_)
            · refine lv_iconst (v := nI 1) hx hb dX6_hasNoRing_128 (by decide) ?_
              exact wz_ret q hx hb hr hlocks hS hP (b := fr g S) (by rw [rng_end hg hS9 (by rw [show gE g = e by omega]; exact hrg)]; rfl) (by rw [rng_end hg hS9 (by rw [show gE g = e by omega]; exact hrg)]; rfl) dX6_hasNoRing_129
            · refine lv_iload_n hx hb dX6_hasNoRing_33 rfl (lv_at hl 1 rfl) ?_
              refine lv_iload_n hx hb dX6_hasNoRing_34 rfl (lv_at hl 2 rfl) ?_
              refine pu_call (va_runS (As := [.int (nI S), .int (nI e)]) (rest := []) ⟨hx, hb, hml, hown, hts⟩ (c_X6_has l D cy (S := S) (e := e) (by omega) (by omega)) (va_cwS 2 hts gX6_hasNoRing_X6_has rfl rfl rfl (by decide +kernel) ⟨Nat.le_of_ble_eq_true rfl, Nat.le_of_ble_eq_true rfl⟩) (PU_preS hK hP [] rfl) rfl rfl hl.1 rfl (lv_room (Nat.le_of_ble_eq_true rfl)) dX6_hasNoRing_35 ⟨(Nat.zero_le _), (Nat.zero_le _)⟩) hS hP (fun H locs hP hS => ?_)
              refine b_eq (b := (S.testBit e)) (tgt := 122) hx hb dX6_hasNoRing_38 (by decide) (fun c38 => ?_) (fun c38 => ?_)
              · refine lv_iinc (v := (nI (e + 1))) (lv' := [(2, .int (nI (e + 1))), (0, .ref (ad 20)), (1, .int (nI S))]) hx hb dX6_hasNoRing_122 hl (k := 2) rfl (ni_inc _) (by decide) rfl (fun ls hl => ?_)
                refine lv_goto (tgt := 25) hx hb dX6_hasNoRing_125 (by decide) ?_
                exact ih25 (e + 1) q ⟨by omega, by omega⟩ (rng_n hrg c38) _ _ hP hD hS _ (lv_sub hl [1, 2, 0] rfl)
              · obtain ⟨he1, he2, he3, he4, he5⟩ := hg.2.2.2.2 e (by omega)
                obtain ⟨f, hf1, hf2, hf3, hf4⟩ := hrg
                have hfa := hf2 _ he1
                have hfb := hf2 _ he2
                refine lv_aload_n hx hb dX6_hasNoRing_41 rfl (lv_at hl 0 rfl) ?_
                refine va_get (D := D) (ci := 5) (v := .ref (ad 29)) (C := RX6) (T := TX6) (N := 16) hx hb hts inX6 hown hK.1 hP 0 rfl rfl 14 (by decide) (hts (.fieldLink RX6 43 "ColourForestsModel" "parts" "[I") (List.mem_of_getElem? (i := 2) rfl)) (fun _ h9 => h9) rfl dX6_hasNoRing_42 ?_
                refine lv_aload_n hx hb dX6_hasNoRing_45 rfl (lv_at hl 0 rfl) ?_
                refine va_get (D := D) (ci := 5) (v := .ref (ad 22)) (C := RX6) (T := TX6) (N := 16) hx hb hts inX6 hown hK.1 hP 0 rfl rfl 5 (by decide) (hts (.fieldLink RX6 20 "ColourForestsModel" "firsts" "[I") (List.mem_of_getElem? (i := 4) rfl)) (fun _ h9 => h9) rfl dX6_hasNoRing_46 ?_
                refine lv_iload_n hx hb dX6_hasNoRing_49 rfl (lv_at hl 2 rfl) ?_
                refine rd_i (k := e) (v := (nI (gF g e))) hx hb hK hP 1 rfl (by omega) (by decide) rfl dX6_hasNoRing_50 ?_
                refine rd_i (k := (gF g e)) (v := (nI (f (gF g e)))) hx hb hK hP 3 rfl (by omega) (by decide) (hf1 _ he1) dX6_hasNoRing_51 ?_
                refine lv_istore_n (lv' := [(3, .int (nI (f (gF g e)))), (0, .ref (ad 20)), (1, .int (nI S)), (2, .int (nI e))]) hx hb dX6_hasNoRing_52 rfl hl (by decide) rfl (fun ls hl => ?_)
                refine lv_aload_n hx hb dX6_hasNoRing_53 rfl (lv_at hl 1 rfl) ?_
                refine va_get (D := D) (ci := 5) (v := .ref (ad 29)) (C := RX6) (T := TX6) (N := 16) hx hb hts inX6 hown hK.1 hP 0 rfl rfl 14 (by decide) (hts (.fieldLink RX6 43 "ColourForestsModel" "parts" "[I") (List.mem_of_getElem? (i := 2) rfl)) (fun _ h9 => h9) rfl dX6_hasNoRing_54 ?_
                refine lv_aload_n hx hb dX6_hasNoRing_57 rfl (lv_at hl 1 rfl) ?_
                refine va_get (D := D) (ci := 5) (v := .ref (ad 23)) (C := RX6) (T := TX6) (N := 16) hx hb hts inX6 hown hK.1 hP 0 rfl rfl 6 (by decide) (hts (.fieldLink RX6 23 "ColourForestsModel" "seconds" "[I") (List.mem_of_getElem? (i := 5) rfl)) (fun _ h9 => h9) rfl dX6_hasNoRing_58 ?_
                refine lv_iload_n hx hb dX6_hasNoRing_61 rfl (lv_at hl 3 rfl) ?_
                refine rd_i (k := e) (v := (nI (gS g e))) hx hb hK hP 2 rfl (by omega) (by decide) rfl dX6_hasNoRing_62 ?_
                refine rd_i (k := (gS g e)) (v := (nI (f (gS g e)))) hx hb hK hP 3 rfl (by omega) (by decide) (hf1 _ he2) dX6_hasNoRing_63 ?_
                refine lv_istore (lv' := [(4, .int (nI (f (gS g e)))), (3, .int (nI (f (gF g e)))), (0, .ref (ad 20)), (1, .int (nI S)), (2, .int (nI e))]) hx hb dX6_hasNoRing_64 hl (by decide) rfl (fun ls hl => ?_)
                refine lv_iload_n hx hb dX6_hasNoRing_66 rfl (lv_at hl 1 rfl) ?_
                refine lv_iload hx hb dX6_hasNoRing_67 (lv_at hl 0 rfl) ?_
                refine n_ne (a := (f (gF g e))) (b := (f (gS g e))) (tgt := 74) hx hb dX6_hasNoRing_69 (by decide) (by omega) (by omega) (fun c69 => ?_) (fun c69 => ?_)
                · refine lv_iconst (v := nI 0) hx hb dX6_hasNoRing_74 (by decide) ?_
                  refine lv_istore (lv' := [(5, .int (nI 0)), (4, .int (nI (f (gS g e)))), (3, .int (nI (f (gF g e)))), (0, .ref (ad 20)), (1, .int (nI S)), (2, .int (nI e))]) hx hb dX6_hasNoRing_75 hl (by decide) rfl (fun ls hl => ?_)
                  have L77 : ∀ (n : Nat) (v : Nat) (q2 : Nat → Int32), v ≤ gV g ∧ gV g + 1 ≤ v + n → ago2 (gV g) v q2 f (re2 f (f (gF g e)) (f (gS g e))) → ∀ (H : Heap) (locs : List Loc), va_P D vwCl [(ad 20, .inr (5, [.int th, .int (nI (gV g)), .int (nI (gC g)), .int (nI (gE g)), .ref (ad 21), .ref (ad 22), .ref (ad 23), .ref (ad 24), .ref (ad 25), .int kn, .ref (ad 26), .ref (ad 27), .ref (ad 28), .int ms, .ref (ad 29), .ref (ad 30)])), (ad 22, .inl (cy 0, 14, .inl (fun i => nI (gF g i)))), (ad 23, .inl (cy 0, 14, .inl (fun i => nI (gS g i)))), (ad 29, .inl (cy 0, 8, .inl q2))] H → va_D (inW [(ad 20, .inr (5, [.int th, .int (nI (gV g)), .int (nI (gC g)), .int (nI (gE g)), .ref (ad 21), .ref (ad 22), .ref (ad 23), .ref (ad 24), .ref (ad 25), .int kn, .ref (ad 26), .ref (ad 27), .ref (ad 28), .int ms, .ref (ad 29), .ref (ad 30)])), (ad 22, .inl (cy 0, 14, .inl (fun i => nI (gF g i)))), (ad 23, .inl (cy 0, 14, .inl (fun i => nI (gS g i)))), (ad 29, .inl (cy 0, 8, .inl fp))]) [(ad 20, .inr (5, [.int th, .int (nI (gV g)), .int (nI (gC g)), .int (nI (gE g)), .ref (ad 21), .ref (ad 22), .ref (ad 23), .ref (ad 24), .ref (ad 25), .int kn, .ref (ad 26), .ref (ad 27), .ref (ad 28), .int ms, .ref (ad 29), .ref (ad 30)])), (ad 22, .inl (cy 0, 14, .inl (fun i => nI (gF g i)))), (ad 23, .inl (cy 0, 14, .inl (fun i => nI (gS g i)))), (ad 29, .inl (cy 0, 8, .inl q2))] → va_S (inW [(ad 20, .inr (5, [.int th, .int (nI (gV g)), .int (nI (gC g)), .int (nI (gE g)), .ref (ad 21), .ref (ad 22), .ref (ad 23), .ref (ad 24), .ref (ad 25), .int kn, .ref (ad 26), .ref (ad 27), .ref (ad 28), .int ms, .ref (ad 29), .ref (ad 30)])), (ad 22, .inl (cy 0, 14, .inl (fun i => nI (gF g i)))), (ad 23, .inl (cy 0, 14, .inl (fun i => nI (gS g i)))), (ad 29, .inl (cy 0, 8, .inl fp))]) s.heap H locs → ∀ (ls : Array Slot), lv_has ls 6 [(0, .ref (ad 20)), (1, .int (nI S)), (2, .int (nI e)), (3, .int (nI (f (gF g e)))), (4, .int (nI (f (gS g e)))), (5, .int (nI v))] → W p l ev (headSpec wsX6_hasNoRing ({ frames := 1, cells := 0, slots := 0, locals := 21 })).room s m [.ref (ad 20), .int (nI S)].toArray below meth c H locs 0 0 (MQ below (va_Qi (fun (r : Int32) (_ : Nat → Int32) => r = bI (fr g S)) (fun u t => va_P D vwCl ((fun u : Nat → Int32 => [(ad 20, .inr (5, [.int th, .int (nI (gV g)), .int (nI (gC g)), .int (nI (gE g)), .ref (ad 21), .ref (ad 22), .ref (ad 23), .ref (ad 24), .ref (ad 25), .int kn, .ref (ad 26), .ref (ad 27), .ref (ad 28), .int ms, .ref (ad 29), .ref (ad 30)])), (ad 22, .inl (cy 0, 14, .inl (fun i => nI (gF g i)))), (ad 23, .inl (cy 0, 14, .inl (fun i => nI (gS g i)))), (ad 29, .inl (cy 0, 8, .inl u))]) u) t.heap) (inW [(ad 20, .inr (5, [.int th, .int (nI (gV g)), .int (nI (gC g)), .int (nI (gE g)), .ref (ad 21), .ref (ad 22), .ref (ad 23), .ref (ad 24), .ref (ad 25), .int kn, .ref (ad 26), .ref (ad 27), .ref (ad 28), .int ms, .ref (ad 29), .ref (ad 30)])), (ad 22, .inl (cy 0, 14, .inl (fun i => nI (gF g i)))), (ad 23, .inl (cy 0, 14, .inl (fun i => nI (gS g i)))), (ad 29, .inl (cy 0, 8, .inl fp))])) [.ref (ad 20), .int (nI S)].toArray s 0 0 (inW [(ad 20, .inr (5, [.int th, .int (nI (gV g)), .int (nI (gC g)), .int (nI (gE g)), .ref (ad 21), .ref (ad 22), .ref (ad 23), .ref (ad 24), .ref (ad 25), .int kn, .ref (ad 26), .ref (ad 27), .ref (ad 28), .int ms, .ref (ad 29), .ref (ad 30)])), (ad 22, .inl (cy 0, 14, .inl (fun i => nI (gF g i)))), (ad 23, .inl (cy 0, 14, .inl (fun i => nI (gS g i)))), (ad 29, .inl (cy 0, 8, .inl fp))])) (F0 m 77 ls []) := by
                    intro n
                    induction n with
                    | zero =>
                      intro v q2 hfuel hq2 H locs hP hD hS ls hl
                      exact absurd hfuel.2 (by have := hfuel.1; omega)
                    | succ n ih77 =>
                      intro v q2 hfuel hq2 H locs hP hD hS ls hl
                      obtain ⟨hfv1, hfv2⟩ := hfuel
                      refine lv_iload hx hb dX6_hasNoRing_77 (lv_at hl 5 rfl) ?_
                      refine lv_aload_n hx hb dX6_hasNoRing_79 rfl (lv_at hl 0 rfl) ?_
                      refine va_get (D := D) (ci := 5) (v := .int (nI (gV g))) (C := RX6) (T := TX6) (N := 16) hx hb hts inX6 hown hK.1 hP 0 rfl rfl 1 (by decide) (hts (.fieldLink RX6 7 "ColourForestsModel" "vertices" "I") (List.mem_of_getElem? (i := 1) rfl)) (fun _ h9 => h9) rfl dX6_hasNoRing_80 ?_
                      refine n_ge (a := v) (b := (gV g)) (tgt := 122) hx hb dX6_hasNoRing_83 (by decide) (by omega) (by omega) (fun c83 => ?_) (fun c83 => ?_)
                      · have hve : v = gV g := by omega
                        rw [hve] at hq2
                        refine lv_iinc (v := (nI (e + 1))) (lv' := [(2, .int (nI (e + 1))), (0, .ref (ad 20)), (1, .int (nI S)), (3, .int (nI (f (gF g e)))), (4, .int (nI (f (gS g e)))), (5, .int (nI v))]) hx hb dX6_hasNoRing_122 hl (k := 2) rfl (ni_inc _) (by decide) rfl (fun ls hl => ?_)
                        refine lv_goto (tgt := 25) hx hb dX6_hasNoRing_125 (by decide) ?_
                        exact ih25 (e + 1) q2 ⟨by omega, by omega⟩ (rng_y hg (by omega) hf2 hf3 hf4 c38 c69 (ago2_e hq2)) _ _ hP hD hS _ (lv_sub hl [1, 2, 0] rfl)
                      · have hfw := hf2 v (by omega)
                        refine lv_aload_n hx hb dX6_hasNoRing_86 rfl (lv_at hl 0 rfl) ?_
                        refine va_get (D := D) (ci := 5) (v := .ref (ad 29)) (C := RX6) (T := TX6) (N := 16) hx hb hts inX6 hown hK.1 hP 0 rfl rfl 14 (by decide) (hts (.fieldLink RX6 43 "ColourForestsModel" "parts" "[I") (List.mem_of_getElem? (i := 2) rfl)) (fun _ h9 => h9) rfl dX6_hasNoRing_87 ?_
                        refine lv_iload hx hb dX6_hasNoRing_90 (lv_at hl 5 rfl) ?_
                        refine lv_aload_n hx hb dX6_hasNoRing_92 rfl (lv_at hl 0 rfl) ?_
                        refine va_get (D := D) (ci := 5) (v := .ref (ad 29)) (C := RX6) (T := TX6) (N := 16) hx hb hts inX6 hown hK.1 hP 0 rfl rfl 14 (by decide) (hts (.fieldLink RX6 43 "ColourForestsModel" "parts" "[I") (List.mem_of_getElem? (i := 2) rfl)) (fun _ h9 => h9) rfl dX6_hasNoRing_93 ?_
                        refine lv_iload hx hb dX6_hasNoRing_96 (lv_at hl 5 rfl) ?_
                        refine rd_i (k := v) (v := (nI (f v))) hx hb hK hP 3 rfl (by omega) (by decide) (ago2_at hq2 (by omega)) dX6_hasNoRing_98 ?_
                        refine lv_iload_n hx hb dX6_hasNoRing_99 rfl (lv_at hl 3 rfl) ?_
                        refine n_ne (a := (f v)) (b := (f (gF g e))) (tgt := 108) hx hb dX6_hasNoRing_100 (by decide) (by omega) (by omega) (fun c100 => ?_) (fun c100 => ?_)
                        · refine lv_aload_n hx hb dX6_hasNoRing_108 rfl (lv_at hl 0 rfl) ?_
                          refine va_get (D := D) (ci := 5) (v := .ref (ad 29)) (C := RX6) (T := TX6) (N := 16) hx hb hts inX6 hown hK.1 hP 0 rfl rfl 14 (by decide) (hts (.fieldLink RX6 43 "ColourForestsModel" "parts" "[I") (List.mem_of_getElem? (i := 2) rfl)) (fun _ h9 => h9) rfl dX6_hasNoRing_109 ?_
                          refine lv_iload hx hb dX6_hasNoRing_112 (lv_at hl 5 rfl) ?_
                          refine rd_i (k := v) (v := (nI (f v))) hx hb hK hP 3 rfl (by omega) (by decide) (ago2_at hq2 (by omega)) dX6_hasNoRing_114 ?_
                          refine st_i (k := v) (g := (upd q2 v ((nI (f v))))) hx hb hK hP hD hS 3 rfl (by omega) (by decide) rfl dX6_hasNoRing_115 (fun H locs hP hD hS => ?_)
                          have hP : va_P D vwCl [(ad 20, .inr (5, [.int th, .int (nI (gV g)), .int (nI (gC g)), .int (nI (gE g)), .ref (ad 21), .ref (ad 22), .ref (ad 23), .ref (ad 24), .ref (ad 25), .int kn, .ref (ad 26), .ref (ad 27), .ref (ad 28), .int ms, .ref (ad 29), .ref (ad 30)])), (ad 22, .inl (cy 0, 14, .inl (fun i => nI (gF g i)))), (ad 23, .inl (cy 0, 14, .inl (fun i => nI (gS g i)))), (ad 29, .inl (cy 0, 8, .inl (upd q2 v ((nI (f v))))))] H := hP
                          have hD : va_D (inW [(ad 20, .inr (5, [.int th, .int (nI (gV g)), .int (nI (gC g)), .int (nI (gE g)), .ref (ad 21), .ref (ad 22), .ref (ad 23), .ref (ad 24), .ref (ad 25), .int kn, .ref (ad 26), .ref (ad 27), .ref (ad 28), .int ms, .ref (ad 29), .ref (ad 30)])), (ad 22, .inl (cy 0, 14, .inl (fun i => nI (gF g i)))), (ad 23, .inl (cy 0, 14, .inl (fun i => nI (gS g i)))), (ad 29, .inl (cy 0, 8, .inl fp))]) [(ad 20, .inr (5, [.int th, .int (nI (gV g)), .int (nI (gC g)), .int (nI (gE g)), .ref (ad 21), .ref (ad 22), .ref (ad 23), .ref (ad 24), .ref (ad 25), .int kn, .ref (ad 26), .ref (ad 27), .ref (ad 28), .int ms, .ref (ad 29), .ref (ad 30)])), (ad 22, .inl (cy 0, 14, .inl (fun i => nI (gF g i)))), (ad 23, .inl (cy 0, 14, .inl (fun i => nI (gS g i)))), (ad 29, .inl (cy 0, 8, .inl (upd q2 v ((nI (f v))))))] := hD
                          refine lv_iinc (v := (nI (v + 1))) (lv' := [(5, .int (nI (v + 1))), (0, .ref (ad 20)), (1, .int (nI S)), (2, .int (nI e)), (3, .int (nI (f (gF g e)))), (4, .int (nI (f (gS g e))))]) hx hb dX6_hasNoRing_116 hl (k := 5) rfl (ni_inc _) (by decide) rfl (fun ls hl => ?_)
                          refine lv_goto (tgt := 77) hx hb dX6_hasNoRing_119 (by decide) ?_
                          exact ih77 (v + 1) ((upd q2 v ((nI (f v))))) ⟨by omega, by omega⟩ (ago2_s hq2 (by show _ = nI (if f v = f (gF g e) then f (gS g e) else f v); rw [if_neg c100])) _ _ hP hD hS _ (lv_sub hl [1, 2, 3, 4, 5, 0] rfl)
                        · refine lv_iload hx hb dX6_hasNoRing_103 (lv_at hl 4 rfl) ?_
                          refine lv_goto (tgt := 115) hx hb dX6_hasNoRing_105 (by decide) ?_
                          refine st_i (k := v) (g := (upd q2 v ((nI (f (gS g e)))))) hx hb hK hP hD hS 3 rfl (by omega) (by decide) rfl dX6_hasNoRing_115 (fun H locs hP hD hS => ?_)
                          have hP : va_P D vwCl [(ad 20, .inr (5, [.int th, .int (nI (gV g)), .int (nI (gC g)), .int (nI (gE g)), .ref (ad 21), .ref (ad 22), .ref (ad 23), .ref (ad 24), .ref (ad 25), .int kn, .ref (ad 26), .ref (ad 27), .ref (ad 28), .int ms, .ref (ad 29), .ref (ad 30)])), (ad 22, .inl (cy 0, 14, .inl (fun i => nI (gF g i)))), (ad 23, .inl (cy 0, 14, .inl (fun i => nI (gS g i)))), (ad 29, .inl (cy 0, 8, .inl (upd q2 v ((nI (f (gS g e)))))))] H := hP
                          have hD : va_D (inW [(ad 20, .inr (5, [.int th, .int (nI (gV g)), .int (nI (gC g)), .int (nI (gE g)), .ref (ad 21), .ref (ad 22), .ref (ad 23), .ref (ad 24), .ref (ad 25), .int kn, .ref (ad 26), .ref (ad 27), .ref (ad 28), .int ms, .ref (ad 29), .ref (ad 30)])), (ad 22, .inl (cy 0, 14, .inl (fun i => nI (gF g i)))), (ad 23, .inl (cy 0, 14, .inl (fun i => nI (gS g i)))), (ad 29, .inl (cy 0, 8, .inl fp))]) [(ad 20, .inr (5, [.int th, .int (nI (gV g)), .int (nI (gC g)), .int (nI (gE g)), .ref (ad 21), .ref (ad 22), .ref (ad 23), .ref (ad 24), .ref (ad 25), .int kn, .ref (ad 26), .ref (ad 27), .ref (ad 28), .int ms, .ref (ad 29), .ref (ad 30)])), (ad 22, .inl (cy 0, 14, .inl (fun i => nI (gF g i)))), (ad 23, .inl (cy 0, 14, .inl (fun i => nI (gS g i)))), (ad 29, .inl (cy 0, 8, .inl (upd q2 v ((nI (f (gS g e)))))))] := hD
                          refine lv_iinc (v := (nI (v + 1))) (lv' := [(5, .int (nI (v + 1))), (0, .ref (ad 20)), (1, .int (nI S)), (2, .int (nI e)), (3, .int (nI (f (gF g e)))), (4, .int (nI (f (gS g e))))]) hx hb dX6_hasNoRing_116 hl (k := 5) rfl (ni_inc _) (by decide) rfl (fun ls hl => ?_)
                          refine lv_goto (tgt := 77) hx hb dX6_hasNoRing_119 (by decide) ?_
                          exact ih77 (v + 1) ((upd q2 v ((nI (f (gS g e)))))) ⟨by omega, by omega⟩ (ago2_s hq2 (by show _ = nI (if f v = f (gF g e) then f (gS g e) else f v); rw [if_pos c100])) _ _ hP hD hS _ (lv_sub hl [1, 2, 3, 4, 5, 0] rfl)
                  exact L77 (gV g + 1) 0 q ⟨by omega, by omega⟩ (ago2_0 hf1) _ _ hP hD hS _ (lv_sub hl [3, 4, 5, 2, 1, 0] rfl)
                · refine lv_iconst (v := nI 0) hx hb dX6_hasNoRing_72 (by decide) ?_
                  exact wz_ret q hx hb hr hlocks hS hP (b := fr g S) (by rw [rng_no hg hS9 (by omega) hf3 c38 c69]; rfl) (by rw [rng_no hg hS9 (by omega) hf3 c38 c69]; rfl) dX6_hasNoRing_73
        exact L25 (gE g + 1) 0 q ⟨by omega, by omega⟩ (rng_0 (by rw [show gV g = v by omega]; exact hago)) _ _ hP hD hS _ (lv_sub hl [1, 2, 0] rfl)
      · refine lv_aload_n hx hb dX6_hasNoRing_10 rfl (lv_at hl 0 rfl) ?_
        refine va_get (D := D) (ci := 5) (v := .ref (ad 29)) (C := RX6) (T := TX6) (N := 16) hx hb hts inX6 hown hK.1 hP 0 rfl rfl 14 (by decide) (hts (.fieldLink RX6 43 "ColourForestsModel" "parts" "[I") (List.mem_of_getElem? (i := 2) rfl)) (fun _ h9 => h9) rfl dX6_hasNoRing_11 ?_
        refine lv_iload_n hx hb dX6_hasNoRing_14 rfl (lv_at hl 2 rfl) ?_
        refine lv_iload_n hx hb dX6_hasNoRing_15 rfl (lv_at hl 2 rfl) ?_
        refine st_i (k := v) (g := (upd q v ((nI v)))) hx hb hK hP hD hS 3 rfl (by omega) (by decide) rfl dX6_hasNoRing_16 (fun H locs hP hD hS => ?_)
        have hP : va_P D vwCl [(ad 20, .inr (5, [.int th, .int (nI (gV g)), .int (nI (gC g)), .int (nI (gE g)), .ref (ad 21), .ref (ad 22), .ref (ad 23), .ref (ad 24), .ref (ad 25), .int kn, .ref (ad 26), .ref (ad 27), .ref (ad 28), .int ms, .ref (ad 29), .ref (ad 30)])), (ad 22, .inl (cy 0, 14, .inl (fun i => nI (gF g i)))), (ad 23, .inl (cy 0, 14, .inl (fun i => nI (gS g i)))), (ad 29, .inl (cy 0, 8, .inl (upd q v ((nI v)))))] H := hP
        have hD : va_D (inW [(ad 20, .inr (5, [.int th, .int (nI (gV g)), .int (nI (gC g)), .int (nI (gE g)), .ref (ad 21), .ref (ad 22), .ref (ad 23), .ref (ad 24), .ref (ad 25), .int kn, .ref (ad 26), .ref (ad 27), .ref (ad 28), .int ms, .ref (ad 29), .ref (ad 30)])), (ad 22, .inl (cy 0, 14, .inl (fun i => nI (gF g i)))), (ad 23, .inl (cy 0, 14, .inl (fun i => nI (gS g i)))), (ad 29, .inl (cy 0, 8, .inl fp))]) [(ad 20, .inr (5, [.int th, .int (nI (gV g)), .int (nI (gC g)), .int (nI (gE g)), .ref (ad 21), .ref (ad 22), .ref (ad 23), .ref (ad 24), .ref (ad 25), .int kn, .ref (ad 26), .ref (ad 27), .ref (ad 28), .int ms, .ref (ad 29), .ref (ad 30)])), (ad 22, .inl (cy 0, 14, .inl (fun i => nI (gF g i)))), (ad 23, .inl (cy 0, 14, .inl (fun i => nI (gS g i)))), (ad 29, .inl (cy 0, 8, .inl (upd q v ((nI v)))))] := hD
        refine lv_iinc (v := (nI (v + 1))) (lv' := [(2, .int (nI (v + 1))), (0, .ref (ad 20)), (1, .int (nI S))]) hx hb dX6_hasNoRing_17 hl (k := 2) rfl (ni_inc _) (by decide) rfl (fun ls hl => ?_)
        refine lv_goto (tgt := 2) hx hb dX6_hasNoRing_20 (by decide) ?_
        exact ih2 (v + 1) ((upd q v (nI v))) ⟨by omega, by omega⟩ (ago_s hago rfl) _ _ hP hD hS _ (lv_sub hl [1, 2, 0] rfl)
  exact L2 (gV g + 1) 0 fp ⟨by omega, by omega⟩ (ago_0 _ _) _ _ hP hD hS _ (lv_sub hl [1, 2, 0] rfl)

set_option maxHeartbeats 4000000 in
set_option maxRecDepth 100000 in
theorem c_X6_keepsLimits (l : Launch) (D : va_G) (cy : Nat → ClassId) (ad : Nat → Nat) {g : GT} (hg : gOK g) (th kn ms : Int32) (fc : Nat → Int32) {S : Nat} (hS9 : S < 2 ^ gE g) : WI l yX6_keepsLimits wsX6_keepsLimits ({ frames := 1, cells := 0, slots := 0, locals := 21 }) D cy [.ref (ad 20), .int (nI S)] [(ad 20, .inr (5, [.int th, .int (nI (gV g)), .int (nI (gC g)), .int (nI (gE g)), .ref (ad 21), .ref (ad 22), .ref (ad 23), .ref (ad 24), .ref (ad 25), .int kn, .ref (ad 26), .ref (ad 27), .ref (ad 28), .int ms, .ref (ad 29), .ref (ad 30)])), (ad 21, .inl (cy 0, 6, .inl (fun i => nI (gL g i)))), (ad 24, .inl (cy 0, 14, .inl (fun i => nI (gH g i)))), (ad 30, .inl (cy 0, 6, .inl fc))] (fun (r : Int32) (_ : Nat → Int32) => r = bI (li g S)) (fun u : Nat → Int32 => [(ad 20, .inr (5, [.int th, .int (nI (gV g)), .int (nI (gC g)), .int (nI (gE g)), .ref (ad 21), .ref (ad 22), .ref (ad 23), .ref (ad 24), .ref (ad 25), .int kn, .ref (ad 26), .ref (ad 27), .ref (ad 28), .int ms, .ref (ad 29), .ref (ad 30)])), (ad 21, .inl (cy 0, 6, .inl (fun i => nI (gL g i)))), (ad 24, .inl (cy 0, 14, .inl (fun i => nI (gH g i)))), (ad 30, .inl (cy 0, 6, .inl u))]) := by
  refine Met.ofW (cc := cX6_keepsLimits) (maxL := 4) (ret := (some .boolean)) (by decide) rfl ?_
  intro p ev s m args below meth c s₁ B hml hv
  obtain ⟨rfl, ⟨hK, hP⟩, hD0⟩ := hv
  have hx := B.exec
  have hb := B.bytes
  have hr := B.returns
  have hts := atoms_spec (ws := wsX6_keepsLimits) B.pre
  have hown : s.vm.findClass RX6 = some m.cls := findClass_of_methodNamed B.named
  have hlocks := B.notSynchronized
  have hD : va_D (inW [(ad 20, .inr (5, [.int th, .int (nI (gV g)), .int (nI (gC g)), .int (nI (gE g)), .ref (ad 21), .ref (ad 22), .ref (ad 23), .ref (ad 24), .ref (ad 25), .int kn, .ref (ad 26), .ref (ad 27), .ref (ad 28), .int ms, .ref (ad 29), .ref (ad 30)])), (ad 21, .inl (cy 0, 6, .inl (fun i => nI (gL g i)))), (ad 24, .inl (cy 0, 14, .inl (fun i => nI (gH g i)))), (ad 30, .inl (cy 0, 6, .inl fc))]) ([(ad 20, .inr (5, [.int th, .int (nI (gV g)), .int (nI (gC g)), .int (nI (gE g)), .ref (ad 21), .ref (ad 22), .ref (ad 23), .ref (ad 24), .ref (ad 25), .int kn, .ref (ad 26), .ref (ad 27), .ref (ad 28), .int ms, .ref (ad 29), .ref (ad 30)])), (ad 21, .inl (cy 0, 6, .inl (fun i => nI (gL g i)))), (ad 24, .inl (cy 0, 14, .inl (fun i => nI (gH g i)))), (ad 30, .inl (cy 0, 6, .inl fc))]) := inW_self hD0
  have hS : va_S (inW [(ad 20, .inr (5, [.int th, .int (nI (gV g)), .int (nI (gC g)), .int (nI (gE g)), .ref (ad 21), .ref (ad 22), .ref (ad 23), .ref (ad 24), .ref (ad 25), .int kn, .ref (ad 26), .ref (ad 27), .ref (ad 28), .int ms, .ref (ad 29), .ref (ad 30)])), (ad 21, .inl (cy 0, 6, .inl (fun i => nI (gL g i)))), (ad 24, .inl (cy 0, 14, .inl (fun i => nI (gH g i)))), (ad 30, .inl (cy 0, 6, .inl fc))]) s.heap s.heap [] := va_S.rf
  have hP : va_P D vwCl [(ad 20, .inr (5, [.int th, .int (nI (gV g)), .int (nI (gC g)), .int (nI (gE g)), .ref (ad 21), .ref (ad 22), .ref (ad 23), .ref (ad 24), .ref (ad 25), .int kn, .ref (ad 26), .ref (ad 27), .ref (ad 28), .int ms, .ref (ad 29), .ref (ad 30)])), (ad 21, .inl (cy 0, 6, .inl (fun i => nI (gL g i)))), (ad 24, .inl (cy 0, 14, .inl (fun i => nI (gH g i)))), (ad 30, .inl (cy 0, 6, .inl fc))] s.heap := hP
  have inX6 : ∀ w ∈ wsX60, w ∈ wsX6_keepsLimits := by decide +kernel
  have hl := lv_entry ([.ref (ad 20), .int (nI S)]) (n := 4) (Nat.le_of_ble_eq_true rfl)
  rw [lg_entry_eq]
  generalize (lg_sl ([.ref (ad 20), .int (nI S)]) ++ List.replicate (4 - (lg_sl ([.ref (ad 20), .int (nI S)])).length) Slot.unset).toArray = ls at hl ⊢
  have hl : lv_has ls 4 [(0, .ref (ad 20)), (1, .int (nI S))] := hl
  have hgen := True.intro
  have hE := hg.2.2.1
  have hV := hg.1
  have hC := hg.2.1
  have hS8 : 2 ^ gE g ≤ 2 ^ 14 := Nat.pow_le_pow_right (by decide) hE
  refine lv_iconst (v := nI 0) hx hb dX6_keepsLimits_0 (by decide) ?_
  refine lv_istore_n (lv' := [(2, .int (nI 0)), (0, .ref (ad 20)), (1, .int (nI S))]) hx hb dX6_keepsLimits_1 rfl hl (by decide) rfl (fun ls hl => ?_)
  have L2 : ∀ (n : Nat) (c9 : Nat) (q : Nat → Int32), c9 ≤ gC g ∧ gC g + 1 ≤ c9 + n → zro c9 q → ∀ (H : Heap) (locs : List Loc), va_P D vwCl [(ad 20, .inr (5, [.int th, .int (nI (gV g)), .int (nI (gC g)), .int (nI (gE g)), .ref (ad 21), .ref (ad 22), .ref (ad 23), .ref (ad 24), .ref (ad 25), .int kn, .ref (ad 26), .ref (ad 27), .ref (ad 28), .int ms, .ref (ad 29), .ref (ad 30)])), (ad 21, .inl (cy 0, 6, .inl (fun i => nI (gL g i)))), (ad 24, .inl (cy 0, 14, .inl (fun i => nI (gH g i)))), (ad 30, .inl (cy 0, 6, .inl q))] H → va_D (inW [(ad 20, .inr (5, [.int th, .int (nI (gV g)), .int (nI (gC g)), .int (nI (gE g)), .ref (ad 21), .ref (ad 22), .ref (ad 23), .ref (ad 24), .ref (ad 25), .int kn, .ref (ad 26), .ref (ad 27), .ref (ad 28), .int ms, .ref (ad 29), .ref (ad 30)])), (ad 21, .inl (cy 0, 6, .inl (fun i => nI (gL g i)))), (ad 24, .inl (cy 0, 14, .inl (fun i => nI (gH g i)))), (ad 30, .inl (cy 0, 6, .inl fc))]) [(ad 20, .inr (5, [.int th, .int (nI (gV g)), .int (nI (gC g)), .int (nI (gE g)), .ref (ad 21), .ref (ad 22), .ref (ad 23), .ref (ad 24), .ref (ad 25), .int kn, .ref (ad 26), .ref (ad 27), .ref (ad 28), .int ms, .ref (ad 29), .ref (ad 30)])), (ad 21, .inl (cy 0, 6, .inl (fun i => nI (gL g i)))), (ad 24, .inl (cy 0, 14, .inl (fun i => nI (gH g i)))), (ad 30, .inl (cy 0, 6, .inl q))] → va_S (inW [(ad 20, .inr (5, [.int th, .int (nI (gV g)), .int (nI (gC g)), .int (nI (gE g)), .ref (ad 21), .ref (ad 22), .ref (ad 23), .ref (ad 24), .ref (ad 25), .int kn, .ref (ad 26), .ref (ad 27), .ref (ad 28), .int ms, .ref (ad 29), .ref (ad 30)])), (ad 21, .inl (cy 0, 6, .inl (fun i => nI (gL g i)))), (ad 24, .inl (cy 0, 14, .inl (fun i => nI (gH g i)))), (ad 30, .inl (cy 0, 6, .inl fc))]) s.heap H locs → ∀ (ls : Array Slot), lv_has ls 4 [(0, .ref (ad 20)), (1, .int (nI S)), (2, .int (nI c9))] → W p l ev (headSpec wsX6_keepsLimits ({ frames := 1, cells := 0, slots := 0, locals := 21 })).room s m [.ref (ad 20), .int (nI S)].toArray below meth c H locs 0 0 (MQ below (va_Qi (fun (r : Int32) (_ : Nat → Int32) => r = bI (li g S)) (fun u t => va_P D vwCl ((fun u : Nat → Int32 => [(ad 20, .inr (5, [.int th, .int (nI (gV g)), .int (nI (gC g)), .int (nI (gE g)), .ref (ad 21), .ref (ad 22), .ref (ad 23), .ref (ad 24), .ref (ad 25), .int kn, .ref (ad 26), .ref (ad 27), .ref (ad 28), .int ms, .ref (ad 29), .ref (ad 30)])), (ad 21, .inl (cy 0, 6, .inl (fun i => nI (gL g i)))), (ad 24, .inl (cy 0, 14, .inl (fun i => nI (gH g i)))), (ad 30, .inl (cy 0, 6, .inl u))]) u) t.heap) (inW [(ad 20, .inr (5, [.int th, .int (nI (gV g)), .int (nI (gC g)), .int (nI (gE g)), .ref (ad 21), .ref (ad 22), .ref (ad 23), .ref (ad 24), .ref (ad 25), .int kn, .ref (ad 26), .ref (ad 27), .ref (ad 28), .int ms, .ref (ad 29), .ref (ad 30)])), (ad 21, .inl (cy 0, 6, .inl (fun i => nI (gL g i)))), (ad 24, .inl (cy 0, 14, .inl (fun i => nI (gH g i)))), (ad 30, .inl (cy 0, 6, .inl fc))])) [.ref (ad 20), .int (nI S)].toArray s 0 0 (inW [(ad 20, .inr (5, [.int th, .int (nI (gV g)), .int (nI (gC g)), .int (nI (gE g)), .ref (ad 21), .ref (ad 22), .ref (ad 23), .ref (ad 24), .ref (ad 25), .int kn, .ref (ad 26), .ref (ad 27), .ref (ad 28), .int ms, .ref (ad 29), .ref (ad 30)])), (ad 21, .inl (cy 0, 6, .inl (fun i => nI (gL g i)))), (ad 24, .inl (cy 0, 14, .inl (fun i => nI (gH g i)))), (ad 30, .inl (cy 0, 6, .inl fc))])) (F0 m 2 ls []) := by
    intro n
    induction n with
    | zero =>
      intro c9 q hfuel hz H locs hP hD hS ls hl
      exact absurd hfuel.2 (by have := hfuel.1; omega)
    | succ n ih2 =>
      intro c9 q hfuel hz H locs hP hD hS ls hl
      obtain ⟨hfu1, hfu2⟩ := hfuel
      refine lv_iload_n hx hb dX6_keepsLimits_2 rfl (lv_at hl 2 rfl) ?_
      refine lv_aload_n hx hb dX6_keepsLimits_3 rfl (lv_at hl 0 rfl) ?_
      refine va_get (D := D) (ci := 5) (v := .int (nI (gC g))) (C := RX6) (T := TX6) (N := 16) hx hb hts inX6 hown hK.1 hP 0 rfl rfl 2 (by decide) (hts (.fieldLink RX6 13 "ColourForestsModel" "colours" "I") (List.mem_of_getElem? (i := 1) rfl)) (fun _ h9 => h9) rfl dX6_keepsLimits_4 ?_
      refine n_ge (a := c9) (b := (gC g)) (tgt := 23) hx hb dX6_keepsLimits_7 (by decide) (by omega) (by omega) (fun c7 => ?_) (fun c7 => ?_)
      · refine lv_iconst (v := nI 1) hx hb dX6_keepsLimits_23 (by decide) ?_
        refine lv_istore_n (lv' := [(2, .int (nI 1)), (0, .ref (ad 20)), (1, .int (nI S))]) hx hb dX6_keepsLimits_24 rfl hl (by decide) rfl (fun ls hl => ?_)
        refine lv_iconst (v := nI 0) hx hb dX6_keepsLimits_25 (by decide) ?_
        refine lv_istore_n (lv' := [(3, .int (nI 0)), (2, .int (nI 1)), (0, .ref (ad 20)), (1, .int (nI S))]) hx hb dX6_keepsLimits_26 rfl hl (by decide) rfl (fun ls hl => ?_)
        have L27 : ∀ (n : Nat) (e : Nat) (q : Nat → Int32), e ≤ gE g ∧ gE g + 1 ≤ e + n → kco g S e q → ∀ (H : Heap) (locs : List Loc), va_P D vwCl [(ad 20, .inr (5, [.int th, .int (nI (gV g)), .int (nI (gC g)), .int (nI (gE g)), .ref (ad 21), .ref (ad 22), .ref (ad 23), .ref (ad 24), .ref (ad 25), .int kn, .ref (ad 26), .ref (ad 27), .ref (ad 28), .int ms, .ref (ad 29), .ref (ad 30)])), (ad 21, .inl (cy 0, 6, .inl (fun i => nI (gL g i)))), (ad 24, .inl (cy 0, 14, .inl (fun i => nI (gH g i)))), (ad 30, .inl (cy 0, 6, .inl q))] H → va_D (inW [(ad 20, .inr (5, [.int th, .int (nI (gV g)), .int (nI (gC g)), .int (nI (gE g)), .ref (ad 21), .ref (ad 22), .ref (ad 23), .ref (ad 24), .ref (ad 25), .int kn, .ref (ad 26), .ref (ad 27), .ref (ad 28), .int ms, .ref (ad 29), .ref (ad 30)])), (ad 21, .inl (cy 0, 6, .inl (fun i => nI (gL g i)))), (ad 24, .inl (cy 0, 14, .inl (fun i => nI (gH g i)))), (ad 30, .inl (cy 0, 6, .inl fc))]) [(ad 20, .inr (5, [.int th, .int (nI (gV g)), .int (nI (gC g)), .int (nI (gE g)), .ref (ad 21), .ref (ad 22), .ref (ad 23), .ref (ad 24), .ref (ad 25), .int kn, .ref (ad 26), .ref (ad 27), .ref (ad 28), .int ms, .ref (ad 29), .ref (ad 30)])), (ad 21, .inl (cy 0, 6, .inl (fun i => nI (gL g i)))), (ad 24, .inl (cy 0, 14, .inl (fun i => nI (gH g i)))), (ad 30, .inl (cy 0, 6, .inl q))] → va_S (inW [(ad 20, .inr (5, [.int th, .int (nI (gV g)), .int (nI (gC g)), .int (nI (gE g)), .ref (ad 21), .ref (ad 22), .ref (ad 23), .ref (ad 24), .ref (ad 25), .int kn, .ref (ad 26), .ref (ad 27), .ref (ad 28), .int ms, .ref (ad 29), .ref (ad 30)])), (ad 21, .inl (cy 0, 6, .inl (fun i => nI (gL g i)))), (ad 24, .inl (cy 0, 14, .inl (fun i => nI (gH g i)))), (ad 30, .inl (cy 0, 6, .inl fc))]) s.heap H locs → ∀ (ls : Array Slot), lv_has ls 4 [(0, .ref (ad 20)), (1, .int (nI S)), (2, .int (bI (kps g S e))), (3, .int (nI e))] → W p l ev (headSpec wsX6_keepsLimits ({ frames := 1, cells := 0, slots := 0, locals := 21 })).room s m [.ref (ad 20), .int (nI S)].toArray below meth c H locs 0 0 (MQ below (va_Qi (fun (r : Int32) (_ : Nat → Int32) => r = bI (li g S)) (fun u t => va_P D vwCl ((fun u : Nat → Int32 => [(ad 20, .inr (5, [.int th, .int (nI (gV g)), .int (nI (gC g)), .int (nI (gE g)), .ref (ad 21), .ref (ad 22), .ref (ad 23), .ref (ad 24), .ref (ad 25), .int kn, .ref (ad 26), .ref (ad 27), .ref (ad 28), .int ms, .ref (ad 29), .ref (ad 30)])), (ad 21, .inl (cy 0, 6, .inl (fun i => nI (gL g i)))), (ad 24, .inl (cy 0, 14, .inl (fun i => nI (gH g i)))), (ad 30, .inl (cy 0, 6, .inl u))]) u) t.heap) (inW [(ad 20, .inr (5, [.int th, .int (nI (gV g)), .int (nI (gC g)), .int (nI (gE g)), .ref (ad 21), .ref (ad 22), .ref (ad 23), .ref (ad 24), .ref (ad 25), .int kn, .ref (ad 26), .ref (ad 27), .ref (ad 28), .int ms, .ref (ad 29), .ref (ad 30)])), (ad 21, .inl (cy 0, 6, .inl (fun i => nI (gL g i)))), (ad 24, .inl (cy 0, 14, .inl (fun i => nI (gH g i)))), (ad 30, .inl (cy 0, 6, .inl fc))])) [.ref (ad 20), .int (nI S)].toArray s 0 0 (inW [(ad 20, .inr (5, [.int th, .int (nI (gV g)), .int (nI (gC g)), .int (nI (gE g)), .ref (ad 21), .ref (ad 22), .ref (ad 23), .ref (ad 24), .ref (ad 25), .int kn, .ref (ad 26), .ref (ad 27), .ref (ad 28), .int ms, .ref (ad 29), .ref (ad 30)])), (ad 21, .inl (cy 0, 6, .inl (fun i => nI (gL g i)))), (ad 24, .inl (cy 0, 14, .inl (fun i => nI (gH g i)))), (ad 30, .inl (cy 0, 6, .inl fc))])) (F0 m 27 ls []) := by
          intro n
          induction n with
          | zero =>
            intro e q hfuel hk H locs hP hD hS ls hl
            exact absurd hfuel.2 (by have := hfuel.1; omega)
          | succ n ih27 =>
            intro e q hfuel hk H locs hP hD hS ls hl
            obtain ⟨hfu1, hfu2⟩ := hfuel
            have hgap := cntB_gap (g := g) S e
            refine lv_iload_n hx hb dX6_keepsLimits_27 rfl (lv_at hl 3 rfl) ?_
            refine lv_aload_n hx hb dX6_keepsLimits_28 rfl (lv_at hl 0 rfl) ?_
            refine va_get (D := D) (ci := 5) (v := .int (nI (gE g))) (C := RX6) (T := TX6) (N := 16) hx hb hts inX6 hown hK.1 hP 0 rfl rfl 3 (by decide) (hts (.fieldLink RX6 56 "ColourForestsModel" "edges" "I") (List.mem_of_getElem? (i := 3) rfl)) (fun _ h9 => h9) rfl dX6_keepsLimits_29 ?_
            refine n_ge (a := e) (b := (gE g)) (tgt := 99) hx hb dX6_keepsLimits_32 (by decide) (by omega) (by omega) (fun c32 => ?_) (fun c32 => ?_)
            · refine lv_iload_n hx hb dX6_keepsLimits_99 rfl (lv_at hl 2 rfl) ?_
              exact wz_ret q hx hb hr hlocks hS hP (b := li g S) (by rw [show e = gE g by omega, kps_e hg hS9]) (by rw [show e = gE g by omega, kps_e hg hS9]) dX6_keepsLimits_100
            · refine lv_iload_n hx hb dX6_keepsLimits_35 rfl (lv_at hl 1 rfl) ?_
              refine lv_iload_n hx hb dX6_keepsLimits_36 rfl (lv_at hl 3 rfl) ?_
              refine pu_call (va_runS (As := [.int (nI S), .int (nI e)]) (rest := []) ⟨hx, hb, hml, hown, hts⟩ (c_X6_has l D cy (S := S) (e := e) (by omega) (by omega)) (va_cwS 2 hts gX6_keepsLimits_X6_has rfl rfl rfl (by decide +kernel) ⟨Nat.le_of_ble_eq_true rfl, Nat.le_of_ble_eq_true rfl⟩) (PU_preS hK hP [] rfl) rfl rfl hl.1 rfl (lv_room (Nat.le_of_ble_eq_true rfl)) dX6_keepsLimits_37 ⟨(Nat.zero_le _), (Nat.zero_le _)⟩) hS hP (fun H locs hP hS => ?_)
              refine b_eq (b := (S.testBit e)) (tgt := 93) hx hb dX6_keepsLimits_40 (by decide) (fun c40 => ?_) (fun c40 => ?_)
              · refine lv_iinc (v := (nI (e + 1))) (lv' := [(3, .int (nI (e + 1))), (0, .ref (ad 20)), (1, .int (nI S)), (2, .int (bI (kps g S e)))]) hx hb dX6_keepsLimits_93 hl (k := 3) rfl (ni_inc _) (by decide) rfl (fun ls hl => ?_)
                refine lv_goto (tgt := 27) hx hb dX6_keepsLimits_96 (by decide) ?_
                exact ih27 (e + 1) q ⟨by omega, by omega⟩ (kco_n hk c40) _ _ hP hD hS _ (by first | (rw [kps_n c40]; exact lv_sub hl [1, 2, 3, 0] rfl) | (rw [kps_y hg (by omega) c40, c59]; exact lv_sub hl [1, 2, 3, 0] rfl) | (rw [kps_y hg (by omega) c40, c59, Bool.true_and, decide_eq_true (by rw [kcN_y c40]; omega)]; exact lv_sub hl [1, 2, 3, 0] rfl) | (rw [kps_y hg (by omega) c40, c59, Bool.true_and, decide_eq_false (by rw [kcN_y c40]; omega)]; exact lv_sub hl [1, 2, 3, 0] rfl))
              · obtain ⟨he1, he2, he3, he4, he5⟩ := hg.2.2.2.2 e (by omega)
                have hkl := kcN_le g S (gH g e) e
                have hLm := hg.2.2.2.1 (gH g e)
                refine lv_aload_n hx hb dX6_keepsLimits_43 rfl (lv_at hl 0 rfl) ?_
                refine va_get (D := D) (ci := 5) (v := .ref (ad 30)) (C := RX6) (T := TX6) (N := 16) hx hb hts inX6 hown hK.1 hP 0 rfl rfl 15 (by decide) (hts (.fieldLink RX6 46 "ColourForestsModel" "counts" "[I") (List.mem_of_getElem? (i := 2) rfl)) (fun _ h9 => h9) rfl dX6_keepsLimits_44 ?_
                refine lv_aload_n hx hb dX6_keepsLimits_47 rfl (lv_at hl 0 rfl) ?_
                refine va_get (D := D) (ci := 5) (v := .ref (ad 24)) (C := RX6) (T := TX6) (N := 16) hx hb hts inX6 hown hK.1 hP 0 rfl rfl 7 (by decide) (hts (.fieldLink RX6 26 "ColourForestsModel" "colourOf" "[I") (List.mem_of_getElem? (i := 4) rfl)) (fun _ h9 => h9) rfl dX6_keepsLimits_48 ?_
                refine lv_iload_n hx hb dX6_keepsLimits_51 rfl (lv_at hl 3 rfl) ?_
                refine rd_i (k := e) (v := (nI (gH g e))) hx hb hK hP 2 rfl (by omega) (by decide) rfl dX6_keepsLimits_52 ?_
                refine lv_dup2_11 hx hb dX6_keepsLimits_53 rfl rfl ?_
                refine rd_i (k := (gH g e)) (v := (nI (kcN g S (gH g e) e))) hx hb hK hP 3 rfl (by omega) (by decide) (hk _ he3) dX6_keepsLimits_54 ?_
                refine lv_iconst (v := nI 1) hx hb dX6_keepsLimits_55 (by decide) ?_
                refine lv_iadd hx hb dX6_keepsLimits_56 ?_
                refine lv_as (y := (nI ((kcN g S (gH g e) e) + 1))) (nI_add _ _) ?_
                refine st_i (k := (gH g e)) (g := (upd q (gH g e) ((nI ((kcN g S (gH g e) e) + 1))))) hx hb hK hP hD hS 3 rfl (by omega) (by decide) rfl dX6_keepsLimits_57 (fun H locs hP hD hS => ?_)
                have hP : va_P D vwCl [(ad 20, .inr (5, [.int th, .int (nI (gV g)), .int (nI (gC g)), .int (nI (gE g)), .ref (ad 21), .ref (ad 22), .ref (ad 23), .ref (ad 24), .ref (ad 25), .int kn, .ref (ad 26), .ref (ad 27), .ref (ad 28), .int ms, .ref (ad 29), .ref (ad 30)])), (ad 21, .inl (cy 0, 6, .inl (fun i => nI (gL g i)))), (ad 24, .inl (cy 0, 14, .inl (fun i => nI (gH g i)))), (ad 30, .inl (cy 0, 6, .inl (upd q (gH g e) ((nI ((kcN g S (gH g e) e) + 1))))))] H := hP
                have hD : va_D (inW [(ad 20, .inr (5, [.int th, .int (nI (gV g)), .int (nI (gC g)), .int (nI (gE g)), .ref (ad 21), .ref (ad 22), .ref (ad 23), .ref (ad 24), .ref (ad 25), .int kn, .ref (ad 26), .ref (ad 27), .ref (ad 28), .int ms, .ref (ad 29), .ref (ad 30)])), (ad 21, .inl (cy 0, 6, .inl (fun i => nI (gL g i)))), (ad 24, .inl (cy 0, 14, .inl (fun i => nI (gH g i)))), (ad 30, .inl (cy 0, 6, .inl fc))]) [(ad 20, .inr (5, [.int th, .int (nI (gV g)), .int (nI (gC g)), .int (nI (gE g)), .ref (ad 21), .ref (ad 22), .ref (ad 23), .ref (ad 24), .ref (ad 25), .int kn, .ref (ad 26), .ref (ad 27), .ref (ad 28), .int ms, .ref (ad 29), .ref (ad 30)])), (ad 21, .inl (cy 0, 6, .inl (fun i => nI (gL g i)))), (ad 24, .inl (cy 0, 14, .inl (fun i => nI (gH g i)))), (ad 30, .inl (cy 0, 6, .inl (upd q (gH g e) ((nI ((kcN g S (gH g e) e) + 1))))))] := hD
                refine lv_iload_n hx hb dX6_keepsLimits_58 rfl (lv_at hl 2 rfl) ?_
                refine b_eq (b := (kps g S e)) (tgt := 91) hx hb dX6_keepsLimits_59 (by decide) (fun c59 => ?_) (fun c59 => ?_)
                · refine lv_iconst (v := nI 0) hx hb dX6_keepsLimits_91 (by decide) ?_
                  refine lv_istore_n (lv' := [(2, .int (nI 0)), (0, .ref (ad 20)), (1, .int (nI S)), (3, .int (nI e))]) hx hb dX6_keepsLimits_92 rfl hl (by decide) rfl (fun ls hl => ?_)
                  refine lv_iinc (v := (nI (e + 1))) (lv' := [(3, .int (nI (e + 1))), (2, .int (nI 0)), (0, .ref (ad 20)), (1, .int (nI S))]) hx hb dX6_keepsLimits_93 hl (k := 3) rfl (ni_inc _) (by decide) rfl (fun ls hl => ?_)
                  refine lv_goto (tgt := 27) hx hb dX6_keepsLimits_96 (by decide) ?_
                  exact ih27 (e + 1) ((upd q (gH g e) ((nI ((kcN g S (gH g e) e) + 1))))) ⟨by omega, by omega⟩ (kco_y hk c40) _ _ hP hD hS _ (by first | (rw [kps_n c40]; exact lv_sub hl [2, 3, 1, 0] rfl) | (rw [kps_y hg (by omega) c40, c59]; exact lv_sub hl [2, 3, 1, 0] rfl) | (rw [kps_y hg (by omega) c40, c59, Bool.true_and, decide_eq_true (by rw [kcN_y c40]; omega)]; exact lv_sub hl [2, 3, 1, 0] rfl) | (rw [kps_y hg (by omega) c40, c59, Bool.true_and, decide_eq_false (by rw [kcN_y c40]; omega)]; exact lv_sub hl [2, 3, 1, 0] rfl))
                · refine lv_aload_n hx hb dX6_keepsLimits_62 rfl (lv_at hl 0 rfl) ?_
                  refine va_get (D := D) (ci := 5) (v := .ref (ad 30)) (C := RX6) (T := TX6) (N := 16) hx hb hts inX6 hown hK.1 hP 0 rfl rfl 15 (by decide) (hts (.fieldLink RX6 46 "ColourForestsModel" "counts" "[I") (List.mem_of_getElem? (i := 2) rfl)) (fun _ h9 => h9) rfl dX6_keepsLimits_63 ?_
                  refine lv_aload_n hx hb dX6_keepsLimits_66 rfl (lv_at hl 0 rfl) ?_
                  refine va_get (D := D) (ci := 5) (v := .ref (ad 24)) (C := RX6) (T := TX6) (N := 16) hx hb hts inX6 hown hK.1 hP 0 rfl rfl 7 (by decide) (hts (.fieldLink RX6 26 "ColourForestsModel" "colourOf" "[I") (List.mem_of_getElem? (i := 4) rfl)) (fun _ h9 => h9) rfl dX6_keepsLimits_67 ?_
                  refine lv_iload_n hx hb dX6_keepsLimits_70 rfl (lv_at hl 3 rfl) ?_
                  refine rd_i (k := e) (v := (nI (gH g e))) hx hb hK hP 2 rfl (by omega) (by decide) rfl dX6_keepsLimits_71 ?_
                  refine rd_i (k := (gH g e)) (v := (nI (kcN g S (gH g e) e + 1))) hx hb hK hP 3 rfl (by omega) (by decide) upd_eq dX6_keepsLimits_72 ?_
                  refine lv_aload_n hx hb dX6_keepsLimits_73 rfl (lv_at hl 0 rfl) ?_
                  refine va_get (D := D) (ci := 5) (v := .ref (ad 21)) (C := RX6) (T := TX6) (N := 16) hx hb hts inX6 hown hK.1 hP 0 rfl rfl 4 (by decide) (hts (.fieldLink RX6 16 "ColourForestsModel" "limits" "[I") (List.mem_of_getElem? (i := 5) rfl)) (fun _ h9 => h9) rfl dX6_keepsLimits_74 ?_
                  refine lv_aload_n hx hb dX6_keepsLimits_77 rfl (lv_at hl 0 rfl) ?_
                  refine va_get (D := D) (ci := 5) (v := .ref (ad 24)) (C := RX6) (T := TX6) (N := 16) hx hb hts inX6 hown hK.1 hP 0 rfl rfl 7 (by decide) (hts (.fieldLink RX6 26 "ColourForestsModel" "colourOf" "[I") (List.mem_of_getElem? (i := 4) rfl)) (fun _ h9 => h9) rfl dX6_keepsLimits_78 ?_
                  refine lv_iload_n hx hb dX6_keepsLimits_81 rfl (lv_at hl 3 rfl) ?_
                  refine rd_i (k := e) (v := (nI (gH g e))) hx hb hK hP 2 rfl (by omega) (by decide) rfl dX6_keepsLimits_82 ?_
                  refine rd_i (k := (gH g e)) (v := (nI (gL g (gH g e)))) hx hb hK hP 1 rfl (by omega) (by decide) rfl dX6_keepsLimits_83 ?_
                  refine n_gt (a := (kcN g S (gH g e) e + 1)) (b := (gL g (gH g e))) (tgt := 91) hx hb dX6_keepsLimits_84 (by decide) (by omega) (by omega) (fun c84 => ?_) (fun c84 => ?_)
                  · refine lv_iconst (v := nI 0) hx hb dX6_keepsLimits_91 (by decide) ?_
                    refine lv_istore_n (lv' := [(2, .int (nI 0)), (0, .ref (ad 20)), (1, .int (nI S)), (3, .int (nI e))]) hx hb dX6_keepsLimits_92 rfl hl (by decide) rfl (fun ls hl => ?_)
                    refine lv_iinc (v := (nI (e + 1))) (lv' := [(3, .int (nI (e + 1))), (2, .int (nI 0)), (0, .ref (ad 20)), (1, .int (nI S))]) hx hb dX6_keepsLimits_93 hl (k := 3) rfl (ni_inc _) (by decide) rfl (fun ls hl => ?_)
                    refine lv_goto (tgt := 27) hx hb dX6_keepsLimits_96 (by decide) ?_
                    exact ih27 (e + 1) ((upd q (gH g e) ((nI ((kcN g S (gH g e) e) + 1))))) ⟨by omega, by omega⟩ (kco_y hk c40) _ _ hP hD hS _ (by first | (rw [kps_n c40]; exact lv_sub hl [2, 3, 1, 0] rfl) | (rw [kps_y hg (by omega) c40, c59]; exact lv_sub hl [2, 3, 1, 0] rfl) | (rw [kps_y hg (by omega) c40, c59, Bool.true_and, decide_eq_true (by rw [kcN_y c40]; omega)]; exact lv_sub hl [2, 3, 1, 0] rfl) | (rw [kps_y hg (by omega) c40, c59, Bool.true_and, decide_eq_false (by rw [kcN_y c40]; omega)]; exact lv_sub hl [2, 3, 1, 0] rfl))
                  · refine lv_iconst (v := nI 1) hx hb dX6_keepsLimits_87 (by decide) ?_
                    refine lv_goto (tgt := 92) hx hb dX6_keepsLimits_88 (by decide) ?_
                    refine lv_istore_n (lv' := [(2, .int (nI 1)), (0, .ref (ad 20)), (1, .int (nI S)), (3, .int (nI e))]) hx hb dX6_keepsLimits_92 rfl hl (by decide) rfl (fun ls hl => ?_)
                    refine lv_iinc (v := (nI (e + 1))) (lv' := [(3, .int (nI (e + 1))), (2, .int (nI 1)), (0, .ref (ad 20)), (1, .int (nI S))]) hx hb dX6_keepsLimits_93 hl (k := 3) rfl (ni_inc _) (by decide) rfl (fun ls hl => ?_)
                    refine lv_goto (tgt := 27) hx hb dX6_keepsLimits_96 (by decide) ?_
                    exact ih27 (e + 1) ((upd q (gH g e) ((nI ((kcN g S (gH g e) e) + 1))))) ⟨by omega, by omega⟩ (kco_y hk c40) _ _ hP hD hS _ (by first | (rw [kps_n c40]; exact lv_sub hl [2, 3, 1, 0] rfl) | (rw [kps_y hg (by omega) c40, c59]; exact lv_sub hl [2, 3, 1, 0] rfl) | (rw [kps_y hg (by omega) c40, c59, Bool.true_and, decide_eq_true (by rw [kcN_y c40]; omega)]; exact lv_sub hl [2, 3, 1, 0] rfl) | (rw [kps_y hg (by omega) c40, c59, Bool.true_and, decide_eq_false (by rw [kcN_y c40]; omega)]; exact lv_sub hl [2, 3, 1, 0] rfl))
        exact L27 (gE g + 1) 0 q ⟨by omega, by omega⟩ (fun c hc => by rw [hz c (by omega)]; rfl) _ _ hP hD hS _ (by rw [kps_0]; exact lv_sub hl [2, 3, 1, 0] rfl)
      · refine lv_aload_n hx hb dX6_keepsLimits_10 rfl (lv_at hl 0 rfl) ?_
        refine va_get (D := D) (ci := 5) (v := .ref (ad 30)) (C := RX6) (T := TX6) (N := 16) hx hb hts inX6 hown hK.1 hP 0 rfl rfl 15 (by decide) (hts (.fieldLink RX6 46 "ColourForestsModel" "counts" "[I") (List.mem_of_getElem? (i := 2) rfl)) (fun _ h9 => h9) rfl dX6_keepsLimits_11 ?_
        refine lv_iload_n hx hb dX6_keepsLimits_14 rfl (lv_at hl 2 rfl) ?_
        refine lv_iconst (v := nI 0) hx hb dX6_keepsLimits_15 (by decide) ?_
        refine st_i (k := c9) (g := (upd q c9 ((nI 0)))) hx hb hK hP hD hS 3 rfl (by omega) (by decide) rfl dX6_keepsLimits_16 (fun H locs hP hD hS => ?_)
        have hP : va_P D vwCl [(ad 20, .inr (5, [.int th, .int (nI (gV g)), .int (nI (gC g)), .int (nI (gE g)), .ref (ad 21), .ref (ad 22), .ref (ad 23), .ref (ad 24), .ref (ad 25), .int kn, .ref (ad 26), .ref (ad 27), .ref (ad 28), .int ms, .ref (ad 29), .ref (ad 30)])), (ad 21, .inl (cy 0, 6, .inl (fun i => nI (gL g i)))), (ad 24, .inl (cy 0, 14, .inl (fun i => nI (gH g i)))), (ad 30, .inl (cy 0, 6, .inl (upd q c9 ((nI 0)))))] H := hP
        have hD : va_D (inW [(ad 20, .inr (5, [.int th, .int (nI (gV g)), .int (nI (gC g)), .int (nI (gE g)), .ref (ad 21), .ref (ad 22), .ref (ad 23), .ref (ad 24), .ref (ad 25), .int kn, .ref (ad 26), .ref (ad 27), .ref (ad 28), .int ms, .ref (ad 29), .ref (ad 30)])), (ad 21, .inl (cy 0, 6, .inl (fun i => nI (gL g i)))), (ad 24, .inl (cy 0, 14, .inl (fun i => nI (gH g i)))), (ad 30, .inl (cy 0, 6, .inl fc))]) [(ad 20, .inr (5, [.int th, .int (nI (gV g)), .int (nI (gC g)), .int (nI (gE g)), .ref (ad 21), .ref (ad 22), .ref (ad 23), .ref (ad 24), .ref (ad 25), .int kn, .ref (ad 26), .ref (ad 27), .ref (ad 28), .int ms, .ref (ad 29), .ref (ad 30)])), (ad 21, .inl (cy 0, 6, .inl (fun i => nI (gL g i)))), (ad 24, .inl (cy 0, 14, .inl (fun i => nI (gH g i)))), (ad 30, .inl (cy 0, 6, .inl (upd q c9 ((nI 0)))))] := hD
        refine lv_iinc (v := (nI (c9 + 1))) (lv' := [(2, .int (nI (c9 + 1))), (0, .ref (ad 20)), (1, .int (nI S))]) hx hb dX6_keepsLimits_17 hl (k := 2) rfl (ni_inc _) (by decide) rfl (fun ls hl => ?_)
        refine lv_goto (tgt := 2) hx hb dX6_keepsLimits_20 (by decide) ?_
        exact ih2 (c9 + 1) ((upd q c9 (nI 0))) ⟨by omega, by omega⟩ (zro_s hz) _ _ hP hD hS _ (lv_sub hl [1, 2, 0] rfl)
  exact L2 (gC g + 1) 0 fc ⟨by omega, by omega⟩ (fun c hc => by omega) _ _ hP hD hS _ (lv_sub hl [1, 2, 0] rfl)
set_option maxHeartbeats 4000000 in
set_option maxRecDepth 100000 in
theorem c_X6_make_no (l : Launch) (D : va_G) (cy : Nat → ClassId) (ad : Nat → Nat) (g : GT) (th kn ms : Int32) {x y : Int32} (h : mkOK x y = false) : WV l yX6_make wsX6_make ({ frames := 1, cells := 0, slots := 0, locals := 21 }) D cy [.ref (ad 20), .int x, .int y] [(ad 20, .inr (5, [.int th, .int (nI (gV g)), .int (nI (gC g)), .int (nI (gE g)), .ref (ad 21), .ref (ad 22), .ref (ad 23), .ref (ad 24), .ref (ad 25), .int kn, .ref (ad 26), .ref (ad 27), .ref (ad 28), .int ms, .ref (ad 29), .ref (ad 30)]))] (fun _ : Unit => True) (fun _ : Unit => [(ad 20, .inr (5, [.int (nI 1), .int (nI (gV g)), .int (nI (gC g)), .int (nI (gE g)), .ref (ad 21), .ref (ad 22), .ref (ad 23), .ref (ad 24), .ref (ad 25), .int kn, .ref (ad 26), .ref (ad 27), .ref (ad 28), .int ms, .ref (ad 29), .ref (ad 30)]))]) := by
  refine Met.ofW (cc := cX6_make) (maxL := 4) (ret := none) (by decide) rfl ?_
  intro p ev s m args below meth c s₁ B hml hv
  obtain ⟨rfl, ⟨hK, hP⟩, hD0⟩ := hv
  have hx := B.exec
  have hb := B.bytes
  have hr := B.returns
  have hts := atoms_spec (ws := wsX6_make) B.pre
  have hown : s.vm.findClass RX6 = some m.cls := findClass_of_methodNamed B.named
  have hlocks := B.notSynchronized
  have hD : va_D (inW [(ad 20, .inr (5, [.int th, .int (nI (gV g)), .int (nI (gC g)), .int (nI (gE g)), .ref (ad 21), .ref (ad 22), .ref (ad 23), .ref (ad 24), .ref (ad 25), .int kn, .ref (ad 26), .ref (ad 27), .ref (ad 28), .int ms, .ref (ad 29), .ref (ad 30)]))]) ([(ad 20, .inr (5, [.int th, .int (nI (gV g)), .int (nI (gC g)), .int (nI (gE g)), .ref (ad 21), .ref (ad 22), .ref (ad 23), .ref (ad 24), .ref (ad 25), .int kn, .ref (ad 26), .ref (ad 27), .ref (ad 28), .int ms, .ref (ad 29), .ref (ad 30)]))]) := inW_self hD0
  have hS : va_S (inW [(ad 20, .inr (5, [.int th, .int (nI (gV g)), .int (nI (gC g)), .int (nI (gE g)), .ref (ad 21), .ref (ad 22), .ref (ad 23), .ref (ad 24), .ref (ad 25), .int kn, .ref (ad 26), .ref (ad 27), .ref (ad 28), .int ms, .ref (ad 29), .ref (ad 30)]))]) s.heap s.heap [] := va_S.rf
  have hP : va_P D vwCl [(ad 20, .inr (5, [.int th, .int (nI (gV g)), .int (nI (gC g)), .int (nI (gE g)), .ref (ad 21), .ref (ad 22), .ref (ad 23), .ref (ad 24), .ref (ad 25), .int kn, .ref (ad 26), .ref (ad 27), .ref (ad 28), .int ms, .ref (ad 29), .ref (ad 30)]))] s.heap := hP
  have inX6 : ∀ w ∈ wsX60, w ∈ wsX6_make := by decide +kernel
  have hl := lv_entry ([.ref (ad 20), .int x, .int y]) (n := 4) (Nat.le_of_ble_eq_true rfl)
  rw [lg_entry_eq]
  generalize (lg_sl ([.ref (ad 20), .int x, .int y]) ++ List.replicate (4 - (lg_sl ([.ref (ad 20), .int x, .int y])).length) Slot.unset).toArray = ls at hl ⊢
  have hl : lv_has ls 4 [(0, .ref (ad 20)), (1, .int x), (2, .int y)] := hl
  have hgen := True.intro
  refine lv_aload_n hx hb dX6_make_0 rfl (lv_at hl 0 rfl) ?_
  refine lv_iload_n hx hb dX6_make_1 rfl (lv_at hl 1 rfl) ?_
  refine lv_iconst (v := nI 1) hx hb dX6_make_2 (by decide) ?_
  refine lv_icmp_lt (tgt := 23) hx hb dX6_make_3 (by decide) (fun c3 => ?_) (fun c3 => ?_)
  · refine lv_iconst (v := nI 1) hx hb dX6_make_23 (by decide) ?_
    refine lv_goto (tgt := 28) hx hb dX6_make_24 (by decide) ?_
    refine wr_calli [0] (va_runV (As := [.int (nI 1)]) (rest := []) ⟨hx, hb, hml, hown, hts⟩ (c_X6_refuses l D cy ad g th kn ms ((nI 1))) (cwV 1 hts gX6_make_X6_refuses rfl rfl rfl (by decide +kernel) ⟨Nat.le_of_ble_eq_true rfl, Nat.le_of_ble_eq_true rfl⟩) (WR_preV (ci := 5) (q0 := 0) hK hP hD rfl rfl [0] (by decide) rfl rfl) rfl rfl hl.1 rfl (lv_room (Nat.le_of_ble_eq_true rfl)) dX6_make_28 ⟨(Nat.zero_le _), (Nat.zero_le _)⟩) hS hP hD rfl (fun _ => rfl) (fun _ => rfl) (fun r28 u28 H locs w28 hP hD hS => ?_)
    refine lv_as (y := bI true) (by rw [w28]; first | rfl | decide) ?_
    have hP : va_P D vwCl [(ad 20, .inr (5, [.int (nI 1), .int (nI (gV g)), .int (nI (gC g)), .int (nI (gE g)), .ref (ad 21), .ref (ad 22), .ref (ad 23), .ref (ad 24), .ref (ad 25), .int kn, .ref (ad 26), .ref (ad 27), .ref (ad 28), .int ms, .ref (ad 29), .ref (ad 30)]))] H := hP
    have hD : va_D (inW [(ad 20, .inr (5, [.int th, .int (nI (gV g)), .int (nI (gC g)), .int (nI (gE g)), .ref (ad 21), .ref (ad 22), .ref (ad 23), .ref (ad 24), .ref (ad 25), .int kn, .ref (ad 26), .ref (ad 27), .ref (ad 28), .int ms, .ref (ad 29), .ref (ad 30)]))]) [(ad 20, .inr (5, [.int (nI 1), .int (nI (gV g)), .int (nI (gC g)), .int (nI (gE g)), .ref (ad 21), .ref (ad 22), .ref (ad 23), .ref (ad 24), .ref (ad 25), .int kn, .ref (ad 26), .ref (ad 27), .ref (ad 28), .int ms, .ref (ad 29), .ref (ad 30)]))] := hD
    refine b_eq (b := true) (tgt := 35) hx hb dX6_make_31 (by decide) (fun c31 => ?_) (fun c31 => ?_)
    · cases c31
    · exact wv_ret () hx hb hr hlocks hS hP trivial dX6_make_34
  · refine lv_iload_n hx hb dX6_make_6 rfl (lv_at hl 1 rfl) ?_
    refine lv_bipush (v := nI 8) hx hb dX6_make_7 (by decide) ?_
    refine lv_icmp_gt (tgt := 23) hx hb dX6_make_9 (by decide) (fun c9 => ?_) (fun c9 => ?_)
    · refine lv_iconst (v := nI 1) hx hb dX6_make_23 (by decide) ?_
      refine lv_goto (tgt := 28) hx hb dX6_make_24 (by decide) ?_
      refine wr_calli [0] (va_runV (As := [.int (nI 1)]) (rest := []) ⟨hx, hb, hml, hown, hts⟩ (c_X6_refuses l D cy ad g th kn ms ((nI 1))) (cwV 1 hts gX6_make_X6_refuses rfl rfl rfl (by decide +kernel) ⟨Nat.le_of_ble_eq_true rfl, Nat.le_of_ble_eq_true rfl⟩) (WR_preV (ci := 5) (q0 := 0) hK hP hD rfl rfl [0] (by decide) rfl rfl) rfl rfl hl.1 rfl (lv_room (Nat.le_of_ble_eq_true rfl)) dX6_make_28 ⟨(Nat.zero_le _), (Nat.zero_le _)⟩) hS hP hD rfl (fun _ => rfl) (fun _ => rfl) (fun r28 u28 H locs w28 hP hD hS => ?_)
      refine lv_as (y := bI true) (by rw [w28]; first | rfl | decide) ?_
      have hP : va_P D vwCl [(ad 20, .inr (5, [.int (nI 1), .int (nI (gV g)), .int (nI (gC g)), .int (nI (gE g)), .ref (ad 21), .ref (ad 22), .ref (ad 23), .ref (ad 24), .ref (ad 25), .int kn, .ref (ad 26), .ref (ad 27), .ref (ad 28), .int ms, .ref (ad 29), .ref (ad 30)]))] H := hP
      have hD : va_D (inW [(ad 20, .inr (5, [.int th, .int (nI (gV g)), .int (nI (gC g)), .int (nI (gE g)), .ref (ad 21), .ref (ad 22), .ref (ad 23), .ref (ad 24), .ref (ad 25), .int kn, .ref (ad 26), .ref (ad 27), .ref (ad 28), .int ms, .ref (ad 29), .ref (ad 30)]))]) [(ad 20, .inr (5, [.int (nI 1), .int (nI (gV g)), .int (nI (gC g)), .int (nI (gE g)), .ref (ad 21), .ref (ad 22), .ref (ad 23), .ref (ad 24), .ref (ad 25), .int kn, .ref (ad 26), .ref (ad 27), .ref (ad 28), .int ms, .ref (ad 29), .ref (ad 30)]))] := hD
      refine b_eq (b := true) (tgt := 35) hx hb dX6_make_31 (by decide) (fun c31 => ?_) (fun c31 => ?_)
      · cases c31
      · exact wv_ret () hx hb hr hlocks hS hP trivial dX6_make_34
    · refine lv_iload_n hx hb dX6_make_12 rfl (lv_at hl 2 rfl) ?_
      refine lv_iconst (v := nI 1) hx hb dX6_make_13 (by decide) ?_
      refine lv_icmp_lt (tgt := 23) hx hb dX6_make_14 (by decide) (fun c14 => ?_) (fun c14 => ?_)
      · refine lv_iconst (v := nI 1) hx hb dX6_make_23 (by decide) ?_
        refine lv_goto (tgt := 28) hx hb dX6_make_24 (by decide) ?_
        refine wr_calli [0] (va_runV (As := [.int (nI 1)]) (rest := []) ⟨hx, hb, hml, hown, hts⟩ (c_X6_refuses l D cy ad g th kn ms ((nI 1))) (cwV 1 hts gX6_make_X6_refuses rfl rfl rfl (by decide +kernel) ⟨Nat.le_of_ble_eq_true rfl, Nat.le_of_ble_eq_true rfl⟩) (WR_preV (ci := 5) (q0 := 0) hK hP hD rfl rfl [0] (by decide) rfl rfl) rfl rfl hl.1 rfl (lv_room (Nat.le_of_ble_eq_true rfl)) dX6_make_28 ⟨(Nat.zero_le _), (Nat.zero_le _)⟩) hS hP hD rfl (fun _ => rfl) (fun _ => rfl) (fun r28 u28 H locs w28 hP hD hS => ?_)
        refine lv_as (y := bI true) (by rw [w28]; first | rfl | decide) ?_
        have hP : va_P D vwCl [(ad 20, .inr (5, [.int (nI 1), .int (nI (gV g)), .int (nI (gC g)), .int (nI (gE g)), .ref (ad 21), .ref (ad 22), .ref (ad 23), .ref (ad 24), .ref (ad 25), .int kn, .ref (ad 26), .ref (ad 27), .ref (ad 28), .int ms, .ref (ad 29), .ref (ad 30)]))] H := hP
        have hD : va_D (inW [(ad 20, .inr (5, [.int th, .int (nI (gV g)), .int (nI (gC g)), .int (nI (gE g)), .ref (ad 21), .ref (ad 22), .ref (ad 23), .ref (ad 24), .ref (ad 25), .int kn, .ref (ad 26), .ref (ad 27), .ref (ad 28), .int ms, .ref (ad 29), .ref (ad 30)]))]) [(ad 20, .inr (5, [.int (nI 1), .int (nI (gV g)), .int (nI (gC g)), .int (nI (gE g)), .ref (ad 21), .ref (ad 22), .ref (ad 23), .ref (ad 24), .ref (ad 25), .int kn, .ref (ad 26), .ref (ad 27), .ref (ad 28), .int ms, .ref (ad 29), .ref (ad 30)]))] := hD
        refine b_eq (b := true) (tgt := 35) hx hb dX6_make_31 (by decide) (fun c31 => ?_) (fun c31 => ?_)
        · cases c31
        · exact wv_ret () hx hb hr hlocks hS hP trivial dX6_make_34
      · refine lv_iload_n hx hb dX6_make_17 rfl (lv_at hl 2 rfl) ?_
        refine lv_bipush (v := nI 6) hx hb dX6_make_18 (by decide) ?_
        refine lv_icmp_le (tgt := 27) hx hb dX6_make_20 (by decide) (fun c20 => ?_) (fun c20 => ?_)
        · exact absurd (h.symm.trans (mk_yes c3 c9 c14 c20)) (by decide)
        · refine lv_iconst (v := nI 1) hx hb dX6_make_23 (by decide) ?_
          refine lv_goto (tgt := 28) hx hb dX6_make_24 (by decide) ?_
          refine wr_calli [0] (va_runV (As := [.int (nI 1)]) (rest := []) ⟨hx, hb, hml, hown, hts⟩ (c_X6_refuses l D cy ad g th kn ms ((nI 1))) (cwV 1 hts gX6_make_X6_refuses rfl rfl rfl (by decide +kernel) ⟨Nat.le_of_ble_eq_true rfl, Nat.le_of_ble_eq_true rfl⟩) (WR_preV (ci := 5) (q0 := 0) hK hP hD rfl rfl [0] (by decide) rfl rfl) rfl rfl hl.1 rfl (lv_room (Nat.le_of_ble_eq_true rfl)) dX6_make_28 ⟨(Nat.zero_le _), (Nat.zero_le _)⟩) hS hP hD rfl (fun _ => rfl) (fun _ => rfl) (fun r28 u28 H locs w28 hP hD hS => ?_)
          refine lv_as (y := bI true) (by rw [w28]; first | rfl | decide) ?_
          have hP : va_P D vwCl [(ad 20, .inr (5, [.int (nI 1), .int (nI (gV g)), .int (nI (gC g)), .int (nI (gE g)), .ref (ad 21), .ref (ad 22), .ref (ad 23), .ref (ad 24), .ref (ad 25), .int kn, .ref (ad 26), .ref (ad 27), .ref (ad 28), .int ms, .ref (ad 29), .ref (ad 30)]))] H := hP
          have hD : va_D (inW [(ad 20, .inr (5, [.int th, .int (nI (gV g)), .int (nI (gC g)), .int (nI (gE g)), .ref (ad 21), .ref (ad 22), .ref (ad 23), .ref (ad 24), .ref (ad 25), .int kn, .ref (ad 26), .ref (ad 27), .ref (ad 28), .int ms, .ref (ad 29), .ref (ad 30)]))]) [(ad 20, .inr (5, [.int (nI 1), .int (nI (gV g)), .int (nI (gC g)), .int (nI (gE g)), .ref (ad 21), .ref (ad 22), .ref (ad 23), .ref (ad 24), .ref (ad 25), .int kn, .ref (ad 26), .ref (ad 27), .ref (ad 28), .int ms, .ref (ad 29), .ref (ad 30)]))] := hD
          refine b_eq (b := true) (tgt := 35) hx hb dX6_make_31 (by decide) (fun c31 => ?_) (fun c31 => ?_)
          · cases c31
          · exact wv_ret () hx hb hr hlocks hS hP trivial dX6_make_34

set_option maxHeartbeats 4000000 in
set_option maxRecDepth 100000 in
theorem c_X6_make_yes (l : Launch) (D : va_G) (cy : Nat → ClassId) (ad : Nat → Nat) (g : GT) (th kn ms : Int32) {a b : Nat} (ha : 1 ≤ a ∧ a ≤ 8) (hb9 : 1 ≤ b ∧ b ≤ 6) : WV l yX6_make wsX6_make ({ frames := 1, cells := 0, slots := 0, locals := 21 }) D cy [.ref (ad 20), .int (nI a), .int (nI b)] [(ad 20, .inr (5, [.int th, .int (nI (gV g)), .int (nI (gC g)), .int (nI (gE g)), .ref (ad 21), .ref (ad 22), .ref (ad 23), .ref (ad 24), .ref (ad 25), .int kn, .ref (ad 26), .ref (ad 27), .ref (ad 28), .int ms, .ref (ad 29), .ref (ad 30)])), (ad 21, .inl (cy 0, 6, .inl (fun i => nI (gL g i))))] (fun _ : Unit => True) (fun _ : Unit => [(ad 20, .inr (5, [.int (nI 0), .int (nI (gV (mkG a b g))), .int (nI (gC (mkG a b g))), .int (nI (gE (mkG a b g))), .ref (ad 21), .ref (ad 22), .ref (ad 23), .ref (ad 24), .ref (ad 25), .int (bI false), .ref (ad 26), .ref (ad 27), .ref (ad 28), .int ms, .ref (ad 29), .ref (ad 30)])), (ad 21, .inl (cy 0, 6, .inl (fun i => nI (gL (mkG a b g) i))))]) := by
  refine Met.ofW (cc := cX6_make) (maxL := 4) (ret := none) (by decide) rfl ?_
  intro p ev s m args below meth c s₁ B hml hv
  obtain ⟨rfl, ⟨hK, hP⟩, hD0⟩ := hv
  have hx := B.exec
  have hb := B.bytes
  have hr := B.returns
  have hts := atoms_spec (ws := wsX6_make) B.pre
  have hown : s.vm.findClass RX6 = some m.cls := findClass_of_methodNamed B.named
  have hlocks := B.notSynchronized
  have hD : va_D (inW [(ad 20, .inr (5, [.int th, .int (nI (gV g)), .int (nI (gC g)), .int (nI (gE g)), .ref (ad 21), .ref (ad 22), .ref (ad 23), .ref (ad 24), .ref (ad 25), .int kn, .ref (ad 26), .ref (ad 27), .ref (ad 28), .int ms, .ref (ad 29), .ref (ad 30)])), (ad 21, .inl (cy 0, 6, .inl (fun i => nI (gL g i))))]) ([(ad 20, .inr (5, [.int th, .int (nI (gV g)), .int (nI (gC g)), .int (nI (gE g)), .ref (ad 21), .ref (ad 22), .ref (ad 23), .ref (ad 24), .ref (ad 25), .int kn, .ref (ad 26), .ref (ad 27), .ref (ad 28), .int ms, .ref (ad 29), .ref (ad 30)])), (ad 21, .inl (cy 0, 6, .inl (fun i => nI (gL g i))))]) := inW_self hD0
  have hS : va_S (inW [(ad 20, .inr (5, [.int th, .int (nI (gV g)), .int (nI (gC g)), .int (nI (gE g)), .ref (ad 21), .ref (ad 22), .ref (ad 23), .ref (ad 24), .ref (ad 25), .int kn, .ref (ad 26), .ref (ad 27), .ref (ad 28), .int ms, .ref (ad 29), .ref (ad 30)])), (ad 21, .inl (cy 0, 6, .inl (fun i => nI (gL g i))))]) s.heap s.heap [] := va_S.rf
  have hP : va_P D vwCl [(ad 20, .inr (5, [.int th, .int (nI (gV g)), .int (nI (gC g)), .int (nI (gE g)), .ref (ad 21), .ref (ad 22), .ref (ad 23), .ref (ad 24), .ref (ad 25), .int kn, .ref (ad 26), .ref (ad 27), .ref (ad 28), .int ms, .ref (ad 29), .ref (ad 30)])), (ad 21, .inl (cy 0, 6, .inl (fun i => nI (gL g i))))] s.heap := hP
  have inX6 : ∀ w ∈ wsX60, w ∈ wsX6_make := by decide +kernel
  have hl := lv_entry ([.ref (ad 20), .int (nI a), .int (nI b)]) (n := 4) (Nat.le_of_ble_eq_true rfl)
  rw [lg_entry_eq]
  generalize (lg_sl ([.ref (ad 20), .int (nI a), .int (nI b)]) ++ List.replicate (4 - (lg_sl ([.ref (ad 20), .int (nI a), .int (nI b)])).length) Slot.unset).toArray = ls at hl ⊢
  have hl : lv_has ls 4 [(0, .ref (ad 20)), (1, .int (nI a)), (2, .int (nI b))] := hl
  have hgen := True.intro
  refine lv_aload_n hx hb dX6_make_0 rfl (lv_at hl 0 rfl) ?_
  refine lv_iload_n hx hb dX6_make_1 rfl (lv_at hl 1 rfl) ?_
  refine lv_iconst (v := nI 1) hx hb dX6_make_2 (by decide) ?_
  refine n_lt (a := a) (b := 1) (tgt := 23) hx hb dX6_make_3 (by decide) (by omega) (by omega) (fun c3 => ?_) (fun c3 => ?_)
  · exact absurd c3 (by omega)
  · refine lv_iload_n hx hb dX6_make_6 rfl (lv_at hl 1 rfl) ?_
    refine lv_bipush (v := nI 8) hx hb dX6_make_7 (by decide) ?_
    refine n_gt (a := a) (b := 8) (tgt := 23) hx hb dX6_make_9 (by decide) (by omega) (by omega) (fun c9 => ?_) (fun c9 => ?_)
    · exact absurd c9 (by omega)
    · refine lv_iload_n hx hb dX6_make_12 rfl (lv_at hl 2 rfl) ?_
      refine lv_iconst (v := nI 1) hx hb dX6_make_13 (by decide) ?_
      refine n_lt (a := b) (b := 1) (tgt := 23) hx hb dX6_make_14 (by decide) (by omega) (by omega) (fun c14 => ?_) (fun c14 => ?_)
      · exact absurd c14 (by omega)
      · refine lv_iload_n hx hb dX6_make_17 rfl (lv_at hl 2 rfl) ?_
        refine lv_bipush (v := nI 6) hx hb dX6_make_18 (by decide) ?_
        refine n_le (a := b) (b := 6) (tgt := 27) hx hb dX6_make_20 (by decide) (by omega) (by omega) (fun c20 => ?_) (fun c20 => ?_)
        · refine lv_iconst (v := nI 0) hx hb dX6_make_27 (by decide) ?_
          refine wr_calli [0] (va_runV (As := [.int (nI 0)]) (rest := []) ⟨hx, hb, hml, hown, hts⟩ (c_X6_refuses l D cy ad g th kn ms ((nI 0))) (cwV 1 hts gX6_make_X6_refuses rfl rfl rfl (by decide +kernel) ⟨Nat.le_of_ble_eq_true rfl, Nat.le_of_ble_eq_true rfl⟩) (WR_preV (ci := 5) (q0 := 0) hK hP hD rfl rfl [0] (by decide) rfl rfl) rfl rfl hl.1 rfl (lv_room (Nat.le_of_ble_eq_true rfl)) dX6_make_28 ⟨(Nat.zero_le _), (Nat.zero_le _)⟩) hS hP hD rfl (fun _ => rfl) (fun _ => rfl) (fun r28 u28 H locs w28 hP hD hS => ?_)
          refine lv_as (y := bI false) (by rw [w28]; first | rfl | decide) ?_
          have hP : va_P D vwCl [(ad 20, .inr (5, [.int (nI 0), .int (nI (gV g)), .int (nI (gC g)), .int (nI (gE g)), .ref (ad 21), .ref (ad 22), .ref (ad 23), .ref (ad 24), .ref (ad 25), .int kn, .ref (ad 26), .ref (ad 27), .ref (ad 28), .int ms, .ref (ad 29), .ref (ad 30)])), (ad 21, .inl (cy 0, 6, .inl (fun i => nI (gL g i))))] H := hP
          have hD : va_D (inW [(ad 20, .inr (5, [.int th, .int (nI (gV g)), .int (nI (gC g)), .int (nI (gE g)), .ref (ad 21), .ref (ad 22), .ref (ad 23), .ref (ad 24), .ref (ad 25), .int kn, .ref (ad 26), .ref (ad 27), .ref (ad 28), .int ms, .ref (ad 29), .ref (ad 30)])), (ad 21, .inl (cy 0, 6, .inl (fun i => nI (gL g i))))]) [(ad 20, .inr (5, [.int (nI 0), .int (nI (gV g)), .int (nI (gC g)), .int (nI (gE g)), .ref (ad 21), .ref (ad 22), .ref (ad 23), .ref (ad 24), .ref (ad 25), .int kn, .ref (ad 26), .ref (ad 27), .ref (ad 28), .int ms, .ref (ad 29), .ref (ad 30)])), (ad 21, .inl (cy 0, 6, .inl (fun i => nI (gL g i))))] := hD
          refine b_eq (b := false) (tgt := 35) hx hb dX6_make_31 (by decide) (fun c31 => ?_) (fun c31 => ?_)
          · refine lv_aload_n hx hb dX6_make_35 rfl (lv_at hl 0 rfl) ?_
            refine lv_iload_n hx hb dX6_make_36 rfl (lv_at hl 1 rfl) ?_
            refine va_put (D := D) (ci := 5) (v := .int (nI a)) (ty := .int) (C := RX6) (T := TX6) (N := 16) hx hb hts inX6 tyX6 tyX6_ok nmX6 hown hK.1 hP hD hS 0 rfl rfl 1 (by decide) (hts (.fieldLink RX6 7 "ColourForestsModel" "vertices" "I") (List.mem_of_getElem? (i := 1) rfl)) (fun _ h9 => h9) rfl (by decide +kernel) rfl rfl (Nat.le_of_ble_eq_true rfl) dX6_make_37 (fun H locs hP hD hS => ?_)
            have hP : va_P D vwCl [(ad 20, .inr (5, [.int (nI 0), .int (nI a), .int (nI (gC g)), .int (nI (gE g)), .ref (ad 21), .ref (ad 22), .ref (ad 23), .ref (ad 24), .ref (ad 25), .int kn, .ref (ad 26), .ref (ad 27), .ref (ad 28), .int ms, .ref (ad 29), .ref (ad 30)])), (ad 21, .inl (cy 0, 6, .inl (fun i => nI (gL g i))))] H := hP
            have hD : va_D (inW [(ad 20, .inr (5, [.int th, .int (nI (gV g)), .int (nI (gC g)), .int (nI (gE g)), .ref (ad 21), .ref (ad 22), .ref (ad 23), .ref (ad 24), .ref (ad 25), .int kn, .ref (ad 26), .ref (ad 27), .ref (ad 28), .int ms, .ref (ad 29), .ref (ad 30)])), (ad 21, .inl (cy 0, 6, .inl (fun i => nI (gL g i))))]) [(ad 20, .inr (5, [.int (nI 0), .int (nI a), .int (nI (gC g)), .int (nI (gE g)), .ref (ad 21), .ref (ad 22), .ref (ad 23), .ref (ad 24), .ref (ad 25), .int kn, .ref (ad 26), .ref (ad 27), .ref (ad 28), .int ms, .ref (ad 29), .ref (ad 30)])), (ad 21, .inl (cy 0, 6, .inl (fun i => nI (gL g i))))] := hD
            refine lv_aload_n hx hb dX6_make_40 rfl (lv_at hl 0 rfl) ?_
            refine lv_iload_n hx hb dX6_make_41 rfl (lv_at hl 2 rfl) ?_
            refine va_put (D := D) (ci := 5) (v := .int (nI b)) (ty := .int) (C := RX6) (T := TX6) (N := 16) hx hb hts inX6 tyX6 tyX6_ok nmX6 hown hK.1 hP hD hS 0 rfl rfl 2 (by decide) (hts (.fieldLink RX6 13 "ColourForestsModel" "colours" "I") (List.mem_of_getElem? (i := 2) rfl)) (fun _ h9 => h9) rfl (by decide +kernel) rfl rfl (Nat.le_of_ble_eq_true rfl) dX6_make_42 (fun H locs hP hD hS => ?_)
            have hP : va_P D vwCl [(ad 20, .inr (5, [.int (nI 0), .int (nI a), .int (nI b), .int (nI (gE g)), .ref (ad 21), .ref (ad 22), .ref (ad 23), .ref (ad 24), .ref (ad 25), .int kn, .ref (ad 26), .ref (ad 27), .ref (ad 28), .int ms, .ref (ad 29), .ref (ad 30)])), (ad 21, .inl (cy 0, 6, .inl (fun i => nI (gL g i))))] H := hP
            have hD : va_D (inW [(ad 20, .inr (5, [.int th, .int (nI (gV g)), .int (nI (gC g)), .int (nI (gE g)), .ref (ad 21), .ref (ad 22), .ref (ad 23), .ref (ad 24), .ref (ad 25), .int kn, .ref (ad 26), .ref (ad 27), .ref (ad 28), .int ms, .ref (ad 29), .ref (ad 30)])), (ad 21, .inl (cy 0, 6, .inl (fun i => nI (gL g i))))]) [(ad 20, .inr (5, [.int (nI 0), .int (nI a), .int (nI b), .int (nI (gE g)), .ref (ad 21), .ref (ad 22), .ref (ad 23), .ref (ad 24), .ref (ad 25), .int kn, .ref (ad 26), .ref (ad 27), .ref (ad 28), .int ms, .ref (ad 29), .ref (ad 30)])), (ad 21, .inl (cy 0, 6, .inl (fun i => nI (gL g i))))] := hD
            refine lv_aload_n hx hb dX6_make_45 rfl (lv_at hl 0 rfl) ?_
            refine lv_iconst (v := nI 0) hx hb dX6_make_46 (by decide) ?_
            refine va_put (D := D) (ci := 5) (v := .int (nI 0)) (ty := .int) (C := RX6) (T := TX6) (N := 16) hx hb hts inX6 tyX6 tyX6_ok nmX6 hown hK.1 hP hD hS 0 rfl rfl 3 (by decide) (hts (.fieldLink RX6 56 "ColourForestsModel" "edges" "I") (List.mem_of_getElem? (i := 3) rfl)) (fun _ h9 => h9) rfl (by decide +kernel) rfl rfl (Nat.le_of_ble_eq_true rfl) dX6_make_47 (fun H locs hP hD hS => ?_)
            have hP : va_P D vwCl [(ad 20, .inr (5, [.int (nI 0), .int (nI a), .int (nI b), .int (nI 0), .ref (ad 21), .ref (ad 22), .ref (ad 23), .ref (ad 24), .ref (ad 25), .int kn, .ref (ad 26), .ref (ad 27), .ref (ad 28), .int ms, .ref (ad 29), .ref (ad 30)])), (ad 21, .inl (cy 0, 6, .inl (fun i => nI (gL g i))))] H := hP
            have hD : va_D (inW [(ad 20, .inr (5, [.int th, .int (nI (gV g)), .int (nI (gC g)), .int (nI (gE g)), .ref (ad 21), .ref (ad 22), .ref (ad 23), .ref (ad 24), .ref (ad 25), .int kn, .ref (ad 26), .ref (ad 27), .ref (ad 28), .int ms, .ref (ad 29), .ref (ad 30)])), (ad 21, .inl (cy 0, 6, .inl (fun i => nI (gL g i))))]) [(ad 20, .inr (5, [.int (nI 0), .int (nI a), .int (nI b), .int (nI 0), .ref (ad 21), .ref (ad 22), .ref (ad 23), .ref (ad 24), .ref (ad 25), .int kn, .ref (ad 26), .ref (ad 27), .ref (ad 28), .int ms, .ref (ad 29), .ref (ad 30)])), (ad 21, .inl (cy 0, 6, .inl (fun i => nI (gL g i))))] := hD
            refine lv_iconst (v := nI 0) hx hb dX6_make_50 (by decide) ?_
            refine lv_istore_n (lv' := [(3, .int (nI 0)), (0, .ref (ad 20)), (1, .int (nI a)), (2, .int (nI b))]) hx hb dX6_make_51 rfl hl (by decide) rfl (fun ls hl => ?_)
            have L52 : ∀ (n : Nat) (v : Nat), v ≤ 6 ∧ 7 ≤ v + n → ∀ (H : Heap) (locs : List Loc), va_P D vwCl [(ad 20, .inr (5, [.int (nI 0), .int (nI a), .int (nI b), .int (nI 0), .ref (ad 21), .ref (ad 22), .ref (ad 23), .ref (ad 24), .ref (ad 25), .int kn, .ref (ad 26), .ref (ad 27), .ref (ad 28), .int ms, .ref (ad 29), .ref (ad 30)])), (ad 21, .inl (cy 0, 6, .inl (fun i => nI (if i < v then 1 else gL g i))))] H → va_D (inW [(ad 20, .inr (5, [.int th, .int (nI (gV g)), .int (nI (gC g)), .int (nI (gE g)), .ref (ad 21), .ref (ad 22), .ref (ad 23), .ref (ad 24), .ref (ad 25), .int kn, .ref (ad 26), .ref (ad 27), .ref (ad 28), .int ms, .ref (ad 29), .ref (ad 30)])), (ad 21, .inl (cy 0, 6, .inl (fun i => nI (gL g i))))]) [(ad 20, .inr (5, [.int (nI 0), .int (nI a), .int (nI b), .int (nI 0), .ref (ad 21), .ref (ad 22), .ref (ad 23), .ref (ad 24), .ref (ad 25), .int kn, .ref (ad 26), .ref (ad 27), .ref (ad 28), .int ms, .ref (ad 29), .ref (ad 30)])), (ad 21, .inl (cy 0, 6, .inl (fun i => nI (if i < v then 1 else gL g i))))] → va_S (inW [(ad 20, .inr (5, [.int th, .int (nI (gV g)), .int (nI (gC g)), .int (nI (gE g)), .ref (ad 21), .ref (ad 22), .ref (ad 23), .ref (ad 24), .ref (ad 25), .int kn, .ref (ad 26), .ref (ad 27), .ref (ad 28), .int ms, .ref (ad 29), .ref (ad 30)])), (ad 21, .inl (cy 0, 6, .inl (fun i => nI (gL g i))))]) s.heap H locs → ∀ (ls : Array Slot), lv_has ls 4 [(0, .ref (ad 20)), (3, .int (nI v))] → W p l ev (headSpec wsX6_make ({ frames := 1, cells := 0, slots := 0, locals := 21 })).room s m [.ref (ad 20), .int (nI a), .int (nI b)].toArray below meth c H locs 0 0 (MQ below (va_Qv (fun _ : Unit => True) (fun u t => va_P D vwCl ((fun _ : Unit => [(ad 20, .inr (5, [.int (nI 0), .int (nI (gV (mkG a b g))), .int (nI (gC (mkG a b g))), .int (nI (gE (mkG a b g))), .ref (ad 21), .ref (ad 22), .ref (ad 23), .ref (ad 24), .ref (ad 25), .int (bI false), .ref (ad 26), .ref (ad 27), .ref (ad 28), .int ms, .ref (ad 29), .ref (ad 30)])), (ad 21, .inl (cy 0, 6, .inl (fun i => nI (gL (mkG a b g) i))))]) u) t.heap) (inW [(ad 20, .inr (5, [.int th, .int (nI (gV g)), .int (nI (gC g)), .int (nI (gE g)), .ref (ad 21), .ref (ad 22), .ref (ad 23), .ref (ad 24), .ref (ad 25), .int kn, .ref (ad 26), .ref (ad 27), .ref (ad 28), .int ms, .ref (ad 29), .ref (ad 30)])), (ad 21, .inl (cy 0, 6, .inl (fun i => nI (gL g i))))])) [.ref (ad 20), .int (nI a), .int (nI b)].toArray s 0 0 (inW [(ad 20, .inr (5, [.int th, .int (nI (gV g)), .int (nI (gC g)), .int (nI (gE g)), .ref (ad 21), .ref (ad 22), .ref (ad 23), .ref (ad 24), .ref (ad 25), .int kn, .ref (ad 26), .ref (ad 27), .ref (ad 28), .int ms, .ref (ad 29), .ref (ad 30)])), (ad 21, .inl (cy 0, 6, .inl (fun i => nI (gL g i))))])) (F0 m 52 ls []) := by
              intro n
              induction n with
              | zero =>
                intro v hfuel  H locs hP hD hS ls hl
                exact absurd hfuel.2 (by have := hfuel.1; omega)
              | succ n ih52 =>
                intro v hfuel  H locs hP hD hS ls hl
                obtain ⟨hfu1, hfu2⟩ := hfuel
                refine lv_iload_n hx hb dX6_make_52 rfl (lv_at hl 1 rfl) ?_
                refine lv_bipush (v := nI 6) hx hb dX6_make_53 (by decide) ?_
                refine n_ge (a := v) (b := 6) (tgt := 71) hx hb dX6_make_55 (by decide) (by omega) (by omega) (fun c55 => ?_) (fun c55 => ?_)
                · refine lv_aload_n hx hb dX6_make_71 rfl (lv_at hl 0 rfl) ?_
                  refine lv_iconst (v := nI 0) hx hb dX6_make_72 (by decide) ?_
                  refine va_put (D := D) (ci := 5) (v := .int (nI 0)) (ty := .boolean) (C := RX6) (T := TX6) (N := 16) hx hb hts inX6 tyX6 tyX6_ok nmX6 hown hK.1 hP hD hS 0 rfl rfl 9 (by decide) (hts (.fieldLink RX6 59 "ColourForestsModel" "known" "Z") (List.mem_of_getElem? (i := 5) rfl)) (fun _ h9 => h9) rfl (by decide +kernel) (by decide) rfl (Nat.le_of_ble_eq_true rfl) dX6_make_73 (fun H locs hP hD hS => ?_)
                  have hP : va_P D vwCl [(ad 20, .inr (5, [.int (nI 0), .int (nI a), .int (nI b), .int (nI 0), .ref (ad 21), .ref (ad 22), .ref (ad 23), .ref (ad 24), .ref (ad 25), .int (nI 0), .ref (ad 26), .ref (ad 27), .ref (ad 28), .int ms, .ref (ad 29), .ref (ad 30)])), (ad 21, .inl (cy 0, 6, .inl (fun i => nI (if i < v then 1 else gL g i))))] H := hP
                  have hD : va_D (inW [(ad 20, .inr (5, [.int th, .int (nI (gV g)), .int (nI (gC g)), .int (nI (gE g)), .ref (ad 21), .ref (ad 22), .ref (ad 23), .ref (ad 24), .ref (ad 25), .int kn, .ref (ad 26), .ref (ad 27), .ref (ad 28), .int ms, .ref (ad 29), .ref (ad 30)])), (ad 21, .inl (cy 0, 6, .inl (fun i => nI (gL g i))))]) [(ad 20, .inr (5, [.int (nI 0), .int (nI a), .int (nI b), .int (nI 0), .ref (ad 21), .ref (ad 22), .ref (ad 23), .ref (ad 24), .ref (ad 25), .int (nI 0), .ref (ad 26), .ref (ad 27), .ref (ad 28), .int ms, .ref (ad 29), .ref (ad 30)])), (ad 21, .inl (cy 0, 6, .inl (fun i => nI (if i < v then 1 else gL g i))))] := hD
                  have hve : v = 6 := by omega
                  subst hve
                  exact wv_ret () hx hb hr hlocks hS hP trivial dX6_make_76
                · refine lv_aload_n hx hb dX6_make_58 rfl (lv_at hl 0 rfl) ?_
                  refine va_get (D := D) (ci := 5) (v := .ref (ad 21)) (C := RX6) (T := TX6) (N := 16) hx hb hts inX6 hown hK.1 hP 0 rfl rfl 4 (by decide) (hts (.fieldLink RX6 16 "ColourForestsModel" "limits" "[I") (List.mem_of_getElem? (i := 4) rfl)) (fun _ h9 => h9) rfl dX6_make_59 ?_
                  refine lv_iload_n hx hb dX6_make_62 rfl (lv_at hl 1 rfl) ?_
                  refine lv_iconst (v := nI 1) hx hb dX6_make_63 (by decide) ?_
                  refine st_i (k := v) (g := (fun i => nI (if i < v + 1 then 1 else gL g i))) hx hb hK hP hD hS 1 rfl (by omega) (by decide) (upd_lim _ _) dX6_make_64 (fun H locs hP hD hS => ?_)
                  have hP : va_P D vwCl [(ad 20, .inr (5, [.int (nI 0), .int (nI a), .int (nI b), .int (nI 0), .ref (ad 21), .ref (ad 22), .ref (ad 23), .ref (ad 24), .ref (ad 25), .int kn, .ref (ad 26), .ref (ad 27), .ref (ad 28), .int ms, .ref (ad 29), .ref (ad 30)])), (ad 21, .inl (cy 0, 6, .inl (fun i => nI (if i < v + 1 then 1 else gL g i))))] H := hP
                  have hD : va_D (inW [(ad 20, .inr (5, [.int th, .int (nI (gV g)), .int (nI (gC g)), .int (nI (gE g)), .ref (ad 21), .ref (ad 22), .ref (ad 23), .ref (ad 24), .ref (ad 25), .int kn, .ref (ad 26), .ref (ad 27), .ref (ad 28), .int ms, .ref (ad 29), .ref (ad 30)])), (ad 21, .inl (cy 0, 6, .inl (fun i => nI (gL g i))))]) [(ad 20, .inr (5, [.int (nI 0), .int (nI a), .int (nI b), .int (nI 0), .ref (ad 21), .ref (ad 22), .ref (ad 23), .ref (ad 24), .ref (ad 25), .int kn, .ref (ad 26), .ref (ad 27), .ref (ad 28), .int ms, .ref (ad 29), .ref (ad 30)])), (ad 21, .inl (cy 0, 6, .inl (fun i => nI (if i < v + 1 then 1 else gL g i))))] := hD
                  refine lv_iinc (v := (nI (v + 1))) (lv' := [(3, .int (nI (v + 1))), (0, .ref (ad 20))]) hx hb dX6_make_65 hl (k := 1) rfl (ni_inc _) (by decide) rfl (fun ls hl => ?_)
                  refine lv_goto (tgt := 52) hx hb dX6_make_68 (by decide) ?_
                  exact ih52 (v + 1) ⟨by omega, by omega⟩  _ _ hP hD hS _ (lv_sub hl [1, 0] rfl)
            exact L52 7 0 ⟨by omega, by omega⟩  _ _ (by rw [lim_0]; exact hP) (va_D_same rfl hD) hS _ (lv_sub hl [1, 0] rfl)
          · cases c31
        · exact absurd c20 (by omega)

set_option maxHeartbeats 4000000 in
set_option maxRecDepth 100000 in
theorem c_X6_edge_no (l : Launch) (D : va_G) (cy : Nat → ClassId) (ad : Nat → Nat) {g : GT} (hg : gOK g) (th kn ms : Int32) {x y z w : Int32} (h : edOK g x y z w = false) : WI l yX6_edge wsX6_edge ({ frames := 1, cells := 0, slots := 0, locals := 20 }) D cy [.ref (ad 20), .int x, .int y, .int z, .int w] [(ad 20, .inr (5, [.int th, .int (nI (gV g)), .int (nI (gC g)), .int (nI (gE g)), .ref (ad 21), .ref (ad 22), .ref (ad 23), .ref (ad 24), .ref (ad 25), .int kn, .ref (ad 26), .ref (ad 27), .ref (ad 28), .int ms, .ref (ad 29), .ref (ad 30)]))] (fun (r : Int32) (_ : Unit) => r = zI (-1)) (fun _ : Unit => [(ad 20, .inr (5, [.int (nI 0), .int (nI (gV g)), .int (nI (gC g)), .int (nI (gE g)), .ref (ad 21), .ref (ad 22), .ref (ad 23), .ref (ad 24), .ref (ad 25), .int kn, .ref (ad 26), .ref (ad 27), .ref (ad 28), .int ms, .ref (ad 29), .ref (ad 30)]))]) := by
  refine Met.ofW (cc := cX6_edge) (maxL := 6) (ret := (some .int)) (by decide) rfl ?_
  intro p ev s m args below meth c s₁ B hml hv
  obtain ⟨rfl, ⟨hK, hP⟩, hD0⟩ := hv
  have hx := B.exec
  have hb := B.bytes
  have hr := B.returns
  have hts := atoms_spec (ws := wsX6_edge) B.pre
  have hown : s.vm.findClass RX6 = some m.cls := findClass_of_methodNamed B.named
  have hlocks := B.notSynchronized
  have hD : va_D (inW [(ad 20, .inr (5, [.int th, .int (nI (gV g)), .int (nI (gC g)), .int (nI (gE g)), .ref (ad 21), .ref (ad 22), .ref (ad 23), .ref (ad 24), .ref (ad 25), .int kn, .ref (ad 26), .ref (ad 27), .ref (ad 28), .int ms, .ref (ad 29), .ref (ad 30)]))]) ([(ad 20, .inr (5, [.int th, .int (nI (gV g)), .int (nI (gC g)), .int (nI (gE g)), .ref (ad 21), .ref (ad 22), .ref (ad 23), .ref (ad 24), .ref (ad 25), .int kn, .ref (ad 26), .ref (ad 27), .ref (ad 28), .int ms, .ref (ad 29), .ref (ad 30)]))]) := inW_self hD0
  have hS : va_S (inW [(ad 20, .inr (5, [.int th, .int (nI (gV g)), .int (nI (gC g)), .int (nI (gE g)), .ref (ad 21), .ref (ad 22), .ref (ad 23), .ref (ad 24), .ref (ad 25), .int kn, .ref (ad 26), .ref (ad 27), .ref (ad 28), .int ms, .ref (ad 29), .ref (ad 30)]))]) s.heap s.heap [] := va_S.rf
  have hP : va_P D vwCl [(ad 20, .inr (5, [.int th, .int (nI (gV g)), .int (nI (gC g)), .int (nI (gE g)), .ref (ad 21), .ref (ad 22), .ref (ad 23), .ref (ad 24), .ref (ad 25), .int kn, .ref (ad 26), .ref (ad 27), .ref (ad 28), .int ms, .ref (ad 29), .ref (ad 30)]))] s.heap := hP
  have inX6 : ∀ w ∈ wsX60, w ∈ wsX6_edge := by decide +kernel
  have hl := lv_entry ([.ref (ad 20), .int x, .int y, .int z, .int w]) (n := 6) (Nat.le_of_ble_eq_true rfl)
  rw [lg_entry_eq]
  generalize (lg_sl ([.ref (ad 20), .int x, .int y, .int z, .int w]) ++ List.replicate (6 - (lg_sl ([.ref (ad 20), .int x, .int y, .int z, .int w])).length) Slot.unset).toArray = ls at hl ⊢
  have hl : lv_has ls 6 [(0, .ref (ad 20)), (1, .int x), (2, .int y), (3, .int z), (4, .int w)] := hl
  have hgen := True.intro
  have hE := hg.2.2.1
  have hV := hg.1
  have hC := hg.2.1
  refine lv_aload_n hx hb dX6_edge_0 rfl (lv_at hl 0 rfl) ?_
  refine lv_iconst (v := nI 0) hx hb dX6_edge_1 (by decide) ?_
  refine va_put (D := D) (ci := 5) (v := .int (nI 0)) (ty := .int) (C := RX6) (T := TX6) (N := 16) hx hb hts inX6 tyX6 tyX6_ok nmX6 hown hK.1 hP hD hS 0 rfl rfl 0 (by decide) (hts (.fieldLink RX6 49 "ColourForestsModel" "thrown" "I") (List.mem_of_getElem? (i := 1) rfl)) (fun _ h9 => h9) rfl (by decide +kernel) rfl rfl (Nat.le_of_ble_eq_true rfl) dX6_edge_2 (fun H locs hP hD hS => ?_)
  have hP : va_P D vwCl [(ad 20, .inr (5, [.int (nI 0), .int (nI (gV g)), .int (nI (gC g)), .int (nI (gE g)), .ref (ad 21), .ref (ad 22), .ref (ad 23), .ref (ad 24), .ref (ad 25), .int kn, .ref (ad 26), .ref (ad 27), .ref (ad 28), .int ms, .ref (ad 29), .ref (ad 30)]))] H := hP
  have hD : va_D (inW [(ad 20, .inr (5, [.int th, .int (nI (gV g)), .int (nI (gC g)), .int (nI (gE g)), .ref (ad 21), .ref (ad 22), .ref (ad 23), .ref (ad 24), .ref (ad 25), .int kn, .ref (ad 26), .ref (ad 27), .ref (ad 28), .int ms, .ref (ad 29), .ref (ad 30)]))]) [(ad 20, .inr (5, [.int (nI 0), .int (nI (gV g)), .int (nI (gC g)), .int (nI (gE g)), .ref (ad 21), .ref (ad 22), .ref (ad 23), .ref (ad 24), .ref (ad 25), .int kn, .ref (ad 26), .ref (ad 27), .ref (ad 28), .int ms, .ref (ad 29), .ref (ad 30)]))] := hD
  refine lv_iload_n hx hb dX6_edge_5 rfl (lv_at hl 1 rfl) ?_
  refine lv_if_lt (tgt := 45) hx hb dX6_edge_6 (by decide) (fun c6 => ?_) (fun c6 => ?_)
  · refine lv_iconst (v := nI 0) hx hb dX6_edge_45 (by decide) ?_
    refine lv_istore (lv' := [(5, .int (nI 0)), (0, .ref (ad 20)), (1, .int x), (2, .int y), (3, .int z), (4, .int w)]) hx hb dX6_edge_46 hl (by decide) rfl (fun ls hl => ?_)
    refine lv_iload hx hb dX6_edge_48 (lv_at hl 0 rfl) ?_
    refine lv_if_eq (tgt := 70) hx hb dX6_edge_50 (by decide) (fun c50 => ?_) (fun c50 => ?_)
    · refine lv_iconst (v := zI (-1)) hx hb dX6_edge_70 (by decide) ?_
      exact wi_ret () hx hb hr hlocks hS hP rfl dX6_edge_71
    · exact absurd (by decide) c50
  · refine lv_iload_n hx hb dX6_edge_9 rfl (lv_at hl 1 rfl) ?_
    refine lv_aload_n hx hb dX6_edge_10 rfl (lv_at hl 0 rfl) ?_
    refine va_get (D := D) (ci := 5) (v := .int (nI (gV g))) (C := RX6) (T := TX6) (N := 16) hx hb hts inX6 hown hK.1 hP 0 rfl rfl 1 (by decide) (hts (.fieldLink RX6 7 "ColourForestsModel" "vertices" "I") (List.mem_of_getElem? (i := 2) rfl)) (fun _ h9 => h9) rfl dX6_edge_11 ?_
    refine lv_icmp_ge (tgt := 45) hx hb dX6_edge_14 (by decide) (fun c14 => ?_) (fun c14 => ?_)
    · refine lv_iconst (v := nI 0) hx hb dX6_edge_45 (by decide) ?_
      refine lv_istore (lv' := [(5, .int (nI 0)), (0, .ref (ad 20)), (1, .int x), (2, .int y), (3, .int z), (4, .int w)]) hx hb dX6_edge_46 hl (by decide) rfl (fun ls hl => ?_)
      refine lv_iload hx hb dX6_edge_48 (lv_at hl 0 rfl) ?_
      refine lv_if_eq (tgt := 70) hx hb dX6_edge_50 (by decide) (fun c50 => ?_) (fun c50 => ?_)
      · refine lv_iconst (v := zI (-1)) hx hb dX6_edge_70 (by decide) ?_
        exact wi_ret () hx hb hr hlocks hS hP rfl dX6_edge_71
      · exact absurd (by decide) c50
    · refine lv_iload_n hx hb dX6_edge_17 rfl (lv_at hl 2 rfl) ?_
      refine lv_if_lt (tgt := 45) hx hb dX6_edge_18 (by decide) (fun c18 => ?_) (fun c18 => ?_)
      · refine lv_iconst (v := nI 0) hx hb dX6_edge_45 (by decide) ?_
        refine lv_istore (lv' := [(5, .int (nI 0)), (0, .ref (ad 20)), (1, .int x), (2, .int y), (3, .int z), (4, .int w)]) hx hb dX6_edge_46 hl (by decide) rfl (fun ls hl => ?_)
        refine lv_iload hx hb dX6_edge_48 (lv_at hl 0 rfl) ?_
        refine lv_if_eq (tgt := 70) hx hb dX6_edge_50 (by decide) (fun c50 => ?_) (fun c50 => ?_)
        · refine lv_iconst (v := zI (-1)) hx hb dX6_edge_70 (by decide) ?_
          exact wi_ret () hx hb hr hlocks hS hP rfl dX6_edge_71
        · exact absurd (by decide) c50
      · refine lv_iload_n hx hb dX6_edge_21 rfl (lv_at hl 2 rfl) ?_
        refine lv_aload_n hx hb dX6_edge_22 rfl (lv_at hl 0 rfl) ?_
        refine va_get (D := D) (ci := 5) (v := .int (nI (gV g))) (C := RX6) (T := TX6) (N := 16) hx hb hts inX6 hown hK.1 hP 0 rfl rfl 1 (by decide) (hts (.fieldLink RX6 7 "ColourForestsModel" "vertices" "I") (List.mem_of_getElem? (i := 2) rfl)) (fun _ h9 => h9) rfl dX6_edge_23 ?_
        refine lv_icmp_ge (tgt := 45) hx hb dX6_edge_26 (by decide) (fun c26 => ?_) (fun c26 => ?_)
        · refine lv_iconst (v := nI 0) hx hb dX6_edge_45 (by decide) ?_
          refine lv_istore (lv' := [(5, .int (nI 0)), (0, .ref (ad 20)), (1, .int x), (2, .int y), (3, .int z), (4, .int w)]) hx hb dX6_edge_46 hl (by decide) rfl (fun ls hl => ?_)
          refine lv_iload hx hb dX6_edge_48 (lv_at hl 0 rfl) ?_
          refine lv_if_eq (tgt := 70) hx hb dX6_edge_50 (by decide) (fun c50 => ?_) (fun c50 => ?_)
          · refine lv_iconst (v := zI (-1)) hx hb dX6_edge_70 (by decide) ?_
            exact wi_ret () hx hb hr hlocks hS hP rfl dX6_edge_71
          · exact absurd (by decide) c50
        · refine lv_iload_n hx hb dX6_edge_29 rfl (lv_at hl 3 rfl) ?_
          refine lv_if_lt (tgt := 45) hx hb dX6_edge_30 (by decide) (fun c30 => ?_) (fun c30 => ?_)
          · refine lv_iconst (v := nI 0) hx hb dX6_edge_45 (by decide) ?_
            refine lv_istore (lv' := [(5, .int (nI 0)), (0, .ref (ad 20)), (1, .int x), (2, .int y), (3, .int z), (4, .int w)]) hx hb dX6_edge_46 hl (by decide) rfl (fun ls hl => ?_)
            refine lv_iload hx hb dX6_edge_48 (lv_at hl 0 rfl) ?_
            refine lv_if_eq (tgt := 70) hx hb dX6_edge_50 (by decide) (fun c50 => ?_) (fun c50 => ?_)
            · refine lv_iconst (v := zI (-1)) hx hb dX6_edge_70 (by decide) ?_
              exact wi_ret () hx hb hr hlocks hS hP rfl dX6_edge_71
            · exact absurd (by decide) c50
          · refine lv_iload_n hx hb dX6_edge_33 rfl (lv_at hl 3 rfl) ?_
            refine lv_aload_n hx hb dX6_edge_34 rfl (lv_at hl 0 rfl) ?_
            refine va_get (D := D) (ci := 5) (v := .int (nI (gC g))) (C := RX6) (T := TX6) (N := 16) hx hb hts inX6 hown hK.1 hP 0 rfl rfl 2 (by decide) (hts (.fieldLink RX6 13 "ColourForestsModel" "colours" "I") (List.mem_of_getElem? (i := 3) rfl)) (fun _ h9 => h9) rfl dX6_edge_35 ?_
            refine lv_icmp_ge (tgt := 45) hx hb dX6_edge_38 (by decide) (fun c38 => ?_) (fun c38 => ?_)
            · refine lv_iconst (v := nI 0) hx hb dX6_edge_45 (by decide) ?_
              refine lv_istore (lv' := [(5, .int (nI 0)), (0, .ref (ad 20)), (1, .int x), (2, .int y), (3, .int z), (4, .int w)]) hx hb dX6_edge_46 hl (by decide) rfl (fun ls hl => ?_)
              refine lv_iload hx hb dX6_edge_48 (lv_at hl 0 rfl) ?_
              refine lv_if_eq (tgt := 70) hx hb dX6_edge_50 (by decide) (fun c50 => ?_) (fun c50 => ?_)
              · refine lv_iconst (v := zI (-1)) hx hb dX6_edge_70 (by decide) ?_
                exact wi_ret () hx hb hr hlocks hS hP rfl dX6_edge_71
              · exact absurd (by decide) c50
            · refine lv_iconst (v := nI 1) hx hb dX6_edge_41 (by decide) ?_
              refine lv_goto (tgt := 46) hx hb dX6_edge_42 (by decide) ?_
              refine lv_istore (lv' := [(5, .int (nI 1)), (0, .ref (ad 20)), (1, .int x), (2, .int y), (3, .int z), (4, .int w)]) hx hb dX6_edge_46 hl (by decide) rfl (fun ls hl => ?_)
              refine lv_iload hx hb dX6_edge_48 (lv_at hl 0 rfl) ?_
              refine lv_if_eq (tgt := 70) hx hb dX6_edge_50 (by decide) (fun c50 => ?_) (fun c50 => ?_)
              · exact absurd c50 (by decide)
              · refine lv_iload hx hb dX6_edge_53 (lv_at hl 5 rfl) ?_
                refine pu_call (va_runS (As := [.int w]) (rest := []) ⟨hx, hb, hml, hown, hts⟩ (c_X6_isHeavy l D cy w) (va_cwS 1 hts gX6_edge_X6_isHeavy rfl rfl rfl (by decide +kernel) ⟨Nat.le_of_ble_eq_true rfl, Nat.le_of_ble_eq_true rfl⟩) (PU_preS hK hP [] rfl) rfl rfl hl.1 rfl (lv_room (Nat.le_of_ble_eq_true rfl)) dX6_edge_55 ⟨(Nat.zero_le _), (Nat.zero_le _)⟩) hS hP (fun H locs hP hS => ?_)
                refine b_ne (b := (!isW w)) (tgt := 70) hx hb dX6_edge_58 (by decide) (fun c58 => ?_) (fun c58 => ?_)
                · have c58 := b_nf c58
                  refine lv_iconst (v := zI (-1)) hx hb dX6_edge_70 (by decide) ?_
                  exact wi_ret () hx hb hr hlocks hS hP rfl dX6_edge_71
                · have c58 := b_nt c58
                  refine lv_aload_n hx hb dX6_edge_61 rfl (lv_at hl 1 rfl) ?_
                  refine va_get (D := D) (ci := 5) (v := .int (nI (gE g))) (C := RX6) (T := TX6) (N := 16) hx hb hts inX6 hown hK.1 hP 0 rfl rfl 3 (by decide) (hts (.fieldLink RX6 56 "ColourForestsModel" "edges" "I") (List.mem_of_getElem? (i := 4) rfl)) (fun _ h9 => h9) rfl dX6_edge_62 ?_
                  refine lv_bipush (v := nI 14) hx hb dX6_edge_65 (by decide) ?_
                  refine n_ne (a := (gE g)) (b := 14) (tgt := 72) hx hb dX6_edge_67 (by decide) (by omega) (by omega) (fun c67 => ?_) (fun c67 => ?_)
                  · exact absurd h (by unfold edOK; rw [isN_t (by omega) c6 c14, isN_t (by omega) c18 c26, isN_t (by omega) c30 c38, c58, decide_eq_true (show gE g ≠ 14 from c67)]; decide)
                  · refine lv_iconst (v := zI (-1)) hx hb dX6_edge_70 (by decide) ?_
                    exact wi_ret () hx hb hr hlocks hS hP rfl dX6_edge_71

set_option maxHeartbeats 4000000 in
set_option maxRecDepth 100000 in
theorem c_X6_edge_yes (l : Launch) (D : va_G) (cy : Nat → ClassId) (ad : Nat → Nat) {g : GT} (hg : gOK g) (th kn ms : Int32) {a b c9 : Nat} {w : Int} (ha : a < gV g) (hb9 : b < gV g) (hc9 : c9 < gC g) (hw : -9999 ≤ w ∧ w ≤ 9999) (hE9 : gE g < 14) : WI l yX6_edge wsX6_edge ({ frames := 1, cells := 0, slots := 0, locals := 20 }) D cy [.ref (ad 20), .int (nI a), .int (nI b), .int (nI c9), .int (zI w)] [(ad 20, .inr (5, [.int th, .int (nI (gV g)), .int (nI (gC g)), .int (nI (gE g)), .ref (ad 21), .ref (ad 22), .ref (ad 23), .ref (ad 24), .ref (ad 25), .int kn, .ref (ad 26), .ref (ad 27), .ref (ad 28), .int ms, .ref (ad 29), .ref (ad 30)])), (ad 22, .inl (cy 0, 14, .inl (fun i => nI (gF g i)))), (ad 23, .inl (cy 0, 14, .inl (fun i => nI (gS g i)))), (ad 24, .inl (cy 0, 14, .inl (fun i => nI (gH g i)))), (ad 25, .inl (cy 0, 14, .inl (fun i => zI (gW g i))))] (fun (r : Int32) (_ : Unit) => r = nI (gE g)) (fun _ : Unit => [(ad 20, .inr (5, [.int (nI 0), .int (nI (gV (edG a b c9 w g))), .int (nI (gC (edG a b c9 w g))), .int (nI (gE (edG a b c9 w g))), .ref (ad 21), .ref (ad 22), .ref (ad 23), .ref (ad 24), .ref (ad 25), .int (bI false), .ref (ad 26), .ref (ad 27), .ref (ad 28), .int ms, .ref (ad 29), .ref (ad 30)])), (ad 22, .inl (cy 0, 14, .inl (fun i => nI (gF (edG a b c9 w g) i)))), (ad 23, .inl (cy 0, 14, .inl (fun i => nI (gS (edG a b c9 w g) i)))), (ad 24, .inl (cy 0, 14, .inl (fun i => nI (gH (edG a b c9 w g) i)))), (ad 25, .inl (cy 0, 14, .inl (fun i => zI (gW (edG a b c9 w g) i))))]) := by
  refine Met.ofW (cc := cX6_edge) (maxL := 6) (ret := (some .int)) (by decide) rfl ?_
  intro p ev s m args below meth c s₁ B hml hv
  obtain ⟨rfl, ⟨hK, hP⟩, hD0⟩ := hv
  have hx := B.exec
  have hb := B.bytes
  have hr := B.returns
  have hts := atoms_spec (ws := wsX6_edge) B.pre
  have hown : s.vm.findClass RX6 = some m.cls := findClass_of_methodNamed B.named
  have hlocks := B.notSynchronized
  have hD : va_D (inW [(ad 20, .inr (5, [.int th, .int (nI (gV g)), .int (nI (gC g)), .int (nI (gE g)), .ref (ad 21), .ref (ad 22), .ref (ad 23), .ref (ad 24), .ref (ad 25), .int kn, .ref (ad 26), .ref (ad 27), .ref (ad 28), .int ms, .ref (ad 29), .ref (ad 30)])), (ad 22, .inl (cy 0, 14, .inl (fun i => nI (gF g i)))), (ad 23, .inl (cy 0, 14, .inl (fun i => nI (gS g i)))), (ad 24, .inl (cy 0, 14, .inl (fun i => nI (gH g i)))), (ad 25, .inl (cy 0, 14, .inl (fun i => zI (gW g i))))]) ([(ad 20, .inr (5, [.int th, .int (nI (gV g)), .int (nI (gC g)), .int (nI (gE g)), .ref (ad 21), .ref (ad 22), .ref (ad 23), .ref (ad 24), .ref (ad 25), .int kn, .ref (ad 26), .ref (ad 27), .ref (ad 28), .int ms, .ref (ad 29), .ref (ad 30)])), (ad 22, .inl (cy 0, 14, .inl (fun i => nI (gF g i)))), (ad 23, .inl (cy 0, 14, .inl (fun i => nI (gS g i)))), (ad 24, .inl (cy 0, 14, .inl (fun i => nI (gH g i)))), (ad 25, .inl (cy 0, 14, .inl (fun i => zI (gW g i))))]) := inW_self hD0
  have hS : va_S (inW [(ad 20, .inr (5, [.int th, .int (nI (gV g)), .int (nI (gC g)), .int (nI (gE g)), .ref (ad 21), .ref (ad 22), .ref (ad 23), .ref (ad 24), .ref (ad 25), .int kn, .ref (ad 26), .ref (ad 27), .ref (ad 28), .int ms, .ref (ad 29), .ref (ad 30)])), (ad 22, .inl (cy 0, 14, .inl (fun i => nI (gF g i)))), (ad 23, .inl (cy 0, 14, .inl (fun i => nI (gS g i)))), (ad 24, .inl (cy 0, 14, .inl (fun i => nI (gH g i)))), (ad 25, .inl (cy 0, 14, .inl (fun i => zI (gW g i))))]) s.heap s.heap [] := va_S.rf
  have hP : va_P D vwCl [(ad 20, .inr (5, [.int th, .int (nI (gV g)), .int (nI (gC g)), .int (nI (gE g)), .ref (ad 21), .ref (ad 22), .ref (ad 23), .ref (ad 24), .ref (ad 25), .int kn, .ref (ad 26), .ref (ad 27), .ref (ad 28), .int ms, .ref (ad 29), .ref (ad 30)])), (ad 22, .inl (cy 0, 14, .inl (fun i => nI (gF g i)))), (ad 23, .inl (cy 0, 14, .inl (fun i => nI (gS g i)))), (ad 24, .inl (cy 0, 14, .inl (fun i => nI (gH g i)))), (ad 25, .inl (cy 0, 14, .inl (fun i => zI (gW g i))))] s.heap := hP
  have inX6 : ∀ w ∈ wsX60, w ∈ wsX6_edge := by decide +kernel
  have hl := lv_entry ([.ref (ad 20), .int (nI a), .int (nI b), .int (nI c9), .int (zI w)]) (n := 6) (Nat.le_of_ble_eq_true rfl)
  rw [lg_entry_eq]
  generalize (lg_sl ([.ref (ad 20), .int (nI a), .int (nI b), .int (nI c9), .int (zI w)]) ++ List.replicate (6 - (lg_sl ([.ref (ad 20), .int (nI a), .int (nI b), .int (nI c9), .int (zI w)])).length) Slot.unset).toArray = ls at hl ⊢
  have hl : lv_has ls 6 [(0, .ref (ad 20)), (1, .int (nI a)), (2, .int (nI b)), (3, .int (nI c9)), (4, .int (zI w))] := hl
  have hgen := True.intro
  have hE := hg.2.2.1
  have hV := hg.1
  have hC := hg.2.1
  refine lv_aload_n hx hb dX6_edge_0 rfl (lv_at hl 0 rfl) ?_
  refine lv_iconst (v := nI 0) hx hb dX6_edge_1 (by decide) ?_
  refine va_put (D := D) (ci := 5) (v := .int (nI 0)) (ty := .int) (C := RX6) (T := TX6) (N := 16) hx hb hts inX6 tyX6 tyX6_ok nmX6 hown hK.1 hP hD hS 0 rfl rfl 0 (by decide) (hts (.fieldLink RX6 49 "ColourForestsModel" "thrown" "I") (List.mem_of_getElem? (i := 1) rfl)) (fun _ h9 => h9) rfl (by decide +kernel) rfl rfl (Nat.le_of_ble_eq_true rfl) dX6_edge_2 (fun H locs hP hD hS => ?_)
  have hP : va_P D vwCl [(ad 20, .inr (5, [.int (nI 0), .int (nI (gV g)), .int (nI (gC g)), .int (nI (gE g)), .ref (ad 21), .ref (ad 22), .ref (ad 23), .ref (ad 24), .ref (ad 25), .int kn, .ref (ad 26), .ref (ad 27), .ref (ad 28), .int ms, .ref (ad 29), .ref (ad 30)])), (ad 22, .inl (cy 0, 14, .inl (fun i => nI (gF g i)))), (ad 23, .inl (cy 0, 14, .inl (fun i => nI (gS g i)))), (ad 24, .inl (cy 0, 14, .inl (fun i => nI (gH g i)))), (ad 25, .inl (cy 0, 14, .inl (fun i => zI (gW g i))))] H := hP
  have hD : va_D (inW [(ad 20, .inr (5, [.int th, .int (nI (gV g)), .int (nI (gC g)), .int (nI (gE g)), .ref (ad 21), .ref (ad 22), .ref (ad 23), .ref (ad 24), .ref (ad 25), .int kn, .ref (ad 26), .ref (ad 27), .ref (ad 28), .int ms, .ref (ad 29), .ref (ad 30)])), (ad 22, .inl (cy 0, 14, .inl (fun i => nI (gF g i)))), (ad 23, .inl (cy 0, 14, .inl (fun i => nI (gS g i)))), (ad 24, .inl (cy 0, 14, .inl (fun i => nI (gH g i)))), (ad 25, .inl (cy 0, 14, .inl (fun i => zI (gW g i))))]) [(ad 20, .inr (5, [.int (nI 0), .int (nI (gV g)), .int (nI (gC g)), .int (nI (gE g)), .ref (ad 21), .ref (ad 22), .ref (ad 23), .ref (ad 24), .ref (ad 25), .int kn, .ref (ad 26), .ref (ad 27), .ref (ad 28), .int ms, .ref (ad 29), .ref (ad 30)])), (ad 22, .inl (cy 0, 14, .inl (fun i => nI (gF g i)))), (ad 23, .inl (cy 0, 14, .inl (fun i => nI (gS g i)))), (ad 24, .inl (cy 0, 14, .inl (fun i => nI (gH g i)))), (ad 25, .inl (cy 0, 14, .inl (fun i => zI (gW g i))))] := hD
  refine lv_iload_n hx hb dX6_edge_5 rfl (lv_at hl 1 rfl) ?_
  refine lv_if_lt (tgt := 45) hx hb dX6_edge_6 (by decide) (fun c6 => ?_) (fun c6 => ?_)
  · exact absurd c6 (nlt0 (by omega))
  · refine lv_iload_n hx hb dX6_edge_9 rfl (lv_at hl 1 rfl) ?_
    refine lv_aload_n hx hb dX6_edge_10 rfl (lv_at hl 0 rfl) ?_
    refine va_get (D := D) (ci := 5) (v := .int (nI (gV g))) (C := RX6) (T := TX6) (N := 16) hx hb hts inX6 hown hK.1 hP 0 rfl rfl 1 (by decide) (hts (.fieldLink RX6 7 "ColourForestsModel" "vertices" "I") (List.mem_of_getElem? (i := 2) rfl)) (fun _ h9 => h9) rfl dX6_edge_11 ?_
    refine n_ge (a := a) (b := (gV g)) (tgt := 45) hx hb dX6_edge_14 (by decide) (by omega) (by omega) (fun c14 => ?_) (fun c14 => ?_)
    · exact absurd c14 (by omega)
    · refine lv_iload_n hx hb dX6_edge_17 rfl (lv_at hl 2 rfl) ?_
      refine lv_if_lt (tgt := 45) hx hb dX6_edge_18 (by decide) (fun c18 => ?_) (fun c18 => ?_)
      · exact absurd c18 (nlt0 (by omega))
      · refine lv_iload_n hx hb dX6_edge_21 rfl (lv_at hl 2 rfl) ?_
        refine lv_aload_n hx hb dX6_edge_22 rfl (lv_at hl 0 rfl) ?_
        refine va_get (D := D) (ci := 5) (v := .int (nI (gV g))) (C := RX6) (T := TX6) (N := 16) hx hb hts inX6 hown hK.1 hP 0 rfl rfl 1 (by decide) (hts (.fieldLink RX6 7 "ColourForestsModel" "vertices" "I") (List.mem_of_getElem? (i := 2) rfl)) (fun _ h9 => h9) rfl dX6_edge_23 ?_
        refine n_ge (a := b) (b := (gV g)) (tgt := 45) hx hb dX6_edge_26 (by decide) (by omega) (by omega) (fun c26 => ?_) (fun c26 => ?_)
        · exact absurd c26 (by omega)
        · refine lv_iload_n hx hb dX6_edge_29 rfl (lv_at hl 3 rfl) ?_
          refine lv_if_lt (tgt := 45) hx hb dX6_edge_30 (by decide) (fun c30 => ?_) (fun c30 => ?_)
          · exact absurd c30 (nlt0 (by omega))
          · refine lv_iload_n hx hb dX6_edge_33 rfl (lv_at hl 3 rfl) ?_
            refine lv_aload_n hx hb dX6_edge_34 rfl (lv_at hl 0 rfl) ?_
            refine va_get (D := D) (ci := 5) (v := .int (nI (gC g))) (C := RX6) (T := TX6) (N := 16) hx hb hts inX6 hown hK.1 hP 0 rfl rfl 2 (by decide) (hts (.fieldLink RX6 13 "ColourForestsModel" "colours" "I") (List.mem_of_getElem? (i := 3) rfl)) (fun _ h9 => h9) rfl dX6_edge_35 ?_
            refine n_ge (a := c9) (b := (gC g)) (tgt := 45) hx hb dX6_edge_38 (by decide) (by omega) (by omega) (fun c38 => ?_) (fun c38 => ?_)
            · exact absurd c38 (by omega)
            · refine lv_iconst (v := nI 1) hx hb dX6_edge_41 (by decide) ?_
              refine lv_goto (tgt := 46) hx hb dX6_edge_42 (by decide) ?_
              refine lv_istore (lv' := [(5, .int (nI 1)), (0, .ref (ad 20)), (1, .int (nI a)), (2, .int (nI b)), (3, .int (nI c9)), (4, .int (zI w))]) hx hb dX6_edge_46 hl (by decide) rfl (fun ls hl => ?_)
              refine lv_iload hx hb dX6_edge_48 (lv_at hl 0 rfl) ?_
              refine lv_if_eq (tgt := 70) hx hb dX6_edge_50 (by decide) (fun c50 => ?_) (fun c50 => ?_)
              · exact absurd c50 (by decide)
              · refine lv_iload hx hb dX6_edge_53 (lv_at hl 5 rfl) ?_
                refine pu_call (va_runS (As := [.int (zI w)]) (rest := []) ⟨hx, hb, hml, hown, hts⟩ (c_X6_isHeavy l D cy (zI w)) (va_cwS 1 hts gX6_edge_X6_isHeavy rfl rfl rfl (by decide +kernel) ⟨Nat.le_of_ble_eq_true rfl, Nat.le_of_ble_eq_true rfl⟩) (PU_preS hK hP [] rfl) rfl rfl hl.1 rfl (lv_room (Nat.le_of_ble_eq_true rfl)) dX6_edge_55 ⟨(Nat.zero_le _), (Nat.zero_le _)⟩) hS hP (fun H locs hP hS => ?_)
                refine b_ne (b := (!isW (zI w))) (tgt := 70) hx hb dX6_edge_58 (by decide) (fun c58 => ?_) (fun c58 => ?_)
                · exact absurd c58 (by rw [isW_z hw]; decide)
                · refine lv_aload_n hx hb dX6_edge_61 rfl (lv_at hl 1 rfl) ?_
                  refine va_get (D := D) (ci := 5) (v := .int (nI (gE g))) (C := RX6) (T := TX6) (N := 16) hx hb hts inX6 hown hK.1 hP 0 rfl rfl 3 (by decide) (hts (.fieldLink RX6 56 "ColourForestsModel" "edges" "I") (List.mem_of_getElem? (i := 4) rfl)) (fun _ h9 => h9) rfl dX6_edge_62 ?_
                  refine lv_bipush (v := nI 14) hx hb dX6_edge_65 (by decide) ?_
                  refine n_ne (a := (gE g)) (b := 14) (tgt := 72) hx hb dX6_edge_67 (by decide) (by omega) (by omega) (fun c67 => ?_) (fun c67 => ?_)
                  · refine lv_aload_n hx hb dX6_edge_72 rfl (lv_at hl 1 rfl) ?_
                    refine va_get (D := D) (ci := 5) (v := .ref (ad 22)) (C := RX6) (T := TX6) (N := 16) hx hb hts inX6 hown hK.1 hP 0 rfl rfl 5 (by decide) (hts (.fieldLink RX6 20 "ColourForestsModel" "firsts" "[I") (List.mem_of_getElem? (i := 5) rfl)) (fun _ h9 => h9) rfl dX6_edge_73 ?_
                    refine lv_aload_n hx hb dX6_edge_76 rfl (lv_at hl 1 rfl) ?_
                    refine va_get (D := D) (ci := 5) (v := .int (nI (gE g))) (C := RX6) (T := TX6) (N := 16) hx hb hts inX6 hown hK.1 hP 0 rfl rfl 3 (by decide) (hts (.fieldLink RX6 56 "ColourForestsModel" "edges" "I") (List.mem_of_getElem? (i := 4) rfl)) (fun _ h9 => h9) rfl dX6_edge_77 ?_
                    refine lv_iload_n hx hb dX6_edge_80 rfl (lv_at hl 2 rfl) ?_
                    refine st_i (k := (gE g)) (g := (fun i => nI (upN (gF g) (gE g) a i))) hx hb hK hP hD hS 1 rfl (by omega) (by decide) (upd_nI _ _ _) dX6_edge_81 (fun H locs hP hD hS => ?_)
                    have hP : va_P D vwCl [(ad 20, .inr (5, [.int (nI 0), .int (nI (gV g)), .int (nI (gC g)), .int (nI (gE g)), .ref (ad 21), .ref (ad 22), .ref (ad 23), .ref (ad 24), .ref (ad 25), .int kn, .ref (ad 26), .ref (ad 27), .ref (ad 28), .int ms, .ref (ad 29), .ref (ad 30)])), (ad 22, .inl (cy 0, 14, .inl (fun i => nI (upN (gF g) (gE g) a i)))), (ad 23, .inl (cy 0, 14, .inl (fun i => nI (gS g i)))), (ad 24, .inl (cy 0, 14, .inl (fun i => nI (gH g i)))), (ad 25, .inl (cy 0, 14, .inl (fun i => zI (gW g i))))] H := hP
                    have hD : va_D (inW [(ad 20, .inr (5, [.int th, .int (nI (gV g)), .int (nI (gC g)), .int (nI (gE g)), .ref (ad 21), .ref (ad 22), .ref (ad 23), .ref (ad 24), .ref (ad 25), .int kn, .ref (ad 26), .ref (ad 27), .ref (ad 28), .int ms, .ref (ad 29), .ref (ad 30)])), (ad 22, .inl (cy 0, 14, .inl (fun i => nI (gF g i)))), (ad 23, .inl (cy 0, 14, .inl (fun i => nI (gS g i)))), (ad 24, .inl (cy 0, 14, .inl (fun i => nI (gH g i)))), (ad 25, .inl (cy 0, 14, .inl (fun i => zI (gW g i))))]) [(ad 20, .inr (5, [.int (nI 0), .int (nI (gV g)), .int (nI (gC g)), .int (nI (gE g)), .ref (ad 21), .ref (ad 22), .ref (ad 23), .ref (ad 24), .ref (ad 25), .int kn, .ref (ad 26), .ref (ad 27), .ref (ad 28), .int ms, .ref (ad 29), .ref (ad 30)])), (ad 22, .inl (cy 0, 14, .inl (fun i => nI (upN (gF g) (gE g) a i)))), (ad 23, .inl (cy 0, 14, .inl (fun i => nI (gS g i)))), (ad 24, .inl (cy 0, 14, .inl (fun i => nI (gH g i)))), (ad 25, .inl (cy 0, 14, .inl (fun i => zI (gW g i))))] := hD
                    refine lv_aload_n hx hb dX6_edge_82 rfl (lv_at hl 1 rfl) ?_
                    refine va_get (D := D) (ci := 5) (v := .ref (ad 23)) (C := RX6) (T := TX6) (N := 16) hx hb hts inX6 hown hK.1 hP 0 rfl rfl 6 (by decide) (hts (.fieldLink RX6 23 "ColourForestsModel" "seconds" "[I") (List.mem_of_getElem? (i := 6) rfl)) (fun _ h9 => h9) rfl dX6_edge_83 ?_
                    refine lv_aload_n hx hb dX6_edge_86 rfl (lv_at hl 1 rfl) ?_
                    refine va_get (D := D) (ci := 5) (v := .int (nI (gE g))) (C := RX6) (T := TX6) (N := 16) hx hb hts inX6 hown hK.1 hP 0 rfl rfl 3 (by decide) (hts (.fieldLink RX6 56 "ColourForestsModel" "edges" "I") (List.mem_of_getElem? (i := 4) rfl)) (fun _ h9 => h9) rfl dX6_edge_87 ?_
                    refine lv_iload_n hx hb dX6_edge_90 rfl (lv_at hl 3 rfl) ?_
                    refine st_i (k := (gE g)) (g := (fun i => nI (upN (gS g) (gE g) b i))) hx hb hK hP hD hS 2 rfl (by omega) (by decide) (upd_nI _ _ _) dX6_edge_91 (fun H locs hP hD hS => ?_)
                    have hP : va_P D vwCl [(ad 20, .inr (5, [.int (nI 0), .int (nI (gV g)), .int (nI (gC g)), .int (nI (gE g)), .ref (ad 21), .ref (ad 22), .ref (ad 23), .ref (ad 24), .ref (ad 25), .int kn, .ref (ad 26), .ref (ad 27), .ref (ad 28), .int ms, .ref (ad 29), .ref (ad 30)])), (ad 22, .inl (cy 0, 14, .inl (fun i => nI (upN (gF g) (gE g) a i)))), (ad 23, .inl (cy 0, 14, .inl (fun i => nI (upN (gS g) (gE g) b i)))), (ad 24, .inl (cy 0, 14, .inl (fun i => nI (gH g i)))), (ad 25, .inl (cy 0, 14, .inl (fun i => zI (gW g i))))] H := hP
                    have hD : va_D (inW [(ad 20, .inr (5, [.int th, .int (nI (gV g)), .int (nI (gC g)), .int (nI (gE g)), .ref (ad 21), .ref (ad 22), .ref (ad 23), .ref (ad 24), .ref (ad 25), .int kn, .ref (ad 26), .ref (ad 27), .ref (ad 28), .int ms, .ref (ad 29), .ref (ad 30)])), (ad 22, .inl (cy 0, 14, .inl (fun i => nI (gF g i)))), (ad 23, .inl (cy 0, 14, .inl (fun i => nI (gS g i)))), (ad 24, .inl (cy 0, 14, .inl (fun i => nI (gH g i)))), (ad 25, .inl (cy 0, 14, .inl (fun i => zI (gW g i))))]) [(ad 20, .inr (5, [.int (nI 0), .int (nI (gV g)), .int (nI (gC g)), .int (nI (gE g)), .ref (ad 21), .ref (ad 22), .ref (ad 23), .ref (ad 24), .ref (ad 25), .int kn, .ref (ad 26), .ref (ad 27), .ref (ad 28), .int ms, .ref (ad 29), .ref (ad 30)])), (ad 22, .inl (cy 0, 14, .inl (fun i => nI (upN (gF g) (gE g) a i)))), (ad 23, .inl (cy 0, 14, .inl (fun i => nI (upN (gS g) (gE g) b i)))), (ad 24, .inl (cy 0, 14, .inl (fun i => nI (gH g i)))), (ad 25, .inl (cy 0, 14, .inl (fun i => zI (gW g i))))] := hD
                    refine lv_aload_n hx hb dX6_edge_92 rfl (lv_at hl 1 rfl) ?_
                    refine va_get (D := D) (ci := 5) (v := .ref (ad 24)) (C := RX6) (T := TX6) (N := 16) hx hb hts inX6 hown hK.1 hP 0 rfl rfl 7 (by decide) (hts (.fieldLink RX6 26 "ColourForestsModel" "colourOf" "[I") (List.mem_of_getElem? (i := 7) rfl)) (fun _ h9 => h9) rfl dX6_edge_93 ?_
                    refine lv_aload_n hx hb dX6_edge_96 rfl (lv_at hl 1 rfl) ?_
                    refine va_get (D := D) (ci := 5) (v := .int (nI (gE g))) (C := RX6) (T := TX6) (N := 16) hx hb hts inX6 hown hK.1 hP 0 rfl rfl 3 (by decide) (hts (.fieldLink RX6 56 "ColourForestsModel" "edges" "I") (List.mem_of_getElem? (i := 4) rfl)) (fun _ h9 => h9) rfl dX6_edge_97 ?_
                    refine lv_iload_n hx hb dX6_edge_100 rfl (lv_at hl 4 rfl) ?_
                    refine st_i (k := (gE g)) (g := (fun i => nI (upN (gH g) (gE g) c9 i))) hx hb hK hP hD hS 3 rfl (by omega) (by decide) (upd_nI _ _ _) dX6_edge_101 (fun H locs hP hD hS => ?_)
                    have hP : va_P D vwCl [(ad 20, .inr (5, [.int (nI 0), .int (nI (gV g)), .int (nI (gC g)), .int (nI (gE g)), .ref (ad 21), .ref (ad 22), .ref (ad 23), .ref (ad 24), .ref (ad 25), .int kn, .ref (ad 26), .ref (ad 27), .ref (ad 28), .int ms, .ref (ad 29), .ref (ad 30)])), (ad 22, .inl (cy 0, 14, .inl (fun i => nI (upN (gF g) (gE g) a i)))), (ad 23, .inl (cy 0, 14, .inl (fun i => nI (upN (gS g) (gE g) b i)))), (ad 24, .inl (cy 0, 14, .inl (fun i => nI (upN (gH g) (gE g) c9 i)))), (ad 25, .inl (cy 0, 14, .inl (fun i => zI (gW g i))))] H := hP
                    have hD : va_D (inW [(ad 20, .inr (5, [.int th, .int (nI (gV g)), .int (nI (gC g)), .int (nI (gE g)), .ref (ad 21), .ref (ad 22), .ref (ad 23), .ref (ad 24), .ref (ad 25), .int kn, .ref (ad 26), .ref (ad 27), .ref (ad 28), .int ms, .ref (ad 29), .ref (ad 30)])), (ad 22, .inl (cy 0, 14, .inl (fun i => nI (gF g i)))), (ad 23, .inl (cy 0, 14, .inl (fun i => nI (gS g i)))), (ad 24, .inl (cy 0, 14, .inl (fun i => nI (gH g i)))), (ad 25, .inl (cy 0, 14, .inl (fun i => zI (gW g i))))]) [(ad 20, .inr (5, [.int (nI 0), .int (nI (gV g)), .int (nI (gC g)), .int (nI (gE g)), .ref (ad 21), .ref (ad 22), .ref (ad 23), .ref (ad 24), .ref (ad 25), .int kn, .ref (ad 26), .ref (ad 27), .ref (ad 28), .int ms, .ref (ad 29), .ref (ad 30)])), (ad 22, .inl (cy 0, 14, .inl (fun i => nI (upN (gF g) (gE g) a i)))), (ad 23, .inl (cy 0, 14, .inl (fun i => nI (upN (gS g) (gE g) b i)))), (ad 24, .inl (cy 0, 14, .inl (fun i => nI (upN (gH g) (gE g) c9 i)))), (ad 25, .inl (cy 0, 14, .inl (fun i => zI (gW g i))))] := hD
                    refine lv_aload_n hx hb dX6_edge_102 rfl (lv_at hl 1 rfl) ?_
                    refine va_get (D := D) (ci := 5) (v := .ref (ad 25)) (C := RX6) (T := TX6) (N := 16) hx hb hts inX6 hown hK.1 hP 0 rfl rfl 8 (by decide) (hts (.fieldLink RX6 29 "ColourForestsModel" "weights" "[I") (List.mem_of_getElem? (i := 8) rfl)) (fun _ h9 => h9) rfl dX6_edge_103 ?_
                    refine lv_aload_n hx hb dX6_edge_106 rfl (lv_at hl 1 rfl) ?_
                    refine va_get (D := D) (ci := 5) (v := .int (nI (gE g))) (C := RX6) (T := TX6) (N := 16) hx hb hts inX6 hown hK.1 hP 0 rfl rfl 3 (by decide) (hts (.fieldLink RX6 56 "ColourForestsModel" "edges" "I") (List.mem_of_getElem? (i := 4) rfl)) (fun _ h9 => h9) rfl dX6_edge_107 ?_
                    refine lv_iload hx hb dX6_edge_110 (lv_at hl 5 rfl) ?_
                    refine st_i (k := (gE g)) (g := (fun i => zI (upZ (gW g) (gE g) w i))) hx hb hK hP hD hS 4 rfl (by omega) (by decide) (upd_zI _ _ _) dX6_edge_112 (fun H locs hP hD hS => ?_)
                    have hP : va_P D vwCl [(ad 20, .inr (5, [.int (nI 0), .int (nI (gV g)), .int (nI (gC g)), .int (nI (gE g)), .ref (ad 21), .ref (ad 22), .ref (ad 23), .ref (ad 24), .ref (ad 25), .int kn, .ref (ad 26), .ref (ad 27), .ref (ad 28), .int ms, .ref (ad 29), .ref (ad 30)])), (ad 22, .inl (cy 0, 14, .inl (fun i => nI (upN (gF g) (gE g) a i)))), (ad 23, .inl (cy 0, 14, .inl (fun i => nI (upN (gS g) (gE g) b i)))), (ad 24, .inl (cy 0, 14, .inl (fun i => nI (upN (gH g) (gE g) c9 i)))), (ad 25, .inl (cy 0, 14, .inl (fun i => zI (upZ (gW g) (gE g) w i))))] H := hP
                    have hD : va_D (inW [(ad 20, .inr (5, [.int th, .int (nI (gV g)), .int (nI (gC g)), .int (nI (gE g)), .ref (ad 21), .ref (ad 22), .ref (ad 23), .ref (ad 24), .ref (ad 25), .int kn, .ref (ad 26), .ref (ad 27), .ref (ad 28), .int ms, .ref (ad 29), .ref (ad 30)])), (ad 22, .inl (cy 0, 14, .inl (fun i => nI (gF g i)))), (ad 23, .inl (cy 0, 14, .inl (fun i => nI (gS g i)))), (ad 24, .inl (cy 0, 14, .inl (fun i => nI (gH g i)))), (ad 25, .inl (cy 0, 14, .inl (fun i => zI (gW g i))))]) [(ad 20, .inr (5, [.int (nI 0), .int (nI (gV g)), .int (nI (gC g)), .int (nI (gE g)), .ref (ad 21), .ref (ad 22), .ref (ad 23), .ref (ad 24), .ref (ad 25), .int kn, .ref (ad 26), .ref (ad 27), .ref (ad 28), .int ms, .ref (ad 29), .ref (ad 30)])), (ad 22, .inl (cy 0, 14, .inl (fun i => nI (upN (gF g) (gE g) a i)))), (ad 23, .inl (cy 0, 14, .inl (fun i => nI (upN (gS g) (gE g) b i)))), (ad 24, .inl (cy 0, 14, .inl (fun i => nI (upN (gH g) (gE g) c9 i)))), (ad 25, .inl (cy 0, 14, .inl (fun i => zI (upZ (gW g) (gE g) w i))))] := hD
                    refine lv_aload_n hx hb dX6_edge_113 rfl (lv_at hl 1 rfl) ?_
                    refine lv_dup hx hb dX6_edge_114 rfl ?_
                    refine va_get (D := D) (ci := 5) (v := .int (nI (gE g))) (C := RX6) (T := TX6) (N := 16) hx hb hts inX6 hown hK.1 hP 0 rfl rfl 3 (by decide) (hts (.fieldLink RX6 56 "ColourForestsModel" "edges" "I") (List.mem_of_getElem? (i := 4) rfl)) (fun _ h9 => h9) rfl dX6_edge_115 ?_
                    refine lv_iconst (v := nI 1) hx hb dX6_edge_118 (by decide) ?_
                    refine lv_iadd hx hb dX6_edge_119 ?_
                    refine lv_as (y := (nI ((gE g) + 1))) (nI_add _ _) ?_
                    refine va_put (D := D) (ci := 5) (v := .int (nI ((gE g) + 1))) (ty := .int) (C := RX6) (T := TX6) (N := 16) hx hb hts inX6 tyX6 tyX6_ok nmX6 hown hK.1 hP hD hS 0 rfl rfl 3 (by decide) (hts (.fieldLink RX6 56 "ColourForestsModel" "edges" "I") (List.mem_of_getElem? (i := 4) rfl)) (fun _ h9 => h9) rfl (by decide +kernel) rfl rfl (Nat.le_of_ble_eq_true rfl) dX6_edge_120 (fun H locs hP hD hS => ?_)
                    have hP : va_P D vwCl [(ad 20, .inr (5, [.int (nI 0), .int (nI (gV g)), .int (nI (gC g)), .int (nI ((gE g) + 1)), .ref (ad 21), .ref (ad 22), .ref (ad 23), .ref (ad 24), .ref (ad 25), .int kn, .ref (ad 26), .ref (ad 27), .ref (ad 28), .int ms, .ref (ad 29), .ref (ad 30)])), (ad 22, .inl (cy 0, 14, .inl (fun i => nI (upN (gF g) (gE g) a i)))), (ad 23, .inl (cy 0, 14, .inl (fun i => nI (upN (gS g) (gE g) b i)))), (ad 24, .inl (cy 0, 14, .inl (fun i => nI (upN (gH g) (gE g) c9 i)))), (ad 25, .inl (cy 0, 14, .inl (fun i => zI (upZ (gW g) (gE g) w i))))] H := hP
                    have hD : va_D (inW [(ad 20, .inr (5, [.int th, .int (nI (gV g)), .int (nI (gC g)), .int (nI (gE g)), .ref (ad 21), .ref (ad 22), .ref (ad 23), .ref (ad 24), .ref (ad 25), .int kn, .ref (ad 26), .ref (ad 27), .ref (ad 28), .int ms, .ref (ad 29), .ref (ad 30)])), (ad 22, .inl (cy 0, 14, .inl (fun i => nI (gF g i)))), (ad 23, .inl (cy 0, 14, .inl (fun i => nI (gS g i)))), (ad 24, .inl (cy 0, 14, .inl (fun i => nI (gH g i)))), (ad 25, .inl (cy 0, 14, .inl (fun i => zI (gW g i))))]) [(ad 20, .inr (5, [.int (nI 0), .int (nI (gV g)), .int (nI (gC g)), .int (nI ((gE g) + 1)), .ref (ad 21), .ref (ad 22), .ref (ad 23), .ref (ad 24), .ref (ad 25), .int kn, .ref (ad 26), .ref (ad 27), .ref (ad 28), .int ms, .ref (ad 29), .ref (ad 30)])), (ad 22, .inl (cy 0, 14, .inl (fun i => nI (upN (gF g) (gE g) a i)))), (ad 23, .inl (cy 0, 14, .inl (fun i => nI (upN (gS g) (gE g) b i)))), (ad 24, .inl (cy 0, 14, .inl (fun i => nI (upN (gH g) (gE g) c9 i)))), (ad 25, .inl (cy 0, 14, .inl (fun i => zI (upZ (gW g) (gE g) w i))))] := hD
                    refine lv_aload_n hx hb dX6_edge_123 rfl (lv_at hl 1 rfl) ?_
                    refine lv_iconst (v := nI 0) hx hb dX6_edge_124 (by decide) ?_
                    refine va_put (D := D) (ci := 5) (v := .int (nI 0)) (ty := .boolean) (C := RX6) (T := TX6) (N := 16) hx hb hts inX6 tyX6 tyX6_ok nmX6 hown hK.1 hP hD hS 0 rfl rfl 9 (by decide) (hts (.fieldLink RX6 59 "ColourForestsModel" "known" "Z") (List.mem_of_getElem? (i := 9) rfl)) (fun _ h9 => h9) rfl (by decide +kernel) (by decide) rfl (Nat.le_of_ble_eq_true rfl) dX6_edge_125 (fun H locs hP hD hS => ?_)
                    have hP : va_P D vwCl [(ad 20, .inr (5, [.int (nI 0), .int (nI (gV g)), .int (nI (gC g)), .int (nI ((gE g) + 1)), .ref (ad 21), .ref (ad 22), .ref (ad 23), .ref (ad 24), .ref (ad 25), .int (nI 0), .ref (ad 26), .ref (ad 27), .ref (ad 28), .int ms, .ref (ad 29), .ref (ad 30)])), (ad 22, .inl (cy 0, 14, .inl (fun i => nI (upN (gF g) (gE g) a i)))), (ad 23, .inl (cy 0, 14, .inl (fun i => nI (upN (gS g) (gE g) b i)))), (ad 24, .inl (cy 0, 14, .inl (fun i => nI (upN (gH g) (gE g) c9 i)))), (ad 25, .inl (cy 0, 14, .inl (fun i => zI (upZ (gW g) (gE g) w i))))] H := hP
                    have hD : va_D (inW [(ad 20, .inr (5, [.int th, .int (nI (gV g)), .int (nI (gC g)), .int (nI (gE g)), .ref (ad 21), .ref (ad 22), .ref (ad 23), .ref (ad 24), .ref (ad 25), .int kn, .ref (ad 26), .ref (ad 27), .ref (ad 28), .int ms, .ref (ad 29), .ref (ad 30)])), (ad 22, .inl (cy 0, 14, .inl (fun i => nI (gF g i)))), (ad 23, .inl (cy 0, 14, .inl (fun i => nI (gS g i)))), (ad 24, .inl (cy 0, 14, .inl (fun i => nI (gH g i)))), (ad 25, .inl (cy 0, 14, .inl (fun i => zI (gW g i))))]) [(ad 20, .inr (5, [.int (nI 0), .int (nI (gV g)), .int (nI (gC g)), .int (nI ((gE g) + 1)), .ref (ad 21), .ref (ad 22), .ref (ad 23), .ref (ad 24), .ref (ad 25), .int (nI 0), .ref (ad 26), .ref (ad 27), .ref (ad 28), .int ms, .ref (ad 29), .ref (ad 30)])), (ad 22, .inl (cy 0, 14, .inl (fun i => nI (upN (gF g) (gE g) a i)))), (ad 23, .inl (cy 0, 14, .inl (fun i => nI (upN (gS g) (gE g) b i)))), (ad 24, .inl (cy 0, 14, .inl (fun i => nI (upN (gH g) (gE g) c9 i)))), (ad 25, .inl (cy 0, 14, .inl (fun i => zI (upZ (gW g) (gE g) w i))))] := hD
                    refine lv_aload_n hx hb dX6_edge_128 rfl (lv_at hl 1 rfl) ?_
                    refine va_get (D := D) (ci := 5) (v := .int (nI ((gE g) + 1))) (C := RX6) (T := TX6) (N := 16) hx hb hts inX6 hown hK.1 hP 0 rfl rfl 3 (by decide) (hts (.fieldLink RX6 56 "ColourForestsModel" "edges" "I") (List.mem_of_getElem? (i := 4) rfl)) (fun _ h9 => h9) rfl dX6_edge_129 ?_
                    refine lv_iconst (v := nI 1) hx hb dX6_edge_132 (by decide) ?_
                    refine lv_isub hx hb dX6_edge_133 ?_
                    refine lv_as (y := (nI (((gE g) + 1) - 1))) (ni_sub (by omega)) ?_
                    exact wi_ret () hx hb hr hlocks hS hP (by rw [Nat.add_sub_cancel]) dX6_edge_134
                  · exact absurd c67 (by omega)

set_option maxHeartbeats 4000000 in
set_option maxRecDepth 100000 in
theorem c_X6_limit_1 (l : Launch) (D : va_G) (cy : Nat → ClassId) (ad : Nat → Nat) {g : GT} (hg : gOK g) (th kn ms : Int32) {x : Int32} (y : Int32) (h : isN x (gC g) = false) : WV l yX6_limit wsX6_limit ({ frames := 1, cells := 0, slots := 0, locals := 21 }) D cy [.ref (ad 20), .int x, .int y] [(ad 20, .inr (5, [.int th, .int (nI (gV g)), .int (nI (gC g)), .int (nI (gE g)), .ref (ad 21), .ref (ad 22), .ref (ad 23), .ref (ad 24), .ref (ad 25), .int kn, .ref (ad 26), .ref (ad 27), .ref (ad 28), .int ms, .ref (ad 29), .ref (ad 30)]))] (fun _ : Unit => True) (fun _ : Unit => [(ad 20, .inr (5, [.int (nI 1), .int (nI (gV g)), .int (nI (gC g)), .int (nI (gE g)), .ref (ad 21), .ref (ad 22), .ref (ad 23), .ref (ad 24), .ref (ad 25), .int kn, .ref (ad 26), .ref (ad 27), .ref (ad 28), .int ms, .ref (ad 29), .ref (ad 30)]))]) := by
  refine Met.ofW (cc := cX6_limit) (maxL := 3) (ret := none) (by decide) rfl ?_
  intro p ev s m args below meth c s₁ B hml hv
  obtain ⟨rfl, ⟨hK, hP⟩, hD0⟩ := hv
  have hx := B.exec
  have hb := B.bytes
  have hr := B.returns
  have hts := atoms_spec (ws := wsX6_limit) B.pre
  have hown : s.vm.findClass RX6 = some m.cls := findClass_of_methodNamed B.named
  have hlocks := B.notSynchronized
  have hD : va_D (inW [(ad 20, .inr (5, [.int th, .int (nI (gV g)), .int (nI (gC g)), .int (nI (gE g)), .ref (ad 21), .ref (ad 22), .ref (ad 23), .ref (ad 24), .ref (ad 25), .int kn, .ref (ad 26), .ref (ad 27), .ref (ad 28), .int ms, .ref (ad 29), .ref (ad 30)]))]) ([(ad 20, .inr (5, [.int th, .int (nI (gV g)), .int (nI (gC g)), .int (nI (gE g)), .ref (ad 21), .ref (ad 22), .ref (ad 23), .ref (ad 24), .ref (ad 25), .int kn, .ref (ad 26), .ref (ad 27), .ref (ad 28), .int ms, .ref (ad 29), .ref (ad 30)]))]) := inW_self hD0
  have hS : va_S (inW [(ad 20, .inr (5, [.int th, .int (nI (gV g)), .int (nI (gC g)), .int (nI (gE g)), .ref (ad 21), .ref (ad 22), .ref (ad 23), .ref (ad 24), .ref (ad 25), .int kn, .ref (ad 26), .ref (ad 27), .ref (ad 28), .int ms, .ref (ad 29), .ref (ad 30)]))]) s.heap s.heap [] := va_S.rf
  have hP : va_P D vwCl [(ad 20, .inr (5, [.int th, .int (nI (gV g)), .int (nI (gC g)), .int (nI (gE g)), .ref (ad 21), .ref (ad 22), .ref (ad 23), .ref (ad 24), .ref (ad 25), .int kn, .ref (ad 26), .ref (ad 27), .ref (ad 28), .int ms, .ref (ad 29), .ref (ad 30)]))] s.heap := hP
  have inX6 : ∀ w ∈ wsX60, w ∈ wsX6_limit := by decide +kernel
  have hl := lv_entry ([.ref (ad 20), .int x, .int y]) (n := 3) (Nat.le_of_ble_eq_true rfl)
  rw [lg_entry_eq]
  generalize (lg_sl ([.ref (ad 20), .int x, .int y]) ++ List.replicate (3 - (lg_sl ([.ref (ad 20), .int x, .int y])).length) Slot.unset).toArray = ls at hl ⊢
  have hl : lv_has ls 3 [(0, .ref (ad 20)), (1, .int x), (2, .int y)] := hl
  have hgen := True.intro
  have hE := hg.2.2.1
  have hV := hg.1
  have hC := hg.2.1
  refine lv_aload_n hx hb dX6_limit_0 rfl (lv_at hl 0 rfl) ?_
  refine lv_iload_n hx hb dX6_limit_1 rfl (lv_at hl 1 rfl) ?_
  refine lv_if_lt (tgt := 13) hx hb dX6_limit_2 (by decide) (fun c2 => ?_) (fun c2 => ?_)
  · refine lv_iconst (v := nI 1) hx hb dX6_limit_13 (by decide) ?_
    refine lv_goto (tgt := 32) hx hb dX6_limit_14 (by decide) ?_
    refine wr_calli [0] (va_runV (As := [.int (nI 1)]) (rest := []) ⟨hx, hb, hml, hown, hts⟩ (c_X6_refuses l D cy ad g th kn ms ((nI 1))) (cwV 1 hts gX6_limit_X6_refuses rfl rfl rfl (by decide +kernel) ⟨Nat.le_of_ble_eq_true rfl, Nat.le_of_ble_eq_true rfl⟩) (WR_preV (ci := 5) (q0 := 0) hK hP hD rfl rfl [0] (by decide) rfl rfl) rfl rfl hl.1 rfl (lv_room (Nat.le_of_ble_eq_true rfl)) dX6_limit_32 ⟨(Nat.zero_le _), (Nat.zero_le _)⟩) hS hP hD rfl (fun _ => rfl) (fun _ => rfl) (fun r32 u32 H locs w32 hP hD hS => ?_)
    refine lv_as (y := bI true) (by rw [w32]; first | rfl | decide) ?_
    have hP : va_P D vwCl [(ad 20, .inr (5, [.int (nI 1), .int (nI (gV g)), .int (nI (gC g)), .int (nI (gE g)), .ref (ad 21), .ref (ad 22), .ref (ad 23), .ref (ad 24), .ref (ad 25), .int kn, .ref (ad 26), .ref (ad 27), .ref (ad 28), .int ms, .ref (ad 29), .ref (ad 30)]))] H := hP
    have hD : va_D (inW [(ad 20, .inr (5, [.int th, .int (nI (gV g)), .int (nI (gC g)), .int (nI (gE g)), .ref (ad 21), .ref (ad 22), .ref (ad 23), .ref (ad 24), .ref (ad 25), .int kn, .ref (ad 26), .ref (ad 27), .ref (ad 28), .int ms, .ref (ad 29), .ref (ad 30)]))]) [(ad 20, .inr (5, [.int (nI 1), .int (nI (gV g)), .int (nI (gC g)), .int (nI (gE g)), .ref (ad 21), .ref (ad 22), .ref (ad 23), .ref (ad 24), .ref (ad 25), .int kn, .ref (ad 26), .ref (ad 27), .ref (ad 28), .int ms, .ref (ad 29), .ref (ad 30)]))] := hD
    refine b_ne (b := true) (tgt := 50) hx hb dX6_limit_35 (by decide) (fun c35 => ?_) (fun c35 => ?_)
    · exact wv_ret () hx hb hr hlocks hS hP trivial dX6_limit_50
    · cases c35
  · refine lv_iload_n hx hb dX6_limit_5 rfl (lv_at hl 1 rfl) ?_
    refine lv_aload_n hx hb dX6_limit_6 rfl (lv_at hl 0 rfl) ?_
    refine va_get (D := D) (ci := 5) (v := .int (nI (gC g))) (C := RX6) (T := TX6) (N := 16) hx hb hts inX6 hown hK.1 hP 0 rfl rfl 2 (by decide) (hts (.fieldLink RX6 13 "ColourForestsModel" "colours" "I") (List.mem_of_getElem? (i := 1) rfl)) (fun _ h9 => h9) rfl dX6_limit_7 ?_
    refine lv_icmp_lt (tgt := 17) hx hb dX6_limit_10 (by decide) (fun c10 => ?_) (fun c10 => ?_)
    · exact absurd (h.symm.trans (isN_t2 (by omega) c2 c10)) (by decide)
    · refine lv_iconst (v := nI 1) hx hb dX6_limit_13 (by decide) ?_
      refine lv_goto (tgt := 32) hx hb dX6_limit_14 (by decide) ?_
      refine wr_calli [0] (va_runV (As := [.int (nI 1)]) (rest := []) ⟨hx, hb, hml, hown, hts⟩ (c_X6_refuses l D cy ad g th kn ms ((nI 1))) (cwV 1 hts gX6_limit_X6_refuses rfl rfl rfl (by decide +kernel) ⟨Nat.le_of_ble_eq_true rfl, Nat.le_of_ble_eq_true rfl⟩) (WR_preV (ci := 5) (q0 := 0) hK hP hD rfl rfl [0] (by decide) rfl rfl) rfl rfl hl.1 rfl (lv_room (Nat.le_of_ble_eq_true rfl)) dX6_limit_32 ⟨(Nat.zero_le _), (Nat.zero_le _)⟩) hS hP hD rfl (fun _ => rfl) (fun _ => rfl) (fun r32 u32 H locs w32 hP hD hS => ?_)
      refine lv_as (y := bI true) (by rw [w32]; first | rfl | decide) ?_
      have hP : va_P D vwCl [(ad 20, .inr (5, [.int (nI 1), .int (nI (gV g)), .int (nI (gC g)), .int (nI (gE g)), .ref (ad 21), .ref (ad 22), .ref (ad 23), .ref (ad 24), .ref (ad 25), .int kn, .ref (ad 26), .ref (ad 27), .ref (ad 28), .int ms, .ref (ad 29), .ref (ad 30)]))] H := hP
      have hD : va_D (inW [(ad 20, .inr (5, [.int th, .int (nI (gV g)), .int (nI (gC g)), .int (nI (gE g)), .ref (ad 21), .ref (ad 22), .ref (ad 23), .ref (ad 24), .ref (ad 25), .int kn, .ref (ad 26), .ref (ad 27), .ref (ad 28), .int ms, .ref (ad 29), .ref (ad 30)]))]) [(ad 20, .inr (5, [.int (nI 1), .int (nI (gV g)), .int (nI (gC g)), .int (nI (gE g)), .ref (ad 21), .ref (ad 22), .ref (ad 23), .ref (ad 24), .ref (ad 25), .int kn, .ref (ad 26), .ref (ad 27), .ref (ad 28), .int ms, .ref (ad 29), .ref (ad 30)]))] := hD
      refine b_ne (b := true) (tgt := 50) hx hb dX6_limit_35 (by decide) (fun c35 => ?_) (fun c35 => ?_)
      · exact wv_ret () hx hb hr hlocks hS hP trivial dX6_limit_50
      · cases c35

set_option maxHeartbeats 4000000 in
set_option maxRecDepth 100000 in
theorem c_X6_limit_2 (l : Launch) (D : va_G) (cy : Nat → ClassId) (ad : Nat → Nat) {g : GT} (hg : gOK g) (th kn ms : Int32) {x y : Int32} (h1 : isN x (gC g) = true) (h : isN y 15 = false) : WV l yX6_limit wsX6_limit ({ frames := 1, cells := 0, slots := 0, locals := 21 }) D cy [.ref (ad 20), .int x, .int y] [(ad 20, .inr (5, [.int th, .int (nI (gV g)), .int (nI (gC g)), .int (nI (gE g)), .ref (ad 21), .ref (ad 22), .ref (ad 23), .ref (ad 24), .ref (ad 25), .int kn, .ref (ad 26), .ref (ad 27), .ref (ad 28), .int ms, .ref (ad 29), .ref (ad 30)]))] (fun _ : Unit => True) (fun _ : Unit => [(ad 20, .inr (5, [.int (nI 2), .int (nI (gV g)), .int (nI (gC g)), .int (nI (gE g)), .ref (ad 21), .ref (ad 22), .ref (ad 23), .ref (ad 24), .ref (ad 25), .int kn, .ref (ad 26), .ref (ad 27), .ref (ad 28), .int ms, .ref (ad 29), .ref (ad 30)]))]) := by
  refine Met.ofW (cc := cX6_limit) (maxL := 3) (ret := none) (by decide) rfl ?_
  intro p ev s m args below meth c s₁ B hml hv
  obtain ⟨rfl, ⟨hK, hP⟩, hD0⟩ := hv
  have hx := B.exec
  have hb := B.bytes
  have hr := B.returns
  have hts := atoms_spec (ws := wsX6_limit) B.pre
  have hown : s.vm.findClass RX6 = some m.cls := findClass_of_methodNamed B.named
  have hlocks := B.notSynchronized
  have hD : va_D (inW [(ad 20, .inr (5, [.int th, .int (nI (gV g)), .int (nI (gC g)), .int (nI (gE g)), .ref (ad 21), .ref (ad 22), .ref (ad 23), .ref (ad 24), .ref (ad 25), .int kn, .ref (ad 26), .ref (ad 27), .ref (ad 28), .int ms, .ref (ad 29), .ref (ad 30)]))]) ([(ad 20, .inr (5, [.int th, .int (nI (gV g)), .int (nI (gC g)), .int (nI (gE g)), .ref (ad 21), .ref (ad 22), .ref (ad 23), .ref (ad 24), .ref (ad 25), .int kn, .ref (ad 26), .ref (ad 27), .ref (ad 28), .int ms, .ref (ad 29), .ref (ad 30)]))]) := inW_self hD0
  have hS : va_S (inW [(ad 20, .inr (5, [.int th, .int (nI (gV g)), .int (nI (gC g)), .int (nI (gE g)), .ref (ad 21), .ref (ad 22), .ref (ad 23), .ref (ad 24), .ref (ad 25), .int kn, .ref (ad 26), .ref (ad 27), .ref (ad 28), .int ms, .ref (ad 29), .ref (ad 30)]))]) s.heap s.heap [] := va_S.rf
  have hP : va_P D vwCl [(ad 20, .inr (5, [.int th, .int (nI (gV g)), .int (nI (gC g)), .int (nI (gE g)), .ref (ad 21), .ref (ad 22), .ref (ad 23), .ref (ad 24), .ref (ad 25), .int kn, .ref (ad 26), .ref (ad 27), .ref (ad 28), .int ms, .ref (ad 29), .ref (ad 30)]))] s.heap := hP
  have inX6 : ∀ w ∈ wsX60, w ∈ wsX6_limit := by decide +kernel
  have hl := lv_entry ([.ref (ad 20), .int x, .int y]) (n := 3) (Nat.le_of_ble_eq_true rfl)
  rw [lg_entry_eq]
  generalize (lg_sl ([.ref (ad 20), .int x, .int y]) ++ List.replicate (3 - (lg_sl ([.ref (ad 20), .int x, .int y])).length) Slot.unset).toArray = ls at hl ⊢
  have hl : lv_has ls 3 [(0, .ref (ad 20)), (1, .int x), (2, .int y)] := hl
  have hgen := True.intro
  have hE := hg.2.2.1
  have hV := hg.1
  have hC := hg.2.1
  refine lv_aload_n hx hb dX6_limit_0 rfl (lv_at hl 0 rfl) ?_
  refine lv_iload_n hx hb dX6_limit_1 rfl (lv_at hl 1 rfl) ?_
  refine lv_if_lt (tgt := 13) hx hb dX6_limit_2 (by decide) (fun c2 => ?_) (fun c2 => ?_)
  · exact absurd h1 (by first | (rw [isN_f0 c2]; decide) | (rw [isN_f1 (by omega) (le_of_nlt c10)]; decide))
  · refine lv_iload_n hx hb dX6_limit_5 rfl (lv_at hl 1 rfl) ?_
    refine lv_aload_n hx hb dX6_limit_6 rfl (lv_at hl 0 rfl) ?_
    refine va_get (D := D) (ci := 5) (v := .int (nI (gC g))) (C := RX6) (T := TX6) (N := 16) hx hb hts inX6 hown hK.1 hP 0 rfl rfl 2 (by decide) (hts (.fieldLink RX6 13 "ColourForestsModel" "colours" "I") (List.mem_of_getElem? (i := 1) rfl)) (fun _ h9 => h9) rfl dX6_limit_7 ?_
    refine lv_icmp_lt (tgt := 17) hx hb dX6_limit_10 (by decide) (fun c10 => ?_) (fun c10 => ?_)
    · refine lv_iload_n hx hb dX6_limit_17 rfl (lv_at hl 2 rfl) ?_
      refine lv_if_lt (tgt := 27) hx hb dX6_limit_18 (by decide) (fun c18 => ?_) (fun c18 => ?_)
      · refine lv_iconst (v := nI 2) hx hb dX6_limit_27 (by decide) ?_
        refine lv_goto (tgt := 32) hx hb dX6_limit_28 (by decide) ?_
        refine wr_calli [0] (va_runV (As := [.int (nI 2)]) (rest := []) ⟨hx, hb, hml, hown, hts⟩ (c_X6_refuses l D cy ad g th kn ms ((nI 2))) (cwV 1 hts gX6_limit_X6_refuses rfl rfl rfl (by decide +kernel) ⟨Nat.le_of_ble_eq_true rfl, Nat.le_of_ble_eq_true rfl⟩) (WR_preV (ci := 5) (q0 := 0) hK hP hD rfl rfl [0] (by decide) rfl rfl) rfl rfl hl.1 rfl (lv_room (Nat.le_of_ble_eq_true rfl)) dX6_limit_32 ⟨(Nat.zero_le _), (Nat.zero_le _)⟩) hS hP hD rfl (fun _ => rfl) (fun _ => rfl) (fun r32 u32 H locs w32 hP hD hS => ?_)
        refine lv_as (y := bI true) (by rw [w32]; first | rfl | decide) ?_
        have hP : va_P D vwCl [(ad 20, .inr (5, [.int (nI 2), .int (nI (gV g)), .int (nI (gC g)), .int (nI (gE g)), .ref (ad 21), .ref (ad 22), .ref (ad 23), .ref (ad 24), .ref (ad 25), .int kn, .ref (ad 26), .ref (ad 27), .ref (ad 28), .int ms, .ref (ad 29), .ref (ad 30)]))] H := hP
        have hD : va_D (inW [(ad 20, .inr (5, [.int th, .int (nI (gV g)), .int (nI (gC g)), .int (nI (gE g)), .ref (ad 21), .ref (ad 22), .ref (ad 23), .ref (ad 24), .ref (ad 25), .int kn, .ref (ad 26), .ref (ad 27), .ref (ad 28), .int ms, .ref (ad 29), .ref (ad 30)]))]) [(ad 20, .inr (5, [.int (nI 2), .int (nI (gV g)), .int (nI (gC g)), .int (nI (gE g)), .ref (ad 21), .ref (ad 22), .ref (ad 23), .ref (ad 24), .ref (ad 25), .int kn, .ref (ad 26), .ref (ad 27), .ref (ad 28), .int ms, .ref (ad 29), .ref (ad 30)]))] := hD
        refine b_ne (b := true) (tgt := 50) hx hb dX6_limit_35 (by decide) (fun c35 => ?_) (fun c35 => ?_)
        · exact wv_ret () hx hb hr hlocks hS hP trivial dX6_limit_50
        · cases c35
      · refine lv_iload_n hx hb dX6_limit_21 rfl (lv_at hl 2 rfl) ?_
        refine lv_bipush (v := nI 14) hx hb dX6_limit_22 (by decide) ?_
        refine lv_icmp_le (tgt := 31) hx hb dX6_limit_24 (by decide) (fun c24 => ?_) (fun c24 => ?_)
        · exact absurd (h.symm.trans (isN_t3 (n := 14) (by decide) c18 c24)) (by decide)
        · refine lv_iconst (v := nI 2) hx hb dX6_limit_27 (by decide) ?_
          refine lv_goto (tgt := 32) hx hb dX6_limit_28 (by decide) ?_
          refine wr_calli [0] (va_runV (As := [.int (nI 2)]) (rest := []) ⟨hx, hb, hml, hown, hts⟩ (c_X6_refuses l D cy ad g th kn ms ((nI 2))) (cwV 1 hts gX6_limit_X6_refuses rfl rfl rfl (by decide +kernel) ⟨Nat.le_of_ble_eq_true rfl, Nat.le_of_ble_eq_true rfl⟩) (WR_preV (ci := 5) (q0 := 0) hK hP hD rfl rfl [0] (by decide) rfl rfl) rfl rfl hl.1 rfl (lv_room (Nat.le_of_ble_eq_true rfl)) dX6_limit_32 ⟨(Nat.zero_le _), (Nat.zero_le _)⟩) hS hP hD rfl (fun _ => rfl) (fun _ => rfl) (fun r32 u32 H locs w32 hP hD hS => ?_)
          refine lv_as (y := bI true) (by rw [w32]; first | rfl | decide) ?_
          have hP : va_P D vwCl [(ad 20, .inr (5, [.int (nI 2), .int (nI (gV g)), .int (nI (gC g)), .int (nI (gE g)), .ref (ad 21), .ref (ad 22), .ref (ad 23), .ref (ad 24), .ref (ad 25), .int kn, .ref (ad 26), .ref (ad 27), .ref (ad 28), .int ms, .ref (ad 29), .ref (ad 30)]))] H := hP
          have hD : va_D (inW [(ad 20, .inr (5, [.int th, .int (nI (gV g)), .int (nI (gC g)), .int (nI (gE g)), .ref (ad 21), .ref (ad 22), .ref (ad 23), .ref (ad 24), .ref (ad 25), .int kn, .ref (ad 26), .ref (ad 27), .ref (ad 28), .int ms, .ref (ad 29), .ref (ad 30)]))]) [(ad 20, .inr (5, [.int (nI 2), .int (nI (gV g)), .int (nI (gC g)), .int (nI (gE g)), .ref (ad 21), .ref (ad 22), .ref (ad 23), .ref (ad 24), .ref (ad 25), .int kn, .ref (ad 26), .ref (ad 27), .ref (ad 28), .int ms, .ref (ad 29), .ref (ad 30)]))] := hD
          refine b_ne (b := true) (tgt := 50) hx hb dX6_limit_35 (by decide) (fun c35 => ?_) (fun c35 => ?_)
          · exact wv_ret () hx hb hr hlocks hS hP trivial dX6_limit_50
          · cases c35
    · exact absurd h1 (by first | (rw [isN_f0 c2]; decide) | (rw [isN_f1 (by omega) (le_of_nlt c10)]; decide))

set_option maxHeartbeats 4000000 in
set_option maxRecDepth 100000 in
theorem c_X6_limit_0 (l : Launch) (D : va_G) (cy : Nat → ClassId) (ad : Nat → Nat) {g : GT} (hg : gOK g) (th kn ms : Int32) {c9 n9 : Nat} (hc9 : c9 < gC g) (hn9 : n9 ≤ 14) : WV l yX6_limit wsX6_limit ({ frames := 1, cells := 0, slots := 0, locals := 21 }) D cy [.ref (ad 20), .int (nI c9), .int (nI n9)] [(ad 20, .inr (5, [.int th, .int (nI (gV g)), .int (nI (gC g)), .int (nI (gE g)), .ref (ad 21), .ref (ad 22), .ref (ad 23), .ref (ad 24), .ref (ad 25), .int kn, .ref (ad 26), .ref (ad 27), .ref (ad 28), .int ms, .ref (ad 29), .ref (ad 30)])), (ad 21, .inl (cy 0, 6, .inl (fun i => nI (gL g i))))] (fun _ : Unit => True) (fun _ : Unit => [(ad 20, .inr (5, [.int (nI 0), .int (nI (gV (liG c9 n9 g))), .int (nI (gC (liG c9 n9 g))), .int (nI (gE (liG c9 n9 g))), .ref (ad 21), .ref (ad 22), .ref (ad 23), .ref (ad 24), .ref (ad 25), .int (bI false), .ref (ad 26), .ref (ad 27), .ref (ad 28), .int ms, .ref (ad 29), .ref (ad 30)])), (ad 21, .inl (cy 0, 6, .inl (fun i => nI (gL (liG c9 n9 g) i))))]) := by
  refine Met.ofW (cc := cX6_limit) (maxL := 3) (ret := none) (by decide) rfl ?_
  intro p ev s m args below meth c s₁ B hml hv
  obtain ⟨rfl, ⟨hK, hP⟩, hD0⟩ := hv
  have hx := B.exec
  have hb := B.bytes
  have hr := B.returns
  have hts := atoms_spec (ws := wsX6_limit) B.pre
  have hown : s.vm.findClass RX6 = some m.cls := findClass_of_methodNamed B.named
  have hlocks := B.notSynchronized
  have hD : va_D (inW [(ad 20, .inr (5, [.int th, .int (nI (gV g)), .int (nI (gC g)), .int (nI (gE g)), .ref (ad 21), .ref (ad 22), .ref (ad 23), .ref (ad 24), .ref (ad 25), .int kn, .ref (ad 26), .ref (ad 27), .ref (ad 28), .int ms, .ref (ad 29), .ref (ad 30)])), (ad 21, .inl (cy 0, 6, .inl (fun i => nI (gL g i))))]) ([(ad 20, .inr (5, [.int th, .int (nI (gV g)), .int (nI (gC g)), .int (nI (gE g)), .ref (ad 21), .ref (ad 22), .ref (ad 23), .ref (ad 24), .ref (ad 25), .int kn, .ref (ad 26), .ref (ad 27), .ref (ad 28), .int ms, .ref (ad 29), .ref (ad 30)])), (ad 21, .inl (cy 0, 6, .inl (fun i => nI (gL g i))))]) := inW_self hD0
  have hS : va_S (inW [(ad 20, .inr (5, [.int th, .int (nI (gV g)), .int (nI (gC g)), .int (nI (gE g)), .ref (ad 21), .ref (ad 22), .ref (ad 23), .ref (ad 24), .ref (ad 25), .int kn, .ref (ad 26), .ref (ad 27), .ref (ad 28), .int ms, .ref (ad 29), .ref (ad 30)])), (ad 21, .inl (cy 0, 6, .inl (fun i => nI (gL g i))))]) s.heap s.heap [] := va_S.rf
  have hP : va_P D vwCl [(ad 20, .inr (5, [.int th, .int (nI (gV g)), .int (nI (gC g)), .int (nI (gE g)), .ref (ad 21), .ref (ad 22), .ref (ad 23), .ref (ad 24), .ref (ad 25), .int kn, .ref (ad 26), .ref (ad 27), .ref (ad 28), .int ms, .ref (ad 29), .ref (ad 30)])), (ad 21, .inl (cy 0, 6, .inl (fun i => nI (gL g i))))] s.heap := hP
  have inX6 : ∀ w ∈ wsX60, w ∈ wsX6_limit := by decide +kernel
  have hl := lv_entry ([.ref (ad 20), .int (nI c9), .int (nI n9)]) (n := 3) (Nat.le_of_ble_eq_true rfl)
  rw [lg_entry_eq]
  generalize (lg_sl ([.ref (ad 20), .int (nI c9), .int (nI n9)]) ++ List.replicate (3 - (lg_sl ([.ref (ad 20), .int (nI c9), .int (nI n9)])).length) Slot.unset).toArray = ls at hl ⊢
  have hl : lv_has ls 3 [(0, .ref (ad 20)), (1, .int (nI c9)), (2, .int (nI n9))] := hl
  have hgen := True.intro
  have hE := hg.2.2.1
  have hV := hg.1
  have hC := hg.2.1
  refine lv_aload_n hx hb dX6_limit_0 rfl (lv_at hl 0 rfl) ?_
  refine lv_iload_n hx hb dX6_limit_1 rfl (lv_at hl 1 rfl) ?_
  refine lv_if_lt (tgt := 13) hx hb dX6_limit_2 (by decide) (fun c2 => ?_) (fun c2 => ?_)
  · exact absurd c2 (nlt0 (by omega))
  · refine lv_iload_n hx hb dX6_limit_5 rfl (lv_at hl 1 rfl) ?_
    refine lv_aload_n hx hb dX6_limit_6 rfl (lv_at hl 0 rfl) ?_
    refine va_get (D := D) (ci := 5) (v := .int (nI (gC g))) (C := RX6) (T := TX6) (N := 16) hx hb hts inX6 hown hK.1 hP 0 rfl rfl 2 (by decide) (hts (.fieldLink RX6 13 "ColourForestsModel" "colours" "I") (List.mem_of_getElem? (i := 1) rfl)) (fun _ h9 => h9) rfl dX6_limit_7 ?_
    refine n_lt (a := c9) (b := (gC g)) (tgt := 17) hx hb dX6_limit_10 (by decide) (by omega) (by omega) (fun c10 => ?_) (fun c10 => ?_)
    · refine lv_iload_n hx hb dX6_limit_17 rfl (lv_at hl 2 rfl) ?_
      refine lv_if_lt (tgt := 27) hx hb dX6_limit_18 (by decide) (fun c18 => ?_) (fun c18 => ?_)
      · exact absurd c18 (nlt0 (by omega))
      · refine lv_iload_n hx hb dX6_limit_21 rfl (lv_at hl 2 rfl) ?_
        refine lv_bipush (v := nI 14) hx hb dX6_limit_22 (by decide) ?_
        refine n_le (a := n9) (b := 14) (tgt := 31) hx hb dX6_limit_24 (by decide) (by omega) (by omega) (fun c24 => ?_) (fun c24 => ?_)
        · refine lv_iconst (v := nI 0) hx hb dX6_limit_31 (by decide) ?_
          refine wr_calli [0] (va_runV (As := [.int (nI 0)]) (rest := []) ⟨hx, hb, hml, hown, hts⟩ (c_X6_refuses l D cy ad g th kn ms ((nI 0))) (cwV 1 hts gX6_limit_X6_refuses rfl rfl rfl (by decide +kernel) ⟨Nat.le_of_ble_eq_true rfl, Nat.le_of_ble_eq_true rfl⟩) (WR_preV (ci := 5) (q0 := 0) hK hP hD rfl rfl [0] (by decide) rfl rfl) rfl rfl hl.1 rfl (lv_room (Nat.le_of_ble_eq_true rfl)) dX6_limit_32 ⟨(Nat.zero_le _), (Nat.zero_le _)⟩) hS hP hD rfl (fun _ => rfl) (fun _ => rfl) (fun r32 u32 H locs w32 hP hD hS => ?_)
          refine lv_as (y := bI false) (by rw [w32]; first | rfl | decide) ?_
          have hP : va_P D vwCl [(ad 20, .inr (5, [.int (nI 0), .int (nI (gV g)), .int (nI (gC g)), .int (nI (gE g)), .ref (ad 21), .ref (ad 22), .ref (ad 23), .ref (ad 24), .ref (ad 25), .int kn, .ref (ad 26), .ref (ad 27), .ref (ad 28), .int ms, .ref (ad 29), .ref (ad 30)])), (ad 21, .inl (cy 0, 6, .inl (fun i => nI (gL g i))))] H := hP
          have hD : va_D (inW [(ad 20, .inr (5, [.int th, .int (nI (gV g)), .int (nI (gC g)), .int (nI (gE g)), .ref (ad 21), .ref (ad 22), .ref (ad 23), .ref (ad 24), .ref (ad 25), .int kn, .ref (ad 26), .ref (ad 27), .ref (ad 28), .int ms, .ref (ad 29), .ref (ad 30)])), (ad 21, .inl (cy 0, 6, .inl (fun i => nI (gL g i))))]) [(ad 20, .inr (5, [.int (nI 0), .int (nI (gV g)), .int (nI (gC g)), .int (nI (gE g)), .ref (ad 21), .ref (ad 22), .ref (ad 23), .ref (ad 24), .ref (ad 25), .int kn, .ref (ad 26), .ref (ad 27), .ref (ad 28), .int ms, .ref (ad 29), .ref (ad 30)])), (ad 21, .inl (cy 0, 6, .inl (fun i => nI (gL g i))))] := hD
          refine b_ne (b := false) (tgt := 50) hx hb dX6_limit_35 (by decide) (fun c35 => ?_) (fun c35 => ?_)
          · cases c35
          · refine lv_aload_n hx hb dX6_limit_38 rfl (lv_at hl 0 rfl) ?_
            refine va_get (D := D) (ci := 5) (v := .ref (ad 21)) (C := RX6) (T := TX6) (N := 16) hx hb hts inX6 hown hK.1 hP 0 rfl rfl 4 (by decide) (hts (.fieldLink RX6 16 "ColourForestsModel" "limits" "[I") (List.mem_of_getElem? (i := 2) rfl)) (fun _ h9 => h9) rfl dX6_limit_39 ?_
            refine lv_iload_n hx hb dX6_limit_42 rfl (lv_at hl 1 rfl) ?_
            refine lv_iload_n hx hb dX6_limit_43 rfl (lv_at hl 2 rfl) ?_
            refine st_i (k := c9) (g := (fun i => nI (upN (gL g) c9 n9 i))) hx hb hK hP hD hS 1 rfl (by omega) (by decide) (upd_nI _ _ _) dX6_limit_44 (fun H locs hP hD hS => ?_)
            have hP : va_P D vwCl [(ad 20, .inr (5, [.int (nI 0), .int (nI (gV g)), .int (nI (gC g)), .int (nI (gE g)), .ref (ad 21), .ref (ad 22), .ref (ad 23), .ref (ad 24), .ref (ad 25), .int kn, .ref (ad 26), .ref (ad 27), .ref (ad 28), .int ms, .ref (ad 29), .ref (ad 30)])), (ad 21, .inl (cy 0, 6, .inl (fun i => nI (upN (gL g) c9 n9 i))))] H := hP
            have hD : va_D (inW [(ad 20, .inr (5, [.int th, .int (nI (gV g)), .int (nI (gC g)), .int (nI (gE g)), .ref (ad 21), .ref (ad 22), .ref (ad 23), .ref (ad 24), .ref (ad 25), .int kn, .ref (ad 26), .ref (ad 27), .ref (ad 28), .int ms, .ref (ad 29), .ref (ad 30)])), (ad 21, .inl (cy 0, 6, .inl (fun i => nI (gL g i))))]) [(ad 20, .inr (5, [.int (nI 0), .int (nI (gV g)), .int (nI (gC g)), .int (nI (gE g)), .ref (ad 21), .ref (ad 22), .ref (ad 23), .ref (ad 24), .ref (ad 25), .int kn, .ref (ad 26), .ref (ad 27), .ref (ad 28), .int ms, .ref (ad 29), .ref (ad 30)])), (ad 21, .inl (cy 0, 6, .inl (fun i => nI (upN (gL g) c9 n9 i))))] := hD
            refine lv_aload_n hx hb dX6_limit_45 rfl (lv_at hl 0 rfl) ?_
            refine lv_iconst (v := nI 0) hx hb dX6_limit_46 (by decide) ?_
            refine va_put (D := D) (ci := 5) (v := .int (nI 0)) (ty := .boolean) (C := RX6) (T := TX6) (N := 16) hx hb hts inX6 tyX6 tyX6_ok nmX6 hown hK.1 hP hD hS 0 rfl rfl 9 (by decide) (hts (.fieldLink RX6 59 "ColourForestsModel" "known" "Z") (List.mem_of_getElem? (i := 3) rfl)) (fun _ h9 => h9) rfl (by decide +kernel) (by decide) rfl (Nat.le_of_ble_eq_true rfl) dX6_limit_47 (fun H locs hP hD hS => ?_)
            have hP : va_P D vwCl [(ad 20, .inr (5, [.int (nI 0), .int (nI (gV g)), .int (nI (gC g)), .int (nI (gE g)), .ref (ad 21), .ref (ad 22), .ref (ad 23), .ref (ad 24), .ref (ad 25), .int (nI 0), .ref (ad 26), .ref (ad 27), .ref (ad 28), .int ms, .ref (ad 29), .ref (ad 30)])), (ad 21, .inl (cy 0, 6, .inl (fun i => nI (upN (gL g) c9 n9 i))))] H := hP
            have hD : va_D (inW [(ad 20, .inr (5, [.int th, .int (nI (gV g)), .int (nI (gC g)), .int (nI (gE g)), .ref (ad 21), .ref (ad 22), .ref (ad 23), .ref (ad 24), .ref (ad 25), .int kn, .ref (ad 26), .ref (ad 27), .ref (ad 28), .int ms, .ref (ad 29), .ref (ad 30)])), (ad 21, .inl (cy 0, 6, .inl (fun i => nI (gL g i))))]) [(ad 20, .inr (5, [.int (nI 0), .int (nI (gV g)), .int (nI (gC g)), .int (nI (gE g)), .ref (ad 21), .ref (ad 22), .ref (ad 23), .ref (ad 24), .ref (ad 25), .int (nI 0), .ref (ad 26), .ref (ad 27), .ref (ad 28), .int ms, .ref (ad 29), .ref (ad 30)])), (ad 21, .inl (cy 0, 6, .inl (fun i => nI (upN (gL g) c9 n9 i))))] := hD
            exact wv_ret () hx hb hr hlocks hS hP trivial dX6_limit_50
        · exact absurd c24 (by omega)
    · exact absurd c10 (by omega)

set_option maxHeartbeats 4000000 in
set_option maxRecDepth 100000 in
theorem c_X6_weigh_1 (l : Launch) (D : va_G) (cy : Nat → ClassId) (ad : Nat → Nat) {g : GT} (hg : gOK g) (th kn ms : Int32) {x : Int32} (y : Int32) (h : isN x (gE g) = false) : WV l yX6_weigh wsX6_weigh ({ frames := 1, cells := 0, slots := 0, locals := 21 }) D cy [.ref (ad 20), .int x, .int y] [(ad 20, .inr (5, [.int th, .int (nI (gV g)), .int (nI (gC g)), .int (nI (gE g)), .ref (ad 21), .ref (ad 22), .ref (ad 23), .ref (ad 24), .ref (ad 25), .int kn, .ref (ad 26), .ref (ad 27), .ref (ad 28), .int ms, .ref (ad 29), .ref (ad 30)]))] (fun _ : Unit => True) (fun _ : Unit => [(ad 20, .inr (5, [.int (nI 1), .int (nI (gV g)), .int (nI (gC g)), .int (nI (gE g)), .ref (ad 21), .ref (ad 22), .ref (ad 23), .ref (ad 24), .ref (ad 25), .int kn, .ref (ad 26), .ref (ad 27), .ref (ad 28), .int ms, .ref (ad 29), .ref (ad 30)]))]) := by
  refine Met.ofW (cc := cX6_weigh) (maxL := 3) (ret := none) (by decide) rfl ?_
  intro p ev s m args below meth c s₁ B hml hv
  obtain ⟨rfl, ⟨hK, hP⟩, hD0⟩ := hv
  have hx := B.exec
  have hb := B.bytes
  have hr := B.returns
  have hts := atoms_spec (ws := wsX6_weigh) B.pre
  have hown : s.vm.findClass RX6 = some m.cls := findClass_of_methodNamed B.named
  have hlocks := B.notSynchronized
  have hD : va_D (inW [(ad 20, .inr (5, [.int th, .int (nI (gV g)), .int (nI (gC g)), .int (nI (gE g)), .ref (ad 21), .ref (ad 22), .ref (ad 23), .ref (ad 24), .ref (ad 25), .int kn, .ref (ad 26), .ref (ad 27), .ref (ad 28), .int ms, .ref (ad 29), .ref (ad 30)]))]) ([(ad 20, .inr (5, [.int th, .int (nI (gV g)), .int (nI (gC g)), .int (nI (gE g)), .ref (ad 21), .ref (ad 22), .ref (ad 23), .ref (ad 24), .ref (ad 25), .int kn, .ref (ad 26), .ref (ad 27), .ref (ad 28), .int ms, .ref (ad 29), .ref (ad 30)]))]) := inW_self hD0
  have hS : va_S (inW [(ad 20, .inr (5, [.int th, .int (nI (gV g)), .int (nI (gC g)), .int (nI (gE g)), .ref (ad 21), .ref (ad 22), .ref (ad 23), .ref (ad 24), .ref (ad 25), .int kn, .ref (ad 26), .ref (ad 27), .ref (ad 28), .int ms, .ref (ad 29), .ref (ad 30)]))]) s.heap s.heap [] := va_S.rf
  have hP : va_P D vwCl [(ad 20, .inr (5, [.int th, .int (nI (gV g)), .int (nI (gC g)), .int (nI (gE g)), .ref (ad 21), .ref (ad 22), .ref (ad 23), .ref (ad 24), .ref (ad 25), .int kn, .ref (ad 26), .ref (ad 27), .ref (ad 28), .int ms, .ref (ad 29), .ref (ad 30)]))] s.heap := hP
  have inX6 : ∀ w ∈ wsX60, w ∈ wsX6_weigh := by decide +kernel
  have hl := lv_entry ([.ref (ad 20), .int x, .int y]) (n := 3) (Nat.le_of_ble_eq_true rfl)
  rw [lg_entry_eq]
  generalize (lg_sl ([.ref (ad 20), .int x, .int y]) ++ List.replicate (3 - (lg_sl ([.ref (ad 20), .int x, .int y])).length) Slot.unset).toArray = ls at hl ⊢
  have hl : lv_has ls 3 [(0, .ref (ad 20)), (1, .int x), (2, .int y)] := hl
  have hgen := True.intro
  have hE := hg.2.2.1
  have hV := hg.1
  have hC := hg.2.1
  refine lv_aload_n hx hb dX6_weigh_0 rfl (lv_at hl 0 rfl) ?_
  refine lv_iload_n hx hb dX6_weigh_1 rfl (lv_at hl 1 rfl) ?_
  refine lv_if_lt (tgt := 13) hx hb dX6_weigh_2 (by decide) (fun c2 => ?_) (fun c2 => ?_)
  · refine lv_iconst (v := nI 1) hx hb dX6_weigh_13 (by decide) ?_
    refine lv_goto (tgt := 29) hx hb dX6_weigh_14 (by decide) ?_
    refine wr_calli [0] (va_runV (As := [.int (nI 1)]) (rest := []) ⟨hx, hb, hml, hown, hts⟩ (c_X6_refuses l D cy ad g th kn ms ((nI 1))) (cwV 1 hts gX6_weigh_X6_refuses rfl rfl rfl (by decide +kernel) ⟨Nat.le_of_ble_eq_true rfl, Nat.le_of_ble_eq_true rfl⟩) (WR_preV (ci := 5) (q0 := 0) hK hP hD rfl rfl [0] (by decide) rfl rfl) rfl rfl hl.1 rfl (lv_room (Nat.le_of_ble_eq_true rfl)) dX6_weigh_29 ⟨(Nat.zero_le _), (Nat.zero_le _)⟩) hS hP hD rfl (fun _ => rfl) (fun _ => rfl) (fun r29 u29 H locs w29 hP hD hS => ?_)
    refine lv_as (y := bI true) (by rw [w29]; first | rfl | decide) ?_
    have hP : va_P D vwCl [(ad 20, .inr (5, [.int (nI 1), .int (nI (gV g)), .int (nI (gC g)), .int (nI (gE g)), .ref (ad 21), .ref (ad 22), .ref (ad 23), .ref (ad 24), .ref (ad 25), .int kn, .ref (ad 26), .ref (ad 27), .ref (ad 28), .int ms, .ref (ad 29), .ref (ad 30)]))] H := hP
    have hD : va_D (inW [(ad 20, .inr (5, [.int th, .int (nI (gV g)), .int (nI (gC g)), .int (nI (gE g)), .ref (ad 21), .ref (ad 22), .ref (ad 23), .ref (ad 24), .ref (ad 25), .int kn, .ref (ad 26), .ref (ad 27), .ref (ad 28), .int ms, .ref (ad 29), .ref (ad 30)]))]) [(ad 20, .inr (5, [.int (nI 1), .int (nI (gV g)), .int (nI (gC g)), .int (nI (gE g)), .ref (ad 21), .ref (ad 22), .ref (ad 23), .ref (ad 24), .ref (ad 25), .int kn, .ref (ad 26), .ref (ad 27), .ref (ad 28), .int ms, .ref (ad 29), .ref (ad 30)]))] := hD
    refine b_ne (b := true) (tgt := 47) hx hb dX6_weigh_32 (by decide) (fun c32 => ?_) (fun c32 => ?_)
    · exact wv_ret () hx hb hr hlocks hS hP trivial dX6_weigh_47
    · cases c32
  · refine lv_iload_n hx hb dX6_weigh_5 rfl (lv_at hl 1 rfl) ?_
    refine lv_aload_n hx hb dX6_weigh_6 rfl (lv_at hl 0 rfl) ?_
    refine va_get (D := D) (ci := 5) (v := .int (nI (gE g))) (C := RX6) (T := TX6) (N := 16) hx hb hts inX6 hown hK.1 hP 0 rfl rfl 3 (by decide) (hts (.fieldLink RX6 56 "ColourForestsModel" "edges" "I") (List.mem_of_getElem? (i := 1) rfl)) (fun _ h9 => h9) rfl dX6_weigh_7 ?_
    refine lv_icmp_lt (tgt := 17) hx hb dX6_weigh_10 (by decide) (fun c10 => ?_) (fun c10 => ?_)
    · exact absurd (h.symm.trans (isN_t2 (by omega) c2 c10)) (by decide)
    · refine lv_iconst (v := nI 1) hx hb dX6_weigh_13 (by decide) ?_
      refine lv_goto (tgt := 29) hx hb dX6_weigh_14 (by decide) ?_
      refine wr_calli [0] (va_runV (As := [.int (nI 1)]) (rest := []) ⟨hx, hb, hml, hown, hts⟩ (c_X6_refuses l D cy ad g th kn ms ((nI 1))) (cwV 1 hts gX6_weigh_X6_refuses rfl rfl rfl (by decide +kernel) ⟨Nat.le_of_ble_eq_true rfl, Nat.le_of_ble_eq_true rfl⟩) (WR_preV (ci := 5) (q0 := 0) hK hP hD rfl rfl [0] (by decide) rfl rfl) rfl rfl hl.1 rfl (lv_room (Nat.le_of_ble_eq_true rfl)) dX6_weigh_29 ⟨(Nat.zero_le _), (Nat.zero_le _)⟩) hS hP hD rfl (fun _ => rfl) (fun _ => rfl) (fun r29 u29 H locs w29 hP hD hS => ?_)
      refine lv_as (y := bI true) (by rw [w29]; first | rfl | decide) ?_
      have hP : va_P D vwCl [(ad 20, .inr (5, [.int (nI 1), .int (nI (gV g)), .int (nI (gC g)), .int (nI (gE g)), .ref (ad 21), .ref (ad 22), .ref (ad 23), .ref (ad 24), .ref (ad 25), .int kn, .ref (ad 26), .ref (ad 27), .ref (ad 28), .int ms, .ref (ad 29), .ref (ad 30)]))] H := hP
      have hD : va_D (inW [(ad 20, .inr (5, [.int th, .int (nI (gV g)), .int (nI (gC g)), .int (nI (gE g)), .ref (ad 21), .ref (ad 22), .ref (ad 23), .ref (ad 24), .ref (ad 25), .int kn, .ref (ad 26), .ref (ad 27), .ref (ad 28), .int ms, .ref (ad 29), .ref (ad 30)]))]) [(ad 20, .inr (5, [.int (nI 1), .int (nI (gV g)), .int (nI (gC g)), .int (nI (gE g)), .ref (ad 21), .ref (ad 22), .ref (ad 23), .ref (ad 24), .ref (ad 25), .int kn, .ref (ad 26), .ref (ad 27), .ref (ad 28), .int ms, .ref (ad 29), .ref (ad 30)]))] := hD
      refine b_ne (b := true) (tgt := 47) hx hb dX6_weigh_32 (by decide) (fun c32 => ?_) (fun c32 => ?_)
      · exact wv_ret () hx hb hr hlocks hS hP trivial dX6_weigh_47
      · cases c32

set_option maxHeartbeats 4000000 in
set_option maxRecDepth 100000 in
theorem c_X6_weigh_2 (l : Launch) (D : va_G) (cy : Nat → ClassId) (ad : Nat → Nat) {g : GT} (hg : gOK g) (th kn ms : Int32) {x y : Int32} (h1 : isN x (gE g) = true) (h : isW y = false) : WV l yX6_weigh wsX6_weigh ({ frames := 1, cells := 0, slots := 0, locals := 21 }) D cy [.ref (ad 20), .int x, .int y] [(ad 20, .inr (5, [.int th, .int (nI (gV g)), .int (nI (gC g)), .int (nI (gE g)), .ref (ad 21), .ref (ad 22), .ref (ad 23), .ref (ad 24), .ref (ad 25), .int kn, .ref (ad 26), .ref (ad 27), .ref (ad 28), .int ms, .ref (ad 29), .ref (ad 30)]))] (fun _ : Unit => True) (fun _ : Unit => [(ad 20, .inr (5, [.int (nI 2), .int (nI (gV g)), .int (nI (gC g)), .int (nI (gE g)), .ref (ad 21), .ref (ad 22), .ref (ad 23), .ref (ad 24), .ref (ad 25), .int kn, .ref (ad 26), .ref (ad 27), .ref (ad 28), .int ms, .ref (ad 29), .ref (ad 30)]))]) := by
  refine Met.ofW (cc := cX6_weigh) (maxL := 3) (ret := none) (by decide) rfl ?_
  intro p ev s m args below meth c s₁ B hml hv
  obtain ⟨rfl, ⟨hK, hP⟩, hD0⟩ := hv
  have hx := B.exec
  have hb := B.bytes
  have hr := B.returns
  have hts := atoms_spec (ws := wsX6_weigh) B.pre
  have hown : s.vm.findClass RX6 = some m.cls := findClass_of_methodNamed B.named
  have hlocks := B.notSynchronized
  have hD : va_D (inW [(ad 20, .inr (5, [.int th, .int (nI (gV g)), .int (nI (gC g)), .int (nI (gE g)), .ref (ad 21), .ref (ad 22), .ref (ad 23), .ref (ad 24), .ref (ad 25), .int kn, .ref (ad 26), .ref (ad 27), .ref (ad 28), .int ms, .ref (ad 29), .ref (ad 30)]))]) ([(ad 20, .inr (5, [.int th, .int (nI (gV g)), .int (nI (gC g)), .int (nI (gE g)), .ref (ad 21), .ref (ad 22), .ref (ad 23), .ref (ad 24), .ref (ad 25), .int kn, .ref (ad 26), .ref (ad 27), .ref (ad 28), .int ms, .ref (ad 29), .ref (ad 30)]))]) := inW_self hD0
  have hS : va_S (inW [(ad 20, .inr (5, [.int th, .int (nI (gV g)), .int (nI (gC g)), .int (nI (gE g)), .ref (ad 21), .ref (ad 22), .ref (ad 23), .ref (ad 24), .ref (ad 25), .int kn, .ref (ad 26), .ref (ad 27), .ref (ad 28), .int ms, .ref (ad 29), .ref (ad 30)]))]) s.heap s.heap [] := va_S.rf
  have hP : va_P D vwCl [(ad 20, .inr (5, [.int th, .int (nI (gV g)), .int (nI (gC g)), .int (nI (gE g)), .ref (ad 21), .ref (ad 22), .ref (ad 23), .ref (ad 24), .ref (ad 25), .int kn, .ref (ad 26), .ref (ad 27), .ref (ad 28), .int ms, .ref (ad 29), .ref (ad 30)]))] s.heap := hP
  have inX6 : ∀ w ∈ wsX60, w ∈ wsX6_weigh := by decide +kernel
  have hl := lv_entry ([.ref (ad 20), .int x, .int y]) (n := 3) (Nat.le_of_ble_eq_true rfl)
  rw [lg_entry_eq]
  generalize (lg_sl ([.ref (ad 20), .int x, .int y]) ++ List.replicate (3 - (lg_sl ([.ref (ad 20), .int x, .int y])).length) Slot.unset).toArray = ls at hl ⊢
  have hl : lv_has ls 3 [(0, .ref (ad 20)), (1, .int x), (2, .int y)] := hl
  have hgen := True.intro
  have hE := hg.2.2.1
  have hV := hg.1
  have hC := hg.2.1
  refine lv_aload_n hx hb dX6_weigh_0 rfl (lv_at hl 0 rfl) ?_
  refine lv_iload_n hx hb dX6_weigh_1 rfl (lv_at hl 1 rfl) ?_
  refine lv_if_lt (tgt := 13) hx hb dX6_weigh_2 (by decide) (fun c2 => ?_) (fun c2 => ?_)
  · exact absurd h1 (by first | (rw [isN_f0 c2]; decide) | (rw [isN_f1 (by omega) (le_of_nlt c10)]; decide))
  · refine lv_iload_n hx hb dX6_weigh_5 rfl (lv_at hl 1 rfl) ?_
    refine lv_aload_n hx hb dX6_weigh_6 rfl (lv_at hl 0 rfl) ?_
    refine va_get (D := D) (ci := 5) (v := .int (nI (gE g))) (C := RX6) (T := TX6) (N := 16) hx hb hts inX6 hown hK.1 hP 0 rfl rfl 3 (by decide) (hts (.fieldLink RX6 56 "ColourForestsModel" "edges" "I") (List.mem_of_getElem? (i := 1) rfl)) (fun _ h9 => h9) rfl dX6_weigh_7 ?_
    refine lv_icmp_lt (tgt := 17) hx hb dX6_weigh_10 (by decide) (fun c10 => ?_) (fun c10 => ?_)
    · refine lv_iload_n hx hb dX6_weigh_17 rfl (lv_at hl 2 rfl) ?_
      refine pu_call (va_runS (As := [.int y]) (rest := [.ref (ad 20)]) ⟨hx, hb, hml, hown, hts⟩ (c_X6_isHeavy l D cy y) (va_cwS 1 hts gX6_weigh_X6_isHeavy rfl rfl rfl (by decide +kernel) ⟨Nat.le_of_ble_eq_true rfl, Nat.le_of_ble_eq_true rfl⟩) (PU_preS hK hP [] rfl) rfl rfl hl.1 rfl (lv_room (Nat.le_of_ble_eq_true rfl)) dX6_weigh_18 ⟨(Nat.zero_le _), (Nat.zero_le _)⟩) hS hP (fun H locs hP hS => ?_)
      refine b_eq (b := (!isW y)) (tgt := 28) hx hb dX6_weigh_21 (by decide) (fun c21 => ?_) (fun c21 => ?_)
      · exact absurd c21 (by rw [h]; decide)
      · refine lv_iconst (v := nI 2) hx hb dX6_weigh_24 (by decide) ?_
        refine lv_goto (tgt := 29) hx hb dX6_weigh_25 (by decide) ?_
        refine wr_calli [0] (va_runV (As := [.int (nI 2)]) (rest := []) ⟨hx, hb, hml, hown, hts⟩ (c_X6_refuses l D cy ad g th kn ms ((nI 2))) (cwV 1 hts gX6_weigh_X6_refuses rfl rfl rfl (by decide +kernel) ⟨Nat.le_of_ble_eq_true rfl, Nat.le_of_ble_eq_true rfl⟩) (WR_preV (ci := 5) (q0 := 0) hK hP hD rfl rfl [0] (by decide) rfl rfl) rfl rfl hl.1 rfl (lv_room (Nat.le_of_ble_eq_true rfl)) dX6_weigh_29 ⟨(Nat.zero_le _), (Nat.zero_le _)⟩) hS hP hD rfl (fun _ => rfl) (fun _ => rfl) (fun r29 u29 H locs w29 hP hD hS => ?_)
        refine lv_as (y := bI true) (by rw [w29]; first | rfl | decide) ?_
        have hP : va_P D vwCl [(ad 20, .inr (5, [.int (nI 2), .int (nI (gV g)), .int (nI (gC g)), .int (nI (gE g)), .ref (ad 21), .ref (ad 22), .ref (ad 23), .ref (ad 24), .ref (ad 25), .int kn, .ref (ad 26), .ref (ad 27), .ref (ad 28), .int ms, .ref (ad 29), .ref (ad 30)]))] H := hP
        have hD : va_D (inW [(ad 20, .inr (5, [.int th, .int (nI (gV g)), .int (nI (gC g)), .int (nI (gE g)), .ref (ad 21), .ref (ad 22), .ref (ad 23), .ref (ad 24), .ref (ad 25), .int kn, .ref (ad 26), .ref (ad 27), .ref (ad 28), .int ms, .ref (ad 29), .ref (ad 30)]))]) [(ad 20, .inr (5, [.int (nI 2), .int (nI (gV g)), .int (nI (gC g)), .int (nI (gE g)), .ref (ad 21), .ref (ad 22), .ref (ad 23), .ref (ad 24), .ref (ad 25), .int kn, .ref (ad 26), .ref (ad 27), .ref (ad 28), .int ms, .ref (ad 29), .ref (ad 30)]))] := hD
        refine b_ne (b := true) (tgt := 47) hx hb dX6_weigh_32 (by decide) (fun c32 => ?_) (fun c32 => ?_)
        · exact wv_ret () hx hb hr hlocks hS hP trivial dX6_weigh_47
        · cases c32
    · exact absurd h1 (by first | (rw [isN_f0 c2]; decide) | (rw [isN_f1 (by omega) (le_of_nlt c10)]; decide))

set_option maxHeartbeats 4000000 in
set_option maxRecDepth 100000 in
theorem c_X6_weigh_0 (l : Launch) (D : va_G) (cy : Nat → ClassId) (ad : Nat → Nat) {g : GT} (hg : gOK g) (th kn ms : Int32) {e : Nat} {w : Int} (he : e < gE g) (hw : -9999 ≤ w ∧ w ≤ 9999) : WV l yX6_weigh wsX6_weigh ({ frames := 1, cells := 0, slots := 0, locals := 21 }) D cy [.ref (ad 20), .int (nI e), .int (zI w)] [(ad 20, .inr (5, [.int th, .int (nI (gV g)), .int (nI (gC g)), .int (nI (gE g)), .ref (ad 21), .ref (ad 22), .ref (ad 23), .ref (ad 24), .ref (ad 25), .int kn, .ref (ad 26), .ref (ad 27), .ref (ad 28), .int ms, .ref (ad 29), .ref (ad 30)])), (ad 25, .inl (cy 0, 14, .inl (fun i => zI (gW g i))))] (fun _ : Unit => True) (fun _ : Unit => [(ad 20, .inr (5, [.int (nI 0), .int (nI (gV (weG e w g))), .int (nI (gC (weG e w g))), .int (nI (gE (weG e w g))), .ref (ad 21), .ref (ad 22), .ref (ad 23), .ref (ad 24), .ref (ad 25), .int (bI false), .ref (ad 26), .ref (ad 27), .ref (ad 28), .int ms, .ref (ad 29), .ref (ad 30)])), (ad 25, .inl (cy 0, 14, .inl (fun i => zI (gW (weG e w g) i))))]) := by
  refine Met.ofW (cc := cX6_weigh) (maxL := 3) (ret := none) (by decide) rfl ?_
  intro p ev s m args below meth c s₁ B hml hv
  obtain ⟨rfl, ⟨hK, hP⟩, hD0⟩ := hv
  have hx := B.exec
  have hb := B.bytes
  have hr := B.returns
  have hts := atoms_spec (ws := wsX6_weigh) B.pre
  have hown : s.vm.findClass RX6 = some m.cls := findClass_of_methodNamed B.named
  have hlocks := B.notSynchronized
  have hD : va_D (inW [(ad 20, .inr (5, [.int th, .int (nI (gV g)), .int (nI (gC g)), .int (nI (gE g)), .ref (ad 21), .ref (ad 22), .ref (ad 23), .ref (ad 24), .ref (ad 25), .int kn, .ref (ad 26), .ref (ad 27), .ref (ad 28), .int ms, .ref (ad 29), .ref (ad 30)])), (ad 25, .inl (cy 0, 14, .inl (fun i => zI (gW g i))))]) ([(ad 20, .inr (5, [.int th, .int (nI (gV g)), .int (nI (gC g)), .int (nI (gE g)), .ref (ad 21), .ref (ad 22), .ref (ad 23), .ref (ad 24), .ref (ad 25), .int kn, .ref (ad 26), .ref (ad 27), .ref (ad 28), .int ms, .ref (ad 29), .ref (ad 30)])), (ad 25, .inl (cy 0, 14, .inl (fun i => zI (gW g i))))]) := inW_self hD0
  have hS : va_S (inW [(ad 20, .inr (5, [.int th, .int (nI (gV g)), .int (nI (gC g)), .int (nI (gE g)), .ref (ad 21), .ref (ad 22), .ref (ad 23), .ref (ad 24), .ref (ad 25), .int kn, .ref (ad 26), .ref (ad 27), .ref (ad 28), .int ms, .ref (ad 29), .ref (ad 30)])), (ad 25, .inl (cy 0, 14, .inl (fun i => zI (gW g i))))]) s.heap s.heap [] := va_S.rf
  have hP : va_P D vwCl [(ad 20, .inr (5, [.int th, .int (nI (gV g)), .int (nI (gC g)), .int (nI (gE g)), .ref (ad 21), .ref (ad 22), .ref (ad 23), .ref (ad 24), .ref (ad 25), .int kn, .ref (ad 26), .ref (ad 27), .ref (ad 28), .int ms, .ref (ad 29), .ref (ad 30)])), (ad 25, .inl (cy 0, 14, .inl (fun i => zI (gW g i))))] s.heap := hP
  have inX6 : ∀ w ∈ wsX60, w ∈ wsX6_weigh := by decide +kernel
  have hl := lv_entry ([.ref (ad 20), .int (nI e), .int (zI w)]) (n := 3) (Nat.le_of_ble_eq_true rfl)
  rw [lg_entry_eq]
  generalize (lg_sl ([.ref (ad 20), .int (nI e), .int (zI w)]) ++ List.replicate (3 - (lg_sl ([.ref (ad 20), .int (nI e), .int (zI w)])).length) Slot.unset).toArray = ls at hl ⊢
  have hl : lv_has ls 3 [(0, .ref (ad 20)), (1, .int (nI e)), (2, .int (zI w))] := hl
  have hgen := True.intro
  have hE := hg.2.2.1
  have hV := hg.1
  have hC := hg.2.1
  refine lv_aload_n hx hb dX6_weigh_0 rfl (lv_at hl 0 rfl) ?_
  refine lv_iload_n hx hb dX6_weigh_1 rfl (lv_at hl 1 rfl) ?_
  refine lv_if_lt (tgt := 13) hx hb dX6_weigh_2 (by decide) (fun c2 => ?_) (fun c2 => ?_)
  · exact absurd c2 (nlt0 (by omega))
  · refine lv_iload_n hx hb dX6_weigh_5 rfl (lv_at hl 1 rfl) ?_
    refine lv_aload_n hx hb dX6_weigh_6 rfl (lv_at hl 0 rfl) ?_
    refine va_get (D := D) (ci := 5) (v := .int (nI (gE g))) (C := RX6) (T := TX6) (N := 16) hx hb hts inX6 hown hK.1 hP 0 rfl rfl 3 (by decide) (hts (.fieldLink RX6 56 "ColourForestsModel" "edges" "I") (List.mem_of_getElem? (i := 1) rfl)) (fun _ h9 => h9) rfl dX6_weigh_7 ?_
    refine n_lt (a := e) (b := (gE g)) (tgt := 17) hx hb dX6_weigh_10 (by decide) (by omega) (by omega) (fun c10 => ?_) (fun c10 => ?_)
    · refine lv_iload_n hx hb dX6_weigh_17 rfl (lv_at hl 2 rfl) ?_
      refine pu_call (va_runS (As := [.int (zI w)]) (rest := [.ref (ad 20)]) ⟨hx, hb, hml, hown, hts⟩ (c_X6_isHeavy l D cy ((zI w))) (va_cwS 1 hts gX6_weigh_X6_isHeavy rfl rfl rfl (by decide +kernel) ⟨Nat.le_of_ble_eq_true rfl, Nat.le_of_ble_eq_true rfl⟩) (PU_preS hK hP [] rfl) rfl rfl hl.1 rfl (lv_room (Nat.le_of_ble_eq_true rfl)) dX6_weigh_18 ⟨(Nat.zero_le _), (Nat.zero_le _)⟩) hS hP (fun H locs hP hS => ?_)
      refine b_eq (b := (!isW ((zI w)))) (tgt := 28) hx hb dX6_weigh_21 (by decide) (fun c21 => ?_) (fun c21 => ?_)
      · refine lv_iconst (v := nI 0) hx hb dX6_weigh_28 (by decide) ?_
        refine wr_calli [0] (va_runV (As := [.int (nI 0)]) (rest := []) ⟨hx, hb, hml, hown, hts⟩ (c_X6_refuses l D cy ad g th kn ms ((nI 0))) (cwV 1 hts gX6_weigh_X6_refuses rfl rfl rfl (by decide +kernel) ⟨Nat.le_of_ble_eq_true rfl, Nat.le_of_ble_eq_true rfl⟩) (WR_preV (ci := 5) (q0 := 0) hK hP hD rfl rfl [0] (by decide) rfl rfl) rfl rfl hl.1 rfl (lv_room (Nat.le_of_ble_eq_true rfl)) dX6_weigh_29 ⟨(Nat.zero_le _), (Nat.zero_le _)⟩) hS hP hD rfl (fun _ => rfl) (fun _ => rfl) (fun r29 u29 H locs w29 hP hD hS => ?_)
        refine lv_as (y := bI false) (by rw [w29]; first | rfl | decide) ?_
        have hP : va_P D vwCl [(ad 20, .inr (5, [.int (nI 0), .int (nI (gV g)), .int (nI (gC g)), .int (nI (gE g)), .ref (ad 21), .ref (ad 22), .ref (ad 23), .ref (ad 24), .ref (ad 25), .int kn, .ref (ad 26), .ref (ad 27), .ref (ad 28), .int ms, .ref (ad 29), .ref (ad 30)])), (ad 25, .inl (cy 0, 14, .inl (fun i => zI (gW g i))))] H := hP
        have hD : va_D (inW [(ad 20, .inr (5, [.int th, .int (nI (gV g)), .int (nI (gC g)), .int (nI (gE g)), .ref (ad 21), .ref (ad 22), .ref (ad 23), .ref (ad 24), .ref (ad 25), .int kn, .ref (ad 26), .ref (ad 27), .ref (ad 28), .int ms, .ref (ad 29), .ref (ad 30)])), (ad 25, .inl (cy 0, 14, .inl (fun i => zI (gW g i))))]) [(ad 20, .inr (5, [.int (nI 0), .int (nI (gV g)), .int (nI (gC g)), .int (nI (gE g)), .ref (ad 21), .ref (ad 22), .ref (ad 23), .ref (ad 24), .ref (ad 25), .int kn, .ref (ad 26), .ref (ad 27), .ref (ad 28), .int ms, .ref (ad 29), .ref (ad 30)])), (ad 25, .inl (cy 0, 14, .inl (fun i => zI (gW g i))))] := hD
        refine b_ne (b := false) (tgt := 47) hx hb dX6_weigh_32 (by decide) (fun c32 => ?_) (fun c32 => ?_)
        · cases c32
        · refine lv_aload_n hx hb dX6_weigh_35 rfl (lv_at hl 0 rfl) ?_
          refine va_get (D := D) (ci := 5) (v := .ref (ad 25)) (C := RX6) (T := TX6) (N := 16) hx hb hts inX6 hown hK.1 hP 0 rfl rfl 8 (by decide) (hts (.fieldLink RX6 29 "ColourForestsModel" "weights" "[I") (List.mem_of_getElem? (i := 2) rfl)) (fun _ h9 => h9) rfl dX6_weigh_36 ?_
          refine lv_iload_n hx hb dX6_weigh_39 rfl (lv_at hl 1 rfl) ?_
          refine lv_iload_n hx hb dX6_weigh_40 rfl (lv_at hl 2 rfl) ?_
          refine st_i (k := e) (g := (fun i => zI (upZ (gW g) e w i))) hx hb hK hP hD hS 1 rfl (by omega) (by decide) (upd_zI _ _ _) dX6_weigh_41 (fun H locs hP hD hS => ?_)
          have hP : va_P D vwCl [(ad 20, .inr (5, [.int (nI 0), .int (nI (gV g)), .int (nI (gC g)), .int (nI (gE g)), .ref (ad 21), .ref (ad 22), .ref (ad 23), .ref (ad 24), .ref (ad 25), .int kn, .ref (ad 26), .ref (ad 27), .ref (ad 28), .int ms, .ref (ad 29), .ref (ad 30)])), (ad 25, .inl (cy 0, 14, .inl (fun i => zI (upZ (gW g) e w i))))] H := hP
          have hD : va_D (inW [(ad 20, .inr (5, [.int th, .int (nI (gV g)), .int (nI (gC g)), .int (nI (gE g)), .ref (ad 21), .ref (ad 22), .ref (ad 23), .ref (ad 24), .ref (ad 25), .int kn, .ref (ad 26), .ref (ad 27), .ref (ad 28), .int ms, .ref (ad 29), .ref (ad 30)])), (ad 25, .inl (cy 0, 14, .inl (fun i => zI (gW g i))))]) [(ad 20, .inr (5, [.int (nI 0), .int (nI (gV g)), .int (nI (gC g)), .int (nI (gE g)), .ref (ad 21), .ref (ad 22), .ref (ad 23), .ref (ad 24), .ref (ad 25), .int kn, .ref (ad 26), .ref (ad 27), .ref (ad 28), .int ms, .ref (ad 29), .ref (ad 30)])), (ad 25, .inl (cy 0, 14, .inl (fun i => zI (upZ (gW g) e w i))))] := hD
          refine lv_aload_n hx hb dX6_weigh_42 rfl (lv_at hl 0 rfl) ?_
          refine lv_iconst (v := nI 0) hx hb dX6_weigh_43 (by decide) ?_
          refine va_put (D := D) (ci := 5) (v := .int (nI 0)) (ty := .boolean) (C := RX6) (T := TX6) (N := 16) hx hb hts inX6 tyX6 tyX6_ok nmX6 hown hK.1 hP hD hS 0 rfl rfl 9 (by decide) (hts (.fieldLink RX6 59 "ColourForestsModel" "known" "Z") (List.mem_of_getElem? (i := 3) rfl)) (fun _ h9 => h9) rfl (by decide +kernel) (by decide) rfl (Nat.le_of_ble_eq_true rfl) dX6_weigh_44 (fun H locs hP hD hS => ?_)
          have hP : va_P D vwCl [(ad 20, .inr (5, [.int (nI 0), .int (nI (gV g)), .int (nI (gC g)), .int (nI (gE g)), .ref (ad 21), .ref (ad 22), .ref (ad 23), .ref (ad 24), .ref (ad 25), .int (nI 0), .ref (ad 26), .ref (ad 27), .ref (ad 28), .int ms, .ref (ad 29), .ref (ad 30)])), (ad 25, .inl (cy 0, 14, .inl (fun i => zI (upZ (gW g) e w i))))] H := hP
          have hD : va_D (inW [(ad 20, .inr (5, [.int th, .int (nI (gV g)), .int (nI (gC g)), .int (nI (gE g)), .ref (ad 21), .ref (ad 22), .ref (ad 23), .ref (ad 24), .ref (ad 25), .int kn, .ref (ad 26), .ref (ad 27), .ref (ad 28), .int ms, .ref (ad 29), .ref (ad 30)])), (ad 25, .inl (cy 0, 14, .inl (fun i => zI (gW g i))))]) [(ad 20, .inr (5, [.int (nI 0), .int (nI (gV g)), .int (nI (gC g)), .int (nI (gE g)), .ref (ad 21), .ref (ad 22), .ref (ad 23), .ref (ad 24), .ref (ad 25), .int (nI 0), .ref (ad 26), .ref (ad 27), .ref (ad 28), .int ms, .ref (ad 29), .ref (ad 30)])), (ad 25, .inl (cy 0, 14, .inl (fun i => zI (upZ (gW g) e w i))))] := hD
          exact wv_ret () hx hb hr hlocks hS hP trivial dX6_weigh_47
      · exact absurd c21 (by rw [isW_z hw]; decide)
    · exact absurd c10 (by omega)
set_option maxHeartbeats 4000000 in
set_option maxRecDepth 100000 in
theorem c_X6_learn (l : Launch) (D : va_G) (cy : Nat → ClassId) (ad : Nat → Nat) {g : GT} (hg : gOK g) (th : Int32) {kb : Bool} {ms : Int32} {ff fr_ fb fp fc : Nat → Int32} (hv : kb = true → lrF g (2 ^ gE g) ff ∧ lrR g (2 ^ gE g) fr_ ∧ lrB g (2 ^ gE g) fb ∧ ms = nI (mo g (2 ^ gE g))) : WV l yX6_learn wsX6_learn ({ frames := 2, cells := 0, slots := 0, locals := 46 }) D cy [.ref (ad 20)] (wM cy ad g th (bI kb) ms ff fr_ fb fp fc) (fun u : (Nat → Int32) × (Nat → Int32) × (Nat → Int32) × (Nat → Int32) × (Nat → Int32) => lrF g (2 ^ gE g) u.1 ∧ lrR g (2 ^ gE g) u.2.1 ∧ lrB g (2 ^ gE g) u.2.2.1) (fun u : (Nat → Int32) × (Nat → Int32) × (Nat → Int32) × (Nat → Int32) × (Nat → Int32) => wM cy ad g th (bI true) (nI (mo g (2 ^ gE g))) u.1 u.2.1 u.2.2.1 u.2.2.2.1 u.2.2.2.2) := by
  refine Met.ofW (cc := cX6_learn) (maxL := 6) (ret := none) (by decide) rfl ?_
  intro p ev s m args below meth c s₁ B hml hv
  obtain ⟨rfl, ⟨hK, hP⟩, hD0⟩ := hv
  have hx := B.exec
  have hb := B.bytes
  have hr := B.returns
  have hts := atoms_spec (ws := wsX6_learn) B.pre
  have hown : s.vm.findClass RX6 = some m.cls := findClass_of_methodNamed B.named
  have hlocks := B.notSynchronized
  have hD : va_D (inW (wM cy ad g th (bI kb) ms ff fr_ fb fp fc)) (wM cy ad g th (bI kb) ms ff fr_ fb fp fc) := inW_self hD0
  have hS : va_S (inW (wM cy ad g th (bI kb) ms ff fr_ fb fp fc)) s.heap s.heap [] := va_S.rf
  have hP : va_P D vwCl (wM cy ad g th (bI kb) ms ff fr_ fb fp fc) s.heap := hP
  have inX6 : ∀ w ∈ wsX60, w ∈ wsX6_learn := by decide +kernel
  have hl := lv_entry ([.ref (ad 20)]) (n := 6) (Nat.le_of_ble_eq_true rfl)
  rw [lg_entry_eq]
  generalize (lg_sl ([.ref (ad 20)]) ++ List.replicate (6 - (lg_sl ([.ref (ad 20)])).length) Slot.unset).toArray = ls at hl ⊢
  have hl : lv_has ls 6 [(0, .ref (ad 20))] := hl
  have hgen := True.intro
  have hE := hg.2.2.1
  have hV := hg.1
  have hC := hg.2.1
  have hS8 : 2 ^ gE g ≤ 2 ^ 14 := Nat.pow_le_pow_right (by decide) hE
  refine lv_aload_n hx hb dX6_learn_0 rfl (lv_at hl 0 rfl) ?_
  refine va_get (D := D) (ci := 5) (v := .int (bI kb)) (C := RX6) (T := TX6) (N := 16) hx hb hts inX6 hown hK.1 hP 0 rfl rfl 9 (by decide) (hts (.fieldLink RX6 59 "ColourForestsModel" "known" "Z") (List.mem_of_getElem? (i := 1) rfl)) (fun _ h9 => h9) rfl dX6_learn_1 ?_
  refine b_eq (b := kb) (tgt := 8) hx hb dX6_learn_4 (by decide) (fun c4 => ?_) (fun c4 => ?_)
  · refine lv_aload_n hx hb dX6_learn_8 rfl (lv_at hl 0 rfl) ?_
    refine lv_iconst (v := nI 1) hx hb dX6_learn_9 (by decide) ?_
    refine va_put (D := D) (ci := 5) (v := .int (nI 1)) (ty := .boolean) (C := RX6) (T := TX6) (N := 16) hx hb hts inX6 tyX6 tyX6_ok nmX6 hown hK.1 hP hD hS 0 rfl rfl 9 (by decide) (hts (.fieldLink RX6 59 "ColourForestsModel" "known" "Z") (List.mem_of_getElem? (i := 1) rfl)) (fun _ h9 => h9) rfl (by decide +kernel) (by decide) rfl (Nat.le_of_ble_eq_true rfl) dX6_learn_10 (fun H locs hP hD hS => ?_)
    have hP : va_P D vwCl [(ad 20, .inr (5, [.int th, .int (nI (gV g)), .int (nI (gC g)), .int (nI (gE g)), .ref (ad 21), .ref (ad 22), .ref (ad 23), .ref (ad 24), .ref (ad 25), .int (nI 1), .ref (ad 26), .ref (ad 27), .ref (ad 28), .int ms, .ref (ad 29), .ref (ad 30)])), (ad 21, .inl (cy 0, 6, .inl (fun i => nI (gL g i)))), (ad 22, .inl (cy 0, 14, .inl (fun i => nI (gF g i)))), (ad 23, .inl (cy 0, 14, .inl (fun i => nI (gS g i)))), (ad 24, .inl (cy 0, 14, .inl (fun i => nI (gH g i)))), (ad 25, .inl (cy 0, 14, .inl (fun i => zI (gW g i)))), (ad 26, .inl (cy 1, 32768, .inl ff)), (ad 27, .inl (cy 0, 32768, .inl fr_)), (ad 28, .inl (cy 0, 15, .inl fb)), (ad 29, .inl (cy 0, 8, .inl fp)), (ad 30, .inl (cy 0, 6, .inl fc))] H := hP
    have hD : va_D (inW (wM cy ad g th (bI kb) ms ff fr_ fb fp fc)) [(ad 20, .inr (5, [.int th, .int (nI (gV g)), .int (nI (gC g)), .int (nI (gE g)), .ref (ad 21), .ref (ad 22), .ref (ad 23), .ref (ad 24), .ref (ad 25), .int (nI 1), .ref (ad 26), .ref (ad 27), .ref (ad 28), .int ms, .ref (ad 29), .ref (ad 30)])), (ad 21, .inl (cy 0, 6, .inl (fun i => nI (gL g i)))), (ad 22, .inl (cy 0, 14, .inl (fun i => nI (gF g i)))), (ad 23, .inl (cy 0, 14, .inl (fun i => nI (gS g i)))), (ad 24, .inl (cy 0, 14, .inl (fun i => nI (gH g i)))), (ad 25, .inl (cy 0, 14, .inl (fun i => zI (gW g i)))), (ad 26, .inl (cy 1, 32768, .inl ff)), (ad 27, .inl (cy 0, 32768, .inl fr_)), (ad 28, .inl (cy 0, 15, .inl fb)), (ad 29, .inl (cy 0, 8, .inl fp)), (ad 30, .inl (cy 0, 6, .inl fc))] := hD
    refine lv_aload_n hx hb dX6_learn_13 rfl (lv_at hl 0 rfl) ?_
    refine lv_iconst (v := nI 0) hx hb dX6_learn_14 (by decide) ?_
    refine va_put (D := D) (ci := 5) (v := .int (nI 0)) (ty := .int) (C := RX6) (T := TX6) (N := 16) hx hb hts inX6 tyX6 tyX6_ok nmX6 hown hK.1 hP hD hS 0 rfl rfl 13 (by decide) (hts (.fieldLink RX6 70 "ColourForestsModel" "most" "I") (List.mem_of_getElem? (i := 2) rfl)) (fun _ h9 => h9) rfl (by decide +kernel) rfl rfl (Nat.le_of_ble_eq_true rfl) dX6_learn_15 (fun H locs hP hD hS => ?_)
    have hP : va_P D vwCl [(ad 20, .inr (5, [.int th, .int (nI (gV g)), .int (nI (gC g)), .int (nI (gE g)), .ref (ad 21), .ref (ad 22), .ref (ad 23), .ref (ad 24), .ref (ad 25), .int (nI 1), .ref (ad 26), .ref (ad 27), .ref (ad 28), .int (nI 0), .ref (ad 29), .ref (ad 30)])), (ad 21, .inl (cy 0, 6, .inl (fun i => nI (gL g i)))), (ad 22, .inl (cy 0, 14, .inl (fun i => nI (gF g i)))), (ad 23, .inl (cy 0, 14, .inl (fun i => nI (gS g i)))), (ad 24, .inl (cy 0, 14, .inl (fun i => nI (gH g i)))), (ad 25, .inl (cy 0, 14, .inl (fun i => zI (gW g i)))), (ad 26, .inl (cy 1, 32768, .inl ff)), (ad 27, .inl (cy 0, 32768, .inl fr_)), (ad 28, .inl (cy 0, 15, .inl fb)), (ad 29, .inl (cy 0, 8, .inl fp)), (ad 30, .inl (cy 0, 6, .inl fc))] H := hP
    have hD : va_D (inW (wM cy ad g th (bI kb) ms ff fr_ fb fp fc)) [(ad 20, .inr (5, [.int th, .int (nI (gV g)), .int (nI (gC g)), .int (nI (gE g)), .ref (ad 21), .ref (ad 22), .ref (ad 23), .ref (ad 24), .ref (ad 25), .int (nI 1), .ref (ad 26), .ref (ad 27), .ref (ad 28), .int (nI 0), .ref (ad 29), .ref (ad 30)])), (ad 21, .inl (cy 0, 6, .inl (fun i => nI (gL g i)))), (ad 22, .inl (cy 0, 14, .inl (fun i => nI (gF g i)))), (ad 23, .inl (cy 0, 14, .inl (fun i => nI (gS g i)))), (ad 24, .inl (cy 0, 14, .inl (fun i => nI (gH g i)))), (ad 25, .inl (cy 0, 14, .inl (fun i => zI (gW g i)))), (ad 26, .inl (cy 1, 32768, .inl ff)), (ad 27, .inl (cy 0, 32768, .inl fr_)), (ad 28, .inl (cy 0, 15, .inl fb)), (ad 29, .inl (cy 0, 8, .inl fp)), (ad 30, .inl (cy 0, 6, .inl fc))] := hD
    refine lv_iconst (v := nI 0) hx hb dX6_learn_18 (by decide) ?_
    refine lv_istore_n (lv' := [(1, .int (nI 0)), (0, .ref (ad 20))]) hx hb dX6_learn_19 rfl hl (by decide) rfl (fun ls hl => ?_)
    have L20 : ∀ (n : Nat) (k9 : Nat) (q : Nat → Int32), k9 ≤ 15 ∧ 16 ≤ k9 + n → (∀ j, j < k9 → q j = zI (-1)) → ∀ (H : Heap) (locs : List Loc), va_P D vwCl [(ad 20, .inr (5, [.int th, .int (nI (gV g)), .int (nI (gC g)), .int (nI (gE g)), .ref (ad 21), .ref (ad 22), .ref (ad 23), .ref (ad 24), .ref (ad 25), .int (bI true), .ref (ad 26), .ref (ad 27), .ref (ad 28), .int (nI 0), .ref (ad 29), .ref (ad 30)])), (ad 21, .inl (cy 0, 6, .inl (fun i => nI (gL g i)))), (ad 22, .inl (cy 0, 14, .inl (fun i => nI (gF g i)))), (ad 23, .inl (cy 0, 14, .inl (fun i => nI (gS g i)))), (ad 24, .inl (cy 0, 14, .inl (fun i => nI (gH g i)))), (ad 25, .inl (cy 0, 14, .inl (fun i => zI (gW g i)))), (ad 26, .inl (cy 1, 32768, .inl ff)), (ad 27, .inl (cy 0, 32768, .inl fr_)), (ad 28, .inl (cy 0, 15, .inl q)), (ad 29, .inl (cy 0, 8, .inl fp)), (ad 30, .inl (cy 0, 6, .inl fc))] H → va_D (inW (wM cy ad g th (bI kb) ms ff fr_ fb fp fc)) [(ad 20, .inr (5, [.int th, .int (nI (gV g)), .int (nI (gC g)), .int (nI (gE g)), .ref (ad 21), .ref (ad 22), .ref (ad 23), .ref (ad 24), .ref (ad 25), .int (bI true), .ref (ad 26), .ref (ad 27), .ref (ad 28), .int (nI 0), .ref (ad 29), .ref (ad 30)])), (ad 21, .inl (cy 0, 6, .inl (fun i => nI (gL g i)))), (ad 22, .inl (cy 0, 14, .inl (fun i => nI (gF g i)))), (ad 23, .inl (cy 0, 14, .inl (fun i => nI (gS g i)))), (ad 24, .inl (cy 0, 14, .inl (fun i => nI (gH g i)))), (ad 25, .inl (cy 0, 14, .inl (fun i => zI (gW g i)))), (ad 26, .inl (cy 1, 32768, .inl ff)), (ad 27, .inl (cy 0, 32768, .inl fr_)), (ad 28, .inl (cy 0, 15, .inl q)), (ad 29, .inl (cy 0, 8, .inl fp)), (ad 30, .inl (cy 0, 6, .inl fc))] → va_S (inW (wM cy ad g th (bI kb) ms ff fr_ fb fp fc)) s.heap H locs → ∀ (ls : Array Slot), lv_has ls 6 [(0, .ref (ad 20)), (1, .int (nI k9))] → W p l ev (headSpec wsX6_learn ({ frames := 2, cells := 0, slots := 0, locals := 46 })).room s m [.ref (ad 20)].toArray below meth c H locs 0 0 (MQ below (va_Qv (fun u : (Nat → Int32) × (Nat → Int32) × (Nat → Int32) × (Nat → Int32) × (Nat → Int32) => lrF g (2 ^ gE g) u.1 ∧ lrR g (2 ^ gE g) u.2.1 ∧ lrB g (2 ^ gE g) u.2.2.1) (fun u t => va_P D vwCl ((fun u : (Nat → Int32) × (Nat → Int32) × (Nat → Int32) × (Nat → Int32) × (Nat → Int32) => wM cy ad g th (bI true) (nI (mo g (2 ^ gE g))) u.1 u.2.1 u.2.2.1 u.2.2.2.1 u.2.2.2.2) u) t.heap) (inW (wM cy ad g th (bI kb) ms ff fr_ fb fp fc))) [.ref (ad 20)].toArray s 0 0 (inW (wM cy ad g th (bI kb) ms ff fr_ fb fp fc))) (F0 m 20 ls []) := by
      intro n
      induction n with
      | zero =>
        intro k9 q hfuel hq H locs hP hD hS ls hl
        exact absurd hfuel.2 (by have := hfuel.1; omega)
      | succ n ih20 =>
        intro k9 q hfuel hq H locs hP hD hS ls hl
        obtain ⟨hfu1, hfu2⟩ := hfuel
        refine lv_iload_n hx hb dX6_learn_20 rfl (lv_at hl 1 rfl) ?_
        refine lv_bipush (v := nI 15) hx hb dX6_learn_21 (by decide) ?_
        refine n_ge (a := k9) (b := 15) (tgt := 39) hx hb dX6_learn_23 (by decide) (by omega) (by omega) (fun c23 => ?_) (fun c23 => ?_)
        · refine lv_iconst (v := nI 0) hx hb dX6_learn_39 (by decide) ?_
          refine lv_istore_n (lv' := [(1, .int (nI 0)), (0, .ref (ad 20))]) hx hb dX6_learn_40 rfl hl (by decide) rfl (fun ls hl => ?_)
          have L41 : ∀ (n : Nat) (sm : Nat) (ff : Nat → Int32) (fr_ : Nat → Int32) (fb : Nat → Int32) (fp : Nat → Int32) (fc : Nat → Int32), sm ≤ 2 ^ gE g ∧ 2 ^ gE g + 1 ≤ sm + n → lrF g sm ff → lrR g sm fr_ → lrB g sm fb → ∀ (H : Heap) (locs : List Loc), va_P D vwCl [(ad 20, .inr (5, [.int th, .int (nI (gV g)), .int (nI (gC g)), .int (nI (gE g)), .ref (ad 21), .ref (ad 22), .ref (ad 23), .ref (ad 24), .ref (ad 25), .int (bI true), .ref (ad 26), .ref (ad 27), .ref (ad 28), .int (nI (mo g sm)), .ref (ad 29), .ref (ad 30)])), (ad 21, .inl (cy 0, 6, .inl (fun i => nI (gL g i)))), (ad 22, .inl (cy 0, 14, .inl (fun i => nI (gF g i)))), (ad 23, .inl (cy 0, 14, .inl (fun i => nI (gS g i)))), (ad 24, .inl (cy 0, 14, .inl (fun i => nI (gH g i)))), (ad 25, .inl (cy 0, 14, .inl (fun i => zI (gW g i)))), (ad 26, .inl (cy 1, 32768, .inl ff)), (ad 27, .inl (cy 0, 32768, .inl fr_)), (ad 28, .inl (cy 0, 15, .inl fb)), (ad 29, .inl (cy 0, 8, .inl fp)), (ad 30, .inl (cy 0, 6, .inl fc))] H → va_D (inW (wM cy ad g th (bI kb) ms ff fr_ fb fp fc)) [(ad 20, .inr (5, [.int th, .int (nI (gV g)), .int (nI (gC g)), .int (nI (gE g)), .ref (ad 21), .ref (ad 22), .ref (ad 23), .ref (ad 24), .ref (ad 25), .int (bI true), .ref (ad 26), .ref (ad 27), .ref (ad 28), .int (nI (mo g sm)), .ref (ad 29), .ref (ad 30)])), (ad 21, .inl (cy 0, 6, .inl (fun i => nI (gL g i)))), (ad 22, .inl (cy 0, 14, .inl (fun i => nI (gF g i)))), (ad 23, .inl (cy 0, 14, .inl (fun i => nI (gS g i)))), (ad 24, .inl (cy 0, 14, .inl (fun i => nI (gH g i)))), (ad 25, .inl (cy 0, 14, .inl (fun i => zI (gW g i)))), (ad 26, .inl (cy 1, 32768, .inl ff)), (ad 27, .inl (cy 0, 32768, .inl fr_)), (ad 28, .inl (cy 0, 15, .inl fb)), (ad 29, .inl (cy 0, 8, .inl fp)), (ad 30, .inl (cy 0, 6, .inl fc))] → va_S (inW (wM cy ad g th (bI kb) ms ff fr_ fb fp fc)) s.heap H locs → ∀ (ls : Array Slot), lv_has ls 6 [(0, .ref (ad 20)), (1, .int (nI sm))] → W p l ev (headSpec wsX6_learn ({ frames := 2, cells := 0, slots := 0, locals := 46 })).room s m [.ref (ad 20)].toArray below meth c H locs 0 0 (MQ below (va_Qv (fun u : (Nat → Int32) × (Nat → Int32) × (Nat → Int32) × (Nat → Int32) × (Nat → Int32) => lrF g (2 ^ gE g) u.1 ∧ lrR g (2 ^ gE g) u.2.1 ∧ lrB g (2 ^ gE g) u.2.2.1) (fun u t => va_P D vwCl ((fun u : (Nat → Int32) × (Nat → Int32) × (Nat → Int32) × (Nat → Int32) × (Nat → Int32) => wM cy ad g th (bI true) (nI (mo g (2 ^ gE g))) u.1 u.2.1 u.2.2.1 u.2.2.2.1 u.2.2.2.2) u) t.heap) (inW (wM cy ad g th (bI kb) ms ff fr_ fb fp fc))) [.ref (ad 20)].toArray s 0 0 (inW (wM cy ad g th (bI kb) ms ff fr_ fb fp fc))) (F0 m 41 ls []) := by
            intro n
            induction n with
            | zero =>
              intro sm ff fr_ fb fp fc hfuel hF hR hB H locs hP hD hS ls hl
              exact absurd hfuel.2 (by have := hfuel.1; omega)
            | succ n ih41 =>
              intro sm ff fr_ fb fp fc hfuel hF hR hB H locs hP hD hS ls hl
              obtain ⟨hfu1, hfu2⟩ := hfuel
              refine lv_iload_n hx hb dX6_learn_41 rfl (lv_at hl 1 rfl) ?_
              refine lv_iconst (v := nI 1) hx hb dX6_learn_42 (by decide) ?_
              refine lv_aload_n hx hb dX6_learn_43 rfl (lv_at hl 0 rfl) ?_
              refine va_get (D := D) (ci := 5) (v := .int (nI (gE g))) (C := RX6) (T := TX6) (N := 16) hx hb hts inX6 hown hK.1 hP 0 rfl rfl 3 (by decide) (hts (.fieldLink RX6 56 "ColourForestsModel" "edges" "I") (List.mem_of_getElem? (i := 4) rfl)) (fun _ h9 => h9) rfl dX6_learn_44 ?_
              refine lv_ishl hx hb dX6_learn_47 ?_
              refine lv_as (y := (nI (2 ^ (gE g)))) (ni_bit (by omega)) ?_
              refine n_ge (a := sm) (b := (2 ^ (gE g))) (tgt := 301) hx hb dX6_learn_48 (by decide) (by omega) (by omega) (fun c48 => ?_) (fun c48 => ?_)
              · have hme : sm = 2 ^ gE g := by omega
                subst hme
                exact wv_ret (ff, fr_, fb, fp, fc) hx hb hr hlocks hS hP ⟨hF, hR, hB⟩ dX6_learn_301
              · refine lv_aload_n hx hb dX6_learn_51 rfl (lv_at hl 0 rfl) ?_
                refine va_get (D := D) (ci := 5) (v := .ref (ad 26)) (C := RX6) (T := TX6) (N := 16) hx hb hts inX6 hown hK.1 hP 0 rfl rfl 10 (by decide) (hts (.fieldLink RX6 33 "ColourForestsModel" "free" "[Z") (List.mem_of_getElem? (i := 5) rfl)) (fun _ h9 => h9) rfl dX6_learn_52 ?_
                refine lv_iload_n hx hb dX6_learn_55 rfl (lv_at hl 1 rfl) ?_
                refine lv_aload_n hx hb dX6_learn_56 rfl (lv_at hl 0 rfl) ?_
                refine lv_iload_n hx hb dX6_learn_57 rfl (lv_at hl 1 rfl) ?_
                refine wr_calli [0, 2, 3, 9] (va_runV (As := [.int (nI sm)]) (rest := [.int (nI sm), .ref (ad 26)]) ⟨hx, hb, hml, hown, hts⟩ (c_X6_hasNoRing l D cy ad hg th ((bI true)) ((nI (mo g sm))) fp (S := sm) (by omega)) (cwV 1 hts gX6_learn_X6_hasNoRing rfl rfl rfl (by decide +kernel) ⟨Nat.le_of_ble_eq_true rfl, Nat.le_of_ble_eq_true rfl⟩) (WR_preV (ci := 5) (q0 := 0) hK hP hD rfl rfl [0, 2, 3, 9] (by decide) rfl rfl) rfl rfl hl.1 rfl (lv_room (Nat.le_of_ble_eq_true rfl)) dX6_learn_58 ⟨(Nat.zero_le _), (Nat.zero_le _)⟩) hS hP hD rfl (fun _ => rfl) (fun _ => rfl) (fun r58 u58 H locs w58 hP hD hS => ?_)
                refine lv_as (y := bI (fr g sm)) w58 ?_
                have hP : va_P D vwCl [(ad 20, .inr (5, [.int th, .int (nI (gV g)), .int (nI (gC g)), .int (nI (gE g)), .ref (ad 21), .ref (ad 22), .ref (ad 23), .ref (ad 24), .ref (ad 25), .int (bI true), .ref (ad 26), .ref (ad 27), .ref (ad 28), .int (nI (mo g sm)), .ref (ad 29), .ref (ad 30)])), (ad 21, .inl (cy 0, 6, .inl (fun i => nI (gL g i)))), (ad 22, .inl (cy 0, 14, .inl (fun i => nI (gF g i)))), (ad 23, .inl (cy 0, 14, .inl (fun i => nI (gS g i)))), (ad 24, .inl (cy 0, 14, .inl (fun i => nI (gH g i)))), (ad 25, .inl (cy 0, 14, .inl (fun i => zI (gW g i)))), (ad 26, .inl (cy 1, 32768, .inl ff)), (ad 27, .inl (cy 0, 32768, .inl fr_)), (ad 28, .inl (cy 0, 15, .inl fb)), (ad 29, .inl (cy 0, 8, .inl u58)), (ad 30, .inl (cy 0, 6, .inl fc))] H := hP
                have hD : va_D (inW (wM cy ad g th (bI kb) ms ff fr_ fb fp fc)) [(ad 20, .inr (5, [.int th, .int (nI (gV g)), .int (nI (gC g)), .int (nI (gE g)), .ref (ad 21), .ref (ad 22), .ref (ad 23), .ref (ad 24), .ref (ad 25), .int (bI true), .ref (ad 26), .ref (ad 27), .ref (ad 28), .int (nI (mo g sm)), .ref (ad 29), .ref (ad 30)])), (ad 21, .inl (cy 0, 6, .inl (fun i => nI (gL g i)))), (ad 22, .inl (cy 0, 14, .inl (fun i => nI (gF g i)))), (ad 23, .inl (cy 0, 14, .inl (fun i => nI (gS g i)))), (ad 24, .inl (cy 0, 14, .inl (fun i => nI (gH g i)))), (ad 25, .inl (cy 0, 14, .inl (fun i => zI (gW g i)))), (ad 26, .inl (cy 1, 32768, .inl ff)), (ad 27, .inl (cy 0, 32768, .inl fr_)), (ad 28, .inl (cy 0, 15, .inl fb)), (ad 29, .inl (cy 0, 8, .inl u58)), (ad 30, .inl (cy 0, 6, .inl fc))] := hD
                refine st_z (k := sm) (g := (upd ff sm ((bI (fr g sm))))) hx hb hK hP hD hS 6 rfl (by omega) (by decide) rfl dX6_learn_61 (fun H locs hP hD hS => ?_)
                have hP : va_P D vwCl [(ad 20, .inr (5, [.int th, .int (nI (gV g)), .int (nI (gC g)), .int (nI (gE g)), .ref (ad 21), .ref (ad 22), .ref (ad 23), .ref (ad 24), .ref (ad 25), .int (bI true), .ref (ad 26), .ref (ad 27), .ref (ad 28), .int (nI (mo g sm)), .ref (ad 29), .ref (ad 30)])), (ad 21, .inl (cy 0, 6, .inl (fun i => nI (gL g i)))), (ad 22, .inl (cy 0, 14, .inl (fun i => nI (gF g i)))), (ad 23, .inl (cy 0, 14, .inl (fun i => nI (gS g i)))), (ad 24, .inl (cy 0, 14, .inl (fun i => nI (gH g i)))), (ad 25, .inl (cy 0, 14, .inl (fun i => zI (gW g i)))), (ad 26, .inl (cy 1, 32768, .inl (upd ff sm ((bI (fr g sm)))))), (ad 27, .inl (cy 0, 32768, .inl fr_)), (ad 28, .inl (cy 0, 15, .inl fb)), (ad 29, .inl (cy 0, 8, .inl u58)), (ad 30, .inl (cy 0, 6, .inl fc))] H := hP
                have hD : va_D (inW (wM cy ad g th (bI kb) ms ff fr_ fb fp fc)) [(ad 20, .inr (5, [.int th, .int (nI (gV g)), .int (nI (gC g)), .int (nI (gE g)), .ref (ad 21), .ref (ad 22), .ref (ad 23), .ref (ad 24), .ref (ad 25), .int (bI true), .ref (ad 26), .ref (ad 27), .ref (ad 28), .int (nI (mo g sm)), .ref (ad 29), .ref (ad 30)])), (ad 21, .inl (cy 0, 6, .inl (fun i => nI (gL g i)))), (ad 22, .inl (cy 0, 14, .inl (fun i => nI (gF g i)))), (ad 23, .inl (cy 0, 14, .inl (fun i => nI (gS g i)))), (ad 24, .inl (cy 0, 14, .inl (fun i => nI (gH g i)))), (ad 25, .inl (cy 0, 14, .inl (fun i => zI (gW g i)))), (ad 26, .inl (cy 1, 32768, .inl (upd ff sm ((bI (fr g sm)))))), (ad 27, .inl (cy 0, 32768, .inl fr_)), (ad 28, .inl (cy 0, 15, .inl fb)), (ad 29, .inl (cy 0, 8, .inl u58)), (ad 30, .inl (cy 0, 6, .inl fc))] := hD
                refine lv_aload_n hx hb dX6_learn_62 rfl (lv_at hl 0 rfl) ?_
                refine va_get (D := D) (ci := 5) (v := .ref (ad 26)) (C := RX6) (T := TX6) (N := 16) hx hb hts inX6 hown hK.1 hP 0 rfl rfl 10 (by decide) (hts (.fieldLink RX6 33 "ColourForestsModel" "free" "[Z") (List.mem_of_getElem? (i := 5) rfl)) (fun _ h9 => h9) rfl dX6_learn_63 ?_
                refine lv_sipush (v := nI 16384) hx hb dX6_learn_66 (by decide) ?_
                refine lv_iload_n hx hb dX6_learn_69 rfl (lv_at hl 1 rfl) ?_
                refine lv_iadd hx hb dX6_learn_70 ?_
                refine lv_as (y := (nI (16384 + sm))) (nI_add _ _) ?_
                refine lv_aload_n hx hb dX6_learn_71 rfl (lv_at hl 0 rfl) ?_
                refine lv_iload_n hx hb dX6_learn_72 rfl (lv_at hl 1 rfl) ?_
                refine wr_calli [0, 1, 4, 10] (va_runV (As := [.int (nI sm)]) (rest := [.int (nI (16384 + sm)), .ref (ad 26)]) ⟨hx, hb, hml, hown, hts⟩ (c_X6_keepsLimits l D cy ad hg th ((bI true)) ((nI (mo g sm))) fc (S := sm) (by omega)) (cwV 1 hts gX6_learn_X6_keepsLimits rfl rfl rfl (by decide +kernel) ⟨Nat.le_of_ble_eq_true rfl, Nat.le_of_ble_eq_true rfl⟩) (WR_preV (ci := 5) (q0 := 0) hK hP hD rfl rfl [0, 1, 4, 10] (by decide) rfl rfl) rfl rfl hl.1 rfl (lv_room (Nat.le_of_ble_eq_true rfl)) dX6_learn_73 ⟨(Nat.zero_le _), (Nat.zero_le _)⟩) hS hP hD rfl (fun _ => rfl) (fun _ => rfl) (fun r73 u73 H locs w73 hP hD hS => ?_)
                refine lv_as (y := bI (li g sm)) w73 ?_
                have hP : va_P D vwCl [(ad 20, .inr (5, [.int th, .int (nI (gV g)), .int (nI (gC g)), .int (nI (gE g)), .ref (ad 21), .ref (ad 22), .ref (ad 23), .ref (ad 24), .ref (ad 25), .int (bI true), .ref (ad 26), .ref (ad 27), .ref (ad 28), .int (nI (mo g sm)), .ref (ad 29), .ref (ad 30)])), (ad 21, .inl (cy 0, 6, .inl (fun i => nI (gL g i)))), (ad 22, .inl (cy 0, 14, .inl (fun i => nI (gF g i)))), (ad 23, .inl (cy 0, 14, .inl (fun i => nI (gS g i)))), (ad 24, .inl (cy 0, 14, .inl (fun i => nI (gH g i)))), (ad 25, .inl (cy 0, 14, .inl (fun i => zI (gW g i)))), (ad 26, .inl (cy 1, 32768, .inl (upd ff sm ((bI (fr g sm)))))), (ad 27, .inl (cy 0, 32768, .inl fr_)), (ad 28, .inl (cy 0, 15, .inl fb)), (ad 29, .inl (cy 0, 8, .inl u58)), (ad 30, .inl (cy 0, 6, .inl u73))] H := hP
                have hD : va_D (inW (wM cy ad g th (bI kb) ms ff fr_ fb fp fc)) [(ad 20, .inr (5, [.int th, .int (nI (gV g)), .int (nI (gC g)), .int (nI (gE g)), .ref (ad 21), .ref (ad 22), .ref (ad 23), .ref (ad 24), .ref (ad 25), .int (bI true), .ref (ad 26), .ref (ad 27), .ref (ad 28), .int (nI (mo g sm)), .ref (ad 29), .ref (ad 30)])), (ad 21, .inl (cy 0, 6, .inl (fun i => nI (gL g i)))), (ad 22, .inl (cy 0, 14, .inl (fun i => nI (gF g i)))), (ad 23, .inl (cy 0, 14, .inl (fun i => nI (gS g i)))), (ad 24, .inl (cy 0, 14, .inl (fun i => nI (gH g i)))), (ad 25, .inl (cy 0, 14, .inl (fun i => zI (gW g i)))), (ad 26, .inl (cy 1, 32768, .inl (upd ff sm ((bI (fr g sm)))))), (ad 27, .inl (cy 0, 32768, .inl fr_)), (ad 28, .inl (cy 0, 15, .inl fb)), (ad 29, .inl (cy 0, 8, .inl u58)), (ad 30, .inl (cy 0, 6, .inl u73))] := hD
                refine st_z (k := (16384 + sm)) (g := (upd (upd ff sm ((bI (fr g sm)))) (16384 + sm) ((bI (li g sm))))) hx hb hK hP hD hS 6 rfl (by omega) (by decide) rfl dX6_learn_76 (fun H locs hP hD hS => ?_)
                have hP : va_P D vwCl [(ad 20, .inr (5, [.int th, .int (nI (gV g)), .int (nI (gC g)), .int (nI (gE g)), .ref (ad 21), .ref (ad 22), .ref (ad 23), .ref (ad 24), .ref (ad 25), .int (bI true), .ref (ad 26), .ref (ad 27), .ref (ad 28), .int (nI (mo g sm)), .ref (ad 29), .ref (ad 30)])), (ad 21, .inl (cy 0, 6, .inl (fun i => nI (gL g i)))), (ad 22, .inl (cy 0, 14, .inl (fun i => nI (gF g i)))), (ad 23, .inl (cy 0, 14, .inl (fun i => nI (gS g i)))), (ad 24, .inl (cy 0, 14, .inl (fun i => nI (gH g i)))), (ad 25, .inl (cy 0, 14, .inl (fun i => zI (gW g i)))), (ad 26, .inl (cy 1, 32768, .inl (upd (upd ff sm ((bI (fr g sm)))) (16384 + sm) ((bI (li g sm)))))), (ad 27, .inl (cy 0, 32768, .inl fr_)), (ad 28, .inl (cy 0, 15, .inl fb)), (ad 29, .inl (cy 0, 8, .inl u58)), (ad 30, .inl (cy 0, 6, .inl u73))] H := hP
                have hD : va_D (inW (wM cy ad g th (bI kb) ms ff fr_ fb fp fc)) [(ad 20, .inr (5, [.int th, .int (nI (gV g)), .int (nI (gC g)), .int (nI (gE g)), .ref (ad 21), .ref (ad 22), .ref (ad 23), .ref (ad 24), .ref (ad 25), .int (bI true), .ref (ad 26), .ref (ad 27), .ref (ad 28), .int (nI (mo g sm)), .ref (ad 29), .ref (ad 30)])), (ad 21, .inl (cy 0, 6, .inl (fun i => nI (gL g i)))), (ad 22, .inl (cy 0, 14, .inl (fun i => nI (gF g i)))), (ad 23, .inl (cy 0, 14, .inl (fun i => nI (gS g i)))), (ad 24, .inl (cy 0, 14, .inl (fun i => nI (gH g i)))), (ad 25, .inl (cy 0, 14, .inl (fun i => zI (gW g i)))), (ad 26, .inl (cy 1, 32768, .inl (upd (upd ff sm ((bI (fr g sm)))) (16384 + sm) ((bI (li g sm)))))), (ad 27, .inl (cy 0, 32768, .inl fr_)), (ad 28, .inl (cy 0, 15, .inl fb)), (ad 29, .inl (cy 0, 8, .inl u58)), (ad 30, .inl (cy 0, 6, .inl u73))] := hD
                have hF1 := lrF_s (by omega) hF
                generalize (upd (upd ff sm ((bI (fr g sm)))) (16384 + sm) ((bI (li g sm)))) = ff1 at hF1 hP hD
                have hP : va_P D vwCl [(ad 20, .inr (5, [.int th, .int (nI (gV g)), .int (nI (gC g)), .int (nI (gE g)), .ref (ad 21), .ref (ad 22), .ref (ad 23), .ref (ad 24), .ref (ad 25), .int (bI true), .ref (ad 26), .ref (ad 27), .ref (ad 28), .int (nI (mo g sm)), .ref (ad 29), .ref (ad 30)])), (ad 21, .inl (cy 0, 6, .inl (fun i => nI (gL g i)))), (ad 22, .inl (cy 0, 14, .inl (fun i => nI (gF g i)))), (ad 23, .inl (cy 0, 14, .inl (fun i => nI (gS g i)))), (ad 24, .inl (cy 0, 14, .inl (fun i => nI (gH g i)))), (ad 25, .inl (cy 0, 14, .inl (fun i => zI (gW g i)))), (ad 26, .inl (cy 1, 32768, .inl ff1)), (ad 27, .inl (cy 0, 32768, .inl fr_)), (ad 28, .inl (cy 0, 15, .inl fb)), (ad 29, .inl (cy 0, 8, .inl u58)), (ad 30, .inl (cy 0, 6, .inl u73))] H := hP
                have hD : va_D (inW (wM cy ad g th (bI kb) ms ff fr_ fb fp fc)) [(ad 20, .inr (5, [.int th, .int (nI (gV g)), .int (nI (gC g)), .int (nI (gE g)), .ref (ad 21), .ref (ad 22), .ref (ad 23), .ref (ad 24), .ref (ad 25), .int (bI true), .ref (ad 26), .ref (ad 27), .ref (ad 28), .int (nI (mo g sm)), .ref (ad 29), .ref (ad 30)])), (ad 21, .inl (cy 0, 6, .inl (fun i => nI (gL g i)))), (ad 22, .inl (cy 0, 14, .inl (fun i => nI (gF g i)))), (ad 23, .inl (cy 0, 14, .inl (fun i => nI (gS g i)))), (ad 24, .inl (cy 0, 14, .inl (fun i => nI (gH g i)))), (ad 25, .inl (cy 0, 14, .inl (fun i => zI (gW g i)))), (ad 26, .inl (cy 1, 32768, .inl ff1)), (ad 27, .inl (cy 0, 32768, .inl fr_)), (ad 28, .inl (cy 0, 15, .inl fb)), (ad 29, .inl (cy 0, 8, .inl u58)), (ad 30, .inl (cy 0, 6, .inl u73))] := hD
                refine lv_iconst (v := nI 0) hx hb dX6_learn_77 (by decide) ?_
                refine lv_istore_n (lv' := [(2, .int (nI 0)), (0, .ref (ad 20)), (1, .int (nI sm))]) hx hb dX6_learn_78 rfl hl (by decide) rfl (fun ls hl => ?_)
                have L79 : ∀ (n : Nat) (kd : Nat) (fr2 : Nat → Int32), kd ≤ 2 ∧ 3 ≤ kd + n → lrR g sm fr2 → kdR g sm kd fr2 → ∀ (H : Heap) (locs : List Loc), va_P D vwCl [(ad 20, .inr (5, [.int th, .int (nI (gV g)), .int (nI (gC g)), .int (nI (gE g)), .ref (ad 21), .ref (ad 22), .ref (ad 23), .ref (ad 24), .ref (ad 25), .int (bI true), .ref (ad 26), .ref (ad 27), .ref (ad 28), .int (nI (mo g sm)), .ref (ad 29), .ref (ad 30)])), (ad 21, .inl (cy 0, 6, .inl (fun i => nI (gL g i)))), (ad 22, .inl (cy 0, 14, .inl (fun i => nI (gF g i)))), (ad 23, .inl (cy 0, 14, .inl (fun i => nI (gS g i)))), (ad 24, .inl (cy 0, 14, .inl (fun i => nI (gH g i)))), (ad 25, .inl (cy 0, 14, .inl (fun i => zI (gW g i)))), (ad 26, .inl (cy 1, 32768, .inl ff1)), (ad 27, .inl (cy 0, 32768, .inl fr2)), (ad 28, .inl (cy 0, 15, .inl fb)), (ad 29, .inl (cy 0, 8, .inl u58)), (ad 30, .inl (cy 0, 6, .inl u73))] H → va_D (inW (wM cy ad g th (bI kb) ms ff fr_ fb fp fc)) [(ad 20, .inr (5, [.int th, .int (nI (gV g)), .int (nI (gC g)), .int (nI (gE g)), .ref (ad 21), .ref (ad 22), .ref (ad 23), .ref (ad 24), .ref (ad 25), .int (bI true), .ref (ad 26), .ref (ad 27), .ref (ad 28), .int (nI (mo g sm)), .ref (ad 29), .ref (ad 30)])), (ad 21, .inl (cy 0, 6, .inl (fun i => nI (gL g i)))), (ad 22, .inl (cy 0, 14, .inl (fun i => nI (gF g i)))), (ad 23, .inl (cy 0, 14, .inl (fun i => nI (gS g i)))), (ad 24, .inl (cy 0, 14, .inl (fun i => nI (gH g i)))), (ad 25, .inl (cy 0, 14, .inl (fun i => zI (gW g i)))), (ad 26, .inl (cy 1, 32768, .inl ff1)), (ad 27, .inl (cy 0, 32768, .inl fr2)), (ad 28, .inl (cy 0, 15, .inl fb)), (ad 29, .inl (cy 0, 8, .inl u58)), (ad 30, .inl (cy 0, 6, .inl u73))] → va_S (inW (wM cy ad g th (bI kb) ms ff fr_ fb fp fc)) s.heap H locs → ∀ (ls : Array Slot), lv_has ls 6 [(0, .ref (ad 20)), (1, .int (nI sm)), (2, .int (nI kd))] → W p l ev (headSpec wsX6_learn ({ frames := 2, cells := 0, slots := 0, locals := 46 })).room s m [.ref (ad 20)].toArray below meth c H locs 0 0 (MQ below (va_Qv (fun u : (Nat → Int32) × (Nat → Int32) × (Nat → Int32) × (Nat → Int32) × (Nat → Int32) => lrF g (2 ^ gE g) u.1 ∧ lrR g (2 ^ gE g) u.2.1 ∧ lrB g (2 ^ gE g) u.2.2.1) (fun u t => va_P D vwCl ((fun u : (Nat → Int32) × (Nat → Int32) × (Nat → Int32) × (Nat → Int32) × (Nat → Int32) => wM cy ad g th (bI true) (nI (mo g (2 ^ gE g))) u.1 u.2.1 u.2.2.1 u.2.2.2.1 u.2.2.2.2) u) t.heap) (inW (wM cy ad g th (bI kb) ms ff fr_ fb fp fc))) [.ref (ad 20)].toArray s 0 0 (inW (wM cy ad g th (bI kb) ms ff fr_ fb fp fc))) (F0 m 79 ls []) := by
                  intro n
                  induction n with
                  | zero =>
                    intro kd fr2 hfuel hR2 hKd H locs hP hD hS ls hl
                    exact absurd hfuel.2 (by have := hfuel.1; omega)
                  | succ n ih79 =>
                    intro kd fr2 hfuel hR2 hKd H locs hP hD hS ls hl
                    obtain ⟨hfv1, hfv2⟩ := hfuel
                    refine lv_iload_n hx hb dX6_learn_79 rfl (lv_at hl 2 rfl) ?_
                    refine lv_iconst (v := nI 2) hx hb dX6_learn_80 (by decide) ?_
                    refine n_ge (a := kd) (b := 2) (tgt := 214) hx hb dX6_learn_81 (by decide) (by omega) (by omega) (fun c81 => ?_) (fun c81 => ?_)
                    · refine lv_iload_n hx hb dX6_learn_214 rfl (lv_at hl 1 rfl) ?_
                      refine pu_call (va_runS (As := [.int (nI sm)]) (rest := []) ⟨hx, hb, hml, hown, hts⟩ (c_X6_size l D cy (S := sm) (by omega)) (va_cwS 1 hts gX6_learn_X6_size rfl rfl rfl (by decide +kernel) ⟨Nat.le_of_ble_eq_true rfl, Nat.le_of_ble_eq_true rfl⟩) (PU_preS hK hP [] rfl) rfl rfl hl.1 rfl (lv_room (Nat.le_of_ble_eq_true rfl)) dX6_learn_215 ⟨(Nat.zero_le _), (Nat.zero_le _)⟩) hS hP (fun H locs hP hS => ?_)
                      refine lv_istore_n (lv' := [(2, .int (nI (ms_card 14 sm))), (0, .ref (ad 20)), (1, .int (nI sm))]) hx hb dX6_learn_218 rfl hl (by decide) rfl (fun ls hl => ?_)
                      refine lv_aload_n hx hb dX6_learn_219 rfl (lv_at hl 1 rfl) ?_
                      refine va_get (D := D) (ci := 5) (v := .ref (ad 26)) (C := RX6) (T := TX6) (N := 16) hx hb hts inX6 hown hK.1 hP 0 rfl rfl 10 (by decide) (hts (.fieldLink RX6 33 "ColourForestsModel" "free" "[Z") (List.mem_of_getElem? (i := 5) rfl)) (fun _ h9 => h9) rfl dX6_learn_220 ?_
                      refine lv_iload_n hx hb dX6_learn_223 rfl (lv_at hl 2 rfl) ?_
                      refine rd_z (k := sm) (v := (bI (fr g sm))) hx hb hK hP 6 rfl (by omega) (by decide) (lrF_at0 hF1 (by omega)) dX6_learn_224 ?_
                      refine b_eq (b := (fr g sm)) (tgt := 295) hx hb dX6_learn_225 (by decide) (fun c225 => ?_) (fun c225 => ?_)
                      · have hmo : mo g (sm + 1) = mo g sm := by first | exact mo_old (co_no (Or.inl c225)) | exact mo_old (co_no (Or.inr c238)) | exact mo_same hT0
                        have hB2 : lrB g (sm + 1) fb := by first | exact bs_old hB (Or.inl (co_no (Or.inl c225))) | exact bs_old hB (Or.inl (co_no (Or.inr c238))) | exact bs_old hB (Or.inr ⟨T0, hT0, Int.not_lt.mpr c265⟩)
                        have hP : va_P D vwCl [(ad 20, .inr (5, [.int th, .int (nI (gV g)), .int (nI (gC g)), .int (nI (gE g)), .ref (ad 21), .ref (ad 22), .ref (ad 23), .ref (ad 24), .ref (ad 25), .int (bI true), .ref (ad 26), .ref (ad 27), .ref (ad 28), .int (nI (mo g (sm + 1))), .ref (ad 29), .ref (ad 30)])), (ad 21, .inl (cy 0, 6, .inl (fun i => nI (gL g i)))), (ad 22, .inl (cy 0, 14, .inl (fun i => nI (gF g i)))), (ad 23, .inl (cy 0, 14, .inl (fun i => nI (gS g i)))), (ad 24, .inl (cy 0, 14, .inl (fun i => nI (gH g i)))), (ad 25, .inl (cy 0, 14, .inl (fun i => zI (gW g i)))), (ad 26, .inl (cy 1, 32768, .inl ff1)), (ad 27, .inl (cy 0, 32768, .inl fr2)), (ad 28, .inl (cy 0, 15, .inl fb)), (ad 29, .inl (cy 0, 8, .inl u58)), (ad 30, .inl (cy 0, 6, .inl u73))] H := by rw [hmo]; exact hP
                        have hD : va_D (inW (wM cy ad g th (bI kb) ms ff fr_ fb fp fc)) [(ad 20, .inr (5, [.int th, .int (nI (gV g)), .int (nI (gC g)), .int (nI (gE g)), .ref (ad 21), .ref (ad 22), .ref (ad 23), .ref (ad 24), .ref (ad 25), .int (bI true), .ref (ad 26), .ref (ad 27), .ref (ad 28), .int (nI (mo g (sm + 1))), .ref (ad 29), .ref (ad 30)])), (ad 21, .inl (cy 0, 6, .inl (fun i => nI (gL g i)))), (ad 22, .inl (cy 0, 14, .inl (fun i => nI (gF g i)))), (ad 23, .inl (cy 0, 14, .inl (fun i => nI (gS g i)))), (ad 24, .inl (cy 0, 14, .inl (fun i => nI (gH g i)))), (ad 25, .inl (cy 0, 14, .inl (fun i => zI (gW g i)))), (ad 26, .inl (cy 1, 32768, .inl ff1)), (ad 27, .inl (cy 0, 32768, .inl fr2)), (ad 28, .inl (cy 0, 15, .inl fb)), (ad 29, .inl (cy 0, 8, .inl u58)), (ad 30, .inl (cy 0, 6, .inl u73))] := by rw [hmo]; exact hD
                        refine lv_iinc (v := (nI (sm + 1))) (lv' := [(1, .int (nI (sm + 1))), (2, .int (nI (ms_card 14 sm))), (0, .ref (ad 20))]) hx hb dX6_learn_295 hl (k := 2) rfl (ni_inc _) (by decide) rfl (fun ls hl => ?_)
                        refine lv_goto (tgt := 41) hx hb dX6_learn_298 (by decide) ?_
                        exact ih41 (sm + 1) ff1 fr2 fb u58 u73 ⟨by omega, by omega⟩ hF1 (lrR_s hR2 (by rw [show kd = 2 by omega] at hKd; exact hKd)) hB2 _ _ hP hD hS _ (lv_sub hl [2, 0] rfl)
                      · refine lv_aload_n hx hb dX6_learn_228 rfl (lv_at hl 1 rfl) ?_
                        refine va_get (D := D) (ci := 5) (v := .ref (ad 26)) (C := RX6) (T := TX6) (N := 16) hx hb hts inX6 hown hK.1 hP 0 rfl rfl 10 (by decide) (hts (.fieldLink RX6 33 "ColourForestsModel" "free" "[Z") (List.mem_of_getElem? (i := 5) rfl)) (fun _ h9 => h9) rfl dX6_learn_229 ?_
                        refine lv_sipush (v := nI 16384) hx hb dX6_learn_232 (by decide) ?_
                        refine lv_iload_n hx hb dX6_learn_235 rfl (lv_at hl 2 rfl) ?_
                        refine lv_iadd hx hb dX6_learn_236 ?_
                        refine lv_as (y := (nI (16384 + sm))) (nI_add _ _) ?_
                        refine rd_z (k := (16384 + sm)) (v := (bI (li g sm))) hx hb hK hP 6 rfl (by omega) (by decide) (lrF_at1 hF1 (by omega)) dX6_learn_237 ?_
                        refine b_eq (b := (li g sm)) (tgt := 295) hx hb dX6_learn_238 (by decide) (fun c238 => ?_) (fun c238 => ?_)
                        · have hmo : mo g (sm + 1) = mo g sm := by first | exact mo_old (co_no (Or.inl c225)) | exact mo_old (co_no (Or.inr c238)) | exact mo_same hT0
                          have hB2 : lrB g (sm + 1) fb := by first | exact bs_old hB (Or.inl (co_no (Or.inl c225))) | exact bs_old hB (Or.inl (co_no (Or.inr c238))) | exact bs_old hB (Or.inr ⟨T0, hT0, Int.not_lt.mpr c265⟩)
                          have hP : va_P D vwCl [(ad 20, .inr (5, [.int th, .int (nI (gV g)), .int (nI (gC g)), .int (nI (gE g)), .ref (ad 21), .ref (ad 22), .ref (ad 23), .ref (ad 24), .ref (ad 25), .int (bI true), .ref (ad 26), .ref (ad 27), .ref (ad 28), .int (nI (mo g (sm + 1))), .ref (ad 29), .ref (ad 30)])), (ad 21, .inl (cy 0, 6, .inl (fun i => nI (gL g i)))), (ad 22, .inl (cy 0, 14, .inl (fun i => nI (gF g i)))), (ad 23, .inl (cy 0, 14, .inl (fun i => nI (gS g i)))), (ad 24, .inl (cy 0, 14, .inl (fun i => nI (gH g i)))), (ad 25, .inl (cy 0, 14, .inl (fun i => zI (gW g i)))), (ad 26, .inl (cy 1, 32768, .inl ff1)), (ad 27, .inl (cy 0, 32768, .inl fr2)), (ad 28, .inl (cy 0, 15, .inl fb)), (ad 29, .inl (cy 0, 8, .inl u58)), (ad 30, .inl (cy 0, 6, .inl u73))] H := by rw [hmo]; exact hP
                          have hD : va_D (inW (wM cy ad g th (bI kb) ms ff fr_ fb fp fc)) [(ad 20, .inr (5, [.int th, .int (nI (gV g)), .int (nI (gC g)), .int (nI (gE g)), .ref (ad 21), .ref (ad 22), .ref (ad 23), .ref (ad 24), .ref (ad 25), .int (bI true), .ref (ad 26), .ref (ad 27), .ref (ad 28), .int (nI (mo g (sm + 1))), .ref (ad 29), .ref (ad 30)])), (ad 21, .inl (cy 0, 6, .inl (fun i => nI (gL g i)))), (ad 22, .inl (cy 0, 14, .inl (fun i => nI (gF g i)))), (ad 23, .inl (cy 0, 14, .inl (fun i => nI (gS g i)))), (ad 24, .inl (cy 0, 14, .inl (fun i => nI (gH g i)))), (ad 25, .inl (cy 0, 14, .inl (fun i => zI (gW g i)))), (ad 26, .inl (cy 1, 32768, .inl ff1)), (ad 27, .inl (cy 0, 32768, .inl fr2)), (ad 28, .inl (cy 0, 15, .inl fb)), (ad 29, .inl (cy 0, 8, .inl u58)), (ad 30, .inl (cy 0, 6, .inl u73))] := by rw [hmo]; exact hD
                          refine lv_iinc (v := (nI (sm + 1))) (lv' := [(1, .int (nI (sm + 1))), (2, .int (nI (ms_card 14 sm))), (0, .ref (ad 20))]) hx hb dX6_learn_295 hl (k := 2) rfl (ni_inc _) (by decide) rfl (fun ls hl => ?_)
                          refine lv_goto (tgt := 41) hx hb dX6_learn_298 (by decide) ?_
                          exact ih41 (sm + 1) ff1 fr2 fb u58 u73 ⟨by omega, by omega⟩ hF1 (lrR_s hR2 (by rw [show kd = 2 by omega] at hKd; exact hKd)) hB2 _ _ hP hD hS _ (lv_sub hl [2, 0] rfl)
                        · have hcd := ms_card_le 14 sm
                          refine lv_aload_n hx hb dX6_learn_241 rfl (lv_at hl 1 rfl) ?_
                          refine va_get (D := D) (ci := 5) (v := .ref (ad 28)) (C := RX6) (T := TX6) (N := 16) hx hb hts inX6 hown hK.1 hP 0 rfl rfl 12 (by decide) (hts (.fieldLink RX6 40 "ColourForestsModel" "best" "[I") (List.mem_of_getElem? (i := 3) rfl)) (fun _ h9 => h9) rfl dX6_learn_242 ?_
                          refine lv_iload_n hx hb dX6_learn_245 rfl (lv_at hl 0 rfl) ?_
                          refine rd_i (k := (ms_card 14 sm)) (v := (bsv (bs g (ms_card 14 sm) sm))) hx hb hK hP 8 rfl (by omega) (by decide) (hB _ (by omega)) dX6_learn_246 ?_
                          refine lv_if_lt (tgt := 268) hx hb dX6_learn_247 (by decide) (fun c247 => ?_) (fun c247 => ?_)
                          · have c247 := bsv_none (fun T hT => by have := bs_lt hT; omega) c247
                            have hco := co_yes c225 c238
                            have hbt : ∀ T, bs g (ms_card 14 sm) sm = some T → wS g T < wS g sm := by first | (intro T hT; rw [c247] at hT; cases hT) | (intro T hT; rw [hT0] at hT; cases hT; exact c265)
                            have hmu := mo_7 hg (m := sm + 1) (by omega) (by omega)
                            have hmn := mo_new hco
                            refine lv_aload_n hx hb dX6_learn_268 rfl (lv_at hl 1 rfl) ?_
                            refine va_get (D := D) (ci := 5) (v := .ref (ad 28)) (C := RX6) (T := TX6) (N := 16) hx hb hts inX6 hown hK.1 hP 0 rfl rfl 12 (by decide) (hts (.fieldLink RX6 40 "ColourForestsModel" "best" "[I") (List.mem_of_getElem? (i := 3) rfl)) (fun _ h9 => h9) rfl dX6_learn_269 ?_
                            refine lv_iload_n hx hb dX6_learn_272 rfl (lv_at hl 0 rfl) ?_
                            refine lv_iload_n hx hb dX6_learn_273 rfl (lv_at hl 2 rfl) ?_
                            refine st_i (k := (ms_card 14 sm)) (g := (upd fb (ms_card 14 sm) ((nI sm)))) hx hb hK hP hD hS 8 rfl (by omega) (by decide) rfl dX6_learn_274 (fun H locs hP hD hS => ?_)
                            have hP : va_P D vwCl [(ad 20, .inr (5, [.int th, .int (nI (gV g)), .int (nI (gC g)), .int (nI (gE g)), .ref (ad 21), .ref (ad 22), .ref (ad 23), .ref (ad 24), .ref (ad 25), .int (bI true), .ref (ad 26), .ref (ad 27), .ref (ad 28), .int (nI (mo g sm)), .ref (ad 29), .ref (ad 30)])), (ad 21, .inl (cy 0, 6, .inl (fun i => nI (gL g i)))), (ad 22, .inl (cy 0, 14, .inl (fun i => nI (gF g i)))), (ad 23, .inl (cy 0, 14, .inl (fun i => nI (gS g i)))), (ad 24, .inl (cy 0, 14, .inl (fun i => nI (gH g i)))), (ad 25, .inl (cy 0, 14, .inl (fun i => zI (gW g i)))), (ad 26, .inl (cy 1, 32768, .inl ff1)), (ad 27, .inl (cy 0, 32768, .inl fr2)), (ad 28, .inl (cy 0, 15, .inl (upd fb (ms_card 14 sm) ((nI sm))))), (ad 29, .inl (cy 0, 8, .inl u58)), (ad 30, .inl (cy 0, 6, .inl u73))] H := hP
                            have hD : va_D (inW (wM cy ad g th (bI kb) ms ff fr_ fb fp fc)) [(ad 20, .inr (5, [.int th, .int (nI (gV g)), .int (nI (gC g)), .int (nI (gE g)), .ref (ad 21), .ref (ad 22), .ref (ad 23), .ref (ad 24), .ref (ad 25), .int (bI true), .ref (ad 26), .ref (ad 27), .ref (ad 28), .int (nI (mo g sm)), .ref (ad 29), .ref (ad 30)])), (ad 21, .inl (cy 0, 6, .inl (fun i => nI (gL g i)))), (ad 22, .inl (cy 0, 14, .inl (fun i => nI (gF g i)))), (ad 23, .inl (cy 0, 14, .inl (fun i => nI (gS g i)))), (ad 24, .inl (cy 0, 14, .inl (fun i => nI (gH g i)))), (ad 25, .inl (cy 0, 14, .inl (fun i => zI (gW g i)))), (ad 26, .inl (cy 1, 32768, .inl ff1)), (ad 27, .inl (cy 0, 32768, .inl fr2)), (ad 28, .inl (cy 0, 15, .inl (upd fb (ms_card 14 sm) ((nI sm))))), (ad 29, .inl (cy 0, 8, .inl u58)), (ad 30, .inl (cy 0, 6, .inl u73))] := hD
                            refine lv_aload_n hx hb dX6_learn_275 rfl (lv_at hl 1 rfl) ?_
                            refine lv_iload_n hx hb dX6_learn_276 rfl (lv_at hl 0 rfl) ?_
                            refine lv_aload_n hx hb dX6_learn_277 rfl (lv_at hl 1 rfl) ?_
                            refine va_get (D := D) (ci := 5) (v := .int (nI (mo g sm))) (C := RX6) (T := TX6) (N := 16) hx hb hts inX6 hown hK.1 hP 0 rfl rfl 13 (by decide) (hts (.fieldLink RX6 70 "ColourForestsModel" "most" "I") (List.mem_of_getElem? (i := 2) rfl)) (fun _ h9 => h9) rfl dX6_learn_278 ?_
                            refine n_le (a := (ms_card 14 sm)) (b := (mo g sm)) (tgt := 288) hx hb dX6_learn_281 (by decide) (by omega) (by omega) (fun c281 => ?_) (fun c281 => ?_)
                            · refine lv_aload_n hx hb dX6_learn_288 rfl (lv_at hl 1 rfl) ?_
                              refine va_get (D := D) (ci := 5) (v := .int (nI (mo g sm))) (C := RX6) (T := TX6) (N := 16) hx hb hts inX6 hown hK.1 hP 0 rfl rfl 13 (by decide) (hts (.fieldLink RX6 70 "ColourForestsModel" "most" "I") (List.mem_of_getElem? (i := 2) rfl)) (fun _ h9 => h9) rfl dX6_learn_289 ?_
                              refine va_put (D := D) (ci := 5) (v := .int (nI (mo g sm))) (ty := .int) (C := RX6) (T := TX6) (N := 16) hx hb hts inX6 tyX6 tyX6_ok nmX6 hown hK.1 hP hD hS 0 rfl rfl 13 (by decide) (hts (.fieldLink RX6 70 "ColourForestsModel" "most" "I") (List.mem_of_getElem? (i := 2) rfl)) (fun _ h9 => h9) rfl (by decide +kernel) rfl rfl (Nat.le_of_ble_eq_true rfl) dX6_learn_292 (fun H locs hP hD hS => ?_)
                              have hP : va_P D vwCl [(ad 20, .inr (5, [.int th, .int (nI (gV g)), .int (nI (gC g)), .int (nI (gE g)), .ref (ad 21), .ref (ad 22), .ref (ad 23), .ref (ad 24), .ref (ad 25), .int (bI true), .ref (ad 26), .ref (ad 27), .ref (ad 28), .int (nI (mo g sm)), .ref (ad 29), .ref (ad 30)])), (ad 21, .inl (cy 0, 6, .inl (fun i => nI (gL g i)))), (ad 22, .inl (cy 0, 14, .inl (fun i => nI (gF g i)))), (ad 23, .inl (cy 0, 14, .inl (fun i => nI (gS g i)))), (ad 24, .inl (cy 0, 14, .inl (fun i => nI (gH g i)))), (ad 25, .inl (cy 0, 14, .inl (fun i => zI (gW g i)))), (ad 26, .inl (cy 1, 32768, .inl ff1)), (ad 27, .inl (cy 0, 32768, .inl fr2)), (ad 28, .inl (cy 0, 15, .inl (upd fb (ms_card 14 sm) ((nI sm))))), (ad 29, .inl (cy 0, 8, .inl u58)), (ad 30, .inl (cy 0, 6, .inl u73))] H := hP
                              have hD : va_D (inW (wM cy ad g th (bI kb) ms ff fr_ fb fp fc)) [(ad 20, .inr (5, [.int th, .int (nI (gV g)), .int (nI (gC g)), .int (nI (gE g)), .ref (ad 21), .ref (ad 22), .ref (ad 23), .ref (ad 24), .ref (ad 25), .int (bI true), .ref (ad 26), .ref (ad 27), .ref (ad 28), .int (nI (mo g sm)), .ref (ad 29), .ref (ad 30)])), (ad 21, .inl (cy 0, 6, .inl (fun i => nI (gL g i)))), (ad 22, .inl (cy 0, 14, .inl (fun i => nI (gF g i)))), (ad 23, .inl (cy 0, 14, .inl (fun i => nI (gS g i)))), (ad 24, .inl (cy 0, 14, .inl (fun i => nI (gH g i)))), (ad 25, .inl (cy 0, 14, .inl (fun i => zI (gW g i)))), (ad 26, .inl (cy 1, 32768, .inl ff1)), (ad 27, .inl (cy 0, 32768, .inl fr2)), (ad 28, .inl (cy 0, 15, .inl (upd fb (ms_card 14 sm) ((nI sm))))), (ad 29, .inl (cy 0, 8, .inl u58)), (ad 30, .inl (cy 0, 6, .inl u73))] := hD
                              have hmo : mo g (sm + 1) = mo g sm := by rw [mo_new hco]; omega
                              have hB2 := bs_new hB hco hbt
                              have hP : va_P D vwCl [(ad 20, .inr (5, [.int th, .int (nI (gV g)), .int (nI (gC g)), .int (nI (gE g)), .ref (ad 21), .ref (ad 22), .ref (ad 23), .ref (ad 24), .ref (ad 25), .int (bI true), .ref (ad 26), .ref (ad 27), .ref (ad 28), .int (nI (mo g (sm + 1))), .ref (ad 29), .ref (ad 30)])), (ad 21, .inl (cy 0, 6, .inl (fun i => nI (gL g i)))), (ad 22, .inl (cy 0, 14, .inl (fun i => nI (gF g i)))), (ad 23, .inl (cy 0, 14, .inl (fun i => nI (gS g i)))), (ad 24, .inl (cy 0, 14, .inl (fun i => nI (gH g i)))), (ad 25, .inl (cy 0, 14, .inl (fun i => zI (gW g i)))), (ad 26, .inl (cy 1, 32768, .inl ff1)), (ad 27, .inl (cy 0, 32768, .inl fr2)), (ad 28, .inl (cy 0, 15, .inl (upd fb (ms_card 14 sm) ((nI sm))))), (ad 29, .inl (cy 0, 8, .inl u58)), (ad 30, .inl (cy 0, 6, .inl u73))] H := by rw [hmo]; exact hP
                              have hD : va_D (inW (wM cy ad g th (bI kb) ms ff fr_ fb fp fc)) [(ad 20, .inr (5, [.int th, .int (nI (gV g)), .int (nI (gC g)), .int (nI (gE g)), .ref (ad 21), .ref (ad 22), .ref (ad 23), .ref (ad 24), .ref (ad 25), .int (bI true), .ref (ad 26), .ref (ad 27), .ref (ad 28), .int (nI (mo g (sm + 1))), .ref (ad 29), .ref (ad 30)])), (ad 21, .inl (cy 0, 6, .inl (fun i => nI (gL g i)))), (ad 22, .inl (cy 0, 14, .inl (fun i => nI (gF g i)))), (ad 23, .inl (cy 0, 14, .inl (fun i => nI (gS g i)))), (ad 24, .inl (cy 0, 14, .inl (fun i => nI (gH g i)))), (ad 25, .inl (cy 0, 14, .inl (fun i => zI (gW g i)))), (ad 26, .inl (cy 1, 32768, .inl ff1)), (ad 27, .inl (cy 0, 32768, .inl fr2)), (ad 28, .inl (cy 0, 15, .inl (upd fb (ms_card 14 sm) ((nI sm))))), (ad 29, .inl (cy 0, 8, .inl u58)), (ad 30, .inl (cy 0, 6, .inl u73))] := by rw [hmo]; exact hD
                              refine lv_iinc (v := (nI (sm + 1))) (lv' := [(1, .int (nI (sm + 1))), (2, .int (nI (ms_card 14 sm))), (0, .ref (ad 20))]) hx hb dX6_learn_295 hl (k := 2) rfl (ni_inc _) (by decide) rfl (fun ls hl => ?_)
                              refine lv_goto (tgt := 41) hx hb dX6_learn_298 (by decide) ?_
                              exact ih41 (sm + 1) ff1 fr2 ((upd fb (ms_card 14 sm) ((nI sm)))) u58 u73 ⟨by omega, by omega⟩ hF1 (lrR_s hR2 (by rw [show kd = 2 by omega] at hKd; exact hKd)) hB2 _ _ hP hD hS _ (lv_sub hl [2, 0] rfl)
                            · refine lv_iload_n hx hb dX6_learn_284 rfl (lv_at hl 0 rfl) ?_
                              refine lv_goto (tgt := 292) hx hb dX6_learn_285 (by decide) ?_
                              refine va_put (D := D) (ci := 5) (v := .int (nI (ms_card 14 sm))) (ty := .int) (C := RX6) (T := TX6) (N := 16) hx hb hts inX6 tyX6 tyX6_ok nmX6 hown hK.1 hP hD hS 0 rfl rfl 13 (by decide) (hts (.fieldLink RX6 70 "ColourForestsModel" "most" "I") (List.mem_of_getElem? (i := 2) rfl)) (fun _ h9 => h9) rfl (by decide +kernel) rfl rfl (Nat.le_of_ble_eq_true rfl) dX6_learn_292 (fun H locs hP hD hS => ?_)
                              have hP : va_P D vwCl [(ad 20, .inr (5, [.int th, .int (nI (gV g)), .int (nI (gC g)), .int (nI (gE g)), .ref (ad 21), .ref (ad 22), .ref (ad 23), .ref (ad 24), .ref (ad 25), .int (bI true), .ref (ad 26), .ref (ad 27), .ref (ad 28), .int (nI (ms_card 14 sm)), .ref (ad 29), .ref (ad 30)])), (ad 21, .inl (cy 0, 6, .inl (fun i => nI (gL g i)))), (ad 22, .inl (cy 0, 14, .inl (fun i => nI (gF g i)))), (ad 23, .inl (cy 0, 14, .inl (fun i => nI (gS g i)))), (ad 24, .inl (cy 0, 14, .inl (fun i => nI (gH g i)))), (ad 25, .inl (cy 0, 14, .inl (fun i => zI (gW g i)))), (ad 26, .inl (cy 1, 32768, .inl ff1)), (ad 27, .inl (cy 0, 32768, .inl fr2)), (ad 28, .inl (cy 0, 15, .inl (upd fb (ms_card 14 sm) ((nI sm))))), (ad 29, .inl (cy 0, 8, .inl u58)), (ad 30, .inl (cy 0, 6, .inl u73))] H := hP
                              have hD : va_D (inW (wM cy ad g th (bI kb) ms ff fr_ fb fp fc)) [(ad 20, .inr (5, [.int th, .int (nI (gV g)), .int (nI (gC g)), .int (nI (gE g)), .ref (ad 21), .ref (ad 22), .ref (ad 23), .ref (ad 24), .ref (ad 25), .int (bI true), .ref (ad 26), .ref (ad 27), .ref (ad 28), .int (nI (ms_card 14 sm)), .ref (ad 29), .ref (ad 30)])), (ad 21, .inl (cy 0, 6, .inl (fun i => nI (gL g i)))), (ad 22, .inl (cy 0, 14, .inl (fun i => nI (gF g i)))), (ad 23, .inl (cy 0, 14, .inl (fun i => nI (gS g i)))), (ad 24, .inl (cy 0, 14, .inl (fun i => nI (gH g i)))), (ad 25, .inl (cy 0, 14, .inl (fun i => zI (gW g i)))), (ad 26, .inl (cy 1, 32768, .inl ff1)), (ad 27, .inl (cy 0, 32768, .inl fr2)), (ad 28, .inl (cy 0, 15, .inl (upd fb (ms_card 14 sm) ((nI sm))))), (ad 29, .inl (cy 0, 8, .inl u58)), (ad 30, .inl (cy 0, 6, .inl u73))] := hD
                              have hmo : mo g (sm + 1) = ms_card 14 sm := by rw [mo_new hco]; omega
                              have hB2 := bs_new hB hco hbt
                              have hP : va_P D vwCl [(ad 20, .inr (5, [.int th, .int (nI (gV g)), .int (nI (gC g)), .int (nI (gE g)), .ref (ad 21), .ref (ad 22), .ref (ad 23), .ref (ad 24), .ref (ad 25), .int (bI true), .ref (ad 26), .ref (ad 27), .ref (ad 28), .int (nI (mo g (sm + 1))), .ref (ad 29), .ref (ad 30)])), (ad 21, .inl (cy 0, 6, .inl (fun i => nI (gL g i)))), (ad 22, .inl (cy 0, 14, .inl (fun i => nI (gF g i)))), (ad 23, .inl (cy 0, 14, .inl (fun i => nI (gS g i)))), (ad 24, .inl (cy 0, 14, .inl (fun i => nI (gH g i)))), (ad 25, .inl (cy 0, 14, .inl (fun i => zI (gW g i)))), (ad 26, .inl (cy 1, 32768, .inl ff1)), (ad 27, .inl (cy 0, 32768, .inl fr2)), (ad 28, .inl (cy 0, 15, .inl (upd fb (ms_card 14 sm) ((nI sm))))), (ad 29, .inl (cy 0, 8, .inl u58)), (ad 30, .inl (cy 0, 6, .inl u73))] H := by rw [hmo]; exact hP
                              have hD : va_D (inW (wM cy ad g th (bI kb) ms ff fr_ fb fp fc)) [(ad 20, .inr (5, [.int th, .int (nI (gV g)), .int (nI (gC g)), .int (nI (gE g)), .ref (ad 21), .ref (ad 22), .ref (ad 23), .ref (ad 24), .ref (ad 25), .int (bI true), .ref (ad 26), .ref (ad 27), .ref (ad 28), .int (nI (mo g (sm + 1))), .ref (ad 29), .ref (ad 30)])), (ad 21, .inl (cy 0, 6, .inl (fun i => nI (gL g i)))), (ad 22, .inl (cy 0, 14, .inl (fun i => nI (gF g i)))), (ad 23, .inl (cy 0, 14, .inl (fun i => nI (gS g i)))), (ad 24, .inl (cy 0, 14, .inl (fun i => nI (gH g i)))), (ad 25, .inl (cy 0, 14, .inl (fun i => zI (gW g i)))), (ad 26, .inl (cy 1, 32768, .inl ff1)), (ad 27, .inl (cy 0, 32768, .inl fr2)), (ad 28, .inl (cy 0, 15, .inl (upd fb (ms_card 14 sm) ((nI sm))))), (ad 29, .inl (cy 0, 8, .inl u58)), (ad 30, .inl (cy 0, 6, .inl u73))] := by rw [hmo]; exact hD
                              refine lv_iinc (v := (nI (sm + 1))) (lv' := [(1, .int (nI (sm + 1))), (2, .int (nI (ms_card 14 sm))), (0, .ref (ad 20))]) hx hb dX6_learn_295 hl (k := 2) rfl (ni_inc _) (by decide) rfl (fun ls hl => ?_)
                              refine lv_goto (tgt := 41) hx hb dX6_learn_298 (by decide) ?_
                              exact ih41 (sm + 1) ff1 fr2 ((upd fb (ms_card 14 sm) ((nI sm)))) u58 u73 ⟨by omega, by omega⟩ hF1 (lrR_s hR2 (by rw [show kd = 2 by omega] at hKd; exact hKd)) hB2 _ _ hP hD hS _ (lv_sub hl [2, 0] rfl)
                          · obtain ⟨T0, hT0⟩ := bsv_some c247
                            have hTl := bs_lt hT0
                            refine lv_aload_n hx hb dX6_learn_250 rfl (lv_at hl 1 rfl) ?_
                            refine lv_iload_n hx hb dX6_learn_251 rfl (lv_at hl 2 rfl) ?_
                            refine pu_call (va_runV (As := [.int (nI sm)]) (rest := []) ⟨hx, hb, hml, hown, hts⟩ (c_X6_weightOf l D cy ad hg th ((bI true)) ((nI (mo g sm))) (S := sm) (by omega)) (cwV 1 hts gX6_learn_X6_weightOf rfl rfl rfl (by decide +kernel) ⟨Nat.le_of_ble_eq_true rfl, Nat.le_of_ble_eq_true rfl⟩) (PU_preV (ci := 5) (q0 := 0) hK hP 0 rfl rfl [0, 5] rfl) rfl rfl hl.1 rfl (lv_room (Nat.le_of_ble_eq_true rfl)) dX6_learn_252 ⟨(Nat.zero_le _), (Nat.zero_le _)⟩) hS hP (fun H locs hP hS => ?_)
                            refine lv_aload_n hx hb dX6_learn_255 rfl (lv_at hl 1 rfl) ?_
                            refine lv_aload_n hx hb dX6_learn_256 rfl (lv_at hl 1 rfl) ?_
                            refine va_get (D := D) (ci := 5) (v := .ref (ad 28)) (C := RX6) (T := TX6) (N := 16) hx hb hts inX6 hown hK.1 hP 0 rfl rfl 12 (by decide) (hts (.fieldLink RX6 40 "ColourForestsModel" "best" "[I") (List.mem_of_getElem? (i := 3) rfl)) (fun _ h9 => h9) rfl dX6_learn_257 ?_
                            refine lv_iload_n hx hb dX6_learn_260 rfl (lv_at hl 0 rfl) ?_
                            refine rd_i (k := (ms_card 14 sm)) (v := (nI T0)) hx hb hK hP 8 rfl (by omega) (by decide) (by rw [hB _ (by omega), hT0]; rfl) dX6_learn_261 ?_
                            refine pu_call (va_runV (As := [.int (nI T0)]) (rest := [.int (zI (wS g sm))]) ⟨hx, hb, hml, hown, hts⟩ (c_X6_weightOf l D cy ad hg th ((bI true)) ((nI (mo g sm))) (S := T0) (by omega)) (cwV 1 hts gX6_learn_X6_weightOf rfl rfl rfl (by decide +kernel) ⟨Nat.le_of_ble_eq_true rfl, Nat.le_of_ble_eq_true rfl⟩) (PU_preV (ci := 5) (q0 := 0) hK hP 0 rfl rfl [0, 5] rfl) rfl rfl hl.1 rfl (lv_room (Nat.le_of_ble_eq_true rfl)) dX6_learn_262 ⟨(Nat.zero_le _), (Nat.zero_le _)⟩) hS hP (fun H locs hP hS => ?_)
                            refine z_le (a := (wS g sm)) (b := (wS g T0)) (tgt := 295) hx hb dX6_learn_265 (by decide) (by have := wS_bd hg sm; exact ⟨by omega, by omega⟩) (by have := wS_bd hg T0; exact ⟨by omega, by omega⟩) (fun c265 => ?_) (fun c265 => ?_)
                            · have hmo : mo g (sm + 1) = mo g sm := by first | exact mo_old (co_no (Or.inl c225)) | exact mo_old (co_no (Or.inr c238)) | exact mo_same hT0
                              have hB2 : lrB g (sm + 1) fb := by first | exact bs_old hB (Or.inl (co_no (Or.inl c225))) | exact bs_old hB (Or.inl (co_no (Or.inr c238))) | exact bs_old hB (Or.inr ⟨T0, hT0, Int.not_lt.mpr c265⟩)
                              have hP : va_P D vwCl [(ad 20, .inr (5, [.int th, .int (nI (gV g)), .int (nI (gC g)), .int (nI (gE g)), .ref (ad 21), .ref (ad 22), .ref (ad 23), .ref (ad 24), .ref (ad 25), .int (bI true), .ref (ad 26), .ref (ad 27), .ref (ad 28), .int (nI (mo g (sm + 1))), .ref (ad 29), .ref (ad 30)])), (ad 21, .inl (cy 0, 6, .inl (fun i => nI (gL g i)))), (ad 22, .inl (cy 0, 14, .inl (fun i => nI (gF g i)))), (ad 23, .inl (cy 0, 14, .inl (fun i => nI (gS g i)))), (ad 24, .inl (cy 0, 14, .inl (fun i => nI (gH g i)))), (ad 25, .inl (cy 0, 14, .inl (fun i => zI (gW g i)))), (ad 26, .inl (cy 1, 32768, .inl ff1)), (ad 27, .inl (cy 0, 32768, .inl fr2)), (ad 28, .inl (cy 0, 15, .inl fb)), (ad 29, .inl (cy 0, 8, .inl u58)), (ad 30, .inl (cy 0, 6, .inl u73))] H := by rw [hmo]; exact hP
                              have hD : va_D (inW (wM cy ad g th (bI kb) ms ff fr_ fb fp fc)) [(ad 20, .inr (5, [.int th, .int (nI (gV g)), .int (nI (gC g)), .int (nI (gE g)), .ref (ad 21), .ref (ad 22), .ref (ad 23), .ref (ad 24), .ref (ad 25), .int (bI true), .ref (ad 26), .ref (ad 27), .ref (ad 28), .int (nI (mo g (sm + 1))), .ref (ad 29), .ref (ad 30)])), (ad 21, .inl (cy 0, 6, .inl (fun i => nI (gL g i)))), (ad 22, .inl (cy 0, 14, .inl (fun i => nI (gF g i)))), (ad 23, .inl (cy 0, 14, .inl (fun i => nI (gS g i)))), (ad 24, .inl (cy 0, 14, .inl (fun i => nI (gH g i)))), (ad 25, .inl (cy 0, 14, .inl (fun i => zI (gW g i)))), (ad 26, .inl (cy 1, 32768, .inl ff1)), (ad 27, .inl (cy 0, 32768, .inl fr2)), (ad 28, .inl (cy 0, 15, .inl fb)), (ad 29, .inl (cy 0, 8, .inl u58)), (ad 30, .inl (cy 0, 6, .inl u73))] := by rw [hmo]; exact hD
                              refine lv_iinc (v := (nI (sm + 1))) (lv' := [(1, .int (nI (sm + 1))), (2, .int (nI (ms_card 14 sm))), (0, .ref (ad 20))]) hx hb dX6_learn_295 hl (k := 2) rfl (ni_inc _) (by decide) rfl (fun ls hl => ?_)
                              refine lv_goto (tgt := 41) hx hb dX6_learn_298 (by decide) ?_
                              exact ih41 (sm + 1) ff1 fr2 fb u58 u73 ⟨by omega, by omega⟩ hF1 (lrR_s hR2 (by rw [show kd = 2 by omega] at hKd; exact hKd)) hB2 _ _ hP hD hS _ (lv_sub hl [2, 0] rfl)
                            · have hco := co_yes c225 c238
                              have hbt : ∀ T, bs g (ms_card 14 sm) sm = some T → wS g T < wS g sm := by first | (intro T hT; rw [c247] at hT; cases hT) | (intro T hT; rw [hT0] at hT; cases hT; exact c265)
                              have hmu := mo_7 hg (m := sm + 1) (by omega) (by omega)
                              have hmn := mo_new hco
                              refine lv_aload_n hx hb dX6_learn_268 rfl (lv_at hl 1 rfl) ?_
                              refine va_get (D := D) (ci := 5) (v := .ref (ad 28)) (C := RX6) (T := TX6) (N := 16) hx hb hts inX6 hown hK.1 hP 0 rfl rfl 12 (by decide) (hts (.fieldLink RX6 40 "ColourForestsModel" "best" "[I") (List.mem_of_getElem? (i := 3) rfl)) (fun _ h9 => h9) rfl dX6_learn_269 ?_
                              refine lv_iload_n hx hb dX6_learn_272 rfl (lv_at hl 0 rfl) ?_
                              refine lv_iload_n hx hb dX6_learn_273 rfl (lv_at hl 2 rfl) ?_
                              refine st_i (k := (ms_card 14 sm)) (g := (upd fb (ms_card 14 sm) ((nI sm)))) hx hb hK hP hD hS 8 rfl (by omega) (by decide) rfl dX6_learn_274 (fun H locs hP hD hS => ?_)
                              have hP : va_P D vwCl [(ad 20, .inr (5, [.int th, .int (nI (gV g)), .int (nI (gC g)), .int (nI (gE g)), .ref (ad 21), .ref (ad 22), .ref (ad 23), .ref (ad 24), .ref (ad 25), .int (bI true), .ref (ad 26), .ref (ad 27), .ref (ad 28), .int (nI (mo g sm)), .ref (ad 29), .ref (ad 30)])), (ad 21, .inl (cy 0, 6, .inl (fun i => nI (gL g i)))), (ad 22, .inl (cy 0, 14, .inl (fun i => nI (gF g i)))), (ad 23, .inl (cy 0, 14, .inl (fun i => nI (gS g i)))), (ad 24, .inl (cy 0, 14, .inl (fun i => nI (gH g i)))), (ad 25, .inl (cy 0, 14, .inl (fun i => zI (gW g i)))), (ad 26, .inl (cy 1, 32768, .inl ff1)), (ad 27, .inl (cy 0, 32768, .inl fr2)), (ad 28, .inl (cy 0, 15, .inl (upd fb (ms_card 14 sm) ((nI sm))))), (ad 29, .inl (cy 0, 8, .inl u58)), (ad 30, .inl (cy 0, 6, .inl u73))] H := hP
                              have hD : va_D (inW (wM cy ad g th (bI kb) ms ff fr_ fb fp fc)) [(ad 20, .inr (5, [.int th, .int (nI (gV g)), .int (nI (gC g)), .int (nI (gE g)), .ref (ad 21), .ref (ad 22), .ref (ad 23), .ref (ad 24), .ref (ad 25), .int (bI true), .ref (ad 26), .ref (ad 27), .ref (ad 28), .int (nI (mo g sm)), .ref (ad 29), .ref (ad 30)])), (ad 21, .inl (cy 0, 6, .inl (fun i => nI (gL g i)))), (ad 22, .inl (cy 0, 14, .inl (fun i => nI (gF g i)))), (ad 23, .inl (cy 0, 14, .inl (fun i => nI (gS g i)))), (ad 24, .inl (cy 0, 14, .inl (fun i => nI (gH g i)))), (ad 25, .inl (cy 0, 14, .inl (fun i => zI (gW g i)))), (ad 26, .inl (cy 1, 32768, .inl ff1)), (ad 27, .inl (cy 0, 32768, .inl fr2)), (ad 28, .inl (cy 0, 15, .inl (upd fb (ms_card 14 sm) ((nI sm))))), (ad 29, .inl (cy 0, 8, .inl u58)), (ad 30, .inl (cy 0, 6, .inl u73))] := hD
                              refine lv_aload_n hx hb dX6_learn_275 rfl (lv_at hl 1 rfl) ?_
                              refine lv_iload_n hx hb dX6_learn_276 rfl (lv_at hl 0 rfl) ?_
                              refine lv_aload_n hx hb dX6_learn_277 rfl (lv_at hl 1 rfl) ?_
                              refine va_get (D := D) (ci := 5) (v := .int (nI (mo g sm))) (C := RX6) (T := TX6) (N := 16) hx hb hts inX6 hown hK.1 hP 0 rfl rfl 13 (by decide) (hts (.fieldLink RX6 70 "ColourForestsModel" "most" "I") (List.mem_of_getElem? (i := 2) rfl)) (fun _ h9 => h9) rfl dX6_learn_278 ?_
                              refine n_le (a := (ms_card 14 sm)) (b := (mo g sm)) (tgt := 288) hx hb dX6_learn_281 (by decide) (by omega) (by omega) (fun c281 => ?_) (fun c281 => ?_)
                              · refine lv_aload_n hx hb dX6_learn_288 rfl (lv_at hl 1 rfl) ?_
                                refine va_get (D := D) (ci := 5) (v := .int (nI (mo g sm))) (C := RX6) (T := TX6) (N := 16) hx hb hts inX6 hown hK.1 hP 0 rfl rfl 13 (by decide) (hts (.fieldLink RX6 70 "ColourForestsModel" "most" "I") (List.mem_of_getElem? (i := 2) rfl)) (fun _ h9 => h9) rfl dX6_learn_289 ?_
                                refine va_put (D := D) (ci := 5) (v := .int (nI (mo g sm))) (ty := .int) (C := RX6) (T := TX6) (N := 16) hx hb hts inX6 tyX6 tyX6_ok nmX6 hown hK.1 hP hD hS 0 rfl rfl 13 (by decide) (hts (.fieldLink RX6 70 "ColourForestsModel" "most" "I") (List.mem_of_getElem? (i := 2) rfl)) (fun _ h9 => h9) rfl (by decide +kernel) rfl rfl (Nat.le_of_ble_eq_true rfl) dX6_learn_292 (fun H locs hP hD hS => ?_)
                                have hP : va_P D vwCl [(ad 20, .inr (5, [.int th, .int (nI (gV g)), .int (nI (gC g)), .int (nI (gE g)), .ref (ad 21), .ref (ad 22), .ref (ad 23), .ref (ad 24), .ref (ad 25), .int (bI true), .ref (ad 26), .ref (ad 27), .ref (ad 28), .int (nI (mo g sm)), .ref (ad 29), .ref (ad 30)])), (ad 21, .inl (cy 0, 6, .inl (fun i => nI (gL g i)))), (ad 22, .inl (cy 0, 14, .inl (fun i => nI (gF g i)))), (ad 23, .inl (cy 0, 14, .inl (fun i => nI (gS g i)))), (ad 24, .inl (cy 0, 14, .inl (fun i => nI (gH g i)))), (ad 25, .inl (cy 0, 14, .inl (fun i => zI (gW g i)))), (ad 26, .inl (cy 1, 32768, .inl ff1)), (ad 27, .inl (cy 0, 32768, .inl fr2)), (ad 28, .inl (cy 0, 15, .inl (upd fb (ms_card 14 sm) ((nI sm))))), (ad 29, .inl (cy 0, 8, .inl u58)), (ad 30, .inl (cy 0, 6, .inl u73))] H := hP
                                have hD : va_D (inW (wM cy ad g th (bI kb) ms ff fr_ fb fp fc)) [(ad 20, .inr (5, [.int th, .int (nI (gV g)), .int (nI (gC g)), .int (nI (gE g)), .ref (ad 21), .ref (ad 22), .ref (ad 23), .ref (ad 24), .ref (ad 25), .int (bI true), .ref (ad 26), .ref (ad 27), .ref (ad 28), .int (nI (mo g sm)), .ref (ad 29), .ref (ad 30)])), (ad 21, .inl (cy 0, 6, .inl (fun i => nI (gL g i)))), (ad 22, .inl (cy 0, 14, .inl (fun i => nI (gF g i)))), (ad 23, .inl (cy 0, 14, .inl (fun i => nI (gS g i)))), (ad 24, .inl (cy 0, 14, .inl (fun i => nI (gH g i)))), (ad 25, .inl (cy 0, 14, .inl (fun i => zI (gW g i)))), (ad 26, .inl (cy 1, 32768, .inl ff1)), (ad 27, .inl (cy 0, 32768, .inl fr2)), (ad 28, .inl (cy 0, 15, .inl (upd fb (ms_card 14 sm) ((nI sm))))), (ad 29, .inl (cy 0, 8, .inl u58)), (ad 30, .inl (cy 0, 6, .inl u73))] := hD
                                have hmo : mo g (sm + 1) = mo g sm := by rw [mo_new hco]; omega
                                have hB2 := bs_new hB hco hbt
                                have hP : va_P D vwCl [(ad 20, .inr (5, [.int th, .int (nI (gV g)), .int (nI (gC g)), .int (nI (gE g)), .ref (ad 21), .ref (ad 22), .ref (ad 23), .ref (ad 24), .ref (ad 25), .int (bI true), .ref (ad 26), .ref (ad 27), .ref (ad 28), .int (nI (mo g (sm + 1))), .ref (ad 29), .ref (ad 30)])), (ad 21, .inl (cy 0, 6, .inl (fun i => nI (gL g i)))), (ad 22, .inl (cy 0, 14, .inl (fun i => nI (gF g i)))), (ad 23, .inl (cy 0, 14, .inl (fun i => nI (gS g i)))), (ad 24, .inl (cy 0, 14, .inl (fun i => nI (gH g i)))), (ad 25, .inl (cy 0, 14, .inl (fun i => zI (gW g i)))), (ad 26, .inl (cy 1, 32768, .inl ff1)), (ad 27, .inl (cy 0, 32768, .inl fr2)), (ad 28, .inl (cy 0, 15, .inl (upd fb (ms_card 14 sm) ((nI sm))))), (ad 29, .inl (cy 0, 8, .inl u58)), (ad 30, .inl (cy 0, 6, .inl u73))] H := by rw [hmo]; exact hP
                                have hD : va_D (inW (wM cy ad g th (bI kb) ms ff fr_ fb fp fc)) [(ad 20, .inr (5, [.int th, .int (nI (gV g)), .int (nI (gC g)), .int (nI (gE g)), .ref (ad 21), .ref (ad 22), .ref (ad 23), .ref (ad 24), .ref (ad 25), .int (bI true), .ref (ad 26), .ref (ad 27), .ref (ad 28), .int (nI (mo g (sm + 1))), .ref (ad 29), .ref (ad 30)])), (ad 21, .inl (cy 0, 6, .inl (fun i => nI (gL g i)))), (ad 22, .inl (cy 0, 14, .inl (fun i => nI (gF g i)))), (ad 23, .inl (cy 0, 14, .inl (fun i => nI (gS g i)))), (ad 24, .inl (cy 0, 14, .inl (fun i => nI (gH g i)))), (ad 25, .inl (cy 0, 14, .inl (fun i => zI (gW g i)))), (ad 26, .inl (cy 1, 32768, .inl ff1)), (ad 27, .inl (cy 0, 32768, .inl fr2)), (ad 28, .inl (cy 0, 15, .inl (upd fb (ms_card 14 sm) ((nI sm))))), (ad 29, .inl (cy 0, 8, .inl u58)), (ad 30, .inl (cy 0, 6, .inl u73))] := by rw [hmo]; exact hD
                                refine lv_iinc (v := (nI (sm + 1))) (lv' := [(1, .int (nI (sm + 1))), (2, .int (nI (ms_card 14 sm))), (0, .ref (ad 20))]) hx hb dX6_learn_295 hl (k := 2) rfl (ni_inc _) (by decide) rfl (fun ls hl => ?_)
                                refine lv_goto (tgt := 41) hx hb dX6_learn_298 (by decide) ?_
                                exact ih41 (sm + 1) ff1 fr2 ((upd fb (ms_card 14 sm) ((nI sm)))) u58 u73 ⟨by omega, by omega⟩ hF1 (lrR_s hR2 (by rw [show kd = 2 by omega] at hKd; exact hKd)) hB2 _ _ hP hD hS _ (lv_sub hl [2, 0] rfl)
                              · refine lv_iload_n hx hb dX6_learn_284 rfl (lv_at hl 0 rfl) ?_
                                refine lv_goto (tgt := 292) hx hb dX6_learn_285 (by decide) ?_
                                refine va_put (D := D) (ci := 5) (v := .int (nI (ms_card 14 sm))) (ty := .int) (C := RX6) (T := TX6) (N := 16) hx hb hts inX6 tyX6 tyX6_ok nmX6 hown hK.1 hP hD hS 0 rfl rfl 13 (by decide) (hts (.fieldLink RX6 70 "ColourForestsModel" "most" "I") (List.mem_of_getElem? (i := 2) rfl)) (fun _ h9 => h9) rfl (by decide +kernel) rfl rfl (Nat.le_of_ble_eq_true rfl) dX6_learn_292 (fun H locs hP hD hS => ?_)
                                have hP : va_P D vwCl [(ad 20, .inr (5, [.int th, .int (nI (gV g)), .int (nI (gC g)), .int (nI (gE g)), .ref (ad 21), .ref (ad 22), .ref (ad 23), .ref (ad 24), .ref (ad 25), .int (bI true), .ref (ad 26), .ref (ad 27), .ref (ad 28), .int (nI (ms_card 14 sm)), .ref (ad 29), .ref (ad 30)])), (ad 21, .inl (cy 0, 6, .inl (fun i => nI (gL g i)))), (ad 22, .inl (cy 0, 14, .inl (fun i => nI (gF g i)))), (ad 23, .inl (cy 0, 14, .inl (fun i => nI (gS g i)))), (ad 24, .inl (cy 0, 14, .inl (fun i => nI (gH g i)))), (ad 25, .inl (cy 0, 14, .inl (fun i => zI (gW g i)))), (ad 26, .inl (cy 1, 32768, .inl ff1)), (ad 27, .inl (cy 0, 32768, .inl fr2)), (ad 28, .inl (cy 0, 15, .inl (upd fb (ms_card 14 sm) ((nI sm))))), (ad 29, .inl (cy 0, 8, .inl u58)), (ad 30, .inl (cy 0, 6, .inl u73))] H := hP
                                have hD : va_D (inW (wM cy ad g th (bI kb) ms ff fr_ fb fp fc)) [(ad 20, .inr (5, [.int th, .int (nI (gV g)), .int (nI (gC g)), .int (nI (gE g)), .ref (ad 21), .ref (ad 22), .ref (ad 23), .ref (ad 24), .ref (ad 25), .int (bI true), .ref (ad 26), .ref (ad 27), .ref (ad 28), .int (nI (ms_card 14 sm)), .ref (ad 29), .ref (ad 30)])), (ad 21, .inl (cy 0, 6, .inl (fun i => nI (gL g i)))), (ad 22, .inl (cy 0, 14, .inl (fun i => nI (gF g i)))), (ad 23, .inl (cy 0, 14, .inl (fun i => nI (gS g i)))), (ad 24, .inl (cy 0, 14, .inl (fun i => nI (gH g i)))), (ad 25, .inl (cy 0, 14, .inl (fun i => zI (gW g i)))), (ad 26, .inl (cy 1, 32768, .inl ff1)), (ad 27, .inl (cy 0, 32768, .inl fr2)), (ad 28, .inl (cy 0, 15, .inl (upd fb (ms_card 14 sm) ((nI sm))))), (ad 29, .inl (cy 0, 8, .inl u58)), (ad 30, .inl (cy 0, 6, .inl u73))] := hD
                                have hmo : mo g (sm + 1) = ms_card 14 sm := by rw [mo_new hco]; omega
                                have hB2 := bs_new hB hco hbt
                                have hP : va_P D vwCl [(ad 20, .inr (5, [.int th, .int (nI (gV g)), .int (nI (gC g)), .int (nI (gE g)), .ref (ad 21), .ref (ad 22), .ref (ad 23), .ref (ad 24), .ref (ad 25), .int (bI true), .ref (ad 26), .ref (ad 27), .ref (ad 28), .int (nI (mo g (sm + 1))), .ref (ad 29), .ref (ad 30)])), (ad 21, .inl (cy 0, 6, .inl (fun i => nI (gL g i)))), (ad 22, .inl (cy 0, 14, .inl (fun i => nI (gF g i)))), (ad 23, .inl (cy 0, 14, .inl (fun i => nI (gS g i)))), (ad 24, .inl (cy 0, 14, .inl (fun i => nI (gH g i)))), (ad 25, .inl (cy 0, 14, .inl (fun i => zI (gW g i)))), (ad 26, .inl (cy 1, 32768, .inl ff1)), (ad 27, .inl (cy 0, 32768, .inl fr2)), (ad 28, .inl (cy 0, 15, .inl (upd fb (ms_card 14 sm) ((nI sm))))), (ad 29, .inl (cy 0, 8, .inl u58)), (ad 30, .inl (cy 0, 6, .inl u73))] H := by rw [hmo]; exact hP
                                have hD : va_D (inW (wM cy ad g th (bI kb) ms ff fr_ fb fp fc)) [(ad 20, .inr (5, [.int th, .int (nI (gV g)), .int (nI (gC g)), .int (nI (gE g)), .ref (ad 21), .ref (ad 22), .ref (ad 23), .ref (ad 24), .ref (ad 25), .int (bI true), .ref (ad 26), .ref (ad 27), .ref (ad 28), .int (nI (mo g (sm + 1))), .ref (ad 29), .ref (ad 30)])), (ad 21, .inl (cy 0, 6, .inl (fun i => nI (gL g i)))), (ad 22, .inl (cy 0, 14, .inl (fun i => nI (gF g i)))), (ad 23, .inl (cy 0, 14, .inl (fun i => nI (gS g i)))), (ad 24, .inl (cy 0, 14, .inl (fun i => nI (gH g i)))), (ad 25, .inl (cy 0, 14, .inl (fun i => zI (gW g i)))), (ad 26, .inl (cy 1, 32768, .inl ff1)), (ad 27, .inl (cy 0, 32768, .inl fr2)), (ad 28, .inl (cy 0, 15, .inl (upd fb (ms_card 14 sm) ((nI sm))))), (ad 29, .inl (cy 0, 8, .inl u58)), (ad 30, .inl (cy 0, 6, .inl u73))] := by rw [hmo]; exact hD
                                refine lv_iinc (v := (nI (sm + 1))) (lv' := [(1, .int (nI (sm + 1))), (2, .int (nI (ms_card 14 sm))), (0, .ref (ad 20))]) hx hb dX6_learn_295 hl (k := 2) rfl (ni_inc _) (by decide) rfl (fun ls hl => ?_)
                                refine lv_goto (tgt := 41) hx hb dX6_learn_298 (by decide) ?_
                                exact ih41 (sm + 1) ff1 fr2 ((upd fb (ms_card 14 sm) ((nI sm)))) u58 u73 ⟨by omega, by omega⟩ hF1 (lrR_s hR2 (by rw [show kd = 2 by omega] at hKd; exact hKd)) hB2 _ _ hP hD hS _ (lv_sub hl [2, 0] rfl)
                    · refine lv_sipush (v := nI 16384) hx hb dX6_learn_84 (by decide) ?_
                      refine lv_iload_n hx hb dX6_learn_87 rfl (lv_at hl 2 rfl) ?_
                      refine lv_imul hx hb dX6_learn_88 ?_
                      refine lv_as (y := (nI (16384 * kd))) (ni_mul _ _) ?_
                      refine lv_istore_n (lv' := [(3, .int (nI (16384 * kd))), (0, .ref (ad 20)), (1, .int (nI sm)), (2, .int (nI kd))]) hx hb dX6_learn_89 rfl hl (by decide) rfl (fun ls hl => ?_)
                      refine lv_aload_n hx hb dX6_learn_90 rfl (lv_at hl 1 rfl) ?_
                      refine va_get (D := D) (ci := 5) (v := .ref (ad 27)) (C := RX6) (T := TX6) (N := 16) hx hb hts inX6 hown hK.1 hP 0 rfl rfl 11 (by decide) (hts (.fieldLink RX6 37 "ColourForestsModel" "ranks" "[I") (List.mem_of_getElem? (i := 6) rfl)) (fun _ h9 => h9) rfl dX6_learn_91 ?_
                      refine lv_iload_n hx hb dX6_learn_94 rfl (lv_at hl 0 rfl) ?_
                      refine lv_iload_n hx hb dX6_learn_95 rfl (lv_at hl 2 rfl) ?_
                      refine lv_iadd hx hb dX6_learn_96 ?_
                      refine lv_as (y := (nI ((16384 * kd) + sm))) (nI_add _ _) ?_
                      refine lv_aload_n hx hb dX6_learn_97 rfl (lv_at hl 1 rfl) ?_
                      refine va_get (D := D) (ci := 5) (v := .ref (ad 26)) (C := RX6) (T := TX6) (N := 16) hx hb hts inX6 hown hK.1 hP 0 rfl rfl 10 (by decide) (hts (.fieldLink RX6 33 "ColourForestsModel" "free" "[Z") (List.mem_of_getElem? (i := 5) rfl)) (fun _ h9 => h9) rfl dX6_learn_98 ?_
                      refine lv_iload_n hx hb dX6_learn_101 rfl (lv_at hl 0 rfl) ?_
                      refine lv_iload_n hx hb dX6_learn_102 rfl (lv_at hl 2 rfl) ?_
                      refine lv_iadd hx hb dX6_learn_103 ?_
                      refine lv_as (y := (nI ((16384 * kd) + sm))) (nI_add _ _) ?_
                      refine rd_z (k := ((16384 * kd) + sm)) (v := (bI (fN g kd sm))) hx hb hK hP 6 rfl (by omega) (by decide) (hF1 kd sm (by omega) (by omega)) dX6_learn_104 ?_
                      refine b_eq (b := (fN g kd sm)) (tgt := 115) hx hb dX6_learn_105 (by decide) (fun c105 => ?_) (fun c105 => ?_)
                      · refine lv_iconst (v := nI 0) hx hb dX6_learn_115 (by decide) ?_
                        refine st_i (k := ((16384 * kd) + sm)) (g := (upd fr2 ((16384 * kd) + sm) ((nI 0)))) hx hb hK hP hD hS 7 rfl (by omega) (by decide) rfl dX6_learn_116 (fun H locs hP hD hS => ?_)
                        have hP : va_P D vwCl [(ad 20, .inr (5, [.int th, .int (nI (gV g)), .int (nI (gC g)), .int (nI (gE g)), .ref (ad 21), .ref (ad 22), .ref (ad 23), .ref (ad 24), .ref (ad 25), .int (bI true), .ref (ad 26), .ref (ad 27), .ref (ad 28), .int (nI (mo g sm)), .ref (ad 29), .ref (ad 30)])), (ad 21, .inl (cy 0, 6, .inl (fun i => nI (gL g i)))), (ad 22, .inl (cy 0, 14, .inl (fun i => nI (gF g i)))), (ad 23, .inl (cy 0, 14, .inl (fun i => nI (gS g i)))), (ad 24, .inl (cy 0, 14, .inl (fun i => nI (gH g i)))), (ad 25, .inl (cy 0, 14, .inl (fun i => zI (gW g i)))), (ad 26, .inl (cy 1, 32768, .inl ff1)), (ad 27, .inl (cy 0, 32768, .inl (upd fr2 ((16384 * kd) + sm) ((nI 0))))), (ad 28, .inl (cy 0, 15, .inl fb)), (ad 29, .inl (cy 0, 8, .inl u58)), (ad 30, .inl (cy 0, 6, .inl u73))] H := hP
                        have hD : va_D (inW (wM cy ad g th (bI kb) ms ff fr_ fb fp fc)) [(ad 20, .inr (5, [.int th, .int (nI (gV g)), .int (nI (gC g)), .int (nI (gE g)), .ref (ad 21), .ref (ad 22), .ref (ad 23), .ref (ad 24), .ref (ad 25), .int (bI true), .ref (ad 26), .ref (ad 27), .ref (ad 28), .int (nI (mo g sm)), .ref (ad 29), .ref (ad 30)])), (ad 21, .inl (cy 0, 6, .inl (fun i => nI (gL g i)))), (ad 22, .inl (cy 0, 14, .inl (fun i => nI (gF g i)))), (ad 23, .inl (cy 0, 14, .inl (fun i => nI (gS g i)))), (ad 24, .inl (cy 0, 14, .inl (fun i => nI (gH g i)))), (ad 25, .inl (cy 0, 14, .inl (fun i => zI (gW g i)))), (ad 26, .inl (cy 1, 32768, .inl ff1)), (ad 27, .inl (cy 0, 32768, .inl (upd fr2 ((16384 * kd) + sm) ((nI 0))))), (ad 28, .inl (cy 0, 15, .inl fb)), (ad 29, .inl (cy 0, 8, .inl u58)), (ad 30, .inl (cy 0, 6, .inl u73))] := hD
                        refine lv_iconst (v := nI 0) hx hb dX6_learn_117 (by decide) ?_
                        refine lv_istore (lv' := [(4, .int (nI 0)), (3, .int (nI (16384 * kd))), (0, .ref (ad 20)), (1, .int (nI sm)), (2, .int (nI kd))]) hx hb dX6_learn_118 hl (by decide) rfl (fun ls hl => ?_)
                        have L120 : ∀ (n : Nat) (e : Nat) (fr3 : Nat → Int32), e ≤ gE g ∧ gE g + 1 ≤ e + n → (∀ i, i ≠ 16384 * kd + sm → fr3 i = fr2 i) → fr3 (16384 * kd + sm) = nI (mxR (rN g kd) sm e) → ∀ (H : Heap) (locs : List Loc), va_P D vwCl [(ad 20, .inr (5, [.int th, .int (nI (gV g)), .int (nI (gC g)), .int (nI (gE g)), .ref (ad 21), .ref (ad 22), .ref (ad 23), .ref (ad 24), .ref (ad 25), .int (bI true), .ref (ad 26), .ref (ad 27), .ref (ad 28), .int (nI (mo g sm)), .ref (ad 29), .ref (ad 30)])), (ad 21, .inl (cy 0, 6, .inl (fun i => nI (gL g i)))), (ad 22, .inl (cy 0, 14, .inl (fun i => nI (gF g i)))), (ad 23, .inl (cy 0, 14, .inl (fun i => nI (gS g i)))), (ad 24, .inl (cy 0, 14, .inl (fun i => nI (gH g i)))), (ad 25, .inl (cy 0, 14, .inl (fun i => zI (gW g i)))), (ad 26, .inl (cy 1, 32768, .inl ff1)), (ad 27, .inl (cy 0, 32768, .inl fr3)), (ad 28, .inl (cy 0, 15, .inl fb)), (ad 29, .inl (cy 0, 8, .inl u58)), (ad 30, .inl (cy 0, 6, .inl u73))] H → va_D (inW (wM cy ad g th (bI kb) ms ff fr_ fb fp fc)) [(ad 20, .inr (5, [.int th, .int (nI (gV g)), .int (nI (gC g)), .int (nI (gE g)), .ref (ad 21), .ref (ad 22), .ref (ad 23), .ref (ad 24), .ref (ad 25), .int (bI true), .ref (ad 26), .ref (ad 27), .ref (ad 28), .int (nI (mo g sm)), .ref (ad 29), .ref (ad 30)])), (ad 21, .inl (cy 0, 6, .inl (fun i => nI (gL g i)))), (ad 22, .inl (cy 0, 14, .inl (fun i => nI (gF g i)))), (ad 23, .inl (cy 0, 14, .inl (fun i => nI (gS g i)))), (ad 24, .inl (cy 0, 14, .inl (fun i => nI (gH g i)))), (ad 25, .inl (cy 0, 14, .inl (fun i => zI (gW g i)))), (ad 26, .inl (cy 1, 32768, .inl ff1)), (ad 27, .inl (cy 0, 32768, .inl fr3)), (ad 28, .inl (cy 0, 15, .inl fb)), (ad 29, .inl (cy 0, 8, .inl u58)), (ad 30, .inl (cy 0, 6, .inl u73))] → va_S (inW (wM cy ad g th (bI kb) ms ff fr_ fb fp fc)) s.heap H locs → ∀ (ls : Array Slot), lv_has ls 6 [(0, .ref (ad 20)), (1, .int (nI sm)), (2, .int (nI kd)), (3, .int (nI (16384 * kd))), (4, .int (nI e))] → W p l ev (headSpec wsX6_learn ({ frames := 2, cells := 0, slots := 0, locals := 46 })).room s m [.ref (ad 20)].toArray below meth c H locs 0 0 (MQ below (va_Qv (fun u : (Nat → Int32) × (Nat → Int32) × (Nat → Int32) × (Nat → Int32) × (Nat → Int32) => lrF g (2 ^ gE g) u.1 ∧ lrR g (2 ^ gE g) u.2.1 ∧ lrB g (2 ^ gE g) u.2.2.1) (fun u t => va_P D vwCl ((fun u : (Nat → Int32) × (Nat → Int32) × (Nat → Int32) × (Nat → Int32) × (Nat → Int32) => wM cy ad g th (bI true) (nI (mo g (2 ^ gE g))) u.1 u.2.1 u.2.2.1 u.2.2.2.1 u.2.2.2.2) u) t.heap) (inW (wM cy ad g th (bI kb) ms ff fr_ fb fp fc))) [.ref (ad 20)].toArray s 0 0 (inW (wM cy ad g th (bI kb) ms ff fr_ fb fp fc))) (F0 m 120 ls []) := by
                          intro n
                          induction n with
                          | zero =>
                            intro e fr3 hfuel ho hv3 H locs hP hD hS ls hl
                            exact absurd hfuel.2 (by have := hfuel.1; omega)
                          | succ n ih120 =>
                            intro e fr3 hfuel ho hv3 H locs hP hD hS ls hl
                            obtain ⟨hfw1, hfw2⟩ := hfuel
                            have hmx := mxR_le hg kd sm e
                            have hrl := rN_le hg kd (ms_sd sm (2 ^ e))
                            refine lv_iload hx hb dX6_learn_120 (lv_at hl 4 rfl) ?_
                            refine lv_aload_n hx hb dX6_learn_122 rfl (lv_at hl 0 rfl) ?_
                            refine va_get (D := D) (ci := 5) (v := .int (nI (gE g))) (C := RX6) (T := TX6) (N := 16) hx hb hts inX6 hown hK.1 hP 0 rfl rfl 3 (by decide) (hts (.fieldLink RX6 56 "ColourForestsModel" "edges" "I") (List.mem_of_getElem? (i := 4) rfl)) (fun _ h9 => h9) rfl dX6_learn_123 ?_
                            refine n_ge (a := e) (b := (gE g)) (tgt := 208) hx hb dX6_learn_126 (by decide) (by omega) (by omega) (fun c126 => ?_) (fun c126 => ?_)
                            · refine lv_iinc (v := (nI (kd + 1))) (lv' := [(2, .int (nI (kd + 1))), (0, .ref (ad 20)), (1, .int (nI sm)), (3, .int (nI (16384 * kd))), (4, .int (nI e))]) hx hb dX6_learn_208 hl (k := 2) rfl (ni_inc _) (by decide) rfl (fun ls hl => ?_)
                              refine lv_goto (tgt := 79) hx hb dX6_learn_211 (by decide) ?_
                              exact ih79 (kd + 1) fr3 ⟨by omega, by omega⟩ (lrR_keep (kd := kd) (by omega) hR2 ho) (kdR_s hKd ho (by rw [hv3, ← mxR_is (rN_ok hg kd) (by omega) (fN_f hg (by omega) c105), show gE g = e by omega])) _ _ hP hD hS _ (lv_sub hl [1, 2, 0] rfl)
                            · refine lv_aload_n hx hb dX6_learn_129 rfl (lv_at hl 0 rfl) ?_
                              refine va_get (D := D) (ci := 5) (v := .ref (ad 26)) (C := RX6) (T := TX6) (N := 16) hx hb hts inX6 hown hK.1 hP 0 rfl rfl 10 (by decide) (hts (.fieldLink RX6 33 "ColourForestsModel" "free" "[Z") (List.mem_of_getElem? (i := 5) rfl)) (fun _ h9 => h9) rfl dX6_learn_130 ?_
                              refine lv_iload_n hx hb dX6_learn_133 rfl (lv_at hl 3 rfl) ?_
                              refine lv_iload_n hx hb dX6_learn_134 rfl (lv_at hl 1 rfl) ?_
                              refine lv_iadd hx hb dX6_learn_135 ?_
                              refine lv_as (y := (nI ((16384 * kd) + sm))) (nI_add _ _) ?_
                              refine rd_z (k := ((16384 * kd) + sm)) (v := (bI (fN g kd sm))) hx hb hK hP 6 rfl (by omega) (by decide) (hF1 kd sm (by omega) (by omega)) dX6_learn_136 ?_
                              refine b_ne (b := (fN g kd sm)) (tgt := 208) hx hb dX6_learn_137 (by decide) (fun c137 => ?_) (fun c137 => ?_)
                              · exact absurd (c105.symm.trans c137) (by decide)
                              · refine lv_iload_n hx hb dX6_learn_140 rfl (lv_at hl 1 rfl) ?_
                                refine lv_iload hx hb dX6_learn_141 (lv_at hl 4 rfl) ?_
                                refine pu_call (va_runS (As := [.int (nI sm), .int (nI e)]) (rest := []) ⟨hx, hb, hml, hown, hts⟩ (c_X6_has l D cy (S := sm) (e := e) (by omega) (by omega)) (va_cwS 2 hts gX6_learn_X6_has rfl rfl rfl (by decide +kernel) ⟨Nat.le_of_ble_eq_true rfl, Nat.le_of_ble_eq_true rfl⟩) (PU_preS hK hP [] rfl) rfl rfl hl.1 rfl (lv_room (Nat.le_of_ble_eq_true rfl)) dX6_learn_143 ⟨(Nat.zero_le _), (Nat.zero_le _)⟩) hS hP (fun H locs hP hS => ?_)
                                refine b_eq (b := (sm.testBit e)) (tgt := 165) hx hb dX6_learn_146 (by decide) (fun c146 => ?_) (fun c146 => ?_)
                                · refine lv_iconst (v := nI 0) hx hb dX6_learn_165 (by decide) ?_
                                  refine lv_istore (lv' := [(5, .int (nI 0)), (0, .ref (ad 20)), (1, .int (nI sm)), (2, .int (nI kd)), (3, .int (nI (16384 * kd))), (4, .int (nI e))]) hx hb dX6_learn_166 hl (by decide) rfl (fun ls hl => ?_)
                                  refine lv_aload_n hx hb dX6_learn_168 rfl (lv_at hl 1 rfl) ?_
                                  refine va_get (D := D) (ci := 5) (v := .ref (ad 27)) (C := RX6) (T := TX6) (N := 16) hx hb hts inX6 hown hK.1 hP 0 rfl rfl 11 (by decide) (hts (.fieldLink RX6 37 "ColourForestsModel" "ranks" "[I") (List.mem_of_getElem? (i := 6) rfl)) (fun _ h9 => h9) rfl dX6_learn_169 ?_
                                  refine lv_iload_n hx hb dX6_learn_172 rfl (lv_at hl 4 rfl) ?_
                                  refine lv_iload_n hx hb dX6_learn_173 rfl (lv_at hl 2 rfl) ?_
                                  refine lv_iadd hx hb dX6_learn_174 ?_
                                  refine lv_as (y := (nI ((16384 * kd) + sm))) (nI_add _ _) ?_
                                  refine lv_iload hx hb dX6_learn_175 (lv_at hl 0 rfl) ?_
                                  refine lv_aload_n hx hb dX6_learn_177 rfl (lv_at hl 1 rfl) ?_
                                  refine va_get (D := D) (ci := 5) (v := .ref (ad 27)) (C := RX6) (T := TX6) (N := 16) hx hb hts inX6 hown hK.1 hP 0 rfl rfl 11 (by decide) (hts (.fieldLink RX6 37 "ColourForestsModel" "ranks" "[I") (List.mem_of_getElem? (i := 6) rfl)) (fun _ h9 => h9) rfl dX6_learn_178 ?_
                                  refine lv_iload_n hx hb dX6_learn_181 rfl (lv_at hl 4 rfl) ?_
                                  refine lv_iload_n hx hb dX6_learn_182 rfl (lv_at hl 2 rfl) ?_
                                  refine lv_iadd hx hb dX6_learn_183 ?_
                                  refine lv_as (y := (nI ((16384 * kd) + sm))) (nI_add _ _) ?_
                                  refine rd_i (k := ((16384 * kd) + sm)) (v := (nI (mxR (rN g kd) sm e))) hx hb hK hP 7 rfl (by omega) (by decide) hv3 dX6_learn_184 ?_
                                  refine n_le (a := 0) (b := (mxR (rN g kd) sm e)) (tgt := 193) hx hb dX6_learn_185 (by decide) (by omega) (by omega) (fun c185 => ?_) (fun c185 => ?_)
                                  · refine lv_aload_n hx hb dX6_learn_193 rfl (lv_at hl 1 rfl) ?_
                                    refine va_get (D := D) (ci := 5) (v := .ref (ad 27)) (C := RX6) (T := TX6) (N := 16) hx hb hts inX6 hown hK.1 hP 0 rfl rfl 11 (by decide) (hts (.fieldLink RX6 37 "ColourForestsModel" "ranks" "[I") (List.mem_of_getElem? (i := 6) rfl)) (fun _ h9 => h9) rfl dX6_learn_194 ?_
                                    refine lv_iload_n hx hb dX6_learn_197 rfl (lv_at hl 4 rfl) ?_
                                    refine lv_iload_n hx hb dX6_learn_198 rfl (lv_at hl 2 rfl) ?_
                                    refine lv_iadd hx hb dX6_learn_199 ?_
                                    refine lv_as (y := (nI ((16384 * kd) + sm))) (nI_add _ _) ?_
                                    refine rd_i (k := ((16384 * kd) + sm)) (v := (nI (mxR (rN g kd) sm e))) hx hb hK hP 7 rfl (by omega) (by decide) hv3 dX6_learn_200 ?_
                                    refine st_i (k := ((16384 * kd) + sm)) (g := (upd fr3 ((16384 * kd) + sm) ((nI (mxR (rN g kd) sm e))))) hx hb hK hP hD hS 7 rfl (by omega) (by decide) rfl dX6_learn_201 (fun H locs hP hD hS => ?_)
                                    have hP : va_P D vwCl [(ad 20, .inr (5, [.int th, .int (nI (gV g)), .int (nI (gC g)), .int (nI (gE g)), .ref (ad 21), .ref (ad 22), .ref (ad 23), .ref (ad 24), .ref (ad 25), .int (bI true), .ref (ad 26), .ref (ad 27), .ref (ad 28), .int (nI (mo g sm)), .ref (ad 29), .ref (ad 30)])), (ad 21, .inl (cy 0, 6, .inl (fun i => nI (gL g i)))), (ad 22, .inl (cy 0, 14, .inl (fun i => nI (gF g i)))), (ad 23, .inl (cy 0, 14, .inl (fun i => nI (gS g i)))), (ad 24, .inl (cy 0, 14, .inl (fun i => nI (gH g i)))), (ad 25, .inl (cy 0, 14, .inl (fun i => zI (gW g i)))), (ad 26, .inl (cy 1, 32768, .inl ff1)), (ad 27, .inl (cy 0, 32768, .inl (upd fr3 ((16384 * kd) + sm) ((nI (mxR (rN g kd) sm e)))))), (ad 28, .inl (cy 0, 15, .inl fb)), (ad 29, .inl (cy 0, 8, .inl u58)), (ad 30, .inl (cy 0, 6, .inl u73))] H := hP
                                    have hD : va_D (inW (wM cy ad g th (bI kb) ms ff fr_ fb fp fc)) [(ad 20, .inr (5, [.int th, .int (nI (gV g)), .int (nI (gC g)), .int (nI (gE g)), .ref (ad 21), .ref (ad 22), .ref (ad 23), .ref (ad 24), .ref (ad 25), .int (bI true), .ref (ad 26), .ref (ad 27), .ref (ad 28), .int (nI (mo g sm)), .ref (ad 29), .ref (ad 30)])), (ad 21, .inl (cy 0, 6, .inl (fun i => nI (gL g i)))), (ad 22, .inl (cy 0, 14, .inl (fun i => nI (gF g i)))), (ad 23, .inl (cy 0, 14, .inl (fun i => nI (gS g i)))), (ad 24, .inl (cy 0, 14, .inl (fun i => nI (gH g i)))), (ad 25, .inl (cy 0, 14, .inl (fun i => zI (gW g i)))), (ad 26, .inl (cy 1, 32768, .inl ff1)), (ad 27, .inl (cy 0, 32768, .inl (upd fr3 ((16384 * kd) + sm) ((nI (mxR (rN g kd) sm e)))))), (ad 28, .inl (cy 0, 15, .inl fb)), (ad 29, .inl (cy 0, 8, .inl u58)), (ad 30, .inl (cy 0, 6, .inl u73))] := hD
                                    refine lv_iinc (v := (nI (e + 1))) (lv' := [(4, .int (nI (e + 1))), (5, .int (nI 0)), (0, .ref (ad 20)), (1, .int (nI sm)), (2, .int (nI kd)), (3, .int (nI (16384 * kd)))]) hx hb dX6_learn_202 hl (k := 5) rfl (ni_inc _) (by decide) rfl (fun ls hl => ?_)
                                    refine lv_goto (tgt := 120) hx hb dX6_learn_205 (by decide) ?_
                                    exact ih120 (e + 1) ((upd fr3 ((16384 * kd) + sm) ((nI (mxR (rN g kd) sm e))))) ⟨by omega, by omega⟩ (fun i hi => by rw [upd_ne hi]; exact ho i hi) (by rw [upd_eq]; first | (rw [mxR_y c146]; congr 1; omega) | (rw [mxR_n c146]; congr 1; omega)) _ _ hP hD hS _ (lv_sub hl [2, 3, 4, 5, 0] rfl)
                                  · refine lv_iload hx hb dX6_learn_188 (lv_at hl 0 rfl) ?_
                                    refine lv_goto (tgt := 201) hx hb dX6_learn_190 (by decide) ?_
                                    refine st_i (k := ((16384 * kd) + sm)) (g := (upd fr3 ((16384 * kd) + sm) ((nI 0)))) hx hb hK hP hD hS 7 rfl (by omega) (by decide) rfl dX6_learn_201 (fun H locs hP hD hS => ?_)
                                    have hP : va_P D vwCl [(ad 20, .inr (5, [.int th, .int (nI (gV g)), .int (nI (gC g)), .int (nI (gE g)), .ref (ad 21), .ref (ad 22), .ref (ad 23), .ref (ad 24), .ref (ad 25), .int (bI true), .ref (ad 26), .ref (ad 27), .ref (ad 28), .int (nI (mo g sm)), .ref (ad 29), .ref (ad 30)])), (ad 21, .inl (cy 0, 6, .inl (fun i => nI (gL g i)))), (ad 22, .inl (cy 0, 14, .inl (fun i => nI (gF g i)))), (ad 23, .inl (cy 0, 14, .inl (fun i => nI (gS g i)))), (ad 24, .inl (cy 0, 14, .inl (fun i => nI (gH g i)))), (ad 25, .inl (cy 0, 14, .inl (fun i => zI (gW g i)))), (ad 26, .inl (cy 1, 32768, .inl ff1)), (ad 27, .inl (cy 0, 32768, .inl (upd fr3 ((16384 * kd) + sm) ((nI 0))))), (ad 28, .inl (cy 0, 15, .inl fb)), (ad 29, .inl (cy 0, 8, .inl u58)), (ad 30, .inl (cy 0, 6, .inl u73))] H := hP
                                    have hD : va_D (inW (wM cy ad g th (bI kb) ms ff fr_ fb fp fc)) [(ad 20, .inr (5, [.int th, .int (nI (gV g)), .int (nI (gC g)), .int (nI (gE g)), .ref (ad 21), .ref (ad 22), .ref (ad 23), .ref (ad 24), .ref (ad 25), .int (bI true), .ref (ad 26), .ref (ad 27), .ref (ad 28), .int (nI (mo g sm)), .ref (ad 29), .ref (ad 30)])), (ad 21, .inl (cy 0, 6, .inl (fun i => nI (gL g i)))), (ad 22, .inl (cy 0, 14, .inl (fun i => nI (gF g i)))), (ad 23, .inl (cy 0, 14, .inl (fun i => nI (gS g i)))), (ad 24, .inl (cy 0, 14, .inl (fun i => nI (gH g i)))), (ad 25, .inl (cy 0, 14, .inl (fun i => zI (gW g i)))), (ad 26, .inl (cy 1, 32768, .inl ff1)), (ad 27, .inl (cy 0, 32768, .inl (upd fr3 ((16384 * kd) + sm) ((nI 0))))), (ad 28, .inl (cy 0, 15, .inl fb)), (ad 29, .inl (cy 0, 8, .inl u58)), (ad 30, .inl (cy 0, 6, .inl u73))] := hD
                                    refine lv_iinc (v := (nI (e + 1))) (lv' := [(4, .int (nI (e + 1))), (5, .int (nI 0)), (0, .ref (ad 20)), (1, .int (nI sm)), (2, .int (nI kd)), (3, .int (nI (16384 * kd)))]) hx hb dX6_learn_202 hl (k := 5) rfl (ni_inc _) (by decide) rfl (fun ls hl => ?_)
                                    refine lv_goto (tgt := 120) hx hb dX6_learn_205 (by decide) ?_
                                    exact ih120 (e + 1) ((upd fr3 ((16384 * kd) + sm) ((nI 0)))) ⟨by omega, by omega⟩ (fun i hi => by rw [upd_ne hi]; exact ho i hi) (by rw [upd_eq]; first | (rw [mxR_y c146]; congr 1; omega) | (rw [mxR_n c146]; congr 1; omega)) _ _ hP hD hS _ (lv_sub hl [2, 3, 4, 5, 0] rfl)
                                · have hxl : sm ^^^ 2 ^ e < 2 ^ gE g := Nat.xor_lt_two_pow (by omega) (ms_pow_lt (by omega))
                                  refine lv_aload_n hx hb dX6_learn_149 rfl (lv_at hl 0 rfl) ?_
                                  refine va_get (D := D) (ci := 5) (v := .ref (ad 27)) (C := RX6) (T := TX6) (N := 16) hx hb hts inX6 hown hK.1 hP 0 rfl rfl 11 (by decide) (hts (.fieldLink RX6 37 "ColourForestsModel" "ranks" "[I") (List.mem_of_getElem? (i := 6) rfl)) (fun _ h9 => h9) rfl dX6_learn_150 ?_
                                  refine lv_iload_n hx hb dX6_learn_153 rfl (lv_at hl 3 rfl) ?_
                                  refine lv_iload_n hx hb dX6_learn_154 rfl (lv_at hl 1 rfl) ?_
                                  refine lv_iconst (v := nI 1) hx hb dX6_learn_155 (by decide) ?_
                                  refine lv_iload hx hb dX6_learn_156 (lv_at hl 4 rfl) ?_
                                  refine lv_ishl hx hb dX6_learn_158 ?_
                                  refine lv_as (y := (nI (2 ^ e))) (ni_bit (by omega)) ?_
                                  refine lv_ixor hx hb dX6_learn_159 ?_
                                  refine lv_as (y := (nI (sm ^^^ (2 ^ e)))) (ni_xor _ _) ?_
                                  refine lv_iadd hx hb dX6_learn_160 ?_
                                  refine lv_as (y := (nI ((16384 * kd) + (sm ^^^ (2 ^ e))))) (nI_add _ _) ?_
                                  refine rd_i (k := ((16384 * kd) + (sm ^^^ (2 ^ e)))) (v := (nI (rN g kd (ms_sd sm (2 ^ e))))) hx hb hK hP 7 rfl (by omega) (by decide) (by rw [xor_bit c146, ho _ (by have := sd_bit_lt c146; omega)]; exact hR2 kd _ (by omega) (sd_bit_lt c146)) dX6_learn_161 ?_
                                  refine lv_goto (tgt := 166) hx hb dX6_learn_162 (by decide) ?_
                                  refine lv_istore (lv' := [(5, .int (nI (rN g kd (ms_sd sm (2 ^ e))))), (0, .ref (ad 20)), (1, .int (nI sm)), (2, .int (nI kd)), (3, .int (nI (16384 * kd))), (4, .int (nI e))]) hx hb dX6_learn_166 hl (by decide) rfl (fun ls hl => ?_)
                                  refine lv_aload_n hx hb dX6_learn_168 rfl (lv_at hl 1 rfl) ?_
                                  refine va_get (D := D) (ci := 5) (v := .ref (ad 27)) (C := RX6) (T := TX6) (N := 16) hx hb hts inX6 hown hK.1 hP 0 rfl rfl 11 (by decide) (hts (.fieldLink RX6 37 "ColourForestsModel" "ranks" "[I") (List.mem_of_getElem? (i := 6) rfl)) (fun _ h9 => h9) rfl dX6_learn_169 ?_
                                  refine lv_iload_n hx hb dX6_learn_172 rfl (lv_at hl 4 rfl) ?_
                                  refine lv_iload_n hx hb dX6_learn_173 rfl (lv_at hl 2 rfl) ?_
                                  refine lv_iadd hx hb dX6_learn_174 ?_
                                  refine lv_as (y := (nI ((16384 * kd) + sm))) (nI_add _ _) ?_
                                  refine lv_iload hx hb dX6_learn_175 (lv_at hl 0 rfl) ?_
                                  refine lv_aload_n hx hb dX6_learn_177 rfl (lv_at hl 1 rfl) ?_
                                  refine va_get (D := D) (ci := 5) (v := .ref (ad 27)) (C := RX6) (T := TX6) (N := 16) hx hb hts inX6 hown hK.1 hP 0 rfl rfl 11 (by decide) (hts (.fieldLink RX6 37 "ColourForestsModel" "ranks" "[I") (List.mem_of_getElem? (i := 6) rfl)) (fun _ h9 => h9) rfl dX6_learn_178 ?_
                                  refine lv_iload_n hx hb dX6_learn_181 rfl (lv_at hl 4 rfl) ?_
                                  refine lv_iload_n hx hb dX6_learn_182 rfl (lv_at hl 2 rfl) ?_
                                  refine lv_iadd hx hb dX6_learn_183 ?_
                                  refine lv_as (y := (nI ((16384 * kd) + sm))) (nI_add _ _) ?_
                                  refine rd_i (k := ((16384 * kd) + sm)) (v := (nI (mxR (rN g kd) sm e))) hx hb hK hP 7 rfl (by omega) (by decide) hv3 dX6_learn_184 ?_
                                  refine n_le (a := (rN g kd (ms_sd sm (2 ^ e)))) (b := (mxR (rN g kd) sm e)) (tgt := 193) hx hb dX6_learn_185 (by decide) (by omega) (by omega) (fun c185 => ?_) (fun c185 => ?_)
                                  · refine lv_aload_n hx hb dX6_learn_193 rfl (lv_at hl 1 rfl) ?_
                                    refine va_get (D := D) (ci := 5) (v := .ref (ad 27)) (C := RX6) (T := TX6) (N := 16) hx hb hts inX6 hown hK.1 hP 0 rfl rfl 11 (by decide) (hts (.fieldLink RX6 37 "ColourForestsModel" "ranks" "[I") (List.mem_of_getElem? (i := 6) rfl)) (fun _ h9 => h9) rfl dX6_learn_194 ?_
                                    refine lv_iload_n hx hb dX6_learn_197 rfl (lv_at hl 4 rfl) ?_
                                    refine lv_iload_n hx hb dX6_learn_198 rfl (lv_at hl 2 rfl) ?_
                                    refine lv_iadd hx hb dX6_learn_199 ?_
                                    refine lv_as (y := (nI ((16384 * kd) + sm))) (nI_add _ _) ?_
                                    refine rd_i (k := ((16384 * kd) + sm)) (v := (nI (mxR (rN g kd) sm e))) hx hb hK hP 7 rfl (by omega) (by decide) hv3 dX6_learn_200 ?_
                                    refine st_i (k := ((16384 * kd) + sm)) (g := (upd fr3 ((16384 * kd) + sm) ((nI (mxR (rN g kd) sm e))))) hx hb hK hP hD hS 7 rfl (by omega) (by decide) rfl dX6_learn_201 (fun H locs hP hD hS => ?_)
                                    have hP : va_P D vwCl [(ad 20, .inr (5, [.int th, .int (nI (gV g)), .int (nI (gC g)), .int (nI (gE g)), .ref (ad 21), .ref (ad 22), .ref (ad 23), .ref (ad 24), .ref (ad 25), .int (bI true), .ref (ad 26), .ref (ad 27), .ref (ad 28), .int (nI (mo g sm)), .ref (ad 29), .ref (ad 30)])), (ad 21, .inl (cy 0, 6, .inl (fun i => nI (gL g i)))), (ad 22, .inl (cy 0, 14, .inl (fun i => nI (gF g i)))), (ad 23, .inl (cy 0, 14, .inl (fun i => nI (gS g i)))), (ad 24, .inl (cy 0, 14, .inl (fun i => nI (gH g i)))), (ad 25, .inl (cy 0, 14, .inl (fun i => zI (gW g i)))), (ad 26, .inl (cy 1, 32768, .inl ff1)), (ad 27, .inl (cy 0, 32768, .inl (upd fr3 ((16384 * kd) + sm) ((nI (mxR (rN g kd) sm e)))))), (ad 28, .inl (cy 0, 15, .inl fb)), (ad 29, .inl (cy 0, 8, .inl u58)), (ad 30, .inl (cy 0, 6, .inl u73))] H := hP
                                    have hD : va_D (inW (wM cy ad g th (bI kb) ms ff fr_ fb fp fc)) [(ad 20, .inr (5, [.int th, .int (nI (gV g)), .int (nI (gC g)), .int (nI (gE g)), .ref (ad 21), .ref (ad 22), .ref (ad 23), .ref (ad 24), .ref (ad 25), .int (bI true), .ref (ad 26), .ref (ad 27), .ref (ad 28), .int (nI (mo g sm)), .ref (ad 29), .ref (ad 30)])), (ad 21, .inl (cy 0, 6, .inl (fun i => nI (gL g i)))), (ad 22, .inl (cy 0, 14, .inl (fun i => nI (gF g i)))), (ad 23, .inl (cy 0, 14, .inl (fun i => nI (gS g i)))), (ad 24, .inl (cy 0, 14, .inl (fun i => nI (gH g i)))), (ad 25, .inl (cy 0, 14, .inl (fun i => zI (gW g i)))), (ad 26, .inl (cy 1, 32768, .inl ff1)), (ad 27, .inl (cy 0, 32768, .inl (upd fr3 ((16384 * kd) + sm) ((nI (mxR (rN g kd) sm e)))))), (ad 28, .inl (cy 0, 15, .inl fb)), (ad 29, .inl (cy 0, 8, .inl u58)), (ad 30, .inl (cy 0, 6, .inl u73))] := hD
                                    refine lv_iinc (v := (nI (e + 1))) (lv' := [(4, .int (nI (e + 1))), (5, .int (nI (rN g kd (ms_sd sm (2 ^ e))))), (0, .ref (ad 20)), (1, .int (nI sm)), (2, .int (nI kd)), (3, .int (nI (16384 * kd)))]) hx hb dX6_learn_202 hl (k := 5) rfl (ni_inc _) (by decide) rfl (fun ls hl => ?_)
                                    refine lv_goto (tgt := 120) hx hb dX6_learn_205 (by decide) ?_
                                    exact ih120 (e + 1) ((upd fr3 ((16384 * kd) + sm) ((nI (mxR (rN g kd) sm e))))) ⟨by omega, by omega⟩ (fun i hi => by rw [upd_ne hi]; exact ho i hi) (by rw [upd_eq]; first | (rw [mxR_y c146]; congr 1; omega) | (rw [mxR_n c146]; congr 1; omega)) _ _ hP hD hS _ (lv_sub hl [2, 3, 4, 5, 0] rfl)
                                  · refine lv_iload hx hb dX6_learn_188 (lv_at hl 0 rfl) ?_
                                    refine lv_goto (tgt := 201) hx hb dX6_learn_190 (by decide) ?_
                                    refine st_i (k := ((16384 * kd) + sm)) (g := (upd fr3 ((16384 * kd) + sm) ((nI (rN g kd (ms_sd sm (2 ^ e))))))) hx hb hK hP hD hS 7 rfl (by omega) (by decide) rfl dX6_learn_201 (fun H locs hP hD hS => ?_)
                                    have hP : va_P D vwCl [(ad 20, .inr (5, [.int th, .int (nI (gV g)), .int (nI (gC g)), .int (nI (gE g)), .ref (ad 21), .ref (ad 22), .ref (ad 23), .ref (ad 24), .ref (ad 25), .int (bI true), .ref (ad 26), .ref (ad 27), .ref (ad 28), .int (nI (mo g sm)), .ref (ad 29), .ref (ad 30)])), (ad 21, .inl (cy 0, 6, .inl (fun i => nI (gL g i)))), (ad 22, .inl (cy 0, 14, .inl (fun i => nI (gF g i)))), (ad 23, .inl (cy 0, 14, .inl (fun i => nI (gS g i)))), (ad 24, .inl (cy 0, 14, .inl (fun i => nI (gH g i)))), (ad 25, .inl (cy 0, 14, .inl (fun i => zI (gW g i)))), (ad 26, .inl (cy 1, 32768, .inl ff1)), (ad 27, .inl (cy 0, 32768, .inl (upd fr3 ((16384 * kd) + sm) ((nI (rN g kd (ms_sd sm (2 ^ e)))))))), (ad 28, .inl (cy 0, 15, .inl fb)), (ad 29, .inl (cy 0, 8, .inl u58)), (ad 30, .inl (cy 0, 6, .inl u73))] H := hP
                                    have hD : va_D (inW (wM cy ad g th (bI kb) ms ff fr_ fb fp fc)) [(ad 20, .inr (5, [.int th, .int (nI (gV g)), .int (nI (gC g)), .int (nI (gE g)), .ref (ad 21), .ref (ad 22), .ref (ad 23), .ref (ad 24), .ref (ad 25), .int (bI true), .ref (ad 26), .ref (ad 27), .ref (ad 28), .int (nI (mo g sm)), .ref (ad 29), .ref (ad 30)])), (ad 21, .inl (cy 0, 6, .inl (fun i => nI (gL g i)))), (ad 22, .inl (cy 0, 14, .inl (fun i => nI (gF g i)))), (ad 23, .inl (cy 0, 14, .inl (fun i => nI (gS g i)))), (ad 24, .inl (cy 0, 14, .inl (fun i => nI (gH g i)))), (ad 25, .inl (cy 0, 14, .inl (fun i => zI (gW g i)))), (ad 26, .inl (cy 1, 32768, .inl ff1)), (ad 27, .inl (cy 0, 32768, .inl (upd fr3 ((16384 * kd) + sm) ((nI (rN g kd (ms_sd sm (2 ^ e)))))))), (ad 28, .inl (cy 0, 15, .inl fb)), (ad 29, .inl (cy 0, 8, .inl u58)), (ad 30, .inl (cy 0, 6, .inl u73))] := hD
                                    refine lv_iinc (v := (nI (e + 1))) (lv' := [(4, .int (nI (e + 1))), (5, .int (nI (rN g kd (ms_sd sm (2 ^ e))))), (0, .ref (ad 20)), (1, .int (nI sm)), (2, .int (nI kd)), (3, .int (nI (16384 * kd)))]) hx hb dX6_learn_202 hl (k := 5) rfl (ni_inc _) (by decide) rfl (fun ls hl => ?_)
                                    refine lv_goto (tgt := 120) hx hb dX6_learn_205 (by decide) ?_
                                    exact ih120 (e + 1) ((upd fr3 ((16384 * kd) + sm) ((nI (rN g kd (ms_sd sm (2 ^ e))))))) ⟨by omega, by omega⟩ (fun i hi => by rw [upd_ne hi]; exact ho i hi) (by rw [upd_eq]; first | (rw [mxR_y c146]; congr 1; omega) | (rw [mxR_n c146]; congr 1; omega)) _ _ hP hD hS _ (lv_sub hl [2, 3, 4, 5, 0] rfl)
                        exact L120 (gE g + 1) 0 ((upd fr2 ((16384 * kd) + sm) ((nI 0)))) ⟨by omega, by omega⟩ (fun i hi => upd_ne hi) upd_eq _ _ hP hD hS _ (lv_sub hl [2, 3, 4, 1, 0] rfl)
                      · refine lv_iload_n hx hb dX6_learn_108 rfl (lv_at hl 2 rfl) ?_
                        refine pu_call (va_runS (As := [.int (nI sm)]) (rest := [.int (nI ((16384 * kd) + sm)), .ref (ad 27)]) ⟨hx, hb, hml, hown, hts⟩ (c_X6_size l D cy (S := sm) (by omega)) (va_cwS 1 hts gX6_learn_X6_size rfl rfl rfl (by decide +kernel) ⟨Nat.le_of_ble_eq_true rfl, Nat.le_of_ble_eq_true rfl⟩) (PU_preS hK hP [] rfl) rfl rfl hl.1 rfl (lv_room (Nat.le_of_ble_eq_true rfl)) dX6_learn_109 ⟨(Nat.zero_le _), (Nat.zero_le _)⟩) hS hP (fun H locs hP hS => ?_)
                        refine lv_goto (tgt := 116) hx hb dX6_learn_112 (by decide) ?_
                        refine st_i (k := ((16384 * kd) + sm)) (g := (upd fr2 ((16384 * kd) + sm) ((nI (ms_card 14 sm))))) hx hb hK hP hD hS 7 rfl (by omega) (by decide) rfl dX6_learn_116 (fun H locs hP hD hS => ?_)
                        have hP : va_P D vwCl [(ad 20, .inr (5, [.int th, .int (nI (gV g)), .int (nI (gC g)), .int (nI (gE g)), .ref (ad 21), .ref (ad 22), .ref (ad 23), .ref (ad 24), .ref (ad 25), .int (bI true), .ref (ad 26), .ref (ad 27), .ref (ad 28), .int (nI (mo g sm)), .ref (ad 29), .ref (ad 30)])), (ad 21, .inl (cy 0, 6, .inl (fun i => nI (gL g i)))), (ad 22, .inl (cy 0, 14, .inl (fun i => nI (gF g i)))), (ad 23, .inl (cy 0, 14, .inl (fun i => nI (gS g i)))), (ad 24, .inl (cy 0, 14, .inl (fun i => nI (gH g i)))), (ad 25, .inl (cy 0, 14, .inl (fun i => zI (gW g i)))), (ad 26, .inl (cy 1, 32768, .inl ff1)), (ad 27, .inl (cy 0, 32768, .inl (upd fr2 ((16384 * kd) + sm) ((nI (ms_card 14 sm)))))), (ad 28, .inl (cy 0, 15, .inl fb)), (ad 29, .inl (cy 0, 8, .inl u58)), (ad 30, .inl (cy 0, 6, .inl u73))] H := hP
                        have hD : va_D (inW (wM cy ad g th (bI kb) ms ff fr_ fb fp fc)) [(ad 20, .inr (5, [.int th, .int (nI (gV g)), .int (nI (gC g)), .int (nI (gE g)), .ref (ad 21), .ref (ad 22), .ref (ad 23), .ref (ad 24), .ref (ad 25), .int (bI true), .ref (ad 26), .ref (ad 27), .ref (ad 28), .int (nI (mo g sm)), .ref (ad 29), .ref (ad 30)])), (ad 21, .inl (cy 0, 6, .inl (fun i => nI (gL g i)))), (ad 22, .inl (cy 0, 14, .inl (fun i => nI (gF g i)))), (ad 23, .inl (cy 0, 14, .inl (fun i => nI (gS g i)))), (ad 24, .inl (cy 0, 14, .inl (fun i => nI (gH g i)))), (ad 25, .inl (cy 0, 14, .inl (fun i => zI (gW g i)))), (ad 26, .inl (cy 1, 32768, .inl ff1)), (ad 27, .inl (cy 0, 32768, .inl (upd fr2 ((16384 * kd) + sm) ((nI (ms_card 14 sm)))))), (ad 28, .inl (cy 0, 15, .inl fb)), (ad 29, .inl (cy 0, 8, .inl u58)), (ad 30, .inl (cy 0, 6, .inl u73))] := hD
                        refine lv_iconst (v := nI 0) hx hb dX6_learn_117 (by decide) ?_
                        refine lv_istore (lv' := [(4, .int (nI 0)), (3, .int (nI (16384 * kd))), (0, .ref (ad 20)), (1, .int (nI sm)), (2, .int (nI kd))]) hx hb dX6_learn_118 hl (by decide) rfl (fun ls hl => ?_)
                        refine lv_iload hx hb dX6_learn_120 (lv_at hl 0 rfl) ?_
                        refine lv_aload_n hx hb dX6_learn_122 rfl (lv_at hl 2 rfl) ?_
                        refine va_get (D := D) (ci := 5) (v := .int (nI (gE g))) (C := RX6) (T := TX6) (N := 16) hx hb hts inX6 hown hK.1 hP 0 rfl rfl 3 (by decide) (hts (.fieldLink RX6 56 "ColourForestsModel" "edges" "I") (List.mem_of_getElem? (i := 4) rfl)) (fun _ h9 => h9) rfl dX6_learn_123 ?_
                        refine n_ge (a := 0) (b := (gE g)) (tgt := 208) hx hb dX6_learn_126 (by decide) (by omega) (by omega) (fun c126 => ?_) (fun c126 => ?_)
                        · refine lv_iinc (v := (nI (kd + 1))) (lv' := [(2, .int (nI (kd + 1))), (4, .int (nI 0)), (3, .int (nI (16384 * kd))), (0, .ref (ad 20)), (1, .int (nI sm))]) hx hb dX6_learn_208 hl (k := 4) rfl (ni_inc _) (by decide) rfl (fun ls hl => ?_)
                          refine lv_goto (tgt := 79) hx hb dX6_learn_211 (by decide) ?_
                          exact ih79 (kd + 1) ((upd fr2 ((16384 * kd) + sm) ((nI (ms_card 14 sm))))) ⟨by omega, by omega⟩ (lrR_keep (kd := kd) (by omega) hR2 (fun i hi => upd_ne hi)) (kdR_s hKd (fun i hi => upd_ne hi) (by rw [upd_eq, (fN_iff hg (by omega)).mp c105])) _ _ hP hD hS _ (lv_sub hl [3, 4, 0] rfl)
                        · refine lv_aload_n hx hb dX6_learn_129 rfl (lv_at hl 2 rfl) ?_
                          refine va_get (D := D) (ci := 5) (v := .ref (ad 26)) (C := RX6) (T := TX6) (N := 16) hx hb hts inX6 hown hK.1 hP 0 rfl rfl 10 (by decide) (hts (.fieldLink RX6 33 "ColourForestsModel" "free" "[Z") (List.mem_of_getElem? (i := 5) rfl)) (fun _ h9 => h9) rfl dX6_learn_130 ?_
                          refine lv_iload_n hx hb dX6_learn_133 rfl (lv_at hl 1 rfl) ?_
                          refine lv_iload_n hx hb dX6_learn_134 rfl (lv_at hl 3 rfl) ?_
                          refine lv_iadd hx hb dX6_learn_135 ?_
                          refine lv_as (y := (nI ((16384 * kd) + sm))) (nI_add _ _) ?_
                          refine rd_z (k := ((16384 * kd) + sm)) (v := (bI (fN g kd sm))) hx hb hK hP 6 rfl (by omega) (by decide) (hF1 kd sm (by omega) (by omega)) dX6_learn_136 ?_
                          refine b_ne (b := (fN g kd sm)) (tgt := 208) hx hb dX6_learn_137 (by decide) (fun c137 => ?_) (fun c137 => ?_)
                          · refine lv_iinc (v := (nI (kd + 1))) (lv' := [(2, .int (nI (kd + 1))), (4, .int (nI 0)), (3, .int (nI (16384 * kd))), (0, .ref (ad 20)), (1, .int (nI sm))]) hx hb dX6_learn_208 hl (k := 4) rfl (ni_inc _) (by decide) rfl (fun ls hl => ?_)
                            refine lv_goto (tgt := 79) hx hb dX6_learn_211 (by decide) ?_
                            exact ih79 (kd + 1) ((upd fr2 ((16384 * kd) + sm) ((nI (ms_card 14 sm))))) ⟨by omega, by omega⟩ (lrR_keep (kd := kd) (by omega) hR2 (fun i hi => upd_ne hi)) (kdR_s hKd (fun i hi => upd_ne hi) (by rw [upd_eq, (fN_iff hg (by omega)).mp c105])) _ _ hP hD hS _ (lv_sub hl [3, 4, 0] rfl)
                          · exact absurd (c105.symm.trans c137) (by decide)
                exact L79 3 0 fr_ ⟨by omega, by omega⟩ hR kdR_0 _ _ hP hD hS _ (lv_sub hl [1, 2, 0] rfl)
          exact L41 (2 ^ gE g + 1) 0 ff fr_ q fp fc ⟨Nat.zero_le _, by omega⟩ (fun k S hk hS => by omega) (fun k S hk hS => by omega) (lrB_0 (fun k hk => hq k (by omega))) _ _ hP hD hS _ (lv_sub hl [1, 0] rfl)
        · refine lv_aload_n hx hb dX6_learn_26 rfl (lv_at hl 0 rfl) ?_
          refine va_get (D := D) (ci := 5) (v := .ref (ad 28)) (C := RX6) (T := TX6) (N := 16) hx hb hts inX6 hown hK.1 hP 0 rfl rfl 12 (by decide) (hts (.fieldLink RX6 40 "ColourForestsModel" "best" "[I") (List.mem_of_getElem? (i := 3) rfl)) (fun _ h9 => h9) rfl dX6_learn_27 ?_
          refine lv_iload_n hx hb dX6_learn_30 rfl (lv_at hl 1 rfl) ?_
          refine lv_iconst (v := zI (-1)) hx hb dX6_learn_31 (by decide) ?_
          refine st_i (k := k9) (g := (upd q k9 ((zI (-1))))) hx hb hK hP hD hS 8 rfl (by omega) (by decide) rfl dX6_learn_32 (fun H locs hP hD hS => ?_)
          have hP : va_P D vwCl [(ad 20, .inr (5, [.int th, .int (nI (gV g)), .int (nI (gC g)), .int (nI (gE g)), .ref (ad 21), .ref (ad 22), .ref (ad 23), .ref (ad 24), .ref (ad 25), .int (bI true), .ref (ad 26), .ref (ad 27), .ref (ad 28), .int (nI 0), .ref (ad 29), .ref (ad 30)])), (ad 21, .inl (cy 0, 6, .inl (fun i => nI (gL g i)))), (ad 22, .inl (cy 0, 14, .inl (fun i => nI (gF g i)))), (ad 23, .inl (cy 0, 14, .inl (fun i => nI (gS g i)))), (ad 24, .inl (cy 0, 14, .inl (fun i => nI (gH g i)))), (ad 25, .inl (cy 0, 14, .inl (fun i => zI (gW g i)))), (ad 26, .inl (cy 1, 32768, .inl ff)), (ad 27, .inl (cy 0, 32768, .inl fr_)), (ad 28, .inl (cy 0, 15, .inl (upd q k9 ((zI (-1)))))), (ad 29, .inl (cy 0, 8, .inl fp)), (ad 30, .inl (cy 0, 6, .inl fc))] H := hP
          have hD : va_D (inW (wM cy ad g th (bI kb) ms ff fr_ fb fp fc)) [(ad 20, .inr (5, [.int th, .int (nI (gV g)), .int (nI (gC g)), .int (nI (gE g)), .ref (ad 21), .ref (ad 22), .ref (ad 23), .ref (ad 24), .ref (ad 25), .int (bI true), .ref (ad 26), .ref (ad 27), .ref (ad 28), .int (nI 0), .ref (ad 29), .ref (ad 30)])), (ad 21, .inl (cy 0, 6, .inl (fun i => nI (gL g i)))), (ad 22, .inl (cy 0, 14, .inl (fun i => nI (gF g i)))), (ad 23, .inl (cy 0, 14, .inl (fun i => nI (gS g i)))), (ad 24, .inl (cy 0, 14, .inl (fun i => nI (gH g i)))), (ad 25, .inl (cy 0, 14, .inl (fun i => zI (gW g i)))), (ad 26, .inl (cy 1, 32768, .inl ff)), (ad 27, .inl (cy 0, 32768, .inl fr_)), (ad 28, .inl (cy 0, 15, .inl (upd q k9 ((zI (-1)))))), (ad 29, .inl (cy 0, 8, .inl fp)), (ad 30, .inl (cy 0, 6, .inl fc))] := hD
          refine lv_iinc (v := (nI (k9 + 1))) (lv' := [(1, .int (nI (k9 + 1))), (0, .ref (ad 20))]) hx hb dX6_learn_33 hl (k := 1) rfl (ni_inc _) (by decide) rfl (fun ls hl => ?_)
          refine lv_goto (tgt := 20) hx hb dX6_learn_36 (by decide) ?_
          exact ih20 (k9 + 1) ((upd q k9 (zI (-1)))) ⟨by omega, by omega⟩ (fun j hj => by by_cases z : j = k9; (rw [z]; exact upd_eq); (rw [upd_ne z]; exact hq j (by omega))) _ _ hP hD hS _ (lv_sub hl [1, 0] rfl)
    exact L20 16 0 fb ⟨by omega, by omega⟩ (fun j hj => by omega) _ _ hP hD hS _ (lv_sub hl [1, 0] rfl)
  · subst c4
    obtain ⟨h1, h2, h3, h4⟩ := hv rfl
    subst h4
    exact wv_ret (ff, fr_, fb, fp, fc) hx hb hr hlocks hS hP ⟨h1, h2, h3⟩ dX6_learn_7
set_option maxHeartbeats 4000000 in
set_option maxRecDepth 100000 in
theorem c_X6_rank_no (l : Launch) (D : va_G) (cy : Nat → ClassId) (ad : Nat → Nat) {g : GT} (hg : gOK g) (th kn ms : Int32) {x y : Int32} (h : (decide (x = 0 ∨ x = nI 1) && isN y (2 ^ gE g)) = false) : WI l yX6_rank wsX6_rank ({ frames := 1, cells := 0, slots := 0, locals := 21 }) D cy [.ref (ad 20), .int x, .int y] [(ad 20, .inr (5, [.int th, .int (nI (gV g)), .int (nI (gC g)), .int (nI (gE g)), .ref (ad 21), .ref (ad 22), .ref (ad 23), .ref (ad 24), .ref (ad 25), .int kn, .ref (ad 26), .ref (ad 27), .ref (ad 28), .int ms, .ref (ad 29), .ref (ad 30)]))] (fun (r : Int32) (_ : Unit) => r = zI (-1)) (fun _ : Unit => [(ad 20, .inr (5, [.int (nI 0), .int (nI (gV g)), .int (nI (gC g)), .int (nI (gE g)), .ref (ad 21), .ref (ad 22), .ref (ad 23), .ref (ad 24), .ref (ad 25), .int kn, .ref (ad 26), .ref (ad 27), .ref (ad 28), .int ms, .ref (ad 29), .ref (ad 30)]))]) := by
  refine Met.ofW (cc := cX6_rank) (maxL := 3) (ret := (some .int)) (by decide) rfl ?_
  intro p ev s m args below meth c s₁ B hml hv
  obtain ⟨rfl, ⟨hK, hP⟩, hD0⟩ := hv
  have hx := B.exec
  have hb := B.bytes
  have hr := B.returns
  have hts := atoms_spec (ws := wsX6_rank) B.pre
  have hown : s.vm.findClass RX6 = some m.cls := findClass_of_methodNamed B.named
  have hlocks := B.notSynchronized
  have hD : va_D (inW [(ad 20, .inr (5, [.int th, .int (nI (gV g)), .int (nI (gC g)), .int (nI (gE g)), .ref (ad 21), .ref (ad 22), .ref (ad 23), .ref (ad 24), .ref (ad 25), .int kn, .ref (ad 26), .ref (ad 27), .ref (ad 28), .int ms, .ref (ad 29), .ref (ad 30)]))]) ([(ad 20, .inr (5, [.int th, .int (nI (gV g)), .int (nI (gC g)), .int (nI (gE g)), .ref (ad 21), .ref (ad 22), .ref (ad 23), .ref (ad 24), .ref (ad 25), .int kn, .ref (ad 26), .ref (ad 27), .ref (ad 28), .int ms, .ref (ad 29), .ref (ad 30)]))]) := inW_self hD0
  have hS : va_S (inW [(ad 20, .inr (5, [.int th, .int (nI (gV g)), .int (nI (gC g)), .int (nI (gE g)), .ref (ad 21), .ref (ad 22), .ref (ad 23), .ref (ad 24), .ref (ad 25), .int kn, .ref (ad 26), .ref (ad 27), .ref (ad 28), .int ms, .ref (ad 29), .ref (ad 30)]))]) s.heap s.heap [] := va_S.rf
  have hP : va_P D vwCl [(ad 20, .inr (5, [.int th, .int (nI (gV g)), .int (nI (gC g)), .int (nI (gE g)), .ref (ad 21), .ref (ad 22), .ref (ad 23), .ref (ad 24), .ref (ad 25), .int kn, .ref (ad 26), .ref (ad 27), .ref (ad 28), .int ms, .ref (ad 29), .ref (ad 30)]))] s.heap := hP
  have inX6 : ∀ w ∈ wsX60, w ∈ wsX6_rank := by decide +kernel
  have hl := lv_entry ([.ref (ad 20), .int x, .int y]) (n := 3) (Nat.le_of_ble_eq_true rfl)
  rw [lg_entry_eq]
  generalize (lg_sl ([.ref (ad 20), .int x, .int y]) ++ List.replicate (3 - (lg_sl ([.ref (ad 20), .int x, .int y])).length) Slot.unset).toArray = ls at hl ⊢
  have hl : lv_has ls 3 [(0, .ref (ad 20)), (1, .int x), (2, .int y)] := hl
  have hgen := True.intro
  have hE := hg.2.2.1
  have hV := hg.1
  have hC := hg.2.1
  have hS8 : 2 ^ gE g ≤ 2 ^ 14 := Nat.pow_le_pow_right (by decide) hE
  refine lv_aload_n hx hb dX6_rank_0 rfl (lv_at hl 0 rfl) ?_
  refine lv_iconst (v := nI 0) hx hb dX6_rank_1 (by decide) ?_
  refine va_put (D := D) (ci := 5) (v := .int (nI 0)) (ty := .int) (C := RX6) (T := TX6) (N := 16) hx hb hts inX6 tyX6 tyX6_ok nmX6 hown hK.1 hP hD hS 0 rfl rfl 0 (by decide) (hts (.fieldLink RX6 49 "ColourForestsModel" "thrown" "I") (List.mem_of_getElem? (i := 1) rfl)) (fun _ h9 => h9) rfl (by decide +kernel) rfl rfl (Nat.le_of_ble_eq_true rfl) dX6_rank_2 (fun H locs hP hD hS => ?_)
  have hP : va_P D vwCl [(ad 20, .inr (5, [.int (nI 0), .int (nI (gV g)), .int (nI (gC g)), .int (nI (gE g)), .ref (ad 21), .ref (ad 22), .ref (ad 23), .ref (ad 24), .ref (ad 25), .int kn, .ref (ad 26), .ref (ad 27), .ref (ad 28), .int ms, .ref (ad 29), .ref (ad 30)]))] H := hP
  have hD : va_D (inW [(ad 20, .inr (5, [.int th, .int (nI (gV g)), .int (nI (gC g)), .int (nI (gE g)), .ref (ad 21), .ref (ad 22), .ref (ad 23), .ref (ad 24), .ref (ad 25), .int kn, .ref (ad 26), .ref (ad 27), .ref (ad 28), .int ms, .ref (ad 29), .ref (ad 30)]))]) [(ad 20, .inr (5, [.int (nI 0), .int (nI (gV g)), .int (nI (gC g)), .int (nI (gE g)), .ref (ad 21), .ref (ad 22), .ref (ad 23), .ref (ad 24), .ref (ad 25), .int kn, .ref (ad 26), .ref (ad 27), .ref (ad 28), .int ms, .ref (ad 29), .ref (ad 30)]))] := hD
  refine lv_iload_n hx hb dX6_rank_5 rfl (lv_at hl 1 rfl) ?_
  refine pu_call (va_runS (As := [.int x]) (rest := []) ⟨hx, hb, hml, hown, hts⟩ (c_X6_isKind l D cy x) (va_cwS 1 hts gX6_rank_X6_isKind rfl rfl rfl (by decide +kernel) ⟨Nat.le_of_ble_eq_true rfl, Nat.le_of_ble_eq_true rfl⟩) (PU_preS hK hP [] rfl) rfl rfl hl.1 rfl (lv_room (Nat.le_of_ble_eq_true rfl)) dX6_rank_6 ⟨(Nat.zero_le _), (Nat.zero_le _)⟩) hS hP (fun H locs hP hS => ?_)
  refine b_eq (b := (decide (x = 0 ∨ x = nI 1))) (tgt := 20) hx hb dX6_rank_9 (by decide) (fun c9 => ?_) (fun c9 => ?_)
  · have c9 := of_decide_eq_false c9
    refine lv_iconst (v := zI (-1)) hx hb dX6_rank_20 (by decide) ?_
    exact wi_ret () hx hb hr hlocks hS hP rfl dX6_rank_21
  · have c9 := of_decide_eq_true c9
    refine lv_aload_n hx hb dX6_rank_12 rfl (lv_at hl 0 rfl) ?_
    refine lv_iload_n hx hb dX6_rank_13 rfl (lv_at hl 2 rfl) ?_
    refine pu_call (va_runV (As := [.int y]) (rest := []) ⟨hx, hb, hml, hown, hts⟩ (c_X6_isSet l D cy ad hg ((nI 0)) kn ms y) (cwV 1 hts gX6_rank_X6_isSet rfl rfl rfl (by decide +kernel) ⟨Nat.le_of_ble_eq_true rfl, Nat.le_of_ble_eq_true rfl⟩) (PU_preV (ci := 5) (q0 := 0) hK hP 0 rfl rfl [0] rfl) rfl rfl hl.1 rfl (lv_room (Nat.le_of_ble_eq_true rfl)) dX6_rank_14 ⟨(Nat.zero_le _), (Nat.zero_le _)⟩) hS hP (fun H locs hP hS => ?_)
    refine b_ne (b := (isN y (2 ^ gE g))) (tgt := 22) hx hb dX6_rank_17 (by decide) (fun c17 => ?_) (fun c17 => ?_)
    · exact absurd h (by rw [decide_eq_true c9, c17]; decide)
    · refine lv_iconst (v := zI (-1)) hx hb dX6_rank_20 (by decide) ?_
      exact wi_ret () hx hb hr hlocks hS hP rfl dX6_rank_21

set_option maxHeartbeats 4000000 in
set_option maxRecDepth 100000 in
theorem c_X6_rank_yes (l : Launch) (D : va_G) (cy : Nat → ClassId) (ad : Nat → Nat) {g : GT} (hg : gOK g) (th : Int32) {kb : Bool} {ms : Int32} {ff fr_ fb fp fc : Nat → Int32} (hv9 : kb = true → lrF g (2 ^ gE g) ff ∧ lrR g (2 ^ gE g) fr_ ∧ lrB g (2 ^ gE g) fb ∧ ms = nI (mo g (2 ^ gE g))) {kd S : Nat} (hk9 : kd < 2) (hS9 : S < 2 ^ gE g) : WI l yX6_rank wsX6_rank ({ frames := 3, cells := 0, slots := 0, locals := 71 }) D cy [.ref (ad 20), .int (nI kd), .int (nI S)] (wM cy ad g th (bI kb) ms ff fr_ fb fp fc) (fun (r : Int32) (u : (Nat → Int32) × (Nat → Int32) × (Nat → Int32) × (Nat → Int32) × (Nat → Int32)) => r = nI (rN g kd S) ∧ lrF g (2 ^ gE g) u.1 ∧ lrR g (2 ^ gE g) u.2.1 ∧ lrB g (2 ^ gE g) u.2.2.1) (fun u : (Nat → Int32) × (Nat → Int32) × (Nat → Int32) × (Nat → Int32) × (Nat → Int32) => wM cy ad g (nI 0) (bI true) (nI (mo g (2 ^ gE g))) u.1 u.2.1 u.2.2.1 u.2.2.2.1 u.2.2.2.2) := by
  refine Met.ofW (cc := cX6_rank) (maxL := 3) (ret := (some .int)) (by decide) rfl ?_
  intro p ev s m args below meth c s₁ B hml hv
  obtain ⟨rfl, ⟨hK, hP⟩, hD0⟩ := hv
  have hx := B.exec
  have hb := B.bytes
  have hr := B.returns
  have hts := atoms_spec (ws := wsX6_rank) B.pre
  have hown : s.vm.findClass RX6 = some m.cls := findClass_of_methodNamed B.named
  have hlocks := B.notSynchronized
  have hD : va_D (inW (wM cy ad g th (bI kb) ms ff fr_ fb fp fc)) (wM cy ad g th (bI kb) ms ff fr_ fb fp fc) := inW_self hD0
  have hS : va_S (inW (wM cy ad g th (bI kb) ms ff fr_ fb fp fc)) s.heap s.heap [] := va_S.rf
  have hP : va_P D vwCl (wM cy ad g th (bI kb) ms ff fr_ fb fp fc) s.heap := hP
  have inX6 : ∀ w ∈ wsX60, w ∈ wsX6_rank := by decide +kernel
  have hl := lv_entry ([.ref (ad 20), .int (nI kd), .int (nI S)]) (n := 3) (Nat.le_of_ble_eq_true rfl)
  rw [lg_entry_eq]
  generalize (lg_sl ([.ref (ad 20), .int (nI kd), .int (nI S)]) ++ List.replicate (3 - (lg_sl ([.ref (ad 20), .int (nI kd), .int (nI S)])).length) Slot.unset).toArray = ls at hl ⊢
  have hl : lv_has ls 3 [(0, .ref (ad 20)), (1, .int (nI kd)), (2, .int (nI S))] := hl
  have hgen := True.intro
  have hE := hg.2.2.1
  have hV := hg.1
  have hC := hg.2.1
  have hS8 : 2 ^ gE g ≤ 2 ^ 14 := Nat.pow_le_pow_right (by decide) hE
  refine lv_aload_n hx hb dX6_rank_0 rfl (lv_at hl 0 rfl) ?_
  refine lv_iconst (v := nI 0) hx hb dX6_rank_1 (by decide) ?_
  refine va_put (D := D) (ci := 5) (v := .int (nI 0)) (ty := .int) (C := RX6) (T := TX6) (N := 16) hx hb hts inX6 tyX6 tyX6_ok nmX6 hown hK.1 hP hD hS 0 rfl rfl 0 (by decide) (hts (.fieldLink RX6 49 "ColourForestsModel" "thrown" "I") (List.mem_of_getElem? (i := 1) rfl)) (fun _ h9 => h9) rfl (by decide +kernel) rfl rfl (Nat.le_of_ble_eq_true rfl) dX6_rank_2 (fun H locs hP hD hS => ?_)
  have hP : va_P D vwCl [(ad 20, .inr (5, [.int (nI 0), .int (nI (gV g)), .int (nI (gC g)), .int (nI (gE g)), .ref (ad 21), .ref (ad 22), .ref (ad 23), .ref (ad 24), .ref (ad 25), .int (bI kb), .ref (ad 26), .ref (ad 27), .ref (ad 28), .int ms, .ref (ad 29), .ref (ad 30)])), (ad 21, .inl (cy 0, 6, .inl (fun i => nI (gL g i)))), (ad 22, .inl (cy 0, 14, .inl (fun i => nI (gF g i)))), (ad 23, .inl (cy 0, 14, .inl (fun i => nI (gS g i)))), (ad 24, .inl (cy 0, 14, .inl (fun i => nI (gH g i)))), (ad 25, .inl (cy 0, 14, .inl (fun i => zI (gW g i)))), (ad 26, .inl (cy 1, 32768, .inl ff)), (ad 27, .inl (cy 0, 32768, .inl fr_)), (ad 28, .inl (cy 0, 15, .inl fb)), (ad 29, .inl (cy 0, 8, .inl fp)), (ad 30, .inl (cy 0, 6, .inl fc))] H := hP
  have hD : va_D (inW (wM cy ad g th (bI kb) ms ff fr_ fb fp fc)) [(ad 20, .inr (5, [.int (nI 0), .int (nI (gV g)), .int (nI (gC g)), .int (nI (gE g)), .ref (ad 21), .ref (ad 22), .ref (ad 23), .ref (ad 24), .ref (ad 25), .int (bI kb), .ref (ad 26), .ref (ad 27), .ref (ad 28), .int ms, .ref (ad 29), .ref (ad 30)])), (ad 21, .inl (cy 0, 6, .inl (fun i => nI (gL g i)))), (ad 22, .inl (cy 0, 14, .inl (fun i => nI (gF g i)))), (ad 23, .inl (cy 0, 14, .inl (fun i => nI (gS g i)))), (ad 24, .inl (cy 0, 14, .inl (fun i => nI (gH g i)))), (ad 25, .inl (cy 0, 14, .inl (fun i => zI (gW g i)))), (ad 26, .inl (cy 1, 32768, .inl ff)), (ad 27, .inl (cy 0, 32768, .inl fr_)), (ad 28, .inl (cy 0, 15, .inl fb)), (ad 29, .inl (cy 0, 8, .inl fp)), (ad 30, .inl (cy 0, 6, .inl fc))] := hD
  refine lv_iload_n hx hb dX6_rank_5 rfl (lv_at hl 1 rfl) ?_
  refine pu_call (va_runS (As := [.int (nI kd)]) (rest := []) ⟨hx, hb, hml, hown, hts⟩ (c_X6_isKind l D cy ((nI kd))) (va_cwS 1 hts gX6_rank_X6_isKind rfl rfl rfl (by decide +kernel) ⟨Nat.le_of_ble_eq_true rfl, Nat.le_of_ble_eq_true rfl⟩) (PU_preS hK hP [] rfl) rfl rfl hl.1 rfl (lv_room (Nat.le_of_ble_eq_true rfl)) dX6_rank_6 ⟨(Nat.zero_le _), (Nat.zero_le _)⟩) hS hP (fun H locs hP hS => ?_)
  refine b_eq (b := (decide ((nI kd) = 0 ∨ (nI kd) = nI 1))) (tgt := 20) hx hb dX6_rank_9 (by decide) (fun c9 => ?_) (fun c9 => ?_)
  · have c9 := of_decide_eq_false c9
    exact absurd (isK hk9) c9
  · have c9 := of_decide_eq_true c9
    refine lv_aload_n hx hb dX6_rank_12 rfl (lv_at hl 0 rfl) ?_
    refine lv_iload_n hx hb dX6_rank_13 rfl (lv_at hl 2 rfl) ?_
    refine pu_call (va_runV (As := [.int (nI S)]) (rest := []) ⟨hx, hb, hml, hown, hts⟩ (c_X6_isSet l D cy ad hg ((nI 0)) ((bI kb)) ms ((nI S))) (cwV 1 hts gX6_rank_X6_isSet rfl rfl rfl (by decide +kernel) ⟨Nat.le_of_ble_eq_true rfl, Nat.le_of_ble_eq_true rfl⟩) (PU_preV (ci := 5) (q0 := 0) hK hP 0 rfl rfl [0] rfl) rfl rfl hl.1 rfl (lv_room (Nat.le_of_ble_eq_true rfl)) dX6_rank_14 ⟨(Nat.zero_le _), (Nat.zero_le _)⟩) hS hP (fun H locs hP hS => ?_)
    refine b_ne (b := (isN ((nI S)) (2 ^ gE g))) (tgt := 22) hx hb dX6_rank_17 (by decide) (fun c17 => ?_) (fun c17 => ?_)
    · refine lv_aload_n hx hb dX6_rank_22 rfl (lv_at hl 0 rfl) ?_
      refine wr_callv [0, 1, 2, 3, 4, 5, 6, 7, 8, 9, 10] (va_runV (As := []) (rest := []) ⟨hx, hb, hml, hown, hts⟩ (c_X6_learn l D cy ad hg ((nI 0)) (kb := kb) (ms := ms) (ff := ff) (fr_ := fr_) (fb := fb) (fp := fp) (fc := fc) hv9) (cwV 0 hts gX6_rank_X6_learn rfl rfl rfl (by decide +kernel) ⟨Nat.le_of_ble_eq_true rfl, Nat.le_of_ble_eq_true rfl⟩) (WR_preV (ci := 5) (q0 := 0) hK hP hD rfl rfl [0, 1, 2, 3, 4, 5, 6, 7, 8, 9, 10] (by decide) rfl rfl) rfl rfl hl.1 rfl (lv_room (Nat.le_of_ble_eq_true rfl)) dX6_rank_23 ⟨(Nat.zero_le _), (Nat.zero_le _)⟩) hS hP hD rfl (fun _ => rfl) (fun _ => rfl) (fun u23 H locs w23 hP hD hS => ?_)
      obtain ⟨hF, hR, hB⟩ := w23
      have hP : va_P D vwCl [(ad 20, .inr (5, [.int (nI 0), .int (nI (gV g)), .int (nI (gC g)), .int (nI (gE g)), .ref (ad 21), .ref (ad 22), .ref (ad 23), .ref (ad 24), .ref (ad 25), .int (bI true), .ref (ad 26), .ref (ad 27), .ref (ad 28), .int (nI (mo g (2 ^ gE g))), .ref (ad 29), .ref (ad 30)])), (ad 21, .inl (cy 0, 6, .inl (fun i => nI (gL g i)))), (ad 22, .inl (cy 0, 14, .inl (fun i => nI (gF g i)))), (ad 23, .inl (cy 0, 14, .inl (fun i => nI (gS g i)))), (ad 24, .inl (cy 0, 14, .inl (fun i => nI (gH g i)))), (ad 25, .inl (cy 0, 14, .inl (fun i => zI (gW g i)))), (ad 26, .inl (cy 1, 32768, .inl u23.1)), (ad 27, .inl (cy 0, 32768, .inl u23.2.1)), (ad 28, .inl (cy 0, 15, .inl u23.2.2.1)), (ad 29, .inl (cy 0, 8, .inl u23.2.2.2.1)), (ad 30, .inl (cy 0, 6, .inl u23.2.2.2.2))] H := hP
      have hD : va_D (inW (wM cy ad g th (bI kb) ms ff fr_ fb fp fc)) [(ad 20, .inr (5, [.int (nI 0), .int (nI (gV g)), .int (nI (gC g)), .int (nI (gE g)), .ref (ad 21), .ref (ad 22), .ref (ad 23), .ref (ad 24), .ref (ad 25), .int (bI true), .ref (ad 26), .ref (ad 27), .ref (ad 28), .int (nI (mo g (2 ^ gE g))), .ref (ad 29), .ref (ad 30)])), (ad 21, .inl (cy 0, 6, .inl (fun i => nI (gL g i)))), (ad 22, .inl (cy 0, 14, .inl (fun i => nI (gF g i)))), (ad 23, .inl (cy 0, 14, .inl (fun i => nI (gS g i)))), (ad 24, .inl (cy 0, 14, .inl (fun i => nI (gH g i)))), (ad 25, .inl (cy 0, 14, .inl (fun i => zI (gW g i)))), (ad 26, .inl (cy 1, 32768, .inl u23.1)), (ad 27, .inl (cy 0, 32768, .inl u23.2.1)), (ad 28, .inl (cy 0, 15, .inl u23.2.2.1)), (ad 29, .inl (cy 0, 8, .inl u23.2.2.2.1)), (ad 30, .inl (cy 0, 6, .inl u23.2.2.2.2))] := hD
      refine lv_aload_n hx hb dX6_rank_26 rfl (lv_at hl 0 rfl) ?_
      refine va_get (D := D) (ci := 5) (v := .ref (ad 27)) (C := RX6) (T := TX6) (N := 16) hx hb hts inX6 hown hK.1 hP 0 rfl rfl 11 (by decide) (hts (.fieldLink RX6 37 "ColourForestsModel" "ranks" "[I") (List.mem_of_getElem? (i := 2) rfl)) (fun _ h9 => h9) rfl dX6_rank_27 ?_
      refine lv_sipush (v := nI 16384) hx hb dX6_rank_30 (by decide) ?_
      refine lv_iload_n hx hb dX6_rank_33 rfl (lv_at hl 1 rfl) ?_
      refine lv_imul hx hb dX6_rank_34 ?_
      refine lv_as (y := (nI (16384 * kd))) (ni_mul _ _) ?_
      refine lv_iload_n hx hb dX6_rank_35 rfl (lv_at hl 2 rfl) ?_
      refine lv_iadd hx hb dX6_rank_36 ?_
      refine lv_as (y := (nI ((16384 * kd) + S))) (nI_add _ _) ?_
      refine rd_i (k := ((16384 * kd) + S)) (v := (nI (rN g kd S))) hx hb hK hP 7 rfl (by omega) (by decide) (hR kd S hk9 hS9) dX6_rank_37 ?_
      exact wi_ret u23 hx hb hr hlocks hS hP ⟨rfl, hF, hR, hB⟩ dX6_rank_38
    · exact absurd (c17.symm.trans (isN_y hS9 (by omega))) (by decide)

set_option maxHeartbeats 4000000 in
set_option maxRecDepth 100000 in
theorem c_X6_free_no (l : Launch) (D : va_G) (cy : Nat → ClassId) (ad : Nat → Nat) {g : GT} (hg : gOK g) (th kn ms : Int32) {x y : Int32} (h : ((decide (x = 0 ∨ x = nI 1) || decide (x = nI 2)) && isN y (2 ^ gE g)) = false) : WI l yX6_free wsX6_free ({ frames := 1, cells := 0, slots := 0, locals := 21 }) D cy [.ref (ad 20), .int x, .int y] [(ad 20, .inr (5, [.int th, .int (nI (gV g)), .int (nI (gC g)), .int (nI (gE g)), .ref (ad 21), .ref (ad 22), .ref (ad 23), .ref (ad 24), .ref (ad 25), .int kn, .ref (ad 26), .ref (ad 27), .ref (ad 28), .int ms, .ref (ad 29), .ref (ad 30)]))] (fun (r : Int32) (_ : Unit) => r = zI (-1)) (fun _ : Unit => [(ad 20, .inr (5, [.int (nI 0), .int (nI (gV g)), .int (nI (gC g)), .int (nI (gE g)), .ref (ad 21), .ref (ad 22), .ref (ad 23), .ref (ad 24), .ref (ad 25), .int kn, .ref (ad 26), .ref (ad 27), .ref (ad 28), .int ms, .ref (ad 29), .ref (ad 30)]))]) := by
  refine Met.ofW (cc := cX6_free) (maxL := 4) (ret := (some .int)) (by decide) rfl ?_
  intro p ev s m args below meth c s₁ B hml hv
  obtain ⟨rfl, ⟨hK, hP⟩, hD0⟩ := hv
  have hx := B.exec
  have hb := B.bytes
  have hr := B.returns
  have hts := atoms_spec (ws := wsX6_free) B.pre
  have hown : s.vm.findClass RX6 = some m.cls := findClass_of_methodNamed B.named
  have hlocks := B.notSynchronized
  have hD : va_D (inW [(ad 20, .inr (5, [.int th, .int (nI (gV g)), .int (nI (gC g)), .int (nI (gE g)), .ref (ad 21), .ref (ad 22), .ref (ad 23), .ref (ad 24), .ref (ad 25), .int kn, .ref (ad 26), .ref (ad 27), .ref (ad 28), .int ms, .ref (ad 29), .ref (ad 30)]))]) ([(ad 20, .inr (5, [.int th, .int (nI (gV g)), .int (nI (gC g)), .int (nI (gE g)), .ref (ad 21), .ref (ad 22), .ref (ad 23), .ref (ad 24), .ref (ad 25), .int kn, .ref (ad 26), .ref (ad 27), .ref (ad 28), .int ms, .ref (ad 29), .ref (ad 30)]))]) := inW_self hD0
  have hS : va_S (inW [(ad 20, .inr (5, [.int th, .int (nI (gV g)), .int (nI (gC g)), .int (nI (gE g)), .ref (ad 21), .ref (ad 22), .ref (ad 23), .ref (ad 24), .ref (ad 25), .int kn, .ref (ad 26), .ref (ad 27), .ref (ad 28), .int ms, .ref (ad 29), .ref (ad 30)]))]) s.heap s.heap [] := va_S.rf
  have hP : va_P D vwCl [(ad 20, .inr (5, [.int th, .int (nI (gV g)), .int (nI (gC g)), .int (nI (gE g)), .ref (ad 21), .ref (ad 22), .ref (ad 23), .ref (ad 24), .ref (ad 25), .int kn, .ref (ad 26), .ref (ad 27), .ref (ad 28), .int ms, .ref (ad 29), .ref (ad 30)]))] s.heap := hP
  have inX6 : ∀ w ∈ wsX60, w ∈ wsX6_free := by decide +kernel
  have hl := lv_entry ([.ref (ad 20), .int x, .int y]) (n := 4) (Nat.le_of_ble_eq_true rfl)
  rw [lg_entry_eq]
  generalize (lg_sl ([.ref (ad 20), .int x, .int y]) ++ List.replicate (4 - (lg_sl ([.ref (ad 20), .int x, .int y])).length) Slot.unset).toArray = ls at hl ⊢
  have hl : lv_has ls 4 [(0, .ref (ad 20)), (1, .int x), (2, .int y)] := hl
  have hgen := True.intro
  have hE := hg.2.2.1
  have hV := hg.1
  have hC := hg.2.1
  have hS8 : 2 ^ gE g ≤ 2 ^ 14 := Nat.pow_le_pow_right (by decide) hE
  refine lv_aload_n hx hb dX6_free_0 rfl (lv_at hl 0 rfl) ?_
  refine lv_iconst (v := nI 0) hx hb dX6_free_1 (by decide) ?_
  refine va_put (D := D) (ci := 5) (v := .int (nI 0)) (ty := .int) (C := RX6) (T := TX6) (N := 16) hx hb hts inX6 tyX6 tyX6_ok nmX6 hown hK.1 hP hD hS 0 rfl rfl 0 (by decide) (hts (.fieldLink RX6 49 "ColourForestsModel" "thrown" "I") (List.mem_of_getElem? (i := 1) rfl)) (fun _ h9 => h9) rfl (by decide +kernel) rfl rfl (Nat.le_of_ble_eq_true rfl) dX6_free_2 (fun H locs hP hD hS => ?_)
  have hP : va_P D vwCl [(ad 20, .inr (5, [.int (nI 0), .int (nI (gV g)), .int (nI (gC g)), .int (nI (gE g)), .ref (ad 21), .ref (ad 22), .ref (ad 23), .ref (ad 24), .ref (ad 25), .int kn, .ref (ad 26), .ref (ad 27), .ref (ad 28), .int ms, .ref (ad 29), .ref (ad 30)]))] H := hP
  have hD : va_D (inW [(ad 20, .inr (5, [.int th, .int (nI (gV g)), .int (nI (gC g)), .int (nI (gE g)), .ref (ad 21), .ref (ad 22), .ref (ad 23), .ref (ad 24), .ref (ad 25), .int kn, .ref (ad 26), .ref (ad 27), .ref (ad 28), .int ms, .ref (ad 29), .ref (ad 30)]))]) [(ad 20, .inr (5, [.int (nI 0), .int (nI (gV g)), .int (nI (gC g)), .int (nI (gE g)), .ref (ad 21), .ref (ad 22), .ref (ad 23), .ref (ad 24), .ref (ad 25), .int kn, .ref (ad 26), .ref (ad 27), .ref (ad 28), .int ms, .ref (ad 29), .ref (ad 30)]))] := hD
  refine lv_iload_n hx hb dX6_free_5 rfl (lv_at hl 1 rfl) ?_
  refine pu_call (va_runS (As := [.int x]) (rest := []) ⟨hx, hb, hml, hown, hts⟩ (c_X6_isKind l D cy x) (va_cwS 1 hts gX6_free_X6_isKind rfl rfl rfl (by decide +kernel) ⟨Nat.le_of_ble_eq_true rfl, Nat.le_of_ble_eq_true rfl⟩) (PU_preS hK hP [] rfl) rfl rfl hl.1 rfl (lv_room (Nat.le_of_ble_eq_true rfl)) dX6_free_6 ⟨(Nat.zero_le _), (Nat.zero_le _)⟩) hS hP (fun H locs hP hS => ?_)
  refine b_ne (b := (decide (x = 0 ∨ x = nI 1))) (tgt := 17) hx hb dX6_free_9 (by decide) (fun c9 => ?_) (fun c9 => ?_)
  · have c9 := of_decide_eq_true c9
    refine lv_aload_n hx hb dX6_free_17 rfl (lv_at hl 0 rfl) ?_
    refine lv_iload_n hx hb dX6_free_18 rfl (lv_at hl 2 rfl) ?_
    refine pu_call (va_runV (As := [.int y]) (rest := []) ⟨hx, hb, hml, hown, hts⟩ (c_X6_isSet l D cy ad hg ((nI 0)) kn ms y) (cwV 1 hts gX6_free_X6_isSet rfl rfl rfl (by decide +kernel) ⟨Nat.le_of_ble_eq_true rfl, Nat.le_of_ble_eq_true rfl⟩) (PU_preV (ci := 5) (q0 := 0) hK hP 0 rfl rfl [0] rfl) rfl rfl hl.1 rfl (lv_room (Nat.le_of_ble_eq_true rfl)) dX6_free_19 ⟨(Nat.zero_le _), (Nat.zero_le _)⟩) hS hP (fun H locs hP hS => ?_)
    refine b_ne (b := (isN y (2 ^ gE g))) (tgt := 27) hx hb dX6_free_22 (by decide) (fun c22 => ?_) (fun c22 => ?_)
    · exact absurd h (by first | (rw [decide_eq_true c9, c22]; decide) | (rw [decide_eq_true c14, c22, Bool.or_true]; decide))
    · refine lv_iconst (v := zI (-1)) hx hb dX6_free_25 (by decide) ?_
      exact wi_ret () hx hb hr hlocks hS hP rfl dX6_free_26
  · have c9 := of_decide_eq_false c9
    refine lv_iload_n hx hb dX6_free_12 rfl (lv_at hl 1 rfl) ?_
    refine lv_iconst (v := nI 2) hx hb dX6_free_13 (by decide) ?_
    refine lv_icmp_ne (tgt := 25) hx hb dX6_free_14 (by decide) (fun c14 => ?_) (fun c14 => ?_)
    · refine lv_iconst (v := zI (-1)) hx hb dX6_free_25 (by decide) ?_
      exact wi_ret () hx hb hr hlocks hS hP rfl dX6_free_26
    · refine lv_aload_n hx hb dX6_free_17 rfl (lv_at hl 0 rfl) ?_
      refine lv_iload_n hx hb dX6_free_18 rfl (lv_at hl 2 rfl) ?_
      refine pu_call (va_runV (As := [.int y]) (rest := []) ⟨hx, hb, hml, hown, hts⟩ (c_X6_isSet l D cy ad hg ((nI 0)) kn ms y) (cwV 1 hts gX6_free_X6_isSet rfl rfl rfl (by decide +kernel) ⟨Nat.le_of_ble_eq_true rfl, Nat.le_of_ble_eq_true rfl⟩) (PU_preV (ci := 5) (q0 := 0) hK hP 0 rfl rfl [0] rfl) rfl rfl hl.1 rfl (lv_room (Nat.le_of_ble_eq_true rfl)) dX6_free_19 ⟨(Nat.zero_le _), (Nat.zero_le _)⟩) hS hP (fun H locs hP hS => ?_)
      refine b_ne (b := (isN y (2 ^ gE g))) (tgt := 27) hx hb dX6_free_22 (by decide) (fun c22 => ?_) (fun c22 => ?_)
      · exact absurd h (by first | (rw [decide_eq_true c9, c22]; decide) | (rw [decide_eq_true c14, c22, Bool.or_true]; decide))
      · refine lv_iconst (v := zI (-1)) hx hb dX6_free_25 (by decide) ?_
        exact wi_ret () hx hb hr hlocks hS hP rfl dX6_free_26

set_option maxHeartbeats 4000000 in
set_option maxRecDepth 100000 in
theorem c_X6_free_yes (l : Launch) (D : va_G) (cy : Nat → ClassId) (ad : Nat → Nat) {g : GT} (hg : gOK g) (th : Int32) {kb : Bool} {ms : Int32} {ff fr_ fb fp fc : Nat → Int32} (hv9 : kb = true → lrF g (2 ^ gE g) ff ∧ lrR g (2 ^ gE g) fr_ ∧ lrB g (2 ^ gE g) fb ∧ ms = nI (mo g (2 ^ gE g))) {kd S : Nat} (hk9 : kd < 2) (hS9 : S < 2 ^ gE g) : WI l yX6_free wsX6_free ({ frames := 3, cells := 0, slots := 0, locals := 71 }) D cy [.ref (ad 20), .int (nI kd), .int (nI S)] (wM cy ad g th (bI kb) ms ff fr_ fb fp fc) (fun (r : Int32) (u : (Nat → Int32) × (Nat → Int32) × (Nat → Int32) × (Nat → Int32) × (Nat → Int32)) => r = bI (fN g kd S) ∧ lrF g (2 ^ gE g) u.1 ∧ lrR g (2 ^ gE g) u.2.1 ∧ lrB g (2 ^ gE g) u.2.2.1) (fun u : (Nat → Int32) × (Nat → Int32) × (Nat → Int32) × (Nat → Int32) × (Nat → Int32) => wM cy ad g (nI 0) (bI true) (nI (mo g (2 ^ gE g))) u.1 u.2.1 u.2.2.1 u.2.2.2.1 u.2.2.2.2) := by
  refine Met.ofW (cc := cX6_free) (maxL := 4) (ret := (some .int)) (by decide) rfl ?_
  intro p ev s m args below meth c s₁ B hml hv
  obtain ⟨rfl, ⟨hK, hP⟩, hD0⟩ := hv
  have hx := B.exec
  have hb := B.bytes
  have hr := B.returns
  have hts := atoms_spec (ws := wsX6_free) B.pre
  have hown : s.vm.findClass RX6 = some m.cls := findClass_of_methodNamed B.named
  have hlocks := B.notSynchronized
  have hD : va_D (inW (wM cy ad g th (bI kb) ms ff fr_ fb fp fc)) (wM cy ad g th (bI kb) ms ff fr_ fb fp fc) := inW_self hD0
  have hS : va_S (inW (wM cy ad g th (bI kb) ms ff fr_ fb fp fc)) s.heap s.heap [] := va_S.rf
  have hP : va_P D vwCl (wM cy ad g th (bI kb) ms ff fr_ fb fp fc) s.heap := hP
  have inX6 : ∀ w ∈ wsX60, w ∈ wsX6_free := by decide +kernel
  have hl := lv_entry ([.ref (ad 20), .int (nI kd), .int (nI S)]) (n := 4) (Nat.le_of_ble_eq_true rfl)
  rw [lg_entry_eq]
  generalize (lg_sl ([.ref (ad 20), .int (nI kd), .int (nI S)]) ++ List.replicate (4 - (lg_sl ([.ref (ad 20), .int (nI kd), .int (nI S)])).length) Slot.unset).toArray = ls at hl ⊢
  have hl : lv_has ls 4 [(0, .ref (ad 20)), (1, .int (nI kd)), (2, .int (nI S))] := hl
  have hgen := True.intro
  have hE := hg.2.2.1
  have hV := hg.1
  have hC := hg.2.1
  have hS8 : 2 ^ gE g ≤ 2 ^ 14 := Nat.pow_le_pow_right (by decide) hE
  refine lv_aload_n hx hb dX6_free_0 rfl (lv_at hl 0 rfl) ?_
  refine lv_iconst (v := nI 0) hx hb dX6_free_1 (by decide) ?_
  refine va_put (D := D) (ci := 5) (v := .int (nI 0)) (ty := .int) (C := RX6) (T := TX6) (N := 16) hx hb hts inX6 tyX6 tyX6_ok nmX6 hown hK.1 hP hD hS 0 rfl rfl 0 (by decide) (hts (.fieldLink RX6 49 "ColourForestsModel" "thrown" "I") (List.mem_of_getElem? (i := 1) rfl)) (fun _ h9 => h9) rfl (by decide +kernel) rfl rfl (Nat.le_of_ble_eq_true rfl) dX6_free_2 (fun H locs hP hD hS => ?_)
  have hP : va_P D vwCl [(ad 20, .inr (5, [.int (nI 0), .int (nI (gV g)), .int (nI (gC g)), .int (nI (gE g)), .ref (ad 21), .ref (ad 22), .ref (ad 23), .ref (ad 24), .ref (ad 25), .int (bI kb), .ref (ad 26), .ref (ad 27), .ref (ad 28), .int ms, .ref (ad 29), .ref (ad 30)])), (ad 21, .inl (cy 0, 6, .inl (fun i => nI (gL g i)))), (ad 22, .inl (cy 0, 14, .inl (fun i => nI (gF g i)))), (ad 23, .inl (cy 0, 14, .inl (fun i => nI (gS g i)))), (ad 24, .inl (cy 0, 14, .inl (fun i => nI (gH g i)))), (ad 25, .inl (cy 0, 14, .inl (fun i => zI (gW g i)))), (ad 26, .inl (cy 1, 32768, .inl ff)), (ad 27, .inl (cy 0, 32768, .inl fr_)), (ad 28, .inl (cy 0, 15, .inl fb)), (ad 29, .inl (cy 0, 8, .inl fp)), (ad 30, .inl (cy 0, 6, .inl fc))] H := hP
  have hD : va_D (inW (wM cy ad g th (bI kb) ms ff fr_ fb fp fc)) [(ad 20, .inr (5, [.int (nI 0), .int (nI (gV g)), .int (nI (gC g)), .int (nI (gE g)), .ref (ad 21), .ref (ad 22), .ref (ad 23), .ref (ad 24), .ref (ad 25), .int (bI kb), .ref (ad 26), .ref (ad 27), .ref (ad 28), .int ms, .ref (ad 29), .ref (ad 30)])), (ad 21, .inl (cy 0, 6, .inl (fun i => nI (gL g i)))), (ad 22, .inl (cy 0, 14, .inl (fun i => nI (gF g i)))), (ad 23, .inl (cy 0, 14, .inl (fun i => nI (gS g i)))), (ad 24, .inl (cy 0, 14, .inl (fun i => nI (gH g i)))), (ad 25, .inl (cy 0, 14, .inl (fun i => zI (gW g i)))), (ad 26, .inl (cy 1, 32768, .inl ff)), (ad 27, .inl (cy 0, 32768, .inl fr_)), (ad 28, .inl (cy 0, 15, .inl fb)), (ad 29, .inl (cy 0, 8, .inl fp)), (ad 30, .inl (cy 0, 6, .inl fc))] := hD
  refine lv_iload_n hx hb dX6_free_5 rfl (lv_at hl 1 rfl) ?_
  refine pu_call (va_runS (As := [.int (nI kd)]) (rest := []) ⟨hx, hb, hml, hown, hts⟩ (c_X6_isKind l D cy ((nI kd))) (va_cwS 1 hts gX6_free_X6_isKind rfl rfl rfl (by decide +kernel) ⟨Nat.le_of_ble_eq_true rfl, Nat.le_of_ble_eq_true rfl⟩) (PU_preS hK hP [] rfl) rfl rfl hl.1 rfl (lv_room (Nat.le_of_ble_eq_true rfl)) dX6_free_6 ⟨(Nat.zero_le _), (Nat.zero_le _)⟩) hS hP (fun H locs hP hS => ?_)
  refine b_ne (b := (decide ((nI kd) = 0 ∨ (nI kd) = nI 1))) (tgt := 17) hx hb dX6_free_9 (by decide) (fun c9 => ?_) (fun c9 => ?_)
  · have c9 := of_decide_eq_true c9
    refine lv_aload_n hx hb dX6_free_17 rfl (lv_at hl 0 rfl) ?_
    refine lv_iload_n hx hb dX6_free_18 rfl (lv_at hl 2 rfl) ?_
    refine pu_call (va_runV (As := [.int (nI S)]) (rest := []) ⟨hx, hb, hml, hown, hts⟩ (c_X6_isSet l D cy ad hg ((nI 0)) ((bI kb)) ms ((nI S))) (cwV 1 hts gX6_free_X6_isSet rfl rfl rfl (by decide +kernel) ⟨Nat.le_of_ble_eq_true rfl, Nat.le_of_ble_eq_true rfl⟩) (PU_preV (ci := 5) (q0 := 0) hK hP 0 rfl rfl [0] rfl) rfl rfl hl.1 rfl (lv_room (Nat.le_of_ble_eq_true rfl)) dX6_free_19 ⟨(Nat.zero_le _), (Nat.zero_le _)⟩) hS hP (fun H locs hP hS => ?_)
    refine b_ne (b := (isN ((nI S)) (2 ^ gE g))) (tgt := 27) hx hb dX6_free_22 (by decide) (fun c22 => ?_) (fun c22 => ?_)
    · refine lv_aload_n hx hb dX6_free_27 rfl (lv_at hl 0 rfl) ?_
      refine wr_callv [0, 1, 2, 3, 4, 5, 6, 7, 8, 9, 10] (va_runV (As := []) (rest := []) ⟨hx, hb, hml, hown, hts⟩ (c_X6_learn l D cy ad hg ((nI 0)) (kb := kb) (ms := ms) (ff := ff) (fr_ := fr_) (fb := fb) (fp := fp) (fc := fc) hv9) (cwV 0 hts gX6_free_X6_learn rfl rfl rfl (by decide +kernel) ⟨Nat.le_of_ble_eq_true rfl, Nat.le_of_ble_eq_true rfl⟩) (WR_preV (ci := 5) (q0 := 0) hK hP hD rfl rfl [0, 1, 2, 3, 4, 5, 6, 7, 8, 9, 10] (by decide) rfl rfl) rfl rfl hl.1 rfl (lv_room (Nat.le_of_ble_eq_true rfl)) dX6_free_28 ⟨(Nat.zero_le _), (Nat.zero_le _)⟩) hS hP hD rfl (fun _ => rfl) (fun _ => rfl) (fun u28 H locs w28 hP hD hS => ?_)
      obtain ⟨hF, hR, hB⟩ := w28
      have hP : va_P D vwCl [(ad 20, .inr (5, [.int (nI 0), .int (nI (gV g)), .int (nI (gC g)), .int (nI (gE g)), .ref (ad 21), .ref (ad 22), .ref (ad 23), .ref (ad 24), .ref (ad 25), .int (bI true), .ref (ad 26), .ref (ad 27), .ref (ad 28), .int (nI (mo g (2 ^ gE g))), .ref (ad 29), .ref (ad 30)])), (ad 21, .inl (cy 0, 6, .inl (fun i => nI (gL g i)))), (ad 22, .inl (cy 0, 14, .inl (fun i => nI (gF g i)))), (ad 23, .inl (cy 0, 14, .inl (fun i => nI (gS g i)))), (ad 24, .inl (cy 0, 14, .inl (fun i => nI (gH g i)))), (ad 25, .inl (cy 0, 14, .inl (fun i => zI (gW g i)))), (ad 26, .inl (cy 1, 32768, .inl u28.1)), (ad 27, .inl (cy 0, 32768, .inl u28.2.1)), (ad 28, .inl (cy 0, 15, .inl u28.2.2.1)), (ad 29, .inl (cy 0, 8, .inl u28.2.2.2.1)), (ad 30, .inl (cy 0, 6, .inl u28.2.2.2.2))] H := hP
      have hD : va_D (inW (wM cy ad g th (bI kb) ms ff fr_ fb fp fc)) [(ad 20, .inr (5, [.int (nI 0), .int (nI (gV g)), .int (nI (gC g)), .int (nI (gE g)), .ref (ad 21), .ref (ad 22), .ref (ad 23), .ref (ad 24), .ref (ad 25), .int (bI true), .ref (ad 26), .ref (ad 27), .ref (ad 28), .int (nI (mo g (2 ^ gE g))), .ref (ad 29), .ref (ad 30)])), (ad 21, .inl (cy 0, 6, .inl (fun i => nI (gL g i)))), (ad 22, .inl (cy 0, 14, .inl (fun i => nI (gF g i)))), (ad 23, .inl (cy 0, 14, .inl (fun i => nI (gS g i)))), (ad 24, .inl (cy 0, 14, .inl (fun i => nI (gH g i)))), (ad 25, .inl (cy 0, 14, .inl (fun i => zI (gW g i)))), (ad 26, .inl (cy 1, 32768, .inl u28.1)), (ad 27, .inl (cy 0, 32768, .inl u28.2.1)), (ad 28, .inl (cy 0, 15, .inl u28.2.2.1)), (ad 29, .inl (cy 0, 8, .inl u28.2.2.2.1)), (ad 30, .inl (cy 0, 6, .inl u28.2.2.2.2))] := hD
      refine lv_iload_n hx hb dX6_free_31 rfl (lv_at hl 1 rfl) ?_
      refine lv_iconst (v := nI 2) hx hb dX6_free_32 (by decide) ?_
      refine n_ne (a := kd) (b := 2) (tgt := 66) hx hb dX6_free_33 (by decide) (by omega) (by omega) (fun c33 => ?_) (fun c33 => ?_)
      · refine lv_aload_n hx hb dX6_free_66 rfl (lv_at hl 0 rfl) ?_
        refine va_get (D := D) (ci := 5) (v := .ref (ad 26)) (C := RX6) (T := TX6) (N := 16) hx hb hts inX6 hown hK.1 hP 0 rfl rfl 10 (by decide) (hts (.fieldLink RX6 33 "ColourForestsModel" "free" "[Z") (List.mem_of_getElem? (i := 2) rfl)) (fun _ h9 => h9) rfl dX6_free_67 ?_
        refine lv_sipush (v := nI 16384) hx hb dX6_free_70 (by decide) ?_
        refine lv_iload_n hx hb dX6_free_73 rfl (lv_at hl 1 rfl) ?_
        refine lv_imul hx hb dX6_free_74 ?_
        refine lv_as (y := (nI (16384 * kd))) (ni_mul _ _) ?_
        refine lv_iload_n hx hb dX6_free_75 rfl (lv_at hl 2 rfl) ?_
        refine lv_iadd hx hb dX6_free_76 ?_
        refine lv_as (y := (nI ((16384 * kd) + S))) (nI_add _ _) ?_
        refine rd_z (k := ((16384 * kd) + S)) (v := (bI (fN g kd S))) hx hb hK hP 6 rfl (by omega) (by decide) (hF kd S hk9 hS9) dX6_free_77 ?_
        refine lv_istore_n (lv' := [(3, .int (bI (fN g kd S))), (0, .ref (ad 20)), (1, .int (nI kd)), (2, .int (nI S))]) hx hb dX6_free_78 rfl hl (by decide) rfl (fun ls hl => ?_)
        refine lv_iload_n hx hb dX6_free_79 rfl (lv_at hl 0 rfl) ?_
        refine b_eq (b := (fN g kd S)) (tgt := 87) hx hb dX6_free_80 (by decide) (fun c80 => ?_) (fun c80 => ?_)
        · refine lv_iconst (v := nI 0) hx hb dX6_free_87 (by decide) ?_
          exact wi_ret u28 hx hb hr hlocks hS hP ⟨(by rw [c80]; rfl), hF, hR, hB⟩ dX6_free_88
        · refine lv_iconst (v := nI 1) hx hb dX6_free_83 (by decide) ?_
          refine lv_goto (tgt := 88) hx hb dX6_free_84 (by decide) ?_
          exact wi_ret u28 hx hb hr hlocks hS hP ⟨(by rw [c80]; rfl), hF, hR, hB⟩ dX6_free_88
      · exact absurd c33 (by omega)
    · exact absurd (c22.symm.trans (isN_y hS9 (by omega))) (by decide)
  · have c9 := of_decide_eq_false c9
    exact absurd (isK hk9) c9

set_option maxHeartbeats 4000000 in
set_option maxRecDepth 100000 in
theorem c_X6_free_2 (l : Launch) (D : va_G) (cy : Nat → ClassId) (ad : Nat → Nat) {g : GT} (hg : gOK g) (th : Int32) {kb : Bool} {ms : Int32} {ff fr_ fb fp fc : Nat → Int32} (hv9 : kb = true → lrF g (2 ^ gE g) ff ∧ lrR g (2 ^ gE g) fr_ ∧ lrB g (2 ^ gE g) fb ∧ ms = nI (mo g (2 ^ gE g))) {S : Nat} (hS9 : S < 2 ^ gE g) : WI l yX6_free wsX6_free ({ frames := 3, cells := 0, slots := 0, locals := 71 }) D cy [.ref (ad 20), .int (nI 2), .int (nI S)] (wM cy ad g th (bI kb) ms ff fr_ fb fp fc) (fun (r : Int32) (u : (Nat → Int32) × (Nat → Int32) × (Nat → Int32) × (Nat → Int32) × (Nat → Int32)) => r = bI (co g S) ∧ lrF g (2 ^ gE g) u.1 ∧ lrR g (2 ^ gE g) u.2.1 ∧ lrB g (2 ^ gE g) u.2.2.1) (fun u : (Nat → Int32) × (Nat → Int32) × (Nat → Int32) × (Nat → Int32) × (Nat → Int32) => wM cy ad g (nI 0) (bI true) (nI (mo g (2 ^ gE g))) u.1 u.2.1 u.2.2.1 u.2.2.2.1 u.2.2.2.2) := by
  refine Met.ofW (cc := cX6_free) (maxL := 4) (ret := (some .int)) (by decide) rfl ?_
  intro p ev s m args below meth c s₁ B hml hv
  obtain ⟨rfl, ⟨hK, hP⟩, hD0⟩ := hv
  have hx := B.exec
  have hb := B.bytes
  have hr := B.returns
  have hts := atoms_spec (ws := wsX6_free) B.pre
  have hown : s.vm.findClass RX6 = some m.cls := findClass_of_methodNamed B.named
  have hlocks := B.notSynchronized
  have hD : va_D (inW (wM cy ad g th (bI kb) ms ff fr_ fb fp fc)) (wM cy ad g th (bI kb) ms ff fr_ fb fp fc) := inW_self hD0
  have hS : va_S (inW (wM cy ad g th (bI kb) ms ff fr_ fb fp fc)) s.heap s.heap [] := va_S.rf
  have hP : va_P D vwCl (wM cy ad g th (bI kb) ms ff fr_ fb fp fc) s.heap := hP
  have inX6 : ∀ w ∈ wsX60, w ∈ wsX6_free := by decide +kernel
  have hl := lv_entry ([.ref (ad 20), .int (nI 2), .int (nI S)]) (n := 4) (Nat.le_of_ble_eq_true rfl)
  rw [lg_entry_eq]
  generalize (lg_sl ([.ref (ad 20), .int (nI 2), .int (nI S)]) ++ List.replicate (4 - (lg_sl ([.ref (ad 20), .int (nI 2), .int (nI S)])).length) Slot.unset).toArray = ls at hl ⊢
  have hl : lv_has ls 4 [(0, .ref (ad 20)), (1, .int (nI 2)), (2, .int (nI S))] := hl
  have hgen := True.intro
  have hE := hg.2.2.1
  have hV := hg.1
  have hC := hg.2.1
  have hS8 : 2 ^ gE g ≤ 2 ^ 14 := Nat.pow_le_pow_right (by decide) hE
  refine lv_aload_n hx hb dX6_free_0 rfl (lv_at hl 0 rfl) ?_
  refine lv_iconst (v := nI 0) hx hb dX6_free_1 (by decide) ?_
  refine va_put (D := D) (ci := 5) (v := .int (nI 0)) (ty := .int) (C := RX6) (T := TX6) (N := 16) hx hb hts inX6 tyX6 tyX6_ok nmX6 hown hK.1 hP hD hS 0 rfl rfl 0 (by decide) (hts (.fieldLink RX6 49 "ColourForestsModel" "thrown" "I") (List.mem_of_getElem? (i := 1) rfl)) (fun _ h9 => h9) rfl (by decide +kernel) rfl rfl (Nat.le_of_ble_eq_true rfl) dX6_free_2 (fun H locs hP hD hS => ?_)
  have hP : va_P D vwCl [(ad 20, .inr (5, [.int (nI 0), .int (nI (gV g)), .int (nI (gC g)), .int (nI (gE g)), .ref (ad 21), .ref (ad 22), .ref (ad 23), .ref (ad 24), .ref (ad 25), .int (bI kb), .ref (ad 26), .ref (ad 27), .ref (ad 28), .int ms, .ref (ad 29), .ref (ad 30)])), (ad 21, .inl (cy 0, 6, .inl (fun i => nI (gL g i)))), (ad 22, .inl (cy 0, 14, .inl (fun i => nI (gF g i)))), (ad 23, .inl (cy 0, 14, .inl (fun i => nI (gS g i)))), (ad 24, .inl (cy 0, 14, .inl (fun i => nI (gH g i)))), (ad 25, .inl (cy 0, 14, .inl (fun i => zI (gW g i)))), (ad 26, .inl (cy 1, 32768, .inl ff)), (ad 27, .inl (cy 0, 32768, .inl fr_)), (ad 28, .inl (cy 0, 15, .inl fb)), (ad 29, .inl (cy 0, 8, .inl fp)), (ad 30, .inl (cy 0, 6, .inl fc))] H := hP
  have hD : va_D (inW (wM cy ad g th (bI kb) ms ff fr_ fb fp fc)) [(ad 20, .inr (5, [.int (nI 0), .int (nI (gV g)), .int (nI (gC g)), .int (nI (gE g)), .ref (ad 21), .ref (ad 22), .ref (ad 23), .ref (ad 24), .ref (ad 25), .int (bI kb), .ref (ad 26), .ref (ad 27), .ref (ad 28), .int ms, .ref (ad 29), .ref (ad 30)])), (ad 21, .inl (cy 0, 6, .inl (fun i => nI (gL g i)))), (ad 22, .inl (cy 0, 14, .inl (fun i => nI (gF g i)))), (ad 23, .inl (cy 0, 14, .inl (fun i => nI (gS g i)))), (ad 24, .inl (cy 0, 14, .inl (fun i => nI (gH g i)))), (ad 25, .inl (cy 0, 14, .inl (fun i => zI (gW g i)))), (ad 26, .inl (cy 1, 32768, .inl ff)), (ad 27, .inl (cy 0, 32768, .inl fr_)), (ad 28, .inl (cy 0, 15, .inl fb)), (ad 29, .inl (cy 0, 8, .inl fp)), (ad 30, .inl (cy 0, 6, .inl fc))] := hD
  refine lv_iload_n hx hb dX6_free_5 rfl (lv_at hl 1 rfl) ?_
  refine pu_call (va_runS (As := [.int (nI 2)]) (rest := []) ⟨hx, hb, hml, hown, hts⟩ (c_X6_isKind l D cy ((nI 2))) (va_cwS 1 hts gX6_free_X6_isKind rfl rfl rfl (by decide +kernel) ⟨Nat.le_of_ble_eq_true rfl, Nat.le_of_ble_eq_true rfl⟩) (PU_preS hK hP [] rfl) rfl rfl hl.1 rfl (lv_room (Nat.le_of_ble_eq_true rfl)) dX6_free_6 ⟨(Nat.zero_le _), (Nat.zero_le _)⟩) hS hP (fun H locs hP hS => ?_)
  refine b_ne (b := (decide ((nI 2) = 0 ∨ (nI 2) = nI 1))) (tgt := 17) hx hb dX6_free_9 (by decide) (fun c9 => ?_) (fun c9 => ?_)
  · have c9 := of_decide_eq_true c9
    exact absurd c9 (by decide)
  · have c9 := of_decide_eq_false c9
    refine lv_iload_n hx hb dX6_free_12 rfl (lv_at hl 1 rfl) ?_
    refine lv_iconst (v := nI 2) hx hb dX6_free_13 (by decide) ?_
    refine n_ne (a := 2) (b := 2) (tgt := 25) hx hb dX6_free_14 (by decide) (by omega) (by omega) (fun c14 => ?_) (fun c14 => ?_)
    · exact absurd rfl c14
    · refine lv_aload_n hx hb dX6_free_17 rfl (lv_at hl 0 rfl) ?_
      refine lv_iload_n hx hb dX6_free_18 rfl (lv_at hl 2 rfl) ?_
      refine pu_call (va_runV (As := [.int (nI S)]) (rest := []) ⟨hx, hb, hml, hown, hts⟩ (c_X6_isSet l D cy ad hg ((nI 0)) ((bI kb)) ms ((nI S))) (cwV 1 hts gX6_free_X6_isSet rfl rfl rfl (by decide +kernel) ⟨Nat.le_of_ble_eq_true rfl, Nat.le_of_ble_eq_true rfl⟩) (PU_preV (ci := 5) (q0 := 0) hK hP 0 rfl rfl [0] rfl) rfl rfl hl.1 rfl (lv_room (Nat.le_of_ble_eq_true rfl)) dX6_free_19 ⟨(Nat.zero_le _), (Nat.zero_le _)⟩) hS hP (fun H locs hP hS => ?_)
      refine b_ne (b := (isN ((nI S)) (2 ^ gE g))) (tgt := 27) hx hb dX6_free_22 (by decide) (fun c22 => ?_) (fun c22 => ?_)
      · refine lv_aload_n hx hb dX6_free_27 rfl (lv_at hl 0 rfl) ?_
        refine wr_callv [0, 1, 2, 3, 4, 5, 6, 7, 8, 9, 10] (va_runV (As := []) (rest := []) ⟨hx, hb, hml, hown, hts⟩ (c_X6_learn l D cy ad hg ((nI 0)) (kb := kb) (ms := ms) (ff := ff) (fr_ := fr_) (fb := fb) (fp := fp) (fc := fc) hv9) (cwV 0 hts gX6_free_X6_learn rfl rfl rfl (by decide +kernel) ⟨Nat.le_of_ble_eq_true rfl, Nat.le_of_ble_eq_true rfl⟩) (WR_preV (ci := 5) (q0 := 0) hK hP hD rfl rfl [0, 1, 2, 3, 4, 5, 6, 7, 8, 9, 10] (by decide) rfl rfl) rfl rfl hl.1 rfl (lv_room (Nat.le_of_ble_eq_true rfl)) dX6_free_28 ⟨(Nat.zero_le _), (Nat.zero_le _)⟩) hS hP hD rfl (fun _ => rfl) (fun _ => rfl) (fun u28 H locs w28 hP hD hS => ?_)
        obtain ⟨hF, hR, hB⟩ := w28
        have hP : va_P D vwCl [(ad 20, .inr (5, [.int (nI 0), .int (nI (gV g)), .int (nI (gC g)), .int (nI (gE g)), .ref (ad 21), .ref (ad 22), .ref (ad 23), .ref (ad 24), .ref (ad 25), .int (bI true), .ref (ad 26), .ref (ad 27), .ref (ad 28), .int (nI (mo g (2 ^ gE g))), .ref (ad 29), .ref (ad 30)])), (ad 21, .inl (cy 0, 6, .inl (fun i => nI (gL g i)))), (ad 22, .inl (cy 0, 14, .inl (fun i => nI (gF g i)))), (ad 23, .inl (cy 0, 14, .inl (fun i => nI (gS g i)))), (ad 24, .inl (cy 0, 14, .inl (fun i => nI (gH g i)))), (ad 25, .inl (cy 0, 14, .inl (fun i => zI (gW g i)))), (ad 26, .inl (cy 1, 32768, .inl u28.1)), (ad 27, .inl (cy 0, 32768, .inl u28.2.1)), (ad 28, .inl (cy 0, 15, .inl u28.2.2.1)), (ad 29, .inl (cy 0, 8, .inl u28.2.2.2.1)), (ad 30, .inl (cy 0, 6, .inl u28.2.2.2.2))] H := hP
        have hD : va_D (inW (wM cy ad g th (bI kb) ms ff fr_ fb fp fc)) [(ad 20, .inr (5, [.int (nI 0), .int (nI (gV g)), .int (nI (gC g)), .int (nI (gE g)), .ref (ad 21), .ref (ad 22), .ref (ad 23), .ref (ad 24), .ref (ad 25), .int (bI true), .ref (ad 26), .ref (ad 27), .ref (ad 28), .int (nI (mo g (2 ^ gE g))), .ref (ad 29), .ref (ad 30)])), (ad 21, .inl (cy 0, 6, .inl (fun i => nI (gL g i)))), (ad 22, .inl (cy 0, 14, .inl (fun i => nI (gF g i)))), (ad 23, .inl (cy 0, 14, .inl (fun i => nI (gS g i)))), (ad 24, .inl (cy 0, 14, .inl (fun i => nI (gH g i)))), (ad 25, .inl (cy 0, 14, .inl (fun i => zI (gW g i)))), (ad 26, .inl (cy 1, 32768, .inl u28.1)), (ad 27, .inl (cy 0, 32768, .inl u28.2.1)), (ad 28, .inl (cy 0, 15, .inl u28.2.2.1)), (ad 29, .inl (cy 0, 8, .inl u28.2.2.2.1)), (ad 30, .inl (cy 0, 6, .inl u28.2.2.2.2))] := hD
        refine lv_iload_n hx hb dX6_free_31 rfl (lv_at hl 1 rfl) ?_
        refine lv_iconst (v := nI 2) hx hb dX6_free_32 (by decide) ?_
        refine n_ne (a := 2) (b := 2) (tgt := 66) hx hb dX6_free_33 (by decide) (by omega) (by omega) (fun c33 => ?_) (fun c33 => ?_)
        · exact absurd rfl c33
        · refine lv_aload_n hx hb dX6_free_36 rfl (lv_at hl 0 rfl) ?_
          refine va_get (D := D) (ci := 5) (v := .ref (ad 26)) (C := RX6) (T := TX6) (N := 16) hx hb hts inX6 hown hK.1 hP 0 rfl rfl 10 (by decide) (hts (.fieldLink RX6 33 "ColourForestsModel" "free" "[Z") (List.mem_of_getElem? (i := 2) rfl)) (fun _ h9 => h9) rfl dX6_free_37 ?_
          refine lv_iload_n hx hb dX6_free_40 rfl (lv_at hl 2 rfl) ?_
          refine rd_z (k := S) (v := (bI (fr g S))) hx hb hK hP 6 rfl (by omega) (by decide) (lrF_at0 hF hS9) dX6_free_41 ?_
          refine b_eq (b := (fr g S)) (tgt := 62) hx hb dX6_free_42 (by decide) (fun c42 => ?_) (fun c42 => ?_)
          · refine lv_iconst (v := nI 0) hx hb dX6_free_62 (by decide) ?_
            refine lv_goto (tgt := 78) hx hb dX6_free_63 (by decide) ?_
            refine lv_istore_n (lv' := [(3, .int (nI 0)), (0, .ref (ad 20)), (1, .int (nI 2)), (2, .int (nI S))]) hx hb dX6_free_78 rfl hl (by decide) rfl (fun ls hl => ?_)
            refine lv_iload_n hx hb dX6_free_79 rfl (lv_at hl 0 rfl) ?_
            refine lv_if_eq (tgt := 87) hx hb dX6_free_80 (by decide) (fun c80 => ?_) (fun c80 => ?_)
            · refine lv_iconst (v := nI 0) hx hb dX6_free_87 (by decide) ?_
              exact wi_ret u28 hx hb hr hlocks hS hP ⟨(by first | (rw [co_f (Or.inl c42)]; rfl) | (rw [co_f (Or.inr c55)]; rfl) | (rw [co_yes c42 c55]; rfl)), hF, hR, hB⟩ dX6_free_88
            · exact absurd (by decide) c80
          · refine lv_aload_n hx hb dX6_free_45 rfl (lv_at hl 0 rfl) ?_
            refine va_get (D := D) (ci := 5) (v := .ref (ad 26)) (C := RX6) (T := TX6) (N := 16) hx hb hts inX6 hown hK.1 hP 0 rfl rfl 10 (by decide) (hts (.fieldLink RX6 33 "ColourForestsModel" "free" "[Z") (List.mem_of_getElem? (i := 2) rfl)) (fun _ h9 => h9) rfl dX6_free_46 ?_
            refine lv_sipush (v := nI 16384) hx hb dX6_free_49 (by decide) ?_
            refine lv_iload_n hx hb dX6_free_52 rfl (lv_at hl 2 rfl) ?_
            refine lv_iadd hx hb dX6_free_53 ?_
            refine lv_as (y := (nI (16384 + S))) (nI_add _ _) ?_
            refine rd_z (k := (16384 + S)) (v := (bI (li g S))) hx hb hK hP 6 rfl (by omega) (by decide) (lrF_at1 hF hS9) dX6_free_54 ?_
            refine b_eq (b := (li g S)) (tgt := 62) hx hb dX6_free_55 (by decide) (fun c55 => ?_) (fun c55 => ?_)
            · refine lv_iconst (v := nI 0) hx hb dX6_free_62 (by decide) ?_
              refine lv_goto (tgt := 78) hx hb dX6_free_63 (by decide) ?_
              refine lv_istore_n (lv' := [(3, .int (nI 0)), (0, .ref (ad 20)), (1, .int (nI 2)), (2, .int (nI S))]) hx hb dX6_free_78 rfl hl (by decide) rfl (fun ls hl => ?_)
              refine lv_iload_n hx hb dX6_free_79 rfl (lv_at hl 0 rfl) ?_
              refine lv_if_eq (tgt := 87) hx hb dX6_free_80 (by decide) (fun c80 => ?_) (fun c80 => ?_)
              · refine lv_iconst (v := nI 0) hx hb dX6_free_87 (by decide) ?_
                exact wi_ret u28 hx hb hr hlocks hS hP ⟨(by first | (rw [co_f (Or.inl c42)]; rfl) | (rw [co_f (Or.inr c55)]; rfl) | (rw [co_yes c42 c55]; rfl)), hF, hR, hB⟩ dX6_free_88
              · exact absurd (by decide) c80
            · refine lv_iconst (v := nI 1) hx hb dX6_free_58 (by decide) ?_
              refine lv_goto (tgt := 78) hx hb dX6_free_59 (by decide) ?_
              refine lv_istore_n (lv' := [(3, .int (nI 1)), (0, .ref (ad 20)), (1, .int (nI 2)), (2, .int (nI S))]) hx hb dX6_free_78 rfl hl (by decide) rfl (fun ls hl => ?_)
              refine lv_iload_n hx hb dX6_free_79 rfl (lv_at hl 0 rfl) ?_
              refine lv_if_eq (tgt := 87) hx hb dX6_free_80 (by decide) (fun c80 => ?_) (fun c80 => ?_)
              · exact absurd c80 (by decide)
              · refine lv_iconst (v := nI 1) hx hb dX6_free_83 (by decide) ?_
                refine lv_goto (tgt := 88) hx hb dX6_free_84 (by decide) ?_
                exact wi_ret u28 hx hb hr hlocks hS hP ⟨(by first | (rw [co_f (Or.inl c42)]; rfl) | (rw [co_f (Or.inr c55)]; rfl) | (rw [co_yes c42 c55]; rfl)), hF, hR, hB⟩ dX6_free_88
      · exact absurd (c22.symm.trans (isN_y hS9 (by omega))) (by decide)

set_option maxHeartbeats 4000000 in
set_option maxRecDepth 100000 in
theorem c_X6_circuit_no (l : Launch) (D : va_G) (cy : Nat → ClassId) (ad : Nat → Nat) {g : GT} (hg : gOK g) (th kn ms : Int32) {x y z : Int32} (h : (decide (x = 0 ∨ x = nI 1) && isN y (2 ^ gE g) && isN z (gE g)) = false) : WI l yX6_circuit wsX6_circuit ({ frames := 1, cells := 0, slots := 0, locals := 21 }) D cy [.ref (ad 20), .int x, .int y, .int z] [(ad 20, .inr (5, [.int th, .int (nI (gV g)), .int (nI (gC g)), .int (nI (gE g)), .ref (ad 21), .ref (ad 22), .ref (ad 23), .ref (ad 24), .ref (ad 25), .int kn, .ref (ad 26), .ref (ad 27), .ref (ad 28), .int ms, .ref (ad 29), .ref (ad 30)]))] (fun (r : Int32) (_ : Unit) => r = zI (-1)) (fun _ : Unit => [(ad 20, .inr (5, [.int (nI 0), .int (nI (gV g)), .int (nI (gC g)), .int (nI (gE g)), .ref (ad 21), .ref (ad 22), .ref (ad 23), .ref (ad 24), .ref (ad 25), .int kn, .ref (ad 26), .ref (ad 27), .ref (ad 28), .int ms, .ref (ad 29), .ref (ad 30)]))]) := by
  refine Met.ofW (cc := cX6_circuit) (maxL := 8) (ret := (some .int)) (by decide) rfl ?_
  intro p ev s m args below meth c s₁ B hml hv
  obtain ⟨rfl, ⟨hK, hP⟩, hD0⟩ := hv
  have hx := B.exec
  have hb := B.bytes
  have hr := B.returns
  have hts := atoms_spec (ws := wsX6_circuit) B.pre
  have hown : s.vm.findClass RX6 = some m.cls := findClass_of_methodNamed B.named
  have hlocks := B.notSynchronized
  have hD : va_D (inW [(ad 20, .inr (5, [.int th, .int (nI (gV g)), .int (nI (gC g)), .int (nI (gE g)), .ref (ad 21), .ref (ad 22), .ref (ad 23), .ref (ad 24), .ref (ad 25), .int kn, .ref (ad 26), .ref (ad 27), .ref (ad 28), .int ms, .ref (ad 29), .ref (ad 30)]))]) ([(ad 20, .inr (5, [.int th, .int (nI (gV g)), .int (nI (gC g)), .int (nI (gE g)), .ref (ad 21), .ref (ad 22), .ref (ad 23), .ref (ad 24), .ref (ad 25), .int kn, .ref (ad 26), .ref (ad 27), .ref (ad 28), .int ms, .ref (ad 29), .ref (ad 30)]))]) := inW_self hD0
  have hS : va_S (inW [(ad 20, .inr (5, [.int th, .int (nI (gV g)), .int (nI (gC g)), .int (nI (gE g)), .ref (ad 21), .ref (ad 22), .ref (ad 23), .ref (ad 24), .ref (ad 25), .int kn, .ref (ad 26), .ref (ad 27), .ref (ad 28), .int ms, .ref (ad 29), .ref (ad 30)]))]) s.heap s.heap [] := va_S.rf
  have hP : va_P D vwCl [(ad 20, .inr (5, [.int th, .int (nI (gV g)), .int (nI (gC g)), .int (nI (gE g)), .ref (ad 21), .ref (ad 22), .ref (ad 23), .ref (ad 24), .ref (ad 25), .int kn, .ref (ad 26), .ref (ad 27), .ref (ad 28), .int ms, .ref (ad 29), .ref (ad 30)]))] s.heap := hP
  have inX6 : ∀ w ∈ wsX60, w ∈ wsX6_circuit := by decide +kernel
  have hl := lv_entry ([.ref (ad 20), .int x, .int y, .int z]) (n := 8) (Nat.le_of_ble_eq_true rfl)
  rw [lg_entry_eq]
  generalize (lg_sl ([.ref (ad 20), .int x, .int y, .int z]) ++ List.replicate (8 - (lg_sl ([.ref (ad 20), .int x, .int y, .int z])).length) Slot.unset).toArray = ls at hl ⊢
  have hl : lv_has ls 8 [(0, .ref (ad 20)), (1, .int x), (2, .int y), (3, .int z)] := hl
  have hgen := True.intro
  have hE := hg.2.2.1
  have hV := hg.1
  have hC := hg.2.1
  have hS8 : 2 ^ gE g ≤ 2 ^ 14 := Nat.pow_le_pow_right (by decide) hE
  refine lv_aload_n hx hb dX6_circuit_0 rfl (lv_at hl 0 rfl) ?_
  refine lv_iconst (v := nI 0) hx hb dX6_circuit_1 (by decide) ?_
  refine va_put (D := D) (ci := 5) (v := .int (nI 0)) (ty := .int) (C := RX6) (T := TX6) (N := 16) hx hb hts inX6 tyX6 tyX6_ok nmX6 hown hK.1 hP hD hS 0 rfl rfl 0 (by decide) (hts (.fieldLink RX6 49 "ColourForestsModel" "thrown" "I") (List.mem_of_getElem? (i := 1) rfl)) (fun _ h9 => h9) rfl (by decide +kernel) rfl rfl (Nat.le_of_ble_eq_true rfl) dX6_circuit_2 (fun H locs hP hD hS => ?_)
  have hP : va_P D vwCl [(ad 20, .inr (5, [.int (nI 0), .int (nI (gV g)), .int (nI (gC g)), .int (nI (gE g)), .ref (ad 21), .ref (ad 22), .ref (ad 23), .ref (ad 24), .ref (ad 25), .int kn, .ref (ad 26), .ref (ad 27), .ref (ad 28), .int ms, .ref (ad 29), .ref (ad 30)]))] H := hP
  have hD : va_D (inW [(ad 20, .inr (5, [.int th, .int (nI (gV g)), .int (nI (gC g)), .int (nI (gE g)), .ref (ad 21), .ref (ad 22), .ref (ad 23), .ref (ad 24), .ref (ad 25), .int kn, .ref (ad 26), .ref (ad 27), .ref (ad 28), .int ms, .ref (ad 29), .ref (ad 30)]))]) [(ad 20, .inr (5, [.int (nI 0), .int (nI (gV g)), .int (nI (gC g)), .int (nI (gE g)), .ref (ad 21), .ref (ad 22), .ref (ad 23), .ref (ad 24), .ref (ad 25), .int kn, .ref (ad 26), .ref (ad 27), .ref (ad 28), .int ms, .ref (ad 29), .ref (ad 30)]))] := hD
  refine lv_iload_n hx hb dX6_circuit_5 rfl (lv_at hl 1 rfl) ?_
  refine pu_call (va_runS (As := [.int x]) (rest := []) ⟨hx, hb, hml, hown, hts⟩ (c_X6_isKind l D cy x) (va_cwS 1 hts gX6_circuit_X6_isKind rfl rfl rfl (by decide +kernel) ⟨Nat.le_of_ble_eq_true rfl, Nat.le_of_ble_eq_true rfl⟩) (PU_preS hK hP [] rfl) rfl rfl hl.1 rfl (lv_room (Nat.le_of_ble_eq_true rfl)) dX6_circuit_6 ⟨(Nat.zero_le _), (Nat.zero_le _)⟩) hS hP (fun H locs hP hS => ?_)
  refine b_eq (b := (decide (x = 0 ∨ x = nI 1))) (tgt := 32) hx hb dX6_circuit_9 (by decide) (fun c9 => ?_) (fun c9 => ?_)
  · have c9 := of_decide_eq_false c9
    refine lv_iconst (v := zI (-1)) hx hb dX6_circuit_32 (by decide) ?_
    exact wi_ret () hx hb hr hlocks hS hP rfl dX6_circuit_33
  · have c9 := of_decide_eq_true c9
    refine lv_aload_n hx hb dX6_circuit_12 rfl (lv_at hl 0 rfl) ?_
    refine lv_iload_n hx hb dX6_circuit_13 rfl (lv_at hl 2 rfl) ?_
    refine pu_call (va_runV (As := [.int y]) (rest := []) ⟨hx, hb, hml, hown, hts⟩ (c_X6_isSet l D cy ad hg ((nI 0)) kn ms y) (cwV 1 hts gX6_circuit_X6_isSet rfl rfl rfl (by decide +kernel) ⟨Nat.le_of_ble_eq_true rfl, Nat.le_of_ble_eq_true rfl⟩) (PU_preV (ci := 5) (q0 := 0) hK hP 0 rfl rfl [0] rfl) rfl rfl hl.1 rfl (lv_room (Nat.le_of_ble_eq_true rfl)) dX6_circuit_14 ⟨(Nat.zero_le _), (Nat.zero_le _)⟩) hS hP (fun H locs hP hS => ?_)
    refine b_eq (b := (isN y (2 ^ gE g))) (tgt := 32) hx hb dX6_circuit_17 (by decide) (fun c17 => ?_) (fun c17 => ?_)
    · refine lv_iconst (v := zI (-1)) hx hb dX6_circuit_32 (by decide) ?_
      exact wi_ret () hx hb hr hlocks hS hP rfl dX6_circuit_33
    · refine lv_iload_n hx hb dX6_circuit_20 rfl (lv_at hl 3 rfl) ?_
      refine lv_if_lt (tgt := 32) hx hb dX6_circuit_21 (by decide) (fun c21 => ?_) (fun c21 => ?_)
      · refine lv_iconst (v := zI (-1)) hx hb dX6_circuit_32 (by decide) ?_
        exact wi_ret () hx hb hr hlocks hS hP rfl dX6_circuit_33
      · refine lv_iload_n hx hb dX6_circuit_24 rfl (lv_at hl 3 rfl) ?_
        refine lv_aload_n hx hb dX6_circuit_25 rfl (lv_at hl 0 rfl) ?_
        refine va_get (D := D) (ci := 5) (v := .int (nI (gE g))) (C := RX6) (T := TX6) (N := 16) hx hb hts inX6 hown hK.1 hP 0 rfl rfl 3 (by decide) (hts (.fieldLink RX6 56 "ColourForestsModel" "edges" "I") (List.mem_of_getElem? (i := 2) rfl)) (fun _ h9 => h9) rfl dX6_circuit_26 ?_
        refine lv_icmp_lt (tgt := 34) hx hb dX6_circuit_29 (by decide) (fun c29 => ?_) (fun c29 => ?_)
        · exact absurd h (by rw [decide_eq_true c9, c17, isN_t2 (by omega) c21 c29]; decide)
        · refine lv_iconst (v := zI (-1)) hx hb dX6_circuit_32 (by decide) ?_
          exact wi_ret () hx hb hr hlocks hS hP rfl dX6_circuit_33

set_option maxHeartbeats 4000000 in
set_option maxRecDepth 100000 in
theorem c_X6_circuit_yes (l : Launch) (D : va_G) (cy : Nat → ClassId) (ad : Nat → Nat) {g : GT} (hg : gOK g) (th : Int32) {kb : Bool} {ms : Int32} {ff fr_ fb fp fc : Nat → Int32} (hv9 : kb = true → lrF g (2 ^ gE g) ff ∧ lrR g (2 ^ gE g) fr_ ∧ lrB g (2 ^ gE g) fb ∧ ms = nI (mo g (2 ^ gE g))) {kd S e : Nat} (hk9 : kd < 2) (hS9 : S < 2 ^ gE g) (he : e < gE g) : WI l yX6_circuit wsX6_circuit ({ frames := 3, cells := 0, slots := 0, locals := 71 }) D cy [.ref (ad 20), .int (nI kd), .int (nI S), .int (nI e)] (wM cy ad g th (bI kb) ms ff fr_ fb fp fc) (fun (r : Int32) (u : (Nat → Int32) × (Nat → Int32) × (Nat → Int32) × (Nat → Int32) × (Nat → Int32)) => r = ciA g kd S e ∧ lrF g (2 ^ gE g) u.1 ∧ lrR g (2 ^ gE g) u.2.1 ∧ lrB g (2 ^ gE g) u.2.2.1) (fun u : (Nat → Int32) × (Nat → Int32) × (Nat → Int32) × (Nat → Int32) × (Nat → Int32) => wM cy ad g (nI 0) (bI true) (nI (mo g (2 ^ gE g))) u.1 u.2.1 u.2.2.1 u.2.2.2.1 u.2.2.2.2) := by
  refine Met.ofW (cc := cX6_circuit) (maxL := 8) (ret := (some .int)) (by decide) rfl ?_
  intro p ev s m args below meth c s₁ B hml hv
  obtain ⟨rfl, ⟨hK, hP⟩, hD0⟩ := hv
  have hx := B.exec
  have hb := B.bytes
  have hr := B.returns
  have hts := atoms_spec (ws := wsX6_circuit) B.pre
  have hown : s.vm.findClass RX6 = some m.cls := findClass_of_methodNamed B.named
  have hlocks := B.notSynchronized
  have hD : va_D (inW (wM cy ad g th (bI kb) ms ff fr_ fb fp fc)) (wM cy ad g th (bI kb) ms ff fr_ fb fp fc) := inW_self hD0
  have hS : va_S (inW (wM cy ad g th (bI kb) ms ff fr_ fb fp fc)) s.heap s.heap [] := va_S.rf
  have hP : va_P D vwCl (wM cy ad g th (bI kb) ms ff fr_ fb fp fc) s.heap := hP
  have inX6 : ∀ w ∈ wsX60, w ∈ wsX6_circuit := by decide +kernel
  have hl := lv_entry ([.ref (ad 20), .int (nI kd), .int (nI S), .int (nI e)]) (n := 8) (Nat.le_of_ble_eq_true rfl)
  rw [lg_entry_eq]
  generalize (lg_sl ([.ref (ad 20), .int (nI kd), .int (nI S), .int (nI e)]) ++ List.replicate (8 - (lg_sl ([.ref (ad 20), .int (nI kd), .int (nI S), .int (nI e)])).length) Slot.unset).toArray = ls at hl ⊢
  have hl : lv_has ls 8 [(0, .ref (ad 20)), (1, .int (nI kd)), (2, .int (nI S)), (3, .int (nI e))] := hl
  have hgen := True.intro
  have hE := hg.2.2.1
  have hV := hg.1
  have hC := hg.2.1
  have hS8 : 2 ^ gE g ≤ 2 ^ 14 := Nat.pow_le_pow_right (by decide) hE
  have hB9 : S ||| 2 ^ e < 2 ^ gE g := ms_ins_lt hS9 he
  refine lv_aload_n hx hb dX6_circuit_0 rfl (lv_at hl 0 rfl) ?_
  refine lv_iconst (v := nI 0) hx hb dX6_circuit_1 (by decide) ?_
  refine va_put (D := D) (ci := 5) (v := .int (nI 0)) (ty := .int) (C := RX6) (T := TX6) (N := 16) hx hb hts inX6 tyX6 tyX6_ok nmX6 hown hK.1 hP hD hS 0 rfl rfl 0 (by decide) (hts (.fieldLink RX6 49 "ColourForestsModel" "thrown" "I") (List.mem_of_getElem? (i := 1) rfl)) (fun _ h9 => h9) rfl (by decide +kernel) rfl rfl (Nat.le_of_ble_eq_true rfl) dX6_circuit_2 (fun H locs hP hD hS => ?_)
  have hP : va_P D vwCl [(ad 20, .inr (5, [.int (nI 0), .int (nI (gV g)), .int (nI (gC g)), .int (nI (gE g)), .ref (ad 21), .ref (ad 22), .ref (ad 23), .ref (ad 24), .ref (ad 25), .int (bI kb), .ref (ad 26), .ref (ad 27), .ref (ad 28), .int ms, .ref (ad 29), .ref (ad 30)])), (ad 21, .inl (cy 0, 6, .inl (fun i => nI (gL g i)))), (ad 22, .inl (cy 0, 14, .inl (fun i => nI (gF g i)))), (ad 23, .inl (cy 0, 14, .inl (fun i => nI (gS g i)))), (ad 24, .inl (cy 0, 14, .inl (fun i => nI (gH g i)))), (ad 25, .inl (cy 0, 14, .inl (fun i => zI (gW g i)))), (ad 26, .inl (cy 1, 32768, .inl ff)), (ad 27, .inl (cy 0, 32768, .inl fr_)), (ad 28, .inl (cy 0, 15, .inl fb)), (ad 29, .inl (cy 0, 8, .inl fp)), (ad 30, .inl (cy 0, 6, .inl fc))] H := hP
  have hD : va_D (inW (wM cy ad g th (bI kb) ms ff fr_ fb fp fc)) [(ad 20, .inr (5, [.int (nI 0), .int (nI (gV g)), .int (nI (gC g)), .int (nI (gE g)), .ref (ad 21), .ref (ad 22), .ref (ad 23), .ref (ad 24), .ref (ad 25), .int (bI kb), .ref (ad 26), .ref (ad 27), .ref (ad 28), .int ms, .ref (ad 29), .ref (ad 30)])), (ad 21, .inl (cy 0, 6, .inl (fun i => nI (gL g i)))), (ad 22, .inl (cy 0, 14, .inl (fun i => nI (gF g i)))), (ad 23, .inl (cy 0, 14, .inl (fun i => nI (gS g i)))), (ad 24, .inl (cy 0, 14, .inl (fun i => nI (gH g i)))), (ad 25, .inl (cy 0, 14, .inl (fun i => zI (gW g i)))), (ad 26, .inl (cy 1, 32768, .inl ff)), (ad 27, .inl (cy 0, 32768, .inl fr_)), (ad 28, .inl (cy 0, 15, .inl fb)), (ad 29, .inl (cy 0, 8, .inl fp)), (ad 30, .inl (cy 0, 6, .inl fc))] := hD
  refine lv_iload_n hx hb dX6_circuit_5 rfl (lv_at hl 1 rfl) ?_
  refine pu_call (va_runS (As := [.int (nI kd)]) (rest := []) ⟨hx, hb, hml, hown, hts⟩ (c_X6_isKind l D cy ((nI kd))) (va_cwS 1 hts gX6_circuit_X6_isKind rfl rfl rfl (by decide +kernel) ⟨Nat.le_of_ble_eq_true rfl, Nat.le_of_ble_eq_true rfl⟩) (PU_preS hK hP [] rfl) rfl rfl hl.1 rfl (lv_room (Nat.le_of_ble_eq_true rfl)) dX6_circuit_6 ⟨(Nat.zero_le _), (Nat.zero_le _)⟩) hS hP (fun H locs hP hS => ?_)
  refine b_eq (b := (decide ((nI kd) = 0 ∨ (nI kd) = nI 1))) (tgt := 32) hx hb dX6_circuit_9 (by decide) (fun c9 => ?_) (fun c9 => ?_)
  · have c9 := of_decide_eq_false c9
    exact absurd (isK hk9) c9
  · have c9 := of_decide_eq_true c9
    refine lv_aload_n hx hb dX6_circuit_12 rfl (lv_at hl 0 rfl) ?_
    refine lv_iload_n hx hb dX6_circuit_13 rfl (lv_at hl 2 rfl) ?_
    refine pu_call (va_runV (As := [.int (nI S)]) (rest := []) ⟨hx, hb, hml, hown, hts⟩ (c_X6_isSet l D cy ad hg ((nI 0)) ((bI kb)) ms ((nI S))) (cwV 1 hts gX6_circuit_X6_isSet rfl rfl rfl (by decide +kernel) ⟨Nat.le_of_ble_eq_true rfl, Nat.le_of_ble_eq_true rfl⟩) (PU_preV (ci := 5) (q0 := 0) hK hP 0 rfl rfl [0] rfl) rfl rfl hl.1 rfl (lv_room (Nat.le_of_ble_eq_true rfl)) dX6_circuit_14 ⟨(Nat.zero_le _), (Nat.zero_le _)⟩) hS hP (fun H locs hP hS => ?_)
    refine b_eq (b := (isN ((nI S)) (2 ^ gE g))) (tgt := 32) hx hb dX6_circuit_17 (by decide) (fun c17 => ?_) (fun c17 => ?_)
    · exact absurd (c17.symm.trans (isN_y hS9 (by omega))) (by decide)
    · refine lv_iload_n hx hb dX6_circuit_20 rfl (lv_at hl 3 rfl) ?_
      refine lv_if_lt (tgt := 32) hx hb dX6_circuit_21 (by decide) (fun c21 => ?_) (fun c21 => ?_)
      · exact absurd c21 (nlt0 (by omega))
      · refine lv_iload_n hx hb dX6_circuit_24 rfl (lv_at hl 3 rfl) ?_
        refine lv_aload_n hx hb dX6_circuit_25 rfl (lv_at hl 0 rfl) ?_
        refine va_get (D := D) (ci := 5) (v := .int (nI (gE g))) (C := RX6) (T := TX6) (N := 16) hx hb hts inX6 hown hK.1 hP 0 rfl rfl 3 (by decide) (hts (.fieldLink RX6 56 "ColourForestsModel" "edges" "I") (List.mem_of_getElem? (i := 2) rfl)) (fun _ h9 => h9) rfl dX6_circuit_26 ?_
        refine n_lt (a := e) (b := (gE g)) (tgt := 34) hx hb dX6_circuit_29 (by decide) (by omega) (by omega) (fun c29 => ?_) (fun c29 => ?_)
        · refine lv_aload_n hx hb dX6_circuit_34 rfl (lv_at hl 0 rfl) ?_
          refine wr_callv [0, 1, 2, 3, 4, 5, 6, 7, 8, 9, 10] (va_runV (As := []) (rest := []) ⟨hx, hb, hml, hown, hts⟩ (c_X6_learn l D cy ad hg ((nI 0)) (kb := kb) (ms := ms) (ff := ff) (fr_ := fr_) (fb := fb) (fp := fp) (fc := fc) hv9) (cwV 0 hts gX6_circuit_X6_learn rfl rfl rfl (by decide +kernel) ⟨Nat.le_of_ble_eq_true rfl, Nat.le_of_ble_eq_true rfl⟩) (WR_preV (ci := 5) (q0 := 0) hK hP hD rfl rfl [0, 1, 2, 3, 4, 5, 6, 7, 8, 9, 10] (by decide) rfl rfl) rfl rfl hl.1 rfl (lv_room (Nat.le_of_ble_eq_true rfl)) dX6_circuit_35 ⟨(Nat.zero_le _), (Nat.zero_le _)⟩) hS hP hD rfl (fun _ => rfl) (fun _ => rfl) (fun u35 H locs w35 hP hD hS => ?_)
          obtain ⟨hF, hR, hB⟩ := w35
          have hP : va_P D vwCl [(ad 20, .inr (5, [.int (nI 0), .int (nI (gV g)), .int (nI (gC g)), .int (nI (gE g)), .ref (ad 21), .ref (ad 22), .ref (ad 23), .ref (ad 24), .ref (ad 25), .int (bI true), .ref (ad 26), .ref (ad 27), .ref (ad 28), .int (nI (mo g (2 ^ gE g))), .ref (ad 29), .ref (ad 30)])), (ad 21, .inl (cy 0, 6, .inl (fun i => nI (gL g i)))), (ad 22, .inl (cy 0, 14, .inl (fun i => nI (gF g i)))), (ad 23, .inl (cy 0, 14, .inl (fun i => nI (gS g i)))), (ad 24, .inl (cy 0, 14, .inl (fun i => nI (gH g i)))), (ad 25, .inl (cy 0, 14, .inl (fun i => zI (gW g i)))), (ad 26, .inl (cy 1, 32768, .inl u35.1)), (ad 27, .inl (cy 0, 32768, .inl u35.2.1)), (ad 28, .inl (cy 0, 15, .inl u35.2.2.1)), (ad 29, .inl (cy 0, 8, .inl u35.2.2.2.1)), (ad 30, .inl (cy 0, 6, .inl u35.2.2.2.2))] H := hP
          have hD : va_D (inW (wM cy ad g th (bI kb) ms ff fr_ fb fp fc)) [(ad 20, .inr (5, [.int (nI 0), .int (nI (gV g)), .int (nI (gC g)), .int (nI (gE g)), .ref (ad 21), .ref (ad 22), .ref (ad 23), .ref (ad 24), .ref (ad 25), .int (bI true), .ref (ad 26), .ref (ad 27), .ref (ad 28), .int (nI (mo g (2 ^ gE g))), .ref (ad 29), .ref (ad 30)])), (ad 21, .inl (cy 0, 6, .inl (fun i => nI (gL g i)))), (ad 22, .inl (cy 0, 14, .inl (fun i => nI (gF g i)))), (ad 23, .inl (cy 0, 14, .inl (fun i => nI (gS g i)))), (ad 24, .inl (cy 0, 14, .inl (fun i => nI (gH g i)))), (ad 25, .inl (cy 0, 14, .inl (fun i => zI (gW g i)))), (ad 26, .inl (cy 1, 32768, .inl u35.1)), (ad 27, .inl (cy 0, 32768, .inl u35.2.1)), (ad 28, .inl (cy 0, 15, .inl u35.2.2.1)), (ad 29, .inl (cy 0, 8, .inl u35.2.2.2.1)), (ad 30, .inl (cy 0, 6, .inl u35.2.2.2.2))] := hD
          refine lv_sipush (v := nI 16384) hx hb dX6_circuit_38 (by decide) ?_
          refine lv_iload_n hx hb dX6_circuit_41 rfl (lv_at hl 1 rfl) ?_
          refine lv_imul hx hb dX6_circuit_42 ?_
          refine lv_as (y := (nI (16384 * kd))) (ni_mul _ _) ?_
          refine lv_istore (lv' := [(4, .int (nI (16384 * kd))), (0, .ref (ad 20)), (1, .int (nI kd)), (2, .int (nI S)), (3, .int (nI e))]) hx hb dX6_circuit_43 hl (by decide) rfl (fun ls hl => ?_)
          refine lv_aload_n hx hb dX6_circuit_45 rfl (lv_at hl 1 rfl) ?_
          refine va_get (D := D) (ci := 5) (v := .ref (ad 26)) (C := RX6) (T := TX6) (N := 16) hx hb hts inX6 hown hK.1 hP 0 rfl rfl 10 (by decide) (hts (.fieldLink RX6 33 "ColourForestsModel" "free" "[Z") (List.mem_of_getElem? (i := 3) rfl)) (fun _ h9 => h9) rfl dX6_circuit_46 ?_
          refine lv_iload hx hb dX6_circuit_49 (lv_at hl 0 rfl) ?_
          refine lv_iload_n hx hb dX6_circuit_51 rfl (lv_at hl 3 rfl) ?_
          refine lv_iadd hx hb dX6_circuit_52 ?_
          refine lv_as (y := (nI ((16384 * kd) + S))) (nI_add _ _) ?_
          refine rd_z (k := ((16384 * kd) + S)) (v := (bI (fN g kd S))) hx hb hK hP 6 rfl (by omega) (by decide) (hF kd S hk9 hS9) dX6_circuit_53 ?_
          refine b_eq (b := (fN g kd S)) (tgt := 65) hx hb dX6_circuit_54 (by decide) (fun c54 => ?_) (fun c54 => ?_)
          · refine lv_iconst (v := zI (-1)) hx hb dX6_circuit_65 (by decide) ?_
            exact wi_ret u35 hx hb hr hlocks hS hP ⟨(by unfold ciA; first | rw [if_neg (fun q => absurd (c54.symm.trans q.1) (by decide))] | rw [if_neg (fun q => absurd (c62.symm.trans q.2) (by decide))]), hF, hR, hB⟩ dX6_circuit_66
          · refine lv_iload_n hx hb dX6_circuit_57 rfl (lv_at hl 3 rfl) ?_
            refine lv_iload_n hx hb dX6_circuit_58 rfl (lv_at hl 4 rfl) ?_
            refine pu_call (va_runS (As := [.int (nI S), .int (nI e)]) (rest := []) ⟨hx, hb, hml, hown, hts⟩ (c_X6_has l D cy (S := S) (e := e) (by omega) (by omega)) (va_cwS 2 hts gX6_circuit_X6_has rfl rfl rfl (by decide +kernel) ⟨Nat.le_of_ble_eq_true rfl, Nat.le_of_ble_eq_true rfl⟩) (PU_preS hK hP [] rfl) rfl rfl hl.1 rfl (lv_room (Nat.le_of_ble_eq_true rfl)) dX6_circuit_59 ⟨(Nat.zero_le _), (Nat.zero_le _)⟩) hS hP (fun H locs hP hS => ?_)
            refine b_eq (b := (S.testBit e)) (tgt := 67) hx hb dX6_circuit_62 (by decide) (fun c62 => ?_) (fun c62 => ?_)
            · refine lv_iload_n hx hb dX6_circuit_67 rfl (lv_at hl 3 rfl) ?_
              refine lv_iconst (v := nI 1) hx hb dX6_circuit_68 (by decide) ?_
              refine lv_iload_n hx hb dX6_circuit_69 rfl (lv_at hl 4 rfl) ?_
              refine lv_ishl hx hb dX6_circuit_70 ?_
              refine lv_as (y := (nI (2 ^ e))) (ni_bit (by omega)) ?_
              refine lv_ior hx hb dX6_circuit_71 ?_
              refine lv_as (y := (nI (S ||| (2 ^ e)))) (ni_or _ _) ?_
              refine lv_istore (lv' := [(5, .int (nI (S ||| (2 ^ e)))), (4, .int (nI (16384 * kd))), (0, .ref (ad 20)), (1, .int (nI kd)), (2, .int (nI S)), (3, .int (nI e))]) hx hb dX6_circuit_72 hl (by decide) rfl (fun ls hl => ?_)
              refine lv_aload_n hx hb dX6_circuit_74 rfl (lv_at hl 2 rfl) ?_
              refine va_get (D := D) (ci := 5) (v := .ref (ad 26)) (C := RX6) (T := TX6) (N := 16) hx hb hts inX6 hown hK.1 hP 0 rfl rfl 10 (by decide) (hts (.fieldLink RX6 33 "ColourForestsModel" "free" "[Z") (List.mem_of_getElem? (i := 3) rfl)) (fun _ h9 => h9) rfl dX6_circuit_75 ?_
              refine lv_iload hx hb dX6_circuit_78 (lv_at hl 1 rfl) ?_
              refine lv_iload hx hb dX6_circuit_80 (lv_at hl 0 rfl) ?_
              refine lv_iadd hx hb dX6_circuit_82 ?_
              refine lv_as (y := (nI ((16384 * kd) + (S ||| (2 ^ e))))) (nI_add _ _) ?_
              refine rd_z (k := ((16384 * kd) + (S ||| (2 ^ e)))) (v := (bI (fN g kd (S ||| 2 ^ e)))) hx hb hK hP 6 rfl (by omega) (by decide) (hF kd _ hk9 hB9) dX6_circuit_83 ?_
              refine b_eq (b := (fN g kd (S ||| 2 ^ e))) (tgt := 89) hx hb dX6_circuit_84 (by decide) (fun c84 => ?_) (fun c84 => ?_)
              · refine lv_iconst (v := nI 0) hx hb dX6_circuit_89 (by decide) ?_
                refine lv_istore (lv' := [(6, .int (nI 0)), (5, .int (nI (S ||| (2 ^ e)))), (4, .int (nI (16384 * kd))), (0, .ref (ad 20)), (1, .int (nI kd)), (2, .int (nI S)), (3, .int (nI e))]) hx hb dX6_circuit_90 hl (by decide) rfl (fun ls hl => ?_)
                refine lv_iconst (v := nI 0) hx hb dX6_circuit_92 (by decide) ?_
                refine lv_istore (lv' := [(7, .int (nI 0)), (6, .int (nI 0)), (5, .int (nI (S ||| (2 ^ e)))), (4, .int (nI (16384 * kd))), (0, .ref (ad 20)), (1, .int (nI kd)), (2, .int (nI S)), (3, .int (nI e))]) hx hb dX6_circuit_93 hl (by decide) rfl (fun ls hl => ?_)
                have L95 : ∀ (n : Nat) (i : Nat), i ≤ gE g ∧ gE g + 1 ≤ i + n → ∀ (H : Heap) (locs : List Loc), va_P D vwCl [(ad 20, .inr (5, [.int (nI 0), .int (nI (gV g)), .int (nI (gC g)), .int (nI (gE g)), .ref (ad 21), .ref (ad 22), .ref (ad 23), .ref (ad 24), .ref (ad 25), .int (bI true), .ref (ad 26), .ref (ad 27), .ref (ad 28), .int (nI (mo g (2 ^ gE g))), .ref (ad 29), .ref (ad 30)])), (ad 21, .inl (cy 0, 6, .inl (fun i => nI (gL g i)))), (ad 22, .inl (cy 0, 14, .inl (fun i => nI (gF g i)))), (ad 23, .inl (cy 0, 14, .inl (fun i => nI (gS g i)))), (ad 24, .inl (cy 0, 14, .inl (fun i => nI (gH g i)))), (ad 25, .inl (cy 0, 14, .inl (fun i => zI (gW g i)))), (ad 26, .inl (cy 1, 32768, .inl u35.1)), (ad 27, .inl (cy 0, 32768, .inl u35.2.1)), (ad 28, .inl (cy 0, 15, .inl u35.2.2.1)), (ad 29, .inl (cy 0, 8, .inl u35.2.2.2.1)), (ad 30, .inl (cy 0, 6, .inl u35.2.2.2.2))] H → va_D (inW (wM cy ad g th (bI kb) ms ff fr_ fb fp fc)) [(ad 20, .inr (5, [.int (nI 0), .int (nI (gV g)), .int (nI (gC g)), .int (nI (gE g)), .ref (ad 21), .ref (ad 22), .ref (ad 23), .ref (ad 24), .ref (ad 25), .int (bI true), .ref (ad 26), .ref (ad 27), .ref (ad 28), .int (nI (mo g (2 ^ gE g))), .ref (ad 29), .ref (ad 30)])), (ad 21, .inl (cy 0, 6, .inl (fun i => nI (gL g i)))), (ad 22, .inl (cy 0, 14, .inl (fun i => nI (gF g i)))), (ad 23, .inl (cy 0, 14, .inl (fun i => nI (gS g i)))), (ad 24, .inl (cy 0, 14, .inl (fun i => nI (gH g i)))), (ad 25, .inl (cy 0, 14, .inl (fun i => zI (gW g i)))), (ad 26, .inl (cy 1, 32768, .inl u35.1)), (ad 27, .inl (cy 0, 32768, .inl u35.2.1)), (ad 28, .inl (cy 0, 15, .inl u35.2.2.1)), (ad 29, .inl (cy 0, 8, .inl u35.2.2.2.1)), (ad 30, .inl (cy 0, 6, .inl u35.2.2.2.2))] → va_S (inW (wM cy ad g th (bI kb) ms ff fr_ fb fp fc)) s.heap H locs → ∀ (ls : Array Slot), lv_has ls 8 [(0, .ref (ad 20)), (4, .int (nI (16384 * kd))), (5, .int (nI (S ||| 2 ^ e))), (6, .int (nI (ms_mk i (cmP g kd (S ||| 2 ^ e))))), (7, .int (nI i))] → W p l ev (headSpec wsX6_circuit ({ frames := 3, cells := 0, slots := 0, locals := 71 })).room s m [.ref (ad 20), .int (nI kd), .int (nI S), .int (nI e)].toArray below meth c H locs 0 0 (MQ below (va_Qi (fun (r : Int32) (u : (Nat → Int32) × (Nat → Int32) × (Nat → Int32) × (Nat → Int32) × (Nat → Int32)) => r = ciA g kd S e ∧ lrF g (2 ^ gE g) u.1 ∧ lrR g (2 ^ gE g) u.2.1 ∧ lrB g (2 ^ gE g) u.2.2.1) (fun u t => va_P D vwCl ((fun u : (Nat → Int32) × (Nat → Int32) × (Nat → Int32) × (Nat → Int32) × (Nat → Int32) => wM cy ad g (nI 0) (bI true) (nI (mo g (2 ^ gE g))) u.1 u.2.1 u.2.2.1 u.2.2.2.1 u.2.2.2.2) u) t.heap) (inW (wM cy ad g th (bI kb) ms ff fr_ fb fp fc))) [.ref (ad 20), .int (nI kd), .int (nI S), .int (nI e)].toArray s 0 0 (inW (wM cy ad g th (bI kb) ms ff fr_ fb fp fc))) (F0 m 95 ls []) := by
                  intro n
                  induction n with
                  | zero =>
                    intro i hfuel  H locs hP hD hS ls hl
                    exact absurd hfuel.2 (by have := hfuel.1; omega)
                  | succ n ih95 =>
                    intro i hfuel  H locs hP hD hS ls hl
                    obtain ⟨hfu1, hfu2⟩ := hfuel
                    refine lv_iload hx hb dX6_circuit_95 (lv_at hl 4 rfl) ?_
                    refine lv_aload_n hx hb dX6_circuit_97 rfl (lv_at hl 0 rfl) ?_
                    refine va_get (D := D) (ci := 5) (v := .int (nI (gE g))) (C := RX6) (T := TX6) (N := 16) hx hb hts inX6 hown hK.1 hP 0 rfl rfl 3 (by decide) (hts (.fieldLink RX6 56 "ColourForestsModel" "edges" "I") (List.mem_of_getElem? (i := 2) rfl)) (fun _ h9 => h9) rfl dX6_circuit_98 ?_
                    refine n_ge (a := i) (b := (gE g)) (tgt := 151) hx hb dX6_circuit_101 (by decide) (by omega) (by omega) (fun c101 => ?_) (fun c101 => ?_)
                    · refine lv_iload hx hb dX6_circuit_151 (lv_at hl 3 rfl) ?_
                      exact wi_ret u35 hx hb hr hlocks hS hP ⟨(by unfold ciA; rw [if_pos ⟨c54, c62⟩, if_neg (by rw [c84]; decide), show gE g = i by omega]), hF, hR, hB⟩ dX6_circuit_153
                    · refine lv_iload hx hb dX6_circuit_104 (lv_at hl 3 rfl) ?_
                      refine lv_iload hx hb dX6_circuit_106 (lv_at hl 2 rfl) ?_
                      refine lv_iload hx hb dX6_circuit_108 (lv_at hl 4 rfl) ?_
                      refine pu_call (va_runS (As := [.int (nI (S ||| 2 ^ e)), .int (nI i)]) (rest := [.int (nI (ms_mk i (cmP g kd (S ||| 2 ^ e))))]) ⟨hx, hb, hml, hown, hts⟩ (c_X6_has l D cy (S := S ||| 2 ^ e) (e := i) (by omega) (by omega)) (va_cwS 2 hts gX6_circuit_X6_has rfl rfl rfl (by decide +kernel) ⟨Nat.le_of_ble_eq_true rfl, Nat.le_of_ble_eq_true rfl⟩) (PU_preS hK hP [] rfl) rfl rfl hl.1 rfl (lv_room (Nat.le_of_ble_eq_true rfl)) dX6_circuit_110 ⟨(Nat.zero_le _), (Nat.zero_le _)⟩) hS hP (fun H locs hP hS => ?_)
                      refine b_eq (b := ((S ||| 2 ^ e).testBit i)) (tgt := 141) hx hb dX6_circuit_113 (by decide) (fun c113 => ?_) (fun c113 => ?_)
                      · refine lv_iconst (v := nI 0) hx hb dX6_circuit_141 (by decide) ?_
                        refine lv_ior hx hb dX6_circuit_142 ?_
                        refine lv_as (y := (nI (ms_mk (i + 1) (cmP g kd (S ||| 2 ^ e))))) (by rw [ni_or]; congr 1; first | exact mk_n2 (cmP_f (Or.inl c113)) | exact mk_n2 (cmP_f (Or.inr c131))) ?_
                        refine lv_istore (lv' := [(6, .int (nI (ms_mk (i + 1) (cmP g kd (S ||| 2 ^ e))))), (0, .ref (ad 20)), (4, .int (nI (16384 * kd))), (5, .int (nI (S ||| 2 ^ e))), (7, .int (nI i))]) hx hb dX6_circuit_143 hl (by decide) rfl (fun ls hl => ?_)
                        refine lv_iinc (v := (nI (i + 1))) (lv' := [(7, .int (nI (i + 1))), (6, .int (nI (ms_mk (i + 1) (cmP g kd (S ||| 2 ^ e))))), (0, .ref (ad 20)), (4, .int (nI (16384 * kd))), (5, .int (nI (S ||| 2 ^ e)))]) hx hb dX6_circuit_145 hl (k := 4) rfl (ni_inc _) (by decide) rfl (fun ls hl => ?_)
                        refine lv_goto (tgt := 95) hx hb dX6_circuit_148 (by decide) ?_
                        exact ih95 (i + 1) ⟨by omega, by omega⟩  _ _ hP hD hS _ (lv_sub hl [2, 3, 4, 1, 0] rfl)
                      · have hxl : (S ||| 2 ^ e) ^^^ 2 ^ i < 2 ^ gE g := Nat.xor_lt_two_pow hB9 (ms_pow_lt (by omega))
                        refine lv_aload_n hx hb dX6_circuit_116 rfl (lv_at hl 0 rfl) ?_
                        refine va_get (D := D) (ci := 5) (v := .ref (ad 26)) (C := RX6) (T := TX6) (N := 16) hx hb hts inX6 hown hK.1 hP 0 rfl rfl 10 (by decide) (hts (.fieldLink RX6 33 "ColourForestsModel" "free" "[Z") (List.mem_of_getElem? (i := 3) rfl)) (fun _ h9 => h9) rfl dX6_circuit_117 ?_
                        refine lv_iload hx hb dX6_circuit_120 (lv_at hl 1 rfl) ?_
                        refine lv_iload hx hb dX6_circuit_122 (lv_at hl 2 rfl) ?_
                        refine lv_iconst (v := nI 1) hx hb dX6_circuit_124 (by decide) ?_
                        refine lv_iload hx hb dX6_circuit_125 (lv_at hl 4 rfl) ?_
                        refine lv_ishl hx hb dX6_circuit_127 ?_
                        refine lv_as (y := (nI (2 ^ i))) (ni_bit (by omega)) ?_
                        refine lv_ixor hx hb dX6_circuit_128 ?_
                        refine lv_as (y := (nI ((S ||| 2 ^ e) ^^^ (2 ^ i)))) (ni_xor _ _) ?_
                        refine lv_iadd hx hb dX6_circuit_129 ?_
                        refine lv_as (y := (nI ((16384 * kd) + ((S ||| 2 ^ e) ^^^ (2 ^ i))))) (nI_add _ _) ?_
                        refine rd_z (k := ((16384 * kd) + ((S ||| 2 ^ e) ^^^ (2 ^ i)))) (v := (bI (fN g kd (ms_sd (S ||| 2 ^ e) (2 ^ i))))) hx hb hK hP 6 rfl (by omega) (by decide) (by rw [xor_bit c113]; exact hF kd _ hk9 (ms_sd_lt hB9)) dX6_circuit_130 ?_
                        refine b_eq (b := (fN g kd (ms_sd (S ||| 2 ^ e) (2 ^ i)))) (tgt := 141) hx hb dX6_circuit_131 (by decide) (fun c131 => ?_) (fun c131 => ?_)
                        · refine lv_iconst (v := nI 0) hx hb dX6_circuit_141 (by decide) ?_
                          refine lv_ior hx hb dX6_circuit_142 ?_
                          refine lv_as (y := (nI (ms_mk (i + 1) (cmP g kd (S ||| 2 ^ e))))) (by rw [ni_or]; congr 1; first | exact mk_n2 (cmP_f (Or.inl c113)) | exact mk_n2 (cmP_f (Or.inr c131))) ?_
                          refine lv_istore (lv' := [(6, .int (nI (ms_mk (i + 1) (cmP g kd (S ||| 2 ^ e))))), (0, .ref (ad 20)), (4, .int (nI (16384 * kd))), (5, .int (nI (S ||| 2 ^ e))), (7, .int (nI i))]) hx hb dX6_circuit_143 hl (by decide) rfl (fun ls hl => ?_)
                          refine lv_iinc (v := (nI (i + 1))) (lv' := [(7, .int (nI (i + 1))), (6, .int (nI (ms_mk (i + 1) (cmP g kd (S ||| 2 ^ e))))), (0, .ref (ad 20)), (4, .int (nI (16384 * kd))), (5, .int (nI (S ||| 2 ^ e)))]) hx hb dX6_circuit_145 hl (k := 4) rfl (ni_inc _) (by decide) rfl (fun ls hl => ?_)
                          refine lv_goto (tgt := 95) hx hb dX6_circuit_148 (by decide) ?_
                          exact ih95 (i + 1) ⟨by omega, by omega⟩  _ _ hP hD hS _ (lv_sub hl [2, 3, 4, 1, 0] rfl)
                        · refine lv_iconst (v := nI 1) hx hb dX6_circuit_134 (by decide) ?_
                          refine lv_iload hx hb dX6_circuit_135 (lv_at hl 4 rfl) ?_
                          refine lv_ishl hx hb dX6_circuit_137 ?_
                          refine lv_as (y := (nI (2 ^ i))) (ni_bit (by omega)) ?_
                          refine lv_goto (tgt := 142) hx hb dX6_circuit_138 (by decide) ?_
                          refine lv_ior hx hb dX6_circuit_142 ?_
                          refine lv_as (y := (nI (ms_mk (i + 1) (cmP g kd (S ||| 2 ^ e))))) (by rw [ni_or]; congr 1; exact mk_y2 (cmP_t c113 c131)) ?_
                          refine lv_istore (lv' := [(6, .int (nI (ms_mk (i + 1) (cmP g kd (S ||| 2 ^ e))))), (0, .ref (ad 20)), (4, .int (nI (16384 * kd))), (5, .int (nI (S ||| 2 ^ e))), (7, .int (nI i))]) hx hb dX6_circuit_143 hl (by decide) rfl (fun ls hl => ?_)
                          refine lv_iinc (v := (nI (i + 1))) (lv' := [(7, .int (nI (i + 1))), (6, .int (nI (ms_mk (i + 1) (cmP g kd (S ||| 2 ^ e))))), (0, .ref (ad 20)), (4, .int (nI (16384 * kd))), (5, .int (nI (S ||| 2 ^ e)))]) hx hb dX6_circuit_145 hl (k := 4) rfl (ni_inc _) (by decide) rfl (fun ls hl => ?_)
                          refine lv_goto (tgt := 95) hx hb dX6_circuit_148 (by decide) ?_
                          exact ih95 (i + 1) ⟨by omega, by omega⟩  _ _ hP hD hS _ (lv_sub hl [2, 3, 4, 1, 0] rfl)
                exact L95 (gE g + 1) 0 ⟨Nat.zero_le _, by omega⟩  _ _ hP hD hS _ (lv_sub hl [4, 3, 2, 1, 0] rfl)
              · refine lv_iconst (v := nI 0) hx hb dX6_circuit_87 (by decide) ?_
                exact wi_ret u35 hx hb hr hlocks hS hP ⟨(by unfold ciA; rw [if_pos ⟨c54, c62⟩, if_pos c84]), hF, hR, hB⟩ dX6_circuit_88
            · refine lv_iconst (v := zI (-1)) hx hb dX6_circuit_65 (by decide) ?_
              exact wi_ret u35 hx hb hr hlocks hS hP ⟨(by unfold ciA; first | rw [if_neg (fun q => absurd (c54.symm.trans q.1) (by decide))] | rw [if_neg (fun q => absurd (c62.symm.trans q.2) (by decide))]), hF, hR, hB⟩ dX6_circuit_66
        · exact absurd c29 (by omega)

set_option maxHeartbeats 4000000 in
set_option maxRecDepth 100000 in
theorem c_X6_closure_no (l : Launch) (D : va_G) (cy : Nat → ClassId) (ad : Nat → Nat) {g : GT} (hg : gOK g) (th kn ms : Int32) {x y : Int32} (h : (decide (x = 0 ∨ x = nI 1) && isN y (2 ^ gE g)) = false) : WI l yX6_closure wsX6_closure ({ frames := 1, cells := 0, slots := 0, locals := 21 }) D cy [.ref (ad 20), .int x, .int y] [(ad 20, .inr (5, [.int th, .int (nI (gV g)), .int (nI (gC g)), .int (nI (gE g)), .ref (ad 21), .ref (ad 22), .ref (ad 23), .ref (ad 24), .ref (ad 25), .int kn, .ref (ad 26), .ref (ad 27), .ref (ad 28), .int ms, .ref (ad 29), .ref (ad 30)]))] (fun (r : Int32) (_ : Unit) => r = zI (-1)) (fun _ : Unit => [(ad 20, .inr (5, [.int (nI 0), .int (nI (gV g)), .int (nI (gC g)), .int (nI (gE g)), .ref (ad 21), .ref (ad 22), .ref (ad 23), .ref (ad 24), .ref (ad 25), .int kn, .ref (ad 26), .ref (ad 27), .ref (ad 28), .int ms, .ref (ad 29), .ref (ad 30)]))]) := by
  refine Met.ofW (cc := cX6_closure) (maxL := 6) (ret := (some .int)) (by decide) rfl ?_
  intro p ev s m args below meth c s₁ B hml hv
  obtain ⟨rfl, ⟨hK, hP⟩, hD0⟩ := hv
  have hx := B.exec
  have hb := B.bytes
  have hr := B.returns
  have hts := atoms_spec (ws := wsX6_closure) B.pre
  have hown : s.vm.findClass RX6 = some m.cls := findClass_of_methodNamed B.named
  have hlocks := B.notSynchronized
  have hD : va_D (inW [(ad 20, .inr (5, [.int th, .int (nI (gV g)), .int (nI (gC g)), .int (nI (gE g)), .ref (ad 21), .ref (ad 22), .ref (ad 23), .ref (ad 24), .ref (ad 25), .int kn, .ref (ad 26), .ref (ad 27), .ref (ad 28), .int ms, .ref (ad 29), .ref (ad 30)]))]) ([(ad 20, .inr (5, [.int th, .int (nI (gV g)), .int (nI (gC g)), .int (nI (gE g)), .ref (ad 21), .ref (ad 22), .ref (ad 23), .ref (ad 24), .ref (ad 25), .int kn, .ref (ad 26), .ref (ad 27), .ref (ad 28), .int ms, .ref (ad 29), .ref (ad 30)]))]) := inW_self hD0
  have hS : va_S (inW [(ad 20, .inr (5, [.int th, .int (nI (gV g)), .int (nI (gC g)), .int (nI (gE g)), .ref (ad 21), .ref (ad 22), .ref (ad 23), .ref (ad 24), .ref (ad 25), .int kn, .ref (ad 26), .ref (ad 27), .ref (ad 28), .int ms, .ref (ad 29), .ref (ad 30)]))]) s.heap s.heap [] := va_S.rf
  have hP : va_P D vwCl [(ad 20, .inr (5, [.int th, .int (nI (gV g)), .int (nI (gC g)), .int (nI (gE g)), .ref (ad 21), .ref (ad 22), .ref (ad 23), .ref (ad 24), .ref (ad 25), .int kn, .ref (ad 26), .ref (ad 27), .ref (ad 28), .int ms, .ref (ad 29), .ref (ad 30)]))] s.heap := hP
  have inX6 : ∀ w ∈ wsX60, w ∈ wsX6_closure := by decide +kernel
  have hl := lv_entry ([.ref (ad 20), .int x, .int y]) (n := 6) (Nat.le_of_ble_eq_true rfl)
  rw [lg_entry_eq]
  generalize (lg_sl ([.ref (ad 20), .int x, .int y]) ++ List.replicate (6 - (lg_sl ([.ref (ad 20), .int x, .int y])).length) Slot.unset).toArray = ls at hl ⊢
  have hl : lv_has ls 6 [(0, .ref (ad 20)), (1, .int x), (2, .int y)] := hl
  have hgen := True.intro
  have hE := hg.2.2.1
  have hV := hg.1
  have hC := hg.2.1
  have hS8 : 2 ^ gE g ≤ 2 ^ 14 := Nat.pow_le_pow_right (by decide) hE
  refine lv_aload_n hx hb dX6_closure_0 rfl (lv_at hl 0 rfl) ?_
  refine lv_iconst (v := nI 0) hx hb dX6_closure_1 (by decide) ?_
  refine va_put (D := D) (ci := 5) (v := .int (nI 0)) (ty := .int) (C := RX6) (T := TX6) (N := 16) hx hb hts inX6 tyX6 tyX6_ok nmX6 hown hK.1 hP hD hS 0 rfl rfl 0 (by decide) (hts (.fieldLink RX6 49 "ColourForestsModel" "thrown" "I") (List.mem_of_getElem? (i := 1) rfl)) (fun _ h9 => h9) rfl (by decide +kernel) rfl rfl (Nat.le_of_ble_eq_true rfl) dX6_closure_2 (fun H locs hP hD hS => ?_)
  have hP : va_P D vwCl [(ad 20, .inr (5, [.int (nI 0), .int (nI (gV g)), .int (nI (gC g)), .int (nI (gE g)), .ref (ad 21), .ref (ad 22), .ref (ad 23), .ref (ad 24), .ref (ad 25), .int kn, .ref (ad 26), .ref (ad 27), .ref (ad 28), .int ms, .ref (ad 29), .ref (ad 30)]))] H := hP
  have hD : va_D (inW [(ad 20, .inr (5, [.int th, .int (nI (gV g)), .int (nI (gC g)), .int (nI (gE g)), .ref (ad 21), .ref (ad 22), .ref (ad 23), .ref (ad 24), .ref (ad 25), .int kn, .ref (ad 26), .ref (ad 27), .ref (ad 28), .int ms, .ref (ad 29), .ref (ad 30)]))]) [(ad 20, .inr (5, [.int (nI 0), .int (nI (gV g)), .int (nI (gC g)), .int (nI (gE g)), .ref (ad 21), .ref (ad 22), .ref (ad 23), .ref (ad 24), .ref (ad 25), .int kn, .ref (ad 26), .ref (ad 27), .ref (ad 28), .int ms, .ref (ad 29), .ref (ad 30)]))] := hD
  refine lv_iload_n hx hb dX6_closure_5 rfl (lv_at hl 1 rfl) ?_
  refine pu_call (va_runS (As := [.int x]) (rest := []) ⟨hx, hb, hml, hown, hts⟩ (c_X6_isKind l D cy x) (va_cwS 1 hts gX6_closure_X6_isKind rfl rfl rfl (by decide +kernel) ⟨Nat.le_of_ble_eq_true rfl, Nat.le_of_ble_eq_true rfl⟩) (PU_preS hK hP [] rfl) rfl rfl hl.1 rfl (lv_room (Nat.le_of_ble_eq_true rfl)) dX6_closure_6 ⟨(Nat.zero_le _), (Nat.zero_le _)⟩) hS hP (fun H locs hP hS => ?_)
  refine b_eq (b := (decide (x = 0 ∨ x = nI 1))) (tgt := 20) hx hb dX6_closure_9 (by decide) (fun c9 => ?_) (fun c9 => ?_)
  · have c9 := of_decide_eq_false c9
    refine lv_iconst (v := zI (-1)) hx hb dX6_closure_20 (by decide) ?_
    exact wi_ret () hx hb hr hlocks hS hP rfl dX6_closure_21
  · have c9 := of_decide_eq_true c9
    refine lv_aload_n hx hb dX6_closure_12 rfl (lv_at hl 0 rfl) ?_
    refine lv_iload_n hx hb dX6_closure_13 rfl (lv_at hl 2 rfl) ?_
    refine pu_call (va_runV (As := [.int y]) (rest := []) ⟨hx, hb, hml, hown, hts⟩ (c_X6_isSet l D cy ad hg ((nI 0)) kn ms y) (cwV 1 hts gX6_closure_X6_isSet rfl rfl rfl (by decide +kernel) ⟨Nat.le_of_ble_eq_true rfl, Nat.le_of_ble_eq_true rfl⟩) (PU_preV (ci := 5) (q0 := 0) hK hP 0 rfl rfl [0] rfl) rfl rfl hl.1 rfl (lv_room (Nat.le_of_ble_eq_true rfl)) dX6_closure_14 ⟨(Nat.zero_le _), (Nat.zero_le _)⟩) hS hP (fun H locs hP hS => ?_)
    refine b_ne (b := (isN y (2 ^ gE g))) (tgt := 22) hx hb dX6_closure_17 (by decide) (fun c17 => ?_) (fun c17 => ?_)
    · exact absurd h (by rw [decide_eq_true c9, c17]; decide)
    · refine lv_iconst (v := zI (-1)) hx hb dX6_closure_20 (by decide) ?_
      exact wi_ret () hx hb hr hlocks hS hP rfl dX6_closure_21

set_option maxHeartbeats 4000000 in
set_option maxRecDepth 100000 in
theorem c_X6_closure_yes (l : Launch) (D : va_G) (cy : Nat → ClassId) (ad : Nat → Nat) {g : GT} (hg : gOK g) (th : Int32) {kb : Bool} {ms : Int32} {ff fr_ fb fp fc : Nat → Int32} (hv9 : kb = true → lrF g (2 ^ gE g) ff ∧ lrR g (2 ^ gE g) fr_ ∧ lrB g (2 ^ gE g) fb ∧ ms = nI (mo g (2 ^ gE g))) {kd S : Nat} (hk9 : kd < 2) (hS9 : S < 2 ^ gE g) : WI l yX6_closure wsX6_closure ({ frames := 3, cells := 0, slots := 0, locals := 71 }) D cy [.ref (ad 20), .int (nI kd), .int (nI S)] (wM cy ad g th (bI kb) ms ff fr_ fb fp fc) (fun (r : Int32) (u : (Nat → Int32) × (Nat → Int32) × (Nat → Int32) × (Nat → Int32) × (Nat → Int32)) => r = nI (cloN (rN g kd) (gE g) S) ∧ lrF g (2 ^ gE g) u.1 ∧ lrR g (2 ^ gE g) u.2.1 ∧ lrB g (2 ^ gE g) u.2.2.1) (fun u : (Nat → Int32) × (Nat → Int32) × (Nat → Int32) × (Nat → Int32) × (Nat → Int32) => wM cy ad g (nI 0) (bI true) (nI (mo g (2 ^ gE g))) u.1 u.2.1 u.2.2.1 u.2.2.2.1 u.2.2.2.2) := by
  refine Met.ofW (cc := cX6_closure) (maxL := 6) (ret := (some .int)) (by decide) rfl ?_
  intro p ev s m args below meth c s₁ B hml hv
  obtain ⟨rfl, ⟨hK, hP⟩, hD0⟩ := hv
  have hx := B.exec
  have hb := B.bytes
  have hr := B.returns
  have hts := atoms_spec (ws := wsX6_closure) B.pre
  have hown : s.vm.findClass RX6 = some m.cls := findClass_of_methodNamed B.named
  have hlocks := B.notSynchronized
  have hD : va_D (inW (wM cy ad g th (bI kb) ms ff fr_ fb fp fc)) (wM cy ad g th (bI kb) ms ff fr_ fb fp fc) := inW_self hD0
  have hS : va_S (inW (wM cy ad g th (bI kb) ms ff fr_ fb fp fc)) s.heap s.heap [] := va_S.rf
  have hP : va_P D vwCl (wM cy ad g th (bI kb) ms ff fr_ fb fp fc) s.heap := hP
  have inX6 : ∀ w ∈ wsX60, w ∈ wsX6_closure := by decide +kernel
  have hl := lv_entry ([.ref (ad 20), .int (nI kd), .int (nI S)]) (n := 6) (Nat.le_of_ble_eq_true rfl)
  rw [lg_entry_eq]
  generalize (lg_sl ([.ref (ad 20), .int (nI kd), .int (nI S)]) ++ List.replicate (6 - (lg_sl ([.ref (ad 20), .int (nI kd), .int (nI S)])).length) Slot.unset).toArray = ls at hl ⊢
  have hl : lv_has ls 6 [(0, .ref (ad 20)), (1, .int (nI kd)), (2, .int (nI S))] := hl
  have hgen := True.intro
  have hE := hg.2.2.1
  have hV := hg.1
  have hC := hg.2.1
  have hS8 : 2 ^ gE g ≤ 2 ^ 14 := Nat.pow_le_pow_right (by decide) hE
  refine lv_aload_n hx hb dX6_closure_0 rfl (lv_at hl 0 rfl) ?_
  refine lv_iconst (v := nI 0) hx hb dX6_closure_1 (by decide) ?_
  refine va_put (D := D) (ci := 5) (v := .int (nI 0)) (ty := .int) (C := RX6) (T := TX6) (N := 16) hx hb hts inX6 tyX6 tyX6_ok nmX6 hown hK.1 hP hD hS 0 rfl rfl 0 (by decide) (hts (.fieldLink RX6 49 "ColourForestsModel" "thrown" "I") (List.mem_of_getElem? (i := 1) rfl)) (fun _ h9 => h9) rfl (by decide +kernel) rfl rfl (Nat.le_of_ble_eq_true rfl) dX6_closure_2 (fun H locs hP hD hS => ?_)
  have hP : va_P D vwCl [(ad 20, .inr (5, [.int (nI 0), .int (nI (gV g)), .int (nI (gC g)), .int (nI (gE g)), .ref (ad 21), .ref (ad 22), .ref (ad 23), .ref (ad 24), .ref (ad 25), .int (bI kb), .ref (ad 26), .ref (ad 27), .ref (ad 28), .int ms, .ref (ad 29), .ref (ad 30)])), (ad 21, .inl (cy 0, 6, .inl (fun i => nI (gL g i)))), (ad 22, .inl (cy 0, 14, .inl (fun i => nI (gF g i)))), (ad 23, .inl (cy 0, 14, .inl (fun i => nI (gS g i)))), (ad 24, .inl (cy 0, 14, .inl (fun i => nI (gH g i)))), (ad 25, .inl (cy 0, 14, .inl (fun i => zI (gW g i)))), (ad 26, .inl (cy 1, 32768, .inl ff)), (ad 27, .inl (cy 0, 32768, .inl fr_)), (ad 28, .inl (cy 0, 15, .inl fb)), (ad 29, .inl (cy 0, 8, .inl fp)), (ad 30, .inl (cy 0, 6, .inl fc))] H := hP
  have hD : va_D (inW (wM cy ad g th (bI kb) ms ff fr_ fb fp fc)) [(ad 20, .inr (5, [.int (nI 0), .int (nI (gV g)), .int (nI (gC g)), .int (nI (gE g)), .ref (ad 21), .ref (ad 22), .ref (ad 23), .ref (ad 24), .ref (ad 25), .int (bI kb), .ref (ad 26), .ref (ad 27), .ref (ad 28), .int ms, .ref (ad 29), .ref (ad 30)])), (ad 21, .inl (cy 0, 6, .inl (fun i => nI (gL g i)))), (ad 22, .inl (cy 0, 14, .inl (fun i => nI (gF g i)))), (ad 23, .inl (cy 0, 14, .inl (fun i => nI (gS g i)))), (ad 24, .inl (cy 0, 14, .inl (fun i => nI (gH g i)))), (ad 25, .inl (cy 0, 14, .inl (fun i => zI (gW g i)))), (ad 26, .inl (cy 1, 32768, .inl ff)), (ad 27, .inl (cy 0, 32768, .inl fr_)), (ad 28, .inl (cy 0, 15, .inl fb)), (ad 29, .inl (cy 0, 8, .inl fp)), (ad 30, .inl (cy 0, 6, .inl fc))] := hD
  refine lv_iload_n hx hb dX6_closure_5 rfl (lv_at hl 1 rfl) ?_
  refine pu_call (va_runS (As := [.int (nI kd)]) (rest := []) ⟨hx, hb, hml, hown, hts⟩ (c_X6_isKind l D cy ((nI kd))) (va_cwS 1 hts gX6_closure_X6_isKind rfl rfl rfl (by decide +kernel) ⟨Nat.le_of_ble_eq_true rfl, Nat.le_of_ble_eq_true rfl⟩) (PU_preS hK hP [] rfl) rfl rfl hl.1 rfl (lv_room (Nat.le_of_ble_eq_true rfl)) dX6_closure_6 ⟨(Nat.zero_le _), (Nat.zero_le _)⟩) hS hP (fun H locs hP hS => ?_)
  refine b_eq (b := (decide ((nI kd) = 0 ∨ (nI kd) = nI 1))) (tgt := 20) hx hb dX6_closure_9 (by decide) (fun c9 => ?_) (fun c9 => ?_)
  · have c9 := of_decide_eq_false c9
    exact absurd (isK hk9) c9
  · have c9 := of_decide_eq_true c9
    refine lv_aload_n hx hb dX6_closure_12 rfl (lv_at hl 0 rfl) ?_
    refine lv_iload_n hx hb dX6_closure_13 rfl (lv_at hl 2 rfl) ?_
    refine pu_call (va_runV (As := [.int (nI S)]) (rest := []) ⟨hx, hb, hml, hown, hts⟩ (c_X6_isSet l D cy ad hg ((nI 0)) ((bI kb)) ms ((nI S))) (cwV 1 hts gX6_closure_X6_isSet rfl rfl rfl (by decide +kernel) ⟨Nat.le_of_ble_eq_true rfl, Nat.le_of_ble_eq_true rfl⟩) (PU_preV (ci := 5) (q0 := 0) hK hP 0 rfl rfl [0] rfl) rfl rfl hl.1 rfl (lv_room (Nat.le_of_ble_eq_true rfl)) dX6_closure_14 ⟨(Nat.zero_le _), (Nat.zero_le _)⟩) hS hP (fun H locs hP hS => ?_)
    refine b_ne (b := (isN ((nI S)) (2 ^ gE g))) (tgt := 22) hx hb dX6_closure_17 (by decide) (fun c17 => ?_) (fun c17 => ?_)
    · refine lv_aload_n hx hb dX6_closure_22 rfl (lv_at hl 0 rfl) ?_
      refine wr_callv [0, 1, 2, 3, 4, 5, 6, 7, 8, 9, 10] (va_runV (As := []) (rest := []) ⟨hx, hb, hml, hown, hts⟩ (c_X6_learn l D cy ad hg ((nI 0)) (kb := kb) (ms := ms) (ff := ff) (fr_ := fr_) (fb := fb) (fp := fp) (fc := fc) hv9) (cwV 0 hts gX6_closure_X6_learn rfl rfl rfl (by decide +kernel) ⟨Nat.le_of_ble_eq_true rfl, Nat.le_of_ble_eq_true rfl⟩) (WR_preV (ci := 5) (q0 := 0) hK hP hD rfl rfl [0, 1, 2, 3, 4, 5, 6, 7, 8, 9, 10] (by decide) rfl rfl) rfl rfl hl.1 rfl (lv_room (Nat.le_of_ble_eq_true rfl)) dX6_closure_23 ⟨(Nat.zero_le _), (Nat.zero_le _)⟩) hS hP hD rfl (fun _ => rfl) (fun _ => rfl) (fun u23 H locs w23 hP hD hS => ?_)
      obtain ⟨hF, hR, hB⟩ := w23
      have hP : va_P D vwCl [(ad 20, .inr (5, [.int (nI 0), .int (nI (gV g)), .int (nI (gC g)), .int (nI (gE g)), .ref (ad 21), .ref (ad 22), .ref (ad 23), .ref (ad 24), .ref (ad 25), .int (bI true), .ref (ad 26), .ref (ad 27), .ref (ad 28), .int (nI (mo g (2 ^ gE g))), .ref (ad 29), .ref (ad 30)])), (ad 21, .inl (cy 0, 6, .inl (fun i => nI (gL g i)))), (ad 22, .inl (cy 0, 14, .inl (fun i => nI (gF g i)))), (ad 23, .inl (cy 0, 14, .inl (fun i => nI (gS g i)))), (ad 24, .inl (cy 0, 14, .inl (fun i => nI (gH g i)))), (ad 25, .inl (cy 0, 14, .inl (fun i => zI (gW g i)))), (ad 26, .inl (cy 1, 32768, .inl u23.1)), (ad 27, .inl (cy 0, 32768, .inl u23.2.1)), (ad 28, .inl (cy 0, 15, .inl u23.2.2.1)), (ad 29, .inl (cy 0, 8, .inl u23.2.2.2.1)), (ad 30, .inl (cy 0, 6, .inl u23.2.2.2.2))] H := hP
      have hD : va_D (inW (wM cy ad g th (bI kb) ms ff fr_ fb fp fc)) [(ad 20, .inr (5, [.int (nI 0), .int (nI (gV g)), .int (nI (gC g)), .int (nI (gE g)), .ref (ad 21), .ref (ad 22), .ref (ad 23), .ref (ad 24), .ref (ad 25), .int (bI true), .ref (ad 26), .ref (ad 27), .ref (ad 28), .int (nI (mo g (2 ^ gE g))), .ref (ad 29), .ref (ad 30)])), (ad 21, .inl (cy 0, 6, .inl (fun i => nI (gL g i)))), (ad 22, .inl (cy 0, 14, .inl (fun i => nI (gF g i)))), (ad 23, .inl (cy 0, 14, .inl (fun i => nI (gS g i)))), (ad 24, .inl (cy 0, 14, .inl (fun i => nI (gH g i)))), (ad 25, .inl (cy 0, 14, .inl (fun i => zI (gW g i)))), (ad 26, .inl (cy 1, 32768, .inl u23.1)), (ad 27, .inl (cy 0, 32768, .inl u23.2.1)), (ad 28, .inl (cy 0, 15, .inl u23.2.2.1)), (ad 29, .inl (cy 0, 8, .inl u23.2.2.2.1)), (ad 30, .inl (cy 0, 6, .inl u23.2.2.2.2))] := hD
      refine lv_sipush (v := nI 16384) hx hb dX6_closure_26 (by decide) ?_
      refine lv_iload_n hx hb dX6_closure_29 rfl (lv_at hl 1 rfl) ?_
      refine lv_imul hx hb dX6_closure_30 ?_
      refine lv_as (y := (nI (16384 * kd))) (ni_mul _ _) ?_
      refine lv_istore_n (lv' := [(3, .int (nI (16384 * kd))), (0, .ref (ad 20)), (1, .int (nI kd)), (2, .int (nI S))]) hx hb dX6_closure_31 rfl hl (by decide) rfl (fun ls hl => ?_)
      refine lv_iload_n hx hb dX6_closure_32 rfl (lv_at hl 3 rfl) ?_
      refine lv_istore (lv' := [(4, .int (nI S)), (3, .int (nI (16384 * kd))), (0, .ref (ad 20)), (1, .int (nI kd)), (2, .int (nI S))]) hx hb dX6_closure_33 hl (by decide) rfl (fun ls hl => ?_)
      refine lv_iconst (v := nI 0) hx hb dX6_closure_35 (by decide) ?_
      refine lv_istore (lv' := [(5, .int (nI 0)), (4, .int (nI S)), (3, .int (nI (16384 * kd))), (0, .ref (ad 20)), (1, .int (nI kd)), (2, .int (nI S))]) hx hb dX6_closure_36 hl (by decide) rfl (fun ls hl => ?_)
      have L38 : ∀ (n : Nat) (e : Nat), e ≤ gE g ∧ gE g + 1 ≤ e + n → ∀ (H : Heap) (locs : List Loc), va_P D vwCl [(ad 20, .inr (5, [.int (nI 0), .int (nI (gV g)), .int (nI (gC g)), .int (nI (gE g)), .ref (ad 21), .ref (ad 22), .ref (ad 23), .ref (ad 24), .ref (ad 25), .int (bI true), .ref (ad 26), .ref (ad 27), .ref (ad 28), .int (nI (mo g (2 ^ gE g))), .ref (ad 29), .ref (ad 30)])), (ad 21, .inl (cy 0, 6, .inl (fun i => nI (gL g i)))), (ad 22, .inl (cy 0, 14, .inl (fun i => nI (gF g i)))), (ad 23, .inl (cy 0, 14, .inl (fun i => nI (gS g i)))), (ad 24, .inl (cy 0, 14, .inl (fun i => nI (gH g i)))), (ad 25, .inl (cy 0, 14, .inl (fun i => zI (gW g i)))), (ad 26, .inl (cy 1, 32768, .inl u23.1)), (ad 27, .inl (cy 0, 32768, .inl u23.2.1)), (ad 28, .inl (cy 0, 15, .inl u23.2.2.1)), (ad 29, .inl (cy 0, 8, .inl u23.2.2.2.1)), (ad 30, .inl (cy 0, 6, .inl u23.2.2.2.2))] H → va_D (inW (wM cy ad g th (bI kb) ms ff fr_ fb fp fc)) [(ad 20, .inr (5, [.int (nI 0), .int (nI (gV g)), .int (nI (gC g)), .int (nI (gE g)), .ref (ad 21), .ref (ad 22), .ref (ad 23), .ref (ad 24), .ref (ad 25), .int (bI true), .ref (ad 26), .ref (ad 27), .ref (ad 28), .int (nI (mo g (2 ^ gE g))), .ref (ad 29), .ref (ad 30)])), (ad 21, .inl (cy 0, 6, .inl (fun i => nI (gL g i)))), (ad 22, .inl (cy 0, 14, .inl (fun i => nI (gF g i)))), (ad 23, .inl (cy 0, 14, .inl (fun i => nI (gS g i)))), (ad 24, .inl (cy 0, 14, .inl (fun i => nI (gH g i)))), (ad 25, .inl (cy 0, 14, .inl (fun i => zI (gW g i)))), (ad 26, .inl (cy 1, 32768, .inl u23.1)), (ad 27, .inl (cy 0, 32768, .inl u23.2.1)), (ad 28, .inl (cy 0, 15, .inl u23.2.2.1)), (ad 29, .inl (cy 0, 8, .inl u23.2.2.2.1)), (ad 30, .inl (cy 0, 6, .inl u23.2.2.2.2))] → va_S (inW (wM cy ad g th (bI kb) ms ff fr_ fb fp fc)) s.heap H locs → ∀ (ls : Array Slot), lv_has ls 6 [(0, .ref (ad 20)), (2, .int (nI S)), (3, .int (nI (16384 * kd))), (4, .int (nI (S ||| ms_mk e (cloP (rN g kd) S)))), (5, .int (nI e))] → W p l ev (headSpec wsX6_closure ({ frames := 3, cells := 0, slots := 0, locals := 71 })).room s m [.ref (ad 20), .int (nI kd), .int (nI S)].toArray below meth c H locs 0 0 (MQ below (va_Qi (fun (r : Int32) (u : (Nat → Int32) × (Nat → Int32) × (Nat → Int32) × (Nat → Int32) × (Nat → Int32)) => r = nI (cloN (rN g kd) (gE g) S) ∧ lrF g (2 ^ gE g) u.1 ∧ lrR g (2 ^ gE g) u.2.1 ∧ lrB g (2 ^ gE g) u.2.2.1) (fun u t => va_P D vwCl ((fun u : (Nat → Int32) × (Nat → Int32) × (Nat → Int32) × (Nat → Int32) × (Nat → Int32) => wM cy ad g (nI 0) (bI true) (nI (mo g (2 ^ gE g))) u.1 u.2.1 u.2.2.1 u.2.2.2.1 u.2.2.2.2) u) t.heap) (inW (wM cy ad g th (bI kb) ms ff fr_ fb fp fc))) [.ref (ad 20), .int (nI kd), .int (nI S)].toArray s 0 0 (inW (wM cy ad g th (bI kb) ms ff fr_ fb fp fc))) (F0 m 38 ls []) := by
        intro n
        induction n with
        | zero =>
          intro e hfuel  H locs hP hD hS ls hl
          exact absurd hfuel.2 (by have := hfuel.1; omega)
        | succ n ih38 =>
          intro e hfuel  H locs hP hD hS ls hl
          obtain ⟨hfu1, hfu2⟩ := hfuel
          refine lv_iload hx hb dX6_closure_38 (lv_at hl 4 rfl) ?_
          refine lv_aload_n hx hb dX6_closure_40 rfl (lv_at hl 0 rfl) ?_
          refine va_get (D := D) (ci := 5) (v := .int (nI (gE g))) (C := RX6) (T := TX6) (N := 16) hx hb hts inX6 hown hK.1 hP 0 rfl rfl 3 (by decide) (hts (.fieldLink RX6 56 "ColourForestsModel" "edges" "I") (List.mem_of_getElem? (i := 2) rfl)) (fun _ h9 => h9) rfl dX6_closure_41 ?_
          refine n_ge (a := e) (b := (gE g)) (tgt := 90) hx hb dX6_closure_44 (by decide) (by omega) (by omega) (fun c44 => ?_) (fun c44 => ?_)
          · refine lv_iload hx hb dX6_closure_90 (lv_at hl 3 rfl) ?_
            exact wi_ret u23 hx hb hr hlocks hS hP ⟨(by rw [show e = gE g by omega]; rfl), hF, hR, hB⟩ dX6_closure_92
          · have hB9 : S ||| 2 ^ e < 2 ^ gE g := ms_ins_lt hS9 (by omega)
            have hr1 := rN_le hg kd (S ||| 2 ^ e)
            have hr2 := rN_le hg kd S
            refine lv_iload hx hb dX6_closure_47 (lv_at hl 3 rfl) ?_
            refine lv_aload_n hx hb dX6_closure_49 rfl (lv_at hl 0 rfl) ?_
            refine va_get (D := D) (ci := 5) (v := .ref (ad 27)) (C := RX6) (T := TX6) (N := 16) hx hb hts inX6 hown hK.1 hP 0 rfl rfl 11 (by decide) (hts (.fieldLink RX6 37 "ColourForestsModel" "ranks" "[I") (List.mem_of_getElem? (i := 3) rfl)) (fun _ h9 => h9) rfl dX6_closure_50 ?_
            refine lv_iload_n hx hb dX6_closure_53 rfl (lv_at hl 2 rfl) ?_
            refine lv_iload_n hx hb dX6_closure_54 rfl (lv_at hl 1 rfl) ?_
            refine lv_iconst (v := nI 1) hx hb dX6_closure_55 (by decide) ?_
            refine lv_iload hx hb dX6_closure_56 (lv_at hl 4 rfl) ?_
            refine lv_ishl hx hb dX6_closure_58 ?_
            refine lv_as (y := (nI (2 ^ e))) (ni_bit (by omega)) ?_
            refine lv_ior hx hb dX6_closure_59 ?_
            refine lv_as (y := (nI (S ||| (2 ^ e)))) (ni_or _ _) ?_
            refine lv_iadd hx hb dX6_closure_60 ?_
            refine lv_as (y := (nI ((16384 * kd) + (S ||| (2 ^ e))))) (nI_add _ _) ?_
            refine rd_i (k := ((16384 * kd) + (S ||| (2 ^ e)))) (v := (nI (rN g kd (S ||| 2 ^ e)))) hx hb hK hP 7 rfl (by omega) (by decide) (hR kd _ hk9 hB9) dX6_closure_61 ?_
            refine lv_aload_n hx hb dX6_closure_62 rfl (lv_at hl 0 rfl) ?_
            refine va_get (D := D) (ci := 5) (v := .ref (ad 27)) (C := RX6) (T := TX6) (N := 16) hx hb hts inX6 hown hK.1 hP 0 rfl rfl 11 (by decide) (hts (.fieldLink RX6 37 "ColourForestsModel" "ranks" "[I") (List.mem_of_getElem? (i := 3) rfl)) (fun _ h9 => h9) rfl dX6_closure_63 ?_
            refine lv_iload_n hx hb dX6_closure_66 rfl (lv_at hl 2 rfl) ?_
            refine lv_iload_n hx hb dX6_closure_67 rfl (lv_at hl 1 rfl) ?_
            refine lv_iadd hx hb dX6_closure_68 ?_
            refine lv_as (y := (nI ((16384 * kd) + S))) (nI_add _ _) ?_
            refine rd_i (k := ((16384 * kd) + S)) (v := (nI (rN g kd S))) hx hb hK hP 7 rfl (by omega) (by decide) (hR kd _ hk9 hS9) dX6_closure_69 ?_
            refine n_ne (a := (rN g kd (S ||| 2 ^ e))) (b := (rN g kd S)) (tgt := 80) hx hb dX6_closure_70 (by decide) (by omega) (by omega) (fun c70 => ?_) (fun c70 => ?_)
            · refine lv_iconst (v := nI 0) hx hb dX6_closure_80 (by decide) ?_
              refine lv_ior hx hb dX6_closure_81 ?_
              refine lv_as (y := (nI (S ||| ms_mk (e + 1) (cloP (rN g kd) S)))) (by rw [ni_or]; congr 1; exact cl_n c70) ?_
              refine lv_istore (lv' := [(4, .int (nI (S ||| ms_mk (e + 1) (cloP (rN g kd) S)))), (0, .ref (ad 20)), (2, .int (nI S)), (3, .int (nI (16384 * kd))), (5, .int (nI e))]) hx hb dX6_closure_82 hl (by decide) rfl (fun ls hl => ?_)
              refine lv_iinc (v := (nI (e + 1))) (lv' := [(5, .int (nI (e + 1))), (4, .int (nI (S ||| ms_mk (e + 1) (cloP (rN g kd) S)))), (0, .ref (ad 20)), (2, .int (nI S)), (3, .int (nI (16384 * kd)))]) hx hb dX6_closure_84 hl (k := 4) rfl (ni_inc _) (by decide) rfl (fun ls hl => ?_)
              refine lv_goto (tgt := 38) hx hb dX6_closure_87 (by decide) ?_
              exact ih38 (e + 1) ⟨by omega, by omega⟩  _ _ hP hD hS _ (lv_sub hl [2, 3, 4, 1, 0] rfl)
            · refine lv_iconst (v := nI 1) hx hb dX6_closure_73 (by decide) ?_
              refine lv_iload hx hb dX6_closure_74 (lv_at hl 4 rfl) ?_
              refine lv_ishl hx hb dX6_closure_76 ?_
              refine lv_as (y := (nI (2 ^ e))) (ni_bit (by omega)) ?_
              refine lv_goto (tgt := 81) hx hb dX6_closure_77 (by decide) ?_
              refine lv_ior hx hb dX6_closure_81 ?_
              refine lv_as (y := (nI (S ||| ms_mk (e + 1) (cloP (rN g kd) S)))) (by rw [ni_or]; congr 1; exact cl_y c70) ?_
              refine lv_istore (lv' := [(4, .int (nI (S ||| ms_mk (e + 1) (cloP (rN g kd) S)))), (0, .ref (ad 20)), (2, .int (nI S)), (3, .int (nI (16384 * kd))), (5, .int (nI e))]) hx hb dX6_closure_82 hl (by decide) rfl (fun ls hl => ?_)
              refine lv_iinc (v := (nI (e + 1))) (lv' := [(5, .int (nI (e + 1))), (4, .int (nI (S ||| ms_mk (e + 1) (cloP (rN g kd) S)))), (0, .ref (ad 20)), (2, .int (nI S)), (3, .int (nI (16384 * kd)))]) hx hb dX6_closure_84 hl (k := 4) rfl (ni_inc _) (by decide) rfl (fun ls hl => ?_)
              refine lv_goto (tgt := 38) hx hb dX6_closure_87 (by decide) ?_
              exact ih38 (e + 1) ⟨by omega, by omega⟩  _ _ hP hD hS _ (lv_sub hl [2, 3, 4, 1, 0] rfl)
      exact L38 (gE g + 1) 0 ⟨Nat.zero_le _, by omega⟩  _ _ hP hD hS _ (by rw [show ms_mk 0 _ = 0 from rfl, Nat.or_zero]; exact lv_sub hl [3, 5, 2, 1, 0] rfl)
    · exact absurd (c17.symm.trans (isN_y hS9 (by omega))) (by decide)

set_option maxHeartbeats 4000000 in
set_option maxRecDepth 100000 in
theorem c_X6_most (l : Launch) (D : va_G) (cy : Nat → ClassId) (ad : Nat → Nat) {g : GT} (hg : gOK g) (th : Int32) {kb : Bool} {ms : Int32} {ff fr_ fb fp fc : Nat → Int32} (hv9 : kb = true → lrF g (2 ^ gE g) ff ∧ lrR g (2 ^ gE g) fr_ ∧ lrB g (2 ^ gE g) fb ∧ ms = nI (mo g (2 ^ gE g))) : WI l yX6_most wsX6_most ({ frames := 3, cells := 0, slots := 0, locals := 71 }) D cy [.ref (ad 20)] (wM cy ad g th (bI kb) ms ff fr_ fb fp fc) (fun (r : Int32) (u : (Nat → Int32) × (Nat → Int32) × (Nat → Int32) × (Nat → Int32) × (Nat → Int32)) => r = nI (moA g) ∧ lrF g (2 ^ gE g) u.1 ∧ lrR g (2 ^ gE g) u.2.1 ∧ lrB g (2 ^ gE g) u.2.2.1) (fun u : (Nat → Int32) × (Nat → Int32) × (Nat → Int32) × (Nat → Int32) × (Nat → Int32) => wM cy ad g (nI 0) (bI true) (nI (mo g (2 ^ gE g))) u.1 u.2.1 u.2.2.1 u.2.2.2.1 u.2.2.2.2) := by
  refine Met.ofW (cc := cX6_most) (maxL := 1) (ret := (some .int)) (by decide) rfl ?_
  intro p ev s m args below meth c s₁ B hml hv
  obtain ⟨rfl, ⟨hK, hP⟩, hD0⟩ := hv
  have hx := B.exec
  have hb := B.bytes
  have hr := B.returns
  have hts := atoms_spec (ws := wsX6_most) B.pre
  have hown : s.vm.findClass RX6 = some m.cls := findClass_of_methodNamed B.named
  have hlocks := B.notSynchronized
  have hD : va_D (inW (wM cy ad g th (bI kb) ms ff fr_ fb fp fc)) (wM cy ad g th (bI kb) ms ff fr_ fb fp fc) := inW_self hD0
  have hS : va_S (inW (wM cy ad g th (bI kb) ms ff fr_ fb fp fc)) s.heap s.heap [] := va_S.rf
  have hP : va_P D vwCl (wM cy ad g th (bI kb) ms ff fr_ fb fp fc) s.heap := hP
  have inX6 : ∀ w ∈ wsX60, w ∈ wsX6_most := by decide +kernel
  have hl := lv_entry ([.ref (ad 20)]) (n := 1) (Nat.le_of_ble_eq_true rfl)
  rw [lg_entry_eq]
  generalize (lg_sl ([.ref (ad 20)]) ++ List.replicate (1 - (lg_sl ([.ref (ad 20)])).length) Slot.unset).toArray = ls at hl ⊢
  have hl : lv_has ls 1 [(0, .ref (ad 20))] := hl
  have hgen := True.intro
  have hE := hg.2.2.1
  have hV := hg.1
  have hC := hg.2.1
  have hS8 : 2 ^ gE g ≤ 2 ^ 14 := Nat.pow_le_pow_right (by decide) hE
  refine lv_aload_n hx hb dX6_most_0 rfl (lv_at hl 0 rfl) ?_
  refine lv_iconst (v := nI 0) hx hb dX6_most_1 (by decide) ?_
  refine va_put (D := D) (ci := 5) (v := .int (nI 0)) (ty := .int) (C := RX6) (T := TX6) (N := 16) hx hb hts inX6 tyX6 tyX6_ok nmX6 hown hK.1 hP hD hS 0 rfl rfl 0 (by decide) (hts (.fieldLink RX6 49 "ColourForestsModel" "thrown" "I") (List.mem_of_getElem? (i := 1) rfl)) (fun _ h9 => h9) rfl (by decide +kernel) rfl rfl (Nat.le_of_ble_eq_true rfl) dX6_most_2 (fun H locs hP hD hS => ?_)
  have hP : va_P D vwCl [(ad 20, .inr (5, [.int (nI 0), .int (nI (gV g)), .int (nI (gC g)), .int (nI (gE g)), .ref (ad 21), .ref (ad 22), .ref (ad 23), .ref (ad 24), .ref (ad 25), .int (bI kb), .ref (ad 26), .ref (ad 27), .ref (ad 28), .int ms, .ref (ad 29), .ref (ad 30)])), (ad 21, .inl (cy 0, 6, .inl (fun i => nI (gL g i)))), (ad 22, .inl (cy 0, 14, .inl (fun i => nI (gF g i)))), (ad 23, .inl (cy 0, 14, .inl (fun i => nI (gS g i)))), (ad 24, .inl (cy 0, 14, .inl (fun i => nI (gH g i)))), (ad 25, .inl (cy 0, 14, .inl (fun i => zI (gW g i)))), (ad 26, .inl (cy 1, 32768, .inl ff)), (ad 27, .inl (cy 0, 32768, .inl fr_)), (ad 28, .inl (cy 0, 15, .inl fb)), (ad 29, .inl (cy 0, 8, .inl fp)), (ad 30, .inl (cy 0, 6, .inl fc))] H := hP
  have hD : va_D (inW (wM cy ad g th (bI kb) ms ff fr_ fb fp fc)) [(ad 20, .inr (5, [.int (nI 0), .int (nI (gV g)), .int (nI (gC g)), .int (nI (gE g)), .ref (ad 21), .ref (ad 22), .ref (ad 23), .ref (ad 24), .ref (ad 25), .int (bI kb), .ref (ad 26), .ref (ad 27), .ref (ad 28), .int ms, .ref (ad 29), .ref (ad 30)])), (ad 21, .inl (cy 0, 6, .inl (fun i => nI (gL g i)))), (ad 22, .inl (cy 0, 14, .inl (fun i => nI (gF g i)))), (ad 23, .inl (cy 0, 14, .inl (fun i => nI (gS g i)))), (ad 24, .inl (cy 0, 14, .inl (fun i => nI (gH g i)))), (ad 25, .inl (cy 0, 14, .inl (fun i => zI (gW g i)))), (ad 26, .inl (cy 1, 32768, .inl ff)), (ad 27, .inl (cy 0, 32768, .inl fr_)), (ad 28, .inl (cy 0, 15, .inl fb)), (ad 29, .inl (cy 0, 8, .inl fp)), (ad 30, .inl (cy 0, 6, .inl fc))] := hD
  refine lv_aload_n hx hb dX6_most_5 rfl (lv_at hl 0 rfl) ?_
  refine wr_callv [0, 1, 2, 3, 4, 5, 6, 7, 8, 9, 10] (va_runV (As := []) (rest := []) ⟨hx, hb, hml, hown, hts⟩ (c_X6_learn l D cy ad hg ((nI 0)) (kb := kb) (ms := ms) (ff := ff) (fr_ := fr_) (fb := fb) (fp := fp) (fc := fc) hv9) (cwV 0 hts gX6_most_X6_learn rfl rfl rfl (by decide +kernel) ⟨Nat.le_of_ble_eq_true rfl, Nat.le_of_ble_eq_true rfl⟩) (WR_preV (ci := 5) (q0 := 0) hK hP hD rfl rfl [0, 1, 2, 3, 4, 5, 6, 7, 8, 9, 10] (by decide) rfl rfl) rfl rfl hl.1 rfl (lv_room (Nat.le_of_ble_eq_true rfl)) dX6_most_6 ⟨(Nat.zero_le _), (Nat.zero_le _)⟩) hS hP hD rfl (fun _ => rfl) (fun _ => rfl) (fun u6 H locs w6 hP hD hS => ?_)
  obtain ⟨hF, hR, hB⟩ := w6
  have hP : va_P D vwCl [(ad 20, .inr (5, [.int (nI 0), .int (nI (gV g)), .int (nI (gC g)), .int (nI (gE g)), .ref (ad 21), .ref (ad 22), .ref (ad 23), .ref (ad 24), .ref (ad 25), .int (bI true), .ref (ad 26), .ref (ad 27), .ref (ad 28), .int (nI (mo g (2 ^ gE g))), .ref (ad 29), .ref (ad 30)])), (ad 21, .inl (cy 0, 6, .inl (fun i => nI (gL g i)))), (ad 22, .inl (cy 0, 14, .inl (fun i => nI (gF g i)))), (ad 23, .inl (cy 0, 14, .inl (fun i => nI (gS g i)))), (ad 24, .inl (cy 0, 14, .inl (fun i => nI (gH g i)))), (ad 25, .inl (cy 0, 14, .inl (fun i => zI (gW g i)))), (ad 26, .inl (cy 1, 32768, .inl u6.1)), (ad 27, .inl (cy 0, 32768, .inl u6.2.1)), (ad 28, .inl (cy 0, 15, .inl u6.2.2.1)), (ad 29, .inl (cy 0, 8, .inl u6.2.2.2.1)), (ad 30, .inl (cy 0, 6, .inl u6.2.2.2.2))] H := hP
  have hD : va_D (inW (wM cy ad g th (bI kb) ms ff fr_ fb fp fc)) [(ad 20, .inr (5, [.int (nI 0), .int (nI (gV g)), .int (nI (gC g)), .int (nI (gE g)), .ref (ad 21), .ref (ad 22), .ref (ad 23), .ref (ad 24), .ref (ad 25), .int (bI true), .ref (ad 26), .ref (ad 27), .ref (ad 28), .int (nI (mo g (2 ^ gE g))), .ref (ad 29), .ref (ad 30)])), (ad 21, .inl (cy 0, 6, .inl (fun i => nI (gL g i)))), (ad 22, .inl (cy 0, 14, .inl (fun i => nI (gF g i)))), (ad 23, .inl (cy 0, 14, .inl (fun i => nI (gS g i)))), (ad 24, .inl (cy 0, 14, .inl (fun i => nI (gH g i)))), (ad 25, .inl (cy 0, 14, .inl (fun i => zI (gW g i)))), (ad 26, .inl (cy 1, 32768, .inl u6.1)), (ad 27, .inl (cy 0, 32768, .inl u6.2.1)), (ad 28, .inl (cy 0, 15, .inl u6.2.2.1)), (ad 29, .inl (cy 0, 8, .inl u6.2.2.2.1)), (ad 30, .inl (cy 0, 6, .inl u6.2.2.2.2))] := hD
  refine lv_aload_n hx hb dX6_most_9 rfl (lv_at hl 0 rfl) ?_
  refine va_get (D := D) (ci := 5) (v := .int (nI (mo g (2 ^ gE g)))) (C := RX6) (T := TX6) (N := 16) hx hb hts inX6 hown hK.1 hP 0 rfl rfl 13 (by decide) (hts (.fieldLink RX6 70 "ColourForestsModel" "most" "I") (List.mem_of_getElem? (i := 2) rfl)) (fun _ h9 => h9) rfl dX6_most_10 ?_
  exact wi_ret u6 hx hb hr hlocks hS hP ⟨rfl, hF, hR, hB⟩ dX6_most_13

set_option maxHeartbeats 4000000 in
set_option maxRecDepth 100000 in
theorem c_X6_dearest_no (l : Launch) (D : va_G) (cy : Nat → ClassId) (ad : Nat → Nat) {g : GT} (hg : gOK g) (th : Int32) {kb : Bool} {ms : Int32} {ff fr_ fb fp fc : Nat → Int32} (hv9 : kb = true → lrF g (2 ^ gE g) ff ∧ lrR g (2 ^ gE g) fr_ ∧ lrB g (2 ^ gE g) fb ∧ ms = nI (mo g (2 ^ gE g))) {x : Int32} (h : isN x (moA g + 1) = false) : WI l yX6_dearest wsX6_dearest ({ frames := 3, cells := 0, slots := 0, locals := 71 }) D cy [.ref (ad 20), .int x] (wM cy ad g th (bI kb) ms ff fr_ fb fp fc) (fun (r : Int32) (u : (Nat → Int32) × (Nat → Int32) × (Nat → Int32) × (Nat → Int32) × (Nat → Int32)) => r = zI (-1) ∧ lrF g (2 ^ gE g) u.1 ∧ lrR g (2 ^ gE g) u.2.1 ∧ lrB g (2 ^ gE g) u.2.2.1) (fun u : (Nat → Int32) × (Nat → Int32) × (Nat → Int32) × (Nat → Int32) × (Nat → Int32) => wM cy ad g (nI 0) (bI true) (nI (mo g (2 ^ gE g))) u.1 u.2.1 u.2.2.1 u.2.2.2.1 u.2.2.2.2) := by
  refine Met.ofW (cc := cX6_dearest) (maxL := 2) (ret := (some .int)) (by decide) rfl ?_
  intro p ev s m args below meth c s₁ B hml hv
  obtain ⟨rfl, ⟨hK, hP⟩, hD0⟩ := hv
  have hx := B.exec
  have hb := B.bytes
  have hr := B.returns
  have hts := atoms_spec (ws := wsX6_dearest) B.pre
  have hown : s.vm.findClass RX6 = some m.cls := findClass_of_methodNamed B.named
  have hlocks := B.notSynchronized
  have hD : va_D (inW (wM cy ad g th (bI kb) ms ff fr_ fb fp fc)) (wM cy ad g th (bI kb) ms ff fr_ fb fp fc) := inW_self hD0
  have hS : va_S (inW (wM cy ad g th (bI kb) ms ff fr_ fb fp fc)) s.heap s.heap [] := va_S.rf
  have hP : va_P D vwCl (wM cy ad g th (bI kb) ms ff fr_ fb fp fc) s.heap := hP
  have inX6 : ∀ w ∈ wsX60, w ∈ wsX6_dearest := by decide +kernel
  have hl := lv_entry ([.ref (ad 20), .int x]) (n := 2) (Nat.le_of_ble_eq_true rfl)
  rw [lg_entry_eq]
  generalize (lg_sl ([.ref (ad 20), .int x]) ++ List.replicate (2 - (lg_sl ([.ref (ad 20), .int x])).length) Slot.unset).toArray = ls at hl ⊢
  have hl : lv_has ls 2 [(0, .ref (ad 20)), (1, .int x)] := hl
  have hgen := True.intro
  have hE := hg.2.2.1
  have hV := hg.1
  have hC := hg.2.1
  have hS8 : 2 ^ gE g ≤ 2 ^ 14 := Nat.pow_le_pow_right (by decide) hE
  have hmo := mo_le g hg
  have hme : mo g (2 ^ gE g) = moA g := rfl
  refine lv_aload_n hx hb dX6_dearest_0 rfl (lv_at hl 0 rfl) ?_
  refine lv_iconst (v := nI 0) hx hb dX6_dearest_1 (by decide) ?_
  refine va_put (D := D) (ci := 5) (v := .int (nI 0)) (ty := .int) (C := RX6) (T := TX6) (N := 16) hx hb hts inX6 tyX6 tyX6_ok nmX6 hown hK.1 hP hD hS 0 rfl rfl 0 (by decide) (hts (.fieldLink RX6 49 "ColourForestsModel" "thrown" "I") (List.mem_of_getElem? (i := 1) rfl)) (fun _ h9 => h9) rfl (by decide +kernel) rfl rfl (Nat.le_of_ble_eq_true rfl) dX6_dearest_2 (fun H locs hP hD hS => ?_)
  have hP : va_P D vwCl [(ad 20, .inr (5, [.int (nI 0), .int (nI (gV g)), .int (nI (gC g)), .int (nI (gE g)), .ref (ad 21), .ref (ad 22), .ref (ad 23), .ref (ad 24), .ref (ad 25), .int (bI kb), .ref (ad 26), .ref (ad 27), .ref (ad 28), .int ms, .ref (ad 29), .ref (ad 30)])), (ad 21, .inl (cy 0, 6, .inl (fun i => nI (gL g i)))), (ad 22, .inl (cy 0, 14, .inl (fun i => nI (gF g i)))), (ad 23, .inl (cy 0, 14, .inl (fun i => nI (gS g i)))), (ad 24, .inl (cy 0, 14, .inl (fun i => nI (gH g i)))), (ad 25, .inl (cy 0, 14, .inl (fun i => zI (gW g i)))), (ad 26, .inl (cy 1, 32768, .inl ff)), (ad 27, .inl (cy 0, 32768, .inl fr_)), (ad 28, .inl (cy 0, 15, .inl fb)), (ad 29, .inl (cy 0, 8, .inl fp)), (ad 30, .inl (cy 0, 6, .inl fc))] H := hP
  have hD : va_D (inW (wM cy ad g th (bI kb) ms ff fr_ fb fp fc)) [(ad 20, .inr (5, [.int (nI 0), .int (nI (gV g)), .int (nI (gC g)), .int (nI (gE g)), .ref (ad 21), .ref (ad 22), .ref (ad 23), .ref (ad 24), .ref (ad 25), .int (bI kb), .ref (ad 26), .ref (ad 27), .ref (ad 28), .int ms, .ref (ad 29), .ref (ad 30)])), (ad 21, .inl (cy 0, 6, .inl (fun i => nI (gL g i)))), (ad 22, .inl (cy 0, 14, .inl (fun i => nI (gF g i)))), (ad 23, .inl (cy 0, 14, .inl (fun i => nI (gS g i)))), (ad 24, .inl (cy 0, 14, .inl (fun i => nI (gH g i)))), (ad 25, .inl (cy 0, 14, .inl (fun i => zI (gW g i)))), (ad 26, .inl (cy 1, 32768, .inl ff)), (ad 27, .inl (cy 0, 32768, .inl fr_)), (ad 28, .inl (cy 0, 15, .inl fb)), (ad 29, .inl (cy 0, 8, .inl fp)), (ad 30, .inl (cy 0, 6, .inl fc))] := hD
  refine lv_aload_n hx hb dX6_dearest_5 rfl (lv_at hl 0 rfl) ?_
  refine wr_callv [0, 1, 2, 3, 4, 5, 6, 7, 8, 9, 10] (va_runV (As := []) (rest := []) ⟨hx, hb, hml, hown, hts⟩ (c_X6_learn l D cy ad hg ((nI 0)) (kb := kb) (ms := ms) (ff := ff) (fr_ := fr_) (fb := fb) (fp := fp) (fc := fc) hv9) (cwV 0 hts gX6_dearest_X6_learn rfl rfl rfl (by decide +kernel) ⟨Nat.le_of_ble_eq_true rfl, Nat.le_of_ble_eq_true rfl⟩) (WR_preV (ci := 5) (q0 := 0) hK hP hD rfl rfl [0, 1, 2, 3, 4, 5, 6, 7, 8, 9, 10] (by decide) rfl rfl) rfl rfl hl.1 rfl (lv_room (Nat.le_of_ble_eq_true rfl)) dX6_dearest_6 ⟨(Nat.zero_le _), (Nat.zero_le _)⟩) hS hP hD rfl (fun _ => rfl) (fun _ => rfl) (fun u6 H locs w6 hP hD hS => ?_)
  obtain ⟨hF, hR, hB⟩ := w6
  have hP : va_P D vwCl [(ad 20, .inr (5, [.int (nI 0), .int (nI (gV g)), .int (nI (gC g)), .int (nI (gE g)), .ref (ad 21), .ref (ad 22), .ref (ad 23), .ref (ad 24), .ref (ad 25), .int (bI true), .ref (ad 26), .ref (ad 27), .ref (ad 28), .int (nI (mo g (2 ^ gE g))), .ref (ad 29), .ref (ad 30)])), (ad 21, .inl (cy 0, 6, .inl (fun i => nI (gL g i)))), (ad 22, .inl (cy 0, 14, .inl (fun i => nI (gF g i)))), (ad 23, .inl (cy 0, 14, .inl (fun i => nI (gS g i)))), (ad 24, .inl (cy 0, 14, .inl (fun i => nI (gH g i)))), (ad 25, .inl (cy 0, 14, .inl (fun i => zI (gW g i)))), (ad 26, .inl (cy 1, 32768, .inl u6.1)), (ad 27, .inl (cy 0, 32768, .inl u6.2.1)), (ad 28, .inl (cy 0, 15, .inl u6.2.2.1)), (ad 29, .inl (cy 0, 8, .inl u6.2.2.2.1)), (ad 30, .inl (cy 0, 6, .inl u6.2.2.2.2))] H := hP
  have hD : va_D (inW (wM cy ad g th (bI kb) ms ff fr_ fb fp fc)) [(ad 20, .inr (5, [.int (nI 0), .int (nI (gV g)), .int (nI (gC g)), .int (nI (gE g)), .ref (ad 21), .ref (ad 22), .ref (ad 23), .ref (ad 24), .ref (ad 25), .int (bI true), .ref (ad 26), .ref (ad 27), .ref (ad 28), .int (nI (mo g (2 ^ gE g))), .ref (ad 29), .ref (ad 30)])), (ad 21, .inl (cy 0, 6, .inl (fun i => nI (gL g i)))), (ad 22, .inl (cy 0, 14, .inl (fun i => nI (gF g i)))), (ad 23, .inl (cy 0, 14, .inl (fun i => nI (gS g i)))), (ad 24, .inl (cy 0, 14, .inl (fun i => nI (gH g i)))), (ad 25, .inl (cy 0, 14, .inl (fun i => zI (gW g i)))), (ad 26, .inl (cy 1, 32768, .inl u6.1)), (ad 27, .inl (cy 0, 32768, .inl u6.2.1)), (ad 28, .inl (cy 0, 15, .inl u6.2.2.1)), (ad 29, .inl (cy 0, 8, .inl u6.2.2.2.1)), (ad 30, .inl (cy 0, 6, .inl u6.2.2.2.2))] := hD
  refine lv_iload_n hx hb dX6_dearest_9 rfl (lv_at hl 1 rfl) ?_
  refine lv_if_lt (tgt := 21) hx hb dX6_dearest_10 (by decide) (fun c10 => ?_) (fun c10 => ?_)
  · refine lv_iconst (v := zI (-1)) hx hb dX6_dearest_21 (by decide) ?_
    refine lv_goto (tgt := 31) hx hb dX6_dearest_22 (by decide) ?_
    exact wi_ret u6 hx hb hr hlocks hS hP ⟨rfl, hF, hR, hB⟩ dX6_dearest_31
  · refine lv_iload_n hx hb dX6_dearest_13 rfl (lv_at hl 1 rfl) ?_
    refine lv_aload_n hx hb dX6_dearest_14 rfl (lv_at hl 0 rfl) ?_
    refine va_get (D := D) (ci := 5) (v := .int (nI (mo g (2 ^ gE g)))) (C := RX6) (T := TX6) (N := 16) hx hb hts inX6 hown hK.1 hP 0 rfl rfl 13 (by decide) (hts (.fieldLink RX6 70 "ColourForestsModel" "most" "I") (List.mem_of_getElem? (i := 2) rfl)) (fun _ h9 => h9) rfl dX6_dearest_15 ?_
    refine lv_icmp_le (tgt := 25) hx hb dX6_dearest_18 (by decide) (fun c18 => ?_) (fun c18 => ?_)
    · exact (mo_up' (by omega) h c10 c18).elim
    · refine lv_iconst (v := zI (-1)) hx hb dX6_dearest_21 (by decide) ?_
      refine lv_goto (tgt := 31) hx hb dX6_dearest_22 (by decide) ?_
      exact wi_ret u6 hx hb hr hlocks hS hP ⟨rfl, hF, hR, hB⟩ dX6_dearest_31

set_option maxHeartbeats 4000000 in
set_option maxRecDepth 100000 in
theorem c_X6_dearest_yes (l : Launch) (D : va_G) (cy : Nat → ClassId) (ad : Nat → Nat) {g : GT} (hg : gOK g) (th : Int32) {kb : Bool} {ms : Int32} {ff fr_ fb fp fc : Nat → Int32} (hv9 : kb = true → lrF g (2 ^ gE g) ff ∧ lrR g (2 ^ gE g) fr_ ∧ lrB g (2 ^ gE g) fb ∧ ms = nI (mo g (2 ^ gE g))) {k9 : Nat} (hk9 : k9 ≤ moA g) : WI l yX6_dearest wsX6_dearest ({ frames := 3, cells := 0, slots := 0, locals := 71 }) D cy [.ref (ad 20), .int (nI k9)] (wM cy ad g th (bI kb) ms ff fr_ fb fp fc) (fun (r : Int32) (u : (Nat → Int32) × (Nat → Int32) × (Nat → Int32) × (Nat → Int32) × (Nat → Int32)) => r = nI (dsA g k9) ∧ lrF g (2 ^ gE g) u.1 ∧ lrR g (2 ^ gE g) u.2.1 ∧ lrB g (2 ^ gE g) u.2.2.1) (fun u : (Nat → Int32) × (Nat → Int32) × (Nat → Int32) × (Nat → Int32) × (Nat → Int32) => wM cy ad g (nI 0) (bI true) (nI (mo g (2 ^ gE g))) u.1 u.2.1 u.2.2.1 u.2.2.2.1 u.2.2.2.2) := by
  refine Met.ofW (cc := cX6_dearest) (maxL := 2) (ret := (some .int)) (by decide) rfl ?_
  intro p ev s m args below meth c s₁ B hml hv
  obtain ⟨rfl, ⟨hK, hP⟩, hD0⟩ := hv
  have hx := B.exec
  have hb := B.bytes
  have hr := B.returns
  have hts := atoms_spec (ws := wsX6_dearest) B.pre
  have hown : s.vm.findClass RX6 = some m.cls := findClass_of_methodNamed B.named
  have hlocks := B.notSynchronized
  have hD : va_D (inW (wM cy ad g th (bI kb) ms ff fr_ fb fp fc)) (wM cy ad g th (bI kb) ms ff fr_ fb fp fc) := inW_self hD0
  have hS : va_S (inW (wM cy ad g th (bI kb) ms ff fr_ fb fp fc)) s.heap s.heap [] := va_S.rf
  have hP : va_P D vwCl (wM cy ad g th (bI kb) ms ff fr_ fb fp fc) s.heap := hP
  have inX6 : ∀ w ∈ wsX60, w ∈ wsX6_dearest := by decide +kernel
  have hl := lv_entry ([.ref (ad 20), .int (nI k9)]) (n := 2) (Nat.le_of_ble_eq_true rfl)
  rw [lg_entry_eq]
  generalize (lg_sl ([.ref (ad 20), .int (nI k9)]) ++ List.replicate (2 - (lg_sl ([.ref (ad 20), .int (nI k9)])).length) Slot.unset).toArray = ls at hl ⊢
  have hl : lv_has ls 2 [(0, .ref (ad 20)), (1, .int (nI k9))] := hl
  have hgen := True.intro
  have hE := hg.2.2.1
  have hV := hg.1
  have hC := hg.2.1
  have hS8 : 2 ^ gE g ≤ 2 ^ 14 := Nat.pow_le_pow_right (by decide) hE
  have hmo := mo_le g hg
  have hme : mo g (2 ^ gE g) = moA g := rfl
  refine lv_aload_n hx hb dX6_dearest_0 rfl (lv_at hl 0 rfl) ?_
  refine lv_iconst (v := nI 0) hx hb dX6_dearest_1 (by decide) ?_
  refine va_put (D := D) (ci := 5) (v := .int (nI 0)) (ty := .int) (C := RX6) (T := TX6) (N := 16) hx hb hts inX6 tyX6 tyX6_ok nmX6 hown hK.1 hP hD hS 0 rfl rfl 0 (by decide) (hts (.fieldLink RX6 49 "ColourForestsModel" "thrown" "I") (List.mem_of_getElem? (i := 1) rfl)) (fun _ h9 => h9) rfl (by decide +kernel) rfl rfl (Nat.le_of_ble_eq_true rfl) dX6_dearest_2 (fun H locs hP hD hS => ?_)
  have hP : va_P D vwCl [(ad 20, .inr (5, [.int (nI 0), .int (nI (gV g)), .int (nI (gC g)), .int (nI (gE g)), .ref (ad 21), .ref (ad 22), .ref (ad 23), .ref (ad 24), .ref (ad 25), .int (bI kb), .ref (ad 26), .ref (ad 27), .ref (ad 28), .int ms, .ref (ad 29), .ref (ad 30)])), (ad 21, .inl (cy 0, 6, .inl (fun i => nI (gL g i)))), (ad 22, .inl (cy 0, 14, .inl (fun i => nI (gF g i)))), (ad 23, .inl (cy 0, 14, .inl (fun i => nI (gS g i)))), (ad 24, .inl (cy 0, 14, .inl (fun i => nI (gH g i)))), (ad 25, .inl (cy 0, 14, .inl (fun i => zI (gW g i)))), (ad 26, .inl (cy 1, 32768, .inl ff)), (ad 27, .inl (cy 0, 32768, .inl fr_)), (ad 28, .inl (cy 0, 15, .inl fb)), (ad 29, .inl (cy 0, 8, .inl fp)), (ad 30, .inl (cy 0, 6, .inl fc))] H := hP
  have hD : va_D (inW (wM cy ad g th (bI kb) ms ff fr_ fb fp fc)) [(ad 20, .inr (5, [.int (nI 0), .int (nI (gV g)), .int (nI (gC g)), .int (nI (gE g)), .ref (ad 21), .ref (ad 22), .ref (ad 23), .ref (ad 24), .ref (ad 25), .int (bI kb), .ref (ad 26), .ref (ad 27), .ref (ad 28), .int ms, .ref (ad 29), .ref (ad 30)])), (ad 21, .inl (cy 0, 6, .inl (fun i => nI (gL g i)))), (ad 22, .inl (cy 0, 14, .inl (fun i => nI (gF g i)))), (ad 23, .inl (cy 0, 14, .inl (fun i => nI (gS g i)))), (ad 24, .inl (cy 0, 14, .inl (fun i => nI (gH g i)))), (ad 25, .inl (cy 0, 14, .inl (fun i => zI (gW g i)))), (ad 26, .inl (cy 1, 32768, .inl ff)), (ad 27, .inl (cy 0, 32768, .inl fr_)), (ad 28, .inl (cy 0, 15, .inl fb)), (ad 29, .inl (cy 0, 8, .inl fp)), (ad 30, .inl (cy 0, 6, .inl fc))] := hD
  refine lv_aload_n hx hb dX6_dearest_5 rfl (lv_at hl 0 rfl) ?_
  refine wr_callv [0, 1, 2, 3, 4, 5, 6, 7, 8, 9, 10] (va_runV (As := []) (rest := []) ⟨hx, hb, hml, hown, hts⟩ (c_X6_learn l D cy ad hg ((nI 0)) (kb := kb) (ms := ms) (ff := ff) (fr_ := fr_) (fb := fb) (fp := fp) (fc := fc) hv9) (cwV 0 hts gX6_dearest_X6_learn rfl rfl rfl (by decide +kernel) ⟨Nat.le_of_ble_eq_true rfl, Nat.le_of_ble_eq_true rfl⟩) (WR_preV (ci := 5) (q0 := 0) hK hP hD rfl rfl [0, 1, 2, 3, 4, 5, 6, 7, 8, 9, 10] (by decide) rfl rfl) rfl rfl hl.1 rfl (lv_room (Nat.le_of_ble_eq_true rfl)) dX6_dearest_6 ⟨(Nat.zero_le _), (Nat.zero_le _)⟩) hS hP hD rfl (fun _ => rfl) (fun _ => rfl) (fun u6 H locs w6 hP hD hS => ?_)
  obtain ⟨hF, hR, hB⟩ := w6
  have hP : va_P D vwCl [(ad 20, .inr (5, [.int (nI 0), .int (nI (gV g)), .int (nI (gC g)), .int (nI (gE g)), .ref (ad 21), .ref (ad 22), .ref (ad 23), .ref (ad 24), .ref (ad 25), .int (bI true), .ref (ad 26), .ref (ad 27), .ref (ad 28), .int (nI (mo g (2 ^ gE g))), .ref (ad 29), .ref (ad 30)])), (ad 21, .inl (cy 0, 6, .inl (fun i => nI (gL g i)))), (ad 22, .inl (cy 0, 14, .inl (fun i => nI (gF g i)))), (ad 23, .inl (cy 0, 14, .inl (fun i => nI (gS g i)))), (ad 24, .inl (cy 0, 14, .inl (fun i => nI (gH g i)))), (ad 25, .inl (cy 0, 14, .inl (fun i => zI (gW g i)))), (ad 26, .inl (cy 1, 32768, .inl u6.1)), (ad 27, .inl (cy 0, 32768, .inl u6.2.1)), (ad 28, .inl (cy 0, 15, .inl u6.2.2.1)), (ad 29, .inl (cy 0, 8, .inl u6.2.2.2.1)), (ad 30, .inl (cy 0, 6, .inl u6.2.2.2.2))] H := hP
  have hD : va_D (inW (wM cy ad g th (bI kb) ms ff fr_ fb fp fc)) [(ad 20, .inr (5, [.int (nI 0), .int (nI (gV g)), .int (nI (gC g)), .int (nI (gE g)), .ref (ad 21), .ref (ad 22), .ref (ad 23), .ref (ad 24), .ref (ad 25), .int (bI true), .ref (ad 26), .ref (ad 27), .ref (ad 28), .int (nI (mo g (2 ^ gE g))), .ref (ad 29), .ref (ad 30)])), (ad 21, .inl (cy 0, 6, .inl (fun i => nI (gL g i)))), (ad 22, .inl (cy 0, 14, .inl (fun i => nI (gF g i)))), (ad 23, .inl (cy 0, 14, .inl (fun i => nI (gS g i)))), (ad 24, .inl (cy 0, 14, .inl (fun i => nI (gH g i)))), (ad 25, .inl (cy 0, 14, .inl (fun i => zI (gW g i)))), (ad 26, .inl (cy 1, 32768, .inl u6.1)), (ad 27, .inl (cy 0, 32768, .inl u6.2.1)), (ad 28, .inl (cy 0, 15, .inl u6.2.2.1)), (ad 29, .inl (cy 0, 8, .inl u6.2.2.2.1)), (ad 30, .inl (cy 0, 6, .inl u6.2.2.2.2))] := hD
  refine lv_iload_n hx hb dX6_dearest_9 rfl (lv_at hl 1 rfl) ?_
  refine lv_if_lt (tgt := 21) hx hb dX6_dearest_10 (by decide) (fun c10 => ?_) (fun c10 => ?_)
  · exact absurd c10 (nlt0 (by omega))
  · refine lv_iload_n hx hb dX6_dearest_13 rfl (lv_at hl 1 rfl) ?_
    refine lv_aload_n hx hb dX6_dearest_14 rfl (lv_at hl 0 rfl) ?_
    refine va_get (D := D) (ci := 5) (v := .int (nI (mo g (2 ^ gE g)))) (C := RX6) (T := TX6) (N := 16) hx hb hts inX6 hown hK.1 hP 0 rfl rfl 13 (by decide) (hts (.fieldLink RX6 70 "ColourForestsModel" "most" "I") (List.mem_of_getElem? (i := 2) rfl)) (fun _ h9 => h9) rfl dX6_dearest_15 ?_
    refine n_le (a := k9) (b := (mo g (2 ^ gE g))) (tgt := 25) hx hb dX6_dearest_18 (by decide) (by omega) (by omega) (fun c18 => ?_) (fun c18 => ?_)
    · refine lv_aload_n hx hb dX6_dearest_25 rfl (lv_at hl 0 rfl) ?_
      refine va_get (D := D) (ci := 5) (v := .ref (ad 28)) (C := RX6) (T := TX6) (N := 16) hx hb hts inX6 hown hK.1 hP 0 rfl rfl 12 (by decide) (hts (.fieldLink RX6 40 "ColourForestsModel" "best" "[I") (List.mem_of_getElem? (i := 3) rfl)) (fun _ h9 => h9) rfl dX6_dearest_26 ?_
      refine lv_iload_n hx hb dX6_dearest_29 rfl (lv_at hl 1 rfl) ?_
      refine rd_i (k := k9) (v := (nI (dsA g k9))) hx hb hK hP 8 rfl (by omega) (by decide) (lrB_ds hg hB hk9) dX6_dearest_30 ?_
      exact wi_ret u6 hx hb hr hlocks hS hP ⟨rfl, hF, hR, hB⟩ dX6_dearest_31
    · exact absurd c18 (by omega)

set_option maxHeartbeats 4000000 in
set_option maxRecDepth 100000 in
theorem c_X6_weight_no (l : Launch) (D : va_G) (cy : Nat → ClassId) (ad : Nat → Nat) {g : GT} (hg : gOK g) (th : Int32) {kb : Bool} {ms : Int32} {ff fr_ fb fp fc : Nat → Int32} (hv9 : kb = true → lrF g (2 ^ gE g) ff ∧ lrR g (2 ^ gE g) fr_ ∧ lrB g (2 ^ gE g) fb ∧ ms = nI (mo g (2 ^ gE g))) {x : Int32} (h : isN x (moA g + 1) = false) : WI l yX6_weight wsX6_weight ({ frames := 3, cells := 0, slots := 0, locals := 71 }) D cy [.ref (ad 20), .int x] (wM cy ad g th (bI kb) ms ff fr_ fb fp fc) (fun (r : Int32) (u : (Nat → Int32) × (Nat → Int32) × (Nat → Int32) × (Nat → Int32) × (Nat → Int32)) => r = nI 0 ∧ lrF g (2 ^ gE g) u.1 ∧ lrR g (2 ^ gE g) u.2.1 ∧ lrB g (2 ^ gE g) u.2.2.1) (fun u : (Nat → Int32) × (Nat → Int32) × (Nat → Int32) × (Nat → Int32) × (Nat → Int32) => wM cy ad g (nI 1) (bI true) (nI (mo g (2 ^ gE g))) u.1 u.2.1 u.2.2.1 u.2.2.2.1 u.2.2.2.2) := by
  refine Met.ofW (cc := cX6_weight) (maxL := 2) (ret := (some .int)) (by decide) rfl ?_
  intro p ev s m args below meth c s₁ B hml hv
  obtain ⟨rfl, ⟨hK, hP⟩, hD0⟩ := hv
  have hx := B.exec
  have hb := B.bytes
  have hr := B.returns
  have hts := atoms_spec (ws := wsX6_weight) B.pre
  have hown : s.vm.findClass RX6 = some m.cls := findClass_of_methodNamed B.named
  have hlocks := B.notSynchronized
  have hD : va_D (inW (wM cy ad g th (bI kb) ms ff fr_ fb fp fc)) (wM cy ad g th (bI kb) ms ff fr_ fb fp fc) := inW_self hD0
  have hS : va_S (inW (wM cy ad g th (bI kb) ms ff fr_ fb fp fc)) s.heap s.heap [] := va_S.rf
  have hP : va_P D vwCl (wM cy ad g th (bI kb) ms ff fr_ fb fp fc) s.heap := hP
  have inX6 : ∀ w ∈ wsX60, w ∈ wsX6_weight := by decide +kernel
  have hl := lv_entry ([.ref (ad 20), .int x]) (n := 2) (Nat.le_of_ble_eq_true rfl)
  rw [lg_entry_eq]
  generalize (lg_sl ([.ref (ad 20), .int x]) ++ List.replicate (2 - (lg_sl ([.ref (ad 20), .int x])).length) Slot.unset).toArray = ls at hl ⊢
  have hl : lv_has ls 2 [(0, .ref (ad 20)), (1, .int x)] := hl
  have hgen := True.intro
  have hE := hg.2.2.1
  have hV := hg.1
  have hC := hg.2.1
  have hS8 : 2 ^ gE g ≤ 2 ^ 14 := Nat.pow_le_pow_right (by decide) hE
  have hmo := mo_le g hg
  have hme : mo g (2 ^ gE g) = moA g := rfl
  refine lv_aload_n hx hb dX6_weight_0 rfl (lv_at hl 0 rfl) ?_
  refine wr_callv [0, 1, 2, 3, 4, 5, 6, 7, 8, 9, 10] (va_runV (As := []) (rest := []) ⟨hx, hb, hml, hown, hts⟩ (c_X6_learn l D cy ad hg th (kb := kb) (ms := ms) (ff := ff) (fr_ := fr_) (fb := fb) (fp := fp) (fc := fc) hv9) (cwV 0 hts gX6_weight_X6_learn rfl rfl rfl (by decide +kernel) ⟨Nat.le_of_ble_eq_true rfl, Nat.le_of_ble_eq_true rfl⟩) (WR_preV (ci := 5) (q0 := 0) hK hP hD rfl rfl [0, 1, 2, 3, 4, 5, 6, 7, 8, 9, 10] (by decide) rfl rfl) rfl rfl hl.1 rfl (lv_room (Nat.le_of_ble_eq_true rfl)) dX6_weight_1 ⟨(Nat.zero_le _), (Nat.zero_le _)⟩) hS hP hD rfl (fun _ => rfl) (fun _ => rfl) (fun u1 H locs w1 hP hD hS => ?_)
  obtain ⟨hF, hR, hB⟩ := w1
  have hP : va_P D vwCl [(ad 20, .inr (5, [.int th, .int (nI (gV g)), .int (nI (gC g)), .int (nI (gE g)), .ref (ad 21), .ref (ad 22), .ref (ad 23), .ref (ad 24), .ref (ad 25), .int (bI true), .ref (ad 26), .ref (ad 27), .ref (ad 28), .int (nI (mo g (2 ^ gE g))), .ref (ad 29), .ref (ad 30)])), (ad 21, .inl (cy 0, 6, .inl (fun i => nI (gL g i)))), (ad 22, .inl (cy 0, 14, .inl (fun i => nI (gF g i)))), (ad 23, .inl (cy 0, 14, .inl (fun i => nI (gS g i)))), (ad 24, .inl (cy 0, 14, .inl (fun i => nI (gH g i)))), (ad 25, .inl (cy 0, 14, .inl (fun i => zI (gW g i)))), (ad 26, .inl (cy 1, 32768, .inl u1.1)), (ad 27, .inl (cy 0, 32768, .inl u1.2.1)), (ad 28, .inl (cy 0, 15, .inl u1.2.2.1)), (ad 29, .inl (cy 0, 8, .inl u1.2.2.2.1)), (ad 30, .inl (cy 0, 6, .inl u1.2.2.2.2))] H := hP
  have hD : va_D (inW (wM cy ad g th (bI kb) ms ff fr_ fb fp fc)) [(ad 20, .inr (5, [.int th, .int (nI (gV g)), .int (nI (gC g)), .int (nI (gE g)), .ref (ad 21), .ref (ad 22), .ref (ad 23), .ref (ad 24), .ref (ad 25), .int (bI true), .ref (ad 26), .ref (ad 27), .ref (ad 28), .int (nI (mo g (2 ^ gE g))), .ref (ad 29), .ref (ad 30)])), (ad 21, .inl (cy 0, 6, .inl (fun i => nI (gL g i)))), (ad 22, .inl (cy 0, 14, .inl (fun i => nI (gF g i)))), (ad 23, .inl (cy 0, 14, .inl (fun i => nI (gS g i)))), (ad 24, .inl (cy 0, 14, .inl (fun i => nI (gH g i)))), (ad 25, .inl (cy 0, 14, .inl (fun i => zI (gW g i)))), (ad 26, .inl (cy 1, 32768, .inl u1.1)), (ad 27, .inl (cy 0, 32768, .inl u1.2.1)), (ad 28, .inl (cy 0, 15, .inl u1.2.2.1)), (ad 29, .inl (cy 0, 8, .inl u1.2.2.2.1)), (ad 30, .inl (cy 0, 6, .inl u1.2.2.2.2))] := hD
  refine lv_aload_n hx hb dX6_weight_4 rfl (lv_at hl 0 rfl) ?_
  refine lv_iload_n hx hb dX6_weight_5 rfl (lv_at hl 1 rfl) ?_
  refine lv_if_lt (tgt := 17) hx hb dX6_weight_6 (by decide) (fun c6 => ?_) (fun c6 => ?_)
  · refine lv_iconst (v := nI 1) hx hb dX6_weight_17 (by decide) ?_
    refine lv_goto (tgt := 22) hx hb dX6_weight_18 (by decide) ?_
    refine wr_calli [0] (va_runV (As := [.int (nI 1)]) (rest := []) ⟨hx, hb, hml, hown, hts⟩ (c_X6_refuses l D cy ad g th ((bI true)) ((nI (mo g (2 ^ gE g)))) ((nI 1))) (cwV 1 hts gX6_weight_X6_refuses rfl rfl rfl (by decide +kernel) ⟨Nat.le_of_ble_eq_true rfl, Nat.le_of_ble_eq_true rfl⟩) (WR_preV (ci := 5) (q0 := 0) hK hP hD rfl rfl [0] (by decide) rfl rfl) rfl rfl hl.1 rfl (lv_room (Nat.le_of_ble_eq_true rfl)) dX6_weight_22 ⟨(Nat.zero_le _), (Nat.zero_le _)⟩) hS hP hD rfl (fun _ => rfl) (fun _ => rfl) (fun r22 u22 H locs w22 hP hD hS => ?_)
    refine lv_as (y := bI true) (by rw [w22]; first | rfl | decide) ?_
    have hP : va_P D vwCl [(ad 20, .inr (5, [.int (nI 1), .int (nI (gV g)), .int (nI (gC g)), .int (nI (gE g)), .ref (ad 21), .ref (ad 22), .ref (ad 23), .ref (ad 24), .ref (ad 25), .int (bI true), .ref (ad 26), .ref (ad 27), .ref (ad 28), .int (nI (mo g (2 ^ gE g))), .ref (ad 29), .ref (ad 30)])), (ad 21, .inl (cy 0, 6, .inl (fun i => nI (gL g i)))), (ad 22, .inl (cy 0, 14, .inl (fun i => nI (gF g i)))), (ad 23, .inl (cy 0, 14, .inl (fun i => nI (gS g i)))), (ad 24, .inl (cy 0, 14, .inl (fun i => nI (gH g i)))), (ad 25, .inl (cy 0, 14, .inl (fun i => zI (gW g i)))), (ad 26, .inl (cy 1, 32768, .inl u1.1)), (ad 27, .inl (cy 0, 32768, .inl u1.2.1)), (ad 28, .inl (cy 0, 15, .inl u1.2.2.1)), (ad 29, .inl (cy 0, 8, .inl u1.2.2.2.1)), (ad 30, .inl (cy 0, 6, .inl u1.2.2.2.2))] H := hP
    have hD : va_D (inW (wM cy ad g th (bI kb) ms ff fr_ fb fp fc)) [(ad 20, .inr (5, [.int (nI 1), .int (nI (gV g)), .int (nI (gC g)), .int (nI (gE g)), .ref (ad 21), .ref (ad 22), .ref (ad 23), .ref (ad 24), .ref (ad 25), .int (bI true), .ref (ad 26), .ref (ad 27), .ref (ad 28), .int (nI (mo g (2 ^ gE g))), .ref (ad 29), .ref (ad 30)])), (ad 21, .inl (cy 0, 6, .inl (fun i => nI (gL g i)))), (ad 22, .inl (cy 0, 14, .inl (fun i => nI (gF g i)))), (ad 23, .inl (cy 0, 14, .inl (fun i => nI (gS g i)))), (ad 24, .inl (cy 0, 14, .inl (fun i => nI (gH g i)))), (ad 25, .inl (cy 0, 14, .inl (fun i => zI (gW g i)))), (ad 26, .inl (cy 1, 32768, .inl u1.1)), (ad 27, .inl (cy 0, 32768, .inl u1.2.1)), (ad 28, .inl (cy 0, 15, .inl u1.2.2.1)), (ad 29, .inl (cy 0, 8, .inl u1.2.2.2.1)), (ad 30, .inl (cy 0, 6, .inl u1.2.2.2.2))] := hD
    refine b_eq (b := true) (tgt := 32) hx hb dX6_weight_25 (by decide) (fun c25 => ?_) (fun c25 => ?_)
    · cases c25
    · refine lv_iconst (v := nI 0) hx hb dX6_weight_28 (by decide) ?_
      refine lv_goto (tgt := 42) hx hb dX6_weight_29 (by decide) ?_
      exact wi_ret u1 hx hb hr hlocks hS hP ⟨rfl, hF, hR, hB⟩ dX6_weight_42
  · refine lv_iload_n hx hb dX6_weight_9 rfl (lv_at hl 1 rfl) ?_
    refine lv_aload_n hx hb dX6_weight_10 rfl (lv_at hl 0 rfl) ?_
    refine va_get (D := D) (ci := 5) (v := .int (nI (mo g (2 ^ gE g)))) (C := RX6) (T := TX6) (N := 16) hx hb hts inX6 hown hK.1 hP 0 rfl rfl 13 (by decide) (hts (.fieldLink RX6 70 "ColourForestsModel" "most" "I") (List.mem_of_getElem? (i := 1) rfl)) (fun _ h9 => h9) rfl dX6_weight_11 ?_
    refine lv_icmp_le (tgt := 21) hx hb dX6_weight_14 (by decide) (fun c14 => ?_) (fun c14 => ?_)
    · exact (mo_up' (by omega) h c6 c14).elim
    · refine lv_iconst (v := nI 1) hx hb dX6_weight_17 (by decide) ?_
      refine lv_goto (tgt := 22) hx hb dX6_weight_18 (by decide) ?_
      refine wr_calli [0] (va_runV (As := [.int (nI 1)]) (rest := []) ⟨hx, hb, hml, hown, hts⟩ (c_X6_refuses l D cy ad g th ((bI true)) ((nI (mo g (2 ^ gE g)))) ((nI 1))) (cwV 1 hts gX6_weight_X6_refuses rfl rfl rfl (by decide +kernel) ⟨Nat.le_of_ble_eq_true rfl, Nat.le_of_ble_eq_true rfl⟩) (WR_preV (ci := 5) (q0 := 0) hK hP hD rfl rfl [0] (by decide) rfl rfl) rfl rfl hl.1 rfl (lv_room (Nat.le_of_ble_eq_true rfl)) dX6_weight_22 ⟨(Nat.zero_le _), (Nat.zero_le _)⟩) hS hP hD rfl (fun _ => rfl) (fun _ => rfl) (fun r22 u22 H locs w22 hP hD hS => ?_)
      refine lv_as (y := bI true) (by rw [w22]; first | rfl | decide) ?_
      have hP : va_P D vwCl [(ad 20, .inr (5, [.int (nI 1), .int (nI (gV g)), .int (nI (gC g)), .int (nI (gE g)), .ref (ad 21), .ref (ad 22), .ref (ad 23), .ref (ad 24), .ref (ad 25), .int (bI true), .ref (ad 26), .ref (ad 27), .ref (ad 28), .int (nI (mo g (2 ^ gE g))), .ref (ad 29), .ref (ad 30)])), (ad 21, .inl (cy 0, 6, .inl (fun i => nI (gL g i)))), (ad 22, .inl (cy 0, 14, .inl (fun i => nI (gF g i)))), (ad 23, .inl (cy 0, 14, .inl (fun i => nI (gS g i)))), (ad 24, .inl (cy 0, 14, .inl (fun i => nI (gH g i)))), (ad 25, .inl (cy 0, 14, .inl (fun i => zI (gW g i)))), (ad 26, .inl (cy 1, 32768, .inl u1.1)), (ad 27, .inl (cy 0, 32768, .inl u1.2.1)), (ad 28, .inl (cy 0, 15, .inl u1.2.2.1)), (ad 29, .inl (cy 0, 8, .inl u1.2.2.2.1)), (ad 30, .inl (cy 0, 6, .inl u1.2.2.2.2))] H := hP
      have hD : va_D (inW (wM cy ad g th (bI kb) ms ff fr_ fb fp fc)) [(ad 20, .inr (5, [.int (nI 1), .int (nI (gV g)), .int (nI (gC g)), .int (nI (gE g)), .ref (ad 21), .ref (ad 22), .ref (ad 23), .ref (ad 24), .ref (ad 25), .int (bI true), .ref (ad 26), .ref (ad 27), .ref (ad 28), .int (nI (mo g (2 ^ gE g))), .ref (ad 29), .ref (ad 30)])), (ad 21, .inl (cy 0, 6, .inl (fun i => nI (gL g i)))), (ad 22, .inl (cy 0, 14, .inl (fun i => nI (gF g i)))), (ad 23, .inl (cy 0, 14, .inl (fun i => nI (gS g i)))), (ad 24, .inl (cy 0, 14, .inl (fun i => nI (gH g i)))), (ad 25, .inl (cy 0, 14, .inl (fun i => zI (gW g i)))), (ad 26, .inl (cy 1, 32768, .inl u1.1)), (ad 27, .inl (cy 0, 32768, .inl u1.2.1)), (ad 28, .inl (cy 0, 15, .inl u1.2.2.1)), (ad 29, .inl (cy 0, 8, .inl u1.2.2.2.1)), (ad 30, .inl (cy 0, 6, .inl u1.2.2.2.2))] := hD
      refine b_eq (b := true) (tgt := 32) hx hb dX6_weight_25 (by decide) (fun c25 => ?_) (fun c25 => ?_)
      · cases c25
      · refine lv_iconst (v := nI 0) hx hb dX6_weight_28 (by decide) ?_
        refine lv_goto (tgt := 42) hx hb dX6_weight_29 (by decide) ?_
        exact wi_ret u1 hx hb hr hlocks hS hP ⟨rfl, hF, hR, hB⟩ dX6_weight_42

set_option maxHeartbeats 4000000 in
set_option maxRecDepth 100000 in
theorem c_X6_weight_yes (l : Launch) (D : va_G) (cy : Nat → ClassId) (ad : Nat → Nat) {g : GT} (hg : gOK g) (th : Int32) {kb : Bool} {ms : Int32} {ff fr_ fb fp fc : Nat → Int32} (hv9 : kb = true → lrF g (2 ^ gE g) ff ∧ lrR g (2 ^ gE g) fr_ ∧ lrB g (2 ^ gE g) fb ∧ ms = nI (mo g (2 ^ gE g))) {k9 : Nat} (hk9 : k9 ≤ moA g) : WI l yX6_weight wsX6_weight ({ frames := 3, cells := 0, slots := 0, locals := 71 }) D cy [.ref (ad 20), .int (nI k9)] (wM cy ad g th (bI kb) ms ff fr_ fb fp fc) (fun (r : Int32) (u : (Nat → Int32) × (Nat → Int32) × (Nat → Int32) × (Nat → Int32) × (Nat → Int32)) => r = zI (wB g k9) ∧ lrF g (2 ^ gE g) u.1 ∧ lrR g (2 ^ gE g) u.2.1 ∧ lrB g (2 ^ gE g) u.2.2.1) (fun u : (Nat → Int32) × (Nat → Int32) × (Nat → Int32) × (Nat → Int32) × (Nat → Int32) => wM cy ad g (nI 0) (bI true) (nI (mo g (2 ^ gE g))) u.1 u.2.1 u.2.2.1 u.2.2.2.1 u.2.2.2.2) := by
  refine Met.ofW (cc := cX6_weight) (maxL := 2) (ret := (some .int)) (by decide) rfl ?_
  intro p ev s m args below meth c s₁ B hml hv
  obtain ⟨rfl, ⟨hK, hP⟩, hD0⟩ := hv
  have hx := B.exec
  have hb := B.bytes
  have hr := B.returns
  have hts := atoms_spec (ws := wsX6_weight) B.pre
  have hown : s.vm.findClass RX6 = some m.cls := findClass_of_methodNamed B.named
  have hlocks := B.notSynchronized
  have hD : va_D (inW (wM cy ad g th (bI kb) ms ff fr_ fb fp fc)) (wM cy ad g th (bI kb) ms ff fr_ fb fp fc) := inW_self hD0
  have hS : va_S (inW (wM cy ad g th (bI kb) ms ff fr_ fb fp fc)) s.heap s.heap [] := va_S.rf
  have hP : va_P D vwCl (wM cy ad g th (bI kb) ms ff fr_ fb fp fc) s.heap := hP
  have inX6 : ∀ w ∈ wsX60, w ∈ wsX6_weight := by decide +kernel
  have hl := lv_entry ([.ref (ad 20), .int (nI k9)]) (n := 2) (Nat.le_of_ble_eq_true rfl)
  rw [lg_entry_eq]
  generalize (lg_sl ([.ref (ad 20), .int (nI k9)]) ++ List.replicate (2 - (lg_sl ([.ref (ad 20), .int (nI k9)])).length) Slot.unset).toArray = ls at hl ⊢
  have hl : lv_has ls 2 [(0, .ref (ad 20)), (1, .int (nI k9))] := hl
  have hgen := True.intro
  have hE := hg.2.2.1
  have hV := hg.1
  have hC := hg.2.1
  have hS8 : 2 ^ gE g ≤ 2 ^ 14 := Nat.pow_le_pow_right (by decide) hE
  have hmo := mo_le g hg
  have hme : mo g (2 ^ gE g) = moA g := rfl
  have hds := dsA_lt hg hk9
  refine lv_aload_n hx hb dX6_weight_0 rfl (lv_at hl 0 rfl) ?_
  refine wr_callv [0, 1, 2, 3, 4, 5, 6, 7, 8, 9, 10] (va_runV (As := []) (rest := []) ⟨hx, hb, hml, hown, hts⟩ (c_X6_learn l D cy ad hg th (kb := kb) (ms := ms) (ff := ff) (fr_ := fr_) (fb := fb) (fp := fp) (fc := fc) hv9) (cwV 0 hts gX6_weight_X6_learn rfl rfl rfl (by decide +kernel) ⟨Nat.le_of_ble_eq_true rfl, Nat.le_of_ble_eq_true rfl⟩) (WR_preV (ci := 5) (q0 := 0) hK hP hD rfl rfl [0, 1, 2, 3, 4, 5, 6, 7, 8, 9, 10] (by decide) rfl rfl) rfl rfl hl.1 rfl (lv_room (Nat.le_of_ble_eq_true rfl)) dX6_weight_1 ⟨(Nat.zero_le _), (Nat.zero_le _)⟩) hS hP hD rfl (fun _ => rfl) (fun _ => rfl) (fun u1 H locs w1 hP hD hS => ?_)
  obtain ⟨hF, hR, hB⟩ := w1
  have hP : va_P D vwCl [(ad 20, .inr (5, [.int th, .int (nI (gV g)), .int (nI (gC g)), .int (nI (gE g)), .ref (ad 21), .ref (ad 22), .ref (ad 23), .ref (ad 24), .ref (ad 25), .int (bI true), .ref (ad 26), .ref (ad 27), .ref (ad 28), .int (nI (mo g (2 ^ gE g))), .ref (ad 29), .ref (ad 30)])), (ad 21, .inl (cy 0, 6, .inl (fun i => nI (gL g i)))), (ad 22, .inl (cy 0, 14, .inl (fun i => nI (gF g i)))), (ad 23, .inl (cy 0, 14, .inl (fun i => nI (gS g i)))), (ad 24, .inl (cy 0, 14, .inl (fun i => nI (gH g i)))), (ad 25, .inl (cy 0, 14, .inl (fun i => zI (gW g i)))), (ad 26, .inl (cy 1, 32768, .inl u1.1)), (ad 27, .inl (cy 0, 32768, .inl u1.2.1)), (ad 28, .inl (cy 0, 15, .inl u1.2.2.1)), (ad 29, .inl (cy 0, 8, .inl u1.2.2.2.1)), (ad 30, .inl (cy 0, 6, .inl u1.2.2.2.2))] H := hP
  have hD : va_D (inW (wM cy ad g th (bI kb) ms ff fr_ fb fp fc)) [(ad 20, .inr (5, [.int th, .int (nI (gV g)), .int (nI (gC g)), .int (nI (gE g)), .ref (ad 21), .ref (ad 22), .ref (ad 23), .ref (ad 24), .ref (ad 25), .int (bI true), .ref (ad 26), .ref (ad 27), .ref (ad 28), .int (nI (mo g (2 ^ gE g))), .ref (ad 29), .ref (ad 30)])), (ad 21, .inl (cy 0, 6, .inl (fun i => nI (gL g i)))), (ad 22, .inl (cy 0, 14, .inl (fun i => nI (gF g i)))), (ad 23, .inl (cy 0, 14, .inl (fun i => nI (gS g i)))), (ad 24, .inl (cy 0, 14, .inl (fun i => nI (gH g i)))), (ad 25, .inl (cy 0, 14, .inl (fun i => zI (gW g i)))), (ad 26, .inl (cy 1, 32768, .inl u1.1)), (ad 27, .inl (cy 0, 32768, .inl u1.2.1)), (ad 28, .inl (cy 0, 15, .inl u1.2.2.1)), (ad 29, .inl (cy 0, 8, .inl u1.2.2.2.1)), (ad 30, .inl (cy 0, 6, .inl u1.2.2.2.2))] := hD
  refine lv_aload_n hx hb dX6_weight_4 rfl (lv_at hl 0 rfl) ?_
  refine lv_iload_n hx hb dX6_weight_5 rfl (lv_at hl 1 rfl) ?_
  refine lv_if_lt (tgt := 17) hx hb dX6_weight_6 (by decide) (fun c6 => ?_) (fun c6 => ?_)
  · exact absurd c6 (nlt0 (by omega))
  · refine lv_iload_n hx hb dX6_weight_9 rfl (lv_at hl 1 rfl) ?_
    refine lv_aload_n hx hb dX6_weight_10 rfl (lv_at hl 0 rfl) ?_
    refine va_get (D := D) (ci := 5) (v := .int (nI (mo g (2 ^ gE g)))) (C := RX6) (T := TX6) (N := 16) hx hb hts inX6 hown hK.1 hP 0 rfl rfl 13 (by decide) (hts (.fieldLink RX6 70 "ColourForestsModel" "most" "I") (List.mem_of_getElem? (i := 1) rfl)) (fun _ h9 => h9) rfl dX6_weight_11 ?_
    refine n_le (a := k9) (b := (mo g (2 ^ gE g))) (tgt := 21) hx hb dX6_weight_14 (by decide) (by omega) (by omega) (fun c14 => ?_) (fun c14 => ?_)
    · refine lv_iconst (v := nI 0) hx hb dX6_weight_21 (by decide) ?_
      refine wr_calli [0] (va_runV (As := [.int (nI 0)]) (rest := []) ⟨hx, hb, hml, hown, hts⟩ (c_X6_refuses l D cy ad g th ((bI true)) ((nI (mo g (2 ^ gE g)))) ((nI 0))) (cwV 1 hts gX6_weight_X6_refuses rfl rfl rfl (by decide +kernel) ⟨Nat.le_of_ble_eq_true rfl, Nat.le_of_ble_eq_true rfl⟩) (WR_preV (ci := 5) (q0 := 0) hK hP hD rfl rfl [0] (by decide) rfl rfl) rfl rfl hl.1 rfl (lv_room (Nat.le_of_ble_eq_true rfl)) dX6_weight_22 ⟨(Nat.zero_le _), (Nat.zero_le _)⟩) hS hP hD rfl (fun _ => rfl) (fun _ => rfl) (fun r22 u22 H locs w22 hP hD hS => ?_)
      refine lv_as (y := bI false) (by rw [w22]; first | rfl | decide) ?_
      have hP : va_P D vwCl [(ad 20, .inr (5, [.int (nI 0), .int (nI (gV g)), .int (nI (gC g)), .int (nI (gE g)), .ref (ad 21), .ref (ad 22), .ref (ad 23), .ref (ad 24), .ref (ad 25), .int (bI true), .ref (ad 26), .ref (ad 27), .ref (ad 28), .int (nI (mo g (2 ^ gE g))), .ref (ad 29), .ref (ad 30)])), (ad 21, .inl (cy 0, 6, .inl (fun i => nI (gL g i)))), (ad 22, .inl (cy 0, 14, .inl (fun i => nI (gF g i)))), (ad 23, .inl (cy 0, 14, .inl (fun i => nI (gS g i)))), (ad 24, .inl (cy 0, 14, .inl (fun i => nI (gH g i)))), (ad 25, .inl (cy 0, 14, .inl (fun i => zI (gW g i)))), (ad 26, .inl (cy 1, 32768, .inl u1.1)), (ad 27, .inl (cy 0, 32768, .inl u1.2.1)), (ad 28, .inl (cy 0, 15, .inl u1.2.2.1)), (ad 29, .inl (cy 0, 8, .inl u1.2.2.2.1)), (ad 30, .inl (cy 0, 6, .inl u1.2.2.2.2))] H := hP
      have hD : va_D (inW (wM cy ad g th (bI kb) ms ff fr_ fb fp fc)) [(ad 20, .inr (5, [.int (nI 0), .int (nI (gV g)), .int (nI (gC g)), .int (nI (gE g)), .ref (ad 21), .ref (ad 22), .ref (ad 23), .ref (ad 24), .ref (ad 25), .int (bI true), .ref (ad 26), .ref (ad 27), .ref (ad 28), .int (nI (mo g (2 ^ gE g))), .ref (ad 29), .ref (ad 30)])), (ad 21, .inl (cy 0, 6, .inl (fun i => nI (gL g i)))), (ad 22, .inl (cy 0, 14, .inl (fun i => nI (gF g i)))), (ad 23, .inl (cy 0, 14, .inl (fun i => nI (gS g i)))), (ad 24, .inl (cy 0, 14, .inl (fun i => nI (gH g i)))), (ad 25, .inl (cy 0, 14, .inl (fun i => zI (gW g i)))), (ad 26, .inl (cy 1, 32768, .inl u1.1)), (ad 27, .inl (cy 0, 32768, .inl u1.2.1)), (ad 28, .inl (cy 0, 15, .inl u1.2.2.1)), (ad 29, .inl (cy 0, 8, .inl u1.2.2.2.1)), (ad 30, .inl (cy 0, 6, .inl u1.2.2.2.2))] := hD
      refine b_eq (b := false) (tgt := 32) hx hb dX6_weight_25 (by decide) (fun c25 => ?_) (fun c25 => ?_)
      · refine lv_aload_n hx hb dX6_weight_32 rfl (lv_at hl 0 rfl) ?_
        refine lv_aload_n hx hb dX6_weight_33 rfl (lv_at hl 0 rfl) ?_
        refine va_get (D := D) (ci := 5) (v := .ref (ad 28)) (C := RX6) (T := TX6) (N := 16) hx hb hts inX6 hown hK.1 hP 0 rfl rfl 12 (by decide) (hts (.fieldLink RX6 40 "ColourForestsModel" "best" "[I") (List.mem_of_getElem? (i := 2) rfl)) (fun _ h9 => h9) rfl dX6_weight_34 ?_
        refine lv_iload_n hx hb dX6_weight_37 rfl (lv_at hl 1 rfl) ?_
        refine rd_i (k := k9) (v := (nI (dsA g k9))) hx hb hK hP 8 rfl (by omega) (by decide) (lrB_ds hg hB hk9) dX6_weight_38 ?_
        refine pu_call (va_runV (As := [.int (nI (dsA g k9))]) (rest := []) ⟨hx, hb, hml, hown, hts⟩ (c_X6_weightOf l D cy ad hg ((nI 0)) ((bI true)) ((nI (mo g (2 ^ gE g)))) (S := dsA g k9) (by omega)) (cwV 1 hts gX6_weight_X6_weightOf rfl rfl rfl (by decide +kernel) ⟨Nat.le_of_ble_eq_true rfl, Nat.le_of_ble_eq_true rfl⟩) (PU_preV (ci := 5) (q0 := 0) hK hP 0 rfl rfl [0, 5] rfl) rfl rfl hl.1 rfl (lv_room (Nat.le_of_ble_eq_true rfl)) dX6_weight_39 ⟨(Nat.zero_le _), (Nat.zero_le _)⟩) hS hP (fun H locs hP hS => ?_)
        exact wi_ret u1 hx hb hr hlocks hS hP ⟨(by rw [wB_is hg hk9]), hF, hR, hB⟩ dX6_weight_42
      · cases c25
    · exact absurd c14 (by omega)

set_option maxHeartbeats 4000000 in
set_option maxRecDepth 100000 in
theorem c_X6_heaviest (l : Launch) (D : va_G) (cy : Nat → ClassId) (ad : Nat → Nat) {g : GT} (hg : gOK g) (th : Int32) {kb : Bool} {ms : Int32} {ff fr_ fb fp fc : Nat → Int32} (hv9 : kb = true → lrF g (2 ^ gE g) ff ∧ lrR g (2 ^ gE g) fr_ ∧ lrB g (2 ^ gE g) fb ∧ ms = nI (mo g (2 ^ gE g))) : WI l yX6_heaviest wsX6_heaviest ({ frames := 3, cells := 0, slots := 0, locals := 71 }) D cy [.ref (ad 20)] (wM cy ad g th (bI kb) ms ff fr_ fb fp fc) (fun (r : Int32) (u : (Nat → Int32) × (Nat → Int32) × (Nat → Int32) × (Nat → Int32) × (Nat → Int32)) => r = nI (hv (wB g) (moA g)) ∧ lrF g (2 ^ gE g) u.1 ∧ lrR g (2 ^ gE g) u.2.1 ∧ lrB g (2 ^ gE g) u.2.2.1) (fun u : (Nat → Int32) × (Nat → Int32) × (Nat → Int32) × (Nat → Int32) × (Nat → Int32) => wM cy ad g (nI 0) (bI true) (nI (mo g (2 ^ gE g))) u.1 u.2.1 u.2.2.1 u.2.2.2.1 u.2.2.2.2) := by
  refine Met.ofW (cc := cX6_heaviest) (maxL := 3) (ret := (some .int)) (by decide) rfl ?_
  intro p ev s m args below meth c s₁ B hml hv
  obtain ⟨rfl, ⟨hK, hP⟩, hD0⟩ := hv
  have hx := B.exec
  have hb := B.bytes
  have hr := B.returns
  have hts := atoms_spec (ws := wsX6_heaviest) B.pre
  have hown : s.vm.findClass RX6 = some m.cls := findClass_of_methodNamed B.named
  have hlocks := B.notSynchronized
  have hD : va_D (inW (wM cy ad g th (bI kb) ms ff fr_ fb fp fc)) (wM cy ad g th (bI kb) ms ff fr_ fb fp fc) := inW_self hD0
  have hS : va_S (inW (wM cy ad g th (bI kb) ms ff fr_ fb fp fc)) s.heap s.heap [] := va_S.rf
  have hP : va_P D vwCl (wM cy ad g th (bI kb) ms ff fr_ fb fp fc) s.heap := hP
  have inX6 : ∀ w ∈ wsX60, w ∈ wsX6_heaviest := by decide +kernel
  have hl := lv_entry ([.ref (ad 20)]) (n := 3) (Nat.le_of_ble_eq_true rfl)
  rw [lg_entry_eq]
  generalize (lg_sl ([.ref (ad 20)]) ++ List.replicate (3 - (lg_sl ([.ref (ad 20)])).length) Slot.unset).toArray = ls at hl ⊢
  have hl : lv_has ls 3 [(0, .ref (ad 20))] := hl
  have hgen := True.intro
  have hE := hg.2.2.1
  have hV := hg.1
  have hC := hg.2.1
  have hS8 : 2 ^ gE g ≤ 2 ^ 14 := Nat.pow_le_pow_right (by decide) hE
  have hmo := mo_le g hg
  have hme : mo g (2 ^ gE g) = moA g := rfl
  refine lv_aload_n hx hb dX6_heaviest_0 rfl (lv_at hl 0 rfl) ?_
  refine lv_iconst (v := nI 0) hx hb dX6_heaviest_1 (by decide) ?_
  refine va_put (D := D) (ci := 5) (v := .int (nI 0)) (ty := .int) (C := RX6) (T := TX6) (N := 16) hx hb hts inX6 tyX6 tyX6_ok nmX6 hown hK.1 hP hD hS 0 rfl rfl 0 (by decide) (hts (.fieldLink RX6 49 "ColourForestsModel" "thrown" "I") (List.mem_of_getElem? (i := 1) rfl)) (fun _ h9 => h9) rfl (by decide +kernel) rfl rfl (Nat.le_of_ble_eq_true rfl) dX6_heaviest_2 (fun H locs hP hD hS => ?_)
  have hP : va_P D vwCl [(ad 20, .inr (5, [.int (nI 0), .int (nI (gV g)), .int (nI (gC g)), .int (nI (gE g)), .ref (ad 21), .ref (ad 22), .ref (ad 23), .ref (ad 24), .ref (ad 25), .int (bI kb), .ref (ad 26), .ref (ad 27), .ref (ad 28), .int ms, .ref (ad 29), .ref (ad 30)])), (ad 21, .inl (cy 0, 6, .inl (fun i => nI (gL g i)))), (ad 22, .inl (cy 0, 14, .inl (fun i => nI (gF g i)))), (ad 23, .inl (cy 0, 14, .inl (fun i => nI (gS g i)))), (ad 24, .inl (cy 0, 14, .inl (fun i => nI (gH g i)))), (ad 25, .inl (cy 0, 14, .inl (fun i => zI (gW g i)))), (ad 26, .inl (cy 1, 32768, .inl ff)), (ad 27, .inl (cy 0, 32768, .inl fr_)), (ad 28, .inl (cy 0, 15, .inl fb)), (ad 29, .inl (cy 0, 8, .inl fp)), (ad 30, .inl (cy 0, 6, .inl fc))] H := hP
  have hD : va_D (inW (wM cy ad g th (bI kb) ms ff fr_ fb fp fc)) [(ad 20, .inr (5, [.int (nI 0), .int (nI (gV g)), .int (nI (gC g)), .int (nI (gE g)), .ref (ad 21), .ref (ad 22), .ref (ad 23), .ref (ad 24), .ref (ad 25), .int (bI kb), .ref (ad 26), .ref (ad 27), .ref (ad 28), .int ms, .ref (ad 29), .ref (ad 30)])), (ad 21, .inl (cy 0, 6, .inl (fun i => nI (gL g i)))), (ad 22, .inl (cy 0, 14, .inl (fun i => nI (gF g i)))), (ad 23, .inl (cy 0, 14, .inl (fun i => nI (gS g i)))), (ad 24, .inl (cy 0, 14, .inl (fun i => nI (gH g i)))), (ad 25, .inl (cy 0, 14, .inl (fun i => zI (gW g i)))), (ad 26, .inl (cy 1, 32768, .inl ff)), (ad 27, .inl (cy 0, 32768, .inl fr_)), (ad 28, .inl (cy 0, 15, .inl fb)), (ad 29, .inl (cy 0, 8, .inl fp)), (ad 30, .inl (cy 0, 6, .inl fc))] := hD
  refine lv_aload_n hx hb dX6_heaviest_5 rfl (lv_at hl 0 rfl) ?_
  refine wr_callv [0, 1, 2, 3, 4, 5, 6, 7, 8, 9, 10] (va_runV (As := []) (rest := []) ⟨hx, hb, hml, hown, hts⟩ (c_X6_learn l D cy ad hg ((nI 0)) (kb := kb) (ms := ms) (ff := ff) (fr_ := fr_) (fb := fb) (fp := fp) (fc := fc) hv9) (cwV 0 hts gX6_heaviest_X6_learn rfl rfl rfl (by decide +kernel) ⟨Nat.le_of_ble_eq_true rfl, Nat.le_of_ble_eq_true rfl⟩) (WR_preV (ci := 5) (q0 := 0) hK hP hD rfl rfl [0, 1, 2, 3, 4, 5, 6, 7, 8, 9, 10] (by decide) rfl rfl) rfl rfl hl.1 rfl (lv_room (Nat.le_of_ble_eq_true rfl)) dX6_heaviest_6 ⟨(Nat.zero_le _), (Nat.zero_le _)⟩) hS hP hD rfl (fun _ => rfl) (fun _ => rfl) (fun u6 H locs w6 hP hD hS => ?_)
  obtain ⟨hF, hR, hB⟩ := w6
  have hP : va_P D vwCl [(ad 20, .inr (5, [.int (nI 0), .int (nI (gV g)), .int (nI (gC g)), .int (nI (gE g)), .ref (ad 21), .ref (ad 22), .ref (ad 23), .ref (ad 24), .ref (ad 25), .int (bI true), .ref (ad 26), .ref (ad 27), .ref (ad 28), .int (nI (mo g (2 ^ gE g))), .ref (ad 29), .ref (ad 30)])), (ad 21, .inl (cy 0, 6, .inl (fun i => nI (gL g i)))), (ad 22, .inl (cy 0, 14, .inl (fun i => nI (gF g i)))), (ad 23, .inl (cy 0, 14, .inl (fun i => nI (gS g i)))), (ad 24, .inl (cy 0, 14, .inl (fun i => nI (gH g i)))), (ad 25, .inl (cy 0, 14, .inl (fun i => zI (gW g i)))), (ad 26, .inl (cy 1, 32768, .inl u6.1)), (ad 27, .inl (cy 0, 32768, .inl u6.2.1)), (ad 28, .inl (cy 0, 15, .inl u6.2.2.1)), (ad 29, .inl (cy 0, 8, .inl u6.2.2.2.1)), (ad 30, .inl (cy 0, 6, .inl u6.2.2.2.2))] H := hP
  have hD : va_D (inW (wM cy ad g th (bI kb) ms ff fr_ fb fp fc)) [(ad 20, .inr (5, [.int (nI 0), .int (nI (gV g)), .int (nI (gC g)), .int (nI (gE g)), .ref (ad 21), .ref (ad 22), .ref (ad 23), .ref (ad 24), .ref (ad 25), .int (bI true), .ref (ad 26), .ref (ad 27), .ref (ad 28), .int (nI (mo g (2 ^ gE g))), .ref (ad 29), .ref (ad 30)])), (ad 21, .inl (cy 0, 6, .inl (fun i => nI (gL g i)))), (ad 22, .inl (cy 0, 14, .inl (fun i => nI (gF g i)))), (ad 23, .inl (cy 0, 14, .inl (fun i => nI (gS g i)))), (ad 24, .inl (cy 0, 14, .inl (fun i => nI (gH g i)))), (ad 25, .inl (cy 0, 14, .inl (fun i => zI (gW g i)))), (ad 26, .inl (cy 1, 32768, .inl u6.1)), (ad 27, .inl (cy 0, 32768, .inl u6.2.1)), (ad 28, .inl (cy 0, 15, .inl u6.2.2.1)), (ad 29, .inl (cy 0, 8, .inl u6.2.2.2.1)), (ad 30, .inl (cy 0, 6, .inl u6.2.2.2.2))] := hD
  refine lv_iconst (v := nI 0) hx hb dX6_heaviest_9 (by decide) ?_
  refine lv_istore_n (lv' := [(1, .int (nI 0)), (0, .ref (ad 20))]) hx hb dX6_heaviest_10 rfl hl (by decide) rfl (fun ls hl => ?_)
  refine lv_iconst (v := nI 1) hx hb dX6_heaviest_11 (by decide) ?_
  refine lv_istore_n (lv' := [(2, .int (nI 1)), (1, .int (nI 0)), (0, .ref (ad 20))]) hx hb dX6_heaviest_12 rfl hl (by decide) rfl (fun ls hl => ?_)
  have L13 : ∀ (n : Nat) (j : Nat), j ≤ moA g ∧ moA g + 1 ≤ j + n → ∀ (H : Heap) (locs : List Loc), va_P D vwCl [(ad 20, .inr (5, [.int (nI 0), .int (nI (gV g)), .int (nI (gC g)), .int (nI (gE g)), .ref (ad 21), .ref (ad 22), .ref (ad 23), .ref (ad 24), .ref (ad 25), .int (bI true), .ref (ad 26), .ref (ad 27), .ref (ad 28), .int (nI (mo g (2 ^ gE g))), .ref (ad 29), .ref (ad 30)])), (ad 21, .inl (cy 0, 6, .inl (fun i => nI (gL g i)))), (ad 22, .inl (cy 0, 14, .inl (fun i => nI (gF g i)))), (ad 23, .inl (cy 0, 14, .inl (fun i => nI (gS g i)))), (ad 24, .inl (cy 0, 14, .inl (fun i => nI (gH g i)))), (ad 25, .inl (cy 0, 14, .inl (fun i => zI (gW g i)))), (ad 26, .inl (cy 1, 32768, .inl u6.1)), (ad 27, .inl (cy 0, 32768, .inl u6.2.1)), (ad 28, .inl (cy 0, 15, .inl u6.2.2.1)), (ad 29, .inl (cy 0, 8, .inl u6.2.2.2.1)), (ad 30, .inl (cy 0, 6, .inl u6.2.2.2.2))] H → va_D (inW (wM cy ad g th (bI kb) ms ff fr_ fb fp fc)) [(ad 20, .inr (5, [.int (nI 0), .int (nI (gV g)), .int (nI (gC g)), .int (nI (gE g)), .ref (ad 21), .ref (ad 22), .ref (ad 23), .ref (ad 24), .ref (ad 25), .int (bI true), .ref (ad 26), .ref (ad 27), .ref (ad 28), .int (nI (mo g (2 ^ gE g))), .ref (ad 29), .ref (ad 30)])), (ad 21, .inl (cy 0, 6, .inl (fun i => nI (gL g i)))), (ad 22, .inl (cy 0, 14, .inl (fun i => nI (gF g i)))), (ad 23, .inl (cy 0, 14, .inl (fun i => nI (gS g i)))), (ad 24, .inl (cy 0, 14, .inl (fun i => nI (gH g i)))), (ad 25, .inl (cy 0, 14, .inl (fun i => zI (gW g i)))), (ad 26, .inl (cy 1, 32768, .inl u6.1)), (ad 27, .inl (cy 0, 32768, .inl u6.2.1)), (ad 28, .inl (cy 0, 15, .inl u6.2.2.1)), (ad 29, .inl (cy 0, 8, .inl u6.2.2.2.1)), (ad 30, .inl (cy 0, 6, .inl u6.2.2.2.2))] → va_S (inW (wM cy ad g th (bI kb) ms ff fr_ fb fp fc)) s.heap H locs → ∀ (ls : Array Slot), lv_has ls 3 [(0, .ref (ad 20)), (1, .int (nI (hv (wB g) j))), (2, .int (nI (j + 1)))] → W p l ev (headSpec wsX6_heaviest ({ frames := 3, cells := 0, slots := 0, locals := 71 })).room s m [.ref (ad 20)].toArray below meth c H locs 0 0 (MQ below (va_Qi (fun (r : Int32) (u : (Nat → Int32) × (Nat → Int32) × (Nat → Int32) × (Nat → Int32) × (Nat → Int32)) => r = nI (hv (wB g) (moA g)) ∧ lrF g (2 ^ gE g) u.1 ∧ lrR g (2 ^ gE g) u.2.1 ∧ lrB g (2 ^ gE g) u.2.2.1) (fun u t => va_P D vwCl ((fun u : (Nat → Int32) × (Nat → Int32) × (Nat → Int32) × (Nat → Int32) × (Nat → Int32) => wM cy ad g (nI 0) (bI true) (nI (mo g (2 ^ gE g))) u.1 u.2.1 u.2.2.1 u.2.2.2.1 u.2.2.2.2) u) t.heap) (inW (wM cy ad g th (bI kb) ms ff fr_ fb fp fc))) [.ref (ad 20)].toArray s 0 0 (inW (wM cy ad g th (bI kb) ms ff fr_ fb fp fc))) (F0 m 13 ls []) := by
    intro n
    induction n with
    | zero =>
      intro j hfuel  H locs hP hD hS ls hl
      exact absurd hfuel.2 (by have := hfuel.1; omega)
    | succ n ih13 =>
      intro j hfuel  H locs hP hD hS ls hl
      obtain ⟨hfu1, hfu2⟩ := hfuel
      have hhv := hv_le (wB g) j
      refine lv_iload_n hx hb dX6_heaviest_13 rfl (lv_at hl 2 rfl) ?_
      refine lv_aload_n hx hb dX6_heaviest_14 rfl (lv_at hl 0 rfl) ?_
      refine va_get (D := D) (ci := 5) (v := .int (nI (mo g (2 ^ gE g)))) (C := RX6) (T := TX6) (N := 16) hx hb hts inX6 hown hK.1 hP 0 rfl rfl 13 (by decide) (hts (.fieldLink RX6 70 "ColourForestsModel" "most" "I") (List.mem_of_getElem? (i := 2) rfl)) (fun _ h9 => h9) rfl dX6_heaviest_15 ?_
      refine n_gt (a := (j + 1)) (b := (mo g (2 ^ gE g))) (tgt := 56) hx hb dX6_heaviest_18 (by decide) (by omega) (by omega) (fun c18 => ?_) (fun c18 => ?_)
      · refine lv_iload_n hx hb dX6_heaviest_56 rfl (lv_at hl 1 rfl) ?_
        exact wi_ret u6 hx hb hr hlocks hS hP ⟨(by rw [show j = moA g by omega]), hF, hR, hB⟩ dX6_heaviest_57
      · have hd1 := dsA_lt hg (k := j + 1) (by omega)
        have hd2 := dsA_lt hg (k := hv (wB g) j) (by omega)
        have hw1 := wS_bd hg (dsA g (j + 1))
        have hw2 := wS_bd hg (dsA g (hv (wB g) j))
        refine lv_aload_n hx hb dX6_heaviest_21 rfl (lv_at hl 0 rfl) ?_
        refine lv_aload_n hx hb dX6_heaviest_22 rfl (lv_at hl 0 rfl) ?_
        refine va_get (D := D) (ci := 5) (v := .ref (ad 28)) (C := RX6) (T := TX6) (N := 16) hx hb hts inX6 hown hK.1 hP 0 rfl rfl 12 (by decide) (hts (.fieldLink RX6 40 "ColourForestsModel" "best" "[I") (List.mem_of_getElem? (i := 3) rfl)) (fun _ h9 => h9) rfl dX6_heaviest_23 ?_
        refine lv_iload_n hx hb dX6_heaviest_26 rfl (lv_at hl 2 rfl) ?_
        refine rd_i (k := (j + 1)) (v := (nI (dsA g (j + 1)))) hx hb hK hP 8 rfl (by omega) (by decide) (lrB_ds hg hB (by omega)) dX6_heaviest_27 ?_
        refine pu_call (va_runV (As := [.int (nI (dsA g (j + 1)))]) (rest := []) ⟨hx, hb, hml, hown, hts⟩ (c_X6_weightOf l D cy ad hg ((nI 0)) ((bI true)) ((nI (mo g (2 ^ gE g)))) (S := dsA g (j + 1)) (by omega)) (cwV 1 hts gX6_heaviest_X6_weightOf rfl rfl rfl (by decide +kernel) ⟨Nat.le_of_ble_eq_true rfl, Nat.le_of_ble_eq_true rfl⟩) (PU_preV (ci := 5) (q0 := 0) hK hP 0 rfl rfl [0, 5] rfl) rfl rfl hl.1 rfl (lv_room (Nat.le_of_ble_eq_true rfl)) dX6_heaviest_28 ⟨(Nat.zero_le _), (Nat.zero_le _)⟩) hS hP (fun H locs hP hS => ?_)
        refine lv_aload_n hx hb dX6_heaviest_31 rfl (lv_at hl 0 rfl) ?_
        refine lv_aload_n hx hb dX6_heaviest_32 rfl (lv_at hl 0 rfl) ?_
        refine va_get (D := D) (ci := 5) (v := .ref (ad 28)) (C := RX6) (T := TX6) (N := 16) hx hb hts inX6 hown hK.1 hP 0 rfl rfl 12 (by decide) (hts (.fieldLink RX6 40 "ColourForestsModel" "best" "[I") (List.mem_of_getElem? (i := 3) rfl)) (fun _ h9 => h9) rfl dX6_heaviest_33 ?_
        refine lv_iload_n hx hb dX6_heaviest_36 rfl (lv_at hl 1 rfl) ?_
        refine rd_i (k := (hv (wB g) j)) (v := (nI (dsA g (hv (wB g) j)))) hx hb hK hP 8 rfl (by omega) (by decide) (lrB_ds hg hB (by omega)) dX6_heaviest_37 ?_
        refine pu_call (va_runV (As := [.int (nI (dsA g (hv (wB g) j)))]) (rest := [.int (zI (wS g (dsA g (j + 1))))]) ⟨hx, hb, hml, hown, hts⟩ (c_X6_weightOf l D cy ad hg ((nI 0)) ((bI true)) ((nI (mo g (2 ^ gE g)))) (S := dsA g (hv (wB g) j)) (by omega)) (cwV 1 hts gX6_heaviest_X6_weightOf rfl rfl rfl (by decide +kernel) ⟨Nat.le_of_ble_eq_true rfl, Nat.le_of_ble_eq_true rfl⟩) (PU_preV (ci := 5) (q0 := 0) hK hP 0 rfl rfl [0, 5] rfl) rfl rfl hl.1 rfl (lv_room (Nat.le_of_ble_eq_true rfl)) dX6_heaviest_38 ⟨(Nat.zero_le _), (Nat.zero_le _)⟩) hS hP (fun H locs hP hS => ?_)
        refine z_le (a := (wS g (dsA g (j + 1)))) (b := (wS g (dsA g (hv (wB g) j)))) (tgt := 48) hx hb dX6_heaviest_41 (by decide) ⟨by omega, by omega⟩ ⟨by omega, by omega⟩ (fun c41 => ?_) (fun c41 => ?_)
        · refine lv_iload_n hx hb dX6_heaviest_48 rfl (lv_at hl 1 rfl) ?_
          refine lv_istore_n (lv' := [(1, .int (nI (hv (wB g) j))), (0, .ref (ad 20)), (2, .int (nI (j + 1)))]) hx hb dX6_heaviest_49 rfl hl (by decide) rfl (fun ls hl => ?_)
          refine lv_iinc (v := (nI (j + 1 + 1))) (lv' := [(2, .int (nI (j + 1 + 1))), (1, .int (nI (hv (wB g) j))), (0, .ref (ad 20))]) hx hb dX6_heaviest_50 hl (k := 2) rfl (ni_inc _) (by decide) rfl (fun ls hl => ?_)
          refine lv_goto (tgt := 13) hx hb dX6_heaviest_53 (by decide) ?_
          exact ih13 (j + 1) ⟨by omega, by omega⟩  _ _ hP hD hS _ (by first | (rw [hv_y (w := wB g) (by rw [wB_is hg (by omega), wB_is hg (by omega)]; exact c41)]; exact lv_sub hl [2, 1, 0] rfl) | (rw [hv_n (w := wB g) (by rw [wB_is hg (by omega), wB_is hg (by omega)]; omega)]; exact lv_sub hl [2, 1, 0] rfl))
        · refine lv_iload_n hx hb dX6_heaviest_44 rfl (lv_at hl 2 rfl) ?_
          refine lv_goto (tgt := 49) hx hb dX6_heaviest_45 (by decide) ?_
          refine lv_istore_n (lv' := [(1, .int (nI (j + 1))), (0, .ref (ad 20)), (2, .int (nI (j + 1)))]) hx hb dX6_heaviest_49 rfl hl (by decide) rfl (fun ls hl => ?_)
          refine lv_iinc (v := (nI (j + 1 + 1))) (lv' := [(2, .int (nI (j + 1 + 1))), (1, .int (nI (j + 1))), (0, .ref (ad 20))]) hx hb dX6_heaviest_50 hl (k := 2) rfl (ni_inc _) (by decide) rfl (fun ls hl => ?_)
          refine lv_goto (tgt := 13) hx hb dX6_heaviest_53 (by decide) ?_
          exact ih13 (j + 1) ⟨by omega, by omega⟩  _ _ hP hD hS _ (by first | (rw [hv_y (w := wB g) (by rw [wB_is hg (by omega), wB_is hg (by omega)]; exact c41)]; exact lv_sub hl [2, 1, 0] rfl) | (rw [hv_n (w := wB g) (by rw [wB_is hg (by omega), wB_is hg (by omega)]; omega)]; exact lv_sub hl [2, 1, 0] rfl))
  exact L13 (moA g + 1) 0 ⟨Nat.zero_le _, by omega⟩  _ _ hP hD hS _ (lv_sub hl [2, 1, 0] rfl)

set_option maxHeartbeats 4000000 in
set_option maxRecDepth 100000 in
theorem c_X6_witness_no (l : Launch) (D : va_G) (cy : Nat → ClassId) (ad : Nat → Nat) {g : GT} (hg : gOK g) (th kn ms : Int32) {x : Int32} (h : isN x 2 = false) : WI l yX6_witness wsX6_witness ({ frames := 0, cells := 0, slots := 0, locals := 0 }) D cy [.ref (ad 20), .int x] [(ad 20, .inr (5, [.int th, .int (nI (gV g)), .int (nI (gC g)), .int (nI (gE g)), .ref (ad 21), .ref (ad 22), .ref (ad 23), .ref (ad 24), .ref (ad 25), .int kn, .ref (ad 26), .ref (ad 27), .ref (ad 28), .int ms, .ref (ad 29), .ref (ad 30)]))] (fun (r : Int32) (_ : Unit) => r = zI (-1)) (fun _ : Unit => [(ad 20, .inr (5, [.int (nI 0), .int (nI (gV g)), .int (nI (gC g)), .int (nI (gE g)), .ref (ad 21), .ref (ad 22), .ref (ad 23), .ref (ad 24), .ref (ad 25), .int kn, .ref (ad 26), .ref (ad 27), .ref (ad 28), .int ms, .ref (ad 29), .ref (ad 30)]))]) := by
  refine Met.ofW (cc := cX6_witness) (maxL := 6) (ret := (some .int)) (by decide) rfl ?_
  intro p ev s m args below meth c s₁ B hml hv
  obtain ⟨rfl, ⟨hK, hP⟩, hD0⟩ := hv
  have hx := B.exec
  have hb := B.bytes
  have hr := B.returns
  have hts := atoms_spec (ws := wsX6_witness) B.pre
  have hown : s.vm.findClass RX6 = some m.cls := findClass_of_methodNamed B.named
  have hlocks := B.notSynchronized
  have hD : va_D (inW [(ad 20, .inr (5, [.int th, .int (nI (gV g)), .int (nI (gC g)), .int (nI (gE g)), .ref (ad 21), .ref (ad 22), .ref (ad 23), .ref (ad 24), .ref (ad 25), .int kn, .ref (ad 26), .ref (ad 27), .ref (ad 28), .int ms, .ref (ad 29), .ref (ad 30)]))]) ([(ad 20, .inr (5, [.int th, .int (nI (gV g)), .int (nI (gC g)), .int (nI (gE g)), .ref (ad 21), .ref (ad 22), .ref (ad 23), .ref (ad 24), .ref (ad 25), .int kn, .ref (ad 26), .ref (ad 27), .ref (ad 28), .int ms, .ref (ad 29), .ref (ad 30)]))]) := inW_self hD0
  have hS : va_S (inW [(ad 20, .inr (5, [.int th, .int (nI (gV g)), .int (nI (gC g)), .int (nI (gE g)), .ref (ad 21), .ref (ad 22), .ref (ad 23), .ref (ad 24), .ref (ad 25), .int kn, .ref (ad 26), .ref (ad 27), .ref (ad 28), .int ms, .ref (ad 29), .ref (ad 30)]))]) s.heap s.heap [] := va_S.rf
  have hP : va_P D vwCl [(ad 20, .inr (5, [.int th, .int (nI (gV g)), .int (nI (gC g)), .int (nI (gE g)), .ref (ad 21), .ref (ad 22), .ref (ad 23), .ref (ad 24), .ref (ad 25), .int kn, .ref (ad 26), .ref (ad 27), .ref (ad 28), .int ms, .ref (ad 29), .ref (ad 30)]))] s.heap := hP
  have inX6 : ∀ w ∈ wsX60, w ∈ wsX6_witness := by decide +kernel
  have hl := lv_entry ([.ref (ad 20), .int x]) (n := 6) (Nat.le_of_ble_eq_true rfl)
  rw [lg_entry_eq]
  generalize (lg_sl ([.ref (ad 20), .int x]) ++ List.replicate (6 - (lg_sl ([.ref (ad 20), .int x])).length) Slot.unset).toArray = ls at hl ⊢
  have hl : lv_has ls 6 [(0, .ref (ad 20)), (1, .int x)] := hl
  have hgen := True.intro
  have hE := hg.2.2.1
  have hV := hg.1
  have hC := hg.2.1
  have hS8 : 2 ^ gE g ≤ 2 ^ 14 := Nat.pow_le_pow_right (by decide) hE
  refine lv_aload_n hx hb dX6_witness_0 rfl (lv_at hl 0 rfl) ?_
  refine lv_iconst (v := nI 0) hx hb dX6_witness_1 (by decide) ?_
  refine va_put (D := D) (ci := 5) (v := .int (nI 0)) (ty := .int) (C := RX6) (T := TX6) (N := 16) hx hb hts inX6 tyX6 tyX6_ok nmX6 hown hK.1 hP hD hS 0 rfl rfl 0 (by decide) (hts (.fieldLink RX6 49 "ColourForestsModel" "thrown" "I") (List.mem_of_getElem? (i := 1) rfl)) (fun _ h9 => h9) rfl (by decide +kernel) rfl rfl (Nat.le_of_ble_eq_true rfl) dX6_witness_2 (fun H locs hP hD hS => ?_)
  have hP : va_P D vwCl [(ad 20, .inr (5, [.int (nI 0), .int (nI (gV g)), .int (nI (gC g)), .int (nI (gE g)), .ref (ad 21), .ref (ad 22), .ref (ad 23), .ref (ad 24), .ref (ad 25), .int kn, .ref (ad 26), .ref (ad 27), .ref (ad 28), .int ms, .ref (ad 29), .ref (ad 30)]))] H := hP
  have hD : va_D (inW [(ad 20, .inr (5, [.int th, .int (nI (gV g)), .int (nI (gC g)), .int (nI (gE g)), .ref (ad 21), .ref (ad 22), .ref (ad 23), .ref (ad 24), .ref (ad 25), .int kn, .ref (ad 26), .ref (ad 27), .ref (ad 28), .int ms, .ref (ad 29), .ref (ad 30)]))]) [(ad 20, .inr (5, [.int (nI 0), .int (nI (gV g)), .int (nI (gC g)), .int (nI (gE g)), .ref (ad 21), .ref (ad 22), .ref (ad 23), .ref (ad 24), .ref (ad 25), .int kn, .ref (ad 26), .ref (ad 27), .ref (ad 28), .int ms, .ref (ad 29), .ref (ad 30)]))] := hD
  refine lv_iload_n hx hb dX6_witness_5 rfl (lv_at hl 1 rfl) ?_
  refine lv_if_lt (tgt := 14) hx hb dX6_witness_6 (by decide) (fun c6 => ?_) (fun c6 => ?_)
  · refine lv_iconst (v := zI (-1)) hx hb dX6_witness_14 (by decide) ?_
    exact wi_ret () hx hb hr hlocks hS hP rfl dX6_witness_15
  · refine lv_iload_n hx hb dX6_witness_9 rfl (lv_at hl 1 rfl) ?_
    refine lv_iconst (v := nI 1) hx hb dX6_witness_10 (by decide) ?_
    refine lv_icmp_le (tgt := 16) hx hb dX6_witness_11 (by decide) (fun c11 => ?_) (fun c11 => ?_)
    · exact (mo_up' (n := 1) (by decide) h c6 c11).elim
    · refine lv_iconst (v := zI (-1)) hx hb dX6_witness_14 (by decide) ?_
      exact wi_ret () hx hb hr hlocks hS hP rfl dX6_witness_15

set_option maxHeartbeats 4000000 in
set_option maxRecDepth 100000 in
theorem c_X6_witness_yes (l : Launch) (D : va_G) (cy : Nat → ClassId) (ad : Nat → Nat) {g : GT} (hg : gOK g) (th : Int32) {kb : Bool} {ms : Int32} {ff fr_ fb fp fc : Nat → Int32} (hv9 : kb = true → lrF g (2 ^ gE g) ff ∧ lrR g (2 ^ gE g) fr_ ∧ lrB g (2 ^ gE g) fb ∧ ms = nI (mo g (2 ^ gE g))) {k9 : Nat} (hk9 : k9 < 2) : WI l yX6_witness wsX6_witness ({ frames := 3, cells := 0, slots := 0, locals := 71 }) D cy [.ref (ad 20), .int (nI k9)] (wM cy ad g th (bI kb) ms ff fr_ fb fp fc) (fun (r : Int32) (u : (Nat → Int32) × (Nat → Int32) × (Nat → Int32) × (Nat → Int32) × (Nat → Int32)) => r = nI (wiA g k9) ∧ lrF g (2 ^ gE g) u.1 ∧ lrR g (2 ^ gE g) u.2.1 ∧ lrB g (2 ^ gE g) u.2.2.1) (fun u : (Nat → Int32) × (Nat → Int32) × (Nat → Int32) × (Nat → Int32) × (Nat → Int32) => wM cy ad g (nI 0) (bI true) (nI (mo g (2 ^ gE g))) u.1 u.2.1 u.2.2.1 u.2.2.2.1 u.2.2.2.2) := by
  refine Met.ofW (cc := cX6_witness) (maxL := 6) (ret := (some .int)) (by decide) rfl ?_
  intro p ev s m args below meth c s₁ B hml hv
  obtain ⟨rfl, ⟨hK, hP⟩, hD0⟩ := hv
  have hx := B.exec
  have hb := B.bytes
  have hr := B.returns
  have hts := atoms_spec (ws := wsX6_witness) B.pre
  have hown : s.vm.findClass RX6 = some m.cls := findClass_of_methodNamed B.named
  have hlocks := B.notSynchronized
  have hD : va_D (inW (wM cy ad g th (bI kb) ms ff fr_ fb fp fc)) (wM cy ad g th (bI kb) ms ff fr_ fb fp fc) := inW_self hD0
  have hS : va_S (inW (wM cy ad g th (bI kb) ms ff fr_ fb fp fc)) s.heap s.heap [] := va_S.rf
  have hP : va_P D vwCl (wM cy ad g th (bI kb) ms ff fr_ fb fp fc) s.heap := hP
  have inX6 : ∀ w ∈ wsX60, w ∈ wsX6_witness := by decide +kernel
  have hl := lv_entry ([.ref (ad 20), .int (nI k9)]) (n := 6) (Nat.le_of_ble_eq_true rfl)
  rw [lg_entry_eq]
  generalize (lg_sl ([.ref (ad 20), .int (nI k9)]) ++ List.replicate (6 - (lg_sl ([.ref (ad 20), .int (nI k9)])).length) Slot.unset).toArray = ls at hl ⊢
  have hl : lv_has ls 6 [(0, .ref (ad 20)), (1, .int (nI k9))] := hl
  have hgen := True.intro
  have hE := hg.2.2.1
  have hV := hg.1
  have hC := hg.2.1
  have hS8 : 2 ^ gE g ≤ 2 ^ 14 := Nat.pow_le_pow_right (by decide) hE
  have hmo := mo_le g hg
  have hme : mo g (2 ^ gE g) = moA g := rfl
  refine lv_aload_n hx hb dX6_witness_0 rfl (lv_at hl 0 rfl) ?_
  refine lv_iconst (v := nI 0) hx hb dX6_witness_1 (by decide) ?_
  refine va_put (D := D) (ci := 5) (v := .int (nI 0)) (ty := .int) (C := RX6) (T := TX6) (N := 16) hx hb hts inX6 tyX6 tyX6_ok nmX6 hown hK.1 hP hD hS 0 rfl rfl 0 (by decide) (hts (.fieldLink RX6 49 "ColourForestsModel" "thrown" "I") (List.mem_of_getElem? (i := 1) rfl)) (fun _ h9 => h9) rfl (by decide +kernel) rfl rfl (Nat.le_of_ble_eq_true rfl) dX6_witness_2 (fun H locs hP hD hS => ?_)
  have hP : va_P D vwCl [(ad 20, .inr (5, [.int (nI 0), .int (nI (gV g)), .int (nI (gC g)), .int (nI (gE g)), .ref (ad 21), .ref (ad 22), .ref (ad 23), .ref (ad 24), .ref (ad 25), .int (bI kb), .ref (ad 26), .ref (ad 27), .ref (ad 28), .int ms, .ref (ad 29), .ref (ad 30)])), (ad 21, .inl (cy 0, 6, .inl (fun i => nI (gL g i)))), (ad 22, .inl (cy 0, 14, .inl (fun i => nI (gF g i)))), (ad 23, .inl (cy 0, 14, .inl (fun i => nI (gS g i)))), (ad 24, .inl (cy 0, 14, .inl (fun i => nI (gH g i)))), (ad 25, .inl (cy 0, 14, .inl (fun i => zI (gW g i)))), (ad 26, .inl (cy 1, 32768, .inl ff)), (ad 27, .inl (cy 0, 32768, .inl fr_)), (ad 28, .inl (cy 0, 15, .inl fb)), (ad 29, .inl (cy 0, 8, .inl fp)), (ad 30, .inl (cy 0, 6, .inl fc))] H := hP
  have hD : va_D (inW (wM cy ad g th (bI kb) ms ff fr_ fb fp fc)) [(ad 20, .inr (5, [.int (nI 0), .int (nI (gV g)), .int (nI (gC g)), .int (nI (gE g)), .ref (ad 21), .ref (ad 22), .ref (ad 23), .ref (ad 24), .ref (ad 25), .int (bI kb), .ref (ad 26), .ref (ad 27), .ref (ad 28), .int ms, .ref (ad 29), .ref (ad 30)])), (ad 21, .inl (cy 0, 6, .inl (fun i => nI (gL g i)))), (ad 22, .inl (cy 0, 14, .inl (fun i => nI (gF g i)))), (ad 23, .inl (cy 0, 14, .inl (fun i => nI (gS g i)))), (ad 24, .inl (cy 0, 14, .inl (fun i => nI (gH g i)))), (ad 25, .inl (cy 0, 14, .inl (fun i => zI (gW g i)))), (ad 26, .inl (cy 1, 32768, .inl ff)), (ad 27, .inl (cy 0, 32768, .inl fr_)), (ad 28, .inl (cy 0, 15, .inl fb)), (ad 29, .inl (cy 0, 8, .inl fp)), (ad 30, .inl (cy 0, 6, .inl fc))] := hD
  refine lv_iload_n hx hb dX6_witness_5 rfl (lv_at hl 1 rfl) ?_
  refine lv_if_lt (tgt := 14) hx hb dX6_witness_6 (by decide) (fun c6 => ?_) (fun c6 => ?_)
  · exact absurd c6 (nlt0 (by omega))
  · refine lv_iload_n hx hb dX6_witness_9 rfl (lv_at hl 1 rfl) ?_
    refine lv_iconst (v := nI 1) hx hb dX6_witness_10 (by decide) ?_
    refine n_le (a := k9) (b := 1) (tgt := 16) hx hb dX6_witness_11 (by decide) (by omega) (by omega) (fun c11 => ?_) (fun c11 => ?_)
    · refine lv_aload_n hx hb dX6_witness_16 rfl (lv_at hl 0 rfl) ?_
      refine wr_callv [0, 1, 2, 3, 4, 5, 6, 7, 8, 9, 10] (va_runV (As := []) (rest := []) ⟨hx, hb, hml, hown, hts⟩ (c_X6_learn l D cy ad hg ((nI 0)) (kb := kb) (ms := ms) (ff := ff) (fr_ := fr_) (fb := fb) (fp := fp) (fc := fc) hv9) (cwV 0 hts gX6_witness_X6_learn rfl rfl rfl (by decide +kernel) ⟨Nat.le_of_ble_eq_true rfl, Nat.le_of_ble_eq_true rfl⟩) (WR_preV (ci := 5) (q0 := 0) hK hP hD rfl rfl [0, 1, 2, 3, 4, 5, 6, 7, 8, 9, 10] (by decide) rfl rfl) rfl rfl hl.1 rfl (lv_room (Nat.le_of_ble_eq_true rfl)) dX6_witness_17 ⟨(Nat.zero_le _), (Nat.zero_le _)⟩) hS hP hD rfl (fun _ => rfl) (fun _ => rfl) (fun u17 H locs w17 hP hD hS => ?_)
      obtain ⟨hF, hR, hB⟩ := w17
      have hP : va_P D vwCl [(ad 20, .inr (5, [.int (nI 0), .int (nI (gV g)), .int (nI (gC g)), .int (nI (gE g)), .ref (ad 21), .ref (ad 22), .ref (ad 23), .ref (ad 24), .ref (ad 25), .int (bI true), .ref (ad 26), .ref (ad 27), .ref (ad 28), .int (nI (mo g (2 ^ gE g))), .ref (ad 29), .ref (ad 30)])), (ad 21, .inl (cy 0, 6, .inl (fun i => nI (gL g i)))), (ad 22, .inl (cy 0, 14, .inl (fun i => nI (gF g i)))), (ad 23, .inl (cy 0, 14, .inl (fun i => nI (gS g i)))), (ad 24, .inl (cy 0, 14, .inl (fun i => nI (gH g i)))), (ad 25, .inl (cy 0, 14, .inl (fun i => zI (gW g i)))), (ad 26, .inl (cy 1, 32768, .inl u17.1)), (ad 27, .inl (cy 0, 32768, .inl u17.2.1)), (ad 28, .inl (cy 0, 15, .inl u17.2.2.1)), (ad 29, .inl (cy 0, 8, .inl u17.2.2.2.1)), (ad 30, .inl (cy 0, 6, .inl u17.2.2.2.2))] H := hP
      have hD : va_D (inW (wM cy ad g th (bI kb) ms ff fr_ fb fp fc)) [(ad 20, .inr (5, [.int (nI 0), .int (nI (gV g)), .int (nI (gC g)), .int (nI (gE g)), .ref (ad 21), .ref (ad 22), .ref (ad 23), .ref (ad 24), .ref (ad 25), .int (bI true), .ref (ad 26), .ref (ad 27), .ref (ad 28), .int (nI (mo g (2 ^ gE g))), .ref (ad 29), .ref (ad 30)])), (ad 21, .inl (cy 0, 6, .inl (fun i => nI (gL g i)))), (ad 22, .inl (cy 0, 14, .inl (fun i => nI (gF g i)))), (ad 23, .inl (cy 0, 14, .inl (fun i => nI (gS g i)))), (ad 24, .inl (cy 0, 14, .inl (fun i => nI (gH g i)))), (ad 25, .inl (cy 0, 14, .inl (fun i => zI (gW g i)))), (ad 26, .inl (cy 1, 32768, .inl u17.1)), (ad 27, .inl (cy 0, 32768, .inl u17.2.1)), (ad 28, .inl (cy 0, 15, .inl u17.2.2.1)), (ad 29, .inl (cy 0, 8, .inl u17.2.2.2.1)), (ad 30, .inl (cy 0, 6, .inl u17.2.2.2.2))] := hD
      refine lv_iconst (v := nI 1) hx hb dX6_witness_20 (by decide) ?_
      refine lv_aload_n hx hb dX6_witness_21 rfl (lv_at hl 0 rfl) ?_
      refine va_get (D := D) (ci := 5) (v := .int (nI (gE g))) (C := RX6) (T := TX6) (N := 16) hx hb hts inX6 hown hK.1 hP 0 rfl rfl 3 (by decide) (hts (.fieldLink RX6 56 "ColourForestsModel" "edges" "I") (List.mem_of_getElem? (i := 2) rfl)) (fun _ h9 => h9) rfl dX6_witness_22 ?_
      refine lv_ishl hx hb dX6_witness_25 ?_
      refine lv_as (y := (nI (2 ^ (gE g)))) (ni_bit (by omega)) ?_
      refine lv_iconst (v := nI 1) hx hb dX6_witness_26 (by decide) ?_
      refine lv_isub hx hb dX6_witness_27 ?_
      refine lv_as (y := (nI ((2 ^ (gE g)) - 1))) (ni_sub (by omega)) ?_
      refine lv_istore_n (lv' := [(2, .int (nI ((2 ^ (gE g)) - 1))), (0, .ref (ad 20)), (1, .int (nI k9))]) hx hb dX6_witness_28 rfl hl (by decide) rfl (fun ls hl => ?_)
      refine lv_iload_n hx hb dX6_witness_29 rfl (lv_at hl 0 rfl) ?_
      refine lv_istore_n (lv' := [(3, .int (nI ((2 ^ (gE g)) - 1))), (2, .int (nI ((2 ^ (gE g)) - 1))), (0, .ref (ad 20)), (1, .int (nI k9))]) hx hb dX6_witness_30 rfl hl (by decide) rfl (fun ls hl => ?_)
      refine lv_iconst (v := nI 0) hx hb dX6_witness_31 (by decide) ?_
      refine lv_istore (lv' := [(4, .int (nI 0)), (3, .int (nI ((2 ^ (gE g)) - 1))), (2, .int (nI ((2 ^ (gE g)) - 1))), (0, .ref (ad 20)), (1, .int (nI k9))]) hx hb dX6_witness_32 hl (by decide) rfl (fun ls hl => ?_)
      refine lv_iconst (v := nI 0) hx hb dX6_witness_34 (by decide) ?_
      refine lv_istore (lv' := [(5, .int (nI 0)), (4, .int (nI 0)), (3, .int (nI ((2 ^ (gE g)) - 1))), (2, .int (nI ((2 ^ (gE g)) - 1))), (0, .ref (ad 20)), (1, .int (nI k9))]) hx hb dX6_witness_35 hl (by decide) rfl (fun ls hl => ?_)
      have L37 : ∀ (n : Nat) (sm : Nat), sm ≤ 2 ^ gE g ∧ 2 ^ gE g + 1 ≤ sm + n → ∀ (H : Heap) (locs : List Loc), va_P D vwCl [(ad 20, .inr (5, [.int (nI 0), .int (nI (gV g)), .int (nI (gC g)), .int (nI (gE g)), .ref (ad 21), .ref (ad 22), .ref (ad 23), .ref (ad 24), .ref (ad 25), .int (bI true), .ref (ad 26), .ref (ad 27), .ref (ad 28), .int (nI (mo g (2 ^ gE g))), .ref (ad 29), .ref (ad 30)])), (ad 21, .inl (cy 0, 6, .inl (fun i => nI (gL g i)))), (ad 22, .inl (cy 0, 14, .inl (fun i => nI (gF g i)))), (ad 23, .inl (cy 0, 14, .inl (fun i => nI (gS g i)))), (ad 24, .inl (cy 0, 14, .inl (fun i => nI (gH g i)))), (ad 25, .inl (cy 0, 14, .inl (fun i => zI (gW g i)))), (ad 26, .inl (cy 1, 32768, .inl u17.1)), (ad 27, .inl (cy 0, 32768, .inl u17.2.1)), (ad 28, .inl (cy 0, 15, .inl u17.2.2.1)), (ad 29, .inl (cy 0, 8, .inl u17.2.2.2.1)), (ad 30, .inl (cy 0, 6, .inl u17.2.2.2.2))] H → va_D (inW (wM cy ad g th (bI kb) ms ff fr_ fb fp fc)) [(ad 20, .inr (5, [.int (nI 0), .int (nI (gV g)), .int (nI (gC g)), .int (nI (gE g)), .ref (ad 21), .ref (ad 22), .ref (ad 23), .ref (ad 24), .ref (ad 25), .int (bI true), .ref (ad 26), .ref (ad 27), .ref (ad 28), .int (nI (mo g (2 ^ gE g))), .ref (ad 29), .ref (ad 30)])), (ad 21, .inl (cy 0, 6, .inl (fun i => nI (gL g i)))), (ad 22, .inl (cy 0, 14, .inl (fun i => nI (gF g i)))), (ad 23, .inl (cy 0, 14, .inl (fun i => nI (gS g i)))), (ad 24, .inl (cy 0, 14, .inl (fun i => nI (gH g i)))), (ad 25, .inl (cy 0, 14, .inl (fun i => zI (gW g i)))), (ad 26, .inl (cy 1, 32768, .inl u17.1)), (ad 27, .inl (cy 0, 32768, .inl u17.2.1)), (ad 28, .inl (cy 0, 15, .inl u17.2.2.1)), (ad 29, .inl (cy 0, 8, .inl u17.2.2.2.1)), (ad 30, .inl (cy 0, 6, .inl u17.2.2.2.2))] → va_S (inW (wM cy ad g th (bI kb) ms ff fr_ fb fp fc)) s.heap H locs → ∀ (ls : Array Slot), lv_has ls 6 [(0, .ref (ad 20)), (1, .int (nI k9)), (2, .int (nI (2 ^ gE g - 1))), (3, .int (nI (wAnd (wP g) (gE g) sm))), (4, .int (nI (wOr (wP g) sm))), (5, .int (nI sm))] → W p l ev (headSpec wsX6_witness ({ frames := 3, cells := 0, slots := 0, locals := 71 })).room s m [.ref (ad 20), .int (nI k9)].toArray below meth c H locs 0 0 (MQ below (va_Qi (fun (r : Int32) (u : (Nat → Int32) × (Nat → Int32) × (Nat → Int32) × (Nat → Int32) × (Nat → Int32)) => r = nI (wiA g k9) ∧ lrF g (2 ^ gE g) u.1 ∧ lrR g (2 ^ gE g) u.2.1 ∧ lrB g (2 ^ gE g) u.2.2.1) (fun u t => va_P D vwCl ((fun u : (Nat → Int32) × (Nat → Int32) × (Nat → Int32) × (Nat → Int32) × (Nat → Int32) => wM cy ad g (nI 0) (bI true) (nI (mo g (2 ^ gE g))) u.1 u.2.1 u.2.2.1 u.2.2.2.1 u.2.2.2.2) u) t.heap) (inW (wM cy ad g th (bI kb) ms ff fr_ fb fp fc))) [.ref (ad 20), .int (nI k9)].toArray s 0 0 (inW (wM cy ad g th (bI kb) ms ff fr_ fb fp fc))) (F0 m 37 ls []) := by
        intro n
        induction n with
        | zero =>
          intro sm hfuel  H locs hP hD hS ls hl
          exact absurd hfuel.2 (by have := hfuel.1; omega)
        | succ n ih37 =>
          intro sm hfuel  H locs hP hD hS ls hl
          obtain ⟨hfu1, hfu2⟩ := hfuel
          refine lv_iload hx hb dX6_witness_37 (lv_at hl 5 rfl) ?_
          refine lv_iload_n hx hb dX6_witness_39 rfl (lv_at hl 2 rfl) ?_
          refine n_gt (a := sm) (b := (2 ^ gE g - 1)) (tgt := 89) hx hb dX6_witness_40 (by decide) (by omega) (by omega) (fun c40 => ?_) (fun c40 => ?_)
          · refine lv_iload_n hx hb dX6_witness_89 rfl (lv_at hl 1 rfl) ?_
            refine lv_if_ne (tgt := 97) hx hb dX6_witness_90 (by decide) (fun c90 => ?_) (fun c90 => ?_)
            · have c90 := n0_ne c90
              refine lv_iload hx hb dX6_witness_97 (lv_at hl 4 rfl) ?_
              exact wi_ret u17 hx hb hr hlocks hS hP ⟨(by unfold wiA; first | rw [if_pos c90, show sm = 2 ^ gE g by omega] | rw [if_neg c90, show sm = 2 ^ gE g by omega]), hF, hR, hB⟩ dX6_witness_99
            · have c90 := n0_of (by omega) c90
              refine lv_iload_n hx hb dX6_witness_93 rfl (lv_at hl 3 rfl) ?_
              refine lv_goto (tgt := 99) hx hb dX6_witness_94 (by decide) ?_
              exact wi_ret u17 hx hb hr hlocks hS hP ⟨(by unfold wiA; first | rw [if_pos c90, show sm = 2 ^ gE g by omega] | rw [if_neg c90, show sm = 2 ^ gE g by omega]), hF, hR, hB⟩ dX6_witness_99
          · have hr1 := rA_le g sm
            have hr2 := rB_le g (ms_sd (2 ^ gE g - 1) sm)
            have hx9 : ms_sd (2 ^ gE g - 1) sm < 2 ^ gE g := ms_sd_lt (ms_full_lt _)
            refine lv_aload_n hx hb dX6_witness_43 rfl (lv_at hl 0 rfl) ?_
            refine va_get (D := D) (ci := 5) (v := .ref (ad 27)) (C := RX6) (T := TX6) (N := 16) hx hb hts inX6 hown hK.1 hP 0 rfl rfl 11 (by decide) (hts (.fieldLink RX6 37 "ColourForestsModel" "ranks" "[I") (List.mem_of_getElem? (i := 3) rfl)) (fun _ h9 => h9) rfl dX6_witness_44 ?_
            refine lv_iload hx hb dX6_witness_47 (lv_at hl 5 rfl) ?_
            refine rd_i (k := sm) (v := (nI (rA g sm))) hx hb hK hP 7 rfl (by omega) (by decide) (lrR_at0 hR (by omega)) dX6_witness_49 ?_
            refine lv_aload_n hx hb dX6_witness_50 rfl (lv_at hl 0 rfl) ?_
            refine va_get (D := D) (ci := 5) (v := .ref (ad 27)) (C := RX6) (T := TX6) (N := 16) hx hb hts inX6 hown hK.1 hP 0 rfl rfl 11 (by decide) (hts (.fieldLink RX6 37 "ColourForestsModel" "ranks" "[I") (List.mem_of_getElem? (i := 3) rfl)) (fun _ h9 => h9) rfl dX6_witness_51 ?_
            refine lv_sipush (v := nI 16384) hx hb dX6_witness_54 (by decide) ?_
            refine lv_iload_n hx hb dX6_witness_57 rfl (lv_at hl 2 rfl) ?_
            refine lv_iload hx hb dX6_witness_58 (lv_at hl 5 rfl) ?_
            refine lv_ixor hx hb dX6_witness_60 ?_
            refine lv_as (y := (nI (ms_sd (2 ^ gE g - 1) sm))) (by rw [ni_xor, xor_full (by omega)]) ?_
            refine lv_iadd hx hb dX6_witness_61 ?_
            refine lv_as (y := (nI (16384 + (ms_sd (2 ^ gE g - 1) sm)))) (nI_add _ _) ?_
            refine rd_i (k := (16384 + (ms_sd (2 ^ gE g - 1) sm))) (v := (nI (rB g (ms_sd (2 ^ gE g - 1) sm)))) hx hb hK hP 7 rfl (by omega) (by decide) (lrR_at1 hR hx9) dX6_witness_62 ?_
            refine lv_iadd hx hb dX6_witness_63 ?_
            refine lv_as (y := (nI (rA g sm + rB g (ms_sd (2 ^ gE g - 1) sm)))) (nI_add _ _) ?_
            refine lv_aload_n hx hb dX6_witness_64 rfl (lv_at hl 0 rfl) ?_
            refine va_get (D := D) (ci := 5) (v := .int (nI (mo g (2 ^ gE g)))) (C := RX6) (T := TX6) (N := 16) hx hb hts inX6 hown hK.1 hP 0 rfl rfl 13 (by decide) (hts (.fieldLink RX6 70 "ColourForestsModel" "most" "I") (List.mem_of_getElem? (i := 4) rfl)) (fun _ h9 => h9) rfl dX6_witness_65 ?_
            refine n_ne (a := (rA g sm + rB g (ms_sd (2 ^ gE g - 1) sm))) (b := (mo g (2 ^ gE g))) (tgt := 83) hx hb dX6_witness_68 (by decide) (by omega) (by omega) (fun c68 => ?_) (fun c68 => ?_)
            · refine lv_iinc (v := (nI (sm + 1))) (lv' := [(5, .int (nI (sm + 1))), (0, .ref (ad 20)), (1, .int (nI k9)), (2, .int (nI (2 ^ gE g - 1))), (3, .int (nI (wAnd (wP g) (gE g) sm))), (4, .int (nI (wOr (wP g) sm)))]) hx hb dX6_witness_83 hl (k := 5) rfl (ni_inc _) (by decide) rfl (fun ls hl => ?_)
              refine lv_goto (tgt := 37) hx hb dX6_witness_86 (by decide) ?_
              exact ih37 (sm + 1) ⟨by omega, by omega⟩  _ _ hP hD hS _ (by first | (rw [wAnd_y (show wP g sm = true from decide_eq_true c68), wOr_y (show wP g sm = true from decide_eq_true c68)]; exact lv_sub hl [1, 2, 3, 4, 5, 0] rfl) | (rw [wAnd_n (show wP g sm = false from decide_eq_false c68), wOr_n (show wP g sm = false from decide_eq_false c68)]; exact lv_sub hl [1, 2, 3, 4, 5, 0] rfl))
            · refine lv_iload_n hx hb dX6_witness_71 rfl (lv_at hl 3 rfl) ?_
              refine lv_iload hx hb dX6_witness_72 (lv_at hl 5 rfl) ?_
              refine lv_iand hx hb dX6_witness_74 ?_
              refine lv_as (y := (nI ((wAnd (wP g) (gE g) sm) &&& sm))) (ni_and _ _) ?_
              refine lv_istore_n (lv' := [(3, .int (nI ((wAnd (wP g) (gE g) sm) &&& sm))), (0, .ref (ad 20)), (1, .int (nI k9)), (2, .int (nI (2 ^ gE g - 1))), (4, .int (nI (wOr (wP g) sm))), (5, .int (nI sm))]) hx hb dX6_witness_75 rfl hl (by decide) rfl (fun ls hl => ?_)
              refine lv_iload hx hb dX6_witness_76 (lv_at hl 4 rfl) ?_
              refine lv_iload hx hb dX6_witness_78 (lv_at hl 5 rfl) ?_
              refine lv_ior hx hb dX6_witness_80 ?_
              refine lv_as (y := (nI ((wOr (wP g) sm) ||| sm))) (ni_or _ _) ?_
              refine lv_istore (lv' := [(4, .int (nI ((wOr (wP g) sm) ||| sm))), (3, .int (nI ((wAnd (wP g) (gE g) sm) &&& sm))), (0, .ref (ad 20)), (1, .int (nI k9)), (2, .int (nI (2 ^ gE g - 1))), (5, .int (nI sm))]) hx hb dX6_witness_81 hl (by decide) rfl (fun ls hl => ?_)
              refine lv_iinc (v := (nI (sm + 1))) (lv' := [(5, .int (nI (sm + 1))), (4, .int (nI ((wOr (wP g) sm) ||| sm))), (3, .int (nI ((wAnd (wP g) (gE g) sm) &&& sm))), (0, .ref (ad 20)), (1, .int (nI k9)), (2, .int (nI (2 ^ gE g - 1)))]) hx hb dX6_witness_83 hl (k := 5) rfl (ni_inc _) (by decide) rfl (fun ls hl => ?_)
              refine lv_goto (tgt := 37) hx hb dX6_witness_86 (by decide) ?_
              exact ih37 (sm + 1) ⟨by omega, by omega⟩  _ _ hP hD hS _ (by first | (rw [wAnd_y (show wP g sm = true from decide_eq_true c68), wOr_y (show wP g sm = true from decide_eq_true c68)]; exact lv_sub hl [3, 4, 5, 2, 1, 0] rfl) | (rw [wAnd_n (show wP g sm = false from decide_eq_false c68), wOr_n (show wP g sm = false from decide_eq_false c68)]; exact lv_sub hl [3, 4, 5, 2, 1, 0] rfl))
      exact L37 (2 ^ gE g + 1) 0 ⟨Nat.zero_le _, by omega⟩  _ _ hP hD hS _ (lv_sub hl [4, 5, 3, 2, 1, 0] rfl)
    · exact absurd c11 (by omega)

set_option maxHeartbeats 4000000 in
set_option maxRecDepth 100000 in
theorem c_X6_check (l : Launch) (D : va_G) (cy : Nat → ClassId) (ad : Nat → Nat) (g : GT) (th kn ms : Int32) : WI l yX6_check wsX6_check ({ frames := 0, cells := 0, slots := 0, locals := 0 }) D cy [.ref (ad 20)] [(ad 20, .inr (5, [.int th, .int (nI (gV g)), .int (nI (gC g)), .int (nI (gE g)), .ref (ad 21), .ref (ad 22), .ref (ad 23), .ref (ad 24), .ref (ad 25), .int kn, .ref (ad 26), .ref (ad 27), .ref (ad 28), .int ms, .ref (ad 29), .ref (ad 30)]))] (fun (r : Int32) (_ : Unit) => r = nI 1) (fun _ : Unit => [(ad 20, .inr (5, [.int (nI 0), .int (nI (gV g)), .int (nI (gC g)), .int (nI (gE g)), .ref (ad 21), .ref (ad 22), .ref (ad 23), .ref (ad 24), .ref (ad 25), .int kn, .ref (ad 26), .ref (ad 27), .ref (ad 28), .int ms, .ref (ad 29), .ref (ad 30)]))]) := by
  refine Met.ofW (cc := cX6_check) (maxL := 1) (ret := (some .int)) (by decide) rfl ?_
  intro p ev s m args below meth c s₁ B hml hv
  obtain ⟨rfl, ⟨hK, hP⟩, hD0⟩ := hv
  have hx := B.exec
  have hb := B.bytes
  have hr := B.returns
  have hts := atoms_spec (ws := wsX6_check) B.pre
  have hown : s.vm.findClass RX6 = some m.cls := findClass_of_methodNamed B.named
  have hlocks := B.notSynchronized
  have hD : va_D (inW [(ad 20, .inr (5, [.int th, .int (nI (gV g)), .int (nI (gC g)), .int (nI (gE g)), .ref (ad 21), .ref (ad 22), .ref (ad 23), .ref (ad 24), .ref (ad 25), .int kn, .ref (ad 26), .ref (ad 27), .ref (ad 28), .int ms, .ref (ad 29), .ref (ad 30)]))]) ([(ad 20, .inr (5, [.int th, .int (nI (gV g)), .int (nI (gC g)), .int (nI (gE g)), .ref (ad 21), .ref (ad 22), .ref (ad 23), .ref (ad 24), .ref (ad 25), .int kn, .ref (ad 26), .ref (ad 27), .ref (ad 28), .int ms, .ref (ad 29), .ref (ad 30)]))]) := inW_self hD0
  have hS : va_S (inW [(ad 20, .inr (5, [.int th, .int (nI (gV g)), .int (nI (gC g)), .int (nI (gE g)), .ref (ad 21), .ref (ad 22), .ref (ad 23), .ref (ad 24), .ref (ad 25), .int kn, .ref (ad 26), .ref (ad 27), .ref (ad 28), .int ms, .ref (ad 29), .ref (ad 30)]))]) s.heap s.heap [] := va_S.rf
  have hP : va_P D vwCl [(ad 20, .inr (5, [.int th, .int (nI (gV g)), .int (nI (gC g)), .int (nI (gE g)), .ref (ad 21), .ref (ad 22), .ref (ad 23), .ref (ad 24), .ref (ad 25), .int kn, .ref (ad 26), .ref (ad 27), .ref (ad 28), .int ms, .ref (ad 29), .ref (ad 30)]))] s.heap := hP
  have inX6 : ∀ w ∈ wsX60, w ∈ wsX6_check := by decide +kernel
  have hl := lv_entry ([.ref (ad 20)]) (n := 1) (Nat.le_of_ble_eq_true rfl)
  rw [lg_entry_eq]
  generalize (lg_sl ([.ref (ad 20)]) ++ List.replicate (1 - (lg_sl ([.ref (ad 20)])).length) Slot.unset).toArray = ls at hl ⊢
  have hl : lv_has ls 1 [(0, .ref (ad 20))] := hl
  have hgen := True.intro
  refine lv_aload_n hx hb dX6_check_0 rfl (lv_at hl 0 rfl) ?_
  refine lv_iconst (v := nI 0) hx hb dX6_check_1 (by decide) ?_
  refine va_put (D := D) (ci := 5) (v := .int (nI 0)) (ty := .int) (C := RX6) (T := TX6) (N := 16) hx hb hts inX6 tyX6 tyX6_ok nmX6 hown hK.1 hP hD hS 0 rfl rfl 0 (by decide) (hts (.fieldLink RX6 49 "ColourForestsModel" "thrown" "I") (List.mem_of_getElem? (i := 1) rfl)) (fun _ h9 => h9) rfl (by decide +kernel) rfl rfl (Nat.le_of_ble_eq_true rfl) dX6_check_2 (fun H locs hP hD hS => ?_)
  have hP : va_P D vwCl [(ad 20, .inr (5, [.int (nI 0), .int (nI (gV g)), .int (nI (gC g)), .int (nI (gE g)), .ref (ad 21), .ref (ad 22), .ref (ad 23), .ref (ad 24), .ref (ad 25), .int kn, .ref (ad 26), .ref (ad 27), .ref (ad 28), .int ms, .ref (ad 29), .ref (ad 30)]))] H := hP
  have hD : va_D (inW [(ad 20, .inr (5, [.int th, .int (nI (gV g)), .int (nI (gC g)), .int (nI (gE g)), .ref (ad 21), .ref (ad 22), .ref (ad 23), .ref (ad 24), .ref (ad 25), .int kn, .ref (ad 26), .ref (ad 27), .ref (ad 28), .int ms, .ref (ad 29), .ref (ad 30)]))]) [(ad 20, .inr (5, [.int (nI 0), .int (nI (gV g)), .int (nI (gC g)), .int (nI (gE g)), .ref (ad 21), .ref (ad 22), .ref (ad 23), .ref (ad 24), .ref (ad 25), .int kn, .ref (ad 26), .ref (ad 27), .ref (ad 28), .int ms, .ref (ad 29), .ref (ad 30)]))] := hD
  refine lv_iconst (v := nI 1) hx hb dX6_check_5 (by decide) ?_
  exact wi_ret () hx hb hr hlocks hS hP rfl dX6_check_6

set_option maxHeartbeats 4000000 in
set_option maxRecDepth 100000 in
theorem c_X6_count_3 (l : Launch) (D : va_G) (cy : Nat → ClassId) (ad : Nat → Nat) {g : GT} (hg : gOK g) (th : Int32) {kb : Bool} {ms : Int32} {ff fr_ fb fp fc : Nat → Int32} (hv9 : kb = true → lrF g (2 ^ gE g) ff ∧ lrR g (2 ^ gE g) fr_ ∧ lrB g (2 ^ gE g) fb ∧ ms = nI (mo g (2 ^ gE g))) : WI l yX6_count wsX6_count ({ frames := 3, cells := 0, slots := 0, locals := 71 }) D cy [.ref (ad 20), .int (nI 3)] (wM cy ad g th (bI kb) ms ff fr_ fb fp fc) (fun (r : Int32) (u : (Nat → Int32) × (Nat → Int32) × (Nat → Int32) × (Nat → Int32) × (Nat → Int32)) => r = nI (nP (cfP g (rA g (2 ^ gE g - 1))) (2 ^ gE g)) ∧ lrF g (2 ^ gE g) u.1 ∧ lrR g (2 ^ gE g) u.2.1 ∧ lrB g (2 ^ gE g) u.2.2.1) (fun u : (Nat → Int32) × (Nat → Int32) × (Nat → Int32) × (Nat → Int32) × (Nat → Int32) => wM cy ad g (nI 0) (bI true) (nI (mo g (2 ^ gE g))) u.1 u.2.1 u.2.2.1 u.2.2.2.1 u.2.2.2.2) := by
  refine Met.ofW (cc := cX6_count) (maxL := 6) (ret := (some .int)) (by decide) rfl ?_
  intro p ev s m args below meth c s₁ B hml hv
  obtain ⟨rfl, ⟨hK, hP⟩, hD0⟩ := hv
  have hx := B.exec
  have hb := B.bytes
  have hr := B.returns
  have hts := atoms_spec (ws := wsX6_count) B.pre
  have hown : s.vm.findClass RX6 = some m.cls := findClass_of_methodNamed B.named
  have hlocks := B.notSynchronized
  have hD : va_D (inW (wM cy ad g th (bI kb) ms ff fr_ fb fp fc)) (wM cy ad g th (bI kb) ms ff fr_ fb fp fc) := inW_self hD0
  have hS : va_S (inW (wM cy ad g th (bI kb) ms ff fr_ fb fp fc)) s.heap s.heap [] := va_S.rf
  have hP : va_P D vwCl (wM cy ad g th (bI kb) ms ff fr_ fb fp fc) s.heap := hP
  have inX6 : ∀ w ∈ wsX60, w ∈ wsX6_count := by decide +kernel
  have hl := lv_entry ([.ref (ad 20), .int (nI 3)]) (n := 6) (Nat.le_of_ble_eq_true rfl)
  rw [lg_entry_eq]
  generalize (lg_sl ([.ref (ad 20), .int (nI 3)]) ++ List.replicate (6 - (lg_sl ([.ref (ad 20), .int (nI 3)])).length) Slot.unset).toArray = ls at hl ⊢
  have hl : lv_has ls 6 [(0, .ref (ad 20)), (1, .int (nI 3))] := hl
  have hgen := True.intro
  have hE := hg.2.2.1
  have hV := hg.1
  have hC := hg.2.1
  have hS8 : 2 ^ gE g ≤ 2 ^ 14 := Nat.pow_le_pow_right (by decide) hE
  have hf1 := rA_le g (2 ^ gE g - 1)
  have hf2 := ms_full_lt (gE g)
  refine lv_aload_n hx hb dX6_count_0 rfl (lv_at hl 0 rfl) ?_
  refine lv_iconst (v := nI 0) hx hb dX6_count_1 (by decide) ?_
  refine va_put (D := D) (ci := 5) (v := .int (nI 0)) (ty := .int) (C := RX6) (T := TX6) (N := 16) hx hb hts inX6 tyX6 tyX6_ok nmX6 hown hK.1 hP hD hS 0 rfl rfl 0 (by decide) (hts (.fieldLink RX6 49 "ColourForestsModel" "thrown" "I") (List.mem_of_getElem? (i := 1) rfl)) (fun _ h9 => h9) rfl (by decide +kernel) rfl rfl (Nat.le_of_ble_eq_true rfl) dX6_count_2 (fun H locs hP hD hS => ?_)
  have hP : va_P D vwCl [(ad 20, .inr (5, [.int (nI 0), .int (nI (gV g)), .int (nI (gC g)), .int (nI (gE g)), .ref (ad 21), .ref (ad 22), .ref (ad 23), .ref (ad 24), .ref (ad 25), .int (bI kb), .ref (ad 26), .ref (ad 27), .ref (ad 28), .int ms, .ref (ad 29), .ref (ad 30)])), (ad 21, .inl (cy 0, 6, .inl (fun i => nI (gL g i)))), (ad 22, .inl (cy 0, 14, .inl (fun i => nI (gF g i)))), (ad 23, .inl (cy 0, 14, .inl (fun i => nI (gS g i)))), (ad 24, .inl (cy 0, 14, .inl (fun i => nI (gH g i)))), (ad 25, .inl (cy 0, 14, .inl (fun i => zI (gW g i)))), (ad 26, .inl (cy 1, 32768, .inl ff)), (ad 27, .inl (cy 0, 32768, .inl fr_)), (ad 28, .inl (cy 0, 15, .inl fb)), (ad 29, .inl (cy 0, 8, .inl fp)), (ad 30, .inl (cy 0, 6, .inl fc))] H := hP
  have hD : va_D (inW (wM cy ad g th (bI kb) ms ff fr_ fb fp fc)) [(ad 20, .inr (5, [.int (nI 0), .int (nI (gV g)), .int (nI (gC g)), .int (nI (gE g)), .ref (ad 21), .ref (ad 22), .ref (ad 23), .ref (ad 24), .ref (ad 25), .int (bI kb), .ref (ad 26), .ref (ad 27), .ref (ad 28), .int ms, .ref (ad 29), .ref (ad 30)])), (ad 21, .inl (cy 0, 6, .inl (fun i => nI (gL g i)))), (ad 22, .inl (cy 0, 14, .inl (fun i => nI (gF g i)))), (ad 23, .inl (cy 0, 14, .inl (fun i => nI (gS g i)))), (ad 24, .inl (cy 0, 14, .inl (fun i => nI (gH g i)))), (ad 25, .inl (cy 0, 14, .inl (fun i => zI (gW g i)))), (ad 26, .inl (cy 1, 32768, .inl ff)), (ad 27, .inl (cy 0, 32768, .inl fr_)), (ad 28, .inl (cy 0, 15, .inl fb)), (ad 29, .inl (cy 0, 8, .inl fp)), (ad 30, .inl (cy 0, 6, .inl fc))] := hD
  refine lv_aload_n hx hb dX6_count_5 rfl (lv_at hl 0 rfl) ?_
  refine wr_callv [0, 1, 2, 3, 4, 5, 6, 7, 8, 9, 10] (va_runV (As := []) (rest := []) ⟨hx, hb, hml, hown, hts⟩ (c_X6_learn l D cy ad hg ((nI 0)) (kb := kb) (ms := ms) (ff := ff) (fr_ := fr_) (fb := fb) (fp := fp) (fc := fc) hv9) (cwV 0 hts gX6_count_X6_learn rfl rfl rfl (by decide +kernel) ⟨Nat.le_of_ble_eq_true rfl, Nat.le_of_ble_eq_true rfl⟩) (WR_preV (ci := 5) (q0 := 0) hK hP hD rfl rfl [0, 1, 2, 3, 4, 5, 6, 7, 8, 9, 10] (by decide) rfl rfl) rfl rfl hl.1 rfl (lv_room (Nat.le_of_ble_eq_true rfl)) dX6_count_6 ⟨(Nat.zero_le _), (Nat.zero_le _)⟩) hS hP hD rfl (fun _ => rfl) (fun _ => rfl) (fun u6 H locs w6 hP hD hS => ?_)
  obtain ⟨hF, hR, hB⟩ := w6
  have hP : va_P D vwCl [(ad 20, .inr (5, [.int (nI 0), .int (nI (gV g)), .int (nI (gC g)), .int (nI (gE g)), .ref (ad 21), .ref (ad 22), .ref (ad 23), .ref (ad 24), .ref (ad 25), .int (bI true), .ref (ad 26), .ref (ad 27), .ref (ad 28), .int (nI (mo g (2 ^ gE g))), .ref (ad 29), .ref (ad 30)])), (ad 21, .inl (cy 0, 6, .inl (fun i => nI (gL g i)))), (ad 22, .inl (cy 0, 14, .inl (fun i => nI (gF g i)))), (ad 23, .inl (cy 0, 14, .inl (fun i => nI (gS g i)))), (ad 24, .inl (cy 0, 14, .inl (fun i => nI (gH g i)))), (ad 25, .inl (cy 0, 14, .inl (fun i => zI (gW g i)))), (ad 26, .inl (cy 1, 32768, .inl u6.1)), (ad 27, .inl (cy 0, 32768, .inl u6.2.1)), (ad 28, .inl (cy 0, 15, .inl u6.2.2.1)), (ad 29, .inl (cy 0, 8, .inl u6.2.2.2.1)), (ad 30, .inl (cy 0, 6, .inl u6.2.2.2.2))] H := hP
  have hD : va_D (inW (wM cy ad g th (bI kb) ms ff fr_ fb fp fc)) [(ad 20, .inr (5, [.int (nI 0), .int (nI (gV g)), .int (nI (gC g)), .int (nI (gE g)), .ref (ad 21), .ref (ad 22), .ref (ad 23), .ref (ad 24), .ref (ad 25), .int (bI true), .ref (ad 26), .ref (ad 27), .ref (ad 28), .int (nI (mo g (2 ^ gE g))), .ref (ad 29), .ref (ad 30)])), (ad 21, .inl (cy 0, 6, .inl (fun i => nI (gL g i)))), (ad 22, .inl (cy 0, 14, .inl (fun i => nI (gF g i)))), (ad 23, .inl (cy 0, 14, .inl (fun i => nI (gS g i)))), (ad 24, .inl (cy 0, 14, .inl (fun i => nI (gH g i)))), (ad 25, .inl (cy 0, 14, .inl (fun i => zI (gW g i)))), (ad 26, .inl (cy 1, 32768, .inl u6.1)), (ad 27, .inl (cy 0, 32768, .inl u6.2.1)), (ad 28, .inl (cy 0, 15, .inl u6.2.2.1)), (ad 29, .inl (cy 0, 8, .inl u6.2.2.2.1)), (ad 30, .inl (cy 0, 6, .inl u6.2.2.2.2))] := hD
  refine lv_iconst (v := nI 0) hx hb dX6_count_9 (by decide) ?_
  refine lv_istore_n (lv' := [(2, .int (nI 0)), (0, .ref (ad 20)), (1, .int (nI 3))]) hx hb dX6_count_10 rfl hl (by decide) rfl (fun ls hl => ?_)
  refine lv_aload_n hx hb dX6_count_11 rfl (lv_at hl 1 rfl) ?_
  refine va_get (D := D) (ci := 5) (v := .ref (ad 27)) (C := RX6) (T := TX6) (N := 16) hx hb hts inX6 hown hK.1 hP 0 rfl rfl 11 (by decide) (hts (.fieldLink RX6 37 "ColourForestsModel" "ranks" "[I") (List.mem_of_getElem? (i := 2) rfl)) (fun _ h9 => h9) rfl dX6_count_12 ?_
  refine lv_iconst (v := nI 1) hx hb dX6_count_15 (by decide) ?_
  refine lv_aload_n hx hb dX6_count_16 rfl (lv_at hl 1 rfl) ?_
  refine va_get (D := D) (ci := 5) (v := .int (nI (gE g))) (C := RX6) (T := TX6) (N := 16) hx hb hts inX6 hown hK.1 hP 0 rfl rfl 3 (by decide) (hts (.fieldLink RX6 56 "ColourForestsModel" "edges" "I") (List.mem_of_getElem? (i := 3) rfl)) (fun _ h9 => h9) rfl dX6_count_17 ?_
  refine lv_ishl hx hb dX6_count_20 ?_
  refine lv_as (y := (nI (2 ^ (gE g)))) (ni_bit (by omega)) ?_
  refine lv_iconst (v := nI 1) hx hb dX6_count_21 (by decide) ?_
  refine lv_isub hx hb dX6_count_22 ?_
  refine lv_as (y := (nI ((2 ^ (gE g)) - 1))) (ni_sub (by omega)) ?_
  refine rd_i (k := ((2 ^ (gE g)) - 1)) (v := (nI (rA g (2 ^ gE g - 1)))) hx hb hK hP 7 rfl (by omega) (by decide) (lrR_at0 hR hf2) dX6_count_23 ?_
  refine lv_istore_n (lv' := [(3, .int (nI (rA g (2 ^ gE g - 1)))), (2, .int (nI 0)), (0, .ref (ad 20)), (1, .int (nI 3))]) hx hb dX6_count_24 rfl hl (by decide) rfl (fun ls hl => ?_)
  refine lv_iconst (v := nI 0) hx hb dX6_count_25 (by decide) ?_
  refine lv_istore (lv' := [(4, .int (nI 0)), (3, .int (nI (rA g (2 ^ gE g - 1)))), (2, .int (nI 0)), (0, .ref (ad 20)), (1, .int (nI 3))]) hx hb dX6_count_26 hl (by decide) rfl (fun ls hl => ?_)
  have L28 : ∀ (n : Nat) (sm : Nat), sm ≤ 2 ^ gE g ∧ 2 ^ gE g + 1 ≤ sm + n → ∀ (H : Heap) (locs : List Loc), va_P D vwCl [(ad 20, .inr (5, [.int (nI 0), .int (nI (gV g)), .int (nI (gC g)), .int (nI (gE g)), .ref (ad 21), .ref (ad 22), .ref (ad 23), .ref (ad 24), .ref (ad 25), .int (bI true), .ref (ad 26), .ref (ad 27), .ref (ad 28), .int (nI (mo g (2 ^ gE g))), .ref (ad 29), .ref (ad 30)])), (ad 21, .inl (cy 0, 6, .inl (fun i => nI (gL g i)))), (ad 22, .inl (cy 0, 14, .inl (fun i => nI (gF g i)))), (ad 23, .inl (cy 0, 14, .inl (fun i => nI (gS g i)))), (ad 24, .inl (cy 0, 14, .inl (fun i => nI (gH g i)))), (ad 25, .inl (cy 0, 14, .inl (fun i => zI (gW g i)))), (ad 26, .inl (cy 1, 32768, .inl u6.1)), (ad 27, .inl (cy 0, 32768, .inl u6.2.1)), (ad 28, .inl (cy 0, 15, .inl u6.2.2.1)), (ad 29, .inl (cy 0, 8, .inl u6.2.2.2.1)), (ad 30, .inl (cy 0, 6, .inl u6.2.2.2.2))] H → va_D (inW (wM cy ad g th (bI kb) ms ff fr_ fb fp fc)) [(ad 20, .inr (5, [.int (nI 0), .int (nI (gV g)), .int (nI (gC g)), .int (nI (gE g)), .ref (ad 21), .ref (ad 22), .ref (ad 23), .ref (ad 24), .ref (ad 25), .int (bI true), .ref (ad 26), .ref (ad 27), .ref (ad 28), .int (nI (mo g (2 ^ gE g))), .ref (ad 29), .ref (ad 30)])), (ad 21, .inl (cy 0, 6, .inl (fun i => nI (gL g i)))), (ad 22, .inl (cy 0, 14, .inl (fun i => nI (gF g i)))), (ad 23, .inl (cy 0, 14, .inl (fun i => nI (gS g i)))), (ad 24, .inl (cy 0, 14, .inl (fun i => nI (gH g i)))), (ad 25, .inl (cy 0, 14, .inl (fun i => zI (gW g i)))), (ad 26, .inl (cy 1, 32768, .inl u6.1)), (ad 27, .inl (cy 0, 32768, .inl u6.2.1)), (ad 28, .inl (cy 0, 15, .inl u6.2.2.1)), (ad 29, .inl (cy 0, 8, .inl u6.2.2.2.1)), (ad 30, .inl (cy 0, 6, .inl u6.2.2.2.2))] → va_S (inW (wM cy ad g th (bI kb) ms ff fr_ fb fp fc)) s.heap H locs → ∀ (ls : Array Slot), lv_has ls 6 [(0, .ref (ad 20)), (1, .int (nI 3)), (2, .int (nI (nP (cfP g (rA g (2 ^ gE g - 1))) sm))), (3, .int (nI (rA g (2 ^ gE g - 1)))), (4, .int (nI sm))] → W p l ev (headSpec wsX6_count ({ frames := 3, cells := 0, slots := 0, locals := 71 })).room s m [.ref (ad 20), .int (nI 3)].toArray below meth c H locs 0 0 (MQ below (va_Qi (fun (r : Int32) (u : (Nat → Int32) × (Nat → Int32) × (Nat → Int32) × (Nat → Int32) × (Nat → Int32)) => r = nI (nP (cfP g (rA g (2 ^ gE g - 1))) (2 ^ gE g)) ∧ lrF g (2 ^ gE g) u.1 ∧ lrR g (2 ^ gE g) u.2.1 ∧ lrB g (2 ^ gE g) u.2.2.1) (fun u t => va_P D vwCl ((fun u : (Nat → Int32) × (Nat → Int32) × (Nat → Int32) × (Nat → Int32) × (Nat → Int32) => wM cy ad g (nI 0) (bI true) (nI (mo g (2 ^ gE g))) u.1 u.2.1 u.2.2.1 u.2.2.2.1 u.2.2.2.2) u) t.heap) (inW (wM cy ad g th (bI kb) ms ff fr_ fb fp fc))) [.ref (ad 20), .int (nI 3)].toArray s 0 0 (inW (wM cy ad g th (bI kb) ms ff fr_ fb fp fc))) (F0 m 28 ls []) := by
    intro n
    induction n with
    | zero =>
      intro sm hfuel  H locs hP hD hS ls hl
      exact absurd hfuel.2 (by have := hfuel.1; omega)
    | succ n ih28 =>
      intro sm hfuel  H locs hP hD hS ls hl
      obtain ⟨hfu1, hfu2⟩ := hfuel
      have hnp := nP_le (cfP g (rA g (2 ^ gE g - 1))) sm
      have hcd := ms_card_le 14 sm
      refine lv_iload hx hb dX6_count_28 (lv_at hl 4 rfl) ?_
      refine lv_iconst (v := nI 1) hx hb dX6_count_30 (by decide) ?_
      refine lv_aload_n hx hb dX6_count_31 rfl (lv_at hl 0 rfl) ?_
      refine va_get (D := D) (ci := 5) (v := .int (nI (gE g))) (C := RX6) (T := TX6) (N := 16) hx hb hts inX6 hown hK.1 hP 0 rfl rfl 3 (by decide) (hts (.fieldLink RX6 56 "ColourForestsModel" "edges" "I") (List.mem_of_getElem? (i := 3) rfl)) (fun _ h9 => h9) rfl dX6_count_32 ?_
      refine lv_ishl hx hb dX6_count_35 ?_
      refine lv_as (y := (nI (2 ^ (gE g)))) (ni_bit (by omega)) ?_
      refine n_ge (a := sm) (b := (2 ^ (gE g))) (tgt := 121) hx hb dX6_count_36 (by decide) (by omega) (by omega) (fun c36 => ?_) (fun c36 => ?_)
      · refine lv_iload_n hx hb dX6_count_121 rfl (lv_at hl 1 rfl) ?_
          refine lv_tableIn (off := 49) (tgt := 171) hx hb dX6_count_122 (by decide) (by decide) (by decide) (by decide) ?_
          refine lv_iload_n hx hb dX6_count_171 rfl (lv_at hl 2 rfl) ?_
          exact wi_ret u6 hx hb hr hlocks hS hP ⟨(by rw [show sm = 2 ^ gE g by omega]), hF, hR, hB⟩ dX6_count_172
      · refine lv_iload_n hx hb dX6_count_39 rfl (lv_at hl 1 rfl) ?_
        refine lv_iconst (v := nI 3) hx hb dX6_count_40 (by decide) ?_
        refine n_ne (a := 3) (b := 3) (tgt := 71) hx hb dX6_count_41 (by decide) (by omega) (by omega) (fun c41 => ?_) (fun c41 => ?_)
        · exact absurd rfl c41
        · refine lv_aload_n hx hb dX6_count_44 rfl (lv_at hl 0 rfl) ?_
          refine va_get (D := D) (ci := 5) (v := .ref (ad 26)) (C := RX6) (T := TX6) (N := 16) hx hb hts inX6 hown hK.1 hP 0 rfl rfl 10 (by decide) (hts (.fieldLink RX6 33 "ColourForestsModel" "free" "[Z") (List.mem_of_getElem? (i := 4) rfl)) (fun _ h9 => h9) rfl dX6_count_45 ?_
          refine lv_iload hx hb dX6_count_48 (lv_at hl 4 rfl) ?_
          refine rd_z (k := sm) (v := (bI (fr g sm))) hx hb hK hP 6 rfl (by omega) (by decide) (lrF_at0 hF (by omega)) dX6_count_50 ?_
          refine b_eq (b := (fr g sm)) (tgt := 67) hx hb dX6_count_51 (by decide) (fun c51 => ?_) (fun c51 => ?_)
          · refine lv_iconst (v := nI 0) hx hb dX6_count_67 (by decide) ?_
            refine lv_goto (tgt := 100) hx hb dX6_count_68 (by decide) ?_
            refine lv_istore (lv' := [(5, .int (nI 0)), (0, .ref (ad 20)), (1, .int (nI 3)), (2, .int (nI (nP (cfP g (rA g (2 ^ gE g - 1))) sm))), (3, .int (nI (rA g (2 ^ gE g - 1)))), (4, .int (nI sm))]) hx hb dX6_count_100 hl (by decide) rfl (fun ls hl => ?_)
            refine lv_iload_n hx hb dX6_count_102 rfl (lv_at hl 3 rfl) ?_
            refine lv_iload hx hb dX6_count_103 (lv_at hl 0 rfl) ?_
            refine lv_if_eq (tgt := 112) hx hb dX6_count_105 (by decide) (fun c105 => ?_) (fun c105 => ?_)
            · refine lv_iconst (v := nI 0) hx hb dX6_count_112 (by decide) ?_
              refine lv_iadd hx hb dX6_count_113 ?_
              refine lv_as (y := (nI (nP (cfP g (rA g (2 ^ gE g - 1))) (sm + 1)))) (by rw [nI_add]; congr 1; first | exact (nP_n (cfP_f (Or.inl c51))).symm | exact (nP_n (cfP_f (Or.inr c60))).symm) ?_
              refine lv_istore_n (lv' := [(2, .int (nI (nP (cfP g (rA g (2 ^ gE g - 1))) (sm + 1)))), (5, .int (nI 0)), (0, .ref (ad 20)), (1, .int (nI 3)), (3, .int (nI (rA g (2 ^ gE g - 1)))), (4, .int (nI sm))]) hx hb dX6_count_114 rfl hl (by decide) rfl (fun ls hl => ?_)
              refine lv_iinc (v := (nI (sm + 1))) (lv' := [(4, .int (nI (sm + 1))), (2, .int (nI (nP (cfP g (rA g (2 ^ gE g - 1))) (sm + 1)))), (5, .int (nI 0)), (0, .ref (ad 20)), (1, .int (nI 3)), (3, .int (nI (rA g (2 ^ gE g - 1))))]) hx hb dX6_count_115 hl (k := 5) rfl (ni_inc _) (by decide) rfl (fun ls hl => ?_)
              refine lv_goto (tgt := 28) hx hb dX6_count_118 (by decide) ?_
              exact ih28 (sm + 1) ⟨by omega, by omega⟩  _ _ hP hD hS _ (lv_sub hl [3, 4, 1, 5, 0] rfl)
            · exact absurd (by decide) c105
          · refine lv_iload hx hb dX6_count_54 (lv_at hl 4 rfl) ?_
            refine pu_call (va_runS (As := [.int (nI sm)]) (rest := []) ⟨hx, hb, hml, hown, hts⟩ (c_X6_size l D cy (S := sm) (by omega)) (va_cwS 1 hts gX6_count_X6_size rfl rfl rfl (by decide +kernel) ⟨Nat.le_of_ble_eq_true rfl, Nat.le_of_ble_eq_true rfl⟩) (PU_preS hK hP [] rfl) rfl rfl hl.1 rfl (lv_room (Nat.le_of_ble_eq_true rfl)) dX6_count_56 ⟨(Nat.zero_le _), (Nat.zero_le _)⟩) hS hP (fun H locs hP hS => ?_)
            refine lv_iload_n hx hb dX6_count_59 rfl (lv_at hl 3 rfl) ?_
            refine n_ne (a := (ms_card 14 sm)) (b := (rA g (2 ^ gE g - 1))) (tgt := 67) hx hb dX6_count_60 (by decide) (by omega) (by omega) (fun c60 => ?_) (fun c60 => ?_)
            · refine lv_iconst (v := nI 0) hx hb dX6_count_67 (by decide) ?_
              refine lv_goto (tgt := 100) hx hb dX6_count_68 (by decide) ?_
              refine lv_istore (lv' := [(5, .int (nI 0)), (0, .ref (ad 20)), (1, .int (nI 3)), (2, .int (nI (nP (cfP g (rA g (2 ^ gE g - 1))) sm))), (3, .int (nI (rA g (2 ^ gE g - 1)))), (4, .int (nI sm))]) hx hb dX6_count_100 hl (by decide) rfl (fun ls hl => ?_)
              refine lv_iload_n hx hb dX6_count_102 rfl (lv_at hl 3 rfl) ?_
              refine lv_iload hx hb dX6_count_103 (lv_at hl 0 rfl) ?_
              refine lv_if_eq (tgt := 112) hx hb dX6_count_105 (by decide) (fun c105 => ?_) (fun c105 => ?_)
              · refine lv_iconst (v := nI 0) hx hb dX6_count_112 (by decide) ?_
                refine lv_iadd hx hb dX6_count_113 ?_
                refine lv_as (y := (nI (nP (cfP g (rA g (2 ^ gE g - 1))) (sm + 1)))) (by rw [nI_add]; congr 1; first | exact (nP_n (cfP_f (Or.inl c51))).symm | exact (nP_n (cfP_f (Or.inr c60))).symm) ?_
                refine lv_istore_n (lv' := [(2, .int (nI (nP (cfP g (rA g (2 ^ gE g - 1))) (sm + 1)))), (5, .int (nI 0)), (0, .ref (ad 20)), (1, .int (nI 3)), (3, .int (nI (rA g (2 ^ gE g - 1)))), (4, .int (nI sm))]) hx hb dX6_count_114 rfl hl (by decide) rfl (fun ls hl => ?_)
                refine lv_iinc (v := (nI (sm + 1))) (lv' := [(4, .int (nI (sm + 1))), (2, .int (nI (nP (cfP g (rA g (2 ^ gE g - 1))) (sm + 1)))), (5, .int (nI 0)), (0, .ref (ad 20)), (1, .int (nI 3)), (3, .int (nI (rA g (2 ^ gE g - 1))))]) hx hb dX6_count_115 hl (k := 5) rfl (ni_inc _) (by decide) rfl (fun ls hl => ?_)
                refine lv_goto (tgt := 28) hx hb dX6_count_118 (by decide) ?_
                exact ih28 (sm + 1) ⟨by omega, by omega⟩  _ _ hP hD hS _ (lv_sub hl [3, 4, 1, 5, 0] rfl)
              · exact absurd (by decide) c105
            · refine lv_iconst (v := nI 1) hx hb dX6_count_63 (by decide) ?_
              refine lv_goto (tgt := 100) hx hb dX6_count_64 (by decide) ?_
              refine lv_istore (lv' := [(5, .int (nI 1)), (0, .ref (ad 20)), (1, .int (nI 3)), (2, .int (nI (nP (cfP g (rA g (2 ^ gE g - 1))) sm))), (3, .int (nI (rA g (2 ^ gE g - 1)))), (4, .int (nI sm))]) hx hb dX6_count_100 hl (by decide) rfl (fun ls hl => ?_)
              refine lv_iload_n hx hb dX6_count_102 rfl (lv_at hl 3 rfl) ?_
              refine lv_iload hx hb dX6_count_103 (lv_at hl 0 rfl) ?_
              refine lv_if_eq (tgt := 112) hx hb dX6_count_105 (by decide) (fun c105 => ?_) (fun c105 => ?_)
              · exact absurd c105 (by decide)
              · refine lv_iconst (v := nI 1) hx hb dX6_count_108 (by decide) ?_
                refine lv_goto (tgt := 113) hx hb dX6_count_109 (by decide) ?_
                refine lv_iadd hx hb dX6_count_113 ?_
                refine lv_as (y := (nI (nP (cfP g (rA g (2 ^ gE g - 1))) (sm + 1)))) (by rw [nI_add]; congr 1; exact (nP_y (cfP_t c51 c60)).symm) ?_
                refine lv_istore_n (lv' := [(2, .int (nI (nP (cfP g (rA g (2 ^ gE g - 1))) (sm + 1)))), (5, .int (nI 1)), (0, .ref (ad 20)), (1, .int (nI 3)), (3, .int (nI (rA g (2 ^ gE g - 1)))), (4, .int (nI sm))]) hx hb dX6_count_114 rfl hl (by decide) rfl (fun ls hl => ?_)
                refine lv_iinc (v := (nI (sm + 1))) (lv' := [(4, .int (nI (sm + 1))), (2, .int (nI (nP (cfP g (rA g (2 ^ gE g - 1))) (sm + 1)))), (5, .int (nI 1)), (0, .ref (ad 20)), (1, .int (nI 3)), (3, .int (nI (rA g (2 ^ gE g - 1))))]) hx hb dX6_count_115 hl (k := 5) rfl (ni_inc _) (by decide) rfl (fun ls hl => ?_)
                refine lv_goto (tgt := 28) hx hb dX6_count_118 (by decide) ?_
                exact ih28 (sm + 1) ⟨by omega, by omega⟩  _ _ hP hD hS _ (lv_sub hl [3, 4, 1, 5, 0] rfl)
  exact L28 (2 ^ gE g + 1) 0 ⟨Nat.zero_le _, by omega⟩  _ _ hP hD hS _ (lv_sub hl [3, 4, 2, 1, 0] rfl)

set_option maxHeartbeats 4000000 in
set_option maxRecDepth 100000 in
theorem c_X6_count_o (l : Launch) (D : va_G) (cy : Nat → ClassId) (ad : Nat → Nat) {g : GT} (hg : gOK g) (th : Int32) {kb : Bool} {ms : Int32} {ff fr_ fb fp fc : Nat → Int32} (hv9 : kb = true → lrF g (2 ^ gE g) ff ∧ lrR g (2 ^ gE g) fr_ ∧ lrB g (2 ^ gE g) fb ∧ ms = nI (mo g (2 ^ gE g))) {x : Int32} (hx3 : ¬ x = nI 3) : WI l yX6_count wsX6_count ({ frames := 3, cells := 0, slots := 0, locals := 71 }) D cy [.ref (ad 20), .int x] (wM cy ad g th (bI kb) ms ff fr_ fb fp fc) (fun (r : Int32) (u : (Nat → Int32) × (Nat → Int32) × (Nat → Int32) × (Nat → Int32) × (Nat → Int32)) => r = coR g x ∧ lrF g (2 ^ gE g) u.1 ∧ lrR g (2 ^ gE g) u.2.1 ∧ lrB g (2 ^ gE g) u.2.2.1) (fun u : (Nat → Int32) × (Nat → Int32) × (Nat → Int32) × (Nat → Int32) × (Nat → Int32) => wM cy ad g (nI 0) (bI true) (nI (mo g (2 ^ gE g))) u.1 u.2.1 u.2.2.1 u.2.2.2.1 u.2.2.2.2) := by
  refine Met.ofW (cc := cX6_count) (maxL := 6) (ret := (some .int)) (by decide) rfl ?_
  intro p ev s m args below meth c s₁ B hml hv
  obtain ⟨rfl, ⟨hK, hP⟩, hD0⟩ := hv
  have hx := B.exec
  have hb := B.bytes
  have hr := B.returns
  have hts := atoms_spec (ws := wsX6_count) B.pre
  have hown : s.vm.findClass RX6 = some m.cls := findClass_of_methodNamed B.named
  have hlocks := B.notSynchronized
  have hD : va_D (inW (wM cy ad g th (bI kb) ms ff fr_ fb fp fc)) (wM cy ad g th (bI kb) ms ff fr_ fb fp fc) := inW_self hD0
  have hS : va_S (inW (wM cy ad g th (bI kb) ms ff fr_ fb fp fc)) s.heap s.heap [] := va_S.rf
  have hP : va_P D vwCl (wM cy ad g th (bI kb) ms ff fr_ fb fp fc) s.heap := hP
  have inX6 : ∀ w ∈ wsX60, w ∈ wsX6_count := by decide +kernel
  have hl := lv_entry ([.ref (ad 20), .int x]) (n := 6) (Nat.le_of_ble_eq_true rfl)
  rw [lg_entry_eq]
  generalize (lg_sl ([.ref (ad 20), .int x]) ++ List.replicate (6 - (lg_sl ([.ref (ad 20), .int x])).length) Slot.unset).toArray = ls at hl ⊢
  have hl : lv_has ls 6 [(0, .ref (ad 20)), (1, .int x)] := hl
  have hgen := True.intro
  have hE := hg.2.2.1
  have hV := hg.1
  have hC := hg.2.1
  have hS8 : 2 ^ gE g ≤ 2 ^ 14 := Nat.pow_le_pow_right (by decide) hE
  have hf1 := rA_le g (2 ^ gE g - 1)
  have hf2 := ms_full_lt (gE g)
  refine lv_aload_n hx hb dX6_count_0 rfl (lv_at hl 0 rfl) ?_
  refine lv_iconst (v := nI 0) hx hb dX6_count_1 (by decide) ?_
  refine va_put (D := D) (ci := 5) (v := .int (nI 0)) (ty := .int) (C := RX6) (T := TX6) (N := 16) hx hb hts inX6 tyX6 tyX6_ok nmX6 hown hK.1 hP hD hS 0 rfl rfl 0 (by decide) (hts (.fieldLink RX6 49 "ColourForestsModel" "thrown" "I") (List.mem_of_getElem? (i := 1) rfl)) (fun _ h9 => h9) rfl (by decide +kernel) rfl rfl (Nat.le_of_ble_eq_true rfl) dX6_count_2 (fun H locs hP hD hS => ?_)
  have hP : va_P D vwCl [(ad 20, .inr (5, [.int (nI 0), .int (nI (gV g)), .int (nI (gC g)), .int (nI (gE g)), .ref (ad 21), .ref (ad 22), .ref (ad 23), .ref (ad 24), .ref (ad 25), .int (bI kb), .ref (ad 26), .ref (ad 27), .ref (ad 28), .int ms, .ref (ad 29), .ref (ad 30)])), (ad 21, .inl (cy 0, 6, .inl (fun i => nI (gL g i)))), (ad 22, .inl (cy 0, 14, .inl (fun i => nI (gF g i)))), (ad 23, .inl (cy 0, 14, .inl (fun i => nI (gS g i)))), (ad 24, .inl (cy 0, 14, .inl (fun i => nI (gH g i)))), (ad 25, .inl (cy 0, 14, .inl (fun i => zI (gW g i)))), (ad 26, .inl (cy 1, 32768, .inl ff)), (ad 27, .inl (cy 0, 32768, .inl fr_)), (ad 28, .inl (cy 0, 15, .inl fb)), (ad 29, .inl (cy 0, 8, .inl fp)), (ad 30, .inl (cy 0, 6, .inl fc))] H := hP
  have hD : va_D (inW (wM cy ad g th (bI kb) ms ff fr_ fb fp fc)) [(ad 20, .inr (5, [.int (nI 0), .int (nI (gV g)), .int (nI (gC g)), .int (nI (gE g)), .ref (ad 21), .ref (ad 22), .ref (ad 23), .ref (ad 24), .ref (ad 25), .int (bI kb), .ref (ad 26), .ref (ad 27), .ref (ad 28), .int ms, .ref (ad 29), .ref (ad 30)])), (ad 21, .inl (cy 0, 6, .inl (fun i => nI (gL g i)))), (ad 22, .inl (cy 0, 14, .inl (fun i => nI (gF g i)))), (ad 23, .inl (cy 0, 14, .inl (fun i => nI (gS g i)))), (ad 24, .inl (cy 0, 14, .inl (fun i => nI (gH g i)))), (ad 25, .inl (cy 0, 14, .inl (fun i => zI (gW g i)))), (ad 26, .inl (cy 1, 32768, .inl ff)), (ad 27, .inl (cy 0, 32768, .inl fr_)), (ad 28, .inl (cy 0, 15, .inl fb)), (ad 29, .inl (cy 0, 8, .inl fp)), (ad 30, .inl (cy 0, 6, .inl fc))] := hD
  refine lv_aload_n hx hb dX6_count_5 rfl (lv_at hl 0 rfl) ?_
  refine wr_callv [0, 1, 2, 3, 4, 5, 6, 7, 8, 9, 10] (va_runV (As := []) (rest := []) ⟨hx, hb, hml, hown, hts⟩ (c_X6_learn l D cy ad hg ((nI 0)) (kb := kb) (ms := ms) (ff := ff) (fr_ := fr_) (fb := fb) (fp := fp) (fc := fc) hv9) (cwV 0 hts gX6_count_X6_learn rfl rfl rfl (by decide +kernel) ⟨Nat.le_of_ble_eq_true rfl, Nat.le_of_ble_eq_true rfl⟩) (WR_preV (ci := 5) (q0 := 0) hK hP hD rfl rfl [0, 1, 2, 3, 4, 5, 6, 7, 8, 9, 10] (by decide) rfl rfl) rfl rfl hl.1 rfl (lv_room (Nat.le_of_ble_eq_true rfl)) dX6_count_6 ⟨(Nat.zero_le _), (Nat.zero_le _)⟩) hS hP hD rfl (fun _ => rfl) (fun _ => rfl) (fun u6 H locs w6 hP hD hS => ?_)
  obtain ⟨hF, hR, hB⟩ := w6
  have hP : va_P D vwCl [(ad 20, .inr (5, [.int (nI 0), .int (nI (gV g)), .int (nI (gC g)), .int (nI (gE g)), .ref (ad 21), .ref (ad 22), .ref (ad 23), .ref (ad 24), .ref (ad 25), .int (bI true), .ref (ad 26), .ref (ad 27), .ref (ad 28), .int (nI (mo g (2 ^ gE g))), .ref (ad 29), .ref (ad 30)])), (ad 21, .inl (cy 0, 6, .inl (fun i => nI (gL g i)))), (ad 22, .inl (cy 0, 14, .inl (fun i => nI (gF g i)))), (ad 23, .inl (cy 0, 14, .inl (fun i => nI (gS g i)))), (ad 24, .inl (cy 0, 14, .inl (fun i => nI (gH g i)))), (ad 25, .inl (cy 0, 14, .inl (fun i => zI (gW g i)))), (ad 26, .inl (cy 1, 32768, .inl u6.1)), (ad 27, .inl (cy 0, 32768, .inl u6.2.1)), (ad 28, .inl (cy 0, 15, .inl u6.2.2.1)), (ad 29, .inl (cy 0, 8, .inl u6.2.2.2.1)), (ad 30, .inl (cy 0, 6, .inl u6.2.2.2.2))] H := hP
  have hD : va_D (inW (wM cy ad g th (bI kb) ms ff fr_ fb fp fc)) [(ad 20, .inr (5, [.int (nI 0), .int (nI (gV g)), .int (nI (gC g)), .int (nI (gE g)), .ref (ad 21), .ref (ad 22), .ref (ad 23), .ref (ad 24), .ref (ad 25), .int (bI true), .ref (ad 26), .ref (ad 27), .ref (ad 28), .int (nI (mo g (2 ^ gE g))), .ref (ad 29), .ref (ad 30)])), (ad 21, .inl (cy 0, 6, .inl (fun i => nI (gL g i)))), (ad 22, .inl (cy 0, 14, .inl (fun i => nI (gF g i)))), (ad 23, .inl (cy 0, 14, .inl (fun i => nI (gS g i)))), (ad 24, .inl (cy 0, 14, .inl (fun i => nI (gH g i)))), (ad 25, .inl (cy 0, 14, .inl (fun i => zI (gW g i)))), (ad 26, .inl (cy 1, 32768, .inl u6.1)), (ad 27, .inl (cy 0, 32768, .inl u6.2.1)), (ad 28, .inl (cy 0, 15, .inl u6.2.2.1)), (ad 29, .inl (cy 0, 8, .inl u6.2.2.2.1)), (ad 30, .inl (cy 0, 6, .inl u6.2.2.2.2))] := hD
  refine lv_iconst (v := nI 0) hx hb dX6_count_9 (by decide) ?_
  refine lv_istore_n (lv' := [(2, .int (nI 0)), (0, .ref (ad 20)), (1, .int x)]) hx hb dX6_count_10 rfl hl (by decide) rfl (fun ls hl => ?_)
  refine lv_aload_n hx hb dX6_count_11 rfl (lv_at hl 1 rfl) ?_
  refine va_get (D := D) (ci := 5) (v := .ref (ad 27)) (C := RX6) (T := TX6) (N := 16) hx hb hts inX6 hown hK.1 hP 0 rfl rfl 11 (by decide) (hts (.fieldLink RX6 37 "ColourForestsModel" "ranks" "[I") (List.mem_of_getElem? (i := 2) rfl)) (fun _ h9 => h9) rfl dX6_count_12 ?_
  refine lv_iconst (v := nI 1) hx hb dX6_count_15 (by decide) ?_
  refine lv_aload_n hx hb dX6_count_16 rfl (lv_at hl 1 rfl) ?_
  refine va_get (D := D) (ci := 5) (v := .int (nI (gE g))) (C := RX6) (T := TX6) (N := 16) hx hb hts inX6 hown hK.1 hP 0 rfl rfl 3 (by decide) (hts (.fieldLink RX6 56 "ColourForestsModel" "edges" "I") (List.mem_of_getElem? (i := 3) rfl)) (fun _ h9 => h9) rfl dX6_count_17 ?_
  refine lv_ishl hx hb dX6_count_20 ?_
  refine lv_as (y := (nI (2 ^ (gE g)))) (ni_bit (by omega)) ?_
  refine lv_iconst (v := nI 1) hx hb dX6_count_21 (by decide) ?_
  refine lv_isub hx hb dX6_count_22 ?_
  refine lv_as (y := (nI ((2 ^ (gE g)) - 1))) (ni_sub (by omega)) ?_
  refine rd_i (k := ((2 ^ (gE g)) - 1)) (v := (nI (rA g (2 ^ gE g - 1)))) hx hb hK hP 7 rfl (by omega) (by decide) (lrR_at0 hR hf2) dX6_count_23 ?_
  refine lv_istore_n (lv' := [(3, .int (nI (rA g (2 ^ gE g - 1)))), (2, .int (nI 0)), (0, .ref (ad 20)), (1, .int x)]) hx hb dX6_count_24 rfl hl (by decide) rfl (fun ls hl => ?_)
  refine lv_iconst (v := nI 0) hx hb dX6_count_25 (by decide) ?_
  refine lv_istore (lv' := [(4, .int (nI 0)), (3, .int (nI (rA g (2 ^ gE g - 1)))), (2, .int (nI 0)), (0, .ref (ad 20)), (1, .int x)]) hx hb dX6_count_26 hl (by decide) rfl (fun ls hl => ?_)
  have L28 : ∀ (n : Nat) (sm : Nat), sm ≤ 2 ^ gE g ∧ 2 ^ gE g + 1 ≤ sm + n → ∀ (H : Heap) (locs : List Loc), va_P D vwCl [(ad 20, .inr (5, [.int (nI 0), .int (nI (gV g)), .int (nI (gC g)), .int (nI (gE g)), .ref (ad 21), .ref (ad 22), .ref (ad 23), .ref (ad 24), .ref (ad 25), .int (bI true), .ref (ad 26), .ref (ad 27), .ref (ad 28), .int (nI (mo g (2 ^ gE g))), .ref (ad 29), .ref (ad 30)])), (ad 21, .inl (cy 0, 6, .inl (fun i => nI (gL g i)))), (ad 22, .inl (cy 0, 14, .inl (fun i => nI (gF g i)))), (ad 23, .inl (cy 0, 14, .inl (fun i => nI (gS g i)))), (ad 24, .inl (cy 0, 14, .inl (fun i => nI (gH g i)))), (ad 25, .inl (cy 0, 14, .inl (fun i => zI (gW g i)))), (ad 26, .inl (cy 1, 32768, .inl u6.1)), (ad 27, .inl (cy 0, 32768, .inl u6.2.1)), (ad 28, .inl (cy 0, 15, .inl u6.2.2.1)), (ad 29, .inl (cy 0, 8, .inl u6.2.2.2.1)), (ad 30, .inl (cy 0, 6, .inl u6.2.2.2.2))] H → va_D (inW (wM cy ad g th (bI kb) ms ff fr_ fb fp fc)) [(ad 20, .inr (5, [.int (nI 0), .int (nI (gV g)), .int (nI (gC g)), .int (nI (gE g)), .ref (ad 21), .ref (ad 22), .ref (ad 23), .ref (ad 24), .ref (ad 25), .int (bI true), .ref (ad 26), .ref (ad 27), .ref (ad 28), .int (nI (mo g (2 ^ gE g))), .ref (ad 29), .ref (ad 30)])), (ad 21, .inl (cy 0, 6, .inl (fun i => nI (gL g i)))), (ad 22, .inl (cy 0, 14, .inl (fun i => nI (gF g i)))), (ad 23, .inl (cy 0, 14, .inl (fun i => nI (gS g i)))), (ad 24, .inl (cy 0, 14, .inl (fun i => nI (gH g i)))), (ad 25, .inl (cy 0, 14, .inl (fun i => zI (gW g i)))), (ad 26, .inl (cy 1, 32768, .inl u6.1)), (ad 27, .inl (cy 0, 32768, .inl u6.2.1)), (ad 28, .inl (cy 0, 15, .inl u6.2.2.1)), (ad 29, .inl (cy 0, 8, .inl u6.2.2.2.1)), (ad 30, .inl (cy 0, 6, .inl u6.2.2.2.2))] → va_S (inW (wM cy ad g th (bI kb) ms ff fr_ fb fp fc)) s.heap H locs → ∀ (ls : Array Slot), lv_has ls 6 [(0, .ref (ad 20)), (1, .int x), (2, .int (nI (nP (co g) sm))), (3, .int (nI (rA g (2 ^ gE g - 1)))), (4, .int (nI sm))] → W p l ev (headSpec wsX6_count ({ frames := 3, cells := 0, slots := 0, locals := 71 })).room s m [.ref (ad 20), .int x].toArray below meth c H locs 0 0 (MQ below (va_Qi (fun (r : Int32) (u : (Nat → Int32) × (Nat → Int32) × (Nat → Int32) × (Nat → Int32) × (Nat → Int32)) => r = coR g x ∧ lrF g (2 ^ gE g) u.1 ∧ lrR g (2 ^ gE g) u.2.1 ∧ lrB g (2 ^ gE g) u.2.2.1) (fun u t => va_P D vwCl ((fun u : (Nat → Int32) × (Nat → Int32) × (Nat → Int32) × (Nat → Int32) × (Nat → Int32) => wM cy ad g (nI 0) (bI true) (nI (mo g (2 ^ gE g))) u.1 u.2.1 u.2.2.1 u.2.2.2.1 u.2.2.2.2) u) t.heap) (inW (wM cy ad g th (bI kb) ms ff fr_ fb fp fc))) [.ref (ad 20), .int x].toArray s 0 0 (inW (wM cy ad g th (bI kb) ms ff fr_ fb fp fc))) (F0 m 28 ls []) := by
    intro n
    induction n with
    | zero =>
      intro sm hfuel  H locs hP hD hS ls hl
      exact absurd hfuel.2 (by have := hfuel.1; omega)
    | succ n ih28 =>
      intro sm hfuel  H locs hP hD hS ls hl
      obtain ⟨hfu1, hfu2⟩ := hfuel
      have hnp := nP_le (co g) sm
      have hcd := ms_card_le 14 sm
      refine lv_iload hx hb dX6_count_28 (lv_at hl 4 rfl) ?_
      refine lv_iconst (v := nI 1) hx hb dX6_count_30 (by decide) ?_
      refine lv_aload_n hx hb dX6_count_31 rfl (lv_at hl 0 rfl) ?_
      refine va_get (D := D) (ci := 5) (v := .int (nI (gE g))) (C := RX6) (T := TX6) (N := 16) hx hb hts inX6 hown hK.1 hP 0 rfl rfl 3 (by decide) (hts (.fieldLink RX6 56 "ColourForestsModel" "edges" "I") (List.mem_of_getElem? (i := 3) rfl)) (fun _ h9 => h9) rfl dX6_count_32 ?_
      refine lv_ishl hx hb dX6_count_35 ?_
      refine lv_as (y := (nI (2 ^ (gE g)))) (ni_bit (by omega)) ?_
      refine n_ge (a := sm) (b := (2 ^ (gE g))) (tgt := 121) hx hb dX6_count_36 (by decide) (by omega) (by omega) (fun c36 => ?_) (fun c36 => ?_)
      · refine lv_iload_n hx hb dX6_count_121 rfl (lv_at hl 1 rfl) ?_
        rcases co_cases hx3 with q0 | ⟨q0, q1⟩ | ⟨q0, q1, q2⟩ | ⟨q0, q1, q2, q4⟩ | ⟨q0, q1, q2, q4, qo⟩
        · rw [show x = nI 0 from q0]
          refine lv_tableIn (off := 34) (tgt := 156) hx hb dX6_count_122 (by decide) (by decide) (by decide) (by decide) ?_
          refine lv_aload_n hx hb dX6_count_156 rfl (lv_at hl 0 rfl) ?_
          refine va_get (D := D) (ci := 5) (v := .int (nI (gV g))) (C := RX6) (T := TX6) (N := 16) hx hb hts inX6 hown hK.1 hP 0 rfl rfl 1 (by decide) (hts (.fieldLink RX6 7 "ColourForestsModel" "vertices" "I") (List.mem_of_getElem? (i := 5) rfl)) (fun _ h9 => h9) rfl dX6_count_157 ?_
          exact wi_ret u6 hx hb hr hlocks hS hP ⟨(by unfold coR; first | (rw [if_pos q0]) | (rw [if_neg q0, if_pos q1]) | (rw [if_neg q0, if_neg q1, if_pos q2]) | (rw [if_neg q0, if_neg q1, if_neg q2, if_pos q4, show sm = 2 ^ gE g by omega]) | (rw [if_neg q0, if_neg q1, if_neg q2, if_neg q4])), hF, hR, hB⟩ dX6_count_160
        · rw [show x = nI 1 from q1]
          refine lv_tableIn (off := 39) (tgt := 161) hx hb dX6_count_122 (by decide) (by decide) (by decide) (by decide) ?_
          refine lv_aload_n hx hb dX6_count_161 rfl (lv_at hl 0 rfl) ?_
          refine va_get (D := D) (ci := 5) (v := .int (nI (gC g))) (C := RX6) (T := TX6) (N := 16) hx hb hts inX6 hown hK.1 hP 0 rfl rfl 2 (by decide) (hts (.fieldLink RX6 13 "ColourForestsModel" "colours" "I") (List.mem_of_getElem? (i := 6) rfl)) (fun _ h9 => h9) rfl dX6_count_162 ?_
          exact wi_ret u6 hx hb hr hlocks hS hP ⟨(by unfold coR; first | (rw [if_pos q0]) | (rw [if_neg q0, if_pos q1]) | (rw [if_neg q0, if_neg q1, if_pos q2]) | (rw [if_neg q0, if_neg q1, if_neg q2, if_pos q4, show sm = 2 ^ gE g by omega]) | (rw [if_neg q0, if_neg q1, if_neg q2, if_neg q4])), hF, hR, hB⟩ dX6_count_165
        · rw [show x = nI 2 from q2]
          refine lv_tableIn (off := 44) (tgt := 166) hx hb dX6_count_122 (by decide) (by decide) (by decide) (by decide) ?_
          refine lv_aload_n hx hb dX6_count_166 rfl (lv_at hl 0 rfl) ?_
          refine va_get (D := D) (ci := 5) (v := .int (nI (gE g))) (C := RX6) (T := TX6) (N := 16) hx hb hts inX6 hown hK.1 hP 0 rfl rfl 3 (by decide) (hts (.fieldLink RX6 56 "ColourForestsModel" "edges" "I") (List.mem_of_getElem? (i := 3) rfl)) (fun _ h9 => h9) rfl dX6_count_167 ?_
          exact wi_ret u6 hx hb hr hlocks hS hP ⟨(by unfold coR; first | (rw [if_pos q0]) | (rw [if_neg q0, if_pos q1]) | (rw [if_neg q0, if_neg q1, if_pos q2]) | (rw [if_neg q0, if_neg q1, if_neg q2, if_pos q4, show sm = 2 ^ gE g by omega]) | (rw [if_neg q0, if_neg q1, if_neg q2, if_neg q4])), hF, hR, hB⟩ dX6_count_170
        · rw [show x = nI 4 from q4]
          refine lv_tableIn (off := 49) (tgt := 171) hx hb dX6_count_122 (by decide) (by decide) (by decide) (by decide) ?_
          refine lv_iload_n hx hb dX6_count_171 rfl (lv_at hl 2 rfl) ?_
          exact wi_ret u6 hx hb hr hlocks hS hP ⟨(by unfold coR; first | (rw [if_pos q0]) | (rw [if_neg q0, if_pos q1]) | (rw [if_neg q0, if_neg q1, if_pos q2]) | (rw [if_neg q0, if_neg q1, if_neg q2, if_pos q4, show sm = 2 ^ gE g by omega]) | (rw [if_neg q0, if_neg q1, if_neg q2, if_neg q4])), hF, hR, hB⟩ dX6_count_172
        · refine lv_tableOut (tgt := 173) hx hb dX6_count_122 qo (by decide) ?_
          refine lv_iconst (v := zI (-1)) hx hb dX6_count_173 (by decide) ?_
          exact wi_ret u6 hx hb hr hlocks hS hP ⟨(by unfold coR; first | (rw [if_pos q0]) | (rw [if_neg q0, if_pos q1]) | (rw [if_neg q0, if_neg q1, if_pos q2]) | (rw [if_neg q0, if_neg q1, if_neg q2, if_pos q4, show sm = 2 ^ gE g by omega]) | (rw [if_neg q0, if_neg q1, if_neg q2, if_neg q4])), hF, hR, hB⟩ dX6_count_174
      · refine lv_iload_n hx hb dX6_count_39 rfl (lv_at hl 1 rfl) ?_
        refine lv_iconst (v := nI 3) hx hb dX6_count_40 (by decide) ?_
        refine lv_icmp_ne (tgt := 71) hx hb dX6_count_41 (by decide) (fun c41 => ?_) (fun c41 => ?_)
        · refine lv_aload_n hx hb dX6_count_71 rfl (lv_at hl 0 rfl) ?_
          refine va_get (D := D) (ci := 5) (v := .ref (ad 26)) (C := RX6) (T := TX6) (N := 16) hx hb hts inX6 hown hK.1 hP 0 rfl rfl 10 (by decide) (hts (.fieldLink RX6 33 "ColourForestsModel" "free" "[Z") (List.mem_of_getElem? (i := 4) rfl)) (fun _ h9 => h9) rfl dX6_count_72 ?_
          refine lv_iload hx hb dX6_count_75 (lv_at hl 4 rfl) ?_
          refine rd_z (k := sm) (v := (bI (fr g sm))) hx hb hK hP 6 rfl (by omega) (by decide) (lrF_at0 hF (by omega)) dX6_count_77 ?_
          refine b_eq (b := (fr g sm)) (tgt := 99) hx hb dX6_count_78 (by decide) (fun c78 => ?_) (fun c78 => ?_)
          · refine lv_iconst (v := nI 0) hx hb dX6_count_99 (by decide) ?_
            refine lv_istore (lv' := [(5, .int (nI 0)), (0, .ref (ad 20)), (1, .int x), (2, .int (nI (nP (co g) sm))), (3, .int (nI (rA g (2 ^ gE g - 1)))), (4, .int (nI sm))]) hx hb dX6_count_100 hl (by decide) rfl (fun ls hl => ?_)
            refine lv_iload_n hx hb dX6_count_102 rfl (lv_at hl 3 rfl) ?_
            refine lv_iload hx hb dX6_count_103 (lv_at hl 0 rfl) ?_
            refine lv_if_eq (tgt := 112) hx hb dX6_count_105 (by decide) (fun c105 => ?_) (fun c105 => ?_)
            · refine lv_iconst (v := nI 0) hx hb dX6_count_112 (by decide) ?_
              refine lv_iadd hx hb dX6_count_113 ?_
              refine lv_as (y := (nI (nP (co g) (sm + 1)))) (by rw [nI_add]; congr 1; first | exact (nP_n (co_f (Or.inl c78))).symm | exact (nP_n (co_f (Or.inr c92))).symm) ?_
              refine lv_istore_n (lv' := [(2, .int (nI (nP (co g) (sm + 1)))), (5, .int (nI 0)), (0, .ref (ad 20)), (1, .int x), (3, .int (nI (rA g (2 ^ gE g - 1)))), (4, .int (nI sm))]) hx hb dX6_count_114 rfl hl (by decide) rfl (fun ls hl => ?_)
              refine lv_iinc (v := (nI (sm + 1))) (lv' := [(4, .int (nI (sm + 1))), (2, .int (nI (nP (co g) (sm + 1)))), (5, .int (nI 0)), (0, .ref (ad 20)), (1, .int x), (3, .int (nI (rA g (2 ^ gE g - 1))))]) hx hb dX6_count_115 hl (k := 5) rfl (ni_inc _) (by decide) rfl (fun ls hl => ?_)
              refine lv_goto (tgt := 28) hx hb dX6_count_118 (by decide) ?_
              exact ih28 (sm + 1) ⟨by omega, by omega⟩  _ _ hP hD hS _ (lv_sub hl [3, 4, 1, 5, 0] rfl)
            · exact absurd (by decide) c105
          · refine lv_aload_n hx hb dX6_count_81 rfl (lv_at hl 0 rfl) ?_
            refine va_get (D := D) (ci := 5) (v := .ref (ad 26)) (C := RX6) (T := TX6) (N := 16) hx hb hts inX6 hown hK.1 hP 0 rfl rfl 10 (by decide) (hts (.fieldLink RX6 33 "ColourForestsModel" "free" "[Z") (List.mem_of_getElem? (i := 4) rfl)) (fun _ h9 => h9) rfl dX6_count_82 ?_
            refine lv_sipush (v := nI 16384) hx hb dX6_count_85 (by decide) ?_
            refine lv_iload hx hb dX6_count_88 (lv_at hl 4 rfl) ?_
            refine lv_iadd hx hb dX6_count_90 ?_
            refine lv_as (y := (nI (16384 + sm))) (nI_add _ _) ?_
            refine rd_z (k := (16384 + sm)) (v := (bI (li g sm))) hx hb hK hP 6 rfl (by omega) (by decide) (lrF_at1 hF (by omega)) dX6_count_91 ?_
            refine b_eq (b := (li g sm)) (tgt := 99) hx hb dX6_count_92 (by decide) (fun c92 => ?_) (fun c92 => ?_)
            · refine lv_iconst (v := nI 0) hx hb dX6_count_99 (by decide) ?_
              refine lv_istore (lv' := [(5, .int (nI 0)), (0, .ref (ad 20)), (1, .int x), (2, .int (nI (nP (co g) sm))), (3, .int (nI (rA g (2 ^ gE g - 1)))), (4, .int (nI sm))]) hx hb dX6_count_100 hl (by decide) rfl (fun ls hl => ?_)
              refine lv_iload_n hx hb dX6_count_102 rfl (lv_at hl 3 rfl) ?_
              refine lv_iload hx hb dX6_count_103 (lv_at hl 0 rfl) ?_
              refine lv_if_eq (tgt := 112) hx hb dX6_count_105 (by decide) (fun c105 => ?_) (fun c105 => ?_)
              · refine lv_iconst (v := nI 0) hx hb dX6_count_112 (by decide) ?_
                refine lv_iadd hx hb dX6_count_113 ?_
                refine lv_as (y := (nI (nP (co g) (sm + 1)))) (by rw [nI_add]; congr 1; first | exact (nP_n (co_f (Or.inl c78))).symm | exact (nP_n (co_f (Or.inr c92))).symm) ?_
                refine lv_istore_n (lv' := [(2, .int (nI (nP (co g) (sm + 1)))), (5, .int (nI 0)), (0, .ref (ad 20)), (1, .int x), (3, .int (nI (rA g (2 ^ gE g - 1)))), (4, .int (nI sm))]) hx hb dX6_count_114 rfl hl (by decide) rfl (fun ls hl => ?_)
                refine lv_iinc (v := (nI (sm + 1))) (lv' := [(4, .int (nI (sm + 1))), (2, .int (nI (nP (co g) (sm + 1)))), (5, .int (nI 0)), (0, .ref (ad 20)), (1, .int x), (3, .int (nI (rA g (2 ^ gE g - 1))))]) hx hb dX6_count_115 hl (k := 5) rfl (ni_inc _) (by decide) rfl (fun ls hl => ?_)
                refine lv_goto (tgt := 28) hx hb dX6_count_118 (by decide) ?_
                exact ih28 (sm + 1) ⟨by omega, by omega⟩  _ _ hP hD hS _ (lv_sub hl [3, 4, 1, 5, 0] rfl)
              · exact absurd (by decide) c105
            · refine lv_iconst (v := nI 1) hx hb dX6_count_95 (by decide) ?_
              refine lv_goto (tgt := 100) hx hb dX6_count_96 (by decide) ?_
              refine lv_istore (lv' := [(5, .int (nI 1)), (0, .ref (ad 20)), (1, .int x), (2, .int (nI (nP (co g) sm))), (3, .int (nI (rA g (2 ^ gE g - 1)))), (4, .int (nI sm))]) hx hb dX6_count_100 hl (by decide) rfl (fun ls hl => ?_)
              refine lv_iload_n hx hb dX6_count_102 rfl (lv_at hl 3 rfl) ?_
              refine lv_iload hx hb dX6_count_103 (lv_at hl 0 rfl) ?_
              refine lv_if_eq (tgt := 112) hx hb dX6_count_105 (by decide) (fun c105 => ?_) (fun c105 => ?_)
              · exact absurd c105 (by decide)
              · refine lv_iconst (v := nI 1) hx hb dX6_count_108 (by decide) ?_
                refine lv_goto (tgt := 113) hx hb dX6_count_109 (by decide) ?_
                refine lv_iadd hx hb dX6_count_113 ?_
                refine lv_as (y := (nI (nP (co g) (sm + 1)))) (by rw [nI_add]; congr 1; exact (nP_y (co_yes c78 c92)).symm) ?_
                refine lv_istore_n (lv' := [(2, .int (nI (nP (co g) (sm + 1)))), (5, .int (nI 1)), (0, .ref (ad 20)), (1, .int x), (3, .int (nI (rA g (2 ^ gE g - 1)))), (4, .int (nI sm))]) hx hb dX6_count_114 rfl hl (by decide) rfl (fun ls hl => ?_)
                refine lv_iinc (v := (nI (sm + 1))) (lv' := [(4, .int (nI (sm + 1))), (2, .int (nI (nP (co g) (sm + 1)))), (5, .int (nI 1)), (0, .ref (ad 20)), (1, .int x), (3, .int (nI (rA g (2 ^ gE g - 1))))]) hx hb dX6_count_115 hl (k := 5) rfl (ni_inc _) (by decide) rfl (fun ls hl => ?_)
                refine lv_goto (tgt := 28) hx hb dX6_count_118 (by decide) ?_
                exact ih28 (sm + 1) ⟨by omega, by omega⟩  _ _ hP hD hS _ (lv_sub hl [3, 4, 1, 5, 0] rfl)
        · exact absurd c41 hx3
  exact L28 (2 ^ gE g + 1) 0 ⟨Nat.zero_le _, by omega⟩  _ _ hP hD hS _ (lv_sub hl [3, 4, 2, 1, 0] rfl)
