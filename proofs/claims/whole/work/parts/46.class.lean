set_option maxHeartbeats 4000000 in
set_option maxRecDepth 100000 in
theorem c_judge0 (l : Launch) (D : va_G) (cy : Nat → ClassId) (ad : Nat → Nat) {x : Int32} (h : x = nI 0) : PV l yX5_judgeOf wsX5_judgeOf ({ frames := 0, cells := 0, slots := 0, locals := 0 }) D cy [.ref (ad 0), .int x] [(ad 0, .inr (4, [.ref (ad 1), .ref (ad 7), .ref (ad 8), .ref (ad 9)]))] (.ref (ad 7)) := by
  refine Met.ofW (cc := cX5_judgeOf) (maxL := 2) (ret := (some (.object "ColourForests$Kind"))) (by decide) rfl ?_
  intro p ev s m args below meth c s₁ B hml hv
  obtain ⟨rfl, hK, hP⟩ := hv
  have hx := B.exec
  have hb := B.bytes
  have hr := B.returns
  have hts := atoms_spec (ws := wsX5_judgeOf) B.pre
  have hown : s.vm.findClass RX5 = some m.cls := findClass_of_methodNamed B.named
  have hlocks := B.notSynchronized
  have hS : va_S (fun _ => False) s.heap s.heap [] := va_S.rf
  have hP : va_P D vwCl [(ad 0, .inr (4, [.ref (ad 1), .ref (ad 7), .ref (ad 8), .ref (ad 9)]))] s.heap := hP
  have inX5 : ∀ w ∈ wsX50, w ∈ wsX5_judgeOf := by decide +kernel
  have hl := lv_entry ([.ref (ad 0), .int x]) (n := 2) (Nat.le_of_ble_eq_true rfl)
  rw [lg_entry_eq]
  generalize (lg_sl ([.ref (ad 0), .int x]) ++ List.replicate (2 - (lg_sl ([.ref (ad 0), .int x])).length) Slot.unset).toArray = ls at hl ⊢
  have hl : lv_has ls 2 [(0, .ref (ad 0)), (1, .int x)] := hl
  have hgen := True.intro
  refine lv_iload_n hx hb dX5_judgeOf_0 rfl (lv_at hl 1 rfl) ?_
  refine lv_lookup (off := 27) (tgt := 28) hx hb dX5_judgeOf_1 (by decide) (by rw [h]; decide) (by decide) ?_
  refine lv_aload_n hx hb dX5_judgeOf_28 rfl (lv_at hl 0 rfl) ?_
  refine va_get (D := D) (ci := 4) (v := .ref (ad 7)) (C := RX5) (T := TX5) (N := 4) hx hb hts inX5 hown hK.1 hP 0 rfl rfl 1 (by decide) (hts (.fieldLink RX5 21 "ColourForests" "ringless" "LColourForests$Kind;") (List.mem_of_getElem? (i := 1) rfl)) (fun _ h9 => h9) rfl dX5_judgeOf_29 ?_
  exact pv_ret hx hb hr hlocks hS (by first | exact Or.inl rfl | exact Or.inr ⟨_, rfl⟩) dX5_judgeOf_32

set_option maxHeartbeats 4000000 in
set_option maxRecDepth 100000 in
theorem c_judge1 (l : Launch) (D : va_G) (cy : Nat → ClassId) (ad : Nat → Nat) {x : Int32} (h : x = nI 1) : PV l yX5_judgeOf wsX5_judgeOf ({ frames := 0, cells := 0, slots := 0, locals := 0 }) D cy [.ref (ad 0), .int x] [(ad 0, .inr (4, [.ref (ad 1), .ref (ad 7), .ref (ad 8), .ref (ad 9)]))] (.ref (ad 8)) := by
  refine Met.ofW (cc := cX5_judgeOf) (maxL := 2) (ret := (some (.object "ColourForests$Kind"))) (by decide) rfl ?_
  intro p ev s m args below meth c s₁ B hml hv
  obtain ⟨rfl, hK, hP⟩ := hv
  have hx := B.exec
  have hb := B.bytes
  have hr := B.returns
  have hts := atoms_spec (ws := wsX5_judgeOf) B.pre
  have hown : s.vm.findClass RX5 = some m.cls := findClass_of_methodNamed B.named
  have hlocks := B.notSynchronized
  have hS : va_S (fun _ => False) s.heap s.heap [] := va_S.rf
  have hP : va_P D vwCl [(ad 0, .inr (4, [.ref (ad 1), .ref (ad 7), .ref (ad 8), .ref (ad 9)]))] s.heap := hP
  have inX5 : ∀ w ∈ wsX50, w ∈ wsX5_judgeOf := by decide +kernel
  have hl := lv_entry ([.ref (ad 0), .int x]) (n := 2) (Nat.le_of_ble_eq_true rfl)
  rw [lg_entry_eq]
  generalize (lg_sl ([.ref (ad 0), .int x]) ++ List.replicate (2 - (lg_sl ([.ref (ad 0), .int x])).length) Slot.unset).toArray = ls at hl ⊢
  have hl : lv_has ls 2 [(0, .ref (ad 0)), (1, .int x)] := hl
  have hgen := True.intro
  refine lv_iload_n hx hb dX5_judgeOf_0 rfl (lv_at hl 1 rfl) ?_
  refine lv_lookup (off := 32) (tgt := 33) hx hb dX5_judgeOf_1 (by decide) (by rw [h]; decide) (by decide) ?_
  refine lv_aload_n hx hb dX5_judgeOf_33 rfl (lv_at hl 0 rfl) ?_
  refine va_get (D := D) (ci := 4) (v := .ref (ad 8)) (C := RX5) (T := TX5) (N := 4) hx hb hts inX5 hown hK.1 hP 0 rfl rfl 2 (by decide) (hts (.fieldLink RX5 28 "ColourForests" "withinLimits" "LColourForests$Kind;") (List.mem_of_getElem? (i := 2) rfl)) (fun _ h9 => h9) rfl dX5_judgeOf_34 ?_
  exact pv_ret hx hb hr hlocks hS (by first | exact Or.inl rfl | exact Or.inr ⟨_, rfl⟩) dX5_judgeOf_37

set_option maxHeartbeats 4000000 in
set_option maxRecDepth 100000 in
theorem c_judgeN (l : Launch) (D : va_G) (cy : Nat → ClassId) (ad : Nat → Nat) {x : Int32} (h0 : ¬ x = nI 0) (h1 : ¬ x = nI 1) : PV l yX5_judgeOf wsX5_judgeOf ({ frames := 0, cells := 0, slots := 0, locals := 0 }) D cy [.ref (ad 0), .int x] [(ad 0, .inr (4, [.ref (ad 1), .ref (ad 7), .ref (ad 8), .ref (ad 9)]))] (.null) := by
  refine Met.ofW (cc := cX5_judgeOf) (maxL := 2) (ret := (some (.object "ColourForests$Kind"))) (by decide) rfl ?_
  intro p ev s m args below meth c s₁ B hml hv
  obtain ⟨rfl, hK, hP⟩ := hv
  have hx := B.exec
  have hb := B.bytes
  have hr := B.returns
  have hts := atoms_spec (ws := wsX5_judgeOf) B.pre
  have hown : s.vm.findClass RX5 = some m.cls := findClass_of_methodNamed B.named
  have hlocks := B.notSynchronized
  have hS : va_S (fun _ => False) s.heap s.heap [] := va_S.rf
  have hP : va_P D vwCl [(ad 0, .inr (4, [.ref (ad 1), .ref (ad 7), .ref (ad 8), .ref (ad 9)]))] s.heap := hP
  have inX5 : ∀ w ∈ wsX50, w ∈ wsX5_judgeOf := by decide +kernel
  have hl := lv_entry ([.ref (ad 0), .int x]) (n := 2) (Nat.le_of_ble_eq_true rfl)
  rw [lg_entry_eq]
  generalize (lg_sl ([.ref (ad 0), .int x]) ++ List.replicate (2 - (lg_sl ([.ref (ad 0), .int x])).length) Slot.unset).toArray = ls at hl ⊢
  have hl : lv_has ls 2 [(0, .ref (ad 0)), (1, .int x)] := hl
  have hgen := True.intro
  refine lv_iload_n hx hb dX5_judgeOf_0 rfl (lv_at hl 1 rfl) ?_
  refine lv_lookup (off := 37) (tgt := 38) hx hb dX5_judgeOf_1 (by decide) (lk_no h0 h1) (by decide) ?_
  refine lv_null hx hb dX5_judgeOf_38 ?_
  exact pv_ret hx hb hr hlocks hS (by first | exact Or.inl rfl | exact Or.inr ⟨_, rfl⟩) dX5_judgeOf_39

set_option maxHeartbeats 4000000 in
set_option maxRecDepth 100000 in
theorem c_X5_rank_no (l : Launch) (D : va_G) (cy : Nat → ClassId) (ad : Nat → Nat) (ch : Int32) {g : GT} (hg : gOK g) {x y : Int32} (h : (decide (x = 0 ∨ x = nI 1) && isN y (2 ^ gE g)) = false) : PU l yX5_rank wsX5_rank ({ frames := 2, cells := 0, slots := 0, locals := 41 }) D cy [.ref (ad 0), .int x, .int y] (wY cy ad ch g) ((zI (-1))) := by
  refine Met.ofW (cc := cX5_rank) (maxL := 4) (ret := (some .int)) (by decide) rfl ?_
  intro p ev s m args below meth c s₁ B hml hv
  obtain ⟨rfl, hK, hP⟩ := hv
  have hx := B.exec
  have hb := B.bytes
  have hr := B.returns
  have hts := atoms_spec (ws := wsX5_rank) B.pre
  have hown : s.vm.findClass RX5 = some m.cls := findClass_of_methodNamed B.named
  have hlocks := B.notSynchronized
  have hS : va_S (fun _ => False) s.heap s.heap [] := va_S.rf
  have hP : va_P D vwCl (wY cy ad ch g) s.heap := hP
  have inX5 : ∀ w ∈ wsX50, w ∈ wsX5_rank := by decide +kernel
  have hl := lv_entry ([.ref (ad 0), .int x, .int y]) (n := 4) (Nat.le_of_ble_eq_true rfl)
  rw [lg_entry_eq]
  generalize (lg_sl ([.ref (ad 0), .int x, .int y]) ++ List.replicate (4 - (lg_sl ([.ref (ad 0), .int x, .int y])).length) Slot.unset).toArray = ls at hl ⊢
  have hl : lv_has ls 4 [(0, .ref (ad 0)), (1, .int x), (2, .int y)] := hl
  have hgen := True.intro
  have hE := hg.2.2.1
  have hV := hg.1
  have hC := hg.2.1
  have hS8 : 2 ^ gE g ≤ 2 ^ 14 := Nat.pow_le_pow_right (by decide) hE
  rcases kd_cases x with hk | hk | ⟨hk0, hk1⟩
  · have hkk : x = nI 0 ∨ x = nI 1 := Or.inl hk
    refine lv_aload_n hx hb dX5_rank_0 rfl (lv_at hl 0 rfl) ?_
    refine lv_iload_n hx hb dX5_rank_1 rfl (lv_at hl 1 rfl) ?_
    refine pv_call (va_runV (As := [.int x]) (rest := []) ⟨hx, hb, hml, hown, hts⟩ (c_judge0 l D cy ad (x := x) hk) (cwV 1 hts gX5_rank_X5_judgeOf rfl rfl rfl (by decide +kernel) ⟨Nat.le_of_ble_eq_true rfl, Nat.le_of_ble_eq_true rfl⟩) (PU_preV (ci := 4) (q0 := 0) hK hP 0 rfl rfl [0] rfl) rfl rfl hl.1 rfl (lv_room (Nat.le_of_ble_eq_true rfl)) dX5_rank_2 ⟨(Nat.zero_le _), (Nat.zero_le _)⟩) hS hP (fun H locs hP hS => ?_)
    refine lv_astore_n (lv' := [(3, .ref (ad 7)), (0, .ref (ad 0)), (1, .int x), (2, .int y)]) hx hb dX5_rank_5 rfl hl (by decide) rfl (fun ls hl => ?_)
    refine lv_aload_n hx hb dX5_rank_6 rfl (lv_at hl 0 rfl) ?_
    refine lv_ifnull hx hb dX5_rank_7 ?_
    refine lv_aload_n hx hb dX5_rank_10 rfl (lv_at hl 1 rfl) ?_
    refine va_get (D := D) (ci := 4) (v := .ref (ad 1)) (C := RX5) (T := TX5) (N := 4) hx hb hts inX5 hown hK.1 hP 0 rfl rfl 0 (by decide) (hts (.fieldLink RX5 10 "ColourForests" "graph" "LColourForests$Graph;") (List.mem_of_getElem? (i := 1) rfl)) (fun _ h9 => h9) rfl dX5_rank_11 ?_
    refine lv_iload_n hx hb dX5_rank_14 rfl (lv_at hl 3 rfl) ?_
    refine pu_call (va_runV (As := [.int y]) (rest := []) ⟨hx, hb, hml, hown, hts⟩ (c_X0_hasSet l D cy ad ch hg y) (cwV 1 hts gX5_rank_X0_hasSet rfl rfl rfl (by decide +kernel) ⟨Nat.le_of_ble_eq_true rfl, Nat.le_of_ble_eq_true rfl⟩) (PU_preV (ci := 0) (q0 := 3) hK hP 0 rfl rfl [3, 4, 5, 6, 7, 8] rfl) rfl rfl hl.1 rfl (lv_room (Nat.le_of_ble_eq_true rfl)) dX5_rank_15 ⟨(Nat.zero_le _), (Nat.zero_le _)⟩) hS hP (fun H locs hP hS => ?_)
    refine b_ne (b := (isN y (2 ^ gE g))) (tgt := 23) hx hb dX5_rank_18 (by decide) (fun c18 => ?_) (fun c18 => ?_)
    · exact absurd ((bad_a h hkk).symm.trans c18) (by decide)
    · refine lv_iconst (v := zI (-1)) hx hb dX5_rank_21 (by decide) ?_
      exact pu_iret (y := yX5_rank) hx hb hr hlocks hS (by first | rfl | (simp [bI, *]; done) | (simp_all [bI]; done)) dX5_rank_22
  · have hkk : x = nI 0 ∨ x = nI 1 := Or.inr hk
    refine lv_aload_n hx hb dX5_rank_0 rfl (lv_at hl 0 rfl) ?_
    refine lv_iload_n hx hb dX5_rank_1 rfl (lv_at hl 1 rfl) ?_
    refine pv_call (va_runV (As := [.int x]) (rest := []) ⟨hx, hb, hml, hown, hts⟩ (c_judge1 l D cy ad (x := x) hk) (cwV 1 hts gX5_rank_X5_judgeOf rfl rfl rfl (by decide +kernel) ⟨Nat.le_of_ble_eq_true rfl, Nat.le_of_ble_eq_true rfl⟩) (PU_preV (ci := 4) (q0 := 0) hK hP 0 rfl rfl [0] rfl) rfl rfl hl.1 rfl (lv_room (Nat.le_of_ble_eq_true rfl)) dX5_rank_2 ⟨(Nat.zero_le _), (Nat.zero_le _)⟩) hS hP (fun H locs hP hS => ?_)
    refine lv_astore_n (lv' := [(3, .ref (ad 8)), (0, .ref (ad 0)), (1, .int x), (2, .int y)]) hx hb dX5_rank_5 rfl hl (by decide) rfl (fun ls hl => ?_)
    refine lv_aload_n hx hb dX5_rank_6 rfl (lv_at hl 0 rfl) ?_
    refine lv_ifnull hx hb dX5_rank_7 ?_
    refine lv_aload_n hx hb dX5_rank_10 rfl (lv_at hl 1 rfl) ?_
    refine va_get (D := D) (ci := 4) (v := .ref (ad 1)) (C := RX5) (T := TX5) (N := 4) hx hb hts inX5 hown hK.1 hP 0 rfl rfl 0 (by decide) (hts (.fieldLink RX5 10 "ColourForests" "graph" "LColourForests$Graph;") (List.mem_of_getElem? (i := 1) rfl)) (fun _ h9 => h9) rfl dX5_rank_11 ?_
    refine lv_iload_n hx hb dX5_rank_14 rfl (lv_at hl 3 rfl) ?_
    refine pu_call (va_runV (As := [.int y]) (rest := []) ⟨hx, hb, hml, hown, hts⟩ (c_X0_hasSet l D cy ad ch hg y) (cwV 1 hts gX5_rank_X0_hasSet rfl rfl rfl (by decide +kernel) ⟨Nat.le_of_ble_eq_true rfl, Nat.le_of_ble_eq_true rfl⟩) (PU_preV (ci := 0) (q0 := 3) hK hP 0 rfl rfl [3, 4, 5, 6, 7, 8] rfl) rfl rfl hl.1 rfl (lv_room (Nat.le_of_ble_eq_true rfl)) dX5_rank_15 ⟨(Nat.zero_le _), (Nat.zero_le _)⟩) hS hP (fun H locs hP hS => ?_)
    refine b_ne (b := (isN y (2 ^ gE g))) (tgt := 23) hx hb dX5_rank_18 (by decide) (fun c18 => ?_) (fun c18 => ?_)
    · exact absurd ((bad_a h hkk).symm.trans c18) (by decide)
    · refine lv_iconst (v := zI (-1)) hx hb dX5_rank_21 (by decide) ?_
      exact pu_iret (y := yX5_rank) hx hb hr hlocks hS (by first | rfl | (simp [bI, *]; done) | (simp_all [bI]; done)) dX5_rank_22
  · have hkk := hk0
    refine lv_aload_n hx hb dX5_rank_0 rfl (lv_at hl 0 rfl) ?_
    refine lv_iload_n hx hb dX5_rank_1 rfl (lv_at hl 1 rfl) ?_
    refine pv_call (va_runV (As := [.int x]) (rest := []) ⟨hx, hb, hml, hown, hts⟩ (c_judgeN l D cy ad (x := x) hk0 hk1) (cwV 1 hts gX5_rank_X5_judgeOf rfl rfl rfl (by decide +kernel) ⟨Nat.le_of_ble_eq_true rfl, Nat.le_of_ble_eq_true rfl⟩) (PU_preV (ci := 4) (q0 := 0) hK hP 0 rfl rfl [0] rfl) rfl rfl hl.1 rfl (lv_room (Nat.le_of_ble_eq_true rfl)) dX5_rank_2 ⟨(Nat.zero_le _), (Nat.zero_le _)⟩) hS hP (fun H locs hP hS => ?_)
    refine lv_astore_nN (lv' := [(3, .null), (0, .ref (ad 0)), (1, .int x), (2, .int y)]) hx hb dX5_rank_5 rfl hl (by decide) rfl (fun ls hl => ?_)
    refine lv_aload_nN hx hb dX5_rank_6 rfl (lv_at hl 0 rfl) ?_
    refine lv_ifnullN (tgt := 21) hx hb dX5_rank_7 (by decide) ?_
    refine lv_iconst (v := zI (-1)) hx hb dX5_rank_21 (by decide) ?_
    exact pu_iret (y := yX5_rank) hx hb hr hlocks hS (by first | rfl | (simp [bI, *]; done) | (simp_all [bI]; done)) dX5_rank_22

set_option maxHeartbeats 4000000 in
set_option maxRecDepth 100000 in
theorem c_X5_rank_yes (l : Launch) (D : va_G) (cy : Nat → ClassId) (ad : Nat → Nat) (ch : Int32) {g : GT} (hg : gOK g) {kd S : Nat} (hk9 : kd < 2) (hS9 : S < 2 ^ gE g) : PU l yX5_rank wsX5_rank ({ frames := 3, cells := 0, slots := 0, locals := 73 }) D cy [.ref (ad 0), .int (nI kd), .int (nI S)] (wY cy ad ch g) ((nI (rN g kd S))) := by
  refine Met.ofW (cc := cX5_rank) (maxL := 4) (ret := (some .int)) (by decide) rfl ?_
  intro p ev s m args below meth c s₁ B hml hv
  obtain ⟨rfl, hK, hP⟩ := hv
  have hx := B.exec
  have hb := B.bytes
  have hr := B.returns
  have hts := atoms_spec (ws := wsX5_rank) B.pre
  have hown : s.vm.findClass RX5 = some m.cls := findClass_of_methodNamed B.named
  have hlocks := B.notSynchronized
  have hS : va_S (fun _ => False) s.heap s.heap [] := va_S.rf
  have hP : va_P D vwCl (wY cy ad ch g) s.heap := hP
  have inX5 : ∀ w ∈ wsX50, w ∈ wsX5_rank := by decide +kernel
  have hl := lv_entry ([.ref (ad 0), .int (nI kd), .int (nI S)]) (n := 4) (Nat.le_of_ble_eq_true rfl)
  rw [lg_entry_eq]
  generalize (lg_sl ([.ref (ad 0), .int (nI kd), .int (nI S)]) ++ List.replicate (4 - (lg_sl ([.ref (ad 0), .int (nI kd), .int (nI S)])).length) Slot.unset).toArray = ls at hl ⊢
  have hl : lv_has ls 4 [(0, .ref (ad 0)), (1, .int (nI kd)), (2, .int (nI S))] := hl
  have hgen := True.intro
  have hE := hg.2.2.1
  have hV := hg.1
  have hC := hg.2.1
  have hS8 : 2 ^ gE g ≤ 2 ^ 14 := Nat.pow_le_pow_right (by decide) hE
  rcases (show kd = 0 ∨ kd = 1 by omega) with hk | hk
  · have hk5 := hk
    refine lv_aload_n hx hb dX5_rank_0 rfl (lv_at hl 0 rfl) ?_
    refine lv_iload_n hx hb dX5_rank_1 rfl (lv_at hl 1 rfl) ?_
    refine pv_call (va_runV (As := [.int (nI kd)]) (rest := []) ⟨hx, hb, hml, hown, hts⟩ (c_judge0 l D cy ad (x := (nI kd)) (by rw [hk])) (cwV 1 hts gX5_rank_X5_judgeOf rfl rfl rfl (by decide +kernel) ⟨Nat.le_of_ble_eq_true rfl, Nat.le_of_ble_eq_true rfl⟩) (PU_preV (ci := 4) (q0 := 0) hK hP 0 rfl rfl [0] rfl) rfl rfl hl.1 rfl (lv_room (Nat.le_of_ble_eq_true rfl)) dX5_rank_2 ⟨(Nat.zero_le _), (Nat.zero_le _)⟩) hS hP (fun H locs hP hS => ?_)
    refine lv_astore_n (lv' := [(3, .ref (ad 7)), (0, .ref (ad 0)), (1, .int (nI kd)), (2, .int (nI S))]) hx hb dX5_rank_5 rfl hl (by decide) rfl (fun ls hl => ?_)
    refine lv_aload_n hx hb dX5_rank_6 rfl (lv_at hl 0 rfl) ?_
    refine lv_ifnull hx hb dX5_rank_7 ?_
    refine lv_aload_n hx hb dX5_rank_10 rfl (lv_at hl 1 rfl) ?_
    refine va_get (D := D) (ci := 4) (v := .ref (ad 1)) (C := RX5) (T := TX5) (N := 4) hx hb hts inX5 hown hK.1 hP 0 rfl rfl 0 (by decide) (hts (.fieldLink RX5 10 "ColourForests" "graph" "LColourForests$Graph;") (List.mem_of_getElem? (i := 1) rfl)) (fun _ h9 => h9) rfl dX5_rank_11 ?_
    refine lv_iload_n hx hb dX5_rank_14 rfl (lv_at hl 3 rfl) ?_
    refine pu_call (va_runV (As := [.int (nI S)]) (rest := []) ⟨hx, hb, hml, hown, hts⟩ (c_X0_hasSet l D cy ad ch hg ((nI S))) (cwV 1 hts gX5_rank_X0_hasSet rfl rfl rfl (by decide +kernel) ⟨Nat.le_of_ble_eq_true rfl, Nat.le_of_ble_eq_true rfl⟩) (PU_preV (ci := 0) (q0 := 3) hK hP 0 rfl rfl [3, 4, 5, 6, 7, 8] rfl) rfl rfl hl.1 rfl (lv_room (Nat.le_of_ble_eq_true rfl)) dX5_rank_15 ⟨(Nat.zero_le _), (Nat.zero_le _)⟩) hS hP (fun H locs hP hS => ?_)
    refine b_ne (b := (isN ((nI S)) (2 ^ gE g))) (tgt := 23) hx hb dX5_rank_18 (by decide) (fun c18 => ?_) (fun c18 => ?_)
    · refine lv_aload_n hx hb dX5_rank_23 rfl (lv_at hl 0 rfl) ?_
      refine lv_iload_n hx hb dX5_rank_24 rfl (lv_at hl 3 rfl) ?_
      refine pu_call (va_runU (As := [.int (nI S)]) (rest := []) ⟨hx, hb, hml, hown, hts⟩ (c_X3_rankOf l D cy ad ch hg (S := S) (by omega)) (va_cwA 1 hts gX5_rank_X3_rankOf_u113X3 rfl rfl rfl (hK.2 _ (List.mem_of_getElem? (i := 6) rfl)) (by decide +kernel) ⟨Nat.le_of_ble_eq_true rfl, Nat.le_of_ble_eq_true rfl⟩) (PU_preV (ci := 2) (q0 := 1) hK hP 0 rfl rfl [1, 3, 4, 5, 6, 7, 8] rfl) rfl rfl hl.1 rfl (lv_room (Nat.le_of_ble_eq_true rfl)) dX5_rank_25 ⟨(Nat.zero_le _), (Nat.zero_le _)⟩) hS hP (fun H locs hP hS => ?_)
      exact pu_iret (y := yX5_rank) hx hb hr hlocks hS (by rw [hk]; rfl) dX5_rank_28
    · exact absurd (c18.symm.trans (isN_y hS9 (by omega))) (by decide)
  · have hk5 := hk
    refine lv_aload_n hx hb dX5_rank_0 rfl (lv_at hl 0 rfl) ?_
    refine lv_iload_n hx hb dX5_rank_1 rfl (lv_at hl 1 rfl) ?_
    refine pv_call (va_runV (As := [.int (nI kd)]) (rest := []) ⟨hx, hb, hml, hown, hts⟩ (c_judge1 l D cy ad (x := (nI kd)) (by rw [hk])) (cwV 1 hts gX5_rank_X5_judgeOf rfl rfl rfl (by decide +kernel) ⟨Nat.le_of_ble_eq_true rfl, Nat.le_of_ble_eq_true rfl⟩) (PU_preV (ci := 4) (q0 := 0) hK hP 0 rfl rfl [0] rfl) rfl rfl hl.1 rfl (lv_room (Nat.le_of_ble_eq_true rfl)) dX5_rank_2 ⟨(Nat.zero_le _), (Nat.zero_le _)⟩) hS hP (fun H locs hP hS => ?_)
    refine lv_astore_n (lv' := [(3, .ref (ad 8)), (0, .ref (ad 0)), (1, .int (nI kd)), (2, .int (nI S))]) hx hb dX5_rank_5 rfl hl (by decide) rfl (fun ls hl => ?_)
    refine lv_aload_n hx hb dX5_rank_6 rfl (lv_at hl 0 rfl) ?_
    refine lv_ifnull hx hb dX5_rank_7 ?_
    refine lv_aload_n hx hb dX5_rank_10 rfl (lv_at hl 1 rfl) ?_
    refine va_get (D := D) (ci := 4) (v := .ref (ad 1)) (C := RX5) (T := TX5) (N := 4) hx hb hts inX5 hown hK.1 hP 0 rfl rfl 0 (by decide) (hts (.fieldLink RX5 10 "ColourForests" "graph" "LColourForests$Graph;") (List.mem_of_getElem? (i := 1) rfl)) (fun _ h9 => h9) rfl dX5_rank_11 ?_
    refine lv_iload_n hx hb dX5_rank_14 rfl (lv_at hl 3 rfl) ?_
    refine pu_call (va_runV (As := [.int (nI S)]) (rest := []) ⟨hx, hb, hml, hown, hts⟩ (c_X0_hasSet l D cy ad ch hg ((nI S))) (cwV 1 hts gX5_rank_X0_hasSet rfl rfl rfl (by decide +kernel) ⟨Nat.le_of_ble_eq_true rfl, Nat.le_of_ble_eq_true rfl⟩) (PU_preV (ci := 0) (q0 := 3) hK hP 0 rfl rfl [3, 4, 5, 6, 7, 8] rfl) rfl rfl hl.1 rfl (lv_room (Nat.le_of_ble_eq_true rfl)) dX5_rank_15 ⟨(Nat.zero_le _), (Nat.zero_le _)⟩) hS hP (fun H locs hP hS => ?_)
    refine b_ne (b := (isN ((nI S)) (2 ^ gE g))) (tgt := 23) hx hb dX5_rank_18 (by decide) (fun c18 => ?_) (fun c18 => ?_)
    · refine lv_aload_n hx hb dX5_rank_23 rfl (lv_at hl 0 rfl) ?_
      refine lv_iload_n hx hb dX5_rank_24 rfl (lv_at hl 3 rfl) ?_
      refine pu_call (va_runU (As := [.int (nI S)]) (rest := []) ⟨hx, hb, hml, hown, hts⟩ (c_X2_rankOf l D cy ad ch hg (S := S) (by omega)) (va_cwA 1 hts gX5_rank_X2_rankOf_u113X2 rfl rfl rfl (hK.2 _ (List.mem_of_getElem? (i := 6) rfl)) (by decide +kernel) ⟨Nat.le_of_ble_eq_true rfl, Nat.le_of_ble_eq_true rfl⟩) (PU_preV (ci := 1) (q0 := 2) hK hP 0 rfl rfl [2, 3, 4, 5, 6, 7, 8] rfl) rfl rfl hl.1 rfl (lv_room (Nat.le_of_ble_eq_true rfl)) dX5_rank_25 ⟨(Nat.zero_le _), (Nat.zero_le _)⟩) hS hP (fun H locs hP hS => ?_)
      exact pu_iret (y := yX5_rank) hx hb hr hlocks hS (by rw [hk]; rfl) dX5_rank_28
    · exact absurd (c18.symm.trans (isN_y hS9 (by omega))) (by decide)

set_option maxHeartbeats 4000000 in
set_option maxRecDepth 100000 in
theorem c_X5_isCommon (l : Launch) (D : va_G) (cy : Nat → ClassId) (ad : Nat → Nat) (ch : Int32) {g : GT} (hg : gOK g) {S : Nat} (hS9 : S < 2 ^ gE g) : PU l yX5_isCommon wsX5_isCommon ({ frames := 4, cells := 0, slots := 0, locals := 94 }) D cy [.ref (ad 0), .int (nI S)] (wY cy ad ch g) ((bI (co g S))) := by
  refine Met.ofW (cc := cX5_isCommon) (maxL := 2) (ret := (some .boolean)) (by decide) rfl ?_
  intro p ev s m args below meth c s₁ B hml hv
  obtain ⟨rfl, hK, hP⟩ := hv
  have hx := B.exec
  have hb := B.bytes
  have hr := B.returns
  have hts := atoms_spec (ws := wsX5_isCommon) B.pre
  have hown : s.vm.findClass RX5 = some m.cls := findClass_of_methodNamed B.named
  have hlocks := B.notSynchronized
  have hS : va_S (fun _ => False) s.heap s.heap [] := va_S.rf
  have hP : va_P D vwCl (wY cy ad ch g) s.heap := hP
  have inX5 : ∀ w ∈ wsX50, w ∈ wsX5_isCommon := by decide +kernel
  have hl := lv_entry ([.ref (ad 0), .int (nI S)]) (n := 2) (Nat.le_of_ble_eq_true rfl)
  rw [lg_entry_eq]
  generalize (lg_sl ([.ref (ad 0), .int (nI S)]) ++ List.replicate (2 - (lg_sl ([.ref (ad 0), .int (nI S)])).length) Slot.unset).toArray = ls at hl ⊢
  have hl : lv_has ls 2 [(0, .ref (ad 0)), (1, .int (nI S))] := hl
  have hgen := True.intro
  have hE := hg.2.2.1
  have hV := hg.1
  have hC := hg.2.1
  have hS8 : 2 ^ gE g ≤ 2 ^ 14 := Nat.pow_le_pow_right (by decide) hE
  refine lv_aload_n hx hb dX5_isCommon_0 rfl (lv_at hl 0 rfl) ?_
  refine va_get (D := D) (ci := 4) (v := .ref (ad 7)) (C := RX5) (T := TX5) (N := 4) hx hb hts inX5 hown hK.1 hP 0 rfl rfl 1 (by decide) (hts (.fieldLink RX5 21 "ColourForests" "ringless" "LColourForests$Kind;") (List.mem_of_getElem? (i := 1) rfl)) (fun _ h9 => h9) rfl dX5_isCommon_1 ?_
  refine lv_iload_n hx hb dX5_isCommon_4 rfl (lv_at hl 1 rfl) ?_
  refine pu_call (va_runU (As := [.int (nI S)]) (rest := []) ⟨hx, hb, hml, hown, hts⟩ (c_allows3 l D cy ad ch hg (S := S) (by omega)) (va_cwU 1 hts gX5_isCommon_X1_allows_u126X3 rfl rfl rfl rfl (by decide +kernel) ⟨Nat.le_of_ble_eq_true rfl, Nat.le_of_ble_eq_true rfl⟩) (PU_preV (ci := 2) (q0 := 1) hK hP 0 rfl rfl [1, 3, 4, 5, 6, 7, 8] rfl) rfl rfl hl.1 rfl (lv_room (Nat.le_of_ble_eq_true rfl)) dX5_isCommon_5 ⟨(Nat.zero_le _), (Nat.zero_le _)⟩) hS hP (fun H locs hP hS => ?_)
  refine b_eq (b := (fr g S)) (tgt := 26) hx hb dX5_isCommon_8 (by decide) (fun c8 => ?_) (fun c8 => ?_)
  · refine lv_iconst (v := nI 0) hx hb dX5_isCommon_26 (by decide) ?_
    exact pu_zret hx hb hr hlocks hS (by first | (rw [co_f (Or.inl c8)]; rfl) | (rw [co_f (Or.inr c19)]; rfl) | (rw [co_yes c8 c19]; rfl)) dX5_isCommon_27
  · refine lv_aload_n hx hb dX5_isCommon_11 rfl (lv_at hl 0 rfl) ?_
    refine va_get (D := D) (ci := 4) (v := .ref (ad 8)) (C := RX5) (T := TX5) (N := 4) hx hb hts inX5 hown hK.1 hP 0 rfl rfl 2 (by decide) (hts (.fieldLink RX5 28 "ColourForests" "withinLimits" "LColourForests$Kind;") (List.mem_of_getElem? (i := 2) rfl)) (fun _ h9 => h9) rfl dX5_isCommon_12 ?_
    refine lv_iload_n hx hb dX5_isCommon_15 rfl (lv_at hl 1 rfl) ?_
    refine pu_call (va_runU (As := [.int (nI S)]) (rest := []) ⟨hx, hb, hml, hown, hts⟩ (c_allows2 l D cy ad ch hg (S := S) (by omega)) (va_cwU 1 hts gX5_isCommon_X1_allows_u126X2 rfl rfl rfl rfl (by decide +kernel) ⟨Nat.le_of_ble_eq_true rfl, Nat.le_of_ble_eq_true rfl⟩) (PU_preV (ci := 1) (q0 := 2) hK hP 0 rfl rfl [2, 3, 4, 5, 6, 7, 8] rfl) rfl rfl hl.1 rfl (lv_room (Nat.le_of_ble_eq_true rfl)) dX5_isCommon_16 ⟨(Nat.zero_le _), (Nat.zero_le _)⟩) hS hP (fun H locs hP hS => ?_)
    refine b_eq (b := (li g S)) (tgt := 26) hx hb dX5_isCommon_19 (by decide) (fun c19 => ?_) (fun c19 => ?_)
    · refine lv_iconst (v := nI 0) hx hb dX5_isCommon_26 (by decide) ?_
      exact pu_zret hx hb hr hlocks hS (by first | (rw [co_f (Or.inl c8)]; rfl) | (rw [co_f (Or.inr c19)]; rfl) | (rw [co_yes c8 c19]; rfl)) dX5_isCommon_27
    · refine lv_iconst (v := nI 1) hx hb dX5_isCommon_22 (by decide) ?_
      refine lv_goto (tgt := 27) hx hb dX5_isCommon_23 (by decide) ?_
      exact pu_zret hx hb hr hlocks hS (by first | (rw [co_f (Or.inl c8)]; rfl) | (rw [co_f (Or.inr c19)]; rfl) | (rw [co_yes c8 c19]; rfl)) dX5_isCommon_27

set_option maxHeartbeats 4000000 in
set_option maxRecDepth 100000 in
theorem c_X5_free_no (l : Launch) (D : va_G) (cy : Nat → ClassId) (ad : Nat → Nat) (ch : Int32) {g : GT} (hg : gOK g) {x y : Int32} (h : ((decide (x = 0 ∨ x = nI 1) || decide (x = nI 2)) && isN y (2 ^ gE g)) = false) : PU l yX5_free wsX5_free ({ frames := 2, cells := 0, slots := 0, locals := 41 }) D cy [.ref (ad 0), .int x, .int y] (wY cy ad ch g) ((zI (-1))) := by
  refine Met.ofW (cc := cX5_free) (maxL := 4) (ret := (some .int)) (by decide) rfl ?_
  intro p ev s m args below meth c s₁ B hml hv
  obtain ⟨rfl, hK, hP⟩ := hv
  have hx := B.exec
  have hb := B.bytes
  have hr := B.returns
  have hts := atoms_spec (ws := wsX5_free) B.pre
  have hown : s.vm.findClass RX5 = some m.cls := findClass_of_methodNamed B.named
  have hlocks := B.notSynchronized
  have hS : va_S (fun _ => False) s.heap s.heap [] := va_S.rf
  have hP : va_P D vwCl (wY cy ad ch g) s.heap := hP
  have inX5 : ∀ w ∈ wsX50, w ∈ wsX5_free := by decide +kernel
  have hl := lv_entry ([.ref (ad 0), .int x, .int y]) (n := 4) (Nat.le_of_ble_eq_true rfl)
  rw [lg_entry_eq]
  generalize (lg_sl ([.ref (ad 0), .int x, .int y]) ++ List.replicate (4 - (lg_sl ([.ref (ad 0), .int x, .int y])).length) Slot.unset).toArray = ls at hl ⊢
  have hl : lv_has ls 4 [(0, .ref (ad 0)), (1, .int x), (2, .int y)] := hl
  have hgen := True.intro
  have hE := hg.2.2.1
  have hV := hg.1
  have hC := hg.2.1
  have hS8 : 2 ^ gE g ≤ 2 ^ 14 := Nat.pow_le_pow_right (by decide) hE
  rcases kd2_cases x with hk | hk | hk | ⟨hk0, hk1, hk2⟩
  · have hkk : x = nI 0 ∨ x = nI 1 ∨ x = nI 2 := Or.inl hk
    refine lv_aload_n hx hb dX5_free_0 rfl (lv_at hl 0 rfl) ?_
    refine va_get (D := D) (ci := 4) (v := .ref (ad 1)) (C := RX5) (T := TX5) (N := 4) hx hb hts inX5 hown hK.1 hP 0 rfl rfl 0 (by decide) (hts (.fieldLink RX5 10 "ColourForests" "graph" "LColourForests$Graph;") (List.mem_of_getElem? (i := 1) rfl)) (fun _ h9 => h9) rfl dX5_free_1 ?_
    refine lv_iload_n hx hb dX5_free_4 rfl (lv_at hl 2 rfl) ?_
    refine pu_call (va_runV (As := [.int y]) (rest := []) ⟨hx, hb, hml, hown, hts⟩ (c_X0_hasSet l D cy ad ch hg y) (cwV 1 hts gX5_free_X0_hasSet rfl rfl rfl (by decide +kernel) ⟨Nat.le_of_ble_eq_true rfl, Nat.le_of_ble_eq_true rfl⟩) (PU_preV (ci := 0) (q0 := 3) hK hP 0 rfl rfl [3, 4, 5, 6, 7, 8] rfl) rfl rfl hl.1 rfl (lv_room (Nat.le_of_ble_eq_true rfl)) dX5_free_5 ⟨(Nat.zero_le _), (Nat.zero_le _)⟩) hS hP (fun H locs hP hS => ?_)
    refine b_ne (b := (isN y (2 ^ gE g))) (tgt := 13) hx hb dX5_free_8 (by decide) (fun c8 => ?_) (fun c8 => ?_)
    · exact absurd ((bad_b h hkk).symm.trans c8) (by decide)
    · refine lv_iconst (v := zI (-1)) hx hb dX5_free_11 (by decide) ?_
      exact pu_iret (y := yX5_free) hx hb hr hlocks hS (by first | rfl | (simp [bI, *]; done) | (simp_all [bI]; done)) dX5_free_12
  · have hkk : x = nI 0 ∨ x = nI 1 ∨ x = nI 2 := Or.inr (Or.inl hk)
    refine lv_aload_n hx hb dX5_free_0 rfl (lv_at hl 0 rfl) ?_
    refine va_get (D := D) (ci := 4) (v := .ref (ad 1)) (C := RX5) (T := TX5) (N := 4) hx hb hts inX5 hown hK.1 hP 0 rfl rfl 0 (by decide) (hts (.fieldLink RX5 10 "ColourForests" "graph" "LColourForests$Graph;") (List.mem_of_getElem? (i := 1) rfl)) (fun _ h9 => h9) rfl dX5_free_1 ?_
    refine lv_iload_n hx hb dX5_free_4 rfl (lv_at hl 2 rfl) ?_
    refine pu_call (va_runV (As := [.int y]) (rest := []) ⟨hx, hb, hml, hown, hts⟩ (c_X0_hasSet l D cy ad ch hg y) (cwV 1 hts gX5_free_X0_hasSet rfl rfl rfl (by decide +kernel) ⟨Nat.le_of_ble_eq_true rfl, Nat.le_of_ble_eq_true rfl⟩) (PU_preV (ci := 0) (q0 := 3) hK hP 0 rfl rfl [3, 4, 5, 6, 7, 8] rfl) rfl rfl hl.1 rfl (lv_room (Nat.le_of_ble_eq_true rfl)) dX5_free_5 ⟨(Nat.zero_le _), (Nat.zero_le _)⟩) hS hP (fun H locs hP hS => ?_)
    refine b_ne (b := (isN y (2 ^ gE g))) (tgt := 13) hx hb dX5_free_8 (by decide) (fun c8 => ?_) (fun c8 => ?_)
    · exact absurd ((bad_b h hkk).symm.trans c8) (by decide)
    · refine lv_iconst (v := zI (-1)) hx hb dX5_free_11 (by decide) ?_
      exact pu_iret (y := yX5_free) hx hb hr hlocks hS (by first | rfl | (simp [bI, *]; done) | (simp_all [bI]; done)) dX5_free_12
  · have hkk : x = nI 0 ∨ x = nI 1 ∨ x = nI 2 := Or.inr (Or.inr hk)
    refine lv_aload_n hx hb dX5_free_0 rfl (lv_at hl 0 rfl) ?_
    refine va_get (D := D) (ci := 4) (v := .ref (ad 1)) (C := RX5) (T := TX5) (N := 4) hx hb hts inX5 hown hK.1 hP 0 rfl rfl 0 (by decide) (hts (.fieldLink RX5 10 "ColourForests" "graph" "LColourForests$Graph;") (List.mem_of_getElem? (i := 1) rfl)) (fun _ h9 => h9) rfl dX5_free_1 ?_
    refine lv_iload_n hx hb dX5_free_4 rfl (lv_at hl 2 rfl) ?_
    refine pu_call (va_runV (As := [.int y]) (rest := []) ⟨hx, hb, hml, hown, hts⟩ (c_X0_hasSet l D cy ad ch hg y) (cwV 1 hts gX5_free_X0_hasSet rfl rfl rfl (by decide +kernel) ⟨Nat.le_of_ble_eq_true rfl, Nat.le_of_ble_eq_true rfl⟩) (PU_preV (ci := 0) (q0 := 3) hK hP 0 rfl rfl [3, 4, 5, 6, 7, 8] rfl) rfl rfl hl.1 rfl (lv_room (Nat.le_of_ble_eq_true rfl)) dX5_free_5 ⟨(Nat.zero_le _), (Nat.zero_le _)⟩) hS hP (fun H locs hP hS => ?_)
    refine b_ne (b := (isN y (2 ^ gE g))) (tgt := 13) hx hb dX5_free_8 (by decide) (fun c8 => ?_) (fun c8 => ?_)
    · exact absurd ((bad_b h hkk).symm.trans c8) (by decide)
    · refine lv_iconst (v := zI (-1)) hx hb dX5_free_11 (by decide) ?_
      exact pu_iret (y := yX5_free) hx hb hr hlocks hS (by first | rfl | (simp [bI, *]; done) | (simp_all [bI]; done)) dX5_free_12
  · have hkk := hk2
    refine lv_aload_n hx hb dX5_free_0 rfl (lv_at hl 0 rfl) ?_
    refine va_get (D := D) (ci := 4) (v := .ref (ad 1)) (C := RX5) (T := TX5) (N := 4) hx hb hts inX5 hown hK.1 hP 0 rfl rfl 0 (by decide) (hts (.fieldLink RX5 10 "ColourForests" "graph" "LColourForests$Graph;") (List.mem_of_getElem? (i := 1) rfl)) (fun _ h9 => h9) rfl dX5_free_1 ?_
    refine lv_iload_n hx hb dX5_free_4 rfl (lv_at hl 2 rfl) ?_
    refine pu_call (va_runV (As := [.int y]) (rest := []) ⟨hx, hb, hml, hown, hts⟩ (c_X0_hasSet l D cy ad ch hg y) (cwV 1 hts gX5_free_X0_hasSet rfl rfl rfl (by decide +kernel) ⟨Nat.le_of_ble_eq_true rfl, Nat.le_of_ble_eq_true rfl⟩) (PU_preV (ci := 0) (q0 := 3) hK hP 0 rfl rfl [3, 4, 5, 6, 7, 8] rfl) rfl rfl hl.1 rfl (lv_room (Nat.le_of_ble_eq_true rfl)) dX5_free_5 ⟨(Nat.zero_le _), (Nat.zero_le _)⟩) hS hP (fun H locs hP hS => ?_)
    refine b_ne (b := (isN y (2 ^ gE g))) (tgt := 13) hx hb dX5_free_8 (by decide) (fun c8 => ?_) (fun c8 => ?_)
    · refine lv_iload_n hx hb dX5_free_13 rfl (lv_at hl 1 rfl) ?_
      refine lv_iconst (v := nI 2) hx hb dX5_free_14 (by decide) ?_
      refine lv_icmp_ne (tgt := 27) hx hb dX5_free_15 (by decide) (fun c15 => ?_) (fun c15 => ?_)
      · refine lv_aload_n hx hb dX5_free_27 rfl (lv_at hl 0 rfl) ?_
        refine lv_iload_n hx hb dX5_free_28 rfl (lv_at hl 1 rfl) ?_
        refine pv_call (va_runV (As := [.int x]) (rest := []) ⟨hx, hb, hml, hown, hts⟩ (c_judgeN l D cy ad (x := x) hk0 hk1) (cwV 1 hts gX5_free_X5_judgeOf rfl rfl rfl (by decide +kernel) ⟨Nat.le_of_ble_eq_true rfl, Nat.le_of_ble_eq_true rfl⟩) (PU_preV (ci := 4) (q0 := 0) hK hP 0 rfl rfl [0] rfl) rfl rfl hl.1 rfl (lv_room (Nat.le_of_ble_eq_true rfl)) dX5_free_29 ⟨(Nat.zero_le _), (Nat.zero_le _)⟩) hS hP (fun H locs hP hS => ?_)
        refine lv_astore_nN (lv' := [(3, .null), (0, .ref (ad 0)), (1, .int x), (2, .int y)]) hx hb dX5_free_32 rfl hl (by decide) rfl (fun ls hl => ?_)
        refine lv_aload_nN hx hb dX5_free_33 rfl (lv_at hl 0 rfl) ?_
        refine lv_ifnonnullN hx hb dX5_free_34 ?_
        refine lv_iconst (v := zI (-1)) hx hb dX5_free_37 (by decide) ?_
        exact pu_iret (y := yX5_free) hx hb hr hlocks hS (by first | rfl | (simp [bI, *]; done) | (simp_all [bI]; done)) dX5_free_38
      · exact absurd c15 hk2
    · refine lv_iconst (v := zI (-1)) hx hb dX5_free_11 (by decide) ?_
      exact pu_iret (y := yX5_free) hx hb hr hlocks hS (by first | rfl | (simp [bI, *]; done) | (simp_all [bI]; done)) dX5_free_12

set_option maxHeartbeats 4000000 in
set_option maxRecDepth 100000 in
theorem c_X5_free_yes (l : Launch) (D : va_G) (cy : Nat → ClassId) (ad : Nat → Nat) (ch : Int32) {g : GT} (hg : gOK g) {kd S : Nat} (hk9 : kd < 2) (hS9 : S < 2 ^ gE g) : PU l yX5_free wsX5_free ({ frames := 4, cells := 0, slots := 0, locals := 94 }) D cy [.ref (ad 0), .int (nI kd), .int (nI S)] (wY cy ad ch g) ((bI (fN g kd S))) := by
  refine Met.ofW (cc := cX5_free) (maxL := 4) (ret := (some .int)) (by decide) rfl ?_
  intro p ev s m args below meth c s₁ B hml hv
  obtain ⟨rfl, hK, hP⟩ := hv
  have hx := B.exec
  have hb := B.bytes
  have hr := B.returns
  have hts := atoms_spec (ws := wsX5_free) B.pre
  have hown : s.vm.findClass RX5 = some m.cls := findClass_of_methodNamed B.named
  have hlocks := B.notSynchronized
  have hS : va_S (fun _ => False) s.heap s.heap [] := va_S.rf
  have hP : va_P D vwCl (wY cy ad ch g) s.heap := hP
  have inX5 : ∀ w ∈ wsX50, w ∈ wsX5_free := by decide +kernel
  have hl := lv_entry ([.ref (ad 0), .int (nI kd), .int (nI S)]) (n := 4) (Nat.le_of_ble_eq_true rfl)
  rw [lg_entry_eq]
  generalize (lg_sl ([.ref (ad 0), .int (nI kd), .int (nI S)]) ++ List.replicate (4 - (lg_sl ([.ref (ad 0), .int (nI kd), .int (nI S)])).length) Slot.unset).toArray = ls at hl ⊢
  have hl : lv_has ls 4 [(0, .ref (ad 0)), (1, .int (nI kd)), (2, .int (nI S))] := hl
  have hgen := True.intro
  have hE := hg.2.2.1
  have hV := hg.1
  have hC := hg.2.1
  have hS8 : 2 ^ gE g ≤ 2 ^ 14 := Nat.pow_le_pow_right (by decide) hE
  rcases (show kd = 0 ∨ kd = 1 by omega) with hk | hk
  · have hk5 := hk
    refine lv_aload_n hx hb dX5_free_0 rfl (lv_at hl 0 rfl) ?_
    refine va_get (D := D) (ci := 4) (v := .ref (ad 1)) (C := RX5) (T := TX5) (N := 4) hx hb hts inX5 hown hK.1 hP 0 rfl rfl 0 (by decide) (hts (.fieldLink RX5 10 "ColourForests" "graph" "LColourForests$Graph;") (List.mem_of_getElem? (i := 1) rfl)) (fun _ h9 => h9) rfl dX5_free_1 ?_
    refine lv_iload_n hx hb dX5_free_4 rfl (lv_at hl 2 rfl) ?_
    refine pu_call (va_runV (As := [.int (nI S)]) (rest := []) ⟨hx, hb, hml, hown, hts⟩ (c_X0_hasSet l D cy ad ch hg ((nI S))) (cwV 1 hts gX5_free_X0_hasSet rfl rfl rfl (by decide +kernel) ⟨Nat.le_of_ble_eq_true rfl, Nat.le_of_ble_eq_true rfl⟩) (PU_preV (ci := 0) (q0 := 3) hK hP 0 rfl rfl [3, 4, 5, 6, 7, 8] rfl) rfl rfl hl.1 rfl (lv_room (Nat.le_of_ble_eq_true rfl)) dX5_free_5 ⟨(Nat.zero_le _), (Nat.zero_le _)⟩) hS hP (fun H locs hP hS => ?_)
    refine b_ne (b := (isN ((nI S)) (2 ^ gE g))) (tgt := 13) hx hb dX5_free_8 (by decide) (fun c8 => ?_) (fun c8 => ?_)
    · refine lv_iload_n hx hb dX5_free_13 rfl (lv_at hl 1 rfl) ?_
      refine lv_iconst (v := nI 2) hx hb dX5_free_14 (by decide) ?_
      refine n_ne (a := kd) (b := 2) (tgt := 27) hx hb dX5_free_15 (by decide) (by omega) (by omega) (fun c15 => ?_) (fun c15 => ?_)
      · refine lv_aload_n hx hb dX5_free_27 rfl (lv_at hl 0 rfl) ?_
        refine lv_iload_n hx hb dX5_free_28 rfl (lv_at hl 1 rfl) ?_
        refine pv_call (va_runV (As := [.int (nI kd)]) (rest := []) ⟨hx, hb, hml, hown, hts⟩ (c_judge0 l D cy ad (x := (nI kd)) (by rw [hk])) (cwV 1 hts gX5_free_X5_judgeOf rfl rfl rfl (by decide +kernel) ⟨Nat.le_of_ble_eq_true rfl, Nat.le_of_ble_eq_true rfl⟩) (PU_preV (ci := 4) (q0 := 0) hK hP 0 rfl rfl [0] rfl) rfl rfl hl.1 rfl (lv_room (Nat.le_of_ble_eq_true rfl)) dX5_free_29 ⟨(Nat.zero_le _), (Nat.zero_le _)⟩) hS hP (fun H locs hP hS => ?_)
        refine lv_astore_n (lv' := [(3, .ref (ad 7)), (0, .ref (ad 0)), (1, .int (nI kd)), (2, .int (nI S))]) hx hb dX5_free_32 rfl hl (by decide) rfl (fun ls hl => ?_)
        refine lv_aload_n hx hb dX5_free_33 rfl (lv_at hl 0 rfl) ?_
        refine lv_ifnonnull (tgt := 39) hx hb dX5_free_34 (by decide) ?_
        refine lv_aload_n hx hb dX5_free_39 rfl (lv_at hl 0 rfl) ?_
        refine lv_iload_n hx hb dX5_free_40 rfl (lv_at hl 3 rfl) ?_
        refine pu_call (va_runU (As := [.int (nI S)]) (rest := []) ⟨hx, hb, hml, hown, hts⟩ (c_allows3 l D cy ad ch hg (S := S) (by omega)) (va_cwU 1 hts gX5_free_X1_allows_u126X3 rfl rfl rfl rfl (by decide +kernel) ⟨Nat.le_of_ble_eq_true rfl, Nat.le_of_ble_eq_true rfl⟩) (PU_preV (ci := 2) (q0 := 1) hK hP 0 rfl rfl [1, 3, 4, 5, 6, 7, 8] rfl) rfl rfl hl.1 rfl (lv_room (Nat.le_of_ble_eq_true rfl)) dX5_free_41 ⟨(Nat.zero_le _), (Nat.zero_le _)⟩) hS hP (fun H locs hP hS => ?_)
        refine pu_call (va_runS (As := [.int (bI (fr g S))]) (rest := []) ⟨hx, hb, hml, hown, hts⟩ (c_X5_told l D cy (fr g S)) (va_cwS 1 hts gX5_free_X5_told rfl rfl rfl (by decide +kernel) ⟨Nat.le_of_ble_eq_true rfl, Nat.le_of_ble_eq_true rfl⟩) (PU_preS hK hP [] rfl) rfl rfl hl.1 rfl (lv_room (Nat.le_of_ble_eq_true rfl)) dX5_free_44 ⟨(Nat.zero_le _), (Nat.zero_le _)⟩) hS hP (fun H locs hP hS => ?_)
        exact pu_iret (y := yX5_free) hx hb hr hlocks hS (by rw [hk]; rfl) dX5_free_47
      · exact absurd c15 (by omega)
    · exact absurd (c8.symm.trans (isN_y hS9 (by omega))) (by decide)
  · have hk5 := hk
    refine lv_aload_n hx hb dX5_free_0 rfl (lv_at hl 0 rfl) ?_
    refine va_get (D := D) (ci := 4) (v := .ref (ad 1)) (C := RX5) (T := TX5) (N := 4) hx hb hts inX5 hown hK.1 hP 0 rfl rfl 0 (by decide) (hts (.fieldLink RX5 10 "ColourForests" "graph" "LColourForests$Graph;") (List.mem_of_getElem? (i := 1) rfl)) (fun _ h9 => h9) rfl dX5_free_1 ?_
    refine lv_iload_n hx hb dX5_free_4 rfl (lv_at hl 2 rfl) ?_
    refine pu_call (va_runV (As := [.int (nI S)]) (rest := []) ⟨hx, hb, hml, hown, hts⟩ (c_X0_hasSet l D cy ad ch hg ((nI S))) (cwV 1 hts gX5_free_X0_hasSet rfl rfl rfl (by decide +kernel) ⟨Nat.le_of_ble_eq_true rfl, Nat.le_of_ble_eq_true rfl⟩) (PU_preV (ci := 0) (q0 := 3) hK hP 0 rfl rfl [3, 4, 5, 6, 7, 8] rfl) rfl rfl hl.1 rfl (lv_room (Nat.le_of_ble_eq_true rfl)) dX5_free_5 ⟨(Nat.zero_le _), (Nat.zero_le _)⟩) hS hP (fun H locs hP hS => ?_)
    refine b_ne (b := (isN ((nI S)) (2 ^ gE g))) (tgt := 13) hx hb dX5_free_8 (by decide) (fun c8 => ?_) (fun c8 => ?_)
    · refine lv_iload_n hx hb dX5_free_13 rfl (lv_at hl 1 rfl) ?_
      refine lv_iconst (v := nI 2) hx hb dX5_free_14 (by decide) ?_
      refine n_ne (a := kd) (b := 2) (tgt := 27) hx hb dX5_free_15 (by decide) (by omega) (by omega) (fun c15 => ?_) (fun c15 => ?_)
      · refine lv_aload_n hx hb dX5_free_27 rfl (lv_at hl 0 rfl) ?_
        refine lv_iload_n hx hb dX5_free_28 rfl (lv_at hl 1 rfl) ?_
        refine pv_call (va_runV (As := [.int (nI kd)]) (rest := []) ⟨hx, hb, hml, hown, hts⟩ (c_judge1 l D cy ad (x := (nI kd)) (by rw [hk])) (cwV 1 hts gX5_free_X5_judgeOf rfl rfl rfl (by decide +kernel) ⟨Nat.le_of_ble_eq_true rfl, Nat.le_of_ble_eq_true rfl⟩) (PU_preV (ci := 4) (q0 := 0) hK hP 0 rfl rfl [0] rfl) rfl rfl hl.1 rfl (lv_room (Nat.le_of_ble_eq_true rfl)) dX5_free_29 ⟨(Nat.zero_le _), (Nat.zero_le _)⟩) hS hP (fun H locs hP hS => ?_)
        refine lv_astore_n (lv' := [(3, .ref (ad 8)), (0, .ref (ad 0)), (1, .int (nI kd)), (2, .int (nI S))]) hx hb dX5_free_32 rfl hl (by decide) rfl (fun ls hl => ?_)
        refine lv_aload_n hx hb dX5_free_33 rfl (lv_at hl 0 rfl) ?_
        refine lv_ifnonnull (tgt := 39) hx hb dX5_free_34 (by decide) ?_
        refine lv_aload_n hx hb dX5_free_39 rfl (lv_at hl 0 rfl) ?_
        refine lv_iload_n hx hb dX5_free_40 rfl (lv_at hl 3 rfl) ?_
        refine pu_call (va_runU (As := [.int (nI S)]) (rest := []) ⟨hx, hb, hml, hown, hts⟩ (c_allows2 l D cy ad ch hg (S := S) (by omega)) (va_cwU 1 hts gX5_free_X1_allows_u126X2 rfl rfl rfl rfl (by decide +kernel) ⟨Nat.le_of_ble_eq_true rfl, Nat.le_of_ble_eq_true rfl⟩) (PU_preV (ci := 1) (q0 := 2) hK hP 0 rfl rfl [2, 3, 4, 5, 6, 7, 8] rfl) rfl rfl hl.1 rfl (lv_room (Nat.le_of_ble_eq_true rfl)) dX5_free_41 ⟨(Nat.zero_le _), (Nat.zero_le _)⟩) hS hP (fun H locs hP hS => ?_)
        refine pu_call (va_runS (As := [.int (bI (li g S))]) (rest := []) ⟨hx, hb, hml, hown, hts⟩ (c_X5_told l D cy (li g S)) (va_cwS 1 hts gX5_free_X5_told rfl rfl rfl (by decide +kernel) ⟨Nat.le_of_ble_eq_true rfl, Nat.le_of_ble_eq_true rfl⟩) (PU_preS hK hP [] rfl) rfl rfl hl.1 rfl (lv_room (Nat.le_of_ble_eq_true rfl)) dX5_free_44 ⟨(Nat.zero_le _), (Nat.zero_le _)⟩) hS hP (fun H locs hP hS => ?_)
        exact pu_iret (y := yX5_free) hx hb hr hlocks hS (by rw [hk]; rfl) dX5_free_47
      · exact absurd c15 (by omega)
    · exact absurd (c8.symm.trans (isN_y hS9 (by omega))) (by decide)

set_option maxHeartbeats 4000000 in
set_option maxRecDepth 100000 in
theorem c_X5_free_2 (l : Launch) (D : va_G) (cy : Nat → ClassId) (ad : Nat → Nat) (ch : Int32) {g : GT} (hg : gOK g) {S : Nat} (hS9 : S < 2 ^ gE g) : PU l yX5_free wsX5_free ({ frames := 5, cells := 0, slots := 0, locals := 115 }) D cy [.ref (ad 0), .int (nI 2), .int (nI S)] (wY cy ad ch g) ((bI (co g S))) := by
  refine Met.ofW (cc := cX5_free) (maxL := 4) (ret := (some .int)) (by decide) rfl ?_
  intro p ev s m args below meth c s₁ B hml hv
  obtain ⟨rfl, hK, hP⟩ := hv
  have hx := B.exec
  have hb := B.bytes
  have hr := B.returns
  have hts := atoms_spec (ws := wsX5_free) B.pre
  have hown : s.vm.findClass RX5 = some m.cls := findClass_of_methodNamed B.named
  have hlocks := B.notSynchronized
  have hS : va_S (fun _ => False) s.heap s.heap [] := va_S.rf
  have hP : va_P D vwCl (wY cy ad ch g) s.heap := hP
  have inX5 : ∀ w ∈ wsX50, w ∈ wsX5_free := by decide +kernel
  have hl := lv_entry ([.ref (ad 0), .int (nI 2), .int (nI S)]) (n := 4) (Nat.le_of_ble_eq_true rfl)
  rw [lg_entry_eq]
  generalize (lg_sl ([.ref (ad 0), .int (nI 2), .int (nI S)]) ++ List.replicate (4 - (lg_sl ([.ref (ad 0), .int (nI 2), .int (nI S)])).length) Slot.unset).toArray = ls at hl ⊢
  have hl : lv_has ls 4 [(0, .ref (ad 0)), (1, .int (nI 2)), (2, .int (nI S))] := hl
  have hgen := True.intro
  have hE := hg.2.2.1
  have hV := hg.1
  have hC := hg.2.1
  have hS8 : 2 ^ gE g ≤ 2 ^ 14 := Nat.pow_le_pow_right (by decide) hE
  refine lv_aload_n hx hb dX5_free_0 rfl (lv_at hl 0 rfl) ?_
  refine va_get (D := D) (ci := 4) (v := .ref (ad 1)) (C := RX5) (T := TX5) (N := 4) hx hb hts inX5 hown hK.1 hP 0 rfl rfl 0 (by decide) (hts (.fieldLink RX5 10 "ColourForests" "graph" "LColourForests$Graph;") (List.mem_of_getElem? (i := 1) rfl)) (fun _ h9 => h9) rfl dX5_free_1 ?_
  refine lv_iload_n hx hb dX5_free_4 rfl (lv_at hl 2 rfl) ?_
  refine pu_call (va_runV (As := [.int (nI S)]) (rest := []) ⟨hx, hb, hml, hown, hts⟩ (c_X0_hasSet l D cy ad ch hg ((nI S))) (cwV 1 hts gX5_free_X0_hasSet rfl rfl rfl (by decide +kernel) ⟨Nat.le_of_ble_eq_true rfl, Nat.le_of_ble_eq_true rfl⟩) (PU_preV (ci := 0) (q0 := 3) hK hP 0 rfl rfl [3, 4, 5, 6, 7, 8] rfl) rfl rfl hl.1 rfl (lv_room (Nat.le_of_ble_eq_true rfl)) dX5_free_5 ⟨(Nat.zero_le _), (Nat.zero_le _)⟩) hS hP (fun H locs hP hS => ?_)
  refine b_ne (b := (isN ((nI S)) (2 ^ gE g))) (tgt := 13) hx hb dX5_free_8 (by decide) (fun c8 => ?_) (fun c8 => ?_)
  · refine lv_iload_n hx hb dX5_free_13 rfl (lv_at hl 1 rfl) ?_
    refine lv_iconst (v := nI 2) hx hb dX5_free_14 (by decide) ?_
    refine n_ne (a := 2) (b := 2) (tgt := 27) hx hb dX5_free_15 (by decide) (by omega) (by omega) (fun c15 => ?_) (fun c15 => ?_)
    · exact absurd rfl c15
    · refine lv_aload_n hx hb dX5_free_18 rfl (lv_at hl 0 rfl) ?_
      refine lv_iload_n hx hb dX5_free_19 rfl (lv_at hl 2 rfl) ?_
      refine pu_call (va_runV (As := [.int (nI S)]) (rest := []) ⟨hx, hb, hml, hown, hts⟩ (c_X5_isCommon l D cy ad ch hg (S := S) (by omega)) (cwV 1 hts gX5_free_X5_isCommon rfl rfl rfl (by decide +kernel) ⟨Nat.le_of_ble_eq_true rfl, Nat.le_of_ble_eq_true rfl⟩) (PU_preV (ci := 4) (q0 := 0) hK hP 0 rfl rfl [0, 1, 2, 3, 4, 5, 6, 7, 8] rfl) rfl rfl hl.1 rfl (lv_room (Nat.le_of_ble_eq_true rfl)) dX5_free_20 ⟨(Nat.zero_le _), (Nat.zero_le _)⟩) hS hP (fun H locs hP hS => ?_)
      refine pu_call (va_runS (As := [.int (bI (co g S))]) (rest := []) ⟨hx, hb, hml, hown, hts⟩ (c_X5_told l D cy (co g S)) (va_cwS 1 hts gX5_free_X5_told rfl rfl rfl (by decide +kernel) ⟨Nat.le_of_ble_eq_true rfl, Nat.le_of_ble_eq_true rfl⟩) (PU_preS hK hP [] rfl) rfl rfl hl.1 rfl (lv_room (Nat.le_of_ble_eq_true rfl)) dX5_free_23 ⟨(Nat.zero_le _), (Nat.zero_le _)⟩) hS hP (fun H locs hP hS => ?_)
      exact pu_iret (y := yX5_free) hx hb hr hlocks hS (by first | rfl | (simp [bI, *]; done) | (simp_all [bI]; done)) dX5_free_26
  · exact absurd (c8.symm.trans (isN_y hS9 (by omega))) (by decide)

set_option maxHeartbeats 4000000 in
set_option maxRecDepth 100000 in
theorem c_X5_circuit_no (l : Launch) (D : va_G) (cy : Nat → ClassId) (ad : Nat → Nat) (ch : Int32) {g : GT} (hg : gOK g) {x y z : Int32} (h : (decide (x = 0 ∨ x = nI 1) && isN y (2 ^ gE g) && isN z (gE g)) = false) : PU l yX5_circuit wsX5_circuit ({ frames := 2, cells := 0, slots := 0, locals := 43 }) D cy [.ref (ad 0), .int x, .int y, .int z] (wY cy ad ch g) ((zI (-1))) := by
  refine Met.ofW (cc := cX5_circuit) (maxL := 5) (ret := (some .int)) (by decide) rfl ?_
  intro p ev s m args below meth c s₁ B hml hv
  obtain ⟨rfl, hK, hP⟩ := hv
  have hx := B.exec
  have hb := B.bytes
  have hr := B.returns
  have hts := atoms_spec (ws := wsX5_circuit) B.pre
  have hown : s.vm.findClass RX5 = some m.cls := findClass_of_methodNamed B.named
  have hlocks := B.notSynchronized
  have hS : va_S (fun _ => False) s.heap s.heap [] := va_S.rf
  have hP : va_P D vwCl (wY cy ad ch g) s.heap := hP
  have inX5 : ∀ w ∈ wsX50, w ∈ wsX5_circuit := by decide +kernel
  have hl := lv_entry ([.ref (ad 0), .int x, .int y, .int z]) (n := 5) (Nat.le_of_ble_eq_true rfl)
  rw [lg_entry_eq]
  generalize (lg_sl ([.ref (ad 0), .int x, .int y, .int z]) ++ List.replicate (5 - (lg_sl ([.ref (ad 0), .int x, .int y, .int z])).length) Slot.unset).toArray = ls at hl ⊢
  have hl : lv_has ls 5 [(0, .ref (ad 0)), (1, .int x), (2, .int y), (3, .int z)] := hl
  have hgen := True.intro
  have hE := hg.2.2.1
  have hV := hg.1
  have hC := hg.2.1
  have hS8 : 2 ^ gE g ≤ 2 ^ 14 := Nat.pow_le_pow_right (by decide) hE
  rcases kd_cases x with hk | hk | ⟨hk0, hk1⟩
  · have hkk : x = nI 0 ∨ x = nI 1 := Or.inl hk
    refine lv_aload_n hx hb dX5_circuit_0 rfl (lv_at hl 0 rfl) ?_
    refine lv_iload_n hx hb dX5_circuit_1 rfl (lv_at hl 1 rfl) ?_
    refine pv_call (va_runV (As := [.int x]) (rest := []) ⟨hx, hb, hml, hown, hts⟩ (c_judge0 l D cy ad (x := x) hk) (cwV 1 hts gX5_circuit_X5_judgeOf rfl rfl rfl (by decide +kernel) ⟨Nat.le_of_ble_eq_true rfl, Nat.le_of_ble_eq_true rfl⟩) (PU_preV (ci := 4) (q0 := 0) hK hP 0 rfl rfl [0] rfl) rfl rfl hl.1 rfl (lv_room (Nat.le_of_ble_eq_true rfl)) dX5_circuit_2 ⟨(Nat.zero_le _), (Nat.zero_le _)⟩) hS hP (fun H locs hP hS => ?_)
    refine lv_astore (lv' := [(4, .ref (ad 7)), (0, .ref (ad 0)), (1, .int x), (2, .int y), (3, .int z)]) hx hb dX5_circuit_5 hl (by decide) rfl (fun ls hl => ?_)
    refine lv_aload hx hb dX5_circuit_7 (lv_at hl 0 rfl) ?_
    refine lv_ifnull hx hb dX5_circuit_9 ?_
    refine lv_aload_n hx hb dX5_circuit_12 rfl (lv_at hl 1 rfl) ?_
    refine va_get (D := D) (ci := 4) (v := .ref (ad 1)) (C := RX5) (T := TX5) (N := 4) hx hb hts inX5 hown hK.1 hP 0 rfl rfl 0 (by decide) (hts (.fieldLink RX5 10 "ColourForests" "graph" "LColourForests$Graph;") (List.mem_of_getElem? (i := 1) rfl)) (fun _ h9 => h9) rfl dX5_circuit_13 ?_
    refine lv_iload_n hx hb dX5_circuit_16 rfl (lv_at hl 4 rfl) ?_
    refine pu_call (va_runV (As := [.int z]) (rest := []) ⟨hx, hb, hml, hown, hts⟩ (c_X0_hasEdge l D cy ad ch hg z) (cwV 1 hts gX5_circuit_X0_hasEdge rfl rfl rfl (by decide +kernel) ⟨Nat.le_of_ble_eq_true rfl, Nat.le_of_ble_eq_true rfl⟩) (PU_preV (ci := 0) (q0 := 3) hK hP 0 rfl rfl [3, 4, 5, 6, 7, 8] rfl) rfl rfl hl.1 rfl (lv_room (Nat.le_of_ble_eq_true rfl)) dX5_circuit_17 ⟨(Nat.zero_le _), (Nat.zero_le _)⟩) hS hP (fun H locs hP hS => ?_)
    refine b_eq (b := (isN z (gE g))) (tgt := 34) hx hb dX5_circuit_20 (by decide) (fun c20 => ?_) (fun c20 => ?_)
    · refine lv_iconst (v := zI (-1)) hx hb dX5_circuit_34 (by decide) ?_
      exact pu_iret (y := yX5_circuit) hx hb hr hlocks hS (by first | rfl | (simp [bI, *]; done) | (simp_all [bI]; done)) dX5_circuit_35
    · refine lv_aload_n hx hb dX5_circuit_23 rfl (lv_at hl 1 rfl) ?_
      refine va_get (D := D) (ci := 4) (v := .ref (ad 1)) (C := RX5) (T := TX5) (N := 4) hx hb hts inX5 hown hK.1 hP 0 rfl rfl 0 (by decide) (hts (.fieldLink RX5 10 "ColourForests" "graph" "LColourForests$Graph;") (List.mem_of_getElem? (i := 1) rfl)) (fun _ h9 => h9) rfl dX5_circuit_24 ?_
      refine lv_iload_n hx hb dX5_circuit_27 rfl (lv_at hl 3 rfl) ?_
      refine pu_call (va_runV (As := [.int y]) (rest := []) ⟨hx, hb, hml, hown, hts⟩ (c_X0_hasSet l D cy ad ch hg y) (cwV 1 hts gX5_circuit_X0_hasSet rfl rfl rfl (by decide +kernel) ⟨Nat.le_of_ble_eq_true rfl, Nat.le_of_ble_eq_true rfl⟩) (PU_preV (ci := 0) (q0 := 3) hK hP 0 rfl rfl [3, 4, 5, 6, 7, 8] rfl) rfl rfl hl.1 rfl (lv_room (Nat.le_of_ble_eq_true rfl)) dX5_circuit_28 ⟨(Nat.zero_le _), (Nat.zero_le _)⟩) hS hP (fun H locs hP hS => ?_)
      refine b_ne (b := (isN y (2 ^ gE g))) (tgt := 36) hx hb dX5_circuit_31 (by decide) (fun c31 => ?_) (fun c31 => ?_)
      · exact absurd h (by rw [show decide (x = 0 ∨ x = nI 1) = true from decide_eq_true hkk, c31, c20]; decide)
      · refine lv_iconst (v := zI (-1)) hx hb dX5_circuit_34 (by decide) ?_
        exact pu_iret (y := yX5_circuit) hx hb hr hlocks hS (by first | rfl | (simp [bI, *]; done) | (simp_all [bI]; done)) dX5_circuit_35
  · have hkk : x = nI 0 ∨ x = nI 1 := Or.inr hk
    refine lv_aload_n hx hb dX5_circuit_0 rfl (lv_at hl 0 rfl) ?_
    refine lv_iload_n hx hb dX5_circuit_1 rfl (lv_at hl 1 rfl) ?_
    refine pv_call (va_runV (As := [.int x]) (rest := []) ⟨hx, hb, hml, hown, hts⟩ (c_judge1 l D cy ad (x := x) hk) (cwV 1 hts gX5_circuit_X5_judgeOf rfl rfl rfl (by decide +kernel) ⟨Nat.le_of_ble_eq_true rfl, Nat.le_of_ble_eq_true rfl⟩) (PU_preV (ci := 4) (q0 := 0) hK hP 0 rfl rfl [0] rfl) rfl rfl hl.1 rfl (lv_room (Nat.le_of_ble_eq_true rfl)) dX5_circuit_2 ⟨(Nat.zero_le _), (Nat.zero_le _)⟩) hS hP (fun H locs hP hS => ?_)
    refine lv_astore (lv' := [(4, .ref (ad 8)), (0, .ref (ad 0)), (1, .int x), (2, .int y), (3, .int z)]) hx hb dX5_circuit_5 hl (by decide) rfl (fun ls hl => ?_)
    refine lv_aload hx hb dX5_circuit_7 (lv_at hl 0 rfl) ?_
    refine lv_ifnull hx hb dX5_circuit_9 ?_
    refine lv_aload_n hx hb dX5_circuit_12 rfl (lv_at hl 1 rfl) ?_
    refine va_get (D := D) (ci := 4) (v := .ref (ad 1)) (C := RX5) (T := TX5) (N := 4) hx hb hts inX5 hown hK.1 hP 0 rfl rfl 0 (by decide) (hts (.fieldLink RX5 10 "ColourForests" "graph" "LColourForests$Graph;") (List.mem_of_getElem? (i := 1) rfl)) (fun _ h9 => h9) rfl dX5_circuit_13 ?_
    refine lv_iload_n hx hb dX5_circuit_16 rfl (lv_at hl 4 rfl) ?_
    refine pu_call (va_runV (As := [.int z]) (rest := []) ⟨hx, hb, hml, hown, hts⟩ (c_X0_hasEdge l D cy ad ch hg z) (cwV 1 hts gX5_circuit_X0_hasEdge rfl rfl rfl (by decide +kernel) ⟨Nat.le_of_ble_eq_true rfl, Nat.le_of_ble_eq_true rfl⟩) (PU_preV (ci := 0) (q0 := 3) hK hP 0 rfl rfl [3, 4, 5, 6, 7, 8] rfl) rfl rfl hl.1 rfl (lv_room (Nat.le_of_ble_eq_true rfl)) dX5_circuit_17 ⟨(Nat.zero_le _), (Nat.zero_le _)⟩) hS hP (fun H locs hP hS => ?_)
    refine b_eq (b := (isN z (gE g))) (tgt := 34) hx hb dX5_circuit_20 (by decide) (fun c20 => ?_) (fun c20 => ?_)
    · refine lv_iconst (v := zI (-1)) hx hb dX5_circuit_34 (by decide) ?_
      exact pu_iret (y := yX5_circuit) hx hb hr hlocks hS (by first | rfl | (simp [bI, *]; done) | (simp_all [bI]; done)) dX5_circuit_35
    · refine lv_aload_n hx hb dX5_circuit_23 rfl (lv_at hl 1 rfl) ?_
      refine va_get (D := D) (ci := 4) (v := .ref (ad 1)) (C := RX5) (T := TX5) (N := 4) hx hb hts inX5 hown hK.1 hP 0 rfl rfl 0 (by decide) (hts (.fieldLink RX5 10 "ColourForests" "graph" "LColourForests$Graph;") (List.mem_of_getElem? (i := 1) rfl)) (fun _ h9 => h9) rfl dX5_circuit_24 ?_
      refine lv_iload_n hx hb dX5_circuit_27 rfl (lv_at hl 3 rfl) ?_
      refine pu_call (va_runV (As := [.int y]) (rest := []) ⟨hx, hb, hml, hown, hts⟩ (c_X0_hasSet l D cy ad ch hg y) (cwV 1 hts gX5_circuit_X0_hasSet rfl rfl rfl (by decide +kernel) ⟨Nat.le_of_ble_eq_true rfl, Nat.le_of_ble_eq_true rfl⟩) (PU_preV (ci := 0) (q0 := 3) hK hP 0 rfl rfl [3, 4, 5, 6, 7, 8] rfl) rfl rfl hl.1 rfl (lv_room (Nat.le_of_ble_eq_true rfl)) dX5_circuit_28 ⟨(Nat.zero_le _), (Nat.zero_le _)⟩) hS hP (fun H locs hP hS => ?_)
      refine b_ne (b := (isN y (2 ^ gE g))) (tgt := 36) hx hb dX5_circuit_31 (by decide) (fun c31 => ?_) (fun c31 => ?_)
      · exact absurd h (by rw [show decide (x = 0 ∨ x = nI 1) = true from decide_eq_true hkk, c31, c20]; decide)
      · refine lv_iconst (v := zI (-1)) hx hb dX5_circuit_34 (by decide) ?_
        exact pu_iret (y := yX5_circuit) hx hb hr hlocks hS (by first | rfl | (simp [bI, *]; done) | (simp_all [bI]; done)) dX5_circuit_35
  · have hkk := hk0
    refine lv_aload_n hx hb dX5_circuit_0 rfl (lv_at hl 0 rfl) ?_
    refine lv_iload_n hx hb dX5_circuit_1 rfl (lv_at hl 1 rfl) ?_
    refine pv_call (va_runV (As := [.int x]) (rest := []) ⟨hx, hb, hml, hown, hts⟩ (c_judgeN l D cy ad (x := x) hk0 hk1) (cwV 1 hts gX5_circuit_X5_judgeOf rfl rfl rfl (by decide +kernel) ⟨Nat.le_of_ble_eq_true rfl, Nat.le_of_ble_eq_true rfl⟩) (PU_preV (ci := 4) (q0 := 0) hK hP 0 rfl rfl [0] rfl) rfl rfl hl.1 rfl (lv_room (Nat.le_of_ble_eq_true rfl)) dX5_circuit_2 ⟨(Nat.zero_le _), (Nat.zero_le _)⟩) hS hP (fun H locs hP hS => ?_)
    refine lv_astoreN (lv' := [(4, .null), (0, .ref (ad 0)), (1, .int x), (2, .int y), (3, .int z)]) hx hb dX5_circuit_5 hl (by decide) rfl (fun ls hl => ?_)
    refine lv_aloadN hx hb dX5_circuit_7 (lv_at hl 0 rfl) ?_
    refine lv_ifnullN (tgt := 34) hx hb dX5_circuit_9 (by decide) ?_
    refine lv_iconst (v := zI (-1)) hx hb dX5_circuit_34 (by decide) ?_
    exact pu_iret (y := yX5_circuit) hx hb hr hlocks hS (by first | rfl | (simp [bI, *]; done) | (simp_all [bI]; done)) dX5_circuit_35

set_option maxHeartbeats 4000000 in
set_option maxRecDepth 100000 in
theorem c_X5_circuit_yes (l : Launch) (D : va_G) (cy : Nat → ClassId) (ad : Nat → Nat) (ch : Int32) {g : GT} (hg : gOK g) {kd S e : Nat} (hk9 : kd < 2) (hS9 : S < 2 ^ gE g) (he : e < gE g) : PU l yX5_circuit wsX5_circuit ({ frames := 4, cells := 0, slots := 0, locals := 98 }) D cy [.ref (ad 0), .int (nI kd), .int (nI S), .int (nI e)] (wY cy ad ch g) ((ciA g kd S e)) := by
  refine Met.ofW (cc := cX5_circuit) (maxL := 5) (ret := (some .int)) (by decide) rfl ?_
  intro p ev s m args below meth c s₁ B hml hv
  obtain ⟨rfl, hK, hP⟩ := hv
  have hx := B.exec
  have hb := B.bytes
  have hr := B.returns
  have hts := atoms_spec (ws := wsX5_circuit) B.pre
  have hown : s.vm.findClass RX5 = some m.cls := findClass_of_methodNamed B.named
  have hlocks := B.notSynchronized
  have hS : va_S (fun _ => False) s.heap s.heap [] := va_S.rf
  have hP : va_P D vwCl (wY cy ad ch g) s.heap := hP
  have inX5 : ∀ w ∈ wsX50, w ∈ wsX5_circuit := by decide +kernel
  have hl := lv_entry ([.ref (ad 0), .int (nI kd), .int (nI S), .int (nI e)]) (n := 5) (Nat.le_of_ble_eq_true rfl)
  rw [lg_entry_eq]
  generalize (lg_sl ([.ref (ad 0), .int (nI kd), .int (nI S), .int (nI e)]) ++ List.replicate (5 - (lg_sl ([.ref (ad 0), .int (nI kd), .int (nI S), .int (nI e)])).length) Slot.unset).toArray = ls at hl ⊢
  have hl : lv_has ls 5 [(0, .ref (ad 0)), (1, .int (nI kd)), (2, .int (nI S)), (3, .int (nI e))] := hl
  have hgen := True.intro
  have hE := hg.2.2.1
  have hV := hg.1
  have hC := hg.2.1
  have hS8 : 2 ^ gE g ≤ 2 ^ 14 := Nat.pow_le_pow_right (by decide) hE
  rcases (show kd = 0 ∨ kd = 1 by omega) with hk | hk
  · have hk5 := hk
    refine lv_aload_n hx hb dX5_circuit_0 rfl (lv_at hl 0 rfl) ?_
    refine lv_iload_n hx hb dX5_circuit_1 rfl (lv_at hl 1 rfl) ?_
    refine pv_call (va_runV (As := [.int (nI kd)]) (rest := []) ⟨hx, hb, hml, hown, hts⟩ (c_judge0 l D cy ad (x := (nI kd)) (by rw [hk])) (cwV 1 hts gX5_circuit_X5_judgeOf rfl rfl rfl (by decide +kernel) ⟨Nat.le_of_ble_eq_true rfl, Nat.le_of_ble_eq_true rfl⟩) (PU_preV (ci := 4) (q0 := 0) hK hP 0 rfl rfl [0] rfl) rfl rfl hl.1 rfl (lv_room (Nat.le_of_ble_eq_true rfl)) dX5_circuit_2 ⟨(Nat.zero_le _), (Nat.zero_le _)⟩) hS hP (fun H locs hP hS => ?_)
    refine lv_astore (lv' := [(4, .ref (ad 7)), (0, .ref (ad 0)), (1, .int (nI kd)), (2, .int (nI S)), (3, .int (nI e))]) hx hb dX5_circuit_5 hl (by decide) rfl (fun ls hl => ?_)
    refine lv_aload hx hb dX5_circuit_7 (lv_at hl 0 rfl) ?_
    refine lv_ifnull hx hb dX5_circuit_9 ?_
    refine lv_aload_n hx hb dX5_circuit_12 rfl (lv_at hl 1 rfl) ?_
    refine va_get (D := D) (ci := 4) (v := .ref (ad 1)) (C := RX5) (T := TX5) (N := 4) hx hb hts inX5 hown hK.1 hP 0 rfl rfl 0 (by decide) (hts (.fieldLink RX5 10 "ColourForests" "graph" "LColourForests$Graph;") (List.mem_of_getElem? (i := 1) rfl)) (fun _ h9 => h9) rfl dX5_circuit_13 ?_
    refine lv_iload_n hx hb dX5_circuit_16 rfl (lv_at hl 4 rfl) ?_
    refine pu_call (va_runV (As := [.int (nI e)]) (rest := []) ⟨hx, hb, hml, hown, hts⟩ (c_X0_hasEdge l D cy ad ch hg ((nI e))) (cwV 1 hts gX5_circuit_X0_hasEdge rfl rfl rfl (by decide +kernel) ⟨Nat.le_of_ble_eq_true rfl, Nat.le_of_ble_eq_true rfl⟩) (PU_preV (ci := 0) (q0 := 3) hK hP 0 rfl rfl [3, 4, 5, 6, 7, 8] rfl) rfl rfl hl.1 rfl (lv_room (Nat.le_of_ble_eq_true rfl)) dX5_circuit_17 ⟨(Nat.zero_le _), (Nat.zero_le _)⟩) hS hP (fun H locs hP hS => ?_)
    refine b_eq (b := (isN ((nI e)) (gE g))) (tgt := 34) hx hb dX5_circuit_20 (by decide) (fun c20 => ?_) (fun c20 => ?_)
    · exact absurd (c20.symm.trans (isN_y he (by omega))) (by decide)
    · refine lv_aload_n hx hb dX5_circuit_23 rfl (lv_at hl 1 rfl) ?_
      refine va_get (D := D) (ci := 4) (v := .ref (ad 1)) (C := RX5) (T := TX5) (N := 4) hx hb hts inX5 hown hK.1 hP 0 rfl rfl 0 (by decide) (hts (.fieldLink RX5 10 "ColourForests" "graph" "LColourForests$Graph;") (List.mem_of_getElem? (i := 1) rfl)) (fun _ h9 => h9) rfl dX5_circuit_24 ?_
      refine lv_iload_n hx hb dX5_circuit_27 rfl (lv_at hl 3 rfl) ?_
      refine pu_call (va_runV (As := [.int (nI S)]) (rest := []) ⟨hx, hb, hml, hown, hts⟩ (c_X0_hasSet l D cy ad ch hg ((nI S))) (cwV 1 hts gX5_circuit_X0_hasSet rfl rfl rfl (by decide +kernel) ⟨Nat.le_of_ble_eq_true rfl, Nat.le_of_ble_eq_true rfl⟩) (PU_preV (ci := 0) (q0 := 3) hK hP 0 rfl rfl [3, 4, 5, 6, 7, 8] rfl) rfl rfl hl.1 rfl (lv_room (Nat.le_of_ble_eq_true rfl)) dX5_circuit_28 ⟨(Nat.zero_le _), (Nat.zero_le _)⟩) hS hP (fun H locs hP hS => ?_)
      refine b_ne (b := (isN ((nI S)) (2 ^ gE g))) (tgt := 36) hx hb dX5_circuit_31 (by decide) (fun c31 => ?_) (fun c31 => ?_)
      · refine lv_aload hx hb dX5_circuit_36 (lv_at hl 0 rfl) ?_
        refine lv_iload_n hx hb dX5_circuit_38 rfl (lv_at hl 3 rfl) ?_
        refine pu_call (va_runU (As := [.int (nI S)]) (rest := []) ⟨hx, hb, hml, hown, hts⟩ (c_allows3 l D cy ad ch hg (S := S) (by omega)) (va_cwU 1 hts gX5_circuit_X1_allows_u126X3 rfl rfl rfl rfl (by decide +kernel) ⟨Nat.le_of_ble_eq_true rfl, Nat.le_of_ble_eq_true rfl⟩) (PU_preV (ci := 2) (q0 := 1) hK hP 0 rfl rfl [1, 3, 4, 5, 6, 7, 8] rfl) rfl rfl hl.1 rfl (lv_room (Nat.le_of_ble_eq_true rfl)) dX5_circuit_39 ⟨(Nat.zero_le _), (Nat.zero_le _)⟩) hS hP (fun H locs hP hS => ?_)
        refine b_eq (b := (fr g S)) (tgt := 53) hx hb dX5_circuit_42 (by decide) (fun c42 => ?_) (fun c42 => ?_)
        · refine lv_iconst (v := zI (-1)) hx hb dX5_circuit_53 (by decide) ?_
          exact pu_iret (y := yX5_circuit) hx hb hr hlocks hS (by subst hk5; unfold ciA; first | rw [if_neg (fun q => absurd ((show fN g 0 S = false from c42).symm.trans q.1) (by decide))] | rw [if_neg (fun q => absurd (c50.symm.trans q.2) (by decide))]) dX5_circuit_54
        · refine lv_iload_n hx hb dX5_circuit_45 rfl (lv_at hl 3 rfl) ?_
          refine lv_iload_n hx hb dX5_circuit_46 rfl (lv_at hl 4 rfl) ?_
          refine pu_call (va_runS (As := [.int (nI S), .int (nI e)]) (rest := []) ⟨hx, hb, hml, hown, hts⟩ (c_X5_hasBit l D cy (S := S) (e := e) (by omega) (by omega)) (va_cwS 2 hts gX5_circuit_X5_hasBit rfl rfl rfl (by decide +kernel) ⟨Nat.le_of_ble_eq_true rfl, Nat.le_of_ble_eq_true rfl⟩) (PU_preS hK hP [] rfl) rfl rfl hl.1 rfl (lv_room (Nat.le_of_ble_eq_true rfl)) dX5_circuit_47 ⟨(Nat.zero_le _), (Nat.zero_le _)⟩) hS hP (fun H locs hP hS => ?_)
          refine b_eq (b := (S.testBit e)) (tgt := 55) hx hb dX5_circuit_50 (by decide) (fun c50 => ?_) (fun c50 => ?_)
          · refine lv_aload hx hb dX5_circuit_55 (lv_at hl 0 rfl) ?_
            refine lv_iload_n hx hb dX5_circuit_57 rfl (lv_at hl 3 rfl) ?_
            refine lv_iconst (v := nI 1) hx hb dX5_circuit_58 (by decide) ?_
            refine lv_iload_n hx hb dX5_circuit_59 rfl (lv_at hl 4 rfl) ?_
            refine lv_ishl hx hb dX5_circuit_60 ?_
            refine lv_as (y := (nI (2 ^ e))) (ni_bit (by omega)) ?_
            refine lv_ior hx hb dX5_circuit_61 ?_
            refine lv_as (y := (nI (S ||| (2 ^ e)))) (ni_or _ _) ?_
            refine pu_call (va_runU (As := [.int (nI (S ||| (2 ^ e)))]) (rest := []) ⟨hx, hb, hml, hown, hts⟩ (c_circuitWithin3 l D cy ad ch hg (S := S ||| (2 ^ e)) (ms_ins_lt hS9 he)) (va_cwU 1 hts gX5_circuit_X1_circuitWithin_u133X3 rfl rfl rfl rfl (by decide +kernel) ⟨Nat.le_of_ble_eq_true rfl, Nat.le_of_ble_eq_true rfl⟩) (PU_preV (ci := 2) (q0 := 1) hK hP 0 rfl rfl [1, 3, 4, 5, 6, 7, 8] rfl) rfl rfl hl.1 rfl (lv_room (Nat.le_of_ble_eq_true rfl)) dX5_circuit_62 ⟨(Nat.zero_le _), (Nat.zero_le _)⟩) hS hP (fun H locs hP hS => ?_)
            exact pu_iret (y := yX5_circuit) hx hb hr hlocks hS (by subst hk5; exact ci_same hg (k := 0) hS9 he c42 c50) dX5_circuit_65
          · refine lv_iconst (v := zI (-1)) hx hb dX5_circuit_53 (by decide) ?_
            exact pu_iret (y := yX5_circuit) hx hb hr hlocks hS (by subst hk5; unfold ciA; first | rw [if_neg (fun q => absurd ((show fN g 0 S = false from c42).symm.trans q.1) (by decide))] | rw [if_neg (fun q => absurd (c50.symm.trans q.2) (by decide))]) dX5_circuit_54
      · exact absurd (c31.symm.trans (isN_y hS9 (by omega))) (by decide)
  · have hk5 := hk
    refine lv_aload_n hx hb dX5_circuit_0 rfl (lv_at hl 0 rfl) ?_
    refine lv_iload_n hx hb dX5_circuit_1 rfl (lv_at hl 1 rfl) ?_
    refine pv_call (va_runV (As := [.int (nI kd)]) (rest := []) ⟨hx, hb, hml, hown, hts⟩ (c_judge1 l D cy ad (x := (nI kd)) (by rw [hk])) (cwV 1 hts gX5_circuit_X5_judgeOf rfl rfl rfl (by decide +kernel) ⟨Nat.le_of_ble_eq_true rfl, Nat.le_of_ble_eq_true rfl⟩) (PU_preV (ci := 4) (q0 := 0) hK hP 0 rfl rfl [0] rfl) rfl rfl hl.1 rfl (lv_room (Nat.le_of_ble_eq_true rfl)) dX5_circuit_2 ⟨(Nat.zero_le _), (Nat.zero_le _)⟩) hS hP (fun H locs hP hS => ?_)
    refine lv_astore (lv' := [(4, .ref (ad 8)), (0, .ref (ad 0)), (1, .int (nI kd)), (2, .int (nI S)), (3, .int (nI e))]) hx hb dX5_circuit_5 hl (by decide) rfl (fun ls hl => ?_)
    refine lv_aload hx hb dX5_circuit_7 (lv_at hl 0 rfl) ?_
    refine lv_ifnull hx hb dX5_circuit_9 ?_
    refine lv_aload_n hx hb dX5_circuit_12 rfl (lv_at hl 1 rfl) ?_
    refine va_get (D := D) (ci := 4) (v := .ref (ad 1)) (C := RX5) (T := TX5) (N := 4) hx hb hts inX5 hown hK.1 hP 0 rfl rfl 0 (by decide) (hts (.fieldLink RX5 10 "ColourForests" "graph" "LColourForests$Graph;") (List.mem_of_getElem? (i := 1) rfl)) (fun _ h9 => h9) rfl dX5_circuit_13 ?_
    refine lv_iload_n hx hb dX5_circuit_16 rfl (lv_at hl 4 rfl) ?_
    refine pu_call (va_runV (As := [.int (nI e)]) (rest := []) ⟨hx, hb, hml, hown, hts⟩ (c_X0_hasEdge l D cy ad ch hg ((nI e))) (cwV 1 hts gX5_circuit_X0_hasEdge rfl rfl rfl (by decide +kernel) ⟨Nat.le_of_ble_eq_true rfl, Nat.le_of_ble_eq_true rfl⟩) (PU_preV (ci := 0) (q0 := 3) hK hP 0 rfl rfl [3, 4, 5, 6, 7, 8] rfl) rfl rfl hl.1 rfl (lv_room (Nat.le_of_ble_eq_true rfl)) dX5_circuit_17 ⟨(Nat.zero_le _), (Nat.zero_le _)⟩) hS hP (fun H locs hP hS => ?_)
    refine b_eq (b := (isN ((nI e)) (gE g))) (tgt := 34) hx hb dX5_circuit_20 (by decide) (fun c20 => ?_) (fun c20 => ?_)
    · exact absurd (c20.symm.trans (isN_y he (by omega))) (by decide)
    · refine lv_aload_n hx hb dX5_circuit_23 rfl (lv_at hl 1 rfl) ?_
      refine va_get (D := D) (ci := 4) (v := .ref (ad 1)) (C := RX5) (T := TX5) (N := 4) hx hb hts inX5 hown hK.1 hP 0 rfl rfl 0 (by decide) (hts (.fieldLink RX5 10 "ColourForests" "graph" "LColourForests$Graph;") (List.mem_of_getElem? (i := 1) rfl)) (fun _ h9 => h9) rfl dX5_circuit_24 ?_
      refine lv_iload_n hx hb dX5_circuit_27 rfl (lv_at hl 3 rfl) ?_
      refine pu_call (va_runV (As := [.int (nI S)]) (rest := []) ⟨hx, hb, hml, hown, hts⟩ (c_X0_hasSet l D cy ad ch hg ((nI S))) (cwV 1 hts gX5_circuit_X0_hasSet rfl rfl rfl (by decide +kernel) ⟨Nat.le_of_ble_eq_true rfl, Nat.le_of_ble_eq_true rfl⟩) (PU_preV (ci := 0) (q0 := 3) hK hP 0 rfl rfl [3, 4, 5, 6, 7, 8] rfl) rfl rfl hl.1 rfl (lv_room (Nat.le_of_ble_eq_true rfl)) dX5_circuit_28 ⟨(Nat.zero_le _), (Nat.zero_le _)⟩) hS hP (fun H locs hP hS => ?_)
      refine b_ne (b := (isN ((nI S)) (2 ^ gE g))) (tgt := 36) hx hb dX5_circuit_31 (by decide) (fun c31 => ?_) (fun c31 => ?_)
      · refine lv_aload hx hb dX5_circuit_36 (lv_at hl 0 rfl) ?_
        refine lv_iload_n hx hb dX5_circuit_38 rfl (lv_at hl 3 rfl) ?_
        refine pu_call (va_runU (As := [.int (nI S)]) (rest := []) ⟨hx, hb, hml, hown, hts⟩ (c_allows2 l D cy ad ch hg (S := S) (by omega)) (va_cwU 1 hts gX5_circuit_X1_allows_u126X2 rfl rfl rfl rfl (by decide +kernel) ⟨Nat.le_of_ble_eq_true rfl, Nat.le_of_ble_eq_true rfl⟩) (PU_preV (ci := 1) (q0 := 2) hK hP 0 rfl rfl [2, 3, 4, 5, 6, 7, 8] rfl) rfl rfl hl.1 rfl (lv_room (Nat.le_of_ble_eq_true rfl)) dX5_circuit_39 ⟨(Nat.zero_le _), (Nat.zero_le _)⟩) hS hP (fun H locs hP hS => ?_)
        refine b_eq (b := (li g S)) (tgt := 53) hx hb dX5_circuit_42 (by decide) (fun c42 => ?_) (fun c42 => ?_)
        · refine lv_iconst (v := zI (-1)) hx hb dX5_circuit_53 (by decide) ?_
          exact pu_iret (y := yX5_circuit) hx hb hr hlocks hS (by subst hk5; unfold ciA; first | rw [if_neg (fun q => absurd ((show fN g 1 S = false from c42).symm.trans q.1) (by decide))] | rw [if_neg (fun q => absurd (c50.symm.trans q.2) (by decide))]) dX5_circuit_54
        · refine lv_iload_n hx hb dX5_circuit_45 rfl (lv_at hl 3 rfl) ?_
          refine lv_iload_n hx hb dX5_circuit_46 rfl (lv_at hl 4 rfl) ?_
          refine pu_call (va_runS (As := [.int (nI S), .int (nI e)]) (rest := []) ⟨hx, hb, hml, hown, hts⟩ (c_X5_hasBit l D cy (S := S) (e := e) (by omega) (by omega)) (va_cwS 2 hts gX5_circuit_X5_hasBit rfl rfl rfl (by decide +kernel) ⟨Nat.le_of_ble_eq_true rfl, Nat.le_of_ble_eq_true rfl⟩) (PU_preS hK hP [] rfl) rfl rfl hl.1 rfl (lv_room (Nat.le_of_ble_eq_true rfl)) dX5_circuit_47 ⟨(Nat.zero_le _), (Nat.zero_le _)⟩) hS hP (fun H locs hP hS => ?_)
          refine b_eq (b := (S.testBit e)) (tgt := 55) hx hb dX5_circuit_50 (by decide) (fun c50 => ?_) (fun c50 => ?_)
          · refine lv_aload hx hb dX5_circuit_55 (lv_at hl 0 rfl) ?_
            refine lv_iload_n hx hb dX5_circuit_57 rfl (lv_at hl 3 rfl) ?_
            refine lv_iconst (v := nI 1) hx hb dX5_circuit_58 (by decide) ?_
            refine lv_iload_n hx hb dX5_circuit_59 rfl (lv_at hl 4 rfl) ?_
            refine lv_ishl hx hb dX5_circuit_60 ?_
            refine lv_as (y := (nI (2 ^ e))) (ni_bit (by omega)) ?_
            refine lv_ior hx hb dX5_circuit_61 ?_
            refine lv_as (y := (nI (S ||| (2 ^ e)))) (ni_or _ _) ?_
            refine pu_call (va_runU (As := [.int (nI (S ||| (2 ^ e)))]) (rest := []) ⟨hx, hb, hml, hown, hts⟩ (c_circuitWithin2 l D cy ad ch hg (S := S ||| (2 ^ e)) (ms_ins_lt hS9 he)) (va_cwU 1 hts gX5_circuit_X1_circuitWithin_u133X2 rfl rfl rfl rfl (by decide +kernel) ⟨Nat.le_of_ble_eq_true rfl, Nat.le_of_ble_eq_true rfl⟩) (PU_preV (ci := 1) (q0 := 2) hK hP 0 rfl rfl [2, 3, 4, 5, 6, 7, 8] rfl) rfl rfl hl.1 rfl (lv_room (Nat.le_of_ble_eq_true rfl)) dX5_circuit_62 ⟨(Nat.zero_le _), (Nat.zero_le _)⟩) hS hP (fun H locs hP hS => ?_)
            exact pu_iret (y := yX5_circuit) hx hb hr hlocks hS (by subst hk5; exact ci_same hg (k := 1) hS9 he c42 c50) dX5_circuit_65
          · refine lv_iconst (v := zI (-1)) hx hb dX5_circuit_53 (by decide) ?_
            exact pu_iret (y := yX5_circuit) hx hb hr hlocks hS (by subst hk5; unfold ciA; first | rw [if_neg (fun q => absurd ((show fN g 1 S = false from c42).symm.trans q.1) (by decide))] | rw [if_neg (fun q => absurd (c50.symm.trans q.2) (by decide))]) dX5_circuit_54
      · exact absurd (c31.symm.trans (isN_y hS9 (by omega))) (by decide)

set_option maxHeartbeats 4000000 in
set_option maxRecDepth 100000 in
theorem c_X5_closure_no (l : Launch) (D : va_G) (cy : Nat → ClassId) (ad : Nat → Nat) (ch : Int32) {g : GT} (hg : gOK g) {x y : Int32} (h : (decide (x = 0 ∨ x = nI 1) && isN y (2 ^ gE g)) = false) : PU l yX5_closure wsX5_closure ({ frames := 2, cells := 0, slots := 0, locals := 41 }) D cy [.ref (ad 0), .int x, .int y] (wY cy ad ch g) ((zI (-1))) := by
  refine Met.ofW (cc := cX5_closure) (maxL := 4) (ret := (some .int)) (by decide) rfl ?_
  intro p ev s m args below meth c s₁ B hml hv
  obtain ⟨rfl, hK, hP⟩ := hv
  have hx := B.exec
  have hb := B.bytes
  have hr := B.returns
  have hts := atoms_spec (ws := wsX5_closure) B.pre
  have hown : s.vm.findClass RX5 = some m.cls := findClass_of_methodNamed B.named
  have hlocks := B.notSynchronized
  have hS : va_S (fun _ => False) s.heap s.heap [] := va_S.rf
  have hP : va_P D vwCl (wY cy ad ch g) s.heap := hP
  have inX5 : ∀ w ∈ wsX50, w ∈ wsX5_closure := by decide +kernel
  have hl := lv_entry ([.ref (ad 0), .int x, .int y]) (n := 4) (Nat.le_of_ble_eq_true rfl)
  rw [lg_entry_eq]
  generalize (lg_sl ([.ref (ad 0), .int x, .int y]) ++ List.replicate (4 - (lg_sl ([.ref (ad 0), .int x, .int y])).length) Slot.unset).toArray = ls at hl ⊢
  have hl : lv_has ls 4 [(0, .ref (ad 0)), (1, .int x), (2, .int y)] := hl
  have hgen := True.intro
  have hE := hg.2.2.1
  have hV := hg.1
  have hC := hg.2.1
  have hS8 : 2 ^ gE g ≤ 2 ^ 14 := Nat.pow_le_pow_right (by decide) hE
  rcases kd_cases x with hk | hk | ⟨hk0, hk1⟩
  · have hkk : x = nI 0 ∨ x = nI 1 := Or.inl hk
    refine lv_aload_n hx hb dX5_closure_0 rfl (lv_at hl 0 rfl) ?_
    refine lv_iload_n hx hb dX5_closure_1 rfl (lv_at hl 1 rfl) ?_
    refine pv_call (va_runV (As := [.int x]) (rest := []) ⟨hx, hb, hml, hown, hts⟩ (c_judge0 l D cy ad (x := x) hk) (cwV 1 hts gX5_closure_X5_judgeOf rfl rfl rfl (by decide +kernel) ⟨Nat.le_of_ble_eq_true rfl, Nat.le_of_ble_eq_true rfl⟩) (PU_preV (ci := 4) (q0 := 0) hK hP 0 rfl rfl [0] rfl) rfl rfl hl.1 rfl (lv_room (Nat.le_of_ble_eq_true rfl)) dX5_closure_2 ⟨(Nat.zero_le _), (Nat.zero_le _)⟩) hS hP (fun H locs hP hS => ?_)
    refine lv_astore_n (lv' := [(3, .ref (ad 7)), (0, .ref (ad 0)), (1, .int x), (2, .int y)]) hx hb dX5_closure_5 rfl hl (by decide) rfl (fun ls hl => ?_)
    refine lv_aload_n hx hb dX5_closure_6 rfl (lv_at hl 0 rfl) ?_
    refine lv_ifnull hx hb dX5_closure_7 ?_
    refine lv_aload_n hx hb dX5_closure_10 rfl (lv_at hl 1 rfl) ?_
    refine va_get (D := D) (ci := 4) (v := .ref (ad 1)) (C := RX5) (T := TX5) (N := 4) hx hb hts inX5 hown hK.1 hP 0 rfl rfl 0 (by decide) (hts (.fieldLink RX5 10 "ColourForests" "graph" "LColourForests$Graph;") (List.mem_of_getElem? (i := 1) rfl)) (fun _ h9 => h9) rfl dX5_closure_11 ?_
    refine lv_iload_n hx hb dX5_closure_14 rfl (lv_at hl 3 rfl) ?_
    refine pu_call (va_runV (As := [.int y]) (rest := []) ⟨hx, hb, hml, hown, hts⟩ (c_X0_hasSet l D cy ad ch hg y) (cwV 1 hts gX5_closure_X0_hasSet rfl rfl rfl (by decide +kernel) ⟨Nat.le_of_ble_eq_true rfl, Nat.le_of_ble_eq_true rfl⟩) (PU_preV (ci := 0) (q0 := 3) hK hP 0 rfl rfl [3, 4, 5, 6, 7, 8] rfl) rfl rfl hl.1 rfl (lv_room (Nat.le_of_ble_eq_true rfl)) dX5_closure_15 ⟨(Nat.zero_le _), (Nat.zero_le _)⟩) hS hP (fun H locs hP hS => ?_)
    refine b_ne (b := (isN y (2 ^ gE g))) (tgt := 23) hx hb dX5_closure_18 (by decide) (fun c18 => ?_) (fun c18 => ?_)
    · exact absurd ((bad_a h hkk).symm.trans c18) (by decide)
    · refine lv_iconst (v := zI (-1)) hx hb dX5_closure_21 (by decide) ?_
      exact pu_iret (y := yX5_closure) hx hb hr hlocks hS (by first | rfl | (simp [bI, *]; done) | (simp_all [bI]; done)) dX5_closure_22
  · have hkk : x = nI 0 ∨ x = nI 1 := Or.inr hk
    refine lv_aload_n hx hb dX5_closure_0 rfl (lv_at hl 0 rfl) ?_
    refine lv_iload_n hx hb dX5_closure_1 rfl (lv_at hl 1 rfl) ?_
    refine pv_call (va_runV (As := [.int x]) (rest := []) ⟨hx, hb, hml, hown, hts⟩ (c_judge1 l D cy ad (x := x) hk) (cwV 1 hts gX5_closure_X5_judgeOf rfl rfl rfl (by decide +kernel) ⟨Nat.le_of_ble_eq_true rfl, Nat.le_of_ble_eq_true rfl⟩) (PU_preV (ci := 4) (q0 := 0) hK hP 0 rfl rfl [0] rfl) rfl rfl hl.1 rfl (lv_room (Nat.le_of_ble_eq_true rfl)) dX5_closure_2 ⟨(Nat.zero_le _), (Nat.zero_le _)⟩) hS hP (fun H locs hP hS => ?_)
    refine lv_astore_n (lv' := [(3, .ref (ad 8)), (0, .ref (ad 0)), (1, .int x), (2, .int y)]) hx hb dX5_closure_5 rfl hl (by decide) rfl (fun ls hl => ?_)
    refine lv_aload_n hx hb dX5_closure_6 rfl (lv_at hl 0 rfl) ?_
    refine lv_ifnull hx hb dX5_closure_7 ?_
    refine lv_aload_n hx hb dX5_closure_10 rfl (lv_at hl 1 rfl) ?_
    refine va_get (D := D) (ci := 4) (v := .ref (ad 1)) (C := RX5) (T := TX5) (N := 4) hx hb hts inX5 hown hK.1 hP 0 rfl rfl 0 (by decide) (hts (.fieldLink RX5 10 "ColourForests" "graph" "LColourForests$Graph;") (List.mem_of_getElem? (i := 1) rfl)) (fun _ h9 => h9) rfl dX5_closure_11 ?_
    refine lv_iload_n hx hb dX5_closure_14 rfl (lv_at hl 3 rfl) ?_
    refine pu_call (va_runV (As := [.int y]) (rest := []) ⟨hx, hb, hml, hown, hts⟩ (c_X0_hasSet l D cy ad ch hg y) (cwV 1 hts gX5_closure_X0_hasSet rfl rfl rfl (by decide +kernel) ⟨Nat.le_of_ble_eq_true rfl, Nat.le_of_ble_eq_true rfl⟩) (PU_preV (ci := 0) (q0 := 3) hK hP 0 rfl rfl [3, 4, 5, 6, 7, 8] rfl) rfl rfl hl.1 rfl (lv_room (Nat.le_of_ble_eq_true rfl)) dX5_closure_15 ⟨(Nat.zero_le _), (Nat.zero_le _)⟩) hS hP (fun H locs hP hS => ?_)
    refine b_ne (b := (isN y (2 ^ gE g))) (tgt := 23) hx hb dX5_closure_18 (by decide) (fun c18 => ?_) (fun c18 => ?_)
    · exact absurd ((bad_a h hkk).symm.trans c18) (by decide)
    · refine lv_iconst (v := zI (-1)) hx hb dX5_closure_21 (by decide) ?_
      exact pu_iret (y := yX5_closure) hx hb hr hlocks hS (by first | rfl | (simp [bI, *]; done) | (simp_all [bI]; done)) dX5_closure_22
  · have hkk := hk0
    refine lv_aload_n hx hb dX5_closure_0 rfl (lv_at hl 0 rfl) ?_
    refine lv_iload_n hx hb dX5_closure_1 rfl (lv_at hl 1 rfl) ?_
    refine pv_call (va_runV (As := [.int x]) (rest := []) ⟨hx, hb, hml, hown, hts⟩ (c_judgeN l D cy ad (x := x) hk0 hk1) (cwV 1 hts gX5_closure_X5_judgeOf rfl rfl rfl (by decide +kernel) ⟨Nat.le_of_ble_eq_true rfl, Nat.le_of_ble_eq_true rfl⟩) (PU_preV (ci := 4) (q0 := 0) hK hP 0 rfl rfl [0] rfl) rfl rfl hl.1 rfl (lv_room (Nat.le_of_ble_eq_true rfl)) dX5_closure_2 ⟨(Nat.zero_le _), (Nat.zero_le _)⟩) hS hP (fun H locs hP hS => ?_)
    refine lv_astore_nN (lv' := [(3, .null), (0, .ref (ad 0)), (1, .int x), (2, .int y)]) hx hb dX5_closure_5 rfl hl (by decide) rfl (fun ls hl => ?_)
    refine lv_aload_nN hx hb dX5_closure_6 rfl (lv_at hl 0 rfl) ?_
    refine lv_ifnullN (tgt := 21) hx hb dX5_closure_7 (by decide) ?_
    refine lv_iconst (v := zI (-1)) hx hb dX5_closure_21 (by decide) ?_
    exact pu_iret (y := yX5_closure) hx hb hr hlocks hS (by first | rfl | (simp [bI, *]; done) | (simp_all [bI]; done)) dX5_closure_22

set_option maxHeartbeats 4000000 in
set_option maxRecDepth 100000 in
theorem c_X5_closure_yes (l : Launch) (D : va_G) (cy : Nat → ClassId) (ad : Nat → Nat) (ch : Int32) {g : GT} (hg : gOK g) {kd S : Nat} (hk9 : kd < 2) (hS9 : S < 2 ^ gE g) : PU l yX5_closure wsX5_closure ({ frames := 4, cells := 0, slots := 0, locals := 98 }) D cy [.ref (ad 0), .int (nI kd), .int (nI S)] (wY cy ad ch g) ((nI (cloN (rN g kd) (gE g) S))) := by
  refine Met.ofW (cc := cX5_closure) (maxL := 4) (ret := (some .int)) (by decide) rfl ?_
  intro p ev s m args below meth c s₁ B hml hv
  obtain ⟨rfl, hK, hP⟩ := hv
  have hx := B.exec
  have hb := B.bytes
  have hr := B.returns
  have hts := atoms_spec (ws := wsX5_closure) B.pre
  have hown : s.vm.findClass RX5 = some m.cls := findClass_of_methodNamed B.named
  have hlocks := B.notSynchronized
  have hS : va_S (fun _ => False) s.heap s.heap [] := va_S.rf
  have hP : va_P D vwCl (wY cy ad ch g) s.heap := hP
  have inX5 : ∀ w ∈ wsX50, w ∈ wsX5_closure := by decide +kernel
  have hl := lv_entry ([.ref (ad 0), .int (nI kd), .int (nI S)]) (n := 4) (Nat.le_of_ble_eq_true rfl)
  rw [lg_entry_eq]
  generalize (lg_sl ([.ref (ad 0), .int (nI kd), .int (nI S)]) ++ List.replicate (4 - (lg_sl ([.ref (ad 0), .int (nI kd), .int (nI S)])).length) Slot.unset).toArray = ls at hl ⊢
  have hl : lv_has ls 4 [(0, .ref (ad 0)), (1, .int (nI kd)), (2, .int (nI S))] := hl
  have hgen := True.intro
  have hE := hg.2.2.1
  have hV := hg.1
  have hC := hg.2.1
  have hS8 : 2 ^ gE g ≤ 2 ^ 14 := Nat.pow_le_pow_right (by decide) hE
  rcases (show kd = 0 ∨ kd = 1 by omega) with hk | hk
  · have hk5 := hk
    refine lv_aload_n hx hb dX5_closure_0 rfl (lv_at hl 0 rfl) ?_
    refine lv_iload_n hx hb dX5_closure_1 rfl (lv_at hl 1 rfl) ?_
    refine pv_call (va_runV (As := [.int (nI kd)]) (rest := []) ⟨hx, hb, hml, hown, hts⟩ (c_judge0 l D cy ad (x := (nI kd)) (by rw [hk])) (cwV 1 hts gX5_closure_X5_judgeOf rfl rfl rfl (by decide +kernel) ⟨Nat.le_of_ble_eq_true rfl, Nat.le_of_ble_eq_true rfl⟩) (PU_preV (ci := 4) (q0 := 0) hK hP 0 rfl rfl [0] rfl) rfl rfl hl.1 rfl (lv_room (Nat.le_of_ble_eq_true rfl)) dX5_closure_2 ⟨(Nat.zero_le _), (Nat.zero_le _)⟩) hS hP (fun H locs hP hS => ?_)
    refine lv_astore_n (lv' := [(3, .ref (ad 7)), (0, .ref (ad 0)), (1, .int (nI kd)), (2, .int (nI S))]) hx hb dX5_closure_5 rfl hl (by decide) rfl (fun ls hl => ?_)
    refine lv_aload_n hx hb dX5_closure_6 rfl (lv_at hl 0 rfl) ?_
    refine lv_ifnull hx hb dX5_closure_7 ?_
    refine lv_aload_n hx hb dX5_closure_10 rfl (lv_at hl 1 rfl) ?_
    refine va_get (D := D) (ci := 4) (v := .ref (ad 1)) (C := RX5) (T := TX5) (N := 4) hx hb hts inX5 hown hK.1 hP 0 rfl rfl 0 (by decide) (hts (.fieldLink RX5 10 "ColourForests" "graph" "LColourForests$Graph;") (List.mem_of_getElem? (i := 1) rfl)) (fun _ h9 => h9) rfl dX5_closure_11 ?_
    refine lv_iload_n hx hb dX5_closure_14 rfl (lv_at hl 3 rfl) ?_
    refine pu_call (va_runV (As := [.int (nI S)]) (rest := []) ⟨hx, hb, hml, hown, hts⟩ (c_X0_hasSet l D cy ad ch hg ((nI S))) (cwV 1 hts gX5_closure_X0_hasSet rfl rfl rfl (by decide +kernel) ⟨Nat.le_of_ble_eq_true rfl, Nat.le_of_ble_eq_true rfl⟩) (PU_preV (ci := 0) (q0 := 3) hK hP 0 rfl rfl [3, 4, 5, 6, 7, 8] rfl) rfl rfl hl.1 rfl (lv_room (Nat.le_of_ble_eq_true rfl)) dX5_closure_15 ⟨(Nat.zero_le _), (Nat.zero_le _)⟩) hS hP (fun H locs hP hS => ?_)
    refine b_ne (b := (isN ((nI S)) (2 ^ gE g))) (tgt := 23) hx hb dX5_closure_18 (by decide) (fun c18 => ?_) (fun c18 => ?_)
    · refine lv_aload_n hx hb dX5_closure_23 rfl (lv_at hl 0 rfl) ?_
      refine lv_iload_n hx hb dX5_closure_24 rfl (lv_at hl 3 rfl) ?_
      refine pu_call (va_runU (As := [.int (nI S)]) (rest := []) ⟨hx, hb, hml, hown, hts⟩ (c_closureOf3 l D cy ad ch hg (S := S) (by omega)) (va_cwU 1 hts gX5_closure_X1_closureOf_u136X3 rfl rfl rfl rfl (by decide +kernel) ⟨Nat.le_of_ble_eq_true rfl, Nat.le_of_ble_eq_true rfl⟩) (PU_preV (ci := 2) (q0 := 1) hK hP 0 rfl rfl [1, 3, 4, 5, 6, 7, 8] rfl) rfl rfl hl.1 rfl (lv_room (Nat.le_of_ble_eq_true rfl)) dX5_closure_25 ⟨(Nat.zero_le _), (Nat.zero_le _)⟩) hS hP (fun H locs hP hS => ?_)
      exact pu_iret (y := yX5_closure) hx hb hr hlocks hS (by rw [hk]; rfl) dX5_closure_28
    · exact absurd (c18.symm.trans (isN_y hS9 (by omega))) (by decide)
  · have hk5 := hk
    refine lv_aload_n hx hb dX5_closure_0 rfl (lv_at hl 0 rfl) ?_
    refine lv_iload_n hx hb dX5_closure_1 rfl (lv_at hl 1 rfl) ?_
    refine pv_call (va_runV (As := [.int (nI kd)]) (rest := []) ⟨hx, hb, hml, hown, hts⟩ (c_judge1 l D cy ad (x := (nI kd)) (by rw [hk])) (cwV 1 hts gX5_closure_X5_judgeOf rfl rfl rfl (by decide +kernel) ⟨Nat.le_of_ble_eq_true rfl, Nat.le_of_ble_eq_true rfl⟩) (PU_preV (ci := 4) (q0 := 0) hK hP 0 rfl rfl [0] rfl) rfl rfl hl.1 rfl (lv_room (Nat.le_of_ble_eq_true rfl)) dX5_closure_2 ⟨(Nat.zero_le _), (Nat.zero_le _)⟩) hS hP (fun H locs hP hS => ?_)
    refine lv_astore_n (lv' := [(3, .ref (ad 8)), (0, .ref (ad 0)), (1, .int (nI kd)), (2, .int (nI S))]) hx hb dX5_closure_5 rfl hl (by decide) rfl (fun ls hl => ?_)
    refine lv_aload_n hx hb dX5_closure_6 rfl (lv_at hl 0 rfl) ?_
    refine lv_ifnull hx hb dX5_closure_7 ?_
    refine lv_aload_n hx hb dX5_closure_10 rfl (lv_at hl 1 rfl) ?_
    refine va_get (D := D) (ci := 4) (v := .ref (ad 1)) (C := RX5) (T := TX5) (N := 4) hx hb hts inX5 hown hK.1 hP 0 rfl rfl 0 (by decide) (hts (.fieldLink RX5 10 "ColourForests" "graph" "LColourForests$Graph;") (List.mem_of_getElem? (i := 1) rfl)) (fun _ h9 => h9) rfl dX5_closure_11 ?_
    refine lv_iload_n hx hb dX5_closure_14 rfl (lv_at hl 3 rfl) ?_
    refine pu_call (va_runV (As := [.int (nI S)]) (rest := []) ⟨hx, hb, hml, hown, hts⟩ (c_X0_hasSet l D cy ad ch hg ((nI S))) (cwV 1 hts gX5_closure_X0_hasSet rfl rfl rfl (by decide +kernel) ⟨Nat.le_of_ble_eq_true rfl, Nat.le_of_ble_eq_true rfl⟩) (PU_preV (ci := 0) (q0 := 3) hK hP 0 rfl rfl [3, 4, 5, 6, 7, 8] rfl) rfl rfl hl.1 rfl (lv_room (Nat.le_of_ble_eq_true rfl)) dX5_closure_15 ⟨(Nat.zero_le _), (Nat.zero_le _)⟩) hS hP (fun H locs hP hS => ?_)
    refine b_ne (b := (isN ((nI S)) (2 ^ gE g))) (tgt := 23) hx hb dX5_closure_18 (by decide) (fun c18 => ?_) (fun c18 => ?_)
    · refine lv_aload_n hx hb dX5_closure_23 rfl (lv_at hl 0 rfl) ?_
      refine lv_iload_n hx hb dX5_closure_24 rfl (lv_at hl 3 rfl) ?_
      refine pu_call (va_runU (As := [.int (nI S)]) (rest := []) ⟨hx, hb, hml, hown, hts⟩ (c_closureOf2 l D cy ad ch hg (S := S) (by omega)) (va_cwU 1 hts gX5_closure_X1_closureOf_u136X2 rfl rfl rfl rfl (by decide +kernel) ⟨Nat.le_of_ble_eq_true rfl, Nat.le_of_ble_eq_true rfl⟩) (PU_preV (ci := 1) (q0 := 2) hK hP 0 rfl rfl [2, 3, 4, 5, 6, 7, 8] rfl) rfl rfl hl.1 rfl (lv_room (Nat.le_of_ble_eq_true rfl)) dX5_closure_25 ⟨(Nat.zero_le _), (Nat.zero_le _)⟩) hS hP (fun H locs hP hS => ?_)
      exact pu_iret (y := yX5_closure) hx hb hr hlocks hS (by rw [hk]; rfl) dX5_closure_28
    · exact absurd (c18.symm.trans (isN_y hS9 (by omega))) (by decide)

set_option maxHeartbeats 4000000 in
set_option maxRecDepth 100000 in
theorem c_X5_most (l : Launch) (D : va_G) (cy : Nat → ClassId) (ad : Nat → Nat) (ch : Int32) {g : GT} (hg : gOK g) {sn wf cs ms wd : Int32} {fd fw fp frm ft : Nat → Int32} (hv9 : sn = ch → wf = nI (sF g (2 ^ gE g)) ∧ cs = nI (nP (co g) (2 ^ gE g)) ∧ ms = nI (mo g (2 ^ gE g)) ∧ wd = nI (sW g (2 ^ gE g)) ∧ tabs g (2 ^ gE g) fd fw) : WI l yX5_most wsX5_most ({ frames := 5, cells := 0, slots := 0, locals := 117 }) D cy [.ref (ad 0)] (wX cy ad ch g sn wf cs ms wd fd fw fp frm ft) (fun (r : Int32) (u : (Nat → Int32) × (Nat → Int32) × (Nat → Int32) × (Nat → Int32) × (Nat → Int32)) => r = nI (moA g) ∧ tabs g (2 ^ gE g) u.1 u.2.1) (fun u : (Nat → Int32) × (Nat → Int32) × (Nat → Int32) × (Nat → Int32) × (Nat → Int32) => wX cy ad ch g ch (nI (sF g (2 ^ gE g))) (nI (nP (co g) (2 ^ gE g))) (nI (mo g (2 ^ gE g))) (nI (sW g (2 ^ gE g))) u.1 u.2.1 u.2.2.1 u.2.2.2.1 u.2.2.2.2) := by
  refine Met.ofW (cc := cX5_most) (maxL := 1) (ret := (some .int)) (by decide) rfl ?_
  intro p ev s m args below meth c s₁ B hml hv
  obtain ⟨rfl, ⟨hK, hP⟩, hD0⟩ := hv
  have hx := B.exec
  have hb := B.bytes
  have hr := B.returns
  have hts := atoms_spec (ws := wsX5_most) B.pre
  have hown : s.vm.findClass RX5 = some m.cls := findClass_of_methodNamed B.named
  have hlocks := B.notSynchronized
  have hD : va_D (inW (wX cy ad ch g sn wf cs ms wd fd fw fp frm ft)) (wX cy ad ch g sn wf cs ms wd fd fw fp frm ft) := inW_self hD0
  have hS : va_S (inW (wX cy ad ch g sn wf cs ms wd fd fw fp frm ft)) s.heap s.heap [] := va_S.rf
  have hP : va_P D vwCl (wX cy ad ch g sn wf cs ms wd fd fw fp frm ft) s.heap := hP
  have inX5 : ∀ w ∈ wsX50, w ∈ wsX5_most := by decide +kernel
  have inX4 : ∀ w ∈ wsX40, w ∈ wsX5_most := by decide +kernel
  have hl := lv_entry ([.ref (ad 0)]) (n := 1) (Nat.le_of_ble_eq_true rfl)
  rw [lg_entry_eq]
  generalize (lg_sl ([.ref (ad 0)]) ++ List.replicate (1 - (lg_sl ([.ref (ad 0)])).length) Slot.unset).toArray = ls at hl ⊢
  have hl : lv_has ls 1 [(0, .ref (ad 0))] := hl
  have hgen := True.intro
  have hE := hg.2.2.1
  have hV := hg.1
  have hC := hg.2.1
  have hS8 : 2 ^ gE g ≤ 2 ^ 14 := Nat.pow_le_pow_right (by decide) hE
  have hmo := mo_le g hg
  have hme : mo g (2 ^ gE g) = moA g := rfl
  refine lv_aload_n hx hb dX5_most_0 rfl (lv_at hl 0 rfl) ?_
  refine va_get (D := D) (ci := 4) (v := .ref (ad 9)) (C := RX5) (T := TX5) (N := 4) hx hb hts inX5 hown hK.1 hP 0 rfl rfl 3 (by decide) (hts (.fieldLink RX5 34 "ColourForests" "survey" "LColourForests$Survey;") (List.mem_of_getElem? (i := 1) rfl)) (fun _ h9 => h9) rfl dX5_most_1 ?_
  refine wr_callv [3, 4, 5, 6, 7, 8, 9, 10, 11, 12, 13, 14] (va_runV (As := []) (rest := []) ⟨hx, hb, hml, hown, hts⟩ (c_X4_refresh l D cy ad ch hg (sn := sn) (wf := wf) (cs := cs) (ms := ms) (wd := wd) (fd := fd) (fw := fw) (fp := fp) (frm := frm) (ft := ft) hv9) (cwV 0 hts gX5_most_X4_refresh rfl rfl rfl (by decide +kernel) ⟨Nat.le_of_ble_eq_true rfl, Nat.le_of_ble_eq_true rfl⟩) (WR_preV (ci := 3) (q0 := 3) hK hP hD rfl rfl [3, 4, 5, 6, 7, 8, 9, 10, 11, 12, 13, 14] (by decide) rfl rfl) rfl rfl hl.1 rfl (lv_room (Nat.le_of_ble_eq_true rfl)) dX5_most_4 ⟨(Nat.zero_le _), (Nat.zero_le _)⟩) hS hP hD rfl (fun _ => rfl) (fun _ => rfl) (fun u4 H locs w4 hP hD hS => ?_)
  have hP : va_P D vwCl [(ad 0, .inr (4, [.ref (ad 1), .ref (ad 7), .ref (ad 8), .ref (ad 9)])), (ad 7, .inr (2, [.ref (ad 1)])), (ad 8, .inr (1, [.ref (ad 1)])), (ad 9, .inr (3, [.ref (ad 1), .int ch, .int (nI (sF g (2 ^ gE g))), .int (nI (nP (co g) (2 ^ gE g))), .int (nI (mo g (2 ^ gE g))), .ref (ad 10), .ref (ad 11), .int (nI (sW g (2 ^ gE g))), .ref (ad 12), .ref (ad 13), .ref (ad 14)])), (ad 10, .inl (cy 0, 8, .inl u4.1)), (ad 11, .inl (cy 0, 8, .inl u4.2.1)), (ad 12, .inl (cy 0, 15, .inl u4.2.2.1)), (ad 13, .inl (cy 0, 15, .inl u4.2.2.2.1)), (ad 14, .inl (cy 0, 15, .inl u4.2.2.2.2)), (ad 1, .inr (0, [.int (nI (gV g)), .int (nI (gC g)), .int (nI (gE g)), .int ch, .ref (ad 2), .ref (ad 3), .ref (ad 4), .ref (ad 5), .ref (ad 6)])), (ad 2, .inl (cy 0, 6, .inl (fun i => nI (gL g i)))), (ad 3, .inl (cy 0, 14, .inl (fun i => nI (gF g i)))), (ad 4, .inl (cy 0, 14, .inl (fun i => nI (gS g i)))), (ad 5, .inl (cy 0, 14, .inl (fun i => nI (gH g i)))), (ad 6, .inl (cy 0, 14, .inl (fun i => zI (gW g i))))] H := hP
  have hD : va_D (inW (wX cy ad ch g sn wf cs ms wd fd fw fp frm ft)) [(ad 0, .inr (4, [.ref (ad 1), .ref (ad 7), .ref (ad 8), .ref (ad 9)])), (ad 7, .inr (2, [.ref (ad 1)])), (ad 8, .inr (1, [.ref (ad 1)])), (ad 9, .inr (3, [.ref (ad 1), .int ch, .int (nI (sF g (2 ^ gE g))), .int (nI (nP (co g) (2 ^ gE g))), .int (nI (mo g (2 ^ gE g))), .ref (ad 10), .ref (ad 11), .int (nI (sW g (2 ^ gE g))), .ref (ad 12), .ref (ad 13), .ref (ad 14)])), (ad 10, .inl (cy 0, 8, .inl u4.1)), (ad 11, .inl (cy 0, 8, .inl u4.2.1)), (ad 12, .inl (cy 0, 15, .inl u4.2.2.1)), (ad 13, .inl (cy 0, 15, .inl u4.2.2.2.1)), (ad 14, .inl (cy 0, 15, .inl u4.2.2.2.2)), (ad 1, .inr (0, [.int (nI (gV g)), .int (nI (gC g)), .int (nI (gE g)), .int ch, .ref (ad 2), .ref (ad 3), .ref (ad 4), .ref (ad 5), .ref (ad 6)])), (ad 2, .inl (cy 0, 6, .inl (fun i => nI (gL g i)))), (ad 3, .inl (cy 0, 14, .inl (fun i => nI (gF g i)))), (ad 4, .inl (cy 0, 14, .inl (fun i => nI (gS g i)))), (ad 5, .inl (cy 0, 14, .inl (fun i => nI (gH g i)))), (ad 6, .inl (cy 0, 14, .inl (fun i => zI (gW g i))))] := hD
  have htb : tabs g (2 ^ gE g) u4.1 u4.2.1 := w4
  refine lv_aload_n hx hb dX5_most_7 rfl (lv_at hl 0 rfl) ?_
  refine va_get (D := D) (ci := 4) (v := .ref (ad 9)) (C := RX5) (T := TX5) (N := 4) hx hb hts inX5 hown hK.1 hP 0 rfl rfl 3 (by decide) (hts (.fieldLink RX5 34 "ColourForests" "survey" "LColourForests$Survey;") (List.mem_of_getElem? (i := 1) rfl)) (fun _ h9 => h9) rfl dX5_most_8 ?_
  refine va_get (D := D) (ci := 3) (v := .int (nI (mo g (2 ^ gE g)))) (C := RX4) (T := TX4) (N := 11) hx hb hts inX4 hown hK.1 hP 3 rfl rfl 4 (by decide) (hts (.fieldLink RX5 139 "ColourForests$Survey" "most" "I") (List.mem_of_getElem? (i := 2) rfl)) (fun _ h9 => h9) rfl dX5_most_11 ?_
  exact wi_ret u4 hx hb hr hlocks hS hP ⟨rfl, htb⟩ dX5_most_14

set_option maxHeartbeats 4000000 in
set_option maxRecDepth 100000 in
theorem c_X5_dearest_no (l : Launch) (D : va_G) (cy : Nat → ClassId) (ad : Nat → Nat) (ch : Int32) {g : GT} (hg : gOK g) {sn wf cs ms wd : Int32} {fd fw fp frm ft : Nat → Int32} (hv9 : sn = ch → wf = nI (sF g (2 ^ gE g)) ∧ cs = nI (nP (co g) (2 ^ gE g)) ∧ ms = nI (mo g (2 ^ gE g)) ∧ wd = nI (sW g (2 ^ gE g)) ∧ tabs g (2 ^ gE g) fd fw) {x : Int32} (h : isN x (moA g + 1) = false) : WI l yX5_dearest wsX5_dearest ({ frames := 5, cells := 0, slots := 0, locals := 117 }) D cy [.ref (ad 0), .int x] (wX cy ad ch g sn wf cs ms wd fd fw fp frm ft) (fun (r : Int32) (u : (Nat → Int32) × (Nat → Int32) × (Nat → Int32) × (Nat → Int32) × (Nat → Int32)) => r = zI (-1) ∧ tabs g (2 ^ gE g) u.1 u.2.1) (fun u : (Nat → Int32) × (Nat → Int32) × (Nat → Int32) × (Nat → Int32) × (Nat → Int32) => wX cy ad ch g ch (nI (sF g (2 ^ gE g))) (nI (nP (co g) (2 ^ gE g))) (nI (mo g (2 ^ gE g))) (nI (sW g (2 ^ gE g))) u.1 u.2.1 u.2.2.1 u.2.2.2.1 u.2.2.2.2) := by
  refine Met.ofW (cc := cX5_dearest) (maxL := 2) (ret := (some .int)) (by decide) rfl ?_
  intro p ev s m args below meth c s₁ B hml hv
  obtain ⟨rfl, ⟨hK, hP⟩, hD0⟩ := hv
  have hx := B.exec
  have hb := B.bytes
  have hr := B.returns
  have hts := atoms_spec (ws := wsX5_dearest) B.pre
  have hown : s.vm.findClass RX5 = some m.cls := findClass_of_methodNamed B.named
  have hlocks := B.notSynchronized
  have hD : va_D (inW (wX cy ad ch g sn wf cs ms wd fd fw fp frm ft)) (wX cy ad ch g sn wf cs ms wd fd fw fp frm ft) := inW_self hD0
  have hS : va_S (inW (wX cy ad ch g sn wf cs ms wd fd fw fp frm ft)) s.heap s.heap [] := va_S.rf
  have hP : va_P D vwCl (wX cy ad ch g sn wf cs ms wd fd fw fp frm ft) s.heap := hP
  have inX5 : ∀ w ∈ wsX50, w ∈ wsX5_dearest := by decide +kernel
  have inX4 : ∀ w ∈ wsX40, w ∈ wsX5_dearest := by decide +kernel
  have hl := lv_entry ([.ref (ad 0), .int x]) (n := 2) (Nat.le_of_ble_eq_true rfl)
  rw [lg_entry_eq]
  generalize (lg_sl ([.ref (ad 0), .int x]) ++ List.replicate (2 - (lg_sl ([.ref (ad 0), .int x])).length) Slot.unset).toArray = ls at hl ⊢
  have hl : lv_has ls 2 [(0, .ref (ad 0)), (1, .int x)] := hl
  have hgen := True.intro
  have hE := hg.2.2.1
  have hV := hg.1
  have hC := hg.2.1
  have hS8 : 2 ^ gE g ≤ 2 ^ 14 := Nat.pow_le_pow_right (by decide) hE
  have hmo := mo_le g hg
  have hme : mo g (2 ^ gE g) = moA g := rfl
  refine lv_aload_n hx hb dX5_dearest_0 rfl (lv_at hl 0 rfl) ?_
  refine va_get (D := D) (ci := 4) (v := .ref (ad 9)) (C := RX5) (T := TX5) (N := 4) hx hb hts inX5 hown hK.1 hP 0 rfl rfl 3 (by decide) (hts (.fieldLink RX5 34 "ColourForests" "survey" "LColourForests$Survey;") (List.mem_of_getElem? (i := 1) rfl)) (fun _ h9 => h9) rfl dX5_dearest_1 ?_
  refine wr_callv [3, 4, 5, 6, 7, 8, 9, 10, 11, 12, 13, 14] (va_runV (As := []) (rest := []) ⟨hx, hb, hml, hown, hts⟩ (c_X4_refresh l D cy ad ch hg (sn := sn) (wf := wf) (cs := cs) (ms := ms) (wd := wd) (fd := fd) (fw := fw) (fp := fp) (frm := frm) (ft := ft) hv9) (cwV 0 hts gX5_dearest_X4_refresh rfl rfl rfl (by decide +kernel) ⟨Nat.le_of_ble_eq_true rfl, Nat.le_of_ble_eq_true rfl⟩) (WR_preV (ci := 3) (q0 := 3) hK hP hD rfl rfl [3, 4, 5, 6, 7, 8, 9, 10, 11, 12, 13, 14] (by decide) rfl rfl) rfl rfl hl.1 rfl (lv_room (Nat.le_of_ble_eq_true rfl)) dX5_dearest_4 ⟨(Nat.zero_le _), (Nat.zero_le _)⟩) hS hP hD rfl (fun _ => rfl) (fun _ => rfl) (fun u4 H locs w4 hP hD hS => ?_)
  have hP : va_P D vwCl [(ad 0, .inr (4, [.ref (ad 1), .ref (ad 7), .ref (ad 8), .ref (ad 9)])), (ad 7, .inr (2, [.ref (ad 1)])), (ad 8, .inr (1, [.ref (ad 1)])), (ad 9, .inr (3, [.ref (ad 1), .int ch, .int (nI (sF g (2 ^ gE g))), .int (nI (nP (co g) (2 ^ gE g))), .int (nI (mo g (2 ^ gE g))), .ref (ad 10), .ref (ad 11), .int (nI (sW g (2 ^ gE g))), .ref (ad 12), .ref (ad 13), .ref (ad 14)])), (ad 10, .inl (cy 0, 8, .inl u4.1)), (ad 11, .inl (cy 0, 8, .inl u4.2.1)), (ad 12, .inl (cy 0, 15, .inl u4.2.2.1)), (ad 13, .inl (cy 0, 15, .inl u4.2.2.2.1)), (ad 14, .inl (cy 0, 15, .inl u4.2.2.2.2)), (ad 1, .inr (0, [.int (nI (gV g)), .int (nI (gC g)), .int (nI (gE g)), .int ch, .ref (ad 2), .ref (ad 3), .ref (ad 4), .ref (ad 5), .ref (ad 6)])), (ad 2, .inl (cy 0, 6, .inl (fun i => nI (gL g i)))), (ad 3, .inl (cy 0, 14, .inl (fun i => nI (gF g i)))), (ad 4, .inl (cy 0, 14, .inl (fun i => nI (gS g i)))), (ad 5, .inl (cy 0, 14, .inl (fun i => nI (gH g i)))), (ad 6, .inl (cy 0, 14, .inl (fun i => zI (gW g i))))] H := hP
  have hD : va_D (inW (wX cy ad ch g sn wf cs ms wd fd fw fp frm ft)) [(ad 0, .inr (4, [.ref (ad 1), .ref (ad 7), .ref (ad 8), .ref (ad 9)])), (ad 7, .inr (2, [.ref (ad 1)])), (ad 8, .inr (1, [.ref (ad 1)])), (ad 9, .inr (3, [.ref (ad 1), .int ch, .int (nI (sF g (2 ^ gE g))), .int (nI (nP (co g) (2 ^ gE g))), .int (nI (mo g (2 ^ gE g))), .ref (ad 10), .ref (ad 11), .int (nI (sW g (2 ^ gE g))), .ref (ad 12), .ref (ad 13), .ref (ad 14)])), (ad 10, .inl (cy 0, 8, .inl u4.1)), (ad 11, .inl (cy 0, 8, .inl u4.2.1)), (ad 12, .inl (cy 0, 15, .inl u4.2.2.1)), (ad 13, .inl (cy 0, 15, .inl u4.2.2.2.1)), (ad 14, .inl (cy 0, 15, .inl u4.2.2.2.2)), (ad 1, .inr (0, [.int (nI (gV g)), .int (nI (gC g)), .int (nI (gE g)), .int ch, .ref (ad 2), .ref (ad 3), .ref (ad 4), .ref (ad 5), .ref (ad 6)])), (ad 2, .inl (cy 0, 6, .inl (fun i => nI (gL g i)))), (ad 3, .inl (cy 0, 14, .inl (fun i => nI (gF g i)))), (ad 4, .inl (cy 0, 14, .inl (fun i => nI (gS g i)))), (ad 5, .inl (cy 0, 14, .inl (fun i => nI (gH g i)))), (ad 6, .inl (cy 0, 14, .inl (fun i => zI (gW g i))))] := hD
  have htb : tabs g (2 ^ gE g) u4.1 u4.2.1 := w4
  refine lv_aload_n hx hb dX5_dearest_7 rfl (lv_at hl 0 rfl) ?_
  refine va_get (D := D) (ci := 4) (v := .ref (ad 9)) (C := RX5) (T := TX5) (N := 4) hx hb hts inX5 hown hK.1 hP 0 rfl rfl 3 (by decide) (hts (.fieldLink RX5 34 "ColourForests" "survey" "LColourForests$Survey;") (List.mem_of_getElem? (i := 1) rfl)) (fun _ h9 => h9) rfl dX5_dearest_8 ?_
  refine lv_iload_n hx hb dX5_dearest_11 rfl (lv_at hl 1 rfl) ?_
  refine pu_call (va_runV (As := [.int x]) (rest := []) ⟨hx, hb, hml, hown, hts⟩ (c_X4_hasSize l D cy ad ch (nI (sF g (2 ^ gE g))) (nI (nP (co g) (2 ^ gE g))) (nI (sW g (2 ^ gE g))) (m9 := mo g (2 ^ gE g)) (by omega) x) (cwV 1 hts gX5_dearest_X4_hasSize rfl rfl rfl (by decide +kernel) ⟨Nat.le_of_ble_eq_true rfl, Nat.le_of_ble_eq_true rfl⟩) (PU_preV (ci := 3) (q0 := 3) hK hP 0 rfl rfl [3] rfl) rfl rfl hl.1 rfl (lv_room (Nat.le_of_ble_eq_true rfl)) dX5_dearest_12 ⟨(Nat.zero_le _), (Nat.zero_le _)⟩) hS hP (fun H locs hP hS => ?_)
  refine b_eq (b := (isN x (mo g (2 ^ gE g) + 1))) (tgt := 30) hx hb dX5_dearest_15 (by decide) (fun c15 => ?_) (fun c15 => ?_)
  · refine lv_iconst (v := zI (-1)) hx hb dX5_dearest_30 (by decide) ?_
    exact wi_ret u4 hx hb hr hlocks hS hP ⟨rfl, htb⟩ dX5_dearest_31
  · exact absurd (h.symm.trans c15) (by decide)

set_option maxHeartbeats 4000000 in
set_option maxRecDepth 100000 in
theorem c_X5_dearest_yes (l : Launch) (D : va_G) (cy : Nat → ClassId) (ad : Nat → Nat) (ch : Int32) {g : GT} (hg : gOK g) {sn wf cs ms wd : Int32} {fd fw fp frm ft : Nat → Int32} (hv9 : sn = ch → wf = nI (sF g (2 ^ gE g)) ∧ cs = nI (nP (co g) (2 ^ gE g)) ∧ ms = nI (mo g (2 ^ gE g)) ∧ wd = nI (sW g (2 ^ gE g)) ∧ tabs g (2 ^ gE g) fd fw) {k9 : Nat} (hk9 : k9 ≤ moA g) : WI l yX5_dearest wsX5_dearest ({ frames := 5, cells := 0, slots := 0, locals := 117 }) D cy [.ref (ad 0), .int (nI k9)] (wX cy ad ch g sn wf cs ms wd fd fw fp frm ft) (fun (r : Int32) (u : (Nat → Int32) × (Nat → Int32) × (Nat → Int32) × (Nat → Int32) × (Nat → Int32)) => r = nI (dsA g k9) ∧ tabs g (2 ^ gE g) u.1 u.2.1) (fun u : (Nat → Int32) × (Nat → Int32) × (Nat → Int32) × (Nat → Int32) × (Nat → Int32) => wX cy ad ch g ch (nI (sF g (2 ^ gE g))) (nI (nP (co g) (2 ^ gE g))) (nI (mo g (2 ^ gE g))) (nI (sW g (2 ^ gE g))) u.1 u.2.1 u.2.2.1 u.2.2.2.1 u.2.2.2.2) := by
  refine Met.ofW (cc := cX5_dearest) (maxL := 2) (ret := (some .int)) (by decide) rfl ?_
  intro p ev s m args below meth c s₁ B hml hv
  obtain ⟨rfl, ⟨hK, hP⟩, hD0⟩ := hv
  have hx := B.exec
  have hb := B.bytes
  have hr := B.returns
  have hts := atoms_spec (ws := wsX5_dearest) B.pre
  have hown : s.vm.findClass RX5 = some m.cls := findClass_of_methodNamed B.named
  have hlocks := B.notSynchronized
  have hD : va_D (inW (wX cy ad ch g sn wf cs ms wd fd fw fp frm ft)) (wX cy ad ch g sn wf cs ms wd fd fw fp frm ft) := inW_self hD0
  have hS : va_S (inW (wX cy ad ch g sn wf cs ms wd fd fw fp frm ft)) s.heap s.heap [] := va_S.rf
  have hP : va_P D vwCl (wX cy ad ch g sn wf cs ms wd fd fw fp frm ft) s.heap := hP
  have inX5 : ∀ w ∈ wsX50, w ∈ wsX5_dearest := by decide +kernel
  have inX4 : ∀ w ∈ wsX40, w ∈ wsX5_dearest := by decide +kernel
  have hl := lv_entry ([.ref (ad 0), .int (nI k9)]) (n := 2) (Nat.le_of_ble_eq_true rfl)
  rw [lg_entry_eq]
  generalize (lg_sl ([.ref (ad 0), .int (nI k9)]) ++ List.replicate (2 - (lg_sl ([.ref (ad 0), .int (nI k9)])).length) Slot.unset).toArray = ls at hl ⊢
  have hl : lv_has ls 2 [(0, .ref (ad 0)), (1, .int (nI k9))] := hl
  have hgen := True.intro
  have hE := hg.2.2.1
  have hV := hg.1
  have hC := hg.2.1
  have hS8 : 2 ^ gE g ≤ 2 ^ 14 := Nat.pow_le_pow_right (by decide) hE
  have hmo := mo_le g hg
  have hme : mo g (2 ^ gE g) = moA g := rfl
  refine lv_aload_n hx hb dX5_dearest_0 rfl (lv_at hl 0 rfl) ?_
  refine va_get (D := D) (ci := 4) (v := .ref (ad 9)) (C := RX5) (T := TX5) (N := 4) hx hb hts inX5 hown hK.1 hP 0 rfl rfl 3 (by decide) (hts (.fieldLink RX5 34 "ColourForests" "survey" "LColourForests$Survey;") (List.mem_of_getElem? (i := 1) rfl)) (fun _ h9 => h9) rfl dX5_dearest_1 ?_
  refine wr_callv [3, 4, 5, 6, 7, 8, 9, 10, 11, 12, 13, 14] (va_runV (As := []) (rest := []) ⟨hx, hb, hml, hown, hts⟩ (c_X4_refresh l D cy ad ch hg (sn := sn) (wf := wf) (cs := cs) (ms := ms) (wd := wd) (fd := fd) (fw := fw) (fp := fp) (frm := frm) (ft := ft) hv9) (cwV 0 hts gX5_dearest_X4_refresh rfl rfl rfl (by decide +kernel) ⟨Nat.le_of_ble_eq_true rfl, Nat.le_of_ble_eq_true rfl⟩) (WR_preV (ci := 3) (q0 := 3) hK hP hD rfl rfl [3, 4, 5, 6, 7, 8, 9, 10, 11, 12, 13, 14] (by decide) rfl rfl) rfl rfl hl.1 rfl (lv_room (Nat.le_of_ble_eq_true rfl)) dX5_dearest_4 ⟨(Nat.zero_le _), (Nat.zero_le _)⟩) hS hP hD rfl (fun _ => rfl) (fun _ => rfl) (fun u4 H locs w4 hP hD hS => ?_)
  have hP : va_P D vwCl [(ad 0, .inr (4, [.ref (ad 1), .ref (ad 7), .ref (ad 8), .ref (ad 9)])), (ad 7, .inr (2, [.ref (ad 1)])), (ad 8, .inr (1, [.ref (ad 1)])), (ad 9, .inr (3, [.ref (ad 1), .int ch, .int (nI (sF g (2 ^ gE g))), .int (nI (nP (co g) (2 ^ gE g))), .int (nI (mo g (2 ^ gE g))), .ref (ad 10), .ref (ad 11), .int (nI (sW g (2 ^ gE g))), .ref (ad 12), .ref (ad 13), .ref (ad 14)])), (ad 10, .inl (cy 0, 8, .inl u4.1)), (ad 11, .inl (cy 0, 8, .inl u4.2.1)), (ad 12, .inl (cy 0, 15, .inl u4.2.2.1)), (ad 13, .inl (cy 0, 15, .inl u4.2.2.2.1)), (ad 14, .inl (cy 0, 15, .inl u4.2.2.2.2)), (ad 1, .inr (0, [.int (nI (gV g)), .int (nI (gC g)), .int (nI (gE g)), .int ch, .ref (ad 2), .ref (ad 3), .ref (ad 4), .ref (ad 5), .ref (ad 6)])), (ad 2, .inl (cy 0, 6, .inl (fun i => nI (gL g i)))), (ad 3, .inl (cy 0, 14, .inl (fun i => nI (gF g i)))), (ad 4, .inl (cy 0, 14, .inl (fun i => nI (gS g i)))), (ad 5, .inl (cy 0, 14, .inl (fun i => nI (gH g i)))), (ad 6, .inl (cy 0, 14, .inl (fun i => zI (gW g i))))] H := hP
  have hD : va_D (inW (wX cy ad ch g sn wf cs ms wd fd fw fp frm ft)) [(ad 0, .inr (4, [.ref (ad 1), .ref (ad 7), .ref (ad 8), .ref (ad 9)])), (ad 7, .inr (2, [.ref (ad 1)])), (ad 8, .inr (1, [.ref (ad 1)])), (ad 9, .inr (3, [.ref (ad 1), .int ch, .int (nI (sF g (2 ^ gE g))), .int (nI (nP (co g) (2 ^ gE g))), .int (nI (mo g (2 ^ gE g))), .ref (ad 10), .ref (ad 11), .int (nI (sW g (2 ^ gE g))), .ref (ad 12), .ref (ad 13), .ref (ad 14)])), (ad 10, .inl (cy 0, 8, .inl u4.1)), (ad 11, .inl (cy 0, 8, .inl u4.2.1)), (ad 12, .inl (cy 0, 15, .inl u4.2.2.1)), (ad 13, .inl (cy 0, 15, .inl u4.2.2.2.1)), (ad 14, .inl (cy 0, 15, .inl u4.2.2.2.2)), (ad 1, .inr (0, [.int (nI (gV g)), .int (nI (gC g)), .int (nI (gE g)), .int ch, .ref (ad 2), .ref (ad 3), .ref (ad 4), .ref (ad 5), .ref (ad 6)])), (ad 2, .inl (cy 0, 6, .inl (fun i => nI (gL g i)))), (ad 3, .inl (cy 0, 14, .inl (fun i => nI (gF g i)))), (ad 4, .inl (cy 0, 14, .inl (fun i => nI (gS g i)))), (ad 5, .inl (cy 0, 14, .inl (fun i => nI (gH g i)))), (ad 6, .inl (cy 0, 14, .inl (fun i => zI (gW g i))))] := hD
  have htb : tabs g (2 ^ gE g) u4.1 u4.2.1 := w4
  refine lv_aload_n hx hb dX5_dearest_7 rfl (lv_at hl 0 rfl) ?_
  refine va_get (D := D) (ci := 4) (v := .ref (ad 9)) (C := RX5) (T := TX5) (N := 4) hx hb hts inX5 hown hK.1 hP 0 rfl rfl 3 (by decide) (hts (.fieldLink RX5 34 "ColourForests" "survey" "LColourForests$Survey;") (List.mem_of_getElem? (i := 1) rfl)) (fun _ h9 => h9) rfl dX5_dearest_8 ?_
  refine lv_iload_n hx hb dX5_dearest_11 rfl (lv_at hl 1 rfl) ?_
  refine pu_call (va_runV (As := [.int (nI k9)]) (rest := []) ⟨hx, hb, hml, hown, hts⟩ (c_X4_hasSize l D cy ad ch (nI (sF g (2 ^ gE g))) (nI (nP (co g) (2 ^ gE g))) (nI (sW g (2 ^ gE g))) (m9 := mo g (2 ^ gE g)) (by omega) ((nI k9))) (cwV 1 hts gX5_dearest_X4_hasSize rfl rfl rfl (by decide +kernel) ⟨Nat.le_of_ble_eq_true rfl, Nat.le_of_ble_eq_true rfl⟩) (PU_preV (ci := 3) (q0 := 3) hK hP 0 rfl rfl [3] rfl) rfl rfl hl.1 rfl (lv_room (Nat.le_of_ble_eq_true rfl)) dX5_dearest_12 ⟨(Nat.zero_le _), (Nat.zero_le _)⟩) hS hP (fun H locs hP hS => ?_)
  refine b_eq (b := (isN ((nI k9)) (mo g (2 ^ gE g) + 1))) (tgt := 30) hx hb dX5_dearest_15 (by decide) (fun c15 => ?_) (fun c15 => ?_)
  · exact absurd (c15.symm.trans (isN_y (by omega) (by omega))) (by decide)
  · refine lv_aload_n hx hb dX5_dearest_18 rfl (lv_at hl 0 rfl) ?_
    refine va_get (D := D) (ci := 4) (v := .ref (ad 9)) (C := RX5) (T := TX5) (N := 4) hx hb hts inX5 hown hK.1 hP 0 rfl rfl 3 (by decide) (hts (.fieldLink RX5 34 "ColourForests" "survey" "LColourForests$Survey;") (List.mem_of_getElem? (i := 1) rfl)) (fun _ h9 => h9) rfl dX5_dearest_19 ?_
    refine va_get (D := D) (ci := 3) (v := .ref (ad 10)) (C := RX4) (T := TX4) (N := 11) hx hb hts inX4 hown hK.1 hP 3 rfl rfl 5 (by decide) (hts (.fieldLink RX5 145 "ColourForests$Survey" "dearestSets" "[I") (List.mem_of_getElem? (i := 2) rfl)) (fun _ h9 => h9) rfl dX5_dearest_22 ?_
    refine lv_iload_n hx hb dX5_dearest_25 rfl (lv_at hl 1 rfl) ?_
    refine rd_i (k := k9) (v := (nI (dsA g k9))) hx hb hK hP 4 rfl (by omega) (by decide) (tabs_ds hg htb hk9).1 dX5_dearest_26 ?_
    refine lv_goto (tgt := 31) hx hb dX5_dearest_27 (by decide) ?_
    exact wi_ret u4 hx hb hr hlocks hS hP ⟨rfl, htb⟩ dX5_dearest_31

set_option maxHeartbeats 4000000 in
set_option maxRecDepth 100000 in
theorem c_X5_heaviest (l : Launch) (D : va_G) (cy : Nat → ClassId) (ad : Nat → Nat) (ch : Int32) {g : GT} (hg : gOK g) {sn wf cs ms wd : Int32} {fd fw fp frm ft : Nat → Int32} (hv9 : sn = ch → wf = nI (sF g (2 ^ gE g)) ∧ cs = nI (nP (co g) (2 ^ gE g)) ∧ ms = nI (mo g (2 ^ gE g)) ∧ wd = nI (sW g (2 ^ gE g)) ∧ tabs g (2 ^ gE g) fd fw) : WI l yX5_heaviest wsX5_heaviest ({ frames := 5, cells := 0, slots := 0, locals := 117 }) D cy [.ref (ad 0)] (wX cy ad ch g sn wf cs ms wd fd fw fp frm ft) (fun (r : Int32) (u : (Nat → Int32) × (Nat → Int32) × (Nat → Int32) × (Nat → Int32) × (Nat → Int32)) => r = nI (hv (wB g) (moA g)) ∧ tabs g (2 ^ gE g) u.1 u.2.1) (fun u : (Nat → Int32) × (Nat → Int32) × (Nat → Int32) × (Nat → Int32) × (Nat → Int32) => wX cy ad ch g ch (nI (sF g (2 ^ gE g))) (nI (nP (co g) (2 ^ gE g))) (nI (mo g (2 ^ gE g))) (nI (sW g (2 ^ gE g))) u.1 u.2.1 u.2.2.1 u.2.2.2.1 u.2.2.2.2) := by
  refine Met.ofW (cc := cX5_heaviest) (maxL := 3) (ret := (some .int)) (by decide) rfl ?_
  intro p ev s m args below meth c s₁ B hml hv
  obtain ⟨rfl, ⟨hK, hP⟩, hD0⟩ := hv
  have hx := B.exec
  have hb := B.bytes
  have hr := B.returns
  have hts := atoms_spec (ws := wsX5_heaviest) B.pre
  have hown : s.vm.findClass RX5 = some m.cls := findClass_of_methodNamed B.named
  have hlocks := B.notSynchronized
  have hD : va_D (inW (wX cy ad ch g sn wf cs ms wd fd fw fp frm ft)) (wX cy ad ch g sn wf cs ms wd fd fw fp frm ft) := inW_self hD0
  have hS : va_S (inW (wX cy ad ch g sn wf cs ms wd fd fw fp frm ft)) s.heap s.heap [] := va_S.rf
  have hP : va_P D vwCl (wX cy ad ch g sn wf cs ms wd fd fw fp frm ft) s.heap := hP
  have inX5 : ∀ w ∈ wsX50, w ∈ wsX5_heaviest := by decide +kernel
  have inX4 : ∀ w ∈ wsX40, w ∈ wsX5_heaviest := by decide +kernel
  have hl := lv_entry ([.ref (ad 0)]) (n := 3) (Nat.le_of_ble_eq_true rfl)
  rw [lg_entry_eq]
  generalize (lg_sl ([.ref (ad 0)]) ++ List.replicate (3 - (lg_sl ([.ref (ad 0)])).length) Slot.unset).toArray = ls at hl ⊢
  have hl : lv_has ls 3 [(0, .ref (ad 0))] := hl
  have hgen := True.intro
  have hE := hg.2.2.1
  have hV := hg.1
  have hC := hg.2.1
  have hS8 : 2 ^ gE g ≤ 2 ^ 14 := Nat.pow_le_pow_right (by decide) hE
  have hmo := mo_le g hg
  have hme : mo g (2 ^ gE g) = moA g := rfl
  refine lv_aload_n hx hb dX5_heaviest_0 rfl (lv_at hl 0 rfl) ?_
  refine va_get (D := D) (ci := 4) (v := .ref (ad 9)) (C := RX5) (T := TX5) (N := 4) hx hb hts inX5 hown hK.1 hP 0 rfl rfl 3 (by decide) (hts (.fieldLink RX5 34 "ColourForests" "survey" "LColourForests$Survey;") (List.mem_of_getElem? (i := 1) rfl)) (fun _ h9 => h9) rfl dX5_heaviest_1 ?_
  refine wr_callv [3, 4, 5, 6, 7, 8, 9, 10, 11, 12, 13, 14] (va_runV (As := []) (rest := []) ⟨hx, hb, hml, hown, hts⟩ (c_X4_refresh l D cy ad ch hg (sn := sn) (wf := wf) (cs := cs) (ms := ms) (wd := wd) (fd := fd) (fw := fw) (fp := fp) (frm := frm) (ft := ft) hv9) (cwV 0 hts gX5_heaviest_X4_refresh rfl rfl rfl (by decide +kernel) ⟨Nat.le_of_ble_eq_true rfl, Nat.le_of_ble_eq_true rfl⟩) (WR_preV (ci := 3) (q0 := 3) hK hP hD rfl rfl [3, 4, 5, 6, 7, 8, 9, 10, 11, 12, 13, 14] (by decide) rfl rfl) rfl rfl hl.1 rfl (lv_room (Nat.le_of_ble_eq_true rfl)) dX5_heaviest_4 ⟨(Nat.zero_le _), (Nat.zero_le _)⟩) hS hP hD rfl (fun _ => rfl) (fun _ => rfl) (fun u4 H locs w4 hP hD hS => ?_)
  have hP : va_P D vwCl [(ad 0, .inr (4, [.ref (ad 1), .ref (ad 7), .ref (ad 8), .ref (ad 9)])), (ad 7, .inr (2, [.ref (ad 1)])), (ad 8, .inr (1, [.ref (ad 1)])), (ad 9, .inr (3, [.ref (ad 1), .int ch, .int (nI (sF g (2 ^ gE g))), .int (nI (nP (co g) (2 ^ gE g))), .int (nI (mo g (2 ^ gE g))), .ref (ad 10), .ref (ad 11), .int (nI (sW g (2 ^ gE g))), .ref (ad 12), .ref (ad 13), .ref (ad 14)])), (ad 10, .inl (cy 0, 8, .inl u4.1)), (ad 11, .inl (cy 0, 8, .inl u4.2.1)), (ad 12, .inl (cy 0, 15, .inl u4.2.2.1)), (ad 13, .inl (cy 0, 15, .inl u4.2.2.2.1)), (ad 14, .inl (cy 0, 15, .inl u4.2.2.2.2)), (ad 1, .inr (0, [.int (nI (gV g)), .int (nI (gC g)), .int (nI (gE g)), .int ch, .ref (ad 2), .ref (ad 3), .ref (ad 4), .ref (ad 5), .ref (ad 6)])), (ad 2, .inl (cy 0, 6, .inl (fun i => nI (gL g i)))), (ad 3, .inl (cy 0, 14, .inl (fun i => nI (gF g i)))), (ad 4, .inl (cy 0, 14, .inl (fun i => nI (gS g i)))), (ad 5, .inl (cy 0, 14, .inl (fun i => nI (gH g i)))), (ad 6, .inl (cy 0, 14, .inl (fun i => zI (gW g i))))] H := hP
  have hD : va_D (inW (wX cy ad ch g sn wf cs ms wd fd fw fp frm ft)) [(ad 0, .inr (4, [.ref (ad 1), .ref (ad 7), .ref (ad 8), .ref (ad 9)])), (ad 7, .inr (2, [.ref (ad 1)])), (ad 8, .inr (1, [.ref (ad 1)])), (ad 9, .inr (3, [.ref (ad 1), .int ch, .int (nI (sF g (2 ^ gE g))), .int (nI (nP (co g) (2 ^ gE g))), .int (nI (mo g (2 ^ gE g))), .ref (ad 10), .ref (ad 11), .int (nI (sW g (2 ^ gE g))), .ref (ad 12), .ref (ad 13), .ref (ad 14)])), (ad 10, .inl (cy 0, 8, .inl u4.1)), (ad 11, .inl (cy 0, 8, .inl u4.2.1)), (ad 12, .inl (cy 0, 15, .inl u4.2.2.1)), (ad 13, .inl (cy 0, 15, .inl u4.2.2.2.1)), (ad 14, .inl (cy 0, 15, .inl u4.2.2.2.2)), (ad 1, .inr (0, [.int (nI (gV g)), .int (nI (gC g)), .int (nI (gE g)), .int ch, .ref (ad 2), .ref (ad 3), .ref (ad 4), .ref (ad 5), .ref (ad 6)])), (ad 2, .inl (cy 0, 6, .inl (fun i => nI (gL g i)))), (ad 3, .inl (cy 0, 14, .inl (fun i => nI (gF g i)))), (ad 4, .inl (cy 0, 14, .inl (fun i => nI (gS g i)))), (ad 5, .inl (cy 0, 14, .inl (fun i => nI (gH g i)))), (ad 6, .inl (cy 0, 14, .inl (fun i => zI (gW g i))))] := hD
  have htb : tabs g (2 ^ gE g) u4.1 u4.2.1 := w4
  refine lv_iconst (v := nI 0) hx hb dX5_heaviest_7 (by decide) ?_
  refine lv_istore_n (lv' := [(1, .int (nI 0)), (0, .ref (ad 0))]) hx hb dX5_heaviest_8 rfl hl (by decide) rfl (fun ls hl => ?_)
  refine lv_iconst (v := nI 1) hx hb dX5_heaviest_9 (by decide) ?_
  refine lv_istore_n (lv' := [(2, .int (nI 1)), (1, .int (nI 0)), (0, .ref (ad 0))]) hx hb dX5_heaviest_10 rfl hl (by decide) rfl (fun ls hl => ?_)
  have L11 : ∀ (n : Nat) (j : Nat), j ≤ moA g ∧ moA g + 1 ≤ j + n → ∀ (H : Heap) (locs : List Loc), va_P D vwCl [(ad 0, .inr (4, [.ref (ad 1), .ref (ad 7), .ref (ad 8), .ref (ad 9)])), (ad 7, .inr (2, [.ref (ad 1)])), (ad 8, .inr (1, [.ref (ad 1)])), (ad 9, .inr (3, [.ref (ad 1), .int ch, .int (nI (sF g (2 ^ gE g))), .int (nI (nP (co g) (2 ^ gE g))), .int (nI (mo g (2 ^ gE g))), .ref (ad 10), .ref (ad 11), .int (nI (sW g (2 ^ gE g))), .ref (ad 12), .ref (ad 13), .ref (ad 14)])), (ad 10, .inl (cy 0, 8, .inl u4.1)), (ad 11, .inl (cy 0, 8, .inl u4.2.1)), (ad 12, .inl (cy 0, 15, .inl u4.2.2.1)), (ad 13, .inl (cy 0, 15, .inl u4.2.2.2.1)), (ad 14, .inl (cy 0, 15, .inl u4.2.2.2.2)), (ad 1, .inr (0, [.int (nI (gV g)), .int (nI (gC g)), .int (nI (gE g)), .int ch, .ref (ad 2), .ref (ad 3), .ref (ad 4), .ref (ad 5), .ref (ad 6)])), (ad 2, .inl (cy 0, 6, .inl (fun i => nI (gL g i)))), (ad 3, .inl (cy 0, 14, .inl (fun i => nI (gF g i)))), (ad 4, .inl (cy 0, 14, .inl (fun i => nI (gS g i)))), (ad 5, .inl (cy 0, 14, .inl (fun i => nI (gH g i)))), (ad 6, .inl (cy 0, 14, .inl (fun i => zI (gW g i))))] H → va_D (inW (wX cy ad ch g sn wf cs ms wd fd fw fp frm ft)) [(ad 0, .inr (4, [.ref (ad 1), .ref (ad 7), .ref (ad 8), .ref (ad 9)])), (ad 7, .inr (2, [.ref (ad 1)])), (ad 8, .inr (1, [.ref (ad 1)])), (ad 9, .inr (3, [.ref (ad 1), .int ch, .int (nI (sF g (2 ^ gE g))), .int (nI (nP (co g) (2 ^ gE g))), .int (nI (mo g (2 ^ gE g))), .ref (ad 10), .ref (ad 11), .int (nI (sW g (2 ^ gE g))), .ref (ad 12), .ref (ad 13), .ref (ad 14)])), (ad 10, .inl (cy 0, 8, .inl u4.1)), (ad 11, .inl (cy 0, 8, .inl u4.2.1)), (ad 12, .inl (cy 0, 15, .inl u4.2.2.1)), (ad 13, .inl (cy 0, 15, .inl u4.2.2.2.1)), (ad 14, .inl (cy 0, 15, .inl u4.2.2.2.2)), (ad 1, .inr (0, [.int (nI (gV g)), .int (nI (gC g)), .int (nI (gE g)), .int ch, .ref (ad 2), .ref (ad 3), .ref (ad 4), .ref (ad 5), .ref (ad 6)])), (ad 2, .inl (cy 0, 6, .inl (fun i => nI (gL g i)))), (ad 3, .inl (cy 0, 14, .inl (fun i => nI (gF g i)))), (ad 4, .inl (cy 0, 14, .inl (fun i => nI (gS g i)))), (ad 5, .inl (cy 0, 14, .inl (fun i => nI (gH g i)))), (ad 6, .inl (cy 0, 14, .inl (fun i => zI (gW g i))))] → va_S (inW (wX cy ad ch g sn wf cs ms wd fd fw fp frm ft)) s.heap H locs → ∀ (ls : Array Slot), lv_has ls 3 [(0, .ref (ad 0)), (1, .int (nI (hv (wB g) j))), (2, .int (nI (j + 1)))] → W p l ev (headSpec wsX5_heaviest ({ frames := 5, cells := 0, slots := 0, locals := 117 })).room s m [.ref (ad 0)].toArray below meth c H locs 0 0 (MQ below (va_Qi (fun (r : Int32) (u : (Nat → Int32) × (Nat → Int32) × (Nat → Int32) × (Nat → Int32) × (Nat → Int32)) => r = nI (hv (wB g) (moA g)) ∧ tabs g (2 ^ gE g) u.1 u.2.1) (fun u t => va_P D vwCl ((fun u : (Nat → Int32) × (Nat → Int32) × (Nat → Int32) × (Nat → Int32) × (Nat → Int32) => wX cy ad ch g ch (nI (sF g (2 ^ gE g))) (nI (nP (co g) (2 ^ gE g))) (nI (mo g (2 ^ gE g))) (nI (sW g (2 ^ gE g))) u.1 u.2.1 u.2.2.1 u.2.2.2.1 u.2.2.2.2) u) t.heap) (inW (wX cy ad ch g sn wf cs ms wd fd fw fp frm ft))) [.ref (ad 0)].toArray s 0 0 (inW (wX cy ad ch g sn wf cs ms wd fd fw fp frm ft))) (F0 m 11 ls []) := by
    intro n
    induction n with
    | zero =>
      intro j hfuel  H locs hP hD hS ls hl
      exact absurd hfuel.2 (by have := hfuel.1; omega)
    | succ n ih11 =>
      intro j hfuel  H locs hP hD hS ls hl
      obtain ⟨hfu1, hfu2⟩ := hfuel
      have hhv := hv_le (wB g) j
      have hw1 := wB_bd hg (j + 1)
      have hw2 := wB_bd hg (hv (wB g) j)
      refine lv_iload_n hx hb dX5_heaviest_11 rfl (lv_at hl 2 rfl) ?_
      refine lv_aload_n hx hb dX5_heaviest_12 rfl (lv_at hl 0 rfl) ?_
      refine va_get (D := D) (ci := 4) (v := .ref (ad 9)) (C := RX5) (T := TX5) (N := 4) hx hb hts inX5 hown hK.1 hP 0 rfl rfl 3 (by decide) (hts (.fieldLink RX5 34 "ColourForests" "survey" "LColourForests$Survey;") (List.mem_of_getElem? (i := 1) rfl)) (fun _ h9 => h9) rfl dX5_heaviest_13 ?_
      refine va_get (D := D) (ci := 3) (v := .int (nI (mo g (2 ^ gE g)))) (C := RX4) (T := TX4) (N := 11) hx hb hts inX4 hown hK.1 hP 3 rfl rfl 4 (by decide) (hts (.fieldLink RX5 139 "ColourForests$Survey" "most" "I") (List.mem_of_getElem? (i := 2) rfl)) (fun _ h9 => h9) rfl dX5_heaviest_16 ?_
      refine n_gt (a := (j + 1)) (b := (mo g (2 ^ gE g))) (tgt := 51) hx hb dX5_heaviest_19 (by decide) (by omega) (by omega) (fun c19 => ?_) (fun c19 => ?_)
      · refine lv_iload_n hx hb dX5_heaviest_51 rfl (lv_at hl 1 rfl) ?_
        exact wi_ret u4 hx hb hr hlocks hS hP ⟨(by rw [show j = moA g by omega]), htb⟩ dX5_heaviest_52
      · refine lv_aload_n hx hb dX5_heaviest_22 rfl (lv_at hl 0 rfl) ?_
        refine va_get (D := D) (ci := 4) (v := .ref (ad 9)) (C := RX5) (T := TX5) (N := 4) hx hb hts inX5 hown hK.1 hP 0 rfl rfl 3 (by decide) (hts (.fieldLink RX5 34 "ColourForests" "survey" "LColourForests$Survey;") (List.mem_of_getElem? (i := 1) rfl)) (fun _ h9 => h9) rfl dX5_heaviest_23 ?_
        refine va_get (D := D) (ci := 3) (v := .ref (ad 11)) (C := RX4) (T := TX4) (N := 11) hx hb hts inX4 hown hK.1 hP 3 rfl rfl 6 (by decide) (hts (.fieldLink RX5 151 "ColourForests$Survey" "dearestWeights" "[I") (List.mem_of_getElem? (i := 3) rfl)) (fun _ h9 => h9) rfl dX5_heaviest_26 ?_
        refine lv_iload_n hx hb dX5_heaviest_29 rfl (lv_at hl 2 rfl) ?_
        refine rd_i (k := (j + 1)) (v := (zI (wB g (j + 1)))) hx hb hK hP 5 rfl (by omega) (by decide) (tabs_ds hg htb (by omega)).2 dX5_heaviest_30 ?_
        refine lv_aload_n hx hb dX5_heaviest_31 rfl (lv_at hl 0 rfl) ?_
        refine va_get (D := D) (ci := 4) (v := .ref (ad 9)) (C := RX5) (T := TX5) (N := 4) hx hb hts inX5 hown hK.1 hP 0 rfl rfl 3 (by decide) (hts (.fieldLink RX5 34 "ColourForests" "survey" "LColourForests$Survey;") (List.mem_of_getElem? (i := 1) rfl)) (fun _ h9 => h9) rfl dX5_heaviest_32 ?_
        refine va_get (D := D) (ci := 3) (v := .ref (ad 11)) (C := RX4) (T := TX4) (N := 11) hx hb hts inX4 hown hK.1 hP 3 rfl rfl 6 (by decide) (hts (.fieldLink RX5 151 "ColourForests$Survey" "dearestWeights" "[I") (List.mem_of_getElem? (i := 3) rfl)) (fun _ h9 => h9) rfl dX5_heaviest_35 ?_
        refine lv_iload_n hx hb dX5_heaviest_38 rfl (lv_at hl 1 rfl) ?_
        refine rd_i (k := (hv (wB g) j)) (v := (zI (wB g (hv (wB g) j)))) hx hb hK hP 5 rfl (by omega) (by decide) (tabs_ds hg htb (by omega)).2 dX5_heaviest_39 ?_
        refine z_le (a := (wB g (j + 1))) (b := (wB g (hv (wB g) j))) (tgt := 45) hx hb dX5_heaviest_40 (by decide) ⟨by omega, by omega⟩ ⟨by omega, by omega⟩ (fun c40 => ?_) (fun c40 => ?_)
        · refine lv_iinc (v := (nI (j + 1 + 1))) (lv' := [(2, .int (nI (j + 1 + 1))), (0, .ref (ad 0)), (1, .int (nI (hv (wB g) j)))]) hx hb dX5_heaviest_45 hl (k := 2) rfl (ni_inc _) (by decide) rfl (fun ls hl => ?_)
          refine lv_goto (tgt := 11) hx hb dX5_heaviest_48 (by decide) ?_
          exact ih11 (j + 1) ⟨by omega, by omega⟩  _ _ hP hD hS _ (by first | (rw [hv_y (w := wB g) c40]; exact lv_sub hl [1, 2, 0] rfl) | (rw [hv_n (w := wB g) (Int.not_lt.mpr c40)]; exact lv_sub hl [1, 2, 0] rfl))
        · refine lv_iload_n hx hb dX5_heaviest_43 rfl (lv_at hl 2 rfl) ?_
          refine lv_istore_n (lv' := [(1, .int (nI (j + 1))), (0, .ref (ad 0)), (2, .int (nI (j + 1)))]) hx hb dX5_heaviest_44 rfl hl (by decide) rfl (fun ls hl => ?_)
          refine lv_iinc (v := (nI (j + 1 + 1))) (lv' := [(2, .int (nI (j + 1 + 1))), (1, .int (nI (j + 1))), (0, .ref (ad 0))]) hx hb dX5_heaviest_45 hl (k := 2) rfl (ni_inc _) (by decide) rfl (fun ls hl => ?_)
          refine lv_goto (tgt := 11) hx hb dX5_heaviest_48 (by decide) ?_
          exact ih11 (j + 1) ⟨by omega, by omega⟩  _ _ hP hD hS _ (by first | (rw [hv_y (w := wB g) c40]; exact lv_sub hl [2, 1, 0] rfl) | (rw [hv_n (w := wB g) (Int.not_lt.mpr c40)]; exact lv_sub hl [2, 1, 0] rfl))
  exact L11 (moA g + 1) 0 ⟨Nat.zero_le _, by omega⟩  _ _ hP hD hS _ (lv_sub hl [2, 1, 0] rfl)

set_option maxHeartbeats 4000000 in
set_option maxRecDepth 100000 in
theorem c_splitL (l : Launch) (D : va_G) (cy : Nat → ClassId) (ad : Nat → Nat) (ch : Int32) {g : GT} (hg : gOK g) {fd fw : Nat → Int32} (fp frm ft : Nat → Int32) (htb : tabs g (2 ^ gE g) fd fw) : PU l yX5_leastSplit wsX5_leastSplit ({ frames := 4, cells := 0, slots := 0, locals := 98 }) D cy [.ref (ad 0), .ref (ad 7), .ref (ad 8)] (wX cy ad ch g ch (nI (sF g (2 ^ gE g))) (nI (nP (co g) (2 ^ gE g))) (nI (mo g (2 ^ gE g))) (nI (sW g (2 ^ gE g))) fd fw fp frm ft) ((nI (spl (rA g) (rB g) (gE g) (dsA g (moA g)) (gE g) 0))) := by
  refine Met.ofW (cc := cX5_leastSplit) (maxL := 8) (ret := (some .int)) (by decide) rfl ?_
  intro p ev s m args below meth c s₁ B hml hv
  obtain ⟨rfl, hK, hP⟩ := hv
  have hx := B.exec
  have hb := B.bytes
  have hr := B.returns
  have hts := atoms_spec (ws := wsX5_leastSplit) B.pre
  have hown : s.vm.findClass RX5 = some m.cls := findClass_of_methodNamed B.named
  have hlocks := B.notSynchronized
  have hS : va_S (fun _ => False) s.heap s.heap [] := va_S.rf
  have hP : va_P D vwCl (wX cy ad ch g ch (nI (sF g (2 ^ gE g))) (nI (nP (co g) (2 ^ gE g))) (nI (mo g (2 ^ gE g))) (nI (sW g (2 ^ gE g))) fd fw fp frm ft) s.heap := hP
  have inX5 : ∀ w ∈ wsX50, w ∈ wsX5_leastSplit := by decide +kernel
  have inX4 : ∀ w ∈ wsX40, w ∈ wsX5_leastSplit := by decide +kernel
  have inX0 : ∀ w ∈ wsX00, w ∈ wsX5_leastSplit := by decide +kernel
  have hl := lv_entry ([.ref (ad 0), .ref (ad 7), .ref (ad 8)]) (n := 8) (Nat.le_of_ble_eq_true rfl)
  rw [lg_entry_eq]
  generalize (lg_sl ([.ref (ad 0), .ref (ad 7), .ref (ad 8)]) ++ List.replicate (8 - (lg_sl ([.ref (ad 0), .ref (ad 7), .ref (ad 8)])).length) Slot.unset).toArray = ls at hl ⊢
  have hl : lv_has ls 8 [(0, .ref (ad 0)), (1, .ref (ad 7)), (2, .ref (ad 8))] := hl
  have hgen := True.intro
  have hE := hg.2.2.1
  have hV := hg.1
  have hC := hg.2.1
  have hS8 : 2 ^ gE g ≤ 2 ^ 14 := Nat.pow_le_pow_right (by decide) hE
  have hmo := mo_le g hg
  have hme : mo g (2 ^ gE g) = moA g := rfl
  have hL := dsA_lt hg (Nat.le_refl (moA g))
  refine lv_aload_n hx hb dX5_leastSplit_0 rfl (lv_at hl 0 rfl) ?_
  refine va_get (D := D) (ci := 4) (v := .ref (ad 9)) (C := RX5) (T := TX5) (N := 4) hx hb hts inX5 hown hK.1 hP 0 rfl rfl 3 (by decide) (hts (.fieldLink RX5 34 "ColourForests" "survey" "LColourForests$Survey;") (List.mem_of_getElem? (i := 1) rfl)) (fun _ h9 => h9) rfl dX5_leastSplit_1 ?_
  refine va_get (D := D) (ci := 3) (v := .ref (ad 10)) (C := RX4) (T := TX4) (N := 11) hx hb hts inX4 hown hK.1 hP 3 rfl rfl 5 (by decide) (hts (.fieldLink RX5 145 "ColourForests$Survey" "dearestSets" "[I") (List.mem_of_getElem? (i := 2) rfl)) (fun _ h9 => h9) rfl dX5_leastSplit_4 ?_
  refine lv_aload_n hx hb dX5_leastSplit_7 rfl (lv_at hl 0 rfl) ?_
  refine va_get (D := D) (ci := 4) (v := .ref (ad 9)) (C := RX5) (T := TX5) (N := 4) hx hb hts inX5 hown hK.1 hP 0 rfl rfl 3 (by decide) (hts (.fieldLink RX5 34 "ColourForests" "survey" "LColourForests$Survey;") (List.mem_of_getElem? (i := 1) rfl)) (fun _ h9 => h9) rfl dX5_leastSplit_8 ?_
  refine va_get (D := D) (ci := 3) (v := .int (nI (mo g (2 ^ gE g)))) (C := RX4) (T := TX4) (N := 11) hx hb hts inX4 hown hK.1 hP 3 rfl rfl 4 (by decide) (hts (.fieldLink RX5 139 "ColourForests$Survey" "most" "I") (List.mem_of_getElem? (i := 3) rfl)) (fun _ h9 => h9) rfl dX5_leastSplit_11 ?_
  refine rd_i (k := (mo g (2 ^ gE g))) (v := (nI (dsA g (moA g)))) hx hb hK hP 4 rfl (by omega) (by decide) (tabs_ds hg htb (Nat.le_refl _)).1 dX5_leastSplit_14 ?_
  refine lv_istore_n (lv' := [(3, .int (nI (dsA g (moA g)))), (0, .ref (ad 0)), (1, .ref (ad 7)), (2, .ref (ad 8))]) hx hb dX5_leastSplit_15 rfl hl (by decide) rfl (fun ls hl => ?_)
  refine lv_iconst (v := nI 0) hx hb dX5_leastSplit_16 (by decide) ?_
  refine lv_istore (lv' := [(4, .int (nI 0)), (3, .int (nI (dsA g (moA g)))), (0, .ref (ad 0)), (1, .ref (ad 7)), (2, .ref (ad 8))]) hx hb dX5_leastSplit_17 hl (by decide) rfl (fun ls hl => ?_)
  refine lv_iconst (v := nI 0) hx hb dX5_leastSplit_19 (by decide) ?_
  refine lv_istore (lv' := [(5, .int (nI 0)), (4, .int (nI 0)), (3, .int (nI (dsA g (moA g)))), (0, .ref (ad 0)), (1, .ref (ad 7)), (2, .ref (ad 8))]) hx hb dX5_leastSplit_20 hl (by decide) rfl (fun ls hl => ?_)
  have L22 : ∀ (n : Nat) (r : Nat) (X : Nat), r ≤ gE g ∧ gE g + 1 ≤ r + n → X < 2 ^ gE g → spl (rA g) (rB g) (gE g) (dsA g (moA g)) (gE g - r) X = spl (rA g) (rB g) (gE g) (dsA g (moA g)) (gE g) 0 → ∀ (H : Heap) (locs : List Loc), va_P D vwCl (wX cy ad ch g ch (nI (sF g (2 ^ gE g))) (nI (nP (co g) (2 ^ gE g))) (nI (mo g (2 ^ gE g))) (nI (sW g (2 ^ gE g))) fd fw fp frm ft) H → va_S (fun _ => False) s.heap H locs → ∀ (ls : Array Slot), lv_has ls 8 [(0, .ref (ad 0)), (1, .ref (ad 7)), (2, .ref (ad 8)), (3, .int (nI (dsA g (moA g)))), (4, .int (nI X)), (5, .int (nI r))] → W p l ev (headSpec wsX5_leastSplit ({ frames := 4, cells := 0, slots := 0, locals := 98 })).room s m [.ref (ad 0), .ref (ad 7), .ref (ad 8)].toArray below meth c H locs 0 0 (MQ below (va_Qi (fun (x : Int32) (_ : Unit) => x = (nI (spl (rA g) (rB g) (gE g) (dsA g (moA g)) (gE g) 0))) (fun _ _ => True) (fun _ => False)) [.ref (ad 0), .ref (ad 7), .ref (ad 8)].toArray s 0 0 (fun _ => False)) (F0 m 22 ls []) := by
    intro n
    induction n with
    | zero =>
      intro r X hfuel hX hsp H locs hP hS ls hl
      exact absurd hfuel.2 (by have := hfuel.1; omega)
    | succ n ih22 =>
      intro r X hfuel hX hsp H locs hP hS ls hl
      obtain ⟨hfu1, hfu2⟩ := hfuel
      refine lv_iload hx hb dX5_leastSplit_22 (lv_at hl 5 rfl) ?_
      refine lv_aload_n hx hb dX5_leastSplit_24 rfl (lv_at hl 0 rfl) ?_
      refine va_get (D := D) (ci := 4) (v := .ref (ad 1)) (C := RX5) (T := TX5) (N := 4) hx hb hts inX5 hown hK.1 hP 0 rfl rfl 0 (by decide) (hts (.fieldLink RX5 10 "ColourForests" "graph" "LColourForests$Graph;") (List.mem_of_getElem? (i := 4) rfl)) (fun _ h9 => h9) rfl dX5_leastSplit_25 ?_
      refine va_get (D := D) (ci := 0) (v := .int (nI (gE g))) (C := RX0) (T := TX0) (N := 9) hx hb hts inX0 hown hK.1 hP 9 rfl rfl 2 (by decide) (hts (.fieldLink RX5 63 "ColourForests$Graph" "edges" "I") (List.mem_of_getElem? (i := 5) rfl)) (fun _ h9 => h9) rfl dX5_leastSplit_28 ?_
      refine n_ge (a := r) (b := (gE g)) (tgt := 98) hx hb dX5_leastSplit_31 (by decide) (by omega) (by omega) (fun c31 => ?_) (fun c31 => ?_)
      · refine lv_iload hx hb dX5_leastSplit_98 (lv_at hl 4 rfl) ?_
        exact pu_iret (y := yX5_leastSplit) hx hb hr hlocks hS (by first | (rw [spl_stop c70 (show r < gE g by omega) hsp]) | (rw [← hsp, show gE g - r = 0 by omega]; rfl)) dX5_leastSplit_100
      · refine lv_aload_n hx hb dX5_leastSplit_34 rfl (lv_at hl 0 rfl) ?_
        refine va_get (D := D) (ci := 4) (v := .ref (ad 1)) (C := RX5) (T := TX5) (N := 4) hx hb hts inX5 hown hK.1 hP 0 rfl rfl 0 (by decide) (hts (.fieldLink RX5 10 "ColourForests" "graph" "LColourForests$Graph;") (List.mem_of_getElem? (i := 4) rfl)) (fun _ h9 => h9) rfl dX5_leastSplit_35 ?_
        refine pu_call (va_runV (As := []) (rest := []) ⟨hx, hb, hml, hown, hts⟩ (c_X0_allEdges l D cy ad ch hg) (cwV 0 hts gX5_leastSplit_X0_allEdges rfl rfl rfl (by decide +kernel) ⟨Nat.le_of_ble_eq_true rfl, Nat.le_of_ble_eq_true rfl⟩) (PU_preV (ci := 0) (q0 := 9) hK hP 0 rfl rfl [9, 10, 11, 12, 13, 14] rfl) rfl rfl hl.1 rfl (lv_room (Nat.le_of_ble_eq_true rfl)) dX5_leastSplit_38 ⟨(Nat.zero_le _), (Nat.zero_le _)⟩) hS hP (fun H locs hP hS => ?_)
        refine lv_aload_n hx hb dX5_leastSplit_41 rfl (lv_at hl 2 rfl) ?_
        refine lv_iload_n hx hb dX5_leastSplit_42 rfl (lv_at hl 3 rfl) ?_
        refine lv_iload hx hb dX5_leastSplit_43 (lv_at hl 4 rfl) ?_
        refine lv_iconst (v := zI (-1)) hx hb dX5_leastSplit_45 (by decide) ?_
        refine lv_ixor hx hb dX5_leastSplit_46 ?_
        refine lv_iand hx hb dX5_leastSplit_47 ?_
        refine lv_as (y := (nI (ms_sd (dsA g (moA g)) X))) (ni_sdz _ _) ?_
        refine pu_call (va_runU (As := [.int (nI (ms_sd (dsA g (moA g)) X))]) (rest := [.int (nI (2 ^ gE g - 1))]) ⟨hx, hb, hml, hown, hts⟩ (c_closureOf2 l D cy ad ch hg (S := ms_sd (dsA g (moA g)) X) (ms_sd_lt hL)) (va_cwU 1 hts gX5_leastSplit_X1_closureOf_u136X2 rfl rfl rfl rfl (by decide +kernel) ⟨Nat.le_of_ble_eq_true rfl, Nat.le_of_ble_eq_true rfl⟩) (PU_preV (ci := 1) (q0 := 2) hK hP 0 rfl rfl [2, 9, 10, 11, 12, 13, 14] rfl) rfl rfl hl.1 rfl (lv_room (Nat.le_of_ble_eq_true rfl)) dX5_leastSplit_48 ⟨(Nat.zero_le _), (Nat.zero_le _)⟩) hS hP (fun H locs hP hS => ?_)
        refine lv_iconst (v := zI (-1)) hx hb dX5_leastSplit_51 (by decide) ?_
        refine lv_ixor hx hb dX5_leastSplit_52 ?_
        refine lv_iand hx hb dX5_leastSplit_53 ?_
        refine lv_as (y := (nI (ms_sd (2 ^ gE g - 1) (cloN (rB g) (gE g) (ms_sd (dsA g (moA g)) X))))) (ni_sdz _ _) ?_
        refine lv_iload hx hb dX5_leastSplit_54 (lv_at hl 4 rfl) ?_
        refine lv_iconst (v := zI (-1)) hx hb dX5_leastSplit_56 (by decide) ?_
        refine lv_ixor hx hb dX5_leastSplit_57 ?_
        refine lv_iand hx hb dX5_leastSplit_58 ?_
        refine lv_as (y := (nI (ms_sd (ms_sd (2 ^ gE g - 1) (cloN (rB g) (gE g) (ms_sd (dsA g (moA g)) X))) X))) (ni_sdz _ _) ?_
        refine lv_istore (lv' := [(6, .int (nI (ms_sd (ms_sd (2 ^ gE g - 1) (cloN (rB g) (gE g) (ms_sd (dsA g (moA g)) X))) X))), (0, .ref (ad 0)), (1, .ref (ad 7)), (2, .ref (ad 8)), (3, .int (nI (dsA g (moA g)))), (4, .int (nI X)), (5, .int (nI r))]) hx hb dX5_leastSplit_59 hl (by decide) rfl (fun ls hl => ?_)
        refine lv_iload hx hb dX5_leastSplit_61 (lv_at hl 0 rfl) ?_
        refine pu_call (va_runS (As := [.int (nI (ms_sd (ms_sd (2 ^ gE g - 1) (cloN (rB g) (gE g) (ms_sd (dsA g (moA g)) X))) X))]) (rest := []) ⟨hx, hb, hml, hown, hts⟩ (c_J6_lowestOneBit_0f7a4 l D cy (S := frc (rB g) (gE g) (dsA g (moA g)) X) (by have := frc_lt (rB g) (gE g) (dsA g (moA g)) X; omega)) (va_cwS 1 hts gX5_leastSplit_J6_lowestOneBit_0f7a4 rfl rfl rfl (by decide +kernel) ⟨Nat.le_of_ble_eq_true rfl, Nat.le_of_ble_eq_true rfl⟩) (PU_preS hK hP [] rfl) rfl rfl hl.1 rfl (lv_room (Nat.le_of_ble_eq_true rfl)) dX5_leastSplit_63 ⟨(Nat.zero_le _), (Nat.zero_le _)⟩) hS hP (fun H locs hP hS => ?_)
        refine lv_istore (lv' := [(7, .int (nI (loN (frc (rB g) (gE g) (dsA g (moA g)) X)))), (6, .int (nI (ms_sd (ms_sd (2 ^ gE g - 1) (cloN (rB g) (gE g) (ms_sd (dsA g (moA g)) X))) X))), (0, .ref (ad 0)), (1, .ref (ad 7)), (2, .ref (ad 8)), (3, .int (nI (dsA g (moA g)))), (4, .int (nI X)), (5, .int (nI r))]) hx hb dX5_leastSplit_66 hl (by decide) rfl (fun ls hl => ?_)
        refine lv_iload hx hb dX5_leastSplit_68 (lv_at hl 0 rfl) ?_
        have hlo := loN_le (frc (rB g) (gE g) (dsA g (moA g)) X)
        refine lv_if_ne (tgt := 76) hx hb dX5_leastSplit_70 (by decide) (fun c70 => ?_) (fun c70 => ?_)
        · have c70 := n0_ne c70
          refine lv_iload hx hb dX5_leastSplit_76 (lv_at hl 6 rfl) ?_
          refine lv_iload hx hb dX5_leastSplit_78 (lv_at hl 0 rfl) ?_
          refine lv_aload_n hx hb dX5_leastSplit_80 rfl (lv_at hl 3 rfl) ?_
          refine lv_iload_n hx hb dX5_leastSplit_81 rfl (lv_at hl 5 rfl) ?_
          refine lv_iload hx hb dX5_leastSplit_82 (lv_at hl 0 rfl) ?_
          refine lv_ior hx hb dX5_leastSplit_84 ?_
          refine lv_as (y := (nI ((dsA g (moA g)) ||| (loN (frc (rB g) (gE g) (dsA g (moA g)) X))))) (ni_or _ _) ?_
          refine pu_call (va_runU (As := [.int (nI ((dsA g (moA g)) ||| (loN (frc (rB g) (gE g) (dsA g (moA g)) X))))]) (rest := [.int (nI (loN (frc (rB g) (gE g) (dsA g (moA g)) X))), .int (nI X)]) ⟨hx, hb, hml, hown, hts⟩ (c_circuitWithin3 l D cy ad ch hg (S := (dsA g (moA g)) ||| (loN (frc (rB g) (gE g) (dsA g (moA g)) X))) (Nat.or_lt_two_pow hL (loF_lt hE c70))) (va_cwU 1 hts gX5_leastSplit_X1_circuitWithin_u133X3 rfl rfl rfl rfl (by decide +kernel) ⟨Nat.le_of_ble_eq_true rfl, Nat.le_of_ble_eq_true rfl⟩) (PU_preV (ci := 2) (q0 := 1) hK hP 0 rfl rfl [1, 9, 10, 11, 12, 13, 14] rfl) rfl rfl hl.1 rfl (lv_room (Nat.le_of_ble_eq_true rfl)) dX5_leastSplit_85 ⟨(Nat.zero_le _), (Nat.zero_le _)⟩) hS hP (fun H locs hP hS => ?_)
          refine lv_ior hx hb dX5_leastSplit_88 ?_
          refine lv_as (y := (nI ((loN (frc (rB g) (gE g) (dsA g (moA g)) X)) ||| (cirN (rA g) (gE g) ((dsA g (moA g)) ||| (loN (frc (rB g) (gE g) (dsA g (moA g)) X))))))) (ni_or _ _) ?_
          refine lv_ior hx hb dX5_leastSplit_89 ?_
          refine lv_as (y := (nI (X ||| ((loN (frc (rB g) (gE g) (dsA g (moA g)) X)) ||| (cirN (rA g) (gE g) ((dsA g (moA g)) ||| (loN (frc (rB g) (gE g) (dsA g (moA g)) X)))))))) (ni_or _ _) ?_
          refine lv_istore (lv' := [(4, .int (nI (X ||| ((loN (frc (rB g) (gE g) (dsA g (moA g)) X)) ||| (cirN (rA g) (gE g) ((dsA g (moA g)) ||| (loN (frc (rB g) (gE g) (dsA g (moA g)) X)))))))), (7, .int (nI (loN (frc (rB g) (gE g) (dsA g (moA g)) X)))), (6, .int (nI (ms_sd (ms_sd (2 ^ gE g - 1) (cloN (rB g) (gE g) (ms_sd (dsA g (moA g)) X))) X))), (0, .ref (ad 0)), (1, .ref (ad 7)), (2, .ref (ad 8)), (3, .int (nI (dsA g (moA g)))), (5, .int (nI r))]) hx hb dX5_leastSplit_90 hl (by decide) rfl (fun ls hl => ?_)
          refine lv_iinc (v := (nI (r + 1))) (lv' := [(5, .int (nI (r + 1))), (4, .int (nI (X ||| ((loN (frc (rB g) (gE g) (dsA g (moA g)) X)) ||| (cirN (rA g) (gE g) ((dsA g (moA g)) ||| (loN (frc (rB g) (gE g) (dsA g (moA g)) X)))))))), (7, .int (nI (loN (frc (rB g) (gE g) (dsA g (moA g)) X)))), (6, .int (nI (ms_sd (ms_sd (2 ^ gE g - 1) (cloN (rB g) (gE g) (ms_sd (dsA g (moA g)) X))) X))), (0, .ref (ad 0)), (1, .ref (ad 7)), (2, .ref (ad 8)), (3, .int (nI (dsA g (moA g))))]) hx hb dX5_leastSplit_92 hl (k := 7) rfl (ni_inc _) (by decide) rfl (fun ls hl => ?_)
          refine lv_goto (tgt := 22) hx hb dX5_leastSplit_95 (by decide) ?_
          exact ih22 (r + 1) (spS (rA g) (rB g) (gE g) (dsA g (moA g)) X) ⟨by omega, by omega⟩ (spS_lt hE hX c70) (spl_step (by omega) c70 hsp) _ _ hP hS _ (lv_sub hl [4, 5, 6, 7, 1, 0] rfl)
        · have c70 := n0_of (by omega) c70
          refine lv_goto (tgt := 98) hx hb dX5_leastSplit_73 (by decide) ?_
          refine lv_iload hx hb dX5_leastSplit_98 (lv_at hl 6 rfl) ?_
          exact pu_iret (y := yX5_leastSplit) hx hb hr hlocks hS (by first | (rw [spl_stop c70 (show r < gE g by omega) hsp]) | (rw [← hsp, show gE g - r = 0 by omega]; rfl)) dX5_leastSplit_100
  exact L22 (gE g + 1) 0 0 ⟨Nat.zero_le _, by omega⟩ (Nat.two_pow_pos _) rfl _ _ hP hS _ (lv_sub hl [3, 4, 5, 2, 1, 0] rfl)

set_option maxHeartbeats 4000000 in
set_option maxRecDepth 100000 in
theorem c_splitG (l : Launch) (D : va_G) (cy : Nat → ClassId) (ad : Nat → Nat) (ch : Int32) {g : GT} (hg : gOK g) {fd fw : Nat → Int32} (fp frm ft : Nat → Int32) (htb : tabs g (2 ^ gE g) fd fw) : PU l yX5_leastSplit wsX5_leastSplit ({ frames := 4, cells := 0, slots := 0, locals := 98 }) D cy [.ref (ad 0), .ref (ad 8), .ref (ad 7)] (wX cy ad ch g ch (nI (sF g (2 ^ gE g))) (nI (nP (co g) (2 ^ gE g))) (nI (mo g (2 ^ gE g))) (nI (sW g (2 ^ gE g))) fd fw fp frm ft) ((nI (spl (rB g) (rA g) (gE g) (dsA g (moA g)) (gE g) 0))) := by
  refine Met.ofW (cc := cX5_leastSplit) (maxL := 8) (ret := (some .int)) (by decide) rfl ?_
  intro p ev s m args below meth c s₁ B hml hv
  obtain ⟨rfl, hK, hP⟩ := hv
  have hx := B.exec
  have hb := B.bytes
  have hr := B.returns
  have hts := atoms_spec (ws := wsX5_leastSplit) B.pre
  have hown : s.vm.findClass RX5 = some m.cls := findClass_of_methodNamed B.named
  have hlocks := B.notSynchronized
  have hS : va_S (fun _ => False) s.heap s.heap [] := va_S.rf
  have hP : va_P D vwCl (wX cy ad ch g ch (nI (sF g (2 ^ gE g))) (nI (nP (co g) (2 ^ gE g))) (nI (mo g (2 ^ gE g))) (nI (sW g (2 ^ gE g))) fd fw fp frm ft) s.heap := hP
  have inX5 : ∀ w ∈ wsX50, w ∈ wsX5_leastSplit := by decide +kernel
  have inX4 : ∀ w ∈ wsX40, w ∈ wsX5_leastSplit := by decide +kernel
  have inX0 : ∀ w ∈ wsX00, w ∈ wsX5_leastSplit := by decide +kernel
  have hl := lv_entry ([.ref (ad 0), .ref (ad 8), .ref (ad 7)]) (n := 8) (Nat.le_of_ble_eq_true rfl)
  rw [lg_entry_eq]
  generalize (lg_sl ([.ref (ad 0), .ref (ad 8), .ref (ad 7)]) ++ List.replicate (8 - (lg_sl ([.ref (ad 0), .ref (ad 8), .ref (ad 7)])).length) Slot.unset).toArray = ls at hl ⊢
  have hl : lv_has ls 8 [(0, .ref (ad 0)), (1, .ref (ad 8)), (2, .ref (ad 7))] := hl
  have hgen := True.intro
  have hE := hg.2.2.1
  have hV := hg.1
  have hC := hg.2.1
  have hS8 : 2 ^ gE g ≤ 2 ^ 14 := Nat.pow_le_pow_right (by decide) hE
  have hmo := mo_le g hg
  have hme : mo g (2 ^ gE g) = moA g := rfl
  have hL := dsA_lt hg (Nat.le_refl (moA g))
  refine lv_aload_n hx hb dX5_leastSplit_0 rfl (lv_at hl 0 rfl) ?_
  refine va_get (D := D) (ci := 4) (v := .ref (ad 9)) (C := RX5) (T := TX5) (N := 4) hx hb hts inX5 hown hK.1 hP 0 rfl rfl 3 (by decide) (hts (.fieldLink RX5 34 "ColourForests" "survey" "LColourForests$Survey;") (List.mem_of_getElem? (i := 1) rfl)) (fun _ h9 => h9) rfl dX5_leastSplit_1 ?_
  refine va_get (D := D) (ci := 3) (v := .ref (ad 10)) (C := RX4) (T := TX4) (N := 11) hx hb hts inX4 hown hK.1 hP 3 rfl rfl 5 (by decide) (hts (.fieldLink RX5 145 "ColourForests$Survey" "dearestSets" "[I") (List.mem_of_getElem? (i := 2) rfl)) (fun _ h9 => h9) rfl dX5_leastSplit_4 ?_
  refine lv_aload_n hx hb dX5_leastSplit_7 rfl (lv_at hl 0 rfl) ?_
  refine va_get (D := D) (ci := 4) (v := .ref (ad 9)) (C := RX5) (T := TX5) (N := 4) hx hb hts inX5 hown hK.1 hP 0 rfl rfl 3 (by decide) (hts (.fieldLink RX5 34 "ColourForests" "survey" "LColourForests$Survey;") (List.mem_of_getElem? (i := 1) rfl)) (fun _ h9 => h9) rfl dX5_leastSplit_8 ?_
  refine va_get (D := D) (ci := 3) (v := .int (nI (mo g (2 ^ gE g)))) (C := RX4) (T := TX4) (N := 11) hx hb hts inX4 hown hK.1 hP 3 rfl rfl 4 (by decide) (hts (.fieldLink RX5 139 "ColourForests$Survey" "most" "I") (List.mem_of_getElem? (i := 3) rfl)) (fun _ h9 => h9) rfl dX5_leastSplit_11 ?_
  refine rd_i (k := (mo g (2 ^ gE g))) (v := (nI (dsA g (moA g)))) hx hb hK hP 4 rfl (by omega) (by decide) (tabs_ds hg htb (Nat.le_refl _)).1 dX5_leastSplit_14 ?_
  refine lv_istore_n (lv' := [(3, .int (nI (dsA g (moA g)))), (0, .ref (ad 0)), (1, .ref (ad 8)), (2, .ref (ad 7))]) hx hb dX5_leastSplit_15 rfl hl (by decide) rfl (fun ls hl => ?_)
  refine lv_iconst (v := nI 0) hx hb dX5_leastSplit_16 (by decide) ?_
  refine lv_istore (lv' := [(4, .int (nI 0)), (3, .int (nI (dsA g (moA g)))), (0, .ref (ad 0)), (1, .ref (ad 8)), (2, .ref (ad 7))]) hx hb dX5_leastSplit_17 hl (by decide) rfl (fun ls hl => ?_)
  refine lv_iconst (v := nI 0) hx hb dX5_leastSplit_19 (by decide) ?_
  refine lv_istore (lv' := [(5, .int (nI 0)), (4, .int (nI 0)), (3, .int (nI (dsA g (moA g)))), (0, .ref (ad 0)), (1, .ref (ad 8)), (2, .ref (ad 7))]) hx hb dX5_leastSplit_20 hl (by decide) rfl (fun ls hl => ?_)
  have L22 : ∀ (n : Nat) (r : Nat) (X : Nat), r ≤ gE g ∧ gE g + 1 ≤ r + n → X < 2 ^ gE g → spl (rB g) (rA g) (gE g) (dsA g (moA g)) (gE g - r) X = spl (rB g) (rA g) (gE g) (dsA g (moA g)) (gE g) 0 → ∀ (H : Heap) (locs : List Loc), va_P D vwCl (wX cy ad ch g ch (nI (sF g (2 ^ gE g))) (nI (nP (co g) (2 ^ gE g))) (nI (mo g (2 ^ gE g))) (nI (sW g (2 ^ gE g))) fd fw fp frm ft) H → va_S (fun _ => False) s.heap H locs → ∀ (ls : Array Slot), lv_has ls 8 [(0, .ref (ad 0)), (1, .ref (ad 8)), (2, .ref (ad 7)), (3, .int (nI (dsA g (moA g)))), (4, .int (nI X)), (5, .int (nI r))] → W p l ev (headSpec wsX5_leastSplit ({ frames := 4, cells := 0, slots := 0, locals := 98 })).room s m [.ref (ad 0), .ref (ad 8), .ref (ad 7)].toArray below meth c H locs 0 0 (MQ below (va_Qi (fun (x : Int32) (_ : Unit) => x = (nI (spl (rB g) (rA g) (gE g) (dsA g (moA g)) (gE g) 0))) (fun _ _ => True) (fun _ => False)) [.ref (ad 0), .ref (ad 8), .ref (ad 7)].toArray s 0 0 (fun _ => False)) (F0 m 22 ls []) := by
    intro n
    induction n with
    | zero =>
      intro r X hfuel hX hsp H locs hP hS ls hl
      exact absurd hfuel.2 (by have := hfuel.1; omega)
    | succ n ih22 =>
      intro r X hfuel hX hsp H locs hP hS ls hl
      obtain ⟨hfu1, hfu2⟩ := hfuel
      refine lv_iload hx hb dX5_leastSplit_22 (lv_at hl 5 rfl) ?_
      refine lv_aload_n hx hb dX5_leastSplit_24 rfl (lv_at hl 0 rfl) ?_
      refine va_get (D := D) (ci := 4) (v := .ref (ad 1)) (C := RX5) (T := TX5) (N := 4) hx hb hts inX5 hown hK.1 hP 0 rfl rfl 0 (by decide) (hts (.fieldLink RX5 10 "ColourForests" "graph" "LColourForests$Graph;") (List.mem_of_getElem? (i := 4) rfl)) (fun _ h9 => h9) rfl dX5_leastSplit_25 ?_
      refine va_get (D := D) (ci := 0) (v := .int (nI (gE g))) (C := RX0) (T := TX0) (N := 9) hx hb hts inX0 hown hK.1 hP 9 rfl rfl 2 (by decide) (hts (.fieldLink RX5 63 "ColourForests$Graph" "edges" "I") (List.mem_of_getElem? (i := 5) rfl)) (fun _ h9 => h9) rfl dX5_leastSplit_28 ?_
      refine n_ge (a := r) (b := (gE g)) (tgt := 98) hx hb dX5_leastSplit_31 (by decide) (by omega) (by omega) (fun c31 => ?_) (fun c31 => ?_)
      · refine lv_iload hx hb dX5_leastSplit_98 (lv_at hl 4 rfl) ?_
        exact pu_iret (y := yX5_leastSplit) hx hb hr hlocks hS (by first | (rw [spl_stop c70 (show r < gE g by omega) hsp]) | (rw [← hsp, show gE g - r = 0 by omega]; rfl)) dX5_leastSplit_100
      · refine lv_aload_n hx hb dX5_leastSplit_34 rfl (lv_at hl 0 rfl) ?_
        refine va_get (D := D) (ci := 4) (v := .ref (ad 1)) (C := RX5) (T := TX5) (N := 4) hx hb hts inX5 hown hK.1 hP 0 rfl rfl 0 (by decide) (hts (.fieldLink RX5 10 "ColourForests" "graph" "LColourForests$Graph;") (List.mem_of_getElem? (i := 4) rfl)) (fun _ h9 => h9) rfl dX5_leastSplit_35 ?_
        refine pu_call (va_runV (As := []) (rest := []) ⟨hx, hb, hml, hown, hts⟩ (c_X0_allEdges l D cy ad ch hg) (cwV 0 hts gX5_leastSplit_X0_allEdges rfl rfl rfl (by decide +kernel) ⟨Nat.le_of_ble_eq_true rfl, Nat.le_of_ble_eq_true rfl⟩) (PU_preV (ci := 0) (q0 := 9) hK hP 0 rfl rfl [9, 10, 11, 12, 13, 14] rfl) rfl rfl hl.1 rfl (lv_room (Nat.le_of_ble_eq_true rfl)) dX5_leastSplit_38 ⟨(Nat.zero_le _), (Nat.zero_le _)⟩) hS hP (fun H locs hP hS => ?_)
        refine lv_aload_n hx hb dX5_leastSplit_41 rfl (lv_at hl 2 rfl) ?_
        refine lv_iload_n hx hb dX5_leastSplit_42 rfl (lv_at hl 3 rfl) ?_
        refine lv_iload hx hb dX5_leastSplit_43 (lv_at hl 4 rfl) ?_
        refine lv_iconst (v := zI (-1)) hx hb dX5_leastSplit_45 (by decide) ?_
        refine lv_ixor hx hb dX5_leastSplit_46 ?_
        refine lv_iand hx hb dX5_leastSplit_47 ?_
        refine lv_as (y := (nI (ms_sd (dsA g (moA g)) X))) (ni_sdz _ _) ?_
        refine pu_call (va_runU (As := [.int (nI (ms_sd (dsA g (moA g)) X))]) (rest := [.int (nI (2 ^ gE g - 1))]) ⟨hx, hb, hml, hown, hts⟩ (c_closureOf3 l D cy ad ch hg (S := ms_sd (dsA g (moA g)) X) (ms_sd_lt hL)) (va_cwU 1 hts gX5_leastSplit_X1_closureOf_u136X3 rfl rfl rfl rfl (by decide +kernel) ⟨Nat.le_of_ble_eq_true rfl, Nat.le_of_ble_eq_true rfl⟩) (PU_preV (ci := 2) (q0 := 1) hK hP 0 rfl rfl [1, 9, 10, 11, 12, 13, 14] rfl) rfl rfl hl.1 rfl (lv_room (Nat.le_of_ble_eq_true rfl)) dX5_leastSplit_48 ⟨(Nat.zero_le _), (Nat.zero_le _)⟩) hS hP (fun H locs hP hS => ?_)
        refine lv_iconst (v := zI (-1)) hx hb dX5_leastSplit_51 (by decide) ?_
        refine lv_ixor hx hb dX5_leastSplit_52 ?_
        refine lv_iand hx hb dX5_leastSplit_53 ?_
        refine lv_as (y := (nI (ms_sd (2 ^ gE g - 1) (cloN (rA g) (gE g) (ms_sd (dsA g (moA g)) X))))) (ni_sdz _ _) ?_
        refine lv_iload hx hb dX5_leastSplit_54 (lv_at hl 4 rfl) ?_
        refine lv_iconst (v := zI (-1)) hx hb dX5_leastSplit_56 (by decide) ?_
        refine lv_ixor hx hb dX5_leastSplit_57 ?_
        refine lv_iand hx hb dX5_leastSplit_58 ?_
        refine lv_as (y := (nI (ms_sd (ms_sd (2 ^ gE g - 1) (cloN (rA g) (gE g) (ms_sd (dsA g (moA g)) X))) X))) (ni_sdz _ _) ?_
        refine lv_istore (lv' := [(6, .int (nI (ms_sd (ms_sd (2 ^ gE g - 1) (cloN (rA g) (gE g) (ms_sd (dsA g (moA g)) X))) X))), (0, .ref (ad 0)), (1, .ref (ad 8)), (2, .ref (ad 7)), (3, .int (nI (dsA g (moA g)))), (4, .int (nI X)), (5, .int (nI r))]) hx hb dX5_leastSplit_59 hl (by decide) rfl (fun ls hl => ?_)
        refine lv_iload hx hb dX5_leastSplit_61 (lv_at hl 0 rfl) ?_
        refine pu_call (va_runS (As := [.int (nI (ms_sd (ms_sd (2 ^ gE g - 1) (cloN (rA g) (gE g) (ms_sd (dsA g (moA g)) X))) X))]) (rest := []) ⟨hx, hb, hml, hown, hts⟩ (c_J6_lowestOneBit_0f7a4 l D cy (S := frc (rA g) (gE g) (dsA g (moA g)) X) (by have := frc_lt (rA g) (gE g) (dsA g (moA g)) X; omega)) (va_cwS 1 hts gX5_leastSplit_J6_lowestOneBit_0f7a4 rfl rfl rfl (by decide +kernel) ⟨Nat.le_of_ble_eq_true rfl, Nat.le_of_ble_eq_true rfl⟩) (PU_preS hK hP [] rfl) rfl rfl hl.1 rfl (lv_room (Nat.le_of_ble_eq_true rfl)) dX5_leastSplit_63 ⟨(Nat.zero_le _), (Nat.zero_le _)⟩) hS hP (fun H locs hP hS => ?_)
        refine lv_istore (lv' := [(7, .int (nI (loN (frc (rA g) (gE g) (dsA g (moA g)) X)))), (6, .int (nI (ms_sd (ms_sd (2 ^ gE g - 1) (cloN (rA g) (gE g) (ms_sd (dsA g (moA g)) X))) X))), (0, .ref (ad 0)), (1, .ref (ad 8)), (2, .ref (ad 7)), (3, .int (nI (dsA g (moA g)))), (4, .int (nI X)), (5, .int (nI r))]) hx hb dX5_leastSplit_66 hl (by decide) rfl (fun ls hl => ?_)
        refine lv_iload hx hb dX5_leastSplit_68 (lv_at hl 0 rfl) ?_
        have hlo := loN_le (frc (rA g) (gE g) (dsA g (moA g)) X)
        refine lv_if_ne (tgt := 76) hx hb dX5_leastSplit_70 (by decide) (fun c70 => ?_) (fun c70 => ?_)
        · have c70 := n0_ne c70
          refine lv_iload hx hb dX5_leastSplit_76 (lv_at hl 6 rfl) ?_
          refine lv_iload hx hb dX5_leastSplit_78 (lv_at hl 0 rfl) ?_
          refine lv_aload_n hx hb dX5_leastSplit_80 rfl (lv_at hl 3 rfl) ?_
          refine lv_iload_n hx hb dX5_leastSplit_81 rfl (lv_at hl 5 rfl) ?_
          refine lv_iload hx hb dX5_leastSplit_82 (lv_at hl 0 rfl) ?_
          refine lv_ior hx hb dX5_leastSplit_84 ?_
          refine lv_as (y := (nI ((dsA g (moA g)) ||| (loN (frc (rA g) (gE g) (dsA g (moA g)) X))))) (ni_or _ _) ?_
          refine pu_call (va_runU (As := [.int (nI ((dsA g (moA g)) ||| (loN (frc (rA g) (gE g) (dsA g (moA g)) X))))]) (rest := [.int (nI (loN (frc (rA g) (gE g) (dsA g (moA g)) X))), .int (nI X)]) ⟨hx, hb, hml, hown, hts⟩ (c_circuitWithin2 l D cy ad ch hg (S := (dsA g (moA g)) ||| (loN (frc (rA g) (gE g) (dsA g (moA g)) X))) (Nat.or_lt_two_pow hL (loF_lt hE c70))) (va_cwU 1 hts gX5_leastSplit_X1_circuitWithin_u133X2 rfl rfl rfl rfl (by decide +kernel) ⟨Nat.le_of_ble_eq_true rfl, Nat.le_of_ble_eq_true rfl⟩) (PU_preV (ci := 1) (q0 := 2) hK hP 0 rfl rfl [2, 9, 10, 11, 12, 13, 14] rfl) rfl rfl hl.1 rfl (lv_room (Nat.le_of_ble_eq_true rfl)) dX5_leastSplit_85 ⟨(Nat.zero_le _), (Nat.zero_le _)⟩) hS hP (fun H locs hP hS => ?_)
          refine lv_ior hx hb dX5_leastSplit_88 ?_
          refine lv_as (y := (nI ((loN (frc (rA g) (gE g) (dsA g (moA g)) X)) ||| (cirN (rB g) (gE g) ((dsA g (moA g)) ||| (loN (frc (rA g) (gE g) (dsA g (moA g)) X))))))) (ni_or _ _) ?_
          refine lv_ior hx hb dX5_leastSplit_89 ?_
          refine lv_as (y := (nI (X ||| ((loN (frc (rA g) (gE g) (dsA g (moA g)) X)) ||| (cirN (rB g) (gE g) ((dsA g (moA g)) ||| (loN (frc (rA g) (gE g) (dsA g (moA g)) X)))))))) (ni_or _ _) ?_
          refine lv_istore (lv' := [(4, .int (nI (X ||| ((loN (frc (rA g) (gE g) (dsA g (moA g)) X)) ||| (cirN (rB g) (gE g) ((dsA g (moA g)) ||| (loN (frc (rA g) (gE g) (dsA g (moA g)) X)))))))), (7, .int (nI (loN (frc (rA g) (gE g) (dsA g (moA g)) X)))), (6, .int (nI (ms_sd (ms_sd (2 ^ gE g - 1) (cloN (rA g) (gE g) (ms_sd (dsA g (moA g)) X))) X))), (0, .ref (ad 0)), (1, .ref (ad 8)), (2, .ref (ad 7)), (3, .int (nI (dsA g (moA g)))), (5, .int (nI r))]) hx hb dX5_leastSplit_90 hl (by decide) rfl (fun ls hl => ?_)
          refine lv_iinc (v := (nI (r + 1))) (lv' := [(5, .int (nI (r + 1))), (4, .int (nI (X ||| ((loN (frc (rA g) (gE g) (dsA g (moA g)) X)) ||| (cirN (rB g) (gE g) ((dsA g (moA g)) ||| (loN (frc (rA g) (gE g) (dsA g (moA g)) X)))))))), (7, .int (nI (loN (frc (rA g) (gE g) (dsA g (moA g)) X)))), (6, .int (nI (ms_sd (ms_sd (2 ^ gE g - 1) (cloN (rA g) (gE g) (ms_sd (dsA g (moA g)) X))) X))), (0, .ref (ad 0)), (1, .ref (ad 8)), (2, .ref (ad 7)), (3, .int (nI (dsA g (moA g))))]) hx hb dX5_leastSplit_92 hl (k := 7) rfl (ni_inc _) (by decide) rfl (fun ls hl => ?_)
          refine lv_goto (tgt := 22) hx hb dX5_leastSplit_95 (by decide) ?_
          exact ih22 (r + 1) (spS (rB g) (rA g) (gE g) (dsA g (moA g)) X) ⟨by omega, by omega⟩ (spS_lt hE hX c70) (spl_step (by omega) c70 hsp) _ _ hP hS _ (lv_sub hl [4, 5, 6, 7, 1, 0] rfl)
        · have c70 := n0_of (by omega) c70
          refine lv_goto (tgt := 98) hx hb dX5_leastSplit_73 (by decide) ?_
          refine lv_iload hx hb dX5_leastSplit_98 (lv_at hl 6 rfl) ?_
          exact pu_iret (y := yX5_leastSplit) hx hb hr hlocks hS (by first | (rw [spl_stop c70 (show r < gE g by omega) hsp]) | (rw [← hsp, show gE g - r = 0 by omega]; rfl)) dX5_leastSplit_100
  exact L22 (gE g + 1) 0 0 ⟨Nat.zero_le _, by omega⟩ (Nat.two_pow_pos _) rfl _ _ hP hS _ (lv_sub hl [3, 4, 5, 2, 1, 0] rfl)

set_option maxHeartbeats 4000000 in
set_option maxRecDepth 100000 in
theorem c_X5_leastWitness (l : Launch) (D : va_G) (cy : Nat → ClassId) (ad : Nat → Nat) (ch : Int32) {g : GT} (hg : gOK g) {fd fw : Nat → Int32} (fp frm ft : Nat → Int32) (htb : tabs g (2 ^ gE g) fd fw) : PU l yX5_leastWitness wsX5_leastWitness ({ frames := 5, cells := 0, slots := 0, locals := 125 }) D cy [.ref (ad 0)] (wX cy ad ch g ch (nI (sF g (2 ^ gE g))) (nI (nP (co g) (2 ^ gE g))) (nI (mo g (2 ^ gE g))) (nI (sW g (2 ^ gE g))) fd fw fp frm ft) ((nI (wAnd (wP g) (gE g) (2 ^ gE g)))) := by
  refine Met.ofW (cc := cX5_leastWitness) (maxL := 1) (ret := (some .int)) (by decide) rfl ?_
  intro p ev s m args below meth c s₁ B hml hv
  obtain ⟨rfl, hK, hP⟩ := hv
  have hx := B.exec
  have hb := B.bytes
  have hr := B.returns
  have hts := atoms_spec (ws := wsX5_leastWitness) B.pre
  have hown : s.vm.findClass RX5 = some m.cls := findClass_of_methodNamed B.named
  have hlocks := B.notSynchronized
  have hS : va_S (fun _ => False) s.heap s.heap [] := va_S.rf
  have hP : va_P D vwCl (wX cy ad ch g ch (nI (sF g (2 ^ gE g))) (nI (nP (co g) (2 ^ gE g))) (nI (mo g (2 ^ gE g))) (nI (sW g (2 ^ gE g))) fd fw fp frm ft) s.heap := hP
  have inX5 : ∀ w ∈ wsX50, w ∈ wsX5_leastWitness := by decide +kernel
  have inX4 : ∀ w ∈ wsX40, w ∈ wsX5_leastWitness := by decide +kernel
  have inX0 : ∀ w ∈ wsX00, w ∈ wsX5_leastWitness := by decide +kernel
  have hl := lv_entry ([.ref (ad 0)]) (n := 1) (Nat.le_of_ble_eq_true rfl)
  rw [lg_entry_eq]
  generalize (lg_sl ([.ref (ad 0)]) ++ List.replicate (1 - (lg_sl ([.ref (ad 0)])).length) Slot.unset).toArray = ls at hl ⊢
  have hl : lv_has ls 1 [(0, .ref (ad 0))] := hl
  have hgen := True.intro
  have hE := hg.2.2.1
  have hV := hg.1
  have hC := hg.2.1
  have hS8 : 2 ^ gE g ≤ 2 ^ 14 := Nat.pow_le_pow_right (by decide) hE
  have hmo := mo_le g hg
  have hme : mo g (2 ^ gE g) = moA g := rfl
  refine lv_aload_n hx hb dX5_leastWitness_0 rfl (lv_at hl 0 rfl) ?_
  refine lv_aload_n hx hb dX5_leastWitness_1 rfl (lv_at hl 0 rfl) ?_
  refine va_get (D := D) (ci := 4) (v := .ref (ad 7)) (C := RX5) (T := TX5) (N := 4) hx hb hts inX5 hown hK.1 hP 0 rfl rfl 1 (by decide) (hts (.fieldLink RX5 21 "ColourForests" "ringless" "LColourForests$Kind;") (List.mem_of_getElem? (i := 1) rfl)) (fun _ h9 => h9) rfl dX5_leastWitness_2 ?_
  refine lv_aload_n hx hb dX5_leastWitness_5 rfl (lv_at hl 0 rfl) ?_
  refine va_get (D := D) (ci := 4) (v := .ref (ad 8)) (C := RX5) (T := TX5) (N := 4) hx hb hts inX5 hown hK.1 hP 0 rfl rfl 2 (by decide) (hts (.fieldLink RX5 28 "ColourForests" "withinLimits" "LColourForests$Kind;") (List.mem_of_getElem? (i := 2) rfl)) (fun _ h9 => h9) rfl dX5_leastWitness_6 ?_
  refine pu_call (va_runV (As := [.ref (ad 7), .ref (ad 8)]) (rest := []) ⟨hx, hb, hml, hown, hts⟩ (c_splitL l D cy ad ch hg (fd := fd) (fw := fw) fp frm ft htb) (cwV 2 hts gX5_leastWitness_X5_leastSplit rfl rfl rfl (by decide +kernel) ⟨Nat.le_of_ble_eq_true rfl, Nat.le_of_ble_eq_true rfl⟩) (PU_preV (ci := 4) (q0 := 0) hK hP 0 rfl rfl [0, 1, 2, 3, 4, 5, 6, 7, 8, 9, 10, 11, 12, 13, 14] rfl) rfl rfl hl.1 rfl (lv_room (Nat.le_of_ble_eq_true rfl)) dX5_leastWitness_9 ⟨(Nat.zero_le _), (Nat.zero_le _)⟩) hS hP (fun H locs hP hS => ?_)
  exact pu_iret (y := yX5_leastWitness) hx hb hr hlocks hS (by rw [lw_is hg]) dX5_leastWitness_12

set_option maxHeartbeats 4000000 in
set_option maxRecDepth 100000 in
theorem c_X5_greatestWitness (l : Launch) (D : va_G) (cy : Nat → ClassId) (ad : Nat → Nat) (ch : Int32) {g : GT} (hg : gOK g) {fd fw : Nat → Int32} (fp frm ft : Nat → Int32) (htb : tabs g (2 ^ gE g) fd fw) : PU l yX5_greatestWitness wsX5_greatestWitness ({ frames := 5, cells := 0, slots := 0, locals := 125 }) D cy [.ref (ad 0)] (wX cy ad ch g ch (nI (sF g (2 ^ gE g))) (nI (nP (co g) (2 ^ gE g))) (nI (mo g (2 ^ gE g))) (nI (sW g (2 ^ gE g))) fd fw fp frm ft) ((nI (wOr (wP g) (2 ^ gE g)))) := by
  refine Met.ofW (cc := cX5_greatestWitness) (maxL := 1) (ret := (some .int)) (by decide) rfl ?_
  intro p ev s m args below meth c s₁ B hml hv
  obtain ⟨rfl, hK, hP⟩ := hv
  have hx := B.exec
  have hb := B.bytes
  have hr := B.returns
  have hts := atoms_spec (ws := wsX5_greatestWitness) B.pre
  have hown : s.vm.findClass RX5 = some m.cls := findClass_of_methodNamed B.named
  have hlocks := B.notSynchronized
  have hS : va_S (fun _ => False) s.heap s.heap [] := va_S.rf
  have hP : va_P D vwCl (wX cy ad ch g ch (nI (sF g (2 ^ gE g))) (nI (nP (co g) (2 ^ gE g))) (nI (mo g (2 ^ gE g))) (nI (sW g (2 ^ gE g))) fd fw fp frm ft) s.heap := hP
  have inX5 : ∀ w ∈ wsX50, w ∈ wsX5_greatestWitness := by decide +kernel
  have inX4 : ∀ w ∈ wsX40, w ∈ wsX5_greatestWitness := by decide +kernel
  have inX0 : ∀ w ∈ wsX00, w ∈ wsX5_greatestWitness := by decide +kernel
  have hl := lv_entry ([.ref (ad 0)]) (n := 1) (Nat.le_of_ble_eq_true rfl)
  rw [lg_entry_eq]
  generalize (lg_sl ([.ref (ad 0)]) ++ List.replicate (1 - (lg_sl ([.ref (ad 0)])).length) Slot.unset).toArray = ls at hl ⊢
  have hl : lv_has ls 1 [(0, .ref (ad 0))] := hl
  have hgen := True.intro
  have hE := hg.2.2.1
  have hV := hg.1
  have hC := hg.2.1
  have hS8 : 2 ^ gE g ≤ 2 ^ 14 := Nat.pow_le_pow_right (by decide) hE
  have hmo := mo_le g hg
  have hme : mo g (2 ^ gE g) = moA g := rfl
  refine lv_aload_n hx hb dX5_greatestWitness_0 rfl (lv_at hl 0 rfl) ?_
  refine va_get (D := D) (ci := 4) (v := .ref (ad 1)) (C := RX5) (T := TX5) (N := 4) hx hb hts inX5 hown hK.1 hP 0 rfl rfl 0 (by decide) (hts (.fieldLink RX5 10 "ColourForests" "graph" "LColourForests$Graph;") (List.mem_of_getElem? (i := 1) rfl)) (fun _ h9 => h9) rfl dX5_greatestWitness_1 ?_
  refine pu_call (va_runV (As := []) (rest := []) ⟨hx, hb, hml, hown, hts⟩ (c_X0_allEdges l D cy ad ch hg) (cwV 0 hts gX5_greatestWitness_X0_allEdges rfl rfl rfl (by decide +kernel) ⟨Nat.le_of_ble_eq_true rfl, Nat.le_of_ble_eq_true rfl⟩) (PU_preV (ci := 0) (q0 := 9) hK hP 0 rfl rfl [9, 10, 11, 12, 13, 14] rfl) rfl rfl hl.1 rfl (lv_room (Nat.le_of_ble_eq_true rfl)) dX5_greatestWitness_4 ⟨(Nat.zero_le _), (Nat.zero_le _)⟩) hS hP (fun H locs hP hS => ?_)
  refine lv_aload_n hx hb dX5_greatestWitness_7 rfl (lv_at hl 0 rfl) ?_
  refine lv_aload_n hx hb dX5_greatestWitness_8 rfl (lv_at hl 0 rfl) ?_
  refine va_get (D := D) (ci := 4) (v := .ref (ad 8)) (C := RX5) (T := TX5) (N := 4) hx hb hts inX5 hown hK.1 hP 0 rfl rfl 2 (by decide) (hts (.fieldLink RX5 28 "ColourForests" "withinLimits" "LColourForests$Kind;") (List.mem_of_getElem? (i := 2) rfl)) (fun _ h9 => h9) rfl dX5_greatestWitness_9 ?_
  refine lv_aload_n hx hb dX5_greatestWitness_12 rfl (lv_at hl 0 rfl) ?_
  refine va_get (D := D) (ci := 4) (v := .ref (ad 7)) (C := RX5) (T := TX5) (N := 4) hx hb hts inX5 hown hK.1 hP 0 rfl rfl 1 (by decide) (hts (.fieldLink RX5 21 "ColourForests" "ringless" "LColourForests$Kind;") (List.mem_of_getElem? (i := 3) rfl)) (fun _ h9 => h9) rfl dX5_greatestWitness_13 ?_
  refine pu_call (va_runV (As := [.ref (ad 8), .ref (ad 7)]) (rest := [.int (nI (2 ^ gE g - 1))]) ⟨hx, hb, hml, hown, hts⟩ (c_splitG l D cy ad ch hg (fd := fd) (fw := fw) fp frm ft htb) (cwV 2 hts gX5_greatestWitness_X5_leastSplit rfl rfl rfl (by decide +kernel) ⟨Nat.le_of_ble_eq_true rfl, Nat.le_of_ble_eq_true rfl⟩) (PU_preV (ci := 4) (q0 := 0) hK hP 0 rfl rfl [0, 1, 2, 3, 4, 5, 6, 7, 8, 9, 10, 11, 12, 13, 14] rfl) rfl rfl hl.1 rfl (lv_room (Nat.le_of_ble_eq_true rfl)) dX5_greatestWitness_16 ⟨(Nat.zero_le _), (Nat.zero_le _)⟩) hS hP (fun H locs hP hS => ?_)
  refine lv_iconst (v := zI (-1)) hx hb dX5_greatestWitness_19 (by decide) ?_
  refine lv_ixor hx hb dX5_greatestWitness_20 ?_
  refine lv_iand hx hb dX5_greatestWitness_21 ?_
  refine lv_as (y := (nI (ms_sd (2 ^ gE g - 1) (spl (rB g) (rA g) (gE g) (dsA g (moA g)) (gE g) 0)))) (ni_sdz _ _) ?_
  exact pu_iret (y := yX5_greatestWitness) hx hb hr hlocks hS (by rw [gw_is hg]) dX5_greatestWitness_22

set_option maxHeartbeats 4000000 in
set_option maxRecDepth 100000 in
theorem c_X5_isWitness (l : Launch) (D : va_G) (cy : Nat → ClassId) (ad : Nat → Nat) (ch : Int32) {g : GT} (hg : gOK g) {fd fw : Nat → Int32} (fp frm ft : Nat → Int32) (htb : tabs g (2 ^ gE g) fd fw) {S : Nat} (hS9 : S < 2 ^ gE g) : PU l yX5_isWitness wsX5_isWitness ({ frames := 3, cells := 0, slots := 0, locals := 73 }) D cy [.ref (ad 0), .int (nI S)] (wX cy ad ch g ch (nI (sF g (2 ^ gE g))) (nI (nP (co g) (2 ^ gE g))) (nI (mo g (2 ^ gE g))) (nI (sW g (2 ^ gE g))) fd fw fp frm ft) ((bI (wP g S))) := by
  refine Met.ofW (cc := cX5_isWitness) (maxL := 3) (ret := (some .boolean)) (by decide) rfl ?_
  intro p ev s m args below meth c s₁ B hml hv
  obtain ⟨rfl, hK, hP⟩ := hv
  have hx := B.exec
  have hb := B.bytes
  have hr := B.returns
  have hts := atoms_spec (ws := wsX5_isWitness) B.pre
  have hown : s.vm.findClass RX5 = some m.cls := findClass_of_methodNamed B.named
  have hlocks := B.notSynchronized
  have hS : va_S (fun _ => False) s.heap s.heap [] := va_S.rf
  have hP : va_P D vwCl (wX cy ad ch g ch (nI (sF g (2 ^ gE g))) (nI (nP (co g) (2 ^ gE g))) (nI (mo g (2 ^ gE g))) (nI (sW g (2 ^ gE g))) fd fw fp frm ft) s.heap := hP
  have inX5 : ∀ w ∈ wsX50, w ∈ wsX5_isWitness := by decide +kernel
  have inX4 : ∀ w ∈ wsX40, w ∈ wsX5_isWitness := by decide +kernel
  have inX0 : ∀ w ∈ wsX00, w ∈ wsX5_isWitness := by decide +kernel
  have hl := lv_entry ([.ref (ad 0), .int (nI S)]) (n := 3) (Nat.le_of_ble_eq_true rfl)
  rw [lg_entry_eq]
  generalize (lg_sl ([.ref (ad 0), .int (nI S)]) ++ List.replicate (3 - (lg_sl ([.ref (ad 0), .int (nI S)])).length) Slot.unset).toArray = ls at hl ⊢
  have hl : lv_has ls 3 [(0, .ref (ad 0)), (1, .int (nI S))] := hl
  have hgen := True.intro
  have hE := hg.2.2.1
  have hV := hg.1
  have hC := hg.2.1
  have hS8 : 2 ^ gE g ≤ 2 ^ 14 := Nat.pow_le_pow_right (by decide) hE
  have hmo := mo_le g hg
  have hme : mo g (2 ^ gE g) = moA g := rfl
  have hr1 := rA_le g S
  have hr2 := rB_le g (ms_sd (2 ^ gE g - 1) S)
  refine lv_aload_n hx hb dX5_isWitness_0 rfl (lv_at hl 0 rfl) ?_
  refine va_get (D := D) (ci := 4) (v := .ref (ad 1)) (C := RX5) (T := TX5) (N := 4) hx hb hts inX5 hown hK.1 hP 0 rfl rfl 0 (by decide) (hts (.fieldLink RX5 10 "ColourForests" "graph" "LColourForests$Graph;") (List.mem_of_getElem? (i := 1) rfl)) (fun _ h9 => h9) rfl dX5_isWitness_1 ?_
  refine pu_call (va_runV (As := []) (rest := []) ⟨hx, hb, hml, hown, hts⟩ (c_X0_allEdges l D cy ad ch hg) (cwV 0 hts gX5_isWitness_X0_allEdges rfl rfl rfl (by decide +kernel) ⟨Nat.le_of_ble_eq_true rfl, Nat.le_of_ble_eq_true rfl⟩) (PU_preV (ci := 0) (q0 := 9) hK hP 0 rfl rfl [9, 10, 11, 12, 13, 14] rfl) rfl rfl hl.1 rfl (lv_room (Nat.le_of_ble_eq_true rfl)) dX5_isWitness_4 ⟨(Nat.zero_le _), (Nat.zero_le _)⟩) hS hP (fun H locs hP hS => ?_)
  refine lv_iload_n hx hb dX5_isWitness_7 rfl (lv_at hl 1 rfl) ?_
  refine lv_iconst (v := zI (-1)) hx hb dX5_isWitness_8 (by decide) ?_
  refine lv_ixor hx hb dX5_isWitness_9 ?_
  refine lv_iand hx hb dX5_isWitness_10 ?_
  refine lv_as (y := (nI (ms_sd (2 ^ gE g - 1) S))) (ni_sdz _ _) ?_
  refine lv_istore_n (lv' := [(2, .int (nI (ms_sd (2 ^ gE g - 1) S))), (0, .ref (ad 0)), (1, .int (nI S))]) hx hb dX5_isWitness_11 rfl hl (by decide) rfl (fun ls hl => ?_)
  refine lv_aload_n hx hb dX5_isWitness_12 rfl (lv_at hl 1 rfl) ?_
  refine va_get (D := D) (ci := 4) (v := .ref (ad 7)) (C := RX5) (T := TX5) (N := 4) hx hb hts inX5 hown hK.1 hP 0 rfl rfl 1 (by decide) (hts (.fieldLink RX5 21 "ColourForests" "ringless" "LColourForests$Kind;") (List.mem_of_getElem? (i := 2) rfl)) (fun _ h9 => h9) rfl dX5_isWitness_13 ?_
  refine lv_iload_n hx hb dX5_isWitness_16 rfl (lv_at hl 2 rfl) ?_
  refine pu_call (va_runU (As := [.int (nI S)]) (rest := []) ⟨hx, hb, hml, hown, hts⟩ (c_X3_rankOf l D cy ad ch hg (S := S) hS9) (va_cwA 1 hts gX5_isWitness_X3_rankOf_u113X3 rfl rfl rfl (hK.2 _ (List.mem_of_getElem? (i := 6) rfl)) (by decide +kernel) ⟨Nat.le_of_ble_eq_true rfl, Nat.le_of_ble_eq_true rfl⟩) (PU_preV (ci := 2) (q0 := 1) hK hP 0 rfl rfl [1, 9, 10, 11, 12, 13, 14] rfl) rfl rfl hl.1 rfl (lv_room (Nat.le_of_ble_eq_true rfl)) dX5_isWitness_17 ⟨(Nat.zero_le _), (Nat.zero_le _)⟩) hS hP (fun H locs hP hS => ?_)
  refine lv_aload_n hx hb dX5_isWitness_20 rfl (lv_at hl 1 rfl) ?_
  refine va_get (D := D) (ci := 4) (v := .ref (ad 8)) (C := RX5) (T := TX5) (N := 4) hx hb hts inX5 hown hK.1 hP 0 rfl rfl 2 (by decide) (hts (.fieldLink RX5 28 "ColourForests" "withinLimits" "LColourForests$Kind;") (List.mem_of_getElem? (i := 3) rfl)) (fun _ h9 => h9) rfl dX5_isWitness_21 ?_
  refine lv_iload_n hx hb dX5_isWitness_24 rfl (lv_at hl 0 rfl) ?_
  refine pu_call (va_runU (As := [.int (nI (ms_sd (2 ^ gE g - 1) S))]) (rest := [.int (nI (rA g S))]) ⟨hx, hb, hml, hown, hts⟩ (c_X2_rankOf l D cy ad ch hg (S := ms_sd (2 ^ gE g - 1) S) (ms_sd_lt (ms_full_lt _))) (va_cwA 1 hts gX5_isWitness_X2_rankOf_u113X2 rfl rfl rfl (hK.2 _ (List.mem_of_getElem? (i := 6) rfl)) (by decide +kernel) ⟨Nat.le_of_ble_eq_true rfl, Nat.le_of_ble_eq_true rfl⟩) (PU_preV (ci := 1) (q0 := 2) hK hP 0 rfl rfl [2, 9, 10, 11, 12, 13, 14] rfl) rfl rfl hl.1 rfl (lv_room (Nat.le_of_ble_eq_true rfl)) dX5_isWitness_25 ⟨(Nat.zero_le _), (Nat.zero_le _)⟩) hS hP (fun H locs hP hS => ?_)
  refine lv_iadd hx hb dX5_isWitness_28 ?_
  refine lv_as (y := (nI ((rA g S) + (rB g (ms_sd (2 ^ gE g - 1) S))))) (nI_add _ _) ?_
  refine lv_aload_n hx hb dX5_isWitness_29 rfl (lv_at hl 1 rfl) ?_
  refine va_get (D := D) (ci := 4) (v := .ref (ad 9)) (C := RX5) (T := TX5) (N := 4) hx hb hts inX5 hown hK.1 hP 0 rfl rfl 3 (by decide) (hts (.fieldLink RX5 34 "ColourForests" "survey" "LColourForests$Survey;") (List.mem_of_getElem? (i := 4) rfl)) (fun _ h9 => h9) rfl dX5_isWitness_30 ?_
  refine va_get (D := D) (ci := 3) (v := .int (nI (mo g (2 ^ gE g)))) (C := RX4) (T := TX4) (N := 11) hx hb hts inX4 hown hK.1 hP 3 rfl rfl 4 (by decide) (hts (.fieldLink RX5 139 "ColourForests$Survey" "most" "I") (List.mem_of_getElem? (i := 5) rfl)) (fun _ h9 => h9) rfl dX5_isWitness_33 ?_
  refine n_ne (a := ((rA g S) + (rB g (ms_sd (2 ^ gE g - 1) S)))) (b := (mo g (2 ^ gE g))) (tgt := 43) hx hb dX5_isWitness_36 (by decide) (by omega) (by omega) (fun c36 => ?_) (fun c36 => ?_)
  · refine lv_iconst (v := nI 0) hx hb dX5_isWitness_43 (by decide) ?_
    exact pu_zret hx hb hr hlocks hS (by first | (rw [show wP g S = true from decide_eq_true c36]; rfl) | (rw [show wP g S = false from decide_eq_false c36]; rfl)) dX5_isWitness_44
  · refine lv_iconst (v := nI 1) hx hb dX5_isWitness_39 (by decide) ?_
    refine lv_goto (tgt := 44) hx hb dX5_isWitness_40 (by decide) ?_
    exact pu_zret hx hb hr hlocks hS (by first | (rw [show wP g S = true from decide_eq_true c36]; rfl) | (rw [show wP g S = false from decide_eq_false c36]; rfl)) dX5_isWitness_44

set_option maxHeartbeats 4000000 in
set_option maxRecDepth 100000 in
theorem c_X5_dearestAreSuch (l : Launch) (D : va_G) (cy : Nat → ClassId) (ad : Nat → Nat) (ch : Int32) {g : GT} (hg : gOK g) {fd fw : Nat → Int32} (fp frm ft : Nat → Int32) (htb : tabs g (2 ^ gE g) fd fw) : PU l yX5_dearestAreSuch wsX5_dearestAreSuch ({ frames := 5, cells := 0, slots := 0, locals := 115 }) D cy [.ref (ad 0)] (wX cy ad ch g ch (nI (sF g (2 ^ gE g))) (nI (nP (co g) (2 ^ gE g))) (nI (mo g (2 ^ gE g))) (nI (sW g (2 ^ gE g))) fd fw fp frm ft) ((bI true)) := by
  refine Met.ofW (cc := cX5_dearestAreSuch) (maxL := 3) (ret := (some .boolean)) (by decide) rfl ?_
  intro p ev s m args below meth c s₁ B hml hv
  obtain ⟨rfl, hK, hP⟩ := hv
  have hx := B.exec
  have hb := B.bytes
  have hr := B.returns
  have hts := atoms_spec (ws := wsX5_dearestAreSuch) B.pre
  have hown : s.vm.findClass RX5 = some m.cls := findClass_of_methodNamed B.named
  have hlocks := B.notSynchronized
  have hS : va_S (fun _ => False) s.heap s.heap [] := va_S.rf
  have hP : va_P D vwCl (wX cy ad ch g ch (nI (sF g (2 ^ gE g))) (nI (nP (co g) (2 ^ gE g))) (nI (mo g (2 ^ gE g))) (nI (sW g (2 ^ gE g))) fd fw fp frm ft) s.heap := hP
  have inX5 : ∀ w ∈ wsX50, w ∈ wsX5_dearestAreSuch := by decide +kernel
  have inX4 : ∀ w ∈ wsX40, w ∈ wsX5_dearestAreSuch := by decide +kernel
  have inX0 : ∀ w ∈ wsX00, w ∈ wsX5_dearestAreSuch := by decide +kernel
  have hl := lv_entry ([.ref (ad 0)]) (n := 3) (Nat.le_of_ble_eq_true rfl)
  rw [lg_entry_eq]
  generalize (lg_sl ([.ref (ad 0)]) ++ List.replicate (3 - (lg_sl ([.ref (ad 0)])).length) Slot.unset).toArray = ls at hl ⊢
  have hl : lv_has ls 3 [(0, .ref (ad 0))] := hl
  have hgen := True.intro
  have hE := hg.2.2.1
  have hV := hg.1
  have hC := hg.2.1
  have hS8 : 2 ^ gE g ≤ 2 ^ 14 := Nat.pow_le_pow_right (by decide) hE
  have hmo := mo_le g hg
  have hme : mo g (2 ^ gE g) = moA g := rfl
  refine lv_iconst (v := nI 0) hx hb dX5_dearestAreSuch_0 (by decide) ?_
  refine lv_istore_n (lv' := [(1, .int (nI 0)), (0, .ref (ad 0))]) hx hb dX5_dearestAreSuch_1 rfl hl (by decide) rfl (fun ls hl => ?_)
  have L2 : ∀ (n : Nat) (k : Nat), k ≤ moA g + 1 ∧ moA g + 2 ≤ k + n → ∀ (H : Heap) (locs : List Loc), va_P D vwCl (wX cy ad ch g ch (nI (sF g (2 ^ gE g))) (nI (nP (co g) (2 ^ gE g))) (nI (mo g (2 ^ gE g))) (nI (sW g (2 ^ gE g))) fd fw fp frm ft) H → va_S (fun _ => False) s.heap H locs → ∀ (ls : Array Slot), lv_has ls 3 [(0, .ref (ad 0)), (1, .int (nI k))] → W p l ev (headSpec wsX5_dearestAreSuch ({ frames := 5, cells := 0, slots := 0, locals := 115 })).room s m [.ref (ad 0)].toArray below meth c H locs 0 0 (MQ below (va_Qi (fun (x : Int32) (_ : Unit) => x = (bI true)) (fun _ _ => True) (fun _ => False)) [.ref (ad 0)].toArray s 0 0 (fun _ => False)) (F0 m 2 ls []) := by
    intro n
    induction n with
    | zero =>
      intro k hfuel  H locs hP hS ls hl
      exact absurd hfuel.2 (by have := hfuel.1; omega)
    | succ n ih2 =>
      intro k hfuel  H locs hP hS ls hl
      obtain ⟨hfu1, hfu2⟩ := hfuel
      refine lv_iload_n hx hb dX5_dearestAreSuch_2 rfl (lv_at hl 1 rfl) ?_
      refine lv_aload_n hx hb dX5_dearestAreSuch_3 rfl (lv_at hl 0 rfl) ?_
      refine va_get (D := D) (ci := 4) (v := .ref (ad 9)) (C := RX5) (T := TX5) (N := 4) hx hb hts inX5 hown hK.1 hP 0 rfl rfl 3 (by decide) (hts (.fieldLink RX5 34 "ColourForests" "survey" "LColourForests$Survey;") (List.mem_of_getElem? (i := 1) rfl)) (fun _ h9 => h9) rfl dX5_dearestAreSuch_4 ?_
      refine va_get (D := D) (ci := 3) (v := .int (nI (mo g (2 ^ gE g)))) (C := RX4) (T := TX4) (N := 11) hx hb hts inX4 hown hK.1 hP 3 rfl rfl 4 (by decide) (hts (.fieldLink RX5 139 "ColourForests$Survey" "most" "I") (List.mem_of_getElem? (i := 2) rfl)) (fun _ h9 => h9) rfl dX5_dearestAreSuch_7 ?_
      refine n_gt (a := k) (b := (mo g (2 ^ gE g))) (tgt := 47) hx hb dX5_dearestAreSuch_10 (by decide) (by omega) (by omega) (fun c10 => ?_) (fun c10 => ?_)
      · refine lv_iconst (v := nI 1) hx hb dX5_dearestAreSuch_47 (by decide) ?_
        exact pu_zret hx hb hr hlocks hS (by first | rfl | (simp [bI, *]; done) | (simp_all [bI]; done)) dX5_dearestAreSuch_48
      · obtain ⟨hd1, hd2, hd3, -⟩ := bs_some _ _ (dsA_some hg (k := k) (by omega))
        refine lv_aload_n hx hb dX5_dearestAreSuch_13 rfl (lv_at hl 0 rfl) ?_
        refine va_get (D := D) (ci := 4) (v := .ref (ad 9)) (C := RX5) (T := TX5) (N := 4) hx hb hts inX5 hown hK.1 hP 0 rfl rfl 3 (by decide) (hts (.fieldLink RX5 34 "ColourForests" "survey" "LColourForests$Survey;") (List.mem_of_getElem? (i := 1) rfl)) (fun _ h9 => h9) rfl dX5_dearestAreSuch_14 ?_
        refine va_get (D := D) (ci := 3) (v := .ref (ad 10)) (C := RX4) (T := TX4) (N := 11) hx hb hts inX4 hown hK.1 hP 3 rfl rfl 5 (by decide) (hts (.fieldLink RX5 145 "ColourForests$Survey" "dearestSets" "[I") (List.mem_of_getElem? (i := 3) rfl)) (fun _ h9 => h9) rfl dX5_dearestAreSuch_17 ?_
        refine lv_iload_n hx hb dX5_dearestAreSuch_20 rfl (lv_at hl 1 rfl) ?_
        refine rd_i (k := k) (v := (nI (dsA g k))) hx hb hK hP 4 rfl (by omega) (by decide) (tabs_ds hg htb (by omega)).1 dX5_dearestAreSuch_21 ?_
        refine lv_istore_n (lv' := [(2, .int (nI (dsA g k))), (0, .ref (ad 0)), (1, .int (nI k))]) hx hb dX5_dearestAreSuch_22 rfl hl (by decide) rfl (fun ls hl => ?_)
        refine lv_aload_n hx hb dX5_dearestAreSuch_23 rfl (lv_at hl 1 rfl) ?_
        refine lv_iload_n hx hb dX5_dearestAreSuch_24 rfl (lv_at hl 0 rfl) ?_
        refine pu_call (va_runV (As := [.int (nI (dsA g k))]) (rest := []) ⟨hx, hb, hml, hown, hts⟩ (c_X5_isCommon l D cy ad ch hg (S := dsA g k) (by omega)) (cwV 1 hts gX5_dearestAreSuch_X5_isCommon rfl rfl rfl (by decide +kernel) ⟨Nat.le_of_ble_eq_true rfl, Nat.le_of_ble_eq_true rfl⟩) (PU_preV (ci := 4) (q0 := 0) hK hP 0 rfl rfl [0, 1, 2, 9, 10, 11, 12, 13, 14] rfl) rfl rfl hl.1 rfl (lv_room (Nat.le_of_ble_eq_true rfl)) dX5_dearestAreSuch_25 ⟨(Nat.zero_le _), (Nat.zero_le _)⟩) hS hP (fun H locs hP hS => ?_)
        refine b_eq (b := (co g (dsA g k))) (tgt := 39) hx hb dX5_dearestAreSuch_28 (by decide) (fun c28 => ?_) (fun c28 => ?_)
        · exact absurd (hd2.symm.trans c28) (by decide)
        · refine lv_iload_n hx hb dX5_dearestAreSuch_31 rfl (lv_at hl 0 rfl) ?_
          refine pu_call (va_runS (As := [.int (nI (dsA g k))]) (rest := []) ⟨hx, hb, hml, hown, hts⟩ (c_J6_bitCount_0f7a4 l D cy (S := dsA g k) (by omega)) (va_cwS 1 hts gX5_dearestAreSuch_J6_bitCount_0f7a4 rfl rfl rfl (by decide +kernel) ⟨Nat.le_of_ble_eq_true rfl, Nat.le_of_ble_eq_true rfl⟩) (PU_preS hK hP [] rfl) rfl rfl hl.1 rfl (lv_room (Nat.le_of_ble_eq_true rfl)) dX5_dearestAreSuch_32 ⟨(Nat.zero_le _), (Nat.zero_le _)⟩) hS hP (fun H locs hP hS => ?_)
          refine lv_iload_n hx hb dX5_dearestAreSuch_35 rfl (lv_at hl 2 rfl) ?_
          refine n_eq (a := (ms_card 14 (dsA g k))) (b := k) (tgt := 41) hx hb dX5_dearestAreSuch_36 (by decide) (by omega) (by omega) (fun c36 => ?_) (fun c36 => ?_)
          · refine lv_iinc (v := (nI (k + 1))) (lv' := [(1, .int (nI (k + 1))), (2, .int (nI (dsA g k))), (0, .ref (ad 0))]) hx hb dX5_dearestAreSuch_41 hl (k := 2) rfl (ni_inc _) (by decide) rfl (fun ls hl => ?_)
            refine lv_goto (tgt := 2) hx hb dX5_dearestAreSuch_44 (by decide) ?_
            exact ih2 (k + 1) ⟨by omega, by omega⟩  _ _ hP hS _ (lv_sub hl [2, 0] rfl)
          · exact absurd hd3 c36
  exact L2 (moA g + 2) 0 ⟨Nat.zero_le _, by omega⟩  _ _ hP hS _ (lv_sub hl [1, 0] rfl)

set_option maxHeartbeats 4000000 in
set_option maxRecDepth 100000 in
theorem c_X5_gainsNeverRise (l : Launch) (D : va_G) (cy : Nat → ClassId) (ad : Nat → Nat) (ch : Int32) {g : GT} (hg : gOK g) {fd fw : Nat → Int32} (fp frm ft : Nat → Int32) (htb : tabs g (2 ^ gE g) fd fw) : PU l yX5_gainsNeverRise wsX5_gainsNeverRise ({ frames := 0, cells := 0, slots := 0, locals := 0 }) D cy [.ref (ad 0)] (wX cy ad ch g ch (nI (sF g (2 ^ gE g))) (nI (nP (co g) (2 ^ gE g))) (nI (mo g (2 ^ gE g))) (nI (sW g (2 ^ gE g))) fd fw fp frm ft) ((bI true)) := by
  refine Met.ofW (cc := cX5_gainsNeverRise) (maxL := 4) (ret := (some .boolean)) (by decide) rfl ?_
  intro p ev s m args below meth c s₁ B hml hv
  obtain ⟨rfl, hK, hP⟩ := hv
  have hx := B.exec
  have hb := B.bytes
  have hr := B.returns
  have hts := atoms_spec (ws := wsX5_gainsNeverRise) B.pre
  have hown : s.vm.findClass RX5 = some m.cls := findClass_of_methodNamed B.named
  have hlocks := B.notSynchronized
  have hS : va_S (fun _ => False) s.heap s.heap [] := va_S.rf
  have hP : va_P D vwCl (wX cy ad ch g ch (nI (sF g (2 ^ gE g))) (nI (nP (co g) (2 ^ gE g))) (nI (mo g (2 ^ gE g))) (nI (sW g (2 ^ gE g))) fd fw fp frm ft) s.heap := hP
  have inX5 : ∀ w ∈ wsX50, w ∈ wsX5_gainsNeverRise := by decide +kernel
  have inX4 : ∀ w ∈ wsX40, w ∈ wsX5_gainsNeverRise := by decide +kernel
  have hl := lv_entry ([.ref (ad 0)]) (n := 4) (Nat.le_of_ble_eq_true rfl)
  rw [lg_entry_eq]
  generalize (lg_sl ([.ref (ad 0)]) ++ List.replicate (4 - (lg_sl ([.ref (ad 0)])).length) Slot.unset).toArray = ls at hl ⊢
  have hl : lv_has ls 4 [(0, .ref (ad 0))] := hl
  have hgen := True.intro
  have hE := hg.2.2.1
  have hV := hg.1
  have hC := hg.2.1
  have hS8 : 2 ^ gE g ≤ 2 ^ 14 := Nat.pow_le_pow_right (by decide) hE
  have hmo := mo_le g hg
  have hme : mo g (2 ^ gE g) = moA g := rfl
  refine lv_iconst (v := nI 1) hx hb dX5_gainsNeverRise_0 (by decide) ?_
  refine lv_istore_n (lv' := [(1, .int (nI 1)), (0, .ref (ad 0))]) hx hb dX5_gainsNeverRise_1 rfl hl (by decide) rfl (fun ls hl => ?_)
  have L2 : ∀ (n : Nat) (k : Nat), 1 ≤ k ∧ k ≤ moA g + 1 ∧ moA g + 2 ≤ k + n → ∀ (H : Heap) (locs : List Loc), va_P D vwCl (wX cy ad ch g ch (nI (sF g (2 ^ gE g))) (nI (nP (co g) (2 ^ gE g))) (nI (mo g (2 ^ gE g))) (nI (sW g (2 ^ gE g))) fd fw fp frm ft) H → va_S (fun _ => False) s.heap H locs → ∀ (ls : Array Slot), lv_has ls 4 [(0, .ref (ad 0)), (1, .int (nI k))] → W p l ev (headSpec wsX5_gainsNeverRise ({ frames := 0, cells := 0, slots := 0, locals := 0 })).room s m [.ref (ad 0)].toArray below meth c H locs 0 0 (MQ below (va_Qi (fun (x : Int32) (_ : Unit) => x = (bI true)) (fun _ _ => True) (fun _ => False)) [.ref (ad 0)].toArray s 0 0 (fun _ => False)) (F0 m 2 ls []) := by
    intro n
    induction n with
    | zero =>
      intro k hfuel  H locs hP hS ls hl
      exact absurd hfuel.2.2 (by have := hfuel.2.1; omega)
    | succ n ih2 =>
      intro k hfuel  H locs hP hS ls hl
      obtain ⟨hfu0, hfu1, hfu2⟩ := hfuel
      have hw1 := wB_bd hg (k - 1)
      have hw2 := wB_bd hg k
      have hw3 := wB_bd hg (k + 1)
      refine lv_iload_n hx hb dX5_gainsNeverRise_2 rfl (lv_at hl 1 rfl) ?_
      refine lv_aload_n hx hb dX5_gainsNeverRise_3 rfl (lv_at hl 0 rfl) ?_
      refine va_get (D := D) (ci := 4) (v := .ref (ad 9)) (C := RX5) (T := TX5) (N := 4) hx hb hts inX5 hown hK.1 hP 0 rfl rfl 3 (by decide) (hts (.fieldLink RX5 34 "ColourForests" "survey" "LColourForests$Survey;") (List.mem_of_getElem? (i := 1) rfl)) (fun _ h9 => h9) rfl dX5_gainsNeverRise_4 ?_
      refine va_get (D := D) (ci := 3) (v := .int (nI (mo g (2 ^ gE g)))) (C := RX4) (T := TX4) (N := 11) hx hb hts inX4 hown hK.1 hP 3 rfl rfl 4 (by decide) (hts (.fieldLink RX5 139 "ColourForests$Survey" "most" "I") (List.mem_of_getElem? (i := 2) rfl)) (fun _ h9 => h9) rfl dX5_gainsNeverRise_7 ?_
      refine n_ge (a := k) (b := (mo g (2 ^ gE g))) (tgt := 70) hx hb dX5_gainsNeverRise_10 (by decide) (by omega) (by omega) (fun c10 => ?_) (fun c10 => ?_)
      · refine lv_iconst (v := nI 1) hx hb dX5_gainsNeverRise_70 (by decide) ?_
        exact pu_zret hx hb hr hlocks hS (by first | rfl | (simp [bI, *]; done) | (simp_all [bI]; done)) dX5_gainsNeverRise_71
      · refine lv_aload_n hx hb dX5_gainsNeverRise_13 rfl (lv_at hl 0 rfl) ?_
        refine va_get (D := D) (ci := 4) (v := .ref (ad 9)) (C := RX5) (T := TX5) (N := 4) hx hb hts inX5 hown hK.1 hP 0 rfl rfl 3 (by decide) (hts (.fieldLink RX5 34 "ColourForests" "survey" "LColourForests$Survey;") (List.mem_of_getElem? (i := 1) rfl)) (fun _ h9 => h9) rfl dX5_gainsNeverRise_14 ?_
        refine va_get (D := D) (ci := 3) (v := .ref (ad 11)) (C := RX4) (T := TX4) (N := 11) hx hb hts inX4 hown hK.1 hP 3 rfl rfl 6 (by decide) (hts (.fieldLink RX5 151 "ColourForests$Survey" "dearestWeights" "[I") (List.mem_of_getElem? (i := 3) rfl)) (fun _ h9 => h9) rfl dX5_gainsNeverRise_17 ?_
        refine lv_iload_n hx hb dX5_gainsNeverRise_20 rfl (lv_at hl 1 rfl) ?_
        refine rd_i (k := k) (v := (zI (wB g k))) hx hb hK hP 5 rfl (by omega) (by decide) (tabs_ds hg htb (by omega)).2 dX5_gainsNeverRise_21 ?_
        refine lv_aload_n hx hb dX5_gainsNeverRise_22 rfl (lv_at hl 0 rfl) ?_
        refine va_get (D := D) (ci := 4) (v := .ref (ad 9)) (C := RX5) (T := TX5) (N := 4) hx hb hts inX5 hown hK.1 hP 0 rfl rfl 3 (by decide) (hts (.fieldLink RX5 34 "ColourForests" "survey" "LColourForests$Survey;") (List.mem_of_getElem? (i := 1) rfl)) (fun _ h9 => h9) rfl dX5_gainsNeverRise_23 ?_
        refine va_get (D := D) (ci := 3) (v := .ref (ad 11)) (C := RX4) (T := TX4) (N := 11) hx hb hts inX4 hown hK.1 hP 3 rfl rfl 6 (by decide) (hts (.fieldLink RX5 151 "ColourForests$Survey" "dearestWeights" "[I") (List.mem_of_getElem? (i := 3) rfl)) (fun _ h9 => h9) rfl dX5_gainsNeverRise_26 ?_
        refine lv_iload_n hx hb dX5_gainsNeverRise_29 rfl (lv_at hl 1 rfl) ?_
        refine lv_iconst (v := nI 1) hx hb dX5_gainsNeverRise_30 (by decide) ?_
        refine lv_isub hx hb dX5_gainsNeverRise_31 ?_
        refine lv_as (y := (nI (k - 1))) (ni_sub (by omega)) ?_
        refine rd_i (k := (k - 1)) (v := (zI (wB g (k - 1)))) hx hb hK hP 5 rfl (by omega) (by decide) (tabs_ds hg htb (by omega)).2 dX5_gainsNeverRise_32 ?_
        refine lv_isub hx hb dX5_gainsNeverRise_33 ?_
        refine lv_as (y := (zI ((wB g k) - (wB g (k - 1))))) (zI_sub _ _) ?_
        refine lv_istore_n (lv' := [(2, .int (zI ((wB g k) - (wB g (k - 1))))), (0, .ref (ad 0)), (1, .int (nI k))]) hx hb dX5_gainsNeverRise_34 rfl hl (by decide) rfl (fun ls hl => ?_)
        refine lv_aload_n hx hb dX5_gainsNeverRise_35 rfl (lv_at hl 1 rfl) ?_
        refine va_get (D := D) (ci := 4) (v := .ref (ad 9)) (C := RX5) (T := TX5) (N := 4) hx hb hts inX5 hown hK.1 hP 0 rfl rfl 3 (by decide) (hts (.fieldLink RX5 34 "ColourForests" "survey" "LColourForests$Survey;") (List.mem_of_getElem? (i := 1) rfl)) (fun _ h9 => h9) rfl dX5_gainsNeverRise_36 ?_
        refine va_get (D := D) (ci := 3) (v := .ref (ad 11)) (C := RX4) (T := TX4) (N := 11) hx hb hts inX4 hown hK.1 hP 3 rfl rfl 6 (by decide) (hts (.fieldLink RX5 151 "ColourForests$Survey" "dearestWeights" "[I") (List.mem_of_getElem? (i := 3) rfl)) (fun _ h9 => h9) rfl dX5_gainsNeverRise_39 ?_
        refine lv_iload_n hx hb dX5_gainsNeverRise_42 rfl (lv_at hl 2 rfl) ?_
        refine lv_iconst (v := nI 1) hx hb dX5_gainsNeverRise_43 (by decide) ?_
        refine lv_iadd hx hb dX5_gainsNeverRise_44 ?_
        refine lv_as (y := (nI (k + 1))) (nI_add _ _) ?_
        refine rd_i (k := (k + 1)) (v := (zI (wB g (k + 1)))) hx hb hK hP 5 rfl (by omega) (by decide) (tabs_ds hg htb (by omega)).2 dX5_gainsNeverRise_45 ?_
        refine lv_aload_n hx hb dX5_gainsNeverRise_46 rfl (lv_at hl 1 rfl) ?_
        refine va_get (D := D) (ci := 4) (v := .ref (ad 9)) (C := RX5) (T := TX5) (N := 4) hx hb hts inX5 hown hK.1 hP 0 rfl rfl 3 (by decide) (hts (.fieldLink RX5 34 "ColourForests" "survey" "LColourForests$Survey;") (List.mem_of_getElem? (i := 1) rfl)) (fun _ h9 => h9) rfl dX5_gainsNeverRise_47 ?_
        refine va_get (D := D) (ci := 3) (v := .ref (ad 11)) (C := RX4) (T := TX4) (N := 11) hx hb hts inX4 hown hK.1 hP 3 rfl rfl 6 (by decide) (hts (.fieldLink RX5 151 "ColourForests$Survey" "dearestWeights" "[I") (List.mem_of_getElem? (i := 3) rfl)) (fun _ h9 => h9) rfl dX5_gainsNeverRise_50 ?_
        refine lv_iload_n hx hb dX5_gainsNeverRise_53 rfl (lv_at hl 2 rfl) ?_
        refine rd_i (k := k) (v := (zI (wB g k))) hx hb hK hP 5 rfl (by omega) (by decide) (tabs_ds hg htb (by omega)).2 dX5_gainsNeverRise_54 ?_
        refine lv_isub hx hb dX5_gainsNeverRise_55 ?_
        refine lv_as (y := (zI ((wB g (k + 1)) - (wB g k)))) (zI_sub _ _) ?_
        refine lv_istore_n (lv' := [(3, .int (zI ((wB g (k + 1)) - (wB g k)))), (2, .int (zI ((wB g k) - (wB g (k - 1))))), (0, .ref (ad 0)), (1, .int (nI k))]) hx hb dX5_gainsNeverRise_56 rfl hl (by decide) rfl (fun ls hl => ?_)
        refine lv_iload_n hx hb dX5_gainsNeverRise_57 rfl (lv_at hl 0 rfl) ?_
        refine lv_iload_n hx hb dX5_gainsNeverRise_58 rfl (lv_at hl 1 rfl) ?_
        refine z_le (a := ((wB g (k + 1)) - (wB g k))) (b := ((wB g k) - (wB g (k - 1)))) (tgt := 64) hx hb dX5_gainsNeverRise_59 (by decide) ⟨by omega, by omega⟩ ⟨by omega, by omega⟩ (fun c59 => ?_) (fun c59 => ?_)
        · refine lv_iinc (v := (nI (k + 1))) (lv' := [(1, .int (nI (k + 1))), (3, .int (zI ((wB g (k + 1)) - (wB g k)))), (2, .int (zI ((wB g k) - (wB g (k - 1))))), (0, .ref (ad 0))]) hx hb dX5_gainsNeverRise_64 hl (k := 3) rfl (ni_inc _) (by decide) rfl (fun ls hl => ?_)
          refine lv_goto (tgt := 2) hx hb dX5_gainsNeverRise_67 (by decide) ?_
          exact ih2 (k + 1) ⟨by omega, by omega, by omega⟩  _ _ hP hS _ (lv_sub hl [3, 0] rfl)
        · exact absurd c59 (Int.not_lt.mpr (wB_concave hg (by omega) (by omega)))
  exact L2 (moA g + 1) 1 ⟨by omega, by omega, by omega⟩  _ _ hP hS _ (lv_sub hl [1, 0] rfl)

set_option maxHeartbeats 4000000 in
set_option maxRecDepth 100000 in
theorem c_X5_witness_no (l : Launch) (D : va_G) (cy : Nat → ClassId) (ad : Nat → Nat) (ch : Int32) {g : GT} (hg : gOK g) {sn wf cs ms wd : Int32} {fd fw fp frm ft : Nat → Int32} (hv9 : sn = ch → wf = nI (sF g (2 ^ gE g)) ∧ cs = nI (nP (co g) (2 ^ gE g)) ∧ ms = nI (mo g (2 ^ gE g)) ∧ wd = nI (sW g (2 ^ gE g)) ∧ tabs g (2 ^ gE g) fd fw) {x : Int32} (h : isN x 2 = false) : WI l yX5_witness wsX5_witness ({ frames := 5, cells := 0, slots := 0, locals := 117 }) D cy [.ref (ad 0), .int x] (wX cy ad ch g sn wf cs ms wd fd fw fp frm ft) (fun (r : Int32) (u : (Nat → Int32) × (Nat → Int32) × (Nat → Int32) × (Nat → Int32) × (Nat → Int32)) => r = zI (-1) ∧ tabs g (2 ^ gE g) u.1 u.2.1) (fun u : (Nat → Int32) × (Nat → Int32) × (Nat → Int32) × (Nat → Int32) × (Nat → Int32) => wX cy ad ch g ch (nI (sF g (2 ^ gE g))) (nI (nP (co g) (2 ^ gE g))) (nI (mo g (2 ^ gE g))) (nI (sW g (2 ^ gE g))) u.1 u.2.1 u.2.2.1 u.2.2.2.1 u.2.2.2.2) := by
  refine Met.ofW (cc := cX5_witness) (maxL := 2) (ret := (some .int)) (by decide) rfl ?_
  intro p ev s m args below meth c s₁ B hml hv
  obtain ⟨rfl, ⟨hK, hP⟩, hD0⟩ := hv
  have hx := B.exec
  have hb := B.bytes
  have hr := B.returns
  have hts := atoms_spec (ws := wsX5_witness) B.pre
  have hown : s.vm.findClass RX5 = some m.cls := findClass_of_methodNamed B.named
  have hlocks := B.notSynchronized
  have hD : va_D (inW (wX cy ad ch g sn wf cs ms wd fd fw fp frm ft)) (wX cy ad ch g sn wf cs ms wd fd fw fp frm ft) := inW_self hD0
  have hS : va_S (inW (wX cy ad ch g sn wf cs ms wd fd fw fp frm ft)) s.heap s.heap [] := va_S.rf
  have hP : va_P D vwCl (wX cy ad ch g sn wf cs ms wd fd fw fp frm ft) s.heap := hP
  have inX5 : ∀ w ∈ wsX50, w ∈ wsX5_witness := by decide +kernel
  have inX4 : ∀ w ∈ wsX40, w ∈ wsX5_witness := by decide +kernel
  have hl := lv_entry ([.ref (ad 0), .int x]) (n := 2) (Nat.le_of_ble_eq_true rfl)
  rw [lg_entry_eq]
  generalize (lg_sl ([.ref (ad 0), .int x]) ++ List.replicate (2 - (lg_sl ([.ref (ad 0), .int x])).length) Slot.unset).toArray = ls at hl ⊢
  have hl : lv_has ls 2 [(0, .ref (ad 0)), (1, .int x)] := hl
  have hgen := True.intro
  have hE := hg.2.2.1
  have hV := hg.1
  have hC := hg.2.1
  have hS8 : 2 ^ gE g ≤ 2 ^ 14 := Nat.pow_le_pow_right (by decide) hE
  have hmo := mo_le g hg
  have hme : mo g (2 ^ gE g) = moA g := rfl
  refine lv_aload_n hx hb dX5_witness_0 rfl (lv_at hl 0 rfl) ?_
  refine va_get (D := D) (ci := 4) (v := .ref (ad 9)) (C := RX5) (T := TX5) (N := 4) hx hb hts inX5 hown hK.1 hP 0 rfl rfl 3 (by decide) (hts (.fieldLink RX5 34 "ColourForests" "survey" "LColourForests$Survey;") (List.mem_of_getElem? (i := 1) rfl)) (fun _ h9 => h9) rfl dX5_witness_1 ?_
  refine wr_callv [3, 4, 5, 6, 7, 8, 9, 10, 11, 12, 13, 14] (va_runV (As := []) (rest := []) ⟨hx, hb, hml, hown, hts⟩ (c_X4_refresh l D cy ad ch hg (sn := sn) (wf := wf) (cs := cs) (ms := ms) (wd := wd) (fd := fd) (fw := fw) (fp := fp) (frm := frm) (ft := ft) hv9) (cwV 0 hts gX5_witness_X4_refresh rfl rfl rfl (by decide +kernel) ⟨Nat.le_of_ble_eq_true rfl, Nat.le_of_ble_eq_true rfl⟩) (WR_preV (ci := 3) (q0 := 3) hK hP hD rfl rfl [3, 4, 5, 6, 7, 8, 9, 10, 11, 12, 13, 14] (by decide) rfl rfl) rfl rfl hl.1 rfl (lv_room (Nat.le_of_ble_eq_true rfl)) dX5_witness_4 ⟨(Nat.zero_le _), (Nat.zero_le _)⟩) hS hP hD rfl (fun _ => rfl) (fun _ => rfl) (fun u4 H locs w4 hP hD hS => ?_)
  have hP : va_P D vwCl [(ad 0, .inr (4, [.ref (ad 1), .ref (ad 7), .ref (ad 8), .ref (ad 9)])), (ad 7, .inr (2, [.ref (ad 1)])), (ad 8, .inr (1, [.ref (ad 1)])), (ad 9, .inr (3, [.ref (ad 1), .int ch, .int (nI (sF g (2 ^ gE g))), .int (nI (nP (co g) (2 ^ gE g))), .int (nI (mo g (2 ^ gE g))), .ref (ad 10), .ref (ad 11), .int (nI (sW g (2 ^ gE g))), .ref (ad 12), .ref (ad 13), .ref (ad 14)])), (ad 10, .inl (cy 0, 8, .inl u4.1)), (ad 11, .inl (cy 0, 8, .inl u4.2.1)), (ad 12, .inl (cy 0, 15, .inl u4.2.2.1)), (ad 13, .inl (cy 0, 15, .inl u4.2.2.2.1)), (ad 14, .inl (cy 0, 15, .inl u4.2.2.2.2)), (ad 1, .inr (0, [.int (nI (gV g)), .int (nI (gC g)), .int (nI (gE g)), .int ch, .ref (ad 2), .ref (ad 3), .ref (ad 4), .ref (ad 5), .ref (ad 6)])), (ad 2, .inl (cy 0, 6, .inl (fun i => nI (gL g i)))), (ad 3, .inl (cy 0, 14, .inl (fun i => nI (gF g i)))), (ad 4, .inl (cy 0, 14, .inl (fun i => nI (gS g i)))), (ad 5, .inl (cy 0, 14, .inl (fun i => nI (gH g i)))), (ad 6, .inl (cy 0, 14, .inl (fun i => zI (gW g i))))] H := hP
  have hD : va_D (inW (wX cy ad ch g sn wf cs ms wd fd fw fp frm ft)) [(ad 0, .inr (4, [.ref (ad 1), .ref (ad 7), .ref (ad 8), .ref (ad 9)])), (ad 7, .inr (2, [.ref (ad 1)])), (ad 8, .inr (1, [.ref (ad 1)])), (ad 9, .inr (3, [.ref (ad 1), .int ch, .int (nI (sF g (2 ^ gE g))), .int (nI (nP (co g) (2 ^ gE g))), .int (nI (mo g (2 ^ gE g))), .ref (ad 10), .ref (ad 11), .int (nI (sW g (2 ^ gE g))), .ref (ad 12), .ref (ad 13), .ref (ad 14)])), (ad 10, .inl (cy 0, 8, .inl u4.1)), (ad 11, .inl (cy 0, 8, .inl u4.2.1)), (ad 12, .inl (cy 0, 15, .inl u4.2.2.1)), (ad 13, .inl (cy 0, 15, .inl u4.2.2.2.1)), (ad 14, .inl (cy 0, 15, .inl u4.2.2.2.2)), (ad 1, .inr (0, [.int (nI (gV g)), .int (nI (gC g)), .int (nI (gE g)), .int ch, .ref (ad 2), .ref (ad 3), .ref (ad 4), .ref (ad 5), .ref (ad 6)])), (ad 2, .inl (cy 0, 6, .inl (fun i => nI (gL g i)))), (ad 3, .inl (cy 0, 14, .inl (fun i => nI (gF g i)))), (ad 4, .inl (cy 0, 14, .inl (fun i => nI (gS g i)))), (ad 5, .inl (cy 0, 14, .inl (fun i => nI (gH g i)))), (ad 6, .inl (cy 0, 14, .inl (fun i => zI (gW g i))))] := hD
  have htb : tabs g (2 ^ gE g) u4.1 u4.2.1 := w4
  refine lv_iload_n hx hb dX5_witness_7 rfl (lv_at hl 1 rfl) ?_
  refine lv_lookup (off := 38) (tgt := 46) hx hb dX5_witness_8 (by decide) (lk_no (isN2_0 h) (isN2_1 h)) (by decide) ?_
  refine lv_iconst (v := zI (-1)) hx hb dX5_witness_46 (by decide) ?_
  exact wi_ret u4 hx hb hr hlocks hS hP ⟨rfl, htb⟩ dX5_witness_47

set_option maxHeartbeats 4000000 in
set_option maxRecDepth 100000 in
theorem c_X5_witness_yes (l : Launch) (D : va_G) (cy : Nat → ClassId) (ad : Nat → Nat) (ch : Int32) {g : GT} (hg : gOK g) {sn wf cs ms wd : Int32} {fd fw fp frm ft : Nat → Int32} (hv9 : sn = ch → wf = nI (sF g (2 ^ gE g)) ∧ cs = nI (nP (co g) (2 ^ gE g)) ∧ ms = nI (mo g (2 ^ gE g)) ∧ wd = nI (sW g (2 ^ gE g)) ∧ tabs g (2 ^ gE g) fd fw) {k9 : Nat} (hk9 : k9 < 2) : WI l yX5_witness wsX5_witness ({ frames := 6, cells := 0, slots := 0, locals := 145 }) D cy [.ref (ad 0), .int (nI k9)] (wX cy ad ch g sn wf cs ms wd fd fw fp frm ft) (fun (r : Int32) (u : (Nat → Int32) × (Nat → Int32) × (Nat → Int32) × (Nat → Int32) × (Nat → Int32)) => r = nI (wiA g k9) ∧ tabs g (2 ^ gE g) u.1 u.2.1) (fun u : (Nat → Int32) × (Nat → Int32) × (Nat → Int32) × (Nat → Int32) × (Nat → Int32) => wX cy ad ch g ch (nI (sF g (2 ^ gE g))) (nI (nP (co g) (2 ^ gE g))) (nI (mo g (2 ^ gE g))) (nI (sW g (2 ^ gE g))) u.1 u.2.1 u.2.2.1 u.2.2.2.1 u.2.2.2.2) := by
  refine Met.ofW (cc := cX5_witness) (maxL := 2) (ret := (some .int)) (by decide) rfl ?_
  intro p ev s m args below meth c s₁ B hml hv
  obtain ⟨rfl, ⟨hK, hP⟩, hD0⟩ := hv
  have hx := B.exec
  have hb := B.bytes
  have hr := B.returns
  have hts := atoms_spec (ws := wsX5_witness) B.pre
  have hown : s.vm.findClass RX5 = some m.cls := findClass_of_methodNamed B.named
  have hlocks := B.notSynchronized
  have hD : va_D (inW (wX cy ad ch g sn wf cs ms wd fd fw fp frm ft)) (wX cy ad ch g sn wf cs ms wd fd fw fp frm ft) := inW_self hD0
  have hS : va_S (inW (wX cy ad ch g sn wf cs ms wd fd fw fp frm ft)) s.heap s.heap [] := va_S.rf
  have hP : va_P D vwCl (wX cy ad ch g sn wf cs ms wd fd fw fp frm ft) s.heap := hP
  have inX5 : ∀ w ∈ wsX50, w ∈ wsX5_witness := by decide +kernel
  have inX4 : ∀ w ∈ wsX40, w ∈ wsX5_witness := by decide +kernel
  have hl := lv_entry ([.ref (ad 0), .int (nI k9)]) (n := 2) (Nat.le_of_ble_eq_true rfl)
  rw [lg_entry_eq]
  generalize (lg_sl ([.ref (ad 0), .int (nI k9)]) ++ List.replicate (2 - (lg_sl ([.ref (ad 0), .int (nI k9)])).length) Slot.unset).toArray = ls at hl ⊢
  have hl : lv_has ls 2 [(0, .ref (ad 0)), (1, .int (nI k9))] := hl
  have hgen := True.intro
  have hE := hg.2.2.1
  have hV := hg.1
  have hC := hg.2.1
  have hS8 : 2 ^ gE g ≤ 2 ^ 14 := Nat.pow_le_pow_right (by decide) hE
  have hmo := mo_le g hg
  have hme : mo g (2 ^ gE g) = moA g := rfl
  refine lv_aload_n hx hb dX5_witness_0 rfl (lv_at hl 0 rfl) ?_
  refine va_get (D := D) (ci := 4) (v := .ref (ad 9)) (C := RX5) (T := TX5) (N := 4) hx hb hts inX5 hown hK.1 hP 0 rfl rfl 3 (by decide) (hts (.fieldLink RX5 34 "ColourForests" "survey" "LColourForests$Survey;") (List.mem_of_getElem? (i := 1) rfl)) (fun _ h9 => h9) rfl dX5_witness_1 ?_
  refine wr_callv [3, 4, 5, 6, 7, 8, 9, 10, 11, 12, 13, 14] (va_runV (As := []) (rest := []) ⟨hx, hb, hml, hown, hts⟩ (c_X4_refresh l D cy ad ch hg (sn := sn) (wf := wf) (cs := cs) (ms := ms) (wd := wd) (fd := fd) (fw := fw) (fp := fp) (frm := frm) (ft := ft) hv9) (cwV 0 hts gX5_witness_X4_refresh rfl rfl rfl (by decide +kernel) ⟨Nat.le_of_ble_eq_true rfl, Nat.le_of_ble_eq_true rfl⟩) (WR_preV (ci := 3) (q0 := 3) hK hP hD rfl rfl [3, 4, 5, 6, 7, 8, 9, 10, 11, 12, 13, 14] (by decide) rfl rfl) rfl rfl hl.1 rfl (lv_room (Nat.le_of_ble_eq_true rfl)) dX5_witness_4 ⟨(Nat.zero_le _), (Nat.zero_le _)⟩) hS hP hD rfl (fun _ => rfl) (fun _ => rfl) (fun u4 H locs w4 hP hD hS => ?_)
  have hP : va_P D vwCl [(ad 0, .inr (4, [.ref (ad 1), .ref (ad 7), .ref (ad 8), .ref (ad 9)])), (ad 7, .inr (2, [.ref (ad 1)])), (ad 8, .inr (1, [.ref (ad 1)])), (ad 9, .inr (3, [.ref (ad 1), .int ch, .int (nI (sF g (2 ^ gE g))), .int (nI (nP (co g) (2 ^ gE g))), .int (nI (mo g (2 ^ gE g))), .ref (ad 10), .ref (ad 11), .int (nI (sW g (2 ^ gE g))), .ref (ad 12), .ref (ad 13), .ref (ad 14)])), (ad 10, .inl (cy 0, 8, .inl u4.1)), (ad 11, .inl (cy 0, 8, .inl u4.2.1)), (ad 12, .inl (cy 0, 15, .inl u4.2.2.1)), (ad 13, .inl (cy 0, 15, .inl u4.2.2.2.1)), (ad 14, .inl (cy 0, 15, .inl u4.2.2.2.2)), (ad 1, .inr (0, [.int (nI (gV g)), .int (nI (gC g)), .int (nI (gE g)), .int ch, .ref (ad 2), .ref (ad 3), .ref (ad 4), .ref (ad 5), .ref (ad 6)])), (ad 2, .inl (cy 0, 6, .inl (fun i => nI (gL g i)))), (ad 3, .inl (cy 0, 14, .inl (fun i => nI (gF g i)))), (ad 4, .inl (cy 0, 14, .inl (fun i => nI (gS g i)))), (ad 5, .inl (cy 0, 14, .inl (fun i => nI (gH g i)))), (ad 6, .inl (cy 0, 14, .inl (fun i => zI (gW g i))))] H := hP
  have hD : va_D (inW (wX cy ad ch g sn wf cs ms wd fd fw fp frm ft)) [(ad 0, .inr (4, [.ref (ad 1), .ref (ad 7), .ref (ad 8), .ref (ad 9)])), (ad 7, .inr (2, [.ref (ad 1)])), (ad 8, .inr (1, [.ref (ad 1)])), (ad 9, .inr (3, [.ref (ad 1), .int ch, .int (nI (sF g (2 ^ gE g))), .int (nI (nP (co g) (2 ^ gE g))), .int (nI (mo g (2 ^ gE g))), .ref (ad 10), .ref (ad 11), .int (nI (sW g (2 ^ gE g))), .ref (ad 12), .ref (ad 13), .ref (ad 14)])), (ad 10, .inl (cy 0, 8, .inl u4.1)), (ad 11, .inl (cy 0, 8, .inl u4.2.1)), (ad 12, .inl (cy 0, 15, .inl u4.2.2.1)), (ad 13, .inl (cy 0, 15, .inl u4.2.2.2.1)), (ad 14, .inl (cy 0, 15, .inl u4.2.2.2.2)), (ad 1, .inr (0, [.int (nI (gV g)), .int (nI (gC g)), .int (nI (gE g)), .int ch, .ref (ad 2), .ref (ad 3), .ref (ad 4), .ref (ad 5), .ref (ad 6)])), (ad 2, .inl (cy 0, 6, .inl (fun i => nI (gL g i)))), (ad 3, .inl (cy 0, 14, .inl (fun i => nI (gF g i)))), (ad 4, .inl (cy 0, 14, .inl (fun i => nI (gS g i)))), (ad 5, .inl (cy 0, 14, .inl (fun i => nI (gH g i)))), (ad 6, .inl (cy 0, 14, .inl (fun i => zI (gW g i))))] := hD
  have htb : tabs g (2 ^ gE g) u4.1 u4.2.1 := w4
  refine lv_iload_n hx hb dX5_witness_7 rfl (lv_at hl 1 rfl) ?_
  rcases (show k9 = 0 ∨ k9 = 1 by omega) with hk | hk
  · refine lv_lookup (off := 28) (tgt := 36) hx hb dX5_witness_8 (by decide) (by rw [hk]; decide) (by decide) ?_
    refine lv_aload_n hx hb dX5_witness_36 rfl (lv_at hl 0 rfl) ?_
    refine pu_call (va_runV (As := []) (rest := []) ⟨hx, hb, hml, hown, hts⟩ (c_X5_leastWitness l D cy ad ch hg (fd := u4.1) (fw := u4.2.1) u4.2.2.1 u4.2.2.2.1 u4.2.2.2.2 htb) (cwV 0 hts gX5_witness_X5_leastWitness rfl rfl rfl (by decide +kernel) ⟨Nat.le_of_ble_eq_true rfl, Nat.le_of_ble_eq_true rfl⟩) (PU_preV (ci := 4) (q0 := 0) hK hP 0 rfl rfl [0, 1, 2, 3, 4, 5, 6, 7, 8, 9, 10, 11, 12, 13, 14] rfl) rfl rfl hl.1 rfl (lv_room (Nat.le_of_ble_eq_true rfl)) dX5_witness_37 ⟨(Nat.zero_le _), (Nat.zero_le _)⟩) hS hP (fun H locs hP hS => ?_)
    exact wi_ret u4 hx hb hr hlocks hS hP ⟨(by rw [hk]; rfl), htb⟩ dX5_witness_40
  · refine lv_lookup (off := 33) (tgt := 41) hx hb dX5_witness_8 (by decide) (by rw [hk]; decide) (by decide) ?_
    refine lv_aload_n hx hb dX5_witness_41 rfl (lv_at hl 0 rfl) ?_
    refine pu_call (va_runV (As := []) (rest := []) ⟨hx, hb, hml, hown, hts⟩ (c_X5_greatestWitness l D cy ad ch hg (fd := u4.1) (fw := u4.2.1) u4.2.2.1 u4.2.2.2.1 u4.2.2.2.2 htb) (cwV 0 hts gX5_witness_X5_greatestWitness rfl rfl rfl (by decide +kernel) ⟨Nat.le_of_ble_eq_true rfl, Nat.le_of_ble_eq_true rfl⟩) (PU_preV (ci := 4) (q0 := 0) hK hP 0 rfl rfl [0, 1, 2, 3, 4, 5, 6, 7, 8, 9, 10, 11, 12, 13, 14] rfl) rfl rfl hl.1 rfl (lv_room (Nat.le_of_ble_eq_true rfl)) dX5_witness_42 ⟨(Nat.zero_le _), (Nat.zero_le _)⟩) hS hP (fun H locs hP hS => ?_)
    exact wi_ret u4 hx hb hr hlocks hS hP ⟨(by rw [hk]; rfl), htb⟩ dX5_witness_45

set_option maxHeartbeats 4000000 in
set_option maxRecDepth 100000 in
theorem c_X5_check (l : Launch) (D : va_G) (cy : Nat → ClassId) (ad : Nat → Nat) (ch : Int32) {g : GT} (hg : gOK g) {sn wf cs ms wd : Int32} {fd fw fp frm ft : Nat → Int32} (hv9 : sn = ch → wf = nI (sF g (2 ^ gE g)) ∧ cs = nI (nP (co g) (2 ^ gE g)) ∧ ms = nI (mo g (2 ^ gE g)) ∧ wd = nI (sW g (2 ^ gE g)) ∧ tabs g (2 ^ gE g) fd fw) : WI l yX5_check wsX5_check ({ frames := 6, cells := 0, slots := 0, locals := 145 }) D cy [.ref (ad 0)] (wX cy ad ch g sn wf cs ms wd fd fw fp frm ft) (fun (r : Int32) (u : (Nat → Int32) × (Nat → Int32) × (Nat → Int32) × (Nat → Int32) × (Nat → Int32)) => r = nI 1 ∧ tabs g (2 ^ gE g) u.1 u.2.1) (fun u : (Nat → Int32) × (Nat → Int32) × (Nat → Int32) × (Nat → Int32) × (Nat → Int32) => wX cy ad ch g ch (nI (sF g (2 ^ gE g))) (nI (nP (co g) (2 ^ gE g))) (nI (mo g (2 ^ gE g))) (nI (sW g (2 ^ gE g))) u.1 u.2.1 u.2.2.1 u.2.2.2.1 u.2.2.2.2) := by
  refine Met.ofW (cc := cX5_check) (maxL := 2) (ret := (some .int)) (by decide) rfl ?_
  intro p ev s m args below meth c s₁ B hml hv
  obtain ⟨rfl, ⟨hK, hP⟩, hD0⟩ := hv
  have hx := B.exec
  have hb := B.bytes
  have hr := B.returns
  have hts := atoms_spec (ws := wsX5_check) B.pre
  have hown : s.vm.findClass RX5 = some m.cls := findClass_of_methodNamed B.named
  have hlocks := B.notSynchronized
  have hD : va_D (inW (wX cy ad ch g sn wf cs ms wd fd fw fp frm ft)) (wX cy ad ch g sn wf cs ms wd fd fw fp frm ft) := inW_self hD0
  have hS : va_S (inW (wX cy ad ch g sn wf cs ms wd fd fw fp frm ft)) s.heap s.heap [] := va_S.rf
  have hP : va_P D vwCl (wX cy ad ch g sn wf cs ms wd fd fw fp frm ft) s.heap := hP
  have inX5 : ∀ w ∈ wsX50, w ∈ wsX5_check := by decide +kernel
  have inX4 : ∀ w ∈ wsX40, w ∈ wsX5_check := by decide +kernel
  have hl := lv_entry ([.ref (ad 0)]) (n := 2) (Nat.le_of_ble_eq_true rfl)
  rw [lg_entry_eq]
  generalize (lg_sl ([.ref (ad 0)]) ++ List.replicate (2 - (lg_sl ([.ref (ad 0)])).length) Slot.unset).toArray = ls at hl ⊢
  have hl : lv_has ls 2 [(0, .ref (ad 0))] := hl
  have hgen := True.intro
  have hE := hg.2.2.1
  have hV := hg.1
  have hC := hg.2.1
  have hS8 : 2 ^ gE g ≤ 2 ^ 14 := Nat.pow_le_pow_right (by decide) hE
  have hmo := mo_le g hg
  have hme : mo g (2 ^ gE g) = moA g := rfl
  have hwl := wP_l hg
  have hwg := wP_g hg
  refine lv_aload_n hx hb dX5_check_0 rfl (lv_at hl 0 rfl) ?_
  refine va_get (D := D) (ci := 4) (v := .ref (ad 9)) (C := RX5) (T := TX5) (N := 4) hx hb hts inX5 hown hK.1 hP 0 rfl rfl 3 (by decide) (hts (.fieldLink RX5 34 "ColourForests" "survey" "LColourForests$Survey;") (List.mem_of_getElem? (i := 1) rfl)) (fun _ h9 => h9) rfl dX5_check_1 ?_
  refine wr_callv [3, 4, 5, 6, 7, 8, 9, 10, 11, 12, 13, 14] (va_runV (As := []) (rest := []) ⟨hx, hb, hml, hown, hts⟩ (c_X4_refresh l D cy ad ch hg (sn := sn) (wf := wf) (cs := cs) (ms := ms) (wd := wd) (fd := fd) (fw := fw) (fp := fp) (frm := frm) (ft := ft) hv9) (cwV 0 hts gX5_check_X4_refresh rfl rfl rfl (by decide +kernel) ⟨Nat.le_of_ble_eq_true rfl, Nat.le_of_ble_eq_true rfl⟩) (WR_preV (ci := 3) (q0 := 3) hK hP hD rfl rfl [3, 4, 5, 6, 7, 8, 9, 10, 11, 12, 13, 14] (by decide) rfl rfl) rfl rfl hl.1 rfl (lv_room (Nat.le_of_ble_eq_true rfl)) dX5_check_4 ⟨(Nat.zero_le _), (Nat.zero_le _)⟩) hS hP hD rfl (fun _ => rfl) (fun _ => rfl) (fun u4 H locs w4 hP hD hS => ?_)
  have hP : va_P D vwCl [(ad 0, .inr (4, [.ref (ad 1), .ref (ad 7), .ref (ad 8), .ref (ad 9)])), (ad 7, .inr (2, [.ref (ad 1)])), (ad 8, .inr (1, [.ref (ad 1)])), (ad 9, .inr (3, [.ref (ad 1), .int ch, .int (nI (sF g (2 ^ gE g))), .int (nI (nP (co g) (2 ^ gE g))), .int (nI (mo g (2 ^ gE g))), .ref (ad 10), .ref (ad 11), .int (nI (sW g (2 ^ gE g))), .ref (ad 12), .ref (ad 13), .ref (ad 14)])), (ad 10, .inl (cy 0, 8, .inl u4.1)), (ad 11, .inl (cy 0, 8, .inl u4.2.1)), (ad 12, .inl (cy 0, 15, .inl u4.2.2.1)), (ad 13, .inl (cy 0, 15, .inl u4.2.2.2.1)), (ad 14, .inl (cy 0, 15, .inl u4.2.2.2.2)), (ad 1, .inr (0, [.int (nI (gV g)), .int (nI (gC g)), .int (nI (gE g)), .int ch, .ref (ad 2), .ref (ad 3), .ref (ad 4), .ref (ad 5), .ref (ad 6)])), (ad 2, .inl (cy 0, 6, .inl (fun i => nI (gL g i)))), (ad 3, .inl (cy 0, 14, .inl (fun i => nI (gF g i)))), (ad 4, .inl (cy 0, 14, .inl (fun i => nI (gS g i)))), (ad 5, .inl (cy 0, 14, .inl (fun i => nI (gH g i)))), (ad 6, .inl (cy 0, 14, .inl (fun i => zI (gW g i))))] H := hP
  have hD : va_D (inW (wX cy ad ch g sn wf cs ms wd fd fw fp frm ft)) [(ad 0, .inr (4, [.ref (ad 1), .ref (ad 7), .ref (ad 8), .ref (ad 9)])), (ad 7, .inr (2, [.ref (ad 1)])), (ad 8, .inr (1, [.ref (ad 1)])), (ad 9, .inr (3, [.ref (ad 1), .int ch, .int (nI (sF g (2 ^ gE g))), .int (nI (nP (co g) (2 ^ gE g))), .int (nI (mo g (2 ^ gE g))), .ref (ad 10), .ref (ad 11), .int (nI (sW g (2 ^ gE g))), .ref (ad 12), .ref (ad 13), .ref (ad 14)])), (ad 10, .inl (cy 0, 8, .inl u4.1)), (ad 11, .inl (cy 0, 8, .inl u4.2.1)), (ad 12, .inl (cy 0, 15, .inl u4.2.2.1)), (ad 13, .inl (cy 0, 15, .inl u4.2.2.2.1)), (ad 14, .inl (cy 0, 15, .inl u4.2.2.2.2)), (ad 1, .inr (0, [.int (nI (gV g)), .int (nI (gC g)), .int (nI (gE g)), .int ch, .ref (ad 2), .ref (ad 3), .ref (ad 4), .ref (ad 5), .ref (ad 6)])), (ad 2, .inl (cy 0, 6, .inl (fun i => nI (gL g i)))), (ad 3, .inl (cy 0, 14, .inl (fun i => nI (gF g i)))), (ad 4, .inl (cy 0, 14, .inl (fun i => nI (gS g i)))), (ad 5, .inl (cy 0, 14, .inl (fun i => nI (gH g i)))), (ad 6, .inl (cy 0, 14, .inl (fun i => zI (gW g i))))] := hD
  have htb : tabs g (2 ^ gE g) u4.1 u4.2.1 := w4
  refine lv_aload_n hx hb dX5_check_7 rfl (lv_at hl 0 rfl) ?_
  refine pu_call (va_runV (As := []) (rest := []) ⟨hx, hb, hml, hown, hts⟩ (c_X5_dearestAreSuch l D cy ad ch hg (fd := u4.1) (fw := u4.2.1) u4.2.2.1 u4.2.2.2.1 u4.2.2.2.2 htb) (cwV 0 hts gX5_check_X5_dearestAreSuch rfl rfl rfl (by decide +kernel) ⟨Nat.le_of_ble_eq_true rfl, Nat.le_of_ble_eq_true rfl⟩) (PU_preV (ci := 4) (q0 := 0) hK hP 0 rfl rfl [0, 1, 2, 3, 4, 5, 6, 7, 8, 9, 10, 11, 12, 13, 14] rfl) rfl rfl hl.1 rfl (lv_room (Nat.le_of_ble_eq_true rfl)) dX5_check_8 ⟨(Nat.zero_le _), (Nat.zero_le _)⟩) hS hP (fun H locs hP hS => ?_)
  refine b_eq (b := true) (tgt := 47) hx hb dX5_check_11 (by decide) (fun c11 => ?_) (fun c11 => ?_)
  · cases c11
  · refine lv_aload_n hx hb dX5_check_14 rfl (lv_at hl 0 rfl) ?_
    refine pu_call (va_runV (As := []) (rest := []) ⟨hx, hb, hml, hown, hts⟩ (c_X5_gainsNeverRise l D cy ad ch hg (fd := u4.1) (fw := u4.2.1) u4.2.2.1 u4.2.2.2.1 u4.2.2.2.2 htb) (cwV 0 hts gX5_check_X5_gainsNeverRise rfl rfl rfl (by decide +kernel) ⟨Nat.le_of_ble_eq_true rfl, Nat.le_of_ble_eq_true rfl⟩) (PU_preV (ci := 4) (q0 := 0) hK hP 0 rfl rfl [0, 1, 2, 3, 4, 5, 6, 7, 8, 9, 10, 11, 12, 13, 14] rfl) rfl rfl hl.1 rfl (lv_room (Nat.le_of_ble_eq_true rfl)) dX5_check_15 ⟨(Nat.zero_le _), (Nat.zero_le _)⟩) hS hP (fun H locs hP hS => ?_)
    refine b_eq (b := true) (tgt := 47) hx hb dX5_check_18 (by decide) (fun c18 => ?_) (fun c18 => ?_)
    · cases c18
    · refine lv_aload_n hx hb dX5_check_21 rfl (lv_at hl 0 rfl) ?_
      refine lv_aload_n hx hb dX5_check_22 rfl (lv_at hl 0 rfl) ?_
      refine pu_call (va_runV (As := []) (rest := [.ref (ad 0)]) ⟨hx, hb, hml, hown, hts⟩ (c_X5_leastWitness l D cy ad ch hg (fd := u4.1) (fw := u4.2.1) u4.2.2.1 u4.2.2.2.1 u4.2.2.2.2 htb) (cwV 0 hts gX5_check_X5_leastWitness rfl rfl rfl (by decide +kernel) ⟨Nat.le_of_ble_eq_true rfl, Nat.le_of_ble_eq_true rfl⟩) (PU_preV (ci := 4) (q0 := 0) hK hP 0 rfl rfl [0, 1, 2, 3, 4, 5, 6, 7, 8, 9, 10, 11, 12, 13, 14] rfl) rfl rfl hl.1 rfl (lv_room (Nat.le_of_ble_eq_true rfl)) dX5_check_23 ⟨(Nat.zero_le _), (Nat.zero_le _)⟩) hS hP (fun H locs hP hS => ?_)
      refine pu_call (va_runV (As := [.int (nI (wAnd (wP g) (gE g) (2 ^ gE g)))]) (rest := []) ⟨hx, hb, hml, hown, hts⟩ (c_X5_isWitness l D cy ad ch hg (fd := u4.1) (fw := u4.2.1) u4.2.2.1 u4.2.2.2.1 u4.2.2.2.2 htb (S := wAnd (wP g) (gE g) (2 ^ gE g)) hwl.1) (cwV 1 hts gX5_check_X5_isWitness rfl rfl rfl (by decide +kernel) ⟨Nat.le_of_ble_eq_true rfl, Nat.le_of_ble_eq_true rfl⟩) (PU_preV (ci := 4) (q0 := 0) hK hP 0 rfl rfl [0, 1, 2, 3, 4, 5, 6, 7, 8, 9, 10, 11, 12, 13, 14] rfl) rfl rfl hl.1 rfl (lv_room (Nat.le_of_ble_eq_true rfl)) dX5_check_26 ⟨(Nat.zero_le _), (Nat.zero_le _)⟩) hS hP (fun H locs hP hS => ?_)
      refine b_eq (b := (wP g (wAnd (wP g) (gE g) (2 ^ gE g)))) (tgt := 47) hx hb dX5_check_29 (by decide) (fun c29 => ?_) (fun c29 => ?_)
      · exact absurd (hwl.2.symm.trans c29) (by decide)
      · refine lv_aload_n hx hb dX5_check_32 rfl (lv_at hl 0 rfl) ?_
        refine lv_aload_n hx hb dX5_check_33 rfl (lv_at hl 0 rfl) ?_
        refine pu_call (va_runV (As := []) (rest := [.ref (ad 0)]) ⟨hx, hb, hml, hown, hts⟩ (c_X5_greatestWitness l D cy ad ch hg (fd := u4.1) (fw := u4.2.1) u4.2.2.1 u4.2.2.2.1 u4.2.2.2.2 htb) (cwV 0 hts gX5_check_X5_greatestWitness rfl rfl rfl (by decide +kernel) ⟨Nat.le_of_ble_eq_true rfl, Nat.le_of_ble_eq_true rfl⟩) (PU_preV (ci := 4) (q0 := 0) hK hP 0 rfl rfl [0, 1, 2, 3, 4, 5, 6, 7, 8, 9, 10, 11, 12, 13, 14] rfl) rfl rfl hl.1 rfl (lv_room (Nat.le_of_ble_eq_true rfl)) dX5_check_34 ⟨(Nat.zero_le _), (Nat.zero_le _)⟩) hS hP (fun H locs hP hS => ?_)
        refine pu_call (va_runV (As := [.int (nI (wOr (wP g) (2 ^ gE g)))]) (rest := []) ⟨hx, hb, hml, hown, hts⟩ (c_X5_isWitness l D cy ad ch hg (fd := u4.1) (fw := u4.2.1) u4.2.2.1 u4.2.2.2.1 u4.2.2.2.2 htb (S := wOr (wP g) (2 ^ gE g)) hwg.1) (cwV 1 hts gX5_check_X5_isWitness rfl rfl rfl (by decide +kernel) ⟨Nat.le_of_ble_eq_true rfl, Nat.le_of_ble_eq_true rfl⟩) (PU_preV (ci := 4) (q0 := 0) hK hP 0 rfl rfl [0, 1, 2, 3, 4, 5, 6, 7, 8, 9, 10, 11, 12, 13, 14] rfl) rfl rfl hl.1 rfl (lv_room (Nat.le_of_ble_eq_true rfl)) dX5_check_37 ⟨(Nat.zero_le _), (Nat.zero_le _)⟩) hS hP (fun H locs hP hS => ?_)
        refine b_eq (b := (wP g (wOr (wP g) (2 ^ gE g)))) (tgt := 47) hx hb dX5_check_40 (by decide) (fun c40 => ?_) (fun c40 => ?_)
        · exact absurd (hwg.2.symm.trans c40) (by decide)
        · refine lv_iconst (v := nI 1) hx hb dX5_check_43 (by decide) ?_
          refine lv_goto (tgt := 48) hx hb dX5_check_44 (by decide) ?_
          refine lv_istore_n (lv' := [(1, .int (nI 1)), (0, .ref (ad 0))]) hx hb dX5_check_48 rfl hl (by decide) rfl (fun ls hl => ?_)
          refine lv_iload_n hx hb dX5_check_49 rfl (lv_at hl 0 rfl) ?_
          refine pu_call (va_runS (As := [.int (nI 1)]) (rest := []) ⟨hx, hb, hml, hown, hts⟩ (c_X5_told l D cy true) (va_cwS 1 hts gX5_check_X5_told rfl rfl rfl (by decide +kernel) ⟨Nat.le_of_ble_eq_true rfl, Nat.le_of_ble_eq_true rfl⟩) (PU_preS hK hP [] rfl) rfl rfl hl.1 rfl (lv_room (Nat.le_of_ble_eq_true rfl)) dX5_check_50 ⟨(Nat.zero_le _), (Nat.zero_le _)⟩) hS hP (fun H locs hP hS => ?_)
          exact wi_ret u4 hx hb hr hlocks hS hP ⟨rfl, htb⟩ dX5_check_53

set_option maxHeartbeats 4000000 in
set_option maxRecDepth 100000 in
theorem c_X5_count_3 (l : Launch) (D : va_G) (cy : Nat → ClassId) (ad : Nat → Nat) (ch : Int32) {g : GT} (hg : gOK g) {sn wf cs ms wd : Int32} {fd fw fp frm ft : Nat → Int32} (hv9 : sn = ch → wf = nI (sF g (2 ^ gE g)) ∧ cs = nI (nP (co g) (2 ^ gE g)) ∧ ms = nI (mo g (2 ^ gE g)) ∧ wd = nI (sW g (2 ^ gE g)) ∧ tabs g (2 ^ gE g) fd fw) : WI l yX5_count wsX5_count ({ frames := 5, cells := 0, slots := 0, locals := 117 }) D cy [.ref (ad 0), .int (nI 3)] (wX cy ad ch g sn wf cs ms wd fd fw fp frm ft) (fun (r : Int32) (u : (Nat → Int32) × (Nat → Int32) × (Nat → Int32) × (Nat → Int32) × (Nat → Int32)) => r = nI (nP (cfP g (rA g (2 ^ gE g - 1))) (2 ^ gE g)) ∧ tabs g (2 ^ gE g) u.1 u.2.1) (fun u : (Nat → Int32) × (Nat → Int32) × (Nat → Int32) × (Nat → Int32) × (Nat → Int32) => wX cy ad ch g ch (nI (sF g (2 ^ gE g))) (nI (nP (co g) (2 ^ gE g))) (nI (mo g (2 ^ gE g))) (nI (sW g (2 ^ gE g))) u.1 u.2.1 u.2.2.1 u.2.2.2.1 u.2.2.2.2) := by
  refine Met.ofW (cc := cX5_count) (maxL := 2) (ret := (some .int)) (by decide) rfl ?_
  intro p ev s m args below meth c s₁ B hml hv
  obtain ⟨rfl, ⟨hK, hP⟩, hD0⟩ := hv
  have hx := B.exec
  have hb := B.bytes
  have hr := B.returns
  have hts := atoms_spec (ws := wsX5_count) B.pre
  have hown : s.vm.findClass RX5 = some m.cls := findClass_of_methodNamed B.named
  have hlocks := B.notSynchronized
  have hD : va_D (inW (wX cy ad ch g sn wf cs ms wd fd fw fp frm ft)) (wX cy ad ch g sn wf cs ms wd fd fw fp frm ft) := inW_self hD0
  have hS : va_S (inW (wX cy ad ch g sn wf cs ms wd fd fw fp frm ft)) s.heap s.heap [] := va_S.rf
  have hP : va_P D vwCl (wX cy ad ch g sn wf cs ms wd fd fw fp frm ft) s.heap := hP
  have inX5 : ∀ w ∈ wsX50, w ∈ wsX5_count := by decide +kernel
  have inX4 : ∀ w ∈ wsX40, w ∈ wsX5_count := by decide +kernel
  have hl := lv_entry ([.ref (ad 0), .int (nI 3)]) (n := 2) (Nat.le_of_ble_eq_true rfl)
  rw [lg_entry_eq]
  generalize (lg_sl ([.ref (ad 0), .int (nI 3)]) ++ List.replicate (2 - (lg_sl ([.ref (ad 0), .int (nI 3)])).length) Slot.unset).toArray = ls at hl ⊢
  have hl : lv_has ls 2 [(0, .ref (ad 0)), (1, .int (nI 3))] := hl
  have hgen := True.intro
  have hE := hg.2.2.1
  have hV := hg.1
  have hC := hg.2.1
  have hS8 : 2 ^ gE g ≤ 2 ^ 14 := Nat.pow_le_pow_right (by decide) hE
  have hmo := mo_le g hg
  have hme : mo g (2 ^ gE g) = moA g := rfl
  refine lv_iload_n hx hb dX5_count_0 rfl (lv_at hl 1 rfl) ?_
  refine lv_tableIn (off := 59) (tgt := 60) hx hb dX5_count_1 (by decide) (by decide) (by decide) (by decide) ?_
  refine lv_aload_n hx hb dX5_count_60 rfl (lv_at hl 0 rfl) ?_
  refine va_get (D := D) (ci := 4) (v := .ref (ad 9)) (C := RX5) (T := TX5) (N := 4) hx hb hts inX5 hown hK.1 hP 0 rfl rfl 3 (by decide) (hts (.fieldLink RX5 34 "ColourForests" "survey" "LColourForests$Survey;") (List.mem_of_getElem? (i := 5) rfl)) (fun _ h9 => h9) rfl dX5_count_61 ?_
  refine wr_callv [3, 4, 5, 6, 7, 8, 9, 10, 11, 12, 13, 14] (va_runV (As := []) (rest := []) ⟨hx, hb, hml, hown, hts⟩ (c_X4_refresh l D cy ad ch hg (sn := sn) (wf := wf) (cs := cs) (ms := ms) (wd := wd) (fd := fd) (fw := fw) (fp := fp) (frm := frm) (ft := ft) hv9) (cwV 0 hts gX5_count_X4_refresh rfl rfl rfl (by decide +kernel) ⟨Nat.le_of_ble_eq_true rfl, Nat.le_of_ble_eq_true rfl⟩) (WR_preV (ci := 3) (q0 := 3) hK hP hD rfl rfl [3, 4, 5, 6, 7, 8, 9, 10, 11, 12, 13, 14] (by decide) rfl rfl) rfl rfl hl.1 rfl (lv_room (Nat.le_of_ble_eq_true rfl)) dX5_count_64 ⟨(Nat.zero_le _), (Nat.zero_le _)⟩) hS hP hD rfl (fun _ => rfl) (fun _ => rfl) (fun u64 H locs w64 hP hD hS => ?_)
  have hP : va_P D vwCl [(ad 0, .inr (4, [.ref (ad 1), .ref (ad 7), .ref (ad 8), .ref (ad 9)])), (ad 7, .inr (2, [.ref (ad 1)])), (ad 8, .inr (1, [.ref (ad 1)])), (ad 9, .inr (3, [.ref (ad 1), .int ch, .int (nI (sF g (2 ^ gE g))), .int (nI (nP (co g) (2 ^ gE g))), .int (nI (mo g (2 ^ gE g))), .ref (ad 10), .ref (ad 11), .int (nI (sW g (2 ^ gE g))), .ref (ad 12), .ref (ad 13), .ref (ad 14)])), (ad 10, .inl (cy 0, 8, .inl u64.1)), (ad 11, .inl (cy 0, 8, .inl u64.2.1)), (ad 12, .inl (cy 0, 15, .inl u64.2.2.1)), (ad 13, .inl (cy 0, 15, .inl u64.2.2.2.1)), (ad 14, .inl (cy 0, 15, .inl u64.2.2.2.2)), (ad 1, .inr (0, [.int (nI (gV g)), .int (nI (gC g)), .int (nI (gE g)), .int ch, .ref (ad 2), .ref (ad 3), .ref (ad 4), .ref (ad 5), .ref (ad 6)])), (ad 2, .inl (cy 0, 6, .inl (fun i => nI (gL g i)))), (ad 3, .inl (cy 0, 14, .inl (fun i => nI (gF g i)))), (ad 4, .inl (cy 0, 14, .inl (fun i => nI (gS g i)))), (ad 5, .inl (cy 0, 14, .inl (fun i => nI (gH g i)))), (ad 6, .inl (cy 0, 14, .inl (fun i => zI (gW g i))))] H := hP
  have hD : va_D (inW (wX cy ad ch g sn wf cs ms wd fd fw fp frm ft)) [(ad 0, .inr (4, [.ref (ad 1), .ref (ad 7), .ref (ad 8), .ref (ad 9)])), (ad 7, .inr (2, [.ref (ad 1)])), (ad 8, .inr (1, [.ref (ad 1)])), (ad 9, .inr (3, [.ref (ad 1), .int ch, .int (nI (sF g (2 ^ gE g))), .int (nI (nP (co g) (2 ^ gE g))), .int (nI (mo g (2 ^ gE g))), .ref (ad 10), .ref (ad 11), .int (nI (sW g (2 ^ gE g))), .ref (ad 12), .ref (ad 13), .ref (ad 14)])), (ad 10, .inl (cy 0, 8, .inl u64.1)), (ad 11, .inl (cy 0, 8, .inl u64.2.1)), (ad 12, .inl (cy 0, 15, .inl u64.2.2.1)), (ad 13, .inl (cy 0, 15, .inl u64.2.2.2.1)), (ad 14, .inl (cy 0, 15, .inl u64.2.2.2.2)), (ad 1, .inr (0, [.int (nI (gV g)), .int (nI (gC g)), .int (nI (gE g)), .int ch, .ref (ad 2), .ref (ad 3), .ref (ad 4), .ref (ad 5), .ref (ad 6)])), (ad 2, .inl (cy 0, 6, .inl (fun i => nI (gL g i)))), (ad 3, .inl (cy 0, 14, .inl (fun i => nI (gF g i)))), (ad 4, .inl (cy 0, 14, .inl (fun i => nI (gS g i)))), (ad 5, .inl (cy 0, 14, .inl (fun i => nI (gH g i)))), (ad 6, .inl (cy 0, 14, .inl (fun i => zI (gW g i))))] := hD
  have htb : tabs g (2 ^ gE g) u64.1 u64.2.1 := w64
  refine lv_aload_n hx hb dX5_count_67 rfl (lv_at hl 0 rfl) ?_
  refine va_get (D := D) (ci := 4) (v := .ref (ad 9)) (C := RX5) (T := TX5) (N := 4) hx hb hts inX5 hown hK.1 hP 0 rfl rfl 3 (by decide) (hts (.fieldLink RX5 34 "ColourForests" "survey" "LColourForests$Survey;") (List.mem_of_getElem? (i := 5) rfl)) (fun _ h9 => h9) rfl dX5_count_68 ?_
  refine va_get (D := D) (ci := 3) (v := .int (nI (sF g (2 ^ gE g)))) (C := RX4) (T := TX4) (N := 11) hx hb hts inX4 hown hK.1 hP 3 rfl rfl 2 (by decide) (hts (.fieldLink RX5 100 "ColourForests$Survey" "widestForests" "I") (List.mem_of_getElem? (i := 6) rfl)) (fun _ h9 => h9) rfl dX5_count_71 ?_
  exact wi_ret u64 hx hb hr hlocks hS hP ⟨(by rw [sF_cf hg]), htb⟩ dX5_count_74

set_option maxHeartbeats 4000000 in
set_option maxRecDepth 100000 in
theorem c_X5_count_4 (l : Launch) (D : va_G) (cy : Nat → ClassId) (ad : Nat → Nat) (ch : Int32) {g : GT} (hg : gOK g) {sn wf cs ms wd : Int32} {fd fw fp frm ft : Nat → Int32} (hv9 : sn = ch → wf = nI (sF g (2 ^ gE g)) ∧ cs = nI (nP (co g) (2 ^ gE g)) ∧ ms = nI (mo g (2 ^ gE g)) ∧ wd = nI (sW g (2 ^ gE g)) ∧ tabs g (2 ^ gE g) fd fw) : WI l yX5_count wsX5_count ({ frames := 5, cells := 0, slots := 0, locals := 117 }) D cy [.ref (ad 0), .int (nI 4)] (wX cy ad ch g sn wf cs ms wd fd fw fp frm ft) (fun (r : Int32) (u : (Nat → Int32) × (Nat → Int32) × (Nat → Int32) × (Nat → Int32) × (Nat → Int32)) => r = coR g (nI 4) ∧ tabs g (2 ^ gE g) u.1 u.2.1) (fun u : (Nat → Int32) × (Nat → Int32) × (Nat → Int32) × (Nat → Int32) × (Nat → Int32) => wX cy ad ch g ch (nI (sF g (2 ^ gE g))) (nI (nP (co g) (2 ^ gE g))) (nI (mo g (2 ^ gE g))) (nI (sW g (2 ^ gE g))) u.1 u.2.1 u.2.2.1 u.2.2.2.1 u.2.2.2.2) := by
  refine Met.ofW (cc := cX5_count) (maxL := 2) (ret := (some .int)) (by decide) rfl ?_
  intro p ev s m args below meth c s₁ B hml hv
  obtain ⟨rfl, ⟨hK, hP⟩, hD0⟩ := hv
  have hx := B.exec
  have hb := B.bytes
  have hr := B.returns
  have hts := atoms_spec (ws := wsX5_count) B.pre
  have hown : s.vm.findClass RX5 = some m.cls := findClass_of_methodNamed B.named
  have hlocks := B.notSynchronized
  have hD : va_D (inW (wX cy ad ch g sn wf cs ms wd fd fw fp frm ft)) (wX cy ad ch g sn wf cs ms wd fd fw fp frm ft) := inW_self hD0
  have hS : va_S (inW (wX cy ad ch g sn wf cs ms wd fd fw fp frm ft)) s.heap s.heap [] := va_S.rf
  have hP : va_P D vwCl (wX cy ad ch g sn wf cs ms wd fd fw fp frm ft) s.heap := hP
  have inX5 : ∀ w ∈ wsX50, w ∈ wsX5_count := by decide +kernel
  have inX4 : ∀ w ∈ wsX40, w ∈ wsX5_count := by decide +kernel
  have hl := lv_entry ([.ref (ad 0), .int (nI 4)]) (n := 2) (Nat.le_of_ble_eq_true rfl)
  rw [lg_entry_eq]
  generalize (lg_sl ([.ref (ad 0), .int (nI 4)]) ++ List.replicate (2 - (lg_sl ([.ref (ad 0), .int (nI 4)])).length) Slot.unset).toArray = ls at hl ⊢
  have hl : lv_has ls 2 [(0, .ref (ad 0)), (1, .int (nI 4))] := hl
  have hgen := True.intro
  have hE := hg.2.2.1
  have hV := hg.1
  have hC := hg.2.1
  have hS8 : 2 ^ gE g ≤ 2 ^ 14 := Nat.pow_le_pow_right (by decide) hE
  have hmo := mo_le g hg
  have hme : mo g (2 ^ gE g) = moA g := rfl
  refine lv_iload_n hx hb dX5_count_0 rfl (lv_at hl 1 rfl) ?_
  refine lv_tableIn (off := 74) (tgt := 75) hx hb dX5_count_1 (by decide) (by decide) (by decide) (by decide) ?_
  refine lv_aload_n hx hb dX5_count_75 rfl (lv_at hl 0 rfl) ?_
  refine va_get (D := D) (ci := 4) (v := .ref (ad 9)) (C := RX5) (T := TX5) (N := 4) hx hb hts inX5 hown hK.1 hP 0 rfl rfl 3 (by decide) (hts (.fieldLink RX5 34 "ColourForests" "survey" "LColourForests$Survey;") (List.mem_of_getElem? (i := 5) rfl)) (fun _ h9 => h9) rfl dX5_count_76 ?_
  refine wr_callv [3, 4, 5, 6, 7, 8, 9, 10, 11, 12, 13, 14] (va_runV (As := []) (rest := []) ⟨hx, hb, hml, hown, hts⟩ (c_X4_refresh l D cy ad ch hg (sn := sn) (wf := wf) (cs := cs) (ms := ms) (wd := wd) (fd := fd) (fw := fw) (fp := fp) (frm := frm) (ft := ft) hv9) (cwV 0 hts gX5_count_X4_refresh rfl rfl rfl (by decide +kernel) ⟨Nat.le_of_ble_eq_true rfl, Nat.le_of_ble_eq_true rfl⟩) (WR_preV (ci := 3) (q0 := 3) hK hP hD rfl rfl [3, 4, 5, 6, 7, 8, 9, 10, 11, 12, 13, 14] (by decide) rfl rfl) rfl rfl hl.1 rfl (lv_room (Nat.le_of_ble_eq_true rfl)) dX5_count_79 ⟨(Nat.zero_le _), (Nat.zero_le _)⟩) hS hP hD rfl (fun _ => rfl) (fun _ => rfl) (fun u79 H locs w79 hP hD hS => ?_)
  have hP : va_P D vwCl [(ad 0, .inr (4, [.ref (ad 1), .ref (ad 7), .ref (ad 8), .ref (ad 9)])), (ad 7, .inr (2, [.ref (ad 1)])), (ad 8, .inr (1, [.ref (ad 1)])), (ad 9, .inr (3, [.ref (ad 1), .int ch, .int (nI (sF g (2 ^ gE g))), .int (nI (nP (co g) (2 ^ gE g))), .int (nI (mo g (2 ^ gE g))), .ref (ad 10), .ref (ad 11), .int (nI (sW g (2 ^ gE g))), .ref (ad 12), .ref (ad 13), .ref (ad 14)])), (ad 10, .inl (cy 0, 8, .inl u79.1)), (ad 11, .inl (cy 0, 8, .inl u79.2.1)), (ad 12, .inl (cy 0, 15, .inl u79.2.2.1)), (ad 13, .inl (cy 0, 15, .inl u79.2.2.2.1)), (ad 14, .inl (cy 0, 15, .inl u79.2.2.2.2)), (ad 1, .inr (0, [.int (nI (gV g)), .int (nI (gC g)), .int (nI (gE g)), .int ch, .ref (ad 2), .ref (ad 3), .ref (ad 4), .ref (ad 5), .ref (ad 6)])), (ad 2, .inl (cy 0, 6, .inl (fun i => nI (gL g i)))), (ad 3, .inl (cy 0, 14, .inl (fun i => nI (gF g i)))), (ad 4, .inl (cy 0, 14, .inl (fun i => nI (gS g i)))), (ad 5, .inl (cy 0, 14, .inl (fun i => nI (gH g i)))), (ad 6, .inl (cy 0, 14, .inl (fun i => zI (gW g i))))] H := hP
  have hD : va_D (inW (wX cy ad ch g sn wf cs ms wd fd fw fp frm ft)) [(ad 0, .inr (4, [.ref (ad 1), .ref (ad 7), .ref (ad 8), .ref (ad 9)])), (ad 7, .inr (2, [.ref (ad 1)])), (ad 8, .inr (1, [.ref (ad 1)])), (ad 9, .inr (3, [.ref (ad 1), .int ch, .int (nI (sF g (2 ^ gE g))), .int (nI (nP (co g) (2 ^ gE g))), .int (nI (mo g (2 ^ gE g))), .ref (ad 10), .ref (ad 11), .int (nI (sW g (2 ^ gE g))), .ref (ad 12), .ref (ad 13), .ref (ad 14)])), (ad 10, .inl (cy 0, 8, .inl u79.1)), (ad 11, .inl (cy 0, 8, .inl u79.2.1)), (ad 12, .inl (cy 0, 15, .inl u79.2.2.1)), (ad 13, .inl (cy 0, 15, .inl u79.2.2.2.1)), (ad 14, .inl (cy 0, 15, .inl u79.2.2.2.2)), (ad 1, .inr (0, [.int (nI (gV g)), .int (nI (gC g)), .int (nI (gE g)), .int ch, .ref (ad 2), .ref (ad 3), .ref (ad 4), .ref (ad 5), .ref (ad 6)])), (ad 2, .inl (cy 0, 6, .inl (fun i => nI (gL g i)))), (ad 3, .inl (cy 0, 14, .inl (fun i => nI (gF g i)))), (ad 4, .inl (cy 0, 14, .inl (fun i => nI (gS g i)))), (ad 5, .inl (cy 0, 14, .inl (fun i => nI (gH g i)))), (ad 6, .inl (cy 0, 14, .inl (fun i => zI (gW g i))))] := hD
  have htb : tabs g (2 ^ gE g) u79.1 u79.2.1 := w79
  refine lv_aload_n hx hb dX5_count_82 rfl (lv_at hl 0 rfl) ?_
  refine va_get (D := D) (ci := 4) (v := .ref (ad 9)) (C := RX5) (T := TX5) (N := 4) hx hb hts inX5 hown hK.1 hP 0 rfl rfl 3 (by decide) (hts (.fieldLink RX5 34 "ColourForests" "survey" "LColourForests$Survey;") (List.mem_of_getElem? (i := 5) rfl)) (fun _ h9 => h9) rfl dX5_count_83 ?_
  refine va_get (D := D) (ci := 3) (v := .int (nI (nP (co g) (2 ^ gE g)))) (C := RX4) (T := TX4) (N := 11) hx hb hts inX4 hown hK.1 hP 3 rfl rfl 3 (by decide) (hts (.fieldLink RX5 103 "ColourForests$Survey" "commonSets" "I") (List.mem_of_getElem? (i := 7) rfl)) (fun _ h9 => h9) rfl dX5_count_86 ?_
  exact wi_ret u79 hx hb hr hlocks hS hP ⟨(by unfold coR; rw [if_neg (by decide), if_neg (by decide), if_neg (by decide), if_pos rfl]), htb⟩ dX5_count_89

set_option maxHeartbeats 4000000 in
set_option maxRecDepth 100000 in
theorem c_X5_count_p (l : Launch) (D : va_G) (cy : Nat → ClassId) (ad : Nat → Nat) (ch : Int32) {g : GT} (hg : gOK g) {x : Int32} (hx3 : ¬ x = nI 3) (hx4 : ¬ x = nI 4) : PU l yX5_count wsX5_count ({ frames := 0, cells := 0, slots := 0, locals := 0 }) D cy [.ref (ad 0), .int x] [(ad 0, .inr (4, [.ref (ad 1), .ref (ad 7), .ref (ad 8), .ref (ad 9)])), (ad 1, .inr (0, [.int (nI (gV g)), .int (nI (gC g)), .int (nI (gE g)), .int ch, .ref (ad 2), .ref (ad 3), .ref (ad 4), .ref (ad 5), .ref (ad 6)])), (ad 2, .inl (cy 0, 6, .inl (fun i => nI (gL g i)))), (ad 3, .inl (cy 0, 14, .inl (fun i => nI (gF g i)))), (ad 4, .inl (cy 0, 14, .inl (fun i => nI (gS g i)))), (ad 5, .inl (cy 0, 14, .inl (fun i => nI (gH g i)))), (ad 6, .inl (cy 0, 14, .inl (fun i => zI (gW g i))))] ((coR g x)) := by
  refine Met.ofW (cc := cX5_count) (maxL := 2) (ret := (some .int)) (by decide) rfl ?_
  intro p ev s m args below meth c s₁ B hml hv
  obtain ⟨rfl, hK, hP⟩ := hv
  have hx := B.exec
  have hb := B.bytes
  have hr := B.returns
  have hts := atoms_spec (ws := wsX5_count) B.pre
  have hown : s.vm.findClass RX5 = some m.cls := findClass_of_methodNamed B.named
  have hlocks := B.notSynchronized
  have hS : va_S (fun _ => False) s.heap s.heap [] := va_S.rf
  have hP : va_P D vwCl [(ad 0, .inr (4, [.ref (ad 1), .ref (ad 7), .ref (ad 8), .ref (ad 9)])), (ad 1, .inr (0, [.int (nI (gV g)), .int (nI (gC g)), .int (nI (gE g)), .int ch, .ref (ad 2), .ref (ad 3), .ref (ad 4), .ref (ad 5), .ref (ad 6)])), (ad 2, .inl (cy 0, 6, .inl (fun i => nI (gL g i)))), (ad 3, .inl (cy 0, 14, .inl (fun i => nI (gF g i)))), (ad 4, .inl (cy 0, 14, .inl (fun i => nI (gS g i)))), (ad 5, .inl (cy 0, 14, .inl (fun i => nI (gH g i)))), (ad 6, .inl (cy 0, 14, .inl (fun i => zI (gW g i))))] s.heap := hP
  have inX5 : ∀ w ∈ wsX50, w ∈ wsX5_count := by decide +kernel
  have inX0 : ∀ w ∈ wsX00, w ∈ wsX5_count := by decide +kernel
  have hl := lv_entry ([.ref (ad 0), .int x]) (n := 2) (Nat.le_of_ble_eq_true rfl)
  rw [lg_entry_eq]
  generalize (lg_sl ([.ref (ad 0), .int x]) ++ List.replicate (2 - (lg_sl ([.ref (ad 0), .int x])).length) Slot.unset).toArray = ls at hl ⊢
  have hl : lv_has ls 2 [(0, .ref (ad 0)), (1, .int x)] := hl
  have hgen := True.intro
  refine lv_iload_n hx hb dX5_count_0 rfl (lv_at hl 1 rfl) ?_
  rcases co_cases2 hx3 hx4 with q0 | ⟨q0, q1⟩ | ⟨q0, q1, q2⟩ | ⟨q0, q1, q2, q4, qo⟩
  · refine lv_tableIn (off := 35) (tgt := 36) hx hb dX5_count_1 (by rw [q0]; decide) (by rw [q0]; decide) (by rw [q0]; decide) (by decide) ?_
    refine lv_aload_n hx hb dX5_count_36 rfl (lv_at hl 0 rfl) ?_
    refine va_get (D := D) (ci := 4) (v := .ref (ad 1)) (C := RX5) (T := TX5) (N := 4) hx hb hts inX5 hown hK.1 hP 0 rfl rfl 0 (by decide) (hts (.fieldLink RX5 10 "ColourForests" "graph" "LColourForests$Graph;") (List.mem_of_getElem? (i := 1) rfl)) (fun _ h9 => h9) rfl dX5_count_37 ?_
    refine va_get (D := D) (ci := 0) (v := .int (nI (gV g))) (C := RX0) (T := TX0) (N := 9) hx hb hts inX0 hown hK.1 hP 1 rfl rfl 0 (by decide) (hts (.fieldLink RX5 91 "ColourForests$Graph" "vertices" "I") (List.mem_of_getElem? (i := 2) rfl)) (fun _ h9 => h9) rfl dX5_count_40 ?_
    exact pu_iret (y := yX5_count) hx hb hr hlocks hS (by unfold coR; first | (rw [if_pos q0]) | (rw [if_neg q0, if_pos q1]) | (rw [if_neg q0, if_neg q1, if_pos q2]) | (rw [if_neg q0, if_neg q1, if_neg q2, if_neg q4])) dX5_count_43
  · refine lv_tableIn (off := 43) (tgt := 44) hx hb dX5_count_1 (by rw [q1]; decide) (by rw [q1]; decide) (by rw [q1]; decide) (by decide) ?_
    refine lv_aload_n hx hb dX5_count_44 rfl (lv_at hl 0 rfl) ?_
    refine va_get (D := D) (ci := 4) (v := .ref (ad 1)) (C := RX5) (T := TX5) (N := 4) hx hb hts inX5 hown hK.1 hP 0 rfl rfl 0 (by decide) (hts (.fieldLink RX5 10 "ColourForests" "graph" "LColourForests$Graph;") (List.mem_of_getElem? (i := 1) rfl)) (fun _ h9 => h9) rfl dX5_count_45 ?_
    refine va_get (D := D) (ci := 0) (v := .int (nI (gC g))) (C := RX0) (T := TX0) (N := 9) hx hb hts inX0 hown hK.1 hP 1 rfl rfl 1 (by decide) (hts (.fieldLink RX5 94 "ColourForests$Graph" "colours" "I") (List.mem_of_getElem? (i := 3) rfl)) (fun _ h9 => h9) rfl dX5_count_48 ?_
    exact pu_iret (y := yX5_count) hx hb hr hlocks hS (by unfold coR; first | (rw [if_pos q0]) | (rw [if_neg q0, if_pos q1]) | (rw [if_neg q0, if_neg q1, if_pos q2]) | (rw [if_neg q0, if_neg q1, if_neg q2, if_neg q4])) dX5_count_51
  · refine lv_tableIn (off := 51) (tgt := 52) hx hb dX5_count_1 (by rw [q2]; decide) (by rw [q2]; decide) (by rw [q2]; decide) (by decide) ?_
    refine lv_aload_n hx hb dX5_count_52 rfl (lv_at hl 0 rfl) ?_
    refine va_get (D := D) (ci := 4) (v := .ref (ad 1)) (C := RX5) (T := TX5) (N := 4) hx hb hts inX5 hown hK.1 hP 0 rfl rfl 0 (by decide) (hts (.fieldLink RX5 10 "ColourForests" "graph" "LColourForests$Graph;") (List.mem_of_getElem? (i := 1) rfl)) (fun _ h9 => h9) rfl dX5_count_53 ?_
    refine va_get (D := D) (ci := 0) (v := .int (nI (gE g))) (C := RX0) (T := TX0) (N := 9) hx hb hts inX0 hown hK.1 hP 1 rfl rfl 2 (by decide) (hts (.fieldLink RX5 63 "ColourForests$Graph" "edges" "I") (List.mem_of_getElem? (i := 4) rfl)) (fun _ h9 => h9) rfl dX5_count_56 ?_
    exact pu_iret (y := yX5_count) hx hb hr hlocks hS (by unfold coR; first | (rw [if_pos q0]) | (rw [if_neg q0, if_pos q1]) | (rw [if_neg q0, if_neg q1, if_pos q2]) | (rw [if_neg q0, if_neg q1, if_neg q2, if_neg q4])) dX5_count_59
  · refine lv_tableOut (tgt := 90) hx hb dX5_count_1 qo (by decide) ?_
    refine lv_iconst (v := zI (-1)) hx hb dX5_count_90 (by decide) ?_
    exact pu_iret (y := yX5_count) hx hb hr hlocks hS (by unfold coR; first | (rw [if_pos q0]) | (rw [if_neg q0, if_pos q1]) | (rw [if_neg q0, if_neg q1, if_pos q2]) | (rw [if_neg q0, if_neg q1, if_neg q2, if_neg q4])) dX5_count_91
