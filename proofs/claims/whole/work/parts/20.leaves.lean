set_option maxHeartbeats 4000000 in
set_option maxRecDepth 100000 in
/-- within(n, low, high) -/
theorem c_X5_within (l : Launch) (D : va_G) (cy : Nat → ClassId) (x lo hi : Int32) : PU l yX5_within wsX5_within ({ frames := 0, cells := 0, slots := 0, locals := 0 }) D cy [.int x, .int lo, .int hi] [] ((bI (decide (lo ≤ x ∧ x ≤ hi)))) := by
  refine Met.ofW (cc := cX5_within) (maxL := 3) (ret := (some .boolean)) (by decide) rfl ?_
  intro p ev s m args below meth c s₁ B hml hv
  obtain ⟨rfl, hK, hP⟩ := hv
  have hx := B.exec
  have hb := B.bytes
  have hr := B.returns
  have hts := atoms_spec (ws := wsX5_within) B.pre
  have hown : s.vm.findClass RX5 = some m.cls := findClass_of_methodNamed B.named
  have hlocks := B.notSynchronized
  have hS : va_S (fun _ => False) s.heap s.heap [] := va_S.rf
  have hP : va_P D vwCl [] s.heap := hP
  have hl := lv_entry ([.int x, .int lo, .int hi]) (n := 3) (Nat.le_of_ble_eq_true rfl)
  rw [lg_entry_eq]
  generalize (lg_sl ([.int x, .int lo, .int hi]) ++ List.replicate (3 - (lg_sl ([.int x, .int lo, .int hi])).length) Slot.unset).toArray = ls at hl ⊢
  have hl : lv_has ls 3 [(0, .int x), (1, .int lo), (2, .int hi)] := hl
  have hgen := True.intro
  refine lv_iload_n hx hb dX5_within_0 rfl (lv_at hl 1 rfl) ?_
  refine lv_iload_n hx hb dX5_within_1 rfl (lv_at hl 0 rfl) ?_
  refine lv_icmp_gt (tgt := 14) hx hb dX5_within_2 (by decide) (fun c2 => ?_) (fun c2 => ?_)
  · refine lv_iconst (v := nI 0) hx hb dX5_within_14 (by decide) ?_
    exact pu_zret hx hb hr hlocks hS (by first | (rw [decide_eq_true ⟨Int32.not_lt.mp c2, Int32.not_lt.mp c7⟩]; rfl) | (rw [decide_eq_false (fun q => absurd (Int32.not_le.mpr c2) (fun z => z q.1))]; rfl) | (rw [decide_eq_false (fun q => absurd (Int32.not_le.mpr c7) (fun z => z q.2))]; rfl)) dX5_within_15
  · refine lv_iload_n hx hb dX5_within_5 rfl (lv_at hl 0 rfl) ?_
    refine lv_iload_n hx hb dX5_within_6 rfl (lv_at hl 2 rfl) ?_
    refine lv_icmp_gt (tgt := 14) hx hb dX5_within_7 (by decide) (fun c7 => ?_) (fun c7 => ?_)
    · refine lv_iconst (v := nI 0) hx hb dX5_within_14 (by decide) ?_
      exact pu_zret hx hb hr hlocks hS (by first | (rw [decide_eq_true ⟨Int32.not_lt.mp c2, Int32.not_lt.mp c7⟩]; rfl) | (rw [decide_eq_false (fun q => absurd (Int32.not_le.mpr c2) (fun z => z q.1))]; rfl) | (rw [decide_eq_false (fun q => absurd (Int32.not_le.mpr c7) (fun z => z q.2))]; rfl)) dX5_within_15
    · refine lv_iconst (v := nI 1) hx hb dX5_within_10 (by decide) ?_
      refine lv_goto (tgt := 15) hx hb dX5_within_11 (by decide) ?_
      exact pu_zret hx hb hr hlocks hS (by first | (rw [decide_eq_true ⟨Int32.not_lt.mp c2, Int32.not_lt.mp c7⟩]; rfl) | (rw [decide_eq_false (fun q => absurd (Int32.not_le.mpr c2) (fun z => z q.1))]; rfl) | (rw [decide_eq_false (fun q => absurd (Int32.not_le.mpr c7) (fun z => z q.2))]; rfl)) dX5_within_15

set_option maxHeartbeats 4000000 in
set_option maxRecDepth 100000 in
theorem c_X5_isWeight (l : Launch) (D : va_G) (cy : Nat → ClassId) (x : Int32) : PU l yX5_isWeight wsX5_isWeight ({ frames := 1, cells := 0, slots := 0, locals := 22 }) D cy [.int x] [] ((bI (isW x))) := by
  refine Met.ofW (cc := cX5_isWeight) (maxL := 1) (ret := (some .boolean)) (by decide) rfl ?_
  intro p ev s m args below meth c s₁ B hml hv
  obtain ⟨rfl, hK, hP⟩ := hv
  have hx := B.exec
  have hb := B.bytes
  have hr := B.returns
  have hts := atoms_spec (ws := wsX5_isWeight) B.pre
  have hown : s.vm.findClass RX5 = some m.cls := findClass_of_methodNamed B.named
  have hlocks := B.notSynchronized
  have hS : va_S (fun _ => False) s.heap s.heap [] := va_S.rf
  have hP : va_P D vwCl [] s.heap := hP
  have hl := lv_entry ([.int x]) (n := 1) (Nat.le_of_ble_eq_true rfl)
  rw [lg_entry_eq]
  generalize (lg_sl ([.int x]) ++ List.replicate (1 - (lg_sl ([.int x])).length) Slot.unset).toArray = ls at hl ⊢
  have hl : lv_has ls 1 [(0, .int x)] := hl
  have hgen := True.intro
  refine lv_iload_n hx hb dX5_isWeight_0 rfl (lv_at hl 0 rfl) ?_
  refine lv_sipush (v := zI (-9999)) hx hb dX5_isWeight_1 (by decide) ?_
  refine lv_sipush (v := nI 9999) hx hb dX5_isWeight_4 (by decide) ?_
  refine pu_call (va_runS (As := [.int x, .int (zI (-9999)), .int (nI 9999)]) (rest := []) ⟨hx, hb, hml, hown, hts⟩ (c_X5_within l D cy x (zI (-9999)) (nI 9999)) (va_cwS 3 hts gX5_isWeight_X5_within rfl rfl rfl (by decide +kernel) ⟨Nat.le_of_ble_eq_true rfl, Nat.le_of_ble_eq_true rfl⟩) (PU_preS hK hP [] rfl) rfl rfl hl.1 rfl (lv_room (Nat.le_of_ble_eq_true rfl)) dX5_isWeight_7 ⟨(Nat.zero_le _), (Nat.zero_le _)⟩) hS hP (fun H locs hP hS => ?_)
  exact pu_zret hx hb hr hlocks hS (congrArg bI (decide_eq_decide.mpr (by rw [Int32.le_iff_toInt_le, Int32.le_iff_toInt_le, zI_toInt (by decide) (by decide), nI_toInt (by decide)]; omega))) dX5_isWeight_10

set_option maxHeartbeats 4000000 in
set_option maxRecDepth 100000 in
theorem c_X5_hasBit (l : Launch) (D : va_G) (cy : Nat → ClassId) {S e : Nat} (hS9 : S < 2 ^ 31) (he9 : e < 32) : PU l yX5_hasBit wsX5_hasBit ({ frames := 0, cells := 0, slots := 0, locals := 0 }) D cy [.int (nI S), .int (nI e)] [] ((bI (S.testBit e))) := by
  refine Met.ofW (cc := cX5_hasBit) (maxL := 2) (ret := (some .boolean)) (by decide) rfl ?_
  intro p ev s m args below meth c s₁ B hml hv
  obtain ⟨rfl, hK, hP⟩ := hv
  have hx := B.exec
  have hb := B.bytes
  have hr := B.returns
  have hts := atoms_spec (ws := wsX5_hasBit) B.pre
  have hown : s.vm.findClass RX5 = some m.cls := findClass_of_methodNamed B.named
  have hlocks := B.notSynchronized
  have hS : va_S (fun _ => False) s.heap s.heap [] := va_S.rf
  have hP : va_P D vwCl [] s.heap := hP
  have hl := lv_entry ([.int (nI S), .int (nI e)]) (n := 2) (Nat.le_of_ble_eq_true rfl)
  rw [lg_entry_eq]
  generalize (lg_sl ([.int (nI S), .int (nI e)]) ++ List.replicate (2 - (lg_sl ([.int (nI S), .int (nI e)])).length) Slot.unset).toArray = ls at hl ⊢
  have hl : lv_has ls 2 [(0, .int (nI S)), (1, .int (nI e))] := hl
  have hgen := True.intro
  refine lv_iload_n hx hb dX5_hasBit_0 rfl (lv_at hl 0 rfl) ?_
  refine lv_iload_n hx hb dX5_hasBit_1 rfl (lv_at hl 1 rfl) ?_
  refine lv_iushr hx hb dX5_hasBit_2 rfl ?_
  refine lv_as (y := (((nI S).toUInt32 >>> ((nI e).toUInt32 &&& Int32.toUInt32 31)).toInt32)) rfl ?_
  refine lv_iconst (v := nI 1) hx hb dX5_hasBit_3 (by decide) ?_
  refine lv_iand hx hb dX5_hasBit_4 ?_
  refine lv_as (y := (bI (S.testBit e))) (hb_of hS9 he9) ?_
  refine lv_iconst (v := nI 1) hx hb dX5_hasBit_5 (by decide) ?_
  refine lv_icmp_ne (tgt := 13) hx hb dX5_hasBit_6 (by decide) (fun c6 => ?_) (fun c6 => ?_)
  · have c6 : S.testBit e = false := by cases h : S.testBit e; rfl; exact absurd (by rw [h]; rfl) c6
    refine lv_iconst (v := nI 0) hx hb dX5_hasBit_13 (by decide) ?_
    exact pu_zret hx hb hr hlocks hS (by rw [c6]; rfl) dX5_hasBit_14
  · have c6 : S.testBit e = true := by cases h : S.testBit e; (rw [h] at c6; exact absurd c6 (by decide)); rfl
    refine lv_iconst (v := nI 1) hx hb dX5_hasBit_9 (by decide) ?_
    refine lv_goto (tgt := 14) hx hb dX5_hasBit_10 (by decide) ?_
    exact pu_zret hx hb hr hlocks hS (by rw [c6]; rfl) dX5_hasBit_14

set_option maxHeartbeats 4000000 in
set_option maxRecDepth 100000 in
theorem c_X5_cell (l : Launch) (D : va_G) (cy : Nat → ClassId) {f : Nat → Nat} (hf : ∀ v, v < 8 → f v < 16) {p9 : Nat} (hp9 : p9 < 8) : PU l yX5_cell wsX5_cell ({ frames := 0, cells := 0, slots := 0, locals := 0 }) D cy [.int (nI (pk f)), .int (nI p9)] [] ((nI (f p9))) := by
  refine Met.ofW (cc := cX5_cell) (maxL := 2) (ret := (some .int)) (by decide) rfl ?_
  intro p ev s m args below meth c s₁ B hml hv
  obtain ⟨rfl, hK, hP⟩ := hv
  have hx := B.exec
  have hb := B.bytes
  have hr := B.returns
  have hts := atoms_spec (ws := wsX5_cell) B.pre
  have hown : s.vm.findClass RX5 = some m.cls := findClass_of_methodNamed B.named
  have hlocks := B.notSynchronized
  have hS : va_S (fun _ => False) s.heap s.heap [] := va_S.rf
  have hP : va_P D vwCl [] s.heap := hP
  have hl := lv_entry ([.int (nI (pk f)), .int (nI p9)]) (n := 2) (Nat.le_of_ble_eq_true rfl)
  rw [lg_entry_eq]
  generalize (lg_sl ([.int (nI (pk f)), .int (nI p9)]) ++ List.replicate (2 - (lg_sl ([.int (nI (pk f)), .int (nI p9)])).length) Slot.unset).toArray = ls at hl ⊢
  have hl : lv_has ls 2 [(0, .int (nI (pk f))), (1, .int (nI p9))] := hl
  have hgen := True.intro
  refine lv_iload_n hx hb dX5_cell_0 rfl (lv_at hl 0 rfl) ?_
  refine lv_iconst (v := nI 4) hx hb dX5_cell_1 (by decide) ?_
  refine lv_iload_n hx hb dX5_cell_2 rfl (lv_at hl 1 rfl) ?_
  refine lv_imul hx hb dX5_cell_3 ?_
  refine lv_as (y := (nI (4 * p9))) (ni_mul _ _) ?_
  refine lv_iushr hx hb dX5_cell_4 rfl ?_
  refine lv_as (y := (((nI (pk f)).toUInt32 >>> ((nI (4 * p9)).toUInt32 &&& Int32.toUInt32 31)).toInt32)) rfl ?_
  refine lv_bipush (v := nI 15) hx hb dX5_cell_5 (by decide) ?_
  refine lv_iand hx hb dX5_cell_7 ?_
  refine lv_as (y := (nI (f p9))) (ni_cell hf hp9) ?_
  exact pu_iret (y := yX5_cell) hx hb hr hlocks hS (by first | rfl | (simp [bI, *]; done) | (simp_all [bI]; done)) dX5_cell_8

set_option maxHeartbeats 4000000 in
set_option maxRecDepth 100000 in
theorem c_X5_withCell (l : Launch) (D : va_G) (cy : Nat → ClassId) {f : Nat → Nat} (hf : ∀ v, v < 8 → f v < 16) {p9 x9 : Nat} (hp9 : p9 < 8) (hx9 : x9 < 16) : PU l yX5_withCell wsX5_withCell ({ frames := 0, cells := 0, slots := 0, locals := 0 }) D cy [.int (nI (pk f)), .int (nI p9), .int (nI x9)] [] ((nI (pk (upN f p9 x9)))) := by
  refine Met.ofW (cc := cX5_withCell) (maxL := 4) (ret := (some .int)) (by decide) rfl ?_
  intro p ev s m args below meth c s₁ B hml hv
  obtain ⟨rfl, hK, hP⟩ := hv
  have hx := B.exec
  have hb := B.bytes
  have hr := B.returns
  have hts := atoms_spec (ws := wsX5_withCell) B.pre
  have hown : s.vm.findClass RX5 = some m.cls := findClass_of_methodNamed B.named
  have hlocks := B.notSynchronized
  have hS : va_S (fun _ => False) s.heap s.heap [] := va_S.rf
  have hP : va_P D vwCl [] s.heap := hP
  have hl := lv_entry ([.int (nI (pk f)), .int (nI p9), .int (nI x9)]) (n := 4) (Nat.le_of_ble_eq_true rfl)
  rw [lg_entry_eq]
  generalize (lg_sl ([.int (nI (pk f)), .int (nI p9), .int (nI x9)]) ++ List.replicate (4 - (lg_sl ([.int (nI (pk f)), .int (nI p9), .int (nI x9)])).length) Slot.unset).toArray = ls at hl ⊢
  have hl : lv_has ls 4 [(0, .int (nI (pk f))), (1, .int (nI p9)), (2, .int (nI x9))] := hl
  have hgen := True.intro
  refine lv_iconst (v := nI 4) hx hb dX5_withCell_0 (by decide) ?_
  refine lv_iload_n hx hb dX5_withCell_1 rfl (lv_at hl 1 rfl) ?_
  refine lv_imul hx hb dX5_withCell_2 ?_
  refine lv_as (y := (nI (4 * p9))) (ni_mul _ _) ?_
  refine lv_istore_n (lv' := [(3, .int (nI (4 * p9))), (0, .int (nI (pk f))), (1, .int (nI p9)), (2, .int (nI x9))]) hx hb dX5_withCell_3 rfl hl (by decide) rfl (fun ls hl => ?_)
  refine lv_iload_n hx hb dX5_withCell_4 rfl (lv_at hl 1 rfl) ?_
  refine lv_bipush (v := nI 15) hx hb dX5_withCell_5 (by decide) ?_
  refine lv_iload_n hx hb dX5_withCell_7 rfl (lv_at hl 0 rfl) ?_
  refine lv_ishl hx hb dX5_withCell_8 ?_
  refine lv_as (y := (nI 15 <<< (nI (4 * p9) &&& 31))) rfl ?_
  refine lv_iconst (v := zI (-1)) hx hb dX5_withCell_9 (by decide) ?_
  refine lv_ixor hx hb dX5_withCell_10 ?_
  refine lv_as (y := ((nI 15 <<< (nI (4 * p9) &&& 31)) ^^^ (-1))) rfl ?_
  refine lv_iand hx hb dX5_withCell_11 ?_
  refine lv_as (y := (nI (pk f) &&& ((nI 15 <<< (nI (4 * p9) &&& 31)) ^^^ (-1)))) rfl ?_
  refine lv_iload_n hx hb dX5_withCell_12 rfl (lv_at hl 3 rfl) ?_
  refine lv_iload_n hx hb dX5_withCell_13 rfl (lv_at hl 0 rfl) ?_
  refine lv_ishl hx hb dX5_withCell_14 ?_
  refine lv_as (y := (nI x9 <<< (nI (4 * p9) &&& 31))) rfl ?_
  refine lv_ior hx hb dX5_withCell_15 ?_
  refine lv_as (y := (nI (pk (upN f p9 x9)))) (ni_with hf hp9 hx9) ?_
  exact pu_iret (y := yX5_withCell) hx hb hr hlocks hS (by first | rfl | (simp [bI, *]; done) | (simp_all [bI]; done)) dX5_withCell_16

set_option maxHeartbeats 4000000 in
set_option maxRecDepth 100000 in
theorem c_X5_told (l : Launch) (D : va_G) (cy : Nat → ClassId) (b : Bool) : PU l yX5_told wsX5_told ({ frames := 0, cells := 0, slots := 0, locals := 0 }) D cy [.int (bI b)] [] ((bI b)) := by
  refine Met.ofW (cc := cX5_told) (maxL := 1) (ret := (some .int)) (by decide) rfl ?_
  intro p ev s m args below meth c s₁ B hml hv
  obtain ⟨rfl, hK, hP⟩ := hv
  have hx := B.exec
  have hb := B.bytes
  have hr := B.returns
  have hts := atoms_spec (ws := wsX5_told) B.pre
  have hown : s.vm.findClass RX5 = some m.cls := findClass_of_methodNamed B.named
  have hlocks := B.notSynchronized
  have hS : va_S (fun _ => False) s.heap s.heap [] := va_S.rf
  have hP : va_P D vwCl [] s.heap := hP
  have hl := lv_entry ([.int (bI b)]) (n := 1) (Nat.le_of_ble_eq_true rfl)
  rw [lg_entry_eq]
  generalize (lg_sl ([.int (bI b)]) ++ List.replicate (1 - (lg_sl ([.int (bI b)])).length) Slot.unset).toArray = ls at hl ⊢
  have hl : lv_has ls 1 [(0, .int (bI b))] := hl
  have hgen := True.intro
  refine lv_iload_n hx hb dX5_told_0 rfl (lv_at hl 0 rfl) ?_
  refine b_eq (b := b) (tgt := 8) hx hb dX5_told_1 (by decide) (fun c1 => ?_) (fun c1 => ?_)
  · refine lv_iconst (v := nI 0) hx hb dX5_told_8 (by decide) ?_
    exact pu_iret (y := yX5_told) hx hb hr hlocks hS (by rw [c1]; rfl) dX5_told_9
  · refine lv_iconst (v := nI 1) hx hb dX5_told_4 (by decide) ?_
    refine lv_goto (tgt := 9) hx hb dX5_told_5 (by decide) ?_
    exact pu_iret (y := yX5_told) hx hb hr hlocks hS (by rw [c1]; rfl) dX5_told_9

set_option maxHeartbeats 4000000 in
set_option maxRecDepth 100000 in
theorem c_X0_allEdges (l : Launch) (D : va_G) (cy : Nat → ClassId) (ad : Nat → Nat) (ch : Int32) {g : GT} (hg : gOK g) : PU l yX0_allEdges wsX0_allEdges ({ frames := 0, cells := 0, slots := 0, locals := 0 }) D cy [.ref (ad 1)] (wG cy ad ch g) ((nI (2 ^ gE g - 1))) := by
  refine Met.ofW (cc := cX0_allEdges) (maxL := 1) (ret := (some .int)) (by decide) rfl ?_
  intro p ev s m args below meth c s₁ B hml hv
  obtain ⟨rfl, hK, hP⟩ := hv
  have hx := B.exec
  have hb := B.bytes
  have hr := B.returns
  have hts := atoms_spec (ws := wsX0_allEdges) B.pre
  have hown : s.vm.findClass RX0 = some m.cls := findClass_of_methodNamed B.named
  have hlocks := B.notSynchronized
  have hS : va_S (fun _ => False) s.heap s.heap [] := va_S.rf
  have hP : va_P D vwCl (wG cy ad ch g) s.heap := hP
  have inX0 : ∀ w ∈ wsX00, w ∈ wsX0_allEdges := by decide +kernel
  have hl := lv_entry ([.ref (ad 1)]) (n := 1) (Nat.le_of_ble_eq_true rfl)
  rw [lg_entry_eq]
  generalize (lg_sl ([.ref (ad 1)]) ++ List.replicate (1 - (lg_sl ([.ref (ad 1)])).length) Slot.unset).toArray = ls at hl ⊢
  have hl : lv_has ls 1 [(0, .ref (ad 1))] := hl
  have hgen := True.intro
  have hE := hg.2.2.1
  have hV := hg.1
  have hC := hg.2.1
  refine lv_iconst (v := nI 1) hx hb dX0_allEdges_0 (by decide) ?_
  refine lv_aload_n hx hb dX0_allEdges_1 rfl (lv_at hl 0 rfl) ?_
  refine va_get (D := D) (ci := 0) (v := .int (nI (gE g))) (C := RX0) (T := TX0) (N := 9) hx hb hts inX0 hown hK.1 hP 0 rfl rfl 2 (by decide) (hts (.fieldLink RX0 34 "ColourForests$Graph" "edges" "I") (List.mem_of_getElem? (i := 1) rfl)) (fun _ h9 => h9) rfl dX0_allEdges_2 ?_
  refine lv_ishl hx hb dX0_allEdges_5 ?_
  refine lv_as (y := (nI (2 ^ (gE g)))) (ni_bit (by omega)) ?_
  refine lv_iconst (v := nI 1) hx hb dX0_allEdges_6 (by decide) ?_
  refine lv_isub hx hb dX0_allEdges_7 ?_
  refine lv_as (y := (nI (2 ^ gE g - 1))) (ni_sub (Nat.two_pow_pos _)) ?_
  exact pu_iret (y := yX0_allEdges) hx hb hr hlocks hS (by first | rfl | (simp [bI, *]; done) | (simp_all [bI]; done)) dX0_allEdges_8

set_option maxHeartbeats 4000000 in
set_option maxRecDepth 100000 in
theorem c_X0_hasVertex (l : Launch) (D : va_G) (cy : Nat → ClassId) (ad : Nat → Nat) (ch : Int32) {g : GT} (hg : gOK g) (x : Int32) : PU l yX0_hasVertex wsX0_hasVertex ({ frames := 1, cells := 0, slots := 0, locals := 22 }) D cy [.ref (ad 1), .int x] (wG cy ad ch g) ((bI (isN x (gV g)))) := by
  refine Met.ofW (cc := cX0_hasVertex) (maxL := 2) (ret := (some .boolean)) (by decide) rfl ?_
  intro p ev s m args below meth c s₁ B hml hv
  obtain ⟨rfl, hK, hP⟩ := hv
  have hx := B.exec
  have hb := B.bytes
  have hr := B.returns
  have hts := atoms_spec (ws := wsX0_hasVertex) B.pre
  have hown : s.vm.findClass RX0 = some m.cls := findClass_of_methodNamed B.named
  have hlocks := B.notSynchronized
  have hS : va_S (fun _ => False) s.heap s.heap [] := va_S.rf
  have hP : va_P D vwCl (wG cy ad ch g) s.heap := hP
  have inX0 : ∀ w ∈ wsX00, w ∈ wsX0_hasVertex := by decide +kernel
  have hl := lv_entry ([.ref (ad 1), .int x]) (n := 2) (Nat.le_of_ble_eq_true rfl)
  rw [lg_entry_eq]
  generalize (lg_sl ([.ref (ad 1), .int x]) ++ List.replicate (2 - (lg_sl ([.ref (ad 1), .int x])).length) Slot.unset).toArray = ls at hl ⊢
  have hl : lv_has ls 2 [(0, .ref (ad 1)), (1, .int x)] := hl
  have hgen := True.intro
  have hE := hg.2.2.1
  have hV := hg.1
  have hC := hg.2.1
  refine lv_iload_n hx hb dX0_hasVertex_0 rfl (lv_at hl 1 rfl) ?_
  refine lv_iconst (v := nI 0) hx hb dX0_hasVertex_1 (by decide) ?_
  refine lv_aload_n hx hb dX0_hasVertex_2 rfl (lv_at hl 0 rfl) ?_
  refine va_get (D := D) (ci := 0) (v := .int (nI (gV g))) (C := RX0) (T := TX0) (N := 9) hx hb hts inX0 hown hK.1 hP 0 rfl rfl 0 (by decide) (hts (.fieldLink RX0 27 "ColourForests$Graph" "vertices" "I") (List.mem_of_getElem? (i := 1) rfl)) (fun _ h9 => h9) rfl dX0_hasVertex_3 ?_
  refine lv_iconst (v := nI 1) hx hb dX0_hasVertex_6 (by decide) ?_
  refine lv_isub hx hb dX0_hasVertex_7 ?_
  refine lv_as (y := (nI (gV g) - nI 1)) rfl ?_
  refine pu_call (va_runSN (As := [.int x, .int (nI 0), .int (nI (gV g) - nI 1)]) (rest := []) ⟨hx, hb, hml, hown, hts⟩ (c_X5_within l D cy x (nI 0) (nI (gV g) - nI 1)) ⟨va_cnB 3 hts gX0_hasVertex_X5_within_n46 rfl rfl rfl (hK.2 _ (List.mem_of_getElem? (i := 0) rfl)) (hts (.initialized RX5) (List.mem_of_getElem? (i := 3) rfl)) (by decide +kernel) ⟨Nat.le_of_ble_eq_true rfl, Nat.le_of_ble_eq_true rfl⟩, (hts (.static yX5_within) (List.mem_of_getElem? (i := 2) rfl)), trivial⟩ (PU_preS hK hP [] rfl) rfl rfl hl.1 rfl (lv_room (Nat.le_of_ble_eq_true rfl)) dX0_hasVertex_8 ⟨(Nat.zero_le _), (Nat.zero_le _)⟩) hS hP (fun H locs hP hS => ?_)
  exact pu_zret hx hb hr hlocks hS (congrArg bI (isN_within x (by omega))) dX0_hasVertex_11

set_option maxHeartbeats 4000000 in
set_option maxRecDepth 100000 in
theorem c_X0_hasColour (l : Launch) (D : va_G) (cy : Nat → ClassId) (ad : Nat → Nat) (ch : Int32) {g : GT} (hg : gOK g) (x : Int32) : PU l yX0_hasColour wsX0_hasColour ({ frames := 1, cells := 0, slots := 0, locals := 22 }) D cy [.ref (ad 1), .int x] (wG cy ad ch g) ((bI (isN x (gC g)))) := by
  refine Met.ofW (cc := cX0_hasColour) (maxL := 2) (ret := (some .boolean)) (by decide) rfl ?_
  intro p ev s m args below meth c s₁ B hml hv
  obtain ⟨rfl, hK, hP⟩ := hv
  have hx := B.exec
  have hb := B.bytes
  have hr := B.returns
  have hts := atoms_spec (ws := wsX0_hasColour) B.pre
  have hown : s.vm.findClass RX0 = some m.cls := findClass_of_methodNamed B.named
  have hlocks := B.notSynchronized
  have hS : va_S (fun _ => False) s.heap s.heap [] := va_S.rf
  have hP : va_P D vwCl (wG cy ad ch g) s.heap := hP
  have inX0 : ∀ w ∈ wsX00, w ∈ wsX0_hasColour := by decide +kernel
  have hl := lv_entry ([.ref (ad 1), .int x]) (n := 2) (Nat.le_of_ble_eq_true rfl)
  rw [lg_entry_eq]
  generalize (lg_sl ([.ref (ad 1), .int x]) ++ List.replicate (2 - (lg_sl ([.ref (ad 1), .int x])).length) Slot.unset).toArray = ls at hl ⊢
  have hl : lv_has ls 2 [(0, .ref (ad 1)), (1, .int x)] := hl
  have hgen := True.intro
  have hE := hg.2.2.1
  have hV := hg.1
  have hC := hg.2.1
  refine lv_iload_n hx hb dX0_hasColour_0 rfl (lv_at hl 1 rfl) ?_
  refine lv_iconst (v := nI 0) hx hb dX0_hasColour_1 (by decide) ?_
  refine lv_aload_n hx hb dX0_hasColour_2 rfl (lv_at hl 0 rfl) ?_
  refine va_get (D := D) (ci := 0) (v := .int (nI (gC g))) (C := RX0) (T := TX0) (N := 9) hx hb hts inX0 hown hK.1 hP 0 rfl rfl 1 (by decide) (hts (.fieldLink RX0 31 "ColourForests$Graph" "colours" "I") (List.mem_of_getElem? (i := 1) rfl)) (fun _ h9 => h9) rfl dX0_hasColour_3 ?_
  refine lv_iconst (v := nI 1) hx hb dX0_hasColour_6 (by decide) ?_
  refine lv_isub hx hb dX0_hasColour_7 ?_
  refine lv_as (y := (nI (gC g) - nI 1)) rfl ?_
  refine pu_call (va_runSN (As := [.int x, .int (nI 0), .int (nI (gC g) - nI 1)]) (rest := []) ⟨hx, hb, hml, hown, hts⟩ (c_X5_within l D cy x (nI 0) (nI (gC g) - nI 1)) ⟨va_cnB 3 hts gX0_hasColour_X5_within_n46 rfl rfl rfl (hK.2 _ (List.mem_of_getElem? (i := 0) rfl)) (hts (.initialized RX5) (List.mem_of_getElem? (i := 3) rfl)) (by decide +kernel) ⟨Nat.le_of_ble_eq_true rfl, Nat.le_of_ble_eq_true rfl⟩, (hts (.static yX5_within) (List.mem_of_getElem? (i := 2) rfl)), trivial⟩ (PU_preS hK hP [] rfl) rfl rfl hl.1 rfl (lv_room (Nat.le_of_ble_eq_true rfl)) dX0_hasColour_8 ⟨(Nat.zero_le _), (Nat.zero_le _)⟩) hS hP (fun H locs hP hS => ?_)
  exact pu_zret hx hb hr hlocks hS (congrArg bI (isN_within x (by omega))) dX0_hasColour_11

set_option maxHeartbeats 4000000 in
set_option maxRecDepth 100000 in
theorem c_X0_hasEdge (l : Launch) (D : va_G) (cy : Nat → ClassId) (ad : Nat → Nat) (ch : Int32) {g : GT} (hg : gOK g) (x : Int32) : PU l yX0_hasEdge wsX0_hasEdge ({ frames := 1, cells := 0, slots := 0, locals := 22 }) D cy [.ref (ad 1), .int x] (wG cy ad ch g) ((bI (isN x (gE g)))) := by
  refine Met.ofW (cc := cX0_hasEdge) (maxL := 2) (ret := (some .boolean)) (by decide) rfl ?_
  intro p ev s m args below meth c s₁ B hml hv
  obtain ⟨rfl, hK, hP⟩ := hv
  have hx := B.exec
  have hb := B.bytes
  have hr := B.returns
  have hts := atoms_spec (ws := wsX0_hasEdge) B.pre
  have hown : s.vm.findClass RX0 = some m.cls := findClass_of_methodNamed B.named
  have hlocks := B.notSynchronized
  have hS : va_S (fun _ => False) s.heap s.heap [] := va_S.rf
  have hP : va_P D vwCl (wG cy ad ch g) s.heap := hP
  have inX0 : ∀ w ∈ wsX00, w ∈ wsX0_hasEdge := by decide +kernel
  have hl := lv_entry ([.ref (ad 1), .int x]) (n := 2) (Nat.le_of_ble_eq_true rfl)
  rw [lg_entry_eq]
  generalize (lg_sl ([.ref (ad 1), .int x]) ++ List.replicate (2 - (lg_sl ([.ref (ad 1), .int x])).length) Slot.unset).toArray = ls at hl ⊢
  have hl : lv_has ls 2 [(0, .ref (ad 1)), (1, .int x)] := hl
  have hgen := True.intro
  have hE := hg.2.2.1
  have hV := hg.1
  have hC := hg.2.1
  refine lv_iload_n hx hb dX0_hasEdge_0 rfl (lv_at hl 1 rfl) ?_
  refine lv_iconst (v := nI 0) hx hb dX0_hasEdge_1 (by decide) ?_
  refine lv_aload_n hx hb dX0_hasEdge_2 rfl (lv_at hl 0 rfl) ?_
  refine va_get (D := D) (ci := 0) (v := .int (nI (gE g))) (C := RX0) (T := TX0) (N := 9) hx hb hts inX0 hown hK.1 hP 0 rfl rfl 2 (by decide) (hts (.fieldLink RX0 34 "ColourForests$Graph" "edges" "I") (List.mem_of_getElem? (i := 1) rfl)) (fun _ h9 => h9) rfl dX0_hasEdge_3 ?_
  refine lv_iconst (v := nI 1) hx hb dX0_hasEdge_6 (by decide) ?_
  refine lv_isub hx hb dX0_hasEdge_7 ?_
  refine lv_as (y := (nI (gE g) - nI 1)) rfl ?_
  refine pu_call (va_runSN (As := [.int x, .int (nI 0), .int (nI (gE g) - nI 1)]) (rest := []) ⟨hx, hb, hml, hown, hts⟩ (c_X5_within l D cy x (nI 0) (nI (gE g) - nI 1)) ⟨va_cnB 3 hts gX0_hasEdge_X5_within_n46 rfl rfl rfl (hK.2 _ (List.mem_of_getElem? (i := 0) rfl)) (hts (.initialized RX5) (List.mem_of_getElem? (i := 3) rfl)) (by decide +kernel) ⟨Nat.le_of_ble_eq_true rfl, Nat.le_of_ble_eq_true rfl⟩, (hts (.static yX5_within) (List.mem_of_getElem? (i := 2) rfl)), trivial⟩ (PU_preS hK hP [] rfl) rfl rfl hl.1 rfl (lv_room (Nat.le_of_ble_eq_true rfl)) dX0_hasEdge_8 ⟨(Nat.zero_le _), (Nat.zero_le _)⟩) hS hP (fun H locs hP hS => ?_)
  exact pu_zret hx hb hr hlocks hS (congrArg bI (isN_within x (by omega))) dX0_hasEdge_11

set_option maxHeartbeats 4000000 in
set_option maxRecDepth 100000 in
theorem c_X0_hasSet (l : Launch) (D : va_G) (cy : Nat → ClassId) (ad : Nat → Nat) (ch : Int32) {g : GT} (hg : gOK g) (x : Int32) : PU l yX0_hasSet wsX0_hasSet ({ frames := 1, cells := 0, slots := 0, locals := 20 }) D cy [.ref (ad 1), .int x] (wG cy ad ch g) ((bI (isN x (2 ^ gE g)))) := by
  refine Met.ofW (cc := cX0_hasSet) (maxL := 2) (ret := (some .boolean)) (by decide) rfl ?_
  intro p ev s m args below meth c s₁ B hml hv
  obtain ⟨rfl, hK, hP⟩ := hv
  have hx := B.exec
  have hb := B.bytes
  have hr := B.returns
  have hts := atoms_spec (ws := wsX0_hasSet) B.pre
  have hown : s.vm.findClass RX0 = some m.cls := findClass_of_methodNamed B.named
  have hlocks := B.notSynchronized
  have hS : va_S (fun _ => False) s.heap s.heap [] := va_S.rf
  have hP : va_P D vwCl (wG cy ad ch g) s.heap := hP
  have inX0 : ∀ w ∈ wsX00, w ∈ wsX0_hasSet := by decide +kernel
  have hl := lv_entry ([.ref (ad 1), .int x]) (n := 2) (Nat.le_of_ble_eq_true rfl)
  rw [lg_entry_eq]
  generalize (lg_sl ([.ref (ad 1), .int x]) ++ List.replicate (2 - (lg_sl ([.ref (ad 1), .int x])).length) Slot.unset).toArray = ls at hl ⊢
  have hl : lv_has ls 2 [(0, .ref (ad 1)), (1, .int x)] := hl
  have hgen := True.intro
  have hE := hg.2.2.1
  have hV := hg.1
  have hC := hg.2.1
  refine lv_iload_n hx hb dX0_hasSet_0 rfl (lv_at hl 1 rfl) ?_
  refine lv_aload_n hx hb dX0_hasSet_1 rfl (lv_at hl 0 rfl) ?_
  refine pu_call (va_runV (As := []) (rest := [.int x]) ⟨hx, hb, hml, hown, hts⟩ (c_X0_allEdges l D cy ad ch hg) (cwV 0 hts gX0_hasSet_X0_allEdges rfl rfl rfl (by decide +kernel) ⟨Nat.le_of_ble_eq_true rfl, Nat.le_of_ble_eq_true rfl⟩) (PU_preV (ci := 0) (q0 := 0) hK hP 0 rfl rfl [0, 1, 2, 3, 4, 5] rfl) rfl rfl hl.1 rfl (lv_room (Nat.le_of_ble_eq_true rfl)) dX0_hasSet_2 ⟨(Nat.zero_le _), (Nat.zero_le _)⟩) hS hP (fun H locs hP hS => ?_)
  refine lv_iconst (v := zI (-1)) hx hb dX0_hasSet_5 (by decide) ?_
  refine lv_ixor hx hb dX0_hasSet_6 ?_
  refine lv_as (y := (nI (2 ^ gE g - 1) ^^^ zI (-1))) rfl ?_
  refine lv_iand hx hb dX0_hasSet_7 ?_
  refine lv_as (y := (x &&& (nI (2 ^ gE g - 1) ^^^ zI (-1)))) rfl ?_
  refine lv_if_ne (tgt := 15) hx hb dX0_hasSet_8 (by decide) (fun c8 => ?_) (fun c8 => ?_)
  · have c8 : isN x (2 ^ gE g) = false := by cases h : isN x (2 ^ gE g); rfl; exact absurd ((hasSet_of x (by omega)).mpr h) c8
    refine lv_iconst (v := nI 0) hx hb dX0_hasSet_15 (by decide) ?_
    exact pu_zret hx hb hr hlocks hS (by rw [c8]; rfl) dX0_hasSet_16
  · have c8 : isN x (2 ^ gE g) = true := (hasSet_of x (by omega)).mp c8
    refine lv_iconst (v := nI 1) hx hb dX0_hasSet_11 (by decide) ?_
    refine lv_goto (tgt := 16) hx hb dX0_hasSet_12 (by decide) ?_
    exact pu_zret hx hb hr hlocks hS (by rw [c8]; rfl) dX0_hasSet_16

set_option maxHeartbeats 4000000 in
set_option maxRecDepth 100000 in
theorem c_X0_joinsTwoParts (l : Launch) (D : va_G) (cy : Nat → ClassId) (ad : Nat → Nat) (ch : Int32) {g : GT} (hg : gOK g) {f : Nat → Nat} (hf : ∀ v, v < 8 → f v < 8) {e : Nat} (he : e < gE g) : PU l yX0_joinsTwoParts wsX0_joinsTwoParts ({ frames := 1, cells := 0, slots := 0, locals := 21 }) D cy [.ref (ad 1), .int (nI (pk f)), .int (nI e)] (wG cy ad ch g) ((bI (decide (f (gF g e) ≠ f (gS g e))))) := by
  refine Met.ofW (cc := cX0_joinsTwoParts) (maxL := 3) (ret := (some .boolean)) (by decide) rfl ?_
  intro p ev s m args below meth c s₁ B hml hv
  obtain ⟨rfl, hK, hP⟩ := hv
  have hx := B.exec
  have hb := B.bytes
  have hr := B.returns
  have hts := atoms_spec (ws := wsX0_joinsTwoParts) B.pre
  have hown : s.vm.findClass RX0 = some m.cls := findClass_of_methodNamed B.named
  have hlocks := B.notSynchronized
  have hS : va_S (fun _ => False) s.heap s.heap [] := va_S.rf
  have hP : va_P D vwCl (wG cy ad ch g) s.heap := hP
  have inX0 : ∀ w ∈ wsX00, w ∈ wsX0_joinsTwoParts := by decide +kernel
  have hl := lv_entry ([.ref (ad 1), .int (nI (pk f)), .int (nI e)]) (n := 3) (Nat.le_of_ble_eq_true rfl)
  rw [lg_entry_eq]
  generalize (lg_sl ([.ref (ad 1), .int (nI (pk f)), .int (nI e)]) ++ List.replicate (3 - (lg_sl ([.ref (ad 1), .int (nI (pk f)), .int (nI e)])).length) Slot.unset).toArray = ls at hl ⊢
  have hl : lv_has ls 3 [(0, .ref (ad 1)), (1, .int (nI (pk f))), (2, .int (nI e))] := hl
  have hgen := True.intro
  have hE := hg.2.2.1
  have hV := hg.1
  have hC := hg.2.1
  obtain ⟨he1, he2, he3, he4, he5⟩ := hg.2.2.2.2 e he
  have hf1 := hf (gF g e) (by omega)
  have hf2 := hf (gS g e) (by omega)
  refine lv_iload_n hx hb dX0_joinsTwoParts_0 rfl (lv_at hl 1 rfl) ?_
  refine lv_aload_n hx hb dX0_joinsTwoParts_1 rfl (lv_at hl 0 rfl) ?_
  refine va_get (D := D) (ci := 0) (v := .ref (ad 3)) (C := RX0) (T := TX0) (N := 9) hx hb hts inX0 hown hK.1 hP 0 rfl rfl 5 (by decide) (hts (.fieldLink RX0 15 "ColourForests$Graph" "firstEnds" "[I") (List.mem_of_getElem? (i := 1) rfl)) (fun _ h9 => h9) rfl dX0_joinsTwoParts_2 ?_
  refine lv_iload_n hx hb dX0_joinsTwoParts_5 rfl (lv_at hl 2 rfl) ?_
  refine rd_i (k := e) (v := (nI (gF g e))) hx hb hK hP 2 rfl (by omega) (by decide) rfl dX0_joinsTwoParts_6 ?_
  refine pu_call (va_runSN (As := [.int (nI (pk f)), .int (nI (gF g e))]) (rest := []) ⟨hx, hb, hml, hown, hts⟩ (c_X5_cell l D cy (f := f) (b8_16 hf) (p9 := gF g e) (by omega)) ⟨va_cnB 2 hts gX0_joinsTwoParts_X5_cell_n58 rfl rfl rfl (hK.2 _ (List.mem_of_getElem? (i := 2) rfl)) (hts (.initialized RX5) (List.mem_of_getElem? (i := 4) rfl)) (by decide +kernel) ⟨Nat.le_of_ble_eq_true rfl, Nat.le_of_ble_eq_true rfl⟩, (hts (.static yX5_cell) (List.mem_of_getElem? (i := 3) rfl)), trivial⟩ (PU_preS hK hP [] rfl) rfl rfl hl.1 rfl (lv_room (Nat.le_of_ble_eq_true rfl)) dX0_joinsTwoParts_7 ⟨(Nat.zero_le _), (Nat.zero_le _)⟩) hS hP (fun H locs hP hS => ?_)
  refine lv_iload_n hx hb dX0_joinsTwoParts_10 rfl (lv_at hl 1 rfl) ?_
  refine lv_aload_n hx hb dX0_joinsTwoParts_11 rfl (lv_at hl 0 rfl) ?_
  refine va_get (D := D) (ci := 0) (v := .ref (ad 4)) (C := RX0) (T := TX0) (N := 9) hx hb hts inX0 hown hK.1 hP 0 rfl rfl 6 (by decide) (hts (.fieldLink RX0 18 "ColourForests$Graph" "secondEnds" "[I") (List.mem_of_getElem? (i := 2) rfl)) (fun _ h9 => h9) rfl dX0_joinsTwoParts_12 ?_
  refine lv_iload_n hx hb dX0_joinsTwoParts_15 rfl (lv_at hl 2 rfl) ?_
  refine rd_i (k := e) (v := (nI (gS g e))) hx hb hK hP 3 rfl (by omega) (by decide) rfl dX0_joinsTwoParts_16 ?_
  refine pu_call (va_runSN (As := [.int (nI (pk f)), .int (nI (gS g e))]) (rest := [.int (nI (f (gF g e)))]) ⟨hx, hb, hml, hown, hts⟩ (c_X5_cell l D cy (f := f) (b8_16 hf) (p9 := gS g e) (by omega)) ⟨va_cnB 2 hts gX0_joinsTwoParts_X5_cell_n58 rfl rfl rfl (hK.2 _ (List.mem_of_getElem? (i := 2) rfl)) (hts (.initialized RX5) (List.mem_of_getElem? (i := 4) rfl)) (by decide +kernel) ⟨Nat.le_of_ble_eq_true rfl, Nat.le_of_ble_eq_true rfl⟩, (hts (.static yX5_cell) (List.mem_of_getElem? (i := 3) rfl)), trivial⟩ (PU_preS hK hP [] rfl) rfl rfl hl.1 rfl (lv_room (Nat.le_of_ble_eq_true rfl)) dX0_joinsTwoParts_17 ⟨(Nat.zero_le _), (Nat.zero_le _)⟩) hS hP (fun H locs hP hS => ?_)
  refine n_eq (a := (f (gF g e))) (b := (f (gS g e))) (tgt := 27) hx hb dX0_joinsTwoParts_20 (by decide) (by omega) (by omega) (fun c20 => ?_) (fun c20 => ?_)
  · refine lv_iconst (v := nI 0) hx hb dX0_joinsTwoParts_27 (by decide) ?_
    exact pu_zret hx hb hr hlocks hS (by first | (rw [decide_eq_true c20]; rfl) | (rw [decide_eq_false (fun q => q c20)]; rfl)) dX0_joinsTwoParts_28
  · refine lv_iconst (v := nI 1) hx hb dX0_joinsTwoParts_23 (by decide) ?_
    refine lv_goto (tgt := 28) hx hb dX0_joinsTwoParts_24 (by decide) ?_
    exact pu_zret hx hb hr hlocks hS (by first | (rw [decide_eq_true c20]; rfl) | (rw [decide_eq_false (fun q => q c20)]; rfl)) dX0_joinsTwoParts_28

set_option maxHeartbeats 4000000 in
set_option maxRecDepth 100000 in
theorem c_X0_hasRoom (l : Launch) (D : va_G) (cy : Nat → ClassId) (ad : Nat → Nat) (ch : Int32) {g : GT} (hg : gOK g) {f : Nat → Nat} (hf : ∀ v, v < 8 → f v < 16) {e : Nat} (he : e < gE g) : PU l yX0_hasRoom wsX0_hasRoom ({ frames := 1, cells := 0, slots := 0, locals := 21 }) D cy [.ref (ad 1), .int (nI (pk f)), .int (nI e)] (wG cy ad ch g) ((bI (decide (0 < f (gH g e))))) := by
  refine Met.ofW (cc := cX0_hasRoom) (maxL := 3) (ret := (some .boolean)) (by decide) rfl ?_
  intro p ev s m args below meth c s₁ B hml hv
  obtain ⟨rfl, hK, hP⟩ := hv
  have hx := B.exec
  have hb := B.bytes
  have hr := B.returns
  have hts := atoms_spec (ws := wsX0_hasRoom) B.pre
  have hown : s.vm.findClass RX0 = some m.cls := findClass_of_methodNamed B.named
  have hlocks := B.notSynchronized
  have hS : va_S (fun _ => False) s.heap s.heap [] := va_S.rf
  have hP : va_P D vwCl (wG cy ad ch g) s.heap := hP
  have inX0 : ∀ w ∈ wsX00, w ∈ wsX0_hasRoom := by decide +kernel
  have hl := lv_entry ([.ref (ad 1), .int (nI (pk f)), .int (nI e)]) (n := 3) (Nat.le_of_ble_eq_true rfl)
  rw [lg_entry_eq]
  generalize (lg_sl ([.ref (ad 1), .int (nI (pk f)), .int (nI e)]) ++ List.replicate (3 - (lg_sl ([.ref (ad 1), .int (nI (pk f)), .int (nI e)])).length) Slot.unset).toArray = ls at hl ⊢
  have hl : lv_has ls 3 [(0, .ref (ad 1)), (1, .int (nI (pk f))), (2, .int (nI e))] := hl
  have hgen := True.intro
  have hE := hg.2.2.1
  have hV := hg.1
  have hC := hg.2.1
  obtain ⟨he1, he2, he3, he4, he5⟩ := hg.2.2.2.2 e he
  have hf1 := hf (gH g e) (by omega)
  refine lv_iload_n hx hb dX0_hasRoom_0 rfl (lv_at hl 1 rfl) ?_
  refine lv_aload_n hx hb dX0_hasRoom_1 rfl (lv_at hl 0 rfl) ?_
  refine va_get (D := D) (ci := 0) (v := .ref (ad 5)) (C := RX0) (T := TX0) (N := 9) hx hb hts inX0 hown hK.1 hP 0 rfl rfl 7 (by decide) (hts (.fieldLink RX0 21 "ColourForests$Graph" "hues" "[I") (List.mem_of_getElem? (i := 1) rfl)) (fun _ h9 => h9) rfl dX0_hasRoom_2 ?_
  refine lv_iload_n hx hb dX0_hasRoom_5 rfl (lv_at hl 2 rfl) ?_
  refine rd_i (k := e) (v := (nI (gH g e))) hx hb hK hP 4 rfl (by omega) (by decide) rfl dX0_hasRoom_6 ?_
  refine pu_call (va_runSN (As := [.int (nI (pk f)), .int (nI (gH g e))]) (rest := []) ⟨hx, hb, hml, hown, hts⟩ (c_X5_cell l D cy (f := f) hf (p9 := gH g e) (by omega)) ⟨va_cnB 2 hts gX0_hasRoom_X5_cell_n58 rfl rfl rfl (hK.2 _ (List.mem_of_getElem? (i := 2) rfl)) (hts (.initialized RX5) (List.mem_of_getElem? (i := 3) rfl)) (by decide +kernel) ⟨Nat.le_of_ble_eq_true rfl, Nat.le_of_ble_eq_true rfl⟩, (hts (.static yX5_cell) (List.mem_of_getElem? (i := 2) rfl)), trivial⟩ (PU_preS hK hP [] rfl) rfl rfl hl.1 rfl (lv_room (Nat.le_of_ble_eq_true rfl)) dX0_hasRoom_7 ⟨(Nat.zero_le _), (Nat.zero_le _)⟩) hS hP (fun H locs hP hS => ?_)
  refine lv_if_le (tgt := 17) hx hb dX0_hasRoom_10 (by decide) (fun c10 => ?_) (fun c10 => ?_)
  · have c10 := (nI_leI (a := f (gH g e)) (b := 0) (by omega) (by omega)).mp (by rw [nI_0]; exact c10)
    have c10 : ¬ 0 < f (gH g e) := by omega
    refine lv_iconst (v := nI 0) hx hb dX0_hasRoom_17 (by decide) ?_
    exact pu_zret hx hb hr hlocks hS (by first | (rw [decide_eq_true c10]; rfl) | (rw [decide_eq_false c10]; rfl)) dX0_hasRoom_18
  · have c10 : 0 < f (gH g e) := Nat.pos_of_ne_zero (fun q => c10 (by rw [q]; decide))
    refine lv_iconst (v := nI 1) hx hb dX0_hasRoom_13 (by decide) ?_
    refine lv_goto (tgt := 18) hx hb dX0_hasRoom_14 (by decide) ?_
    exact pu_zret hx hb hr hlocks hS (by first | (rw [decide_eq_true c10]; rfl) | (rw [decide_eq_false c10]; rfl)) dX0_hasRoom_18

set_option maxHeartbeats 4000000 in
set_option maxRecDepth 100000 in
theorem c_X0_roomAfter (l : Launch) (D : va_G) (cy : Nat → ClassId) (ad : Nat → Nat) (ch : Int32) {g : GT} (hg : gOK g) {f : Nat → Nat} (hf : ∀ v, v < 8 → f v < 16) {e : Nat} (he : e < gE g) (hpos : 0 < f (gH g e)) : PU l yX0_roomAfter wsX0_roomAfter ({ frames := 1, cells := 0, slots := 0, locals := 23 }) D cy [.ref (ad 1), .int (nI (pk f)), .int (nI e)] (wG cy ad ch g) ((nI (pk (upN f (gH g e) (f (gH g e) - 1))))) := by
  refine Met.ofW (cc := cX0_roomAfter) (maxL := 3) (ret := (some .int)) (by decide) rfl ?_
  intro p ev s m args below meth c s₁ B hml hv
  obtain ⟨rfl, hK, hP⟩ := hv
  have hx := B.exec
  have hb := B.bytes
  have hr := B.returns
  have hts := atoms_spec (ws := wsX0_roomAfter) B.pre
  have hown : s.vm.findClass RX0 = some m.cls := findClass_of_methodNamed B.named
  have hlocks := B.notSynchronized
  have hS : va_S (fun _ => False) s.heap s.heap [] := va_S.rf
  have hP : va_P D vwCl (wG cy ad ch g) s.heap := hP
  have inX0 : ∀ w ∈ wsX00, w ∈ wsX0_roomAfter := by decide +kernel
  have hl := lv_entry ([.ref (ad 1), .int (nI (pk f)), .int (nI e)]) (n := 3) (Nat.le_of_ble_eq_true rfl)
  rw [lg_entry_eq]
  generalize (lg_sl ([.ref (ad 1), .int (nI (pk f)), .int (nI e)]) ++ List.replicate (3 - (lg_sl ([.ref (ad 1), .int (nI (pk f)), .int (nI e)])).length) Slot.unset).toArray = ls at hl ⊢
  have hl : lv_has ls 3 [(0, .ref (ad 1)), (1, .int (nI (pk f))), (2, .int (nI e))] := hl
  have hgen := True.intro
  have hE := hg.2.2.1
  have hV := hg.1
  have hC := hg.2.1
  obtain ⟨he1, he2, he3, he4, he5⟩ := hg.2.2.2.2 e he
  have hf1 := hf (gH g e) (by omega)
  refine lv_iload_n hx hb dX0_roomAfter_0 rfl (lv_at hl 1 rfl) ?_
  refine lv_aload_n hx hb dX0_roomAfter_1 rfl (lv_at hl 0 rfl) ?_
  refine va_get (D := D) (ci := 0) (v := .ref (ad 5)) (C := RX0) (T := TX0) (N := 9) hx hb hts inX0 hown hK.1 hP 0 rfl rfl 7 (by decide) (hts (.fieldLink RX0 21 "ColourForests$Graph" "hues" "[I") (List.mem_of_getElem? (i := 1) rfl)) (fun _ h9 => h9) rfl dX0_roomAfter_2 ?_
  refine lv_iload_n hx hb dX0_roomAfter_5 rfl (lv_at hl 2 rfl) ?_
  refine rd_i (k := e) (v := (nI (gH g e))) hx hb hK hP 4 rfl (by omega) (by decide) rfl dX0_roomAfter_6 ?_
  refine lv_iload_n hx hb dX0_roomAfter_7 rfl (lv_at hl 1 rfl) ?_
  refine lv_aload_n hx hb dX0_roomAfter_8 rfl (lv_at hl 0 rfl) ?_
  refine va_get (D := D) (ci := 0) (v := .ref (ad 5)) (C := RX0) (T := TX0) (N := 9) hx hb hts inX0 hown hK.1 hP 0 rfl rfl 7 (by decide) (hts (.fieldLink RX0 21 "ColourForests$Graph" "hues" "[I") (List.mem_of_getElem? (i := 1) rfl)) (fun _ h9 => h9) rfl dX0_roomAfter_9 ?_
  refine lv_iload_n hx hb dX0_roomAfter_12 rfl (lv_at hl 2 rfl) ?_
  refine rd_i (k := e) (v := (nI (gH g e))) hx hb hK hP 4 rfl (by omega) (by decide) rfl dX0_roomAfter_13 ?_
  refine pu_call (va_runSN (As := [.int (nI (pk f)), .int (nI (gH g e))]) (rest := [.int (nI (gH g e)), .int (nI (pk f))]) ⟨hx, hb, hml, hown, hts⟩ (c_X5_cell l D cy (f := f) hf (p9 := gH g e) (by omega)) ⟨va_cnB 2 hts gX0_roomAfter_X5_cell_n58 rfl rfl rfl (hK.2 _ (List.mem_of_getElem? (i := 2) rfl)) (hts (.initialized RX5) (List.mem_of_getElem? (i := 3) rfl)) (by decide +kernel) ⟨Nat.le_of_ble_eq_true rfl, Nat.le_of_ble_eq_true rfl⟩, (hts (.static yX5_cell) (List.mem_of_getElem? (i := 2) rfl)), trivial⟩ (PU_preS hK hP [] rfl) rfl rfl hl.1 rfl (lv_room (Nat.le_of_ble_eq_true rfl)) dX0_roomAfter_14 ⟨(Nat.zero_le _), (Nat.zero_le _)⟩) hS hP (fun H locs hP hS => ?_)
  refine lv_iconst (v := nI 1) hx hb dX0_roomAfter_17 (by decide) ?_
  refine lv_isub hx hb dX0_roomAfter_18 ?_
  refine lv_as (y := (nI ((f (gH g e)) - 1))) (ni_sub (by omega)) ?_
  refine pu_call (va_runSN (As := [.int (nI (pk f)), .int (nI (gH g e)), .int (nI ((f (gH g e)) - 1))]) (rest := []) ⟨hx, hb, hml, hown, hts⟩ (c_X5_withCell l D cy (f := f) hf (p9 := gH g e) (x9 := (f (gH g e)) - 1) (by omega) (by omega)) ⟨va_cnB 3 hts gX0_roomAfter_X5_withCell_n54 rfl rfl rfl (hK.2 _ (List.mem_of_getElem? (i := 1) rfl)) (hts (.initialized RX5) (List.mem_of_getElem? (i := 3) rfl)) (by decide +kernel) ⟨Nat.le_of_ble_eq_true rfl, Nat.le_of_ble_eq_true rfl⟩, (hts (.static yX5_withCell) (List.mem_of_getElem? (i := 5) rfl)), trivial⟩ (PU_preS hK hP [] rfl) rfl rfl hl.1 rfl (lv_room (Nat.le_of_ble_eq_true rfl)) dX0_roomAfter_19 ⟨(Nat.zero_le _), (Nat.zero_le _)⟩) hS hP (fun H locs hP hS => ?_)
  exact pu_iret (y := yX0_roomAfter) hx hb hr hlocks hS (by first | rfl | (simp [bI, *]; done) | (simp_all [bI]; done)) dX0_roomAfter_22

set_option maxHeartbeats 4000000 in
set_option maxRecDepth 100000 in
theorem c_X0_loneParts (l : Launch) (D : va_G) (cy : Nat → ClassId) (ad : Nat → Nat) (ch : Int32) {g : GT} (hg : gOK g) : PU l yX0_loneParts wsX0_loneParts ({ frames := 1, cells := 0, slots := 0, locals := 23 }) D cy [.ref (ad 1)] (wG cy ad ch g) ((nI (pk (lone (gV g))))) := by
  refine Met.ofW (cc := cX0_loneParts) (maxL := 3) (ret := (some .int)) (by decide) rfl ?_
  intro p ev s m args below meth c s₁ B hml hv
  obtain ⟨rfl, hK, hP⟩ := hv
  have hx := B.exec
  have hb := B.bytes
  have hr := B.returns
  have hts := atoms_spec (ws := wsX0_loneParts) B.pre
  have hown : s.vm.findClass RX0 = some m.cls := findClass_of_methodNamed B.named
  have hlocks := B.notSynchronized
  have hS : va_S (fun _ => False) s.heap s.heap [] := va_S.rf
  have hP : va_P D vwCl (wG cy ad ch g) s.heap := hP
  have inX0 : ∀ w ∈ wsX00, w ∈ wsX0_loneParts := by decide +kernel
  have hl := lv_entry ([.ref (ad 1)]) (n := 3) (Nat.le_of_ble_eq_true rfl)
  rw [lg_entry_eq]
  generalize (lg_sl ([.ref (ad 1)]) ++ List.replicate (3 - (lg_sl ([.ref (ad 1)])).length) Slot.unset).toArray = ls at hl ⊢
  have hl : lv_has ls 3 [(0, .ref (ad 1))] := hl
  have hgen := True.intro
  have hE := hg.2.2.1
  have hV := hg.1
  have hC := hg.2.1
  refine lv_iconst (v := nI 0) hx hb dX0_loneParts_0 (by decide) ?_
  refine lv_istore_n (lv' := [(1, .int (nI 0)), (0, .ref (ad 1))]) hx hb dX0_loneParts_1 rfl hl (by decide) rfl (fun ls hl => ?_)
  refine lv_iconst (v := nI 0) hx hb dX0_loneParts_2 (by decide) ?_
  refine lv_istore_n (lv' := [(2, .int (nI 0)), (1, .int (nI 0)), (0, .ref (ad 1))]) hx hb dX0_loneParts_3 rfl hl (by decide) rfl (fun ls hl => ?_)
  have L4 : ∀ (n : Nat) (v : Nat), v ≤ gV g ∧ gV g + 1 ≤ v + n → ∀ (H : Heap) (locs : List Loc), va_P D vwCl (wG cy ad ch g) H → va_S (fun _ => False) s.heap H locs → ∀ (ls : Array Slot), lv_has ls 3 [(0, .ref (ad 1)), (1, .int (nI (pk (mixN v (fun v => v) (fun _ => 0))))), (2, .int (nI v))] → W p l ev (headSpec wsX0_loneParts ({ frames := 1, cells := 0, slots := 0, locals := 23 })).room s m [.ref (ad 1)].toArray below meth c H locs 0 0 (MQ below (va_Qi (fun (x : Int32) (_ : Unit) => x = (nI (pk (lone (gV g))))) (fun _ _ => True) (fun _ => False)) [.ref (ad 1)].toArray s 0 0 (fun _ => False)) (F0 m 4 ls []) := by
    intro n
    induction n with
    | zero =>
      intro v hfuel  H locs hP hS ls hl
      exact absurd hfuel.2 (by have := hfuel.1; omega)
    | succ n ih4 =>
      intro v hfuel  H locs hP hS ls hl
      obtain ⟨hfu1, hfu2⟩ := hfuel
      have hm : ∀ u, u < 8 → mixN v (fun v => v) (fun _ => 0) u < 16 := mixN_lt (fun v hv => by omega) (fun v hv => by omega)
      refine lv_iload_n hx hb dX0_loneParts_4 rfl (lv_at hl 2 rfl) ?_
      refine lv_aload_n hx hb dX0_loneParts_5 rfl (lv_at hl 0 rfl) ?_
      refine va_get (D := D) (ci := 0) (v := .int (nI (gV g))) (C := RX0) (T := TX0) (N := 9) hx hb hts inX0 hown hK.1 hP 0 rfl rfl 0 (by decide) (hts (.fieldLink RX0 27 "ColourForests$Graph" "vertices" "I") (List.mem_of_getElem? (i := 1) rfl)) (fun _ h9 => h9) rfl dX0_loneParts_6 ?_
      refine n_ge (a := v) (b := (gV g)) (tgt := 25) hx hb dX0_loneParts_9 (by decide) (by omega) (by omega) (fun c9 => ?_) (fun c9 => ?_)
      · refine lv_iload_n hx hb dX0_loneParts_25 rfl (lv_at hl 1 rfl) ?_
        exact pu_iret (y := yX0_loneParts) hx hb hr hlocks hS (by rw [show v = gV g by omega, mixN_lone]) dX0_loneParts_26
      · refine lv_iload_n hx hb dX0_loneParts_12 rfl (lv_at hl 1 rfl) ?_
        refine lv_iload_n hx hb dX0_loneParts_13 rfl (lv_at hl 2 rfl) ?_
        refine lv_iload_n hx hb dX0_loneParts_14 rfl (lv_at hl 2 rfl) ?_
        refine pu_call (va_runSN (As := [.int (nI (pk (mixN v (fun v => v) (fun _ => 0)))), .int (nI v), .int (nI v)]) (rest := []) ⟨hx, hb, hml, hown, hts⟩ (c_X5_withCell l D cy (f := mixN v (fun v => v) (fun _ => 0)) hm (p9 := v) (x9 := v) (by omega) (by omega)) ⟨va_cnB 3 hts gX0_loneParts_X5_withCell_n54 rfl rfl rfl (hK.2 _ (List.mem_of_getElem? (i := 1) rfl)) (hts (.initialized RX5) (List.mem_of_getElem? (i := 3) rfl)) (by decide +kernel) ⟨Nat.le_of_ble_eq_true rfl, Nat.le_of_ble_eq_true rfl⟩, (hts (.static yX5_withCell) (List.mem_of_getElem? (i := 2) rfl)), trivial⟩ (PU_preS hK hP [] rfl) rfl rfl hl.1 rfl (lv_room (Nat.le_of_ble_eq_true rfl)) dX0_loneParts_15 ⟨(Nat.zero_le _), (Nat.zero_le _)⟩) hS hP (fun H locs hP hS => ?_)
        refine lv_istore_n (lv' := [(1, .int (nI (pk (upN (mixN v (fun v => v) (fun _ => 0)) v v)))), (0, .ref (ad 1)), (2, .int (nI v))]) hx hb dX0_loneParts_18 rfl hl (by decide) rfl (fun ls hl => ?_)
        refine lv_iinc (v := (nI (v + 1))) (lv' := [(2, .int (nI (v + 1))), (1, .int (nI (pk (upN (mixN v (fun v => v) (fun _ => 0)) v v)))), (0, .ref (ad 1))]) hx hb dX0_loneParts_19 hl (k := 2) rfl (ni_inc _) (by decide) rfl (fun ls hl => ?_)
        refine lv_goto (tgt := 4) hx hb dX0_loneParts_22 (by decide) ?_
        exact ih4 (v + 1) ⟨by omega, by omega⟩  _ _ hP hS _ (by rw [mixN_s]; exact lv_sub hl [2, 1, 0] rfl)
  exact L4 (gV g + 1) 0 ⟨by omega, by omega⟩  _ _ hP hS _ (by rw [mixN_0, pk_0]; exact lv_sub hl [2, 1, 0] rfl)

set_option maxHeartbeats 4000000 in
set_option maxRecDepth 100000 in
theorem c_X0_fullRoom (l : Launch) (D : va_G) (cy : Nat → ClassId) (ad : Nat → Nat) (ch : Int32) {g : GT} (hg : gOK g) : PU l yX0_fullRoom wsX0_fullRoom ({ frames := 1, cells := 0, slots := 0, locals := 23 }) D cy [.ref (ad 1)] (wG cy ad ch g) ((nI (pk (fulR g)))) := by
  refine Met.ofW (cc := cX0_fullRoom) (maxL := 3) (ret := (some .int)) (by decide) rfl ?_
  intro p ev s m args below meth c s₁ B hml hv
  obtain ⟨rfl, hK, hP⟩ := hv
  have hx := B.exec
  have hb := B.bytes
  have hr := B.returns
  have hts := atoms_spec (ws := wsX0_fullRoom) B.pre
  have hown : s.vm.findClass RX0 = some m.cls := findClass_of_methodNamed B.named
  have hlocks := B.notSynchronized
  have hS : va_S (fun _ => False) s.heap s.heap [] := va_S.rf
  have hP : va_P D vwCl (wG cy ad ch g) s.heap := hP
  have inX0 : ∀ w ∈ wsX00, w ∈ wsX0_fullRoom := by decide +kernel
  have hl := lv_entry ([.ref (ad 1)]) (n := 3) (Nat.le_of_ble_eq_true rfl)
  rw [lg_entry_eq]
  generalize (lg_sl ([.ref (ad 1)]) ++ List.replicate (3 - (lg_sl ([.ref (ad 1)])).length) Slot.unset).toArray = ls at hl ⊢
  have hl : lv_has ls 3 [(0, .ref (ad 1))] := hl
  have hgen := True.intro
  have hE := hg.2.2.1
  have hV := hg.1
  have hC := hg.2.1
  have hLim := hg.2.2.2.1
  refine lv_iconst (v := nI 0) hx hb dX0_fullRoom_0 (by decide) ?_
  refine lv_istore_n (lv' := [(1, .int (nI 0)), (0, .ref (ad 1))]) hx hb dX0_fullRoom_1 rfl hl (by decide) rfl (fun ls hl => ?_)
  refine lv_iconst (v := nI 0) hx hb dX0_fullRoom_2 (by decide) ?_
  refine lv_istore_n (lv' := [(2, .int (nI 0)), (1, .int (nI 0)), (0, .ref (ad 1))]) hx hb dX0_fullRoom_3 rfl hl (by decide) rfl (fun ls hl => ?_)
  have L4 : ∀ (n : Nat) (v : Nat), v ≤ gC g ∧ gC g + 1 ≤ v + n → ∀ (H : Heap) (locs : List Loc), va_P D vwCl (wG cy ad ch g) H → va_S (fun _ => False) s.heap H locs → ∀ (ls : Array Slot), lv_has ls 3 [(0, .ref (ad 1)), (1, .int (nI (pk (mixN v (gL g) (fun _ => 0))))), (2, .int (nI v))] → W p l ev (headSpec wsX0_fullRoom ({ frames := 1, cells := 0, slots := 0, locals := 23 })).room s m [.ref (ad 1)].toArray below meth c H locs 0 0 (MQ below (va_Qi (fun (x : Int32) (_ : Unit) => x = (nI (pk (fulR g)))) (fun _ _ => True) (fun _ => False)) [.ref (ad 1)].toArray s 0 0 (fun _ => False)) (F0 m 4 ls []) := by
    intro n
    induction n with
    | zero =>
      intro v hfuel  H locs hP hS ls hl
      exact absurd hfuel.2 (by have := hfuel.1; omega)
    | succ n ih4 =>
      intro v hfuel  H locs hP hS ls hl
      obtain ⟨hfu1, hfu2⟩ := hfuel
      have hm : ∀ u, u < 8 → mixN v (gL g) (fun _ => 0) u < 16 := mixN_lt (fun v hv => by have := hLim v; omega) (fun v hv => by omega)
      have hlv := hLim v
      refine lv_iload_n hx hb dX0_fullRoom_4 rfl (lv_at hl 2 rfl) ?_
      refine lv_aload_n hx hb dX0_fullRoom_5 rfl (lv_at hl 0 rfl) ?_
      refine va_get (D := D) (ci := 0) (v := .int (nI (gC g))) (C := RX0) (T := TX0) (N := 9) hx hb hts inX0 hown hK.1 hP 0 rfl rfl 1 (by decide) (hts (.fieldLink RX0 31 "ColourForests$Graph" "colours" "I") (List.mem_of_getElem? (i := 1) rfl)) (fun _ h9 => h9) rfl dX0_fullRoom_6 ?_
      refine n_ge (a := v) (b := (gC g)) (tgt := 30) hx hb dX0_fullRoom_9 (by decide) (by omega) (by omega) (fun c9 => ?_) (fun c9 => ?_)
      · refine lv_iload_n hx hb dX0_fullRoom_30 rfl (lv_at hl 1 rfl) ?_
        exact pu_iret (y := yX0_fullRoom) hx hb hr hlocks hS (by rw [show v = gC g by omega, mixN_room]) dX0_fullRoom_31
      · refine lv_iload_n hx hb dX0_fullRoom_12 rfl (lv_at hl 1 rfl) ?_
        refine lv_iload_n hx hb dX0_fullRoom_13 rfl (lv_at hl 2 rfl) ?_
        refine lv_aload_n hx hb dX0_fullRoom_14 rfl (lv_at hl 0 rfl) ?_
        refine va_get (D := D) (ci := 0) (v := .ref (ad 2)) (C := RX0) (T := TX0) (N := 9) hx hb hts inX0 hown hK.1 hP 0 rfl rfl 4 (by decide) (hts (.fieldLink RX0 9 "ColourForests$Graph" "limits" "[I") (List.mem_of_getElem? (i := 2) rfl)) (fun _ h9 => h9) rfl dX0_fullRoom_15 ?_
        refine lv_iload_n hx hb dX0_fullRoom_18 rfl (lv_at hl 2 rfl) ?_
        refine rd_i (k := v) (v := (nI (gL g v))) hx hb hK hP 1 rfl (by omega) (by decide) rfl dX0_fullRoom_19 ?_
        refine pu_call (va_runSN (As := [.int (nI (pk (mixN v (gL g) (fun _ => 0)))), .int (nI v), .int (nI (gL g v))]) (rest := []) ⟨hx, hb, hml, hown, hts⟩ (c_X5_withCell l D cy (f := mixN v (gL g) (fun _ => 0)) hm (p9 := v) (x9 := gL g v) (by omega) (by omega)) ⟨va_cnB 3 hts gX0_fullRoom_X5_withCell_n54 rfl rfl rfl (hK.2 _ (List.mem_of_getElem? (i := 1) rfl)) (hts (.initialized RX5) (List.mem_of_getElem? (i := 4) rfl)) (by decide +kernel) ⟨Nat.le_of_ble_eq_true rfl, Nat.le_of_ble_eq_true rfl⟩, (hts (.static yX5_withCell) (List.mem_of_getElem? (i := 3) rfl)), trivial⟩ (PU_preS hK hP [] rfl) rfl rfl hl.1 rfl (lv_room (Nat.le_of_ble_eq_true rfl)) dX0_fullRoom_20 ⟨(Nat.zero_le _), (Nat.zero_le _)⟩) hS hP (fun H locs hP hS => ?_)
        refine lv_istore_n (lv' := [(1, .int (nI (pk (upN (mixN v (gL g) (fun _ => 0)) v (gL g v))))), (0, .ref (ad 1)), (2, .int (nI v))]) hx hb dX0_fullRoom_23 rfl hl (by decide) rfl (fun ls hl => ?_)
        refine lv_iinc (v := (nI (v + 1))) (lv' := [(2, .int (nI (v + 1))), (1, .int (nI (pk (upN (mixN v (gL g) (fun _ => 0)) v (gL g v))))), (0, .ref (ad 1))]) hx hb dX0_fullRoom_24 hl (k := 2) rfl (ni_inc _) (by decide) rfl (fun ls hl => ?_)
        refine lv_goto (tgt := 4) hx hb dX0_fullRoom_27 (by decide) ?_
        exact ih4 (v + 1) ⟨by omega, by omega⟩  _ _ hP hS _ (by rw [mixN_s]; exact lv_sub hl [2, 1, 0] rfl)
  exact L4 (gC g + 1) 0 ⟨by omega, by omega⟩  _ _ hP hS _ (by rw [mixN_0, pk_0]; exact lv_sub hl [2, 1, 0] rfl)

set_option maxHeartbeats 4000000 in
set_option maxRecDepth 100000 in
theorem c_X0_partsJoinedBy (l : Launch) (D : va_G) (cy : Nat → ClassId) (ad : Nat → Nat) (ch : Int32) {g : GT} (hg : gOK g) {f : Nat → Nat} (hf : ∀ v, v < 8 → f v < 8) {e : Nat} (he : e < gE g) : PU l yX0_partsJoinedBy wsX0_partsJoinedBy ({ frames := 1, cells := 0, slots := 0, locals := 23 }) D cy [.ref (ad 1), .int (nI (pk f)), .int (nI e)] (wG cy ad ch g) ((nI (pk (jn (gV g) f (f (gF g e)) (f (gS g e)))))) := by
  refine Met.ofW (cc := cX0_partsJoinedBy) (maxL := 7) (ret := (some .int)) (by decide) rfl ?_
  intro p ev s m args below meth c s₁ B hml hv
  obtain ⟨rfl, hK, hP⟩ := hv
  have hx := B.exec
  have hb := B.bytes
  have hr := B.returns
  have hts := atoms_spec (ws := wsX0_partsJoinedBy) B.pre
  have hown : s.vm.findClass RX0 = some m.cls := findClass_of_methodNamed B.named
  have hlocks := B.notSynchronized
  have hS : va_S (fun _ => False) s.heap s.heap [] := va_S.rf
  have hP : va_P D vwCl (wG cy ad ch g) s.heap := hP
  have inX0 : ∀ w ∈ wsX00, w ∈ wsX0_partsJoinedBy := by decide +kernel
  have hl := lv_entry ([.ref (ad 1), .int (nI (pk f)), .int (nI e)]) (n := 7) (Nat.le_of_ble_eq_true rfl)
  rw [lg_entry_eq]
  generalize (lg_sl ([.ref (ad 1), .int (nI (pk f)), .int (nI e)]) ++ List.replicate (7 - (lg_sl ([.ref (ad 1), .int (nI (pk f)), .int (nI e)])).length) Slot.unset).toArray = ls at hl ⊢
  have hl : lv_has ls 7 [(0, .ref (ad 1)), (1, .int (nI (pk f))), (2, .int (nI e))] := hl
  have hgen := True.intro
  have hE := hg.2.2.1
  have hV := hg.1
  have hC := hg.2.1
  obtain ⟨he1, he2, he3, he4, he5⟩ := hg.2.2.2.2 e he
  have hf1 := hf (gF g e) (by omega)
  have hf2 := hf (gS g e) (by omega)
  refine lv_iload_n hx hb dX0_partsJoinedBy_0 rfl (lv_at hl 1 rfl) ?_
  refine lv_aload_n hx hb dX0_partsJoinedBy_1 rfl (lv_at hl 0 rfl) ?_
  refine va_get (D := D) (ci := 0) (v := .ref (ad 3)) (C := RX0) (T := TX0) (N := 9) hx hb hts inX0 hown hK.1 hP 0 rfl rfl 5 (by decide) (hts (.fieldLink RX0 15 "ColourForests$Graph" "firstEnds" "[I") (List.mem_of_getElem? (i := 1) rfl)) (fun _ h9 => h9) rfl dX0_partsJoinedBy_2 ?_
  refine lv_iload_n hx hb dX0_partsJoinedBy_5 rfl (lv_at hl 2 rfl) ?_
  refine rd_i (k := e) (v := (nI (gF g e))) hx hb hK hP 2 rfl (by omega) (by decide) rfl dX0_partsJoinedBy_6 ?_
  refine pu_call (va_runSN (As := [.int (nI (pk f)), .int (nI (gF g e))]) (rest := []) ⟨hx, hb, hml, hown, hts⟩ (c_X5_cell l D cy (f := f) (b8_16 hf) (p9 := gF g e) (by omega)) ⟨va_cnB 2 hts gX0_partsJoinedBy_X5_cell_n58 rfl rfl rfl (hK.2 _ (List.mem_of_getElem? (i := 2) rfl)) (hts (.initialized RX5) (List.mem_of_getElem? (i := 5) rfl)) (by decide +kernel) ⟨Nat.le_of_ble_eq_true rfl, Nat.le_of_ble_eq_true rfl⟩, (hts (.static yX5_cell) (List.mem_of_getElem? (i := 4) rfl)), trivial⟩ (PU_preS hK hP [] rfl) rfl rfl hl.1 rfl (lv_room (Nat.le_of_ble_eq_true rfl)) dX0_partsJoinedBy_7 ⟨(Nat.zero_le _), (Nat.zero_le _)⟩) hS hP (fun H locs hP hS => ?_)
  refine lv_istore_n (lv' := [(3, .int (nI (f (gF g e)))), (0, .ref (ad 1)), (1, .int (nI (pk f))), (2, .int (nI e))]) hx hb dX0_partsJoinedBy_10 rfl hl (by decide) rfl (fun ls hl => ?_)
  refine lv_iload_n hx hb dX0_partsJoinedBy_11 rfl (lv_at hl 2 rfl) ?_
  refine lv_aload_n hx hb dX0_partsJoinedBy_12 rfl (lv_at hl 1 rfl) ?_
  refine va_get (D := D) (ci := 0) (v := .ref (ad 4)) (C := RX0) (T := TX0) (N := 9) hx hb hts inX0 hown hK.1 hP 0 rfl rfl 6 (by decide) (hts (.fieldLink RX0 18 "ColourForests$Graph" "secondEnds" "[I") (List.mem_of_getElem? (i := 2) rfl)) (fun _ h9 => h9) rfl dX0_partsJoinedBy_13 ?_
  refine lv_iload_n hx hb dX0_partsJoinedBy_16 rfl (lv_at hl 3 rfl) ?_
  refine rd_i (k := e) (v := (nI (gS g e))) hx hb hK hP 3 rfl (by omega) (by decide) rfl dX0_partsJoinedBy_17 ?_
  refine pu_call (va_runSN (As := [.int (nI (pk f)), .int (nI (gS g e))]) (rest := []) ⟨hx, hb, hml, hown, hts⟩ (c_X5_cell l D cy (f := f) (b8_16 hf) (p9 := gS g e) (by omega)) ⟨va_cnB 2 hts gX0_partsJoinedBy_X5_cell_n58 rfl rfl rfl (hK.2 _ (List.mem_of_getElem? (i := 2) rfl)) (hts (.initialized RX5) (List.mem_of_getElem? (i := 5) rfl)) (by decide +kernel) ⟨Nat.le_of_ble_eq_true rfl, Nat.le_of_ble_eq_true rfl⟩, (hts (.static yX5_cell) (List.mem_of_getElem? (i := 4) rfl)), trivial⟩ (PU_preS hK hP [] rfl) rfl rfl hl.1 rfl (lv_room (Nat.le_of_ble_eq_true rfl)) dX0_partsJoinedBy_18 ⟨(Nat.zero_le _), (Nat.zero_le _)⟩) hS hP (fun H locs hP hS => ?_)
  refine lv_istore (lv' := [(4, .int (nI (f (gS g e)))), (3, .int (nI (f (gF g e)))), (0, .ref (ad 1)), (1, .int (nI (pk f))), (2, .int (nI e))]) hx hb dX0_partsJoinedBy_21 hl (by decide) rfl (fun ls hl => ?_)
  refine lv_iload_n hx hb dX0_partsJoinedBy_23 rfl (lv_at hl 3 rfl) ?_
  refine lv_istore (lv' := [(5, .int (nI (pk f))), (4, .int (nI (f (gS g e)))), (3, .int (nI (f (gF g e)))), (0, .ref (ad 1)), (1, .int (nI (pk f))), (2, .int (nI e))]) hx hb dX0_partsJoinedBy_24 hl (by decide) rfl (fun ls hl => ?_)
  refine lv_iconst (v := nI 0) hx hb dX0_partsJoinedBy_26 (by decide) ?_
  refine lv_istore (lv' := [(6, .int (nI 0)), (5, .int (nI (pk f))), (4, .int (nI (f (gS g e)))), (3, .int (nI (f (gF g e)))), (0, .ref (ad 1)), (1, .int (nI (pk f))), (2, .int (nI e))]) hx hb dX0_partsJoinedBy_27 hl (by decide) rfl (fun ls hl => ?_)
  have L29 : ∀ (n : Nat) (v : Nat), v ≤ gV g ∧ gV g + 1 ≤ v + n → ∀ (H : Heap) (locs : List Loc), va_P D vwCl (wG cy ad ch g) H → va_S (fun _ => False) s.heap H locs → ∀ (ls : Array Slot), lv_has ls 7 [(0, .ref (ad 1)), (1, .int (nI (pk f))), (3, .int (nI (f (gF g e)))), (4, .int (nI (f (gS g e)))), (5, .int (nI (pk (mixN v (fun v => if f v = f (gS g e) then f (gF g e) else f v) f)))), (6, .int (nI v))] → W p l ev (headSpec wsX0_partsJoinedBy ({ frames := 1, cells := 0, slots := 0, locals := 23 })).room s m [.ref (ad 1), .int (nI (pk f)), .int (nI e)].toArray below meth c H locs 0 0 (MQ below (va_Qi (fun (x : Int32) (_ : Unit) => x = (nI (pk (jn (gV g) f (f (gF g e)) (f (gS g e)))))) (fun _ _ => True) (fun _ => False)) [.ref (ad 1), .int (nI (pk f)), .int (nI e)].toArray s 0 0 (fun _ => False)) (F0 m 29 ls []) := by
    intro n
    induction n with
    | zero =>
      intro v hfuel  H locs hP hS ls hl
      exact absurd hfuel.2 (by have := hfuel.1; omega)
    | succ n ih29 =>
      intro v hfuel  H locs hP hS ls hl
      obtain ⟨hfu1, hfu2⟩ := hfuel
      have hm : ∀ u, u < 8 → mixN v (fun v => if f v = f (gS g e) then f (gF g e) else f v) f u < 16 := mixN_lt (fun v hv => by have := hf v hv; show (if _ then _ else _) < _; split <;> omega) (b8_16 hf)
      refine lv_iload hx hb dX0_partsJoinedBy_29 (lv_at hl 5 rfl) ?_
      refine lv_aload_n hx hb dX0_partsJoinedBy_31 rfl (lv_at hl 0 rfl) ?_
      refine va_get (D := D) (ci := 0) (v := .int (nI (gV g))) (C := RX0) (T := TX0) (N := 9) hx hb hts inX0 hown hK.1 hP 0 rfl rfl 0 (by decide) (hts (.fieldLink RX0 27 "ColourForests$Graph" "vertices" "I") (List.mem_of_getElem? (i := 3) rfl)) (fun _ h9 => h9) rfl dX0_partsJoinedBy_32 ?_
      refine n_ge (a := v) (b := (gV g)) (tgt := 65) hx hb dX0_partsJoinedBy_35 (by decide) (by omega) (by omega) (fun c35 => ?_) (fun c35 => ?_)
      · refine lv_iload hx hb dX0_partsJoinedBy_65 (lv_at hl 4 rfl) ?_
        exact pu_iret (y := yX0_partsJoinedBy) hx hb hr hlocks hS (by rw [show v = gV g by omega, mixN_jn]) dX0_partsJoinedBy_67
      · have hfv := hf v (by omega)
        refine lv_iload_n hx hb dX0_partsJoinedBy_38 rfl (lv_at hl 1 rfl) ?_
        refine lv_iload hx hb dX0_partsJoinedBy_39 (lv_at hl 5 rfl) ?_
        refine pu_call (va_runSN (As := [.int (nI (pk f)), .int (nI v)]) (rest := []) ⟨hx, hb, hml, hown, hts⟩ (c_X5_cell l D cy (f := f) (b8_16 hf) (p9 := v) (by omega)) ⟨va_cnB 2 hts gX0_partsJoinedBy_X5_cell_n58 rfl rfl rfl (hK.2 _ (List.mem_of_getElem? (i := 2) rfl)) (hts (.initialized RX5) (List.mem_of_getElem? (i := 5) rfl)) (by decide +kernel) ⟨Nat.le_of_ble_eq_true rfl, Nat.le_of_ble_eq_true rfl⟩, (hts (.static yX5_cell) (List.mem_of_getElem? (i := 4) rfl)), trivial⟩ (PU_preS hK hP [] rfl) rfl rfl hl.1 rfl (lv_room (Nat.le_of_ble_eq_true rfl)) dX0_partsJoinedBy_41 ⟨(Nat.zero_le _), (Nat.zero_le _)⟩) hS hP (fun H locs hP hS => ?_)
        refine lv_iload hx hb dX0_partsJoinedBy_44 (lv_at hl 3 rfl) ?_
        refine n_ne (a := (f v)) (b := (f (gS g e))) (tgt := 59) hx hb dX0_partsJoinedBy_46 (by decide) (by omega) (by omega) (fun c46 => ?_) (fun c46 => ?_)
        · refine lv_iinc (v := (nI (v + 1))) (lv' := [(6, .int (nI (v + 1))), (0, .ref (ad 1)), (1, .int (nI (pk f))), (3, .int (nI (f (gF g e)))), (4, .int (nI (f (gS g e)))), (5, .int (nI (pk (mixN v (fun v => if f v = f (gS g e) then f (gF g e) else f v) f))))]) hx hb dX0_partsJoinedBy_59 hl (k := 5) rfl (ni_inc _) (by decide) rfl (fun ls hl => ?_)
          refine lv_goto (tgt := 29) hx hb dX0_partsJoinedBy_62 (by decide) ?_
          exact ih29 (v + 1) ⟨by omega, by omega⟩  _ _ hP hS _ (by first | (rw [mixN_s, if_pos c46]; exact lv_sub hl [1, 2, 3, 4, 5, 0] rfl) | (rw [mixN_s]; show lv_has _ _ [_, _, _, _, (5, .int (nI (pk (upN _ v (if f v = f (gS g e) then f (gF g e) else f v))))), _]; rw [if_pos c46]; exact lv_sub hl [1, 2, 3, 4, 5, 0] rfl) | (rw [mixN_i (by rw [mixN_at (Nat.le_refl v)]; exact if_neg c46)]; exact lv_sub hl [1, 2, 3, 4, 5, 0] rfl))
        · refine lv_iload hx hb dX0_partsJoinedBy_49 (lv_at hl 4 rfl) ?_
          refine lv_iload hx hb dX0_partsJoinedBy_51 (lv_at hl 5 rfl) ?_
          refine lv_iload_n hx hb dX0_partsJoinedBy_53 rfl (lv_at hl 2 rfl) ?_
          refine pu_call (va_runSN (As := [.int (nI (pk (mixN v (fun v => if f v = f (gS g e) then f (gF g e) else f v) f))), .int (nI v), .int (nI (f (gF g e)))]) (rest := []) ⟨hx, hb, hml, hown, hts⟩ (c_X5_withCell l D cy (f := mixN v (fun v => if f v = f (gS g e) then f (gF g e) else f v) f) hm (p9 := v) (x9 := f (gF g e)) (by omega) (by omega)) ⟨va_cnB 3 hts gX0_partsJoinedBy_X5_withCell_n54 rfl rfl rfl (hK.2 _ (List.mem_of_getElem? (i := 1) rfl)) (hts (.initialized RX5) (List.mem_of_getElem? (i := 5) rfl)) (by decide +kernel) ⟨Nat.le_of_ble_eq_true rfl, Nat.le_of_ble_eq_true rfl⟩, (hts (.static yX5_withCell) (List.mem_of_getElem? (i := 7) rfl)), trivial⟩ (PU_preS hK hP [] rfl) rfl rfl hl.1 rfl (lv_room (Nat.le_of_ble_eq_true rfl)) dX0_partsJoinedBy_54 ⟨(Nat.zero_le _), (Nat.zero_le _)⟩) hS hP (fun H locs hP hS => ?_)
          refine lv_istore (lv' := [(5, .int (nI (pk (upN (mixN v (fun v => if f v = f (gS g e) then f (gF g e) else f v) f) v (f (gF g e)))))), (0, .ref (ad 1)), (1, .int (nI (pk f))), (3, .int (nI (f (gF g e)))), (4, .int (nI (f (gS g e)))), (6, .int (nI v))]) hx hb dX0_partsJoinedBy_57 hl (by decide) rfl (fun ls hl => ?_)
          refine lv_iinc (v := (nI (v + 1))) (lv' := [(6, .int (nI (v + 1))), (5, .int (nI (pk (upN (mixN v (fun v => if f v = f (gS g e) then f (gF g e) else f v) f) v (f (gF g e)))))), (0, .ref (ad 1)), (1, .int (nI (pk f))), (3, .int (nI (f (gF g e)))), (4, .int (nI (f (gS g e))))]) hx hb dX0_partsJoinedBy_59 hl (k := 5) rfl (ni_inc _) (by decide) rfl (fun ls hl => ?_)
          refine lv_goto (tgt := 29) hx hb dX0_partsJoinedBy_62 (by decide) ?_
          exact ih29 (v + 1) ⟨by omega, by omega⟩  _ _ hP hS _ (by first | (rw [mixN_s, if_pos c46]; exact lv_sub hl [2, 3, 4, 5, 1, 0] rfl) | (rw [mixN_s]; show lv_has _ _ [_, _, _, _, (5, .int (nI (pk (upN _ v (if f v = f (gS g e) then f (gF g e) else f v))))), _]; rw [if_pos c46]; exact lv_sub hl [2, 3, 4, 5, 1, 0] rfl) | (rw [mixN_i (by rw [mixN_at (Nat.le_refl v)]; exact if_neg c46)]; exact lv_sub hl [2, 3, 4, 5, 1, 0] rfl))
  exact L29 (gV g + 1) 0 ⟨by omega, by omega⟩  _ _ hP hS _ (by rw [mixN_0]; exact lv_sub hl [4, 5, 3, 2, 1, 0] rfl)

set_option maxHeartbeats 4000000 in
set_option maxRecDepth 100000 in
theorem c_X3_rankOf (l : Launch) (D : va_G) (cy : Nat → ClassId) (ad : Nat → Nat) (ch : Int32) {g : GT} (hg : gOK g) {S : Nat} (hS9 : S < 2 ^ gE g) : PU l yX3_rankOf wsX3_rankOf ({ frames := 2, cells := 0, slots := 0, locals := 49 }) D cy [.ref (ad 7), .int (nI S)] (wK3 cy ad ch g) ((nI (cntA g S (gE g)))) := by
  refine Met.ofW (cc := cX3_rankOf) (maxL := 5) (ret := (some .int)) (by decide) rfl ?_
  intro p ev s m args below meth c s₁ B hml hv
  obtain ⟨rfl, hK, hP⟩ := hv
  have hx := B.exec
  have hb := B.bytes
  have hr := B.returns
  have hts := atoms_spec (ws := wsX3_rankOf) B.pre
  have hown : s.vm.findClass RX3 = some m.cls := findClass_of_methodNamed B.named
  have hlocks := B.notSynchronized
  have hS : va_S (fun _ => False) s.heap s.heap [] := va_S.rf
  have hP : va_P D vwCl (wK3 cy ad ch g) s.heap := hP
  have inX0 : ∀ w ∈ wsX00, w ∈ wsX3_rankOf := by decide +kernel
  have inX3 : ∀ w ∈ wsX30, w ∈ wsX3_rankOf := by decide +kernel
  have hl := lv_entry ([.ref (ad 7), .int (nI S)]) (n := 5) (Nat.le_of_ble_eq_true rfl)
  rw [lg_entry_eq]
  generalize (lg_sl ([.ref (ad 7), .int (nI S)]) ++ List.replicate (5 - (lg_sl ([.ref (ad 7), .int (nI S)])).length) Slot.unset).toArray = ls at hl ⊢
  have hl : lv_has ls 5 [(0, .ref (ad 7)), (1, .int (nI S))] := hl
  have hgen := True.intro
  have hE := hg.2.2.1
  have hV := hg.1
  have hC := hg.2.1
  have hS8 : 2 ^ gE g ≤ 2 ^ 14 := Nat.pow_le_pow_right (by decide) hE
  refine lv_aload_n hx hb dX3_rankOf_0 rfl (lv_at hl 0 rfl) ?_
  refine va_get (D := D) (ci := 2) (v := .ref (ad 1)) (C := RX3) (T := TX3) (N := 1) hx hb hts inX3 hown hK.1 hP 0 rfl rfl 0 (by decide) (hts (.fieldLink RX3 7 "ColourForests$RinglessKind" "graph" "LColourForests$Graph;") (List.mem_of_getElem? (i := 1) rfl)) (u_same (hts (.sameField "ColourForests$RinglessKind" "ColourForests$Kind" "graph" "LColourForests$Graph;") (List.mem_of_getElem? (i := 2) rfl))) rfl dX3_rankOf_1 ?_
  refine pu_call (va_runV (As := []) (rest := []) ⟨hx, hb, hml, hown, hts⟩ (c_X0_loneParts l D cy ad ch hg) (cwV 0 hts gX3_rankOf_X0_loneParts rfl rfl rfl (by decide +kernel) ⟨Nat.le_of_ble_eq_true rfl, Nat.le_of_ble_eq_true rfl⟩) (PU_preV (ci := 0) (q0 := 1) hK hP 0 rfl rfl [1, 2, 3, 4, 5, 6] rfl) rfl rfl hl.1 rfl (lv_room (Nat.le_of_ble_eq_true rfl)) dX3_rankOf_4 ⟨(Nat.zero_le _), (Nat.zero_le _)⟩) hS hP (fun H locs hP hS => ?_)
  refine lv_istore_n (lv' := [(2, .int (nI (pk (lone (gV g))))), (0, .ref (ad 7)), (1, .int (nI S))]) hx hb dX3_rankOf_7 rfl hl (by decide) rfl (fun ls hl => ?_)
  refine lv_iconst (v := nI 0) hx hb dX3_rankOf_8 (by decide) ?_
  refine lv_istore_n (lv' := [(3, .int (nI 0)), (2, .int (nI (pk (lone (gV g))))), (0, .ref (ad 7)), (1, .int (nI S))]) hx hb dX3_rankOf_9 rfl hl (by decide) rfl (fun ls hl => ?_)
  refine lv_iconst (v := nI 0) hx hb dX3_rankOf_10 (by decide) ?_
  refine lv_istore (lv' := [(4, .int (nI 0)), (3, .int (nI 0)), (2, .int (nI (pk (lone (gV g))))), (0, .ref (ad 7)), (1, .int (nI S))]) hx hb dX3_rankOf_11 hl (by decide) rfl (fun ls hl => ?_)
  have L13 : ∀ (n : Nat) (e : Nat), e ≤ gE g ∧ gE g + 1 ≤ e + n → ∀ (H : Heap) (locs : List Loc), va_P D vwCl (wK3 cy ad ch g) H → va_S (fun _ => False) s.heap H locs → ∀ (ls : Array Slot), lv_has ls 5 [(0, .ref (ad 7)), (1, .int (nI S)), (2, .int (nI (pk (labA g S e)))), (3, .int (nI (cntA g S e))), (4, .int (nI e))] → W p l ev (headSpec wsX3_rankOf ({ frames := 2, cells := 0, slots := 0, locals := 49 })).room s m [.ref (ad 7), .int (nI S)].toArray below meth c H locs 0 0 (MQ below (va_Qi (fun (x : Int32) (_ : Unit) => x = (nI (cntA g S (gE g)))) (fun _ _ => True) (fun _ => False)) [.ref (ad 7), .int (nI S)].toArray s 0 0 (fun _ => False)) (F0 m 13 ls []) := by
    intro n
    induction n with
    | zero =>
      intro e hfuel  H locs hP hS ls hl
      exact absurd hfuel.2 (by have := hfuel.1; omega)
    | succ n ih13 =>
      intro e hfuel  H locs hP hS ls hl
      obtain ⟨hfu1, hfu2⟩ := hfuel
      have hlab := labA_lt hg S e hfu1
      refine lv_iload hx hb dX3_rankOf_13 (lv_at hl 4 rfl) ?_
      refine lv_aload_n hx hb dX3_rankOf_15 rfl (lv_at hl 0 rfl) ?_
      refine va_get (D := D) (ci := 2) (v := .ref (ad 1)) (C := RX3) (T := TX3) (N := 1) hx hb hts inX3 hown hK.1 hP 0 rfl rfl 0 (by decide) (hts (.fieldLink RX3 7 "ColourForests$RinglessKind" "graph" "LColourForests$Graph;") (List.mem_of_getElem? (i := 1) rfl)) (u_same (hts (.sameField "ColourForests$RinglessKind" "ColourForests$Kind" "graph" "LColourForests$Graph;") (List.mem_of_getElem? (i := 2) rfl))) rfl dX3_rankOf_16 ?_
      refine va_get (D := D) (ci := 0) (v := .int (nI (gE g))) (C := RX0) (T := TX0) (N := 9) hx hb hts inX0 hown hK.1 hP 1 rfl rfl 2 (by decide) (hts (.fieldLink RX3 19 "ColourForests$Graph" "edges" "I") (List.mem_of_getElem? (i := 3) rfl)) (fun _ h9 => h9) rfl dX3_rankOf_19 ?_
      refine n_ge (a := e) (b := (gE g)) (tgt := 67) hx hb dX3_rankOf_22 (by decide) (by omega) (by omega) (fun c22 => ?_) (fun c22 => ?_)
      · refine lv_iload_n hx hb dX3_rankOf_67 rfl (lv_at hl 3 rfl) ?_
        exact pu_iret (y := yX3_rankOf) hx hb hr hlocks hS (by rw [show e = gE g by omega]) dX3_rankOf_68
      · refine lv_iload_n hx hb dX3_rankOf_25 rfl (lv_at hl 1 rfl) ?_
        refine lv_iload hx hb dX3_rankOf_26 (lv_at hl 4 rfl) ?_
        refine pu_call (va_runSN (As := [.int (nI S), .int (nI e)]) (rest := []) ⟨hx, hb, hml, hown, hts⟩ (c_X5_hasBit l D cy (S := S) (e := e) (by omega) (by omega)) ⟨va_cnB 2 hts gX3_rankOf_X5_hasBit_n23 rfl rfl rfl (hK.2 _ (List.mem_of_getElem? (i := 4) rfl)) (hts (.initialized RX5) (List.mem_of_getElem? (i := 11) rfl)) (by decide +kernel) ⟨Nat.le_of_ble_eq_true rfl, Nat.le_of_ble_eq_true rfl⟩, (hts (.static yX5_hasBit) (List.mem_of_getElem? (i := 13) rfl)), trivial⟩ (PU_preS hK hP [] rfl) rfl rfl hl.1 rfl (lv_room (Nat.le_of_ble_eq_true rfl)) dX3_rankOf_28 ⟨(Nat.zero_le _), (Nat.zero_le _)⟩) hS hP (fun H locs hP hS => ?_)
        refine b_eq (b := (S.testBit e)) (tgt := 61) hx hb dX3_rankOf_31 (by decide) (fun c31 => ?_) (fun c31 => ?_)
        · refine lv_iinc (v := (nI (e + 1))) (lv' := [(4, .int (nI (e + 1))), (0, .ref (ad 7)), (1, .int (nI S)), (2, .int (nI (pk (labA g S e)))), (3, .int (nI (cntA g S e)))]) hx hb dX3_rankOf_61 hl (k := 4) rfl (ni_inc _) (by decide) rfl (fun ls hl => ?_)
          refine lv_goto (tgt := 13) hx hb dX3_rankOf_64 (by decide) ?_
          exact ih13 (e + 1) ⟨by omega, by omega⟩  _ _ hP hS _ (by first | (rw [labA_n (Or.inl c31), cntA_n (Or.inl c31)]; exact lv_sub hl [1, 2, 3, 4, 0] rfl) | (rw [labA_n (Or.inr (Decidable.not_not.mp c44)), cntA_n (Or.inr (Decidable.not_not.mp c44))]; exact lv_sub hl [1, 2, 3, 4, 0] rfl) | (rw [labA_y c31 c44, cntA_y c31 c44]; exact lv_sub hl [1, 2, 3, 4, 0] rfl))
        · refine lv_aload_n hx hb dX3_rankOf_34 rfl (lv_at hl 0 rfl) ?_
          refine va_get (D := D) (ci := 2) (v := .ref (ad 1)) (C := RX3) (T := TX3) (N := 1) hx hb hts inX3 hown hK.1 hP 0 rfl rfl 0 (by decide) (hts (.fieldLink RX3 7 "ColourForests$RinglessKind" "graph" "LColourForests$Graph;") (List.mem_of_getElem? (i := 1) rfl)) (u_same (hts (.sameField "ColourForests$RinglessKind" "ColourForests$Kind" "graph" "LColourForests$Graph;") (List.mem_of_getElem? (i := 2) rfl))) rfl dX3_rankOf_35 ?_
          refine lv_iload_n hx hb dX3_rankOf_38 rfl (lv_at hl 2 rfl) ?_
          refine lv_iload hx hb dX3_rankOf_39 (lv_at hl 4 rfl) ?_
          refine pu_call (va_runV (As := [.int (nI (pk (labA g S e))), .int (nI e)]) (rest := []) ⟨hx, hb, hml, hown, hts⟩ (c_X0_joinsTwoParts l D cy ad ch hg (f := labA g S e) hlab (e := e) (by omega)) (cwV 2 hts gX3_rankOf_X0_joinsTwoParts rfl rfl rfl (by decide +kernel) ⟨Nat.le_of_ble_eq_true rfl, Nat.le_of_ble_eq_true rfl⟩) (PU_preV (ci := 0) (q0 := 1) hK hP 0 rfl rfl [1, 2, 3, 4, 5, 6] rfl) rfl rfl hl.1 rfl (lv_room (Nat.le_of_ble_eq_true rfl)) dX3_rankOf_41 ⟨(Nat.zero_le _), (Nat.zero_le _)⟩) hS hP (fun H locs hP hS => ?_)
          refine b_eq (b := (decide (labA g S e (gF g e) ≠ labA g S e (gS g e)))) (tgt := 61) hx hb dX3_rankOf_44 (by decide) (fun c44 => ?_) (fun c44 => ?_)
          · have c44 := of_decide_eq_false c44
            refine lv_iinc (v := (nI (e + 1))) (lv' := [(4, .int (nI (e + 1))), (0, .ref (ad 7)), (1, .int (nI S)), (2, .int (nI (pk (labA g S e)))), (3, .int (nI (cntA g S e)))]) hx hb dX3_rankOf_61 hl (k := 4) rfl (ni_inc _) (by decide) rfl (fun ls hl => ?_)
            refine lv_goto (tgt := 13) hx hb dX3_rankOf_64 (by decide) ?_
            exact ih13 (e + 1) ⟨by omega, by omega⟩  _ _ hP hS _ (by first | (rw [labA_n (Or.inl c31), cntA_n (Or.inl c31)]; exact lv_sub hl [1, 2, 3, 4, 0] rfl) | (rw [labA_n (Or.inr (Decidable.not_not.mp c44)), cntA_n (Or.inr (Decidable.not_not.mp c44))]; exact lv_sub hl [1, 2, 3, 4, 0] rfl) | (rw [labA_y c31 c44, cntA_y c31 c44]; exact lv_sub hl [1, 2, 3, 4, 0] rfl))
          · have c44 := of_decide_eq_true c44
            refine lv_aload_n hx hb dX3_rankOf_47 rfl (lv_at hl 0 rfl) ?_
            refine va_get (D := D) (ci := 2) (v := .ref (ad 1)) (C := RX3) (T := TX3) (N := 1) hx hb hts inX3 hown hK.1 hP 0 rfl rfl 0 (by decide) (hts (.fieldLink RX3 7 "ColourForests$RinglessKind" "graph" "LColourForests$Graph;") (List.mem_of_getElem? (i := 1) rfl)) (u_same (hts (.sameField "ColourForests$RinglessKind" "ColourForests$Kind" "graph" "LColourForests$Graph;") (List.mem_of_getElem? (i := 2) rfl))) rfl dX3_rankOf_48 ?_
            refine lv_iload_n hx hb dX3_rankOf_51 rfl (lv_at hl 2 rfl) ?_
            refine lv_iload hx hb dX3_rankOf_52 (lv_at hl 4 rfl) ?_
            refine pu_call (va_runV (As := [.int (nI (pk (labA g S e))), .int (nI e)]) (rest := []) ⟨hx, hb, hml, hown, hts⟩ (c_X0_partsJoinedBy l D cy ad ch hg (f := labA g S e) hlab (e := e) (by omega)) (cwV 2 hts gX3_rankOf_X0_partsJoinedBy rfl rfl rfl (by decide +kernel) ⟨Nat.le_of_ble_eq_true rfl, Nat.le_of_ble_eq_true rfl⟩) (PU_preV (ci := 0) (q0 := 1) hK hP 0 rfl rfl [1, 2, 3, 4, 5, 6] rfl) rfl rfl hl.1 rfl (lv_room (Nat.le_of_ble_eq_true rfl)) dX3_rankOf_54 ⟨(Nat.zero_le _), (Nat.zero_le _)⟩) hS hP (fun H locs hP hS => ?_)
            refine lv_istore_n (lv' := [(2, .int (nI (pk (jn (gV g) (labA g S e) (labA g S e (gF g e)) (labA g S e (gS g e)))))), (0, .ref (ad 7)), (1, .int (nI S)), (3, .int (nI (cntA g S e))), (4, .int (nI e))]) hx hb dX3_rankOf_57 rfl hl (by decide) rfl (fun ls hl => ?_)
            refine lv_iinc (v := (nI (cntA g S e + 1))) (lv' := [(3, .int (nI (cntA g S e + 1))), (2, .int (nI (pk (jn (gV g) (labA g S e) (labA g S e (gF g e)) (labA g S e (gS g e)))))), (0, .ref (ad 7)), (1, .int (nI S)), (4, .int (nI e))]) hx hb dX3_rankOf_58 hl (k := 3) rfl (ni_inc _) (by decide) rfl (fun ls hl => ?_)
            refine lv_iinc (v := (nI (e + 1))) (lv' := [(4, .int (nI (e + 1))), (3, .int (nI (cntA g S e + 1))), (2, .int (nI (pk (jn (gV g) (labA g S e) (labA g S e (gF g e)) (labA g S e (gS g e)))))), (0, .ref (ad 7)), (1, .int (nI S))]) hx hb dX3_rankOf_61 hl (k := 4) rfl (ni_inc _) (by decide) rfl (fun ls hl => ?_)
            refine lv_goto (tgt := 13) hx hb dX3_rankOf_64 (by decide) ?_
            exact ih13 (e + 1) ⟨by omega, by omega⟩  _ _ hP hS _ (by first | (rw [labA_n (Or.inl c31), cntA_n (Or.inl c31)]; exact lv_sub hl [3, 4, 2, 1, 0] rfl) | (rw [labA_n (Or.inr (Decidable.not_not.mp c44)), cntA_n (Or.inr (Decidable.not_not.mp c44))]; exact lv_sub hl [3, 4, 2, 1, 0] rfl) | (rw [labA_y c31 c44, cntA_y c31 c44]; exact lv_sub hl [3, 4, 2, 1, 0] rfl))
  exact L13 (gE g + 1) 0 ⟨by omega, by omega⟩  _ _ hP hS _ (lv_sub hl [3, 4, 2, 1, 0] rfl)

set_option maxHeartbeats 4000000 in
set_option maxRecDepth 100000 in
theorem c_X2_rankOf (l : Launch) (D : va_G) (cy : Nat → ClassId) (ad : Nat → Nat) (ch : Int32) {g : GT} (hg : gOK g) {S : Nat} (hS9 : S < 2 ^ gE g) : PU l yX2_rankOf wsX2_rankOf ({ frames := 2, cells := 0, slots := 0, locals := 45 }) D cy [.ref (ad 8), .int (nI S)] (wK2 cy ad ch g) ((nI (cntB g S (gE g)))) := by
  refine Met.ofW (cc := cX2_rankOf) (maxL := 5) (ret := (some .int)) (by decide) rfl ?_
  intro p ev s m args below meth c s₁ B hml hv
  obtain ⟨rfl, hK, hP⟩ := hv
  have hx := B.exec
  have hb := B.bytes
  have hr := B.returns
  have hts := atoms_spec (ws := wsX2_rankOf) B.pre
  have hown : s.vm.findClass RX2 = some m.cls := findClass_of_methodNamed B.named
  have hlocks := B.notSynchronized
  have hS : va_S (fun _ => False) s.heap s.heap [] := va_S.rf
  have hP : va_P D vwCl (wK2 cy ad ch g) s.heap := hP
  have inX0 : ∀ w ∈ wsX00, w ∈ wsX2_rankOf := by decide +kernel
  have inX2 : ∀ w ∈ wsX20, w ∈ wsX2_rankOf := by decide +kernel
  have hl := lv_entry ([.ref (ad 8), .int (nI S)]) (n := 5) (Nat.le_of_ble_eq_true rfl)
  rw [lg_entry_eq]
  generalize (lg_sl ([.ref (ad 8), .int (nI S)]) ++ List.replicate (5 - (lg_sl ([.ref (ad 8), .int (nI S)])).length) Slot.unset).toArray = ls at hl ⊢
  have hl : lv_has ls 5 [(0, .ref (ad 8)), (1, .int (nI S))] := hl
  have hgen := True.intro
  have hE := hg.2.2.1
  have hV := hg.1
  have hC := hg.2.1
  have hS8 : 2 ^ gE g ≤ 2 ^ 14 := Nat.pow_le_pow_right (by decide) hE
  refine lv_aload_n hx hb dX2_rankOf_0 rfl (lv_at hl 0 rfl) ?_
  refine va_get (D := D) (ci := 1) (v := .ref (ad 1)) (C := RX2) (T := TX2) (N := 1) hx hb hts inX2 hown hK.1 hP 0 rfl rfl 0 (by decide) (hts (.fieldLink RX2 7 "ColourForests$LimitKind" "graph" "LColourForests$Graph;") (List.mem_of_getElem? (i := 1) rfl)) (u_same (hts (.sameField "ColourForests$LimitKind" "ColourForests$Kind" "graph" "LColourForests$Graph;") (List.mem_of_getElem? (i := 2) rfl))) rfl dX2_rankOf_1 ?_
  refine pu_call (va_runV (As := []) (rest := []) ⟨hx, hb, hml, hown, hts⟩ (c_X0_fullRoom l D cy ad ch hg) (cwV 0 hts gX2_rankOf_X0_fullRoom rfl rfl rfl (by decide +kernel) ⟨Nat.le_of_ble_eq_true rfl, Nat.le_of_ble_eq_true rfl⟩) (PU_preV (ci := 0) (q0 := 1) hK hP 0 rfl rfl [1, 2, 3, 4, 5, 6] rfl) rfl rfl hl.1 rfl (lv_room (Nat.le_of_ble_eq_true rfl)) dX2_rankOf_4 ⟨(Nat.zero_le _), (Nat.zero_le _)⟩) hS hP (fun H locs hP hS => ?_)
  refine lv_istore_n (lv' := [(2, .int (nI (pk (fulR g)))), (0, .ref (ad 8)), (1, .int (nI S))]) hx hb dX2_rankOf_7 rfl hl (by decide) rfl (fun ls hl => ?_)
  refine lv_iconst (v := nI 0) hx hb dX2_rankOf_8 (by decide) ?_
  refine lv_istore_n (lv' := [(3, .int (nI 0)), (2, .int (nI (pk (fulR g)))), (0, .ref (ad 8)), (1, .int (nI S))]) hx hb dX2_rankOf_9 rfl hl (by decide) rfl (fun ls hl => ?_)
  refine lv_iconst (v := nI 0) hx hb dX2_rankOf_10 (by decide) ?_
  refine lv_istore (lv' := [(4, .int (nI 0)), (3, .int (nI 0)), (2, .int (nI (pk (fulR g)))), (0, .ref (ad 8)), (1, .int (nI S))]) hx hb dX2_rankOf_11 hl (by decide) rfl (fun ls hl => ?_)
  have L13 : ∀ (n : Nat) (e : Nat), e ≤ gE g ∧ gE g + 1 ≤ e + n → ∀ (H : Heap) (locs : List Loc), va_P D vwCl (wK2 cy ad ch g) H → va_S (fun _ => False) s.heap H locs → ∀ (ls : Array Slot), lv_has ls 5 [(0, .ref (ad 8)), (1, .int (nI S)), (2, .int (nI (pk (romB g S e)))), (3, .int (nI (cntB g S e))), (4, .int (nI e))] → W p l ev (headSpec wsX2_rankOf ({ frames := 2, cells := 0, slots := 0, locals := 45 })).room s m [.ref (ad 8), .int (nI S)].toArray below meth c H locs 0 0 (MQ below (va_Qi (fun (x : Int32) (_ : Unit) => x = (nI (cntB g S (gE g)))) (fun _ _ => True) (fun _ => False)) [.ref (ad 8), .int (nI S)].toArray s 0 0 (fun _ => False)) (F0 m 13 ls []) := by
    intro n
    induction n with
    | zero =>
      intro e hfuel  H locs hP hS ls hl
      exact absurd hfuel.2 (by have := hfuel.1; omega)
    | succ n ih13 =>
      intro e hfuel  H locs hP hS ls hl
      obtain ⟨hfu1, hfu2⟩ := hfuel
      have hrom := romB_lt hg S e hfu1
      refine lv_iload hx hb dX2_rankOf_13 (lv_at hl 4 rfl) ?_
      refine lv_aload_n hx hb dX2_rankOf_15 rfl (lv_at hl 0 rfl) ?_
      refine va_get (D := D) (ci := 1) (v := .ref (ad 1)) (C := RX2) (T := TX2) (N := 1) hx hb hts inX2 hown hK.1 hP 0 rfl rfl 0 (by decide) (hts (.fieldLink RX2 7 "ColourForests$LimitKind" "graph" "LColourForests$Graph;") (List.mem_of_getElem? (i := 1) rfl)) (u_same (hts (.sameField "ColourForests$LimitKind" "ColourForests$Kind" "graph" "LColourForests$Graph;") (List.mem_of_getElem? (i := 2) rfl))) rfl dX2_rankOf_16 ?_
      refine va_get (D := D) (ci := 0) (v := .int (nI (gE g))) (C := RX0) (T := TX0) (N := 9) hx hb hts inX0 hown hK.1 hP 1 rfl rfl 2 (by decide) (hts (.fieldLink RX2 19 "ColourForests$Graph" "edges" "I") (List.mem_of_getElem? (i := 3) rfl)) (fun _ h9 => h9) rfl dX2_rankOf_19 ?_
      refine n_ge (a := e) (b := (gE g)) (tgt := 67) hx hb dX2_rankOf_22 (by decide) (by omega) (by omega) (fun c22 => ?_) (fun c22 => ?_)
      · refine lv_iload_n hx hb dX2_rankOf_67 rfl (lv_at hl 3 rfl) ?_
        exact pu_iret (y := yX2_rankOf) hx hb hr hlocks hS (by rw [show e = gE g by omega]) dX2_rankOf_68
      · refine lv_iload_n hx hb dX2_rankOf_25 rfl (lv_at hl 1 rfl) ?_
        refine lv_iload hx hb dX2_rankOf_26 (lv_at hl 4 rfl) ?_
        refine pu_call (va_runSN (As := [.int (nI S), .int (nI e)]) (rest := []) ⟨hx, hb, hml, hown, hts⟩ (c_X5_hasBit l D cy (S := S) (e := e) (by omega) (by omega)) ⟨va_cnB 2 hts gX2_rankOf_X5_hasBit_n23 rfl rfl rfl (hK.2 _ (List.mem_of_getElem? (i := 3) rfl)) (hts (.initialized RX5) (List.mem_of_getElem? (i := 12) rfl)) (by decide +kernel) ⟨Nat.le_of_ble_eq_true rfl, Nat.le_of_ble_eq_true rfl⟩, (hts (.static yX5_hasBit) (List.mem_of_getElem? (i := 14) rfl)), trivial⟩ (PU_preS hK hP [] rfl) rfl rfl hl.1 rfl (lv_room (Nat.le_of_ble_eq_true rfl)) dX2_rankOf_28 ⟨(Nat.zero_le _), (Nat.zero_le _)⟩) hS hP (fun H locs hP hS => ?_)
        refine b_eq (b := (S.testBit e)) (tgt := 61) hx hb dX2_rankOf_31 (by decide) (fun c31 => ?_) (fun c31 => ?_)
        · refine lv_iinc (v := (nI (e + 1))) (lv' := [(4, .int (nI (e + 1))), (0, .ref (ad 8)), (1, .int (nI S)), (2, .int (nI (pk (romB g S e)))), (3, .int (nI (cntB g S e)))]) hx hb dX2_rankOf_61 hl (k := 4) rfl (ni_inc _) (by decide) rfl (fun ls hl => ?_)
          refine lv_goto (tgt := 13) hx hb dX2_rankOf_64 (by decide) ?_
          exact ih13 (e + 1) ⟨by omega, by omega⟩  _ _ hP hS _ (by first | (rw [romB_n (Or.inl c31), cntB_n (Or.inl c31)]; exact lv_sub hl [1, 2, 3, 4, 0] rfl) | (rw [romB_n (Or.inr c44), cntB_n (Or.inr c44)]; exact lv_sub hl [1, 2, 3, 4, 0] rfl) | (rw [romB_y c31 c44, cntB_y c31 c44]; exact lv_sub hl [1, 2, 3, 4, 0] rfl))
        · refine lv_aload_n hx hb dX2_rankOf_34 rfl (lv_at hl 0 rfl) ?_
          refine va_get (D := D) (ci := 1) (v := .ref (ad 1)) (C := RX2) (T := TX2) (N := 1) hx hb hts inX2 hown hK.1 hP 0 rfl rfl 0 (by decide) (hts (.fieldLink RX2 7 "ColourForests$LimitKind" "graph" "LColourForests$Graph;") (List.mem_of_getElem? (i := 1) rfl)) (u_same (hts (.sameField "ColourForests$LimitKind" "ColourForests$Kind" "graph" "LColourForests$Graph;") (List.mem_of_getElem? (i := 2) rfl))) rfl dX2_rankOf_35 ?_
          refine lv_iload_n hx hb dX2_rankOf_38 rfl (lv_at hl 2 rfl) ?_
          refine lv_iload hx hb dX2_rankOf_39 (lv_at hl 4 rfl) ?_
          refine pu_call (va_runV (As := [.int (nI (pk (romB g S e))), .int (nI e)]) (rest := []) ⟨hx, hb, hml, hown, hts⟩ (c_X0_hasRoom l D cy ad ch hg (f := romB g S e) hrom (e := e) (by omega)) (cwV 2 hts gX2_rankOf_X0_hasRoom rfl rfl rfl (by decide +kernel) ⟨Nat.le_of_ble_eq_true rfl, Nat.le_of_ble_eq_true rfl⟩) (PU_preV (ci := 0) (q0 := 1) hK hP 0 rfl rfl [1, 2, 3, 4, 5, 6] rfl) rfl rfl hl.1 rfl (lv_room (Nat.le_of_ble_eq_true rfl)) dX2_rankOf_41 ⟨(Nat.zero_le _), (Nat.zero_le _)⟩) hS hP (fun H locs hP hS => ?_)
          refine b_eq (b := (decide (0 < romB g S e (gH g e)))) (tgt := 61) hx hb dX2_rankOf_44 (by decide) (fun c44 => ?_) (fun c44 => ?_)
          · have c44 := of_decide_eq_false c44
            refine lv_iinc (v := (nI (e + 1))) (lv' := [(4, .int (nI (e + 1))), (0, .ref (ad 8)), (1, .int (nI S)), (2, .int (nI (pk (romB g S e)))), (3, .int (nI (cntB g S e)))]) hx hb dX2_rankOf_61 hl (k := 4) rfl (ni_inc _) (by decide) rfl (fun ls hl => ?_)
            refine lv_goto (tgt := 13) hx hb dX2_rankOf_64 (by decide) ?_
            exact ih13 (e + 1) ⟨by omega, by omega⟩  _ _ hP hS _ (by first | (rw [romB_n (Or.inl c31), cntB_n (Or.inl c31)]; exact lv_sub hl [1, 2, 3, 4, 0] rfl) | (rw [romB_n (Or.inr c44), cntB_n (Or.inr c44)]; exact lv_sub hl [1, 2, 3, 4, 0] rfl) | (rw [romB_y c31 c44, cntB_y c31 c44]; exact lv_sub hl [1, 2, 3, 4, 0] rfl))
          · have c44 := of_decide_eq_true c44
            refine lv_aload_n hx hb dX2_rankOf_47 rfl (lv_at hl 0 rfl) ?_
            refine va_get (D := D) (ci := 1) (v := .ref (ad 1)) (C := RX2) (T := TX2) (N := 1) hx hb hts inX2 hown hK.1 hP 0 rfl rfl 0 (by decide) (hts (.fieldLink RX2 7 "ColourForests$LimitKind" "graph" "LColourForests$Graph;") (List.mem_of_getElem? (i := 1) rfl)) (u_same (hts (.sameField "ColourForests$LimitKind" "ColourForests$Kind" "graph" "LColourForests$Graph;") (List.mem_of_getElem? (i := 2) rfl))) rfl dX2_rankOf_48 ?_
            refine lv_iload_n hx hb dX2_rankOf_51 rfl (lv_at hl 2 rfl) ?_
            refine lv_iload hx hb dX2_rankOf_52 (lv_at hl 4 rfl) ?_
            refine pu_call (va_runV (As := [.int (nI (pk (romB g S e))), .int (nI e)]) (rest := []) ⟨hx, hb, hml, hown, hts⟩ (c_X0_roomAfter l D cy ad ch hg (f := romB g S e) hrom (e := e) (by omega) c44) (cwV 2 hts gX2_rankOf_X0_roomAfter rfl rfl rfl (by decide +kernel) ⟨Nat.le_of_ble_eq_true rfl, Nat.le_of_ble_eq_true rfl⟩) (PU_preV (ci := 0) (q0 := 1) hK hP 0 rfl rfl [1, 2, 3, 4, 5, 6] rfl) rfl rfl hl.1 rfl (lv_room (Nat.le_of_ble_eq_true rfl)) dX2_rankOf_54 ⟨(Nat.zero_le _), (Nat.zero_le _)⟩) hS hP (fun H locs hP hS => ?_)
            refine lv_istore_n (lv' := [(2, .int (nI (pk (upN (romB g S e) (gH g e) (romB g S e (gH g e) - 1))))), (0, .ref (ad 8)), (1, .int (nI S)), (3, .int (nI (cntB g S e))), (4, .int (nI e))]) hx hb dX2_rankOf_57 rfl hl (by decide) rfl (fun ls hl => ?_)
            refine lv_iinc (v := (nI (cntB g S e + 1))) (lv' := [(3, .int (nI (cntB g S e + 1))), (2, .int (nI (pk (upN (romB g S e) (gH g e) (romB g S e (gH g e) - 1))))), (0, .ref (ad 8)), (1, .int (nI S)), (4, .int (nI e))]) hx hb dX2_rankOf_58 hl (k := 3) rfl (ni_inc _) (by decide) rfl (fun ls hl => ?_)
            refine lv_iinc (v := (nI (e + 1))) (lv' := [(4, .int (nI (e + 1))), (3, .int (nI (cntB g S e + 1))), (2, .int (nI (pk (upN (romB g S e) (gH g e) (romB g S e (gH g e) - 1))))), (0, .ref (ad 8)), (1, .int (nI S))]) hx hb dX2_rankOf_61 hl (k := 4) rfl (ni_inc _) (by decide) rfl (fun ls hl => ?_)
            refine lv_goto (tgt := 13) hx hb dX2_rankOf_64 (by decide) ?_
            exact ih13 (e + 1) ⟨by omega, by omega⟩  _ _ hP hS _ (by first | (rw [romB_n (Or.inl c31), cntB_n (Or.inl c31)]; exact lv_sub hl [3, 4, 2, 1, 0] rfl) | (rw [romB_n (Or.inr c44), cntB_n (Or.inr c44)]; exact lv_sub hl [3, 4, 2, 1, 0] rfl) | (rw [romB_y c31 c44, cntB_y c31 c44]; exact lv_sub hl [3, 4, 2, 1, 0] rfl))
  exact L13 (gE g + 1) 0 ⟨by omega, by omega⟩  _ _ hP hS _ (lv_sub hl [3, 4, 2, 1, 0] rfl)
