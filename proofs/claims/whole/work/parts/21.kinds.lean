set_option maxHeartbeats 4000000 in
set_option maxRecDepth 100000 in
/-- Integer.bitCount of a set -/
theorem c_J6_bitCount_0f7a4 (l : Launch) (D : va_G) (cy : Nat → ClassId) {S : Nat} (hS9 : S < 16384) : PU l yJ6_bitCount_0f7a4 wsJ6_bitCount_0f7a4 ({ frames := 0, cells := 0, slots := 0, locals := 0 }) D cy [.int (nI S)] [] ((nI (ms_card 14 S))) := by
  refine Met.ofW (cc := cJ6_bitCount_0f7a4) (maxL := 1) (ret := (some .int)) (by decide) rfl ?_
  intro p ev s m args below meth c s₁ B hml hv
  obtain ⟨rfl, hK, hP⟩ := hv
  have hx := B.exec
  have hb := B.bytes
  have hr := B.returns
  have hts := atoms_spec (ws := wsJ6_bitCount_0f7a4) B.pre
  have hown : s.vm.findClass RJ6 = some m.cls := findClass_of_methodNamed B.named
  have hlocks := B.notSynchronized
  have hS : va_S (fun _ => False) s.heap s.heap [] := va_S.rf
  have hP : va_P D vwCl [] s.heap := hP
  have hl := lv_entry ([.int (nI S)]) (n := 1) (Nat.le_of_ble_eq_true rfl)
  rw [lg_entry_eq]
  generalize (lg_sl ([.int (nI S)]) ++ List.replicate (1 - (lg_sl ([.int (nI S)])).length) Slot.unset).toArray = ls at hl ⊢
  have hl : lv_has ls 1 [(0, .int (nI S))] := hl
  have hgen := True.intro
  refine lv_iload_n hx hb dJ6_bitCount_0f7a4_0 rfl (lv_at hl 0 rfl) ?_
  refine lv_iload_n hx hb dJ6_bitCount_0f7a4_1 rfl (lv_at hl 0 rfl) ?_
  refine lv_iconst (v := nI 1) hx hb dJ6_bitCount_0f7a4_2 (by decide) ?_
  refine lv_iushr hx hb dJ6_bitCount_0f7a4_3 rfl ?_
  refine lv_as (y := (nI (S / 2 ^ 1))) (ni_ushr (by omega) (by omega)) ?_
  refine lv_ldcw hx hb hown (hts (.constant RJ6 265 (1431655765)) (List.mem_of_getElem? (i := 1) rfl)) dJ6_bitCount_0f7a4_4 ?_
  refine lv_iand hx hb dJ6_bitCount_0f7a4_7 ?_
  refine lv_isub hx hb dJ6_bitCount_0f7a4_8 ?_
  refine lv_topi (fun x1 ex1 => ?_)
  refine lv_istore_n (lv' := [(0, .int x1)]) hx hb dJ6_bitCount_0f7a4_9 rfl hl (by decide) rfl (fun ls hl => ?_)
  refine lv_iload_n hx hb dJ6_bitCount_0f7a4_10 rfl (lv_at hl 0 rfl) ?_
  refine lv_ldcw hx hb hown (hts (.constant RJ6 266 (858993459)) (List.mem_of_getElem? (i := 2) rfl)) dJ6_bitCount_0f7a4_11 ?_
  refine lv_iand hx hb dJ6_bitCount_0f7a4_14 ?_
  refine lv_iload_n hx hb dJ6_bitCount_0f7a4_15 rfl (lv_at hl 0 rfl) ?_
  refine lv_iconst (v := nI 2) hx hb dJ6_bitCount_0f7a4_16 (by decide) ?_
  refine lv_iushr hx hb dJ6_bitCount_0f7a4_17 rfl ?_
  refine lv_ldcw hx hb hown (hts (.constant RJ6 266 (858993459)) (List.mem_of_getElem? (i := 2) rfl)) dJ6_bitCount_0f7a4_18 ?_
  refine lv_iand hx hb dJ6_bitCount_0f7a4_21 ?_
  refine lv_iadd hx hb dJ6_bitCount_0f7a4_22 ?_
  refine lv_topi (fun x2 ex2 => ?_)
  refine lv_istore_n (lv' := [(0, .int x2)]) hx hb dJ6_bitCount_0f7a4_23 rfl hl (by decide) rfl (fun ls hl => ?_)
  refine lv_iload_n hx hb dJ6_bitCount_0f7a4_24 rfl (lv_at hl 0 rfl) ?_
  refine lv_iload_n hx hb dJ6_bitCount_0f7a4_25 rfl (lv_at hl 0 rfl) ?_
  refine lv_iconst (v := nI 4) hx hb dJ6_bitCount_0f7a4_26 (by decide) ?_
  refine lv_iushr hx hb dJ6_bitCount_0f7a4_27 rfl ?_
  refine lv_iadd hx hb dJ6_bitCount_0f7a4_28 ?_
  refine lv_ldcw hx hb hown (hts (.constant RJ6 267 (252645135)) (List.mem_of_getElem? (i := 3) rfl)) dJ6_bitCount_0f7a4_29 ?_
  refine lv_iand hx hb dJ6_bitCount_0f7a4_32 ?_
  refine lv_topi (fun x3 ex3 => ?_)
  refine lv_istore_n (lv' := [(0, .int x3)]) hx hb dJ6_bitCount_0f7a4_33 rfl hl (by decide) rfl (fun ls hl => ?_)
  refine lv_iload_n hx hb dJ6_bitCount_0f7a4_34 rfl (lv_at hl 0 rfl) ?_
  refine lv_iload_n hx hb dJ6_bitCount_0f7a4_35 rfl (lv_at hl 0 rfl) ?_
  refine lv_bipush (v := nI 8) hx hb dJ6_bitCount_0f7a4_36 (by decide) ?_
  refine lv_iushr hx hb dJ6_bitCount_0f7a4_38 rfl ?_
  refine lv_iadd hx hb dJ6_bitCount_0f7a4_39 ?_
  refine lv_topi (fun x4 ex4 => ?_)
  refine lv_istore_n (lv' := [(0, .int x4)]) hx hb dJ6_bitCount_0f7a4_40 rfl hl (by decide) rfl (fun ls hl => ?_)
  refine lv_iload_n hx hb dJ6_bitCount_0f7a4_41 rfl (lv_at hl 0 rfl) ?_
  refine lv_iload_n hx hb dJ6_bitCount_0f7a4_42 rfl (lv_at hl 0 rfl) ?_
  refine lv_bipush (v := nI 16) hx hb dJ6_bitCount_0f7a4_43 (by decide) ?_
  refine lv_iushr hx hb dJ6_bitCount_0f7a4_45 rfl ?_
  refine lv_iadd hx hb dJ6_bitCount_0f7a4_46 ?_
  refine lv_topi (fun x5 ex5 => ?_)
  refine lv_istore_n (lv' := [(0, .int x5)]) hx hb dJ6_bitCount_0f7a4_47 rfl hl (by decide) rfl (fun ls hl => ?_)
  refine lv_iload_n hx hb dJ6_bitCount_0f7a4_48 rfl (lv_at hl 0 rfl) ?_
  refine lv_bipush (v := nI 63) hx hb dJ6_bitCount_0f7a4_49 (by decide) ?_
  refine lv_iand hx hb dJ6_bitCount_0f7a4_51 ?_
  refine lv_as (y := (nI (ms_card 14 S))) (by rw [show x5 = bcE x4 from ex5, show x4 = bcD x3 from ex4, show x3 = bcC x2 from ex3, show x2 = bcB x1 from ex2, show x1 = bcA (nI S) by rw [ex1, ← ni_ushr (a := S) (k := 1) (by omega) (by omega)]; rfl]; exact bc_ok hS9) ?_
  exact pu_iret (y := yJ6_bitCount_0f7a4) hx hb hr hlocks hS (by first | rfl | (simp [bI, *]; done) | (simp_all [bI]; done)) dJ6_bitCount_0f7a4_52

set_option maxHeartbeats 4000000 in
set_option maxRecDepth 100000 in
/-- Integer.numberOfTrailingZeros of a set that is not empty -/
theorem c_J6_numberOfTrailingZeros_0f7a4 (l : Launch) (D : va_G) (cy : Nat → ClassId) {S : Nat} (h0 : S ≠ 0) (hS9 : S < 16384) : PU l yJ6_numberOfTrailingZeros_0f7a4 wsJ6_numberOfTrailingZeros_0f7a4 ({ frames := 0, cells := 0, slots := 0, locals := 0 }) D cy [.int (nI S)] [] ((nI (tzN 14 S))) := by
  refine Met.ofW (cc := cJ6_numberOfTrailingZeros_0f7a4) (maxL := 2) (ret := (some .int)) (by decide) rfl ?_
  intro p ev s m args below meth c s₁ B hml hv
  obtain ⟨rfl, hK, hP⟩ := hv
  have hx := B.exec
  have hb := B.bytes
  have hr := B.returns
  have hts := atoms_spec (ws := wsJ6_numberOfTrailingZeros_0f7a4) B.pre
  have hown : s.vm.findClass RJ6 = some m.cls := findClass_of_methodNamed B.named
  have hlocks := B.notSynchronized
  have hS : va_S (fun _ => False) s.heap s.heap [] := va_S.rf
  have hP : va_P D vwCl [] s.heap := hP
  have hl := lv_entry ([.int (nI S)]) (n := 2) (Nat.le_of_ble_eq_true rfl)
  rw [lg_entry_eq]
  generalize (lg_sl ([.int (nI S)]) ++ List.replicate (2 - (lg_sl ([.int (nI S)])).length) Slot.unset).toArray = ls at hl ⊢
  have hl : lv_has ls 2 [(0, .int (nI S))] := hl
  have hgen := True.intro
  have ht : tzN 14 S < 14 := tzN_lt hS9 h0
  have hp : 2 ^ tzN 14 S ≤ 2 ^ 14 := Nat.pow_le_pow_right (by decide) (by omega)
  refine lv_iload_n hx hb dJ6_numberOfTrailingZeros_0f7a4_0 rfl (lv_at hl 0 rfl) ?_
  refine lv_iconst (v := zI (-1)) hx hb dJ6_numberOfTrailingZeros_0f7a4_1 (by decide) ?_
  refine lv_ixor hx hb dJ6_numberOfTrailingZeros_0f7a4_2 ?_
  refine lv_iload_n hx hb dJ6_numberOfTrailingZeros_0f7a4_3 rfl (lv_at hl 0 rfl) ?_
  refine lv_iconst (v := nI 1) hx hb dJ6_numberOfTrailingZeros_0f7a4_4 (by decide) ?_
  refine lv_isub hx hb dJ6_numberOfTrailingZeros_0f7a4_5 ?_
  refine lv_as (y := (nI (S - 1))) (ni_sub (by omega)) ?_
  refine lv_iand hx hb dJ6_numberOfTrailingZeros_0f7a4_6 ?_
  refine lv_as (y := (nI (2 ^ tzN 14 S - 1))) (tz_mask h0 hS9) ?_
  refine lv_istore_n (lv' := [(0, .int (nI (2 ^ tzN 14 S - 1)))]) hx hb dJ6_numberOfTrailingZeros_0f7a4_7 rfl hl (by decide) rfl (fun ls hl => ?_)
  refine lv_iload_n hx hb dJ6_numberOfTrailingZeros_0f7a4_8 rfl (lv_at hl 0 rfl) ?_
  refine lv_if_gt (tgt := 17) hx hb dJ6_numberOfTrailingZeros_0f7a4_9 (by decide) (fun c9 => ?_) (fun c9 => ?_)
  · refine lv_iconst (v := nI 1) hx hb dJ6_numberOfTrailingZeros_0f7a4_17 (by decide) ?_
    refine lv_istore_n (lv' := [(1, .int (nI 1)), (0, .int (nI (2 ^ tzN 14 S - 1)))]) hx hb dJ6_numberOfTrailingZeros_0f7a4_18 rfl hl (by decide) rfl (fun ls hl => ?_)
    refine lv_iload_n hx hb dJ6_numberOfTrailingZeros_0f7a4_19 rfl (lv_at hl 1 rfl) ?_
    refine lv_ldcw hx hb hown (hts (.constant RJ6 264 (65536)) (List.mem_of_getElem? (i := 1) rfl)) dJ6_numberOfTrailingZeros_0f7a4_20 ?_
    refine lv_as (y := (nI 65536)) (by decide) ?_
    refine n_le (a := (2 ^ tzN 14 S - 1)) (b := 65536) (tgt := 34) hx hb dJ6_numberOfTrailingZeros_0f7a4_23 (by decide) (by omega) (by omega) (fun c23 => ?_) (fun c23 => ?_)
    · refine lv_iload_n hx hb dJ6_numberOfTrailingZeros_0f7a4_34 rfl (lv_at hl 1 rfl) ?_
      refine lv_sipush (v := nI 256) hx hb dJ6_numberOfTrailingZeros_0f7a4_35 (by decide) ?_
      refine n_le (a := (2 ^ tzN 14 S - 1)) (b := 256) (tgt := 49) hx hb dJ6_numberOfTrailingZeros_0f7a4_38 (by decide) (by omega) (by omega) (fun c38 => ?_) (fun c38 => ?_)
      · refine lv_iload_n hx hb dJ6_numberOfTrailingZeros_0f7a4_49 rfl (lv_at hl 1 rfl) ?_
        refine lv_bipush (v := nI 16) hx hb dJ6_numberOfTrailingZeros_0f7a4_50 (by decide) ?_
        refine n_le (a := (2 ^ tzN 14 S - 1)) (b := 16) (tgt := 62) hx hb dJ6_numberOfTrailingZeros_0f7a4_52 (by decide) (by omega) (by omega) (fun c52 => ?_) (fun c52 => ?_)
        · refine lv_iload_n hx hb dJ6_numberOfTrailingZeros_0f7a4_62 rfl (lv_at hl 1 rfl) ?_
          refine lv_iconst (v := nI 4) hx hb dJ6_numberOfTrailingZeros_0f7a4_63 (by decide) ?_
          refine n_le (a := (2 ^ tzN 14 S - 1)) (b := 4) (tgt := 74) hx hb dJ6_numberOfTrailingZeros_0f7a4_64 (by decide) (by omega) (by omega) (fun c64 => ?_) (fun c64 => ?_)
          · refine lv_iload_n hx hb dJ6_numberOfTrailingZeros_0f7a4_74 rfl (lv_at hl 0 rfl) ?_
            refine lv_iload_n hx hb dJ6_numberOfTrailingZeros_0f7a4_75 rfl (lv_at hl 1 rfl) ?_
            refine lv_iconst (v := nI 1) hx hb dJ6_numberOfTrailingZeros_0f7a4_76 (by decide) ?_
            refine lv_iushr hx hb dJ6_numberOfTrailingZeros_0f7a4_77 rfl ?_
            refine lv_as (y := (nI ((2 ^ tzN 14 S - 1) / 2 ^ 1))) (ni_ushr (by omega) (by omega)) ?_
            refine lv_iadd hx hb dJ6_numberOfTrailingZeros_0f7a4_78 ?_
            refine lv_as (y := (nI (1 + ((2 ^ tzN 14 S - 1) / 2 ^ 1)))) (nI_add _ _) ?_
            exact pu_iret (y := yJ6_numberOfTrailingZeros_0f7a4) hx hb hr hlocks hS (by generalize tzN 14 S = t at ht c9 c23 c38 c52 c64 ⊢; rcases tz14 ht with rfl | rfl | rfl | rfl | rfl | rfl | rfl | rfl | rfl | rfl | rfl | rfl | rfl | rfl <;> first | decide +kernel | exact absurd c9 (by decide +kernel) | exact absurd c23 (by decide +kernel) | exact absurd c38 (by decide +kernel) | exact absurd c52 (by decide +kernel) | exact absurd c64 (by decide +kernel)) dJ6_numberOfTrailingZeros_0f7a4_79
          · refine lv_iinc (v := (nI (1 + 2))) (lv' := [(1, .int (nI (1 + 2))), (0, .int (nI (2 ^ tzN 14 S - 1)))]) hx hb dJ6_numberOfTrailingZeros_0f7a4_67 hl (k := 0) rfl (ni_incn _ 2) (by decide) rfl (fun ls hl => ?_)
            refine lv_iload_n hx hb dJ6_numberOfTrailingZeros_0f7a4_70 rfl (lv_at hl 1 rfl) ?_
            refine lv_iconst (v := nI 2) hx hb dJ6_numberOfTrailingZeros_0f7a4_71 (by decide) ?_
            refine lv_iushr hx hb dJ6_numberOfTrailingZeros_0f7a4_72 rfl ?_
            refine lv_as (y := (nI ((2 ^ tzN 14 S - 1) / 2 ^ 2))) (ni_ushr (by omega) (by omega)) ?_
            refine lv_istore_n (lv' := [(0, .int (nI ((2 ^ tzN 14 S - 1) / 2 ^ 2))), (1, .int (nI (1 + 2)))]) hx hb dJ6_numberOfTrailingZeros_0f7a4_73 rfl hl (by decide) rfl (fun ls hl => ?_)
            refine lv_iload_n hx hb dJ6_numberOfTrailingZeros_0f7a4_74 rfl (lv_at hl 1 rfl) ?_
            refine lv_iload_n hx hb dJ6_numberOfTrailingZeros_0f7a4_75 rfl (lv_at hl 0 rfl) ?_
            refine lv_iconst (v := nI 1) hx hb dJ6_numberOfTrailingZeros_0f7a4_76 (by decide) ?_
            refine lv_iushr hx hb dJ6_numberOfTrailingZeros_0f7a4_77 rfl ?_
            refine lv_as (y := (nI (((2 ^ tzN 14 S - 1) / 2 ^ 2) / 2 ^ 1))) (ni_ushr (by omega) (by omega)) ?_
            refine lv_iadd hx hb dJ6_numberOfTrailingZeros_0f7a4_78 ?_
            refine lv_as (y := (nI ((1 + 2) + (((2 ^ tzN 14 S - 1) / 2 ^ 2) / 2 ^ 1)))) (nI_add _ _) ?_
            exact pu_iret (y := yJ6_numberOfTrailingZeros_0f7a4) hx hb hr hlocks hS (by generalize tzN 14 S = t at ht c9 c23 c38 c52 c64 ⊢; rcases tz14 ht with rfl | rfl | rfl | rfl | rfl | rfl | rfl | rfl | rfl | rfl | rfl | rfl | rfl | rfl <;> first | decide +kernel | exact absurd c9 (by decide +kernel) | exact absurd c23 (by decide +kernel) | exact absurd c38 (by decide +kernel) | exact absurd c52 (by decide +kernel) | exact absurd c64 (by decide +kernel)) dJ6_numberOfTrailingZeros_0f7a4_79
        · refine lv_iinc (v := (nI (1 + 4))) (lv' := [(1, .int (nI (1 + 4))), (0, .int (nI (2 ^ tzN 14 S - 1)))]) hx hb dJ6_numberOfTrailingZeros_0f7a4_55 hl (k := 0) rfl (ni_incn _ 4) (by decide) rfl (fun ls hl => ?_)
          refine lv_iload_n hx hb dJ6_numberOfTrailingZeros_0f7a4_58 rfl (lv_at hl 1 rfl) ?_
          refine lv_iconst (v := nI 4) hx hb dJ6_numberOfTrailingZeros_0f7a4_59 (by decide) ?_
          refine lv_iushr hx hb dJ6_numberOfTrailingZeros_0f7a4_60 rfl ?_
          refine lv_as (y := (nI ((2 ^ tzN 14 S - 1) / 2 ^ 4))) (ni_ushr (by omega) (by omega)) ?_
          refine lv_istore_n (lv' := [(0, .int (nI ((2 ^ tzN 14 S - 1) / 2 ^ 4))), (1, .int (nI (1 + 4)))]) hx hb dJ6_numberOfTrailingZeros_0f7a4_61 rfl hl (by decide) rfl (fun ls hl => ?_)
          refine lv_iload_n hx hb dJ6_numberOfTrailingZeros_0f7a4_62 rfl (lv_at hl 0 rfl) ?_
          refine lv_iconst (v := nI 4) hx hb dJ6_numberOfTrailingZeros_0f7a4_63 (by decide) ?_
          refine n_le (a := ((2 ^ tzN 14 S - 1) / 2 ^ 4)) (b := 4) (tgt := 74) hx hb dJ6_numberOfTrailingZeros_0f7a4_64 (by decide) (by omega) (by omega) (fun c64 => ?_) (fun c64 => ?_)
          · refine lv_iload_n hx hb dJ6_numberOfTrailingZeros_0f7a4_74 rfl (lv_at hl 1 rfl) ?_
            refine lv_iload_n hx hb dJ6_numberOfTrailingZeros_0f7a4_75 rfl (lv_at hl 0 rfl) ?_
            refine lv_iconst (v := nI 1) hx hb dJ6_numberOfTrailingZeros_0f7a4_76 (by decide) ?_
            refine lv_iushr hx hb dJ6_numberOfTrailingZeros_0f7a4_77 rfl ?_
            refine lv_as (y := (nI (((2 ^ tzN 14 S - 1) / 2 ^ 4) / 2 ^ 1))) (ni_ushr (by omega) (by omega)) ?_
            refine lv_iadd hx hb dJ6_numberOfTrailingZeros_0f7a4_78 ?_
            refine lv_as (y := (nI ((1 + 4) + (((2 ^ tzN 14 S - 1) / 2 ^ 4) / 2 ^ 1)))) (nI_add _ _) ?_
            exact pu_iret (y := yJ6_numberOfTrailingZeros_0f7a4) hx hb hr hlocks hS (by generalize tzN 14 S = t at ht c9 c23 c38 c52 c64 ⊢; rcases tz14 ht with rfl | rfl | rfl | rfl | rfl | rfl | rfl | rfl | rfl | rfl | rfl | rfl | rfl | rfl <;> first | decide +kernel | exact absurd c9 (by decide +kernel) | exact absurd c23 (by decide +kernel) | exact absurd c38 (by decide +kernel) | exact absurd c52 (by decide +kernel) | exact absurd c64 (by decide +kernel)) dJ6_numberOfTrailingZeros_0f7a4_79
          · refine lv_iinc (v := (nI (1 + 4 + 2))) (lv' := [(1, .int (nI (1 + 4 + 2))), (0, .int (nI ((2 ^ tzN 14 S - 1) / 2 ^ 4)))]) hx hb dJ6_numberOfTrailingZeros_0f7a4_67 hl (k := 1) rfl (ni_incn _ 2) (by decide) rfl (fun ls hl => ?_)
            refine lv_iload_n hx hb dJ6_numberOfTrailingZeros_0f7a4_70 rfl (lv_at hl 1 rfl) ?_
            refine lv_iconst (v := nI 2) hx hb dJ6_numberOfTrailingZeros_0f7a4_71 (by decide) ?_
            refine lv_iushr hx hb dJ6_numberOfTrailingZeros_0f7a4_72 rfl ?_
            refine lv_as (y := (nI (((2 ^ tzN 14 S - 1) / 2 ^ 4) / 2 ^ 2))) (ni_ushr (by omega) (by omega)) ?_
            refine lv_istore_n (lv' := [(0, .int (nI (((2 ^ tzN 14 S - 1) / 2 ^ 4) / 2 ^ 2))), (1, .int (nI (1 + 4 + 2)))]) hx hb dJ6_numberOfTrailingZeros_0f7a4_73 rfl hl (by decide) rfl (fun ls hl => ?_)
            refine lv_iload_n hx hb dJ6_numberOfTrailingZeros_0f7a4_74 rfl (lv_at hl 1 rfl) ?_
            refine lv_iload_n hx hb dJ6_numberOfTrailingZeros_0f7a4_75 rfl (lv_at hl 0 rfl) ?_
            refine lv_iconst (v := nI 1) hx hb dJ6_numberOfTrailingZeros_0f7a4_76 (by decide) ?_
            refine lv_iushr hx hb dJ6_numberOfTrailingZeros_0f7a4_77 rfl ?_
            refine lv_as (y := (nI ((((2 ^ tzN 14 S - 1) / 2 ^ 4) / 2 ^ 2) / 2 ^ 1))) (ni_ushr (by omega) (by omega)) ?_
            refine lv_iadd hx hb dJ6_numberOfTrailingZeros_0f7a4_78 ?_
            refine lv_as (y := (nI ((1 + 4 + 2) + ((((2 ^ tzN 14 S - 1) / 2 ^ 4) / 2 ^ 2) / 2 ^ 1)))) (nI_add _ _) ?_
            exact pu_iret (y := yJ6_numberOfTrailingZeros_0f7a4) hx hb hr hlocks hS (by generalize tzN 14 S = t at ht c9 c23 c38 c52 c64 ⊢; rcases tz14 ht with rfl | rfl | rfl | rfl | rfl | rfl | rfl | rfl | rfl | rfl | rfl | rfl | rfl | rfl <;> first | decide +kernel | exact absurd c9 (by decide +kernel) | exact absurd c23 (by decide +kernel) | exact absurd c38 (by decide +kernel) | exact absurd c52 (by decide +kernel) | exact absurd c64 (by decide +kernel)) dJ6_numberOfTrailingZeros_0f7a4_79
      · refine lv_iinc (v := (nI (1 + 8))) (lv' := [(1, .int (nI (1 + 8))), (0, .int (nI (2 ^ tzN 14 S - 1)))]) hx hb dJ6_numberOfTrailingZeros_0f7a4_41 hl (k := 0) rfl (ni_incn _ 8) (by decide) rfl (fun ls hl => ?_)
        refine lv_iload_n hx hb dJ6_numberOfTrailingZeros_0f7a4_44 rfl (lv_at hl 1 rfl) ?_
        refine lv_bipush (v := nI 8) hx hb dJ6_numberOfTrailingZeros_0f7a4_45 (by decide) ?_
        refine lv_iushr hx hb dJ6_numberOfTrailingZeros_0f7a4_47 rfl ?_
        refine lv_as (y := (nI ((2 ^ tzN 14 S - 1) / 2 ^ 8))) (ni_ushr (by omega) (by omega)) ?_
        refine lv_istore_n (lv' := [(0, .int (nI ((2 ^ tzN 14 S - 1) / 2 ^ 8))), (1, .int (nI (1 + 8)))]) hx hb dJ6_numberOfTrailingZeros_0f7a4_48 rfl hl (by decide) rfl (fun ls hl => ?_)
        refine lv_iload_n hx hb dJ6_numberOfTrailingZeros_0f7a4_49 rfl (lv_at hl 0 rfl) ?_
        refine lv_bipush (v := nI 16) hx hb dJ6_numberOfTrailingZeros_0f7a4_50 (by decide) ?_
        refine n_le (a := ((2 ^ tzN 14 S - 1) / 2 ^ 8)) (b := 16) (tgt := 62) hx hb dJ6_numberOfTrailingZeros_0f7a4_52 (by decide) (by omega) (by omega) (fun c52 => ?_) (fun c52 => ?_)
        · refine lv_iload_n hx hb dJ6_numberOfTrailingZeros_0f7a4_62 rfl (lv_at hl 0 rfl) ?_
          refine lv_iconst (v := nI 4) hx hb dJ6_numberOfTrailingZeros_0f7a4_63 (by decide) ?_
          refine n_le (a := ((2 ^ tzN 14 S - 1) / 2 ^ 8)) (b := 4) (tgt := 74) hx hb dJ6_numberOfTrailingZeros_0f7a4_64 (by decide) (by omega) (by omega) (fun c64 => ?_) (fun c64 => ?_)
          · refine lv_iload_n hx hb dJ6_numberOfTrailingZeros_0f7a4_74 rfl (lv_at hl 1 rfl) ?_
            refine lv_iload_n hx hb dJ6_numberOfTrailingZeros_0f7a4_75 rfl (lv_at hl 0 rfl) ?_
            refine lv_iconst (v := nI 1) hx hb dJ6_numberOfTrailingZeros_0f7a4_76 (by decide) ?_
            refine lv_iushr hx hb dJ6_numberOfTrailingZeros_0f7a4_77 rfl ?_
            refine lv_as (y := (nI (((2 ^ tzN 14 S - 1) / 2 ^ 8) / 2 ^ 1))) (ni_ushr (by omega) (by omega)) ?_
            refine lv_iadd hx hb dJ6_numberOfTrailingZeros_0f7a4_78 ?_
            refine lv_as (y := (nI ((1 + 8) + (((2 ^ tzN 14 S - 1) / 2 ^ 8) / 2 ^ 1)))) (nI_add _ _) ?_
            exact pu_iret (y := yJ6_numberOfTrailingZeros_0f7a4) hx hb hr hlocks hS (by generalize tzN 14 S = t at ht c9 c23 c38 c52 c64 ⊢; rcases tz14 ht with rfl | rfl | rfl | rfl | rfl | rfl | rfl | rfl | rfl | rfl | rfl | rfl | rfl | rfl <;> first | decide +kernel | exact absurd c9 (by decide +kernel) | exact absurd c23 (by decide +kernel) | exact absurd c38 (by decide +kernel) | exact absurd c52 (by decide +kernel) | exact absurd c64 (by decide +kernel)) dJ6_numberOfTrailingZeros_0f7a4_79
          · refine lv_iinc (v := (nI (1 + 8 + 2))) (lv' := [(1, .int (nI (1 + 8 + 2))), (0, .int (nI ((2 ^ tzN 14 S - 1) / 2 ^ 8)))]) hx hb dJ6_numberOfTrailingZeros_0f7a4_67 hl (k := 1) rfl (ni_incn _ 2) (by decide) rfl (fun ls hl => ?_)
            refine lv_iload_n hx hb dJ6_numberOfTrailingZeros_0f7a4_70 rfl (lv_at hl 1 rfl) ?_
            refine lv_iconst (v := nI 2) hx hb dJ6_numberOfTrailingZeros_0f7a4_71 (by decide) ?_
            refine lv_iushr hx hb dJ6_numberOfTrailingZeros_0f7a4_72 rfl ?_
            refine lv_as (y := (nI (((2 ^ tzN 14 S - 1) / 2 ^ 8) / 2 ^ 2))) (ni_ushr (by omega) (by omega)) ?_
            refine lv_istore_n (lv' := [(0, .int (nI (((2 ^ tzN 14 S - 1) / 2 ^ 8) / 2 ^ 2))), (1, .int (nI (1 + 8 + 2)))]) hx hb dJ6_numberOfTrailingZeros_0f7a4_73 rfl hl (by decide) rfl (fun ls hl => ?_)
            refine lv_iload_n hx hb dJ6_numberOfTrailingZeros_0f7a4_74 rfl (lv_at hl 1 rfl) ?_
            refine lv_iload_n hx hb dJ6_numberOfTrailingZeros_0f7a4_75 rfl (lv_at hl 0 rfl) ?_
            refine lv_iconst (v := nI 1) hx hb dJ6_numberOfTrailingZeros_0f7a4_76 (by decide) ?_
            refine lv_iushr hx hb dJ6_numberOfTrailingZeros_0f7a4_77 rfl ?_
            refine lv_as (y := (nI ((((2 ^ tzN 14 S - 1) / 2 ^ 8) / 2 ^ 2) / 2 ^ 1))) (ni_ushr (by omega) (by omega)) ?_
            refine lv_iadd hx hb dJ6_numberOfTrailingZeros_0f7a4_78 ?_
            refine lv_as (y := (nI ((1 + 8 + 2) + ((((2 ^ tzN 14 S - 1) / 2 ^ 8) / 2 ^ 2) / 2 ^ 1)))) (nI_add _ _) ?_
            exact pu_iret (y := yJ6_numberOfTrailingZeros_0f7a4) hx hb hr hlocks hS (by generalize tzN 14 S = t at ht c9 c23 c38 c52 c64 ⊢; rcases tz14 ht with rfl | rfl | rfl | rfl | rfl | rfl | rfl | rfl | rfl | rfl | rfl | rfl | rfl | rfl <;> first | decide +kernel | exact absurd c9 (by decide +kernel) | exact absurd c23 (by decide +kernel) | exact absurd c38 (by decide +kernel) | exact absurd c52 (by decide +kernel) | exact absurd c64 (by decide +kernel)) dJ6_numberOfTrailingZeros_0f7a4_79
        · refine lv_iinc (v := (nI (1 + 8 + 4))) (lv' := [(1, .int (nI (1 + 8 + 4))), (0, .int (nI ((2 ^ tzN 14 S - 1) / 2 ^ 8)))]) hx hb dJ6_numberOfTrailingZeros_0f7a4_55 hl (k := 1) rfl (ni_incn _ 4) (by decide) rfl (fun ls hl => ?_)
          refine lv_iload_n hx hb dJ6_numberOfTrailingZeros_0f7a4_58 rfl (lv_at hl 1 rfl) ?_
          refine lv_iconst (v := nI 4) hx hb dJ6_numberOfTrailingZeros_0f7a4_59 (by decide) ?_
          refine lv_iushr hx hb dJ6_numberOfTrailingZeros_0f7a4_60 rfl ?_
          refine lv_as (y := (nI (((2 ^ tzN 14 S - 1) / 2 ^ 8) / 2 ^ 4))) (ni_ushr (by omega) (by omega)) ?_
          refine lv_istore_n (lv' := [(0, .int (nI (((2 ^ tzN 14 S - 1) / 2 ^ 8) / 2 ^ 4))), (1, .int (nI (1 + 8 + 4)))]) hx hb dJ6_numberOfTrailingZeros_0f7a4_61 rfl hl (by decide) rfl (fun ls hl => ?_)
          refine lv_iload_n hx hb dJ6_numberOfTrailingZeros_0f7a4_62 rfl (lv_at hl 0 rfl) ?_
          refine lv_iconst (v := nI 4) hx hb dJ6_numberOfTrailingZeros_0f7a4_63 (by decide) ?_
          refine n_le (a := (((2 ^ tzN 14 S - 1) / 2 ^ 8) / 2 ^ 4)) (b := 4) (tgt := 74) hx hb dJ6_numberOfTrailingZeros_0f7a4_64 (by decide) (by omega) (by omega) (fun c64 => ?_) (fun c64 => ?_)
          · refine lv_iload_n hx hb dJ6_numberOfTrailingZeros_0f7a4_74 rfl (lv_at hl 1 rfl) ?_
            refine lv_iload_n hx hb dJ6_numberOfTrailingZeros_0f7a4_75 rfl (lv_at hl 0 rfl) ?_
            refine lv_iconst (v := nI 1) hx hb dJ6_numberOfTrailingZeros_0f7a4_76 (by decide) ?_
            refine lv_iushr hx hb dJ6_numberOfTrailingZeros_0f7a4_77 rfl ?_
            refine lv_as (y := (nI ((((2 ^ tzN 14 S - 1) / 2 ^ 8) / 2 ^ 4) / 2 ^ 1))) (ni_ushr (by omega) (by omega)) ?_
            refine lv_iadd hx hb dJ6_numberOfTrailingZeros_0f7a4_78 ?_
            refine lv_as (y := (nI ((1 + 8 + 4) + ((((2 ^ tzN 14 S - 1) / 2 ^ 8) / 2 ^ 4) / 2 ^ 1)))) (nI_add _ _) ?_
            exact pu_iret (y := yJ6_numberOfTrailingZeros_0f7a4) hx hb hr hlocks hS (by generalize tzN 14 S = t at ht c9 c23 c38 c52 c64 ⊢; rcases tz14 ht with rfl | rfl | rfl | rfl | rfl | rfl | rfl | rfl | rfl | rfl | rfl | rfl | rfl | rfl <;> first | decide +kernel | exact absurd c9 (by decide +kernel) | exact absurd c23 (by decide +kernel) | exact absurd c38 (by decide +kernel) | exact absurd c52 (by decide +kernel) | exact absurd c64 (by decide +kernel)) dJ6_numberOfTrailingZeros_0f7a4_79
          · refine lv_iinc (v := (nI (1 + 8 + 4 + 2))) (lv' := [(1, .int (nI (1 + 8 + 4 + 2))), (0, .int (nI (((2 ^ tzN 14 S - 1) / 2 ^ 8) / 2 ^ 4)))]) hx hb dJ6_numberOfTrailingZeros_0f7a4_67 hl (k := 1) rfl (ni_incn _ 2) (by decide) rfl (fun ls hl => ?_)
            refine lv_iload_n hx hb dJ6_numberOfTrailingZeros_0f7a4_70 rfl (lv_at hl 1 rfl) ?_
            refine lv_iconst (v := nI 2) hx hb dJ6_numberOfTrailingZeros_0f7a4_71 (by decide) ?_
            refine lv_iushr hx hb dJ6_numberOfTrailingZeros_0f7a4_72 rfl ?_
            refine lv_as (y := (nI ((((2 ^ tzN 14 S - 1) / 2 ^ 8) / 2 ^ 4) / 2 ^ 2))) (ni_ushr (by omega) (by omega)) ?_
            refine lv_istore_n (lv' := [(0, .int (nI ((((2 ^ tzN 14 S - 1) / 2 ^ 8) / 2 ^ 4) / 2 ^ 2))), (1, .int (nI (1 + 8 + 4 + 2)))]) hx hb dJ6_numberOfTrailingZeros_0f7a4_73 rfl hl (by decide) rfl (fun ls hl => ?_)
            refine lv_iload_n hx hb dJ6_numberOfTrailingZeros_0f7a4_74 rfl (lv_at hl 1 rfl) ?_
            refine lv_iload_n hx hb dJ6_numberOfTrailingZeros_0f7a4_75 rfl (lv_at hl 0 rfl) ?_
            refine lv_iconst (v := nI 1) hx hb dJ6_numberOfTrailingZeros_0f7a4_76 (by decide) ?_
            refine lv_iushr hx hb dJ6_numberOfTrailingZeros_0f7a4_77 rfl ?_
            refine lv_as (y := (nI (((((2 ^ tzN 14 S - 1) / 2 ^ 8) / 2 ^ 4) / 2 ^ 2) / 2 ^ 1))) (ni_ushr (by omega) (by omega)) ?_
            refine lv_iadd hx hb dJ6_numberOfTrailingZeros_0f7a4_78 ?_
            refine lv_as (y := (nI ((1 + 8 + 4 + 2) + (((((2 ^ tzN 14 S - 1) / 2 ^ 8) / 2 ^ 4) / 2 ^ 2) / 2 ^ 1)))) (nI_add _ _) ?_
            exact pu_iret (y := yJ6_numberOfTrailingZeros_0f7a4) hx hb hr hlocks hS (by generalize tzN 14 S = t at ht c9 c23 c38 c52 c64 ⊢; rcases tz14 ht with rfl | rfl | rfl | rfl | rfl | rfl | rfl | rfl | rfl | rfl | rfl | rfl | rfl | rfl <;> first | decide +kernel | exact absurd c9 (by decide +kernel) | exact absurd c23 (by decide +kernel) | exact absurd c38 (by decide +kernel) | exact absurd c52 (by decide +kernel) | exact absurd c64 (by decide +kernel)) dJ6_numberOfTrailingZeros_0f7a4_79
    · refine lv_iinc (v := (nI (1 + 16))) (lv' := [(1, .int (nI (1 + 16))), (0, .int (nI (2 ^ tzN 14 S - 1)))]) hx hb dJ6_numberOfTrailingZeros_0f7a4_26 hl (k := 0) rfl (ni_incn _ 16) (by decide) rfl (fun ls hl => ?_)
      refine lv_iload_n hx hb dJ6_numberOfTrailingZeros_0f7a4_29 rfl (lv_at hl 1 rfl) ?_
      refine lv_bipush (v := nI 16) hx hb dJ6_numberOfTrailingZeros_0f7a4_30 (by decide) ?_
      refine lv_iushr hx hb dJ6_numberOfTrailingZeros_0f7a4_32 rfl ?_
      refine lv_as (y := (nI ((2 ^ tzN 14 S - 1) / 2 ^ 16))) (ni_ushr (by omega) (by omega)) ?_
      refine lv_istore_n (lv' := [(0, .int (nI ((2 ^ tzN 14 S - 1) / 2 ^ 16))), (1, .int (nI (1 + 16)))]) hx hb dJ6_numberOfTrailingZeros_0f7a4_33 rfl hl (by decide) rfl (fun ls hl => ?_)
      refine lv_iload_n hx hb dJ6_numberOfTrailingZeros_0f7a4_34 rfl (lv_at hl 0 rfl) ?_
      refine lv_sipush (v := nI 256) hx hb dJ6_numberOfTrailingZeros_0f7a4_35 (by decide) ?_
      refine n_le (a := ((2 ^ tzN 14 S - 1) / 2 ^ 16)) (b := 256) (tgt := 49) hx hb dJ6_numberOfTrailingZeros_0f7a4_38 (by decide) (by omega) (by omega) (fun c38 => ?_) (fun c38 => ?_)
      · refine lv_iload_n hx hb dJ6_numberOfTrailingZeros_0f7a4_49 rfl (lv_at hl 0 rfl) ?_
        refine lv_bipush (v := nI 16) hx hb dJ6_numberOfTrailingZeros_0f7a4_50 (by decide) ?_
        refine n_le (a := ((2 ^ tzN 14 S - 1) / 2 ^ 16)) (b := 16) (tgt := 62) hx hb dJ6_numberOfTrailingZeros_0f7a4_52 (by decide) (by omega) (by omega) (fun c52 => ?_) (fun c52 => ?_)
        · refine lv_iload_n hx hb dJ6_numberOfTrailingZeros_0f7a4_62 rfl (lv_at hl 0 rfl) ?_
          refine lv_iconst (v := nI 4) hx hb dJ6_numberOfTrailingZeros_0f7a4_63 (by decide) ?_
          refine n_le (a := ((2 ^ tzN 14 S - 1) / 2 ^ 16)) (b := 4) (tgt := 74) hx hb dJ6_numberOfTrailingZeros_0f7a4_64 (by decide) (by omega) (by omega) (fun c64 => ?_) (fun c64 => ?_)
          · refine lv_iload_n hx hb dJ6_numberOfTrailingZeros_0f7a4_74 rfl (lv_at hl 1 rfl) ?_
            refine lv_iload_n hx hb dJ6_numberOfTrailingZeros_0f7a4_75 rfl (lv_at hl 0 rfl) ?_
            refine lv_iconst (v := nI 1) hx hb dJ6_numberOfTrailingZeros_0f7a4_76 (by decide) ?_
            refine lv_iushr hx hb dJ6_numberOfTrailingZeros_0f7a4_77 rfl ?_
            refine lv_as (y := (nI (((2 ^ tzN 14 S - 1) / 2 ^ 16) / 2 ^ 1))) (ni_ushr (by omega) (by omega)) ?_
            refine lv_iadd hx hb dJ6_numberOfTrailingZeros_0f7a4_78 ?_
            refine lv_as (y := (nI ((1 + 16) + (((2 ^ tzN 14 S - 1) / 2 ^ 16) / 2 ^ 1)))) (nI_add _ _) ?_
            exact pu_iret (y := yJ6_numberOfTrailingZeros_0f7a4) hx hb hr hlocks hS (by generalize tzN 14 S = t at ht c9 c23 c38 c52 c64 ⊢; rcases tz14 ht with rfl | rfl | rfl | rfl | rfl | rfl | rfl | rfl | rfl | rfl | rfl | rfl | rfl | rfl <;> first | decide +kernel | exact absurd c9 (by decide +kernel) | exact absurd c23 (by decide +kernel) | exact absurd c38 (by decide +kernel) | exact absurd c52 (by decide +kernel) | exact absurd c64 (by decide +kernel)) dJ6_numberOfTrailingZeros_0f7a4_79
          · refine lv_iinc (v := (nI (1 + 16 + 2))) (lv' := [(1, .int (nI (1 + 16 + 2))), (0, .int (nI ((2 ^ tzN 14 S - 1) / 2 ^ 16)))]) hx hb dJ6_numberOfTrailingZeros_0f7a4_67 hl (k := 1) rfl (ni_incn _ 2) (by decide) rfl (fun ls hl => ?_)
            refine lv_iload_n hx hb dJ6_numberOfTrailingZeros_0f7a4_70 rfl (lv_at hl 1 rfl) ?_
            refine lv_iconst (v := nI 2) hx hb dJ6_numberOfTrailingZeros_0f7a4_71 (by decide) ?_
            refine lv_iushr hx hb dJ6_numberOfTrailingZeros_0f7a4_72 rfl ?_
            refine lv_as (y := (nI (((2 ^ tzN 14 S - 1) / 2 ^ 16) / 2 ^ 2))) (ni_ushr (by omega) (by omega)) ?_
            refine lv_istore_n (lv' := [(0, .int (nI (((2 ^ tzN 14 S - 1) / 2 ^ 16) / 2 ^ 2))), (1, .int (nI (1 + 16 + 2)))]) hx hb dJ6_numberOfTrailingZeros_0f7a4_73 rfl hl (by decide) rfl (fun ls hl => ?_)
            refine lv_iload_n hx hb dJ6_numberOfTrailingZeros_0f7a4_74 rfl (lv_at hl 1 rfl) ?_
            refine lv_iload_n hx hb dJ6_numberOfTrailingZeros_0f7a4_75 rfl (lv_at hl 0 rfl) ?_
            refine lv_iconst (v := nI 1) hx hb dJ6_numberOfTrailingZeros_0f7a4_76 (by decide) ?_
            refine lv_iushr hx hb dJ6_numberOfTrailingZeros_0f7a4_77 rfl ?_
            refine lv_as (y := (nI ((((2 ^ tzN 14 S - 1) / 2 ^ 16) / 2 ^ 2) / 2 ^ 1))) (ni_ushr (by omega) (by omega)) ?_
            refine lv_iadd hx hb dJ6_numberOfTrailingZeros_0f7a4_78 ?_
            refine lv_as (y := (nI ((1 + 16 + 2) + ((((2 ^ tzN 14 S - 1) / 2 ^ 16) / 2 ^ 2) / 2 ^ 1)))) (nI_add _ _) ?_
            exact pu_iret (y := yJ6_numberOfTrailingZeros_0f7a4) hx hb hr hlocks hS (by generalize tzN 14 S = t at ht c9 c23 c38 c52 c64 ⊢; rcases tz14 ht with rfl | rfl | rfl | rfl | rfl | rfl | rfl | rfl | rfl | rfl | rfl | rfl | rfl | rfl <;> first | decide +kernel | exact absurd c9 (by decide +kernel) | exact absurd c23 (by decide +kernel) | exact absurd c38 (by decide +kernel) | exact absurd c52 (by decide +kernel) | exact absurd c64 (by decide +kernel)) dJ6_numberOfTrailingZeros_0f7a4_79
        · refine lv_iinc (v := (nI (1 + 16 + 4))) (lv' := [(1, .int (nI (1 + 16 + 4))), (0, .int (nI ((2 ^ tzN 14 S - 1) / 2 ^ 16)))]) hx hb dJ6_numberOfTrailingZeros_0f7a4_55 hl (k := 1) rfl (ni_incn _ 4) (by decide) rfl (fun ls hl => ?_)
          refine lv_iload_n hx hb dJ6_numberOfTrailingZeros_0f7a4_58 rfl (lv_at hl 1 rfl) ?_
          refine lv_iconst (v := nI 4) hx hb dJ6_numberOfTrailingZeros_0f7a4_59 (by decide) ?_
          refine lv_iushr hx hb dJ6_numberOfTrailingZeros_0f7a4_60 rfl ?_
          refine lv_as (y := (nI (((2 ^ tzN 14 S - 1) / 2 ^ 16) / 2 ^ 4))) (ni_ushr (by omega) (by omega)) ?_
          refine lv_istore_n (lv' := [(0, .int (nI (((2 ^ tzN 14 S - 1) / 2 ^ 16) / 2 ^ 4))), (1, .int (nI (1 + 16 + 4)))]) hx hb dJ6_numberOfTrailingZeros_0f7a4_61 rfl hl (by decide) rfl (fun ls hl => ?_)
          refine lv_iload_n hx hb dJ6_numberOfTrailingZeros_0f7a4_62 rfl (lv_at hl 0 rfl) ?_
          refine lv_iconst (v := nI 4) hx hb dJ6_numberOfTrailingZeros_0f7a4_63 (by decide) ?_
          refine n_le (a := (((2 ^ tzN 14 S - 1) / 2 ^ 16) / 2 ^ 4)) (b := 4) (tgt := 74) hx hb dJ6_numberOfTrailingZeros_0f7a4_64 (by decide) (by omega) (by omega) (fun c64 => ?_) (fun c64 => ?_)
          · refine lv_iload_n hx hb dJ6_numberOfTrailingZeros_0f7a4_74 rfl (lv_at hl 1 rfl) ?_
            refine lv_iload_n hx hb dJ6_numberOfTrailingZeros_0f7a4_75 rfl (lv_at hl 0 rfl) ?_
            refine lv_iconst (v := nI 1) hx hb dJ6_numberOfTrailingZeros_0f7a4_76 (by decide) ?_
            refine lv_iushr hx hb dJ6_numberOfTrailingZeros_0f7a4_77 rfl ?_
            refine lv_as (y := (nI ((((2 ^ tzN 14 S - 1) / 2 ^ 16) / 2 ^ 4) / 2 ^ 1))) (ni_ushr (by omega) (by omega)) ?_
            refine lv_iadd hx hb dJ6_numberOfTrailingZeros_0f7a4_78 ?_
            refine lv_as (y := (nI ((1 + 16 + 4) + ((((2 ^ tzN 14 S - 1) / 2 ^ 16) / 2 ^ 4) / 2 ^ 1)))) (nI_add _ _) ?_
            exact pu_iret (y := yJ6_numberOfTrailingZeros_0f7a4) hx hb hr hlocks hS (by generalize tzN 14 S = t at ht c9 c23 c38 c52 c64 ⊢; rcases tz14 ht with rfl | rfl | rfl | rfl | rfl | rfl | rfl | rfl | rfl | rfl | rfl | rfl | rfl | rfl <;> first | decide +kernel | exact absurd c9 (by decide +kernel) | exact absurd c23 (by decide +kernel) | exact absurd c38 (by decide +kernel) | exact absurd c52 (by decide +kernel) | exact absurd c64 (by decide +kernel)) dJ6_numberOfTrailingZeros_0f7a4_79
          · refine lv_iinc (v := (nI (1 + 16 + 4 + 2))) (lv' := [(1, .int (nI (1 + 16 + 4 + 2))), (0, .int (nI (((2 ^ tzN 14 S - 1) / 2 ^ 16) / 2 ^ 4)))]) hx hb dJ6_numberOfTrailingZeros_0f7a4_67 hl (k := 1) rfl (ni_incn _ 2) (by decide) rfl (fun ls hl => ?_)
            refine lv_iload_n hx hb dJ6_numberOfTrailingZeros_0f7a4_70 rfl (lv_at hl 1 rfl) ?_
            refine lv_iconst (v := nI 2) hx hb dJ6_numberOfTrailingZeros_0f7a4_71 (by decide) ?_
            refine lv_iushr hx hb dJ6_numberOfTrailingZeros_0f7a4_72 rfl ?_
            refine lv_as (y := (nI ((((2 ^ tzN 14 S - 1) / 2 ^ 16) / 2 ^ 4) / 2 ^ 2))) (ni_ushr (by omega) (by omega)) ?_
            refine lv_istore_n (lv' := [(0, .int (nI ((((2 ^ tzN 14 S - 1) / 2 ^ 16) / 2 ^ 4) / 2 ^ 2))), (1, .int (nI (1 + 16 + 4 + 2)))]) hx hb dJ6_numberOfTrailingZeros_0f7a4_73 rfl hl (by decide) rfl (fun ls hl => ?_)
            refine lv_iload_n hx hb dJ6_numberOfTrailingZeros_0f7a4_74 rfl (lv_at hl 1 rfl) ?_
            refine lv_iload_n hx hb dJ6_numberOfTrailingZeros_0f7a4_75 rfl (lv_at hl 0 rfl) ?_
            refine lv_iconst (v := nI 1) hx hb dJ6_numberOfTrailingZeros_0f7a4_76 (by decide) ?_
            refine lv_iushr hx hb dJ6_numberOfTrailingZeros_0f7a4_77 rfl ?_
            refine lv_as (y := (nI (((((2 ^ tzN 14 S - 1) / 2 ^ 16) / 2 ^ 4) / 2 ^ 2) / 2 ^ 1))) (ni_ushr (by omega) (by omega)) ?_
            refine lv_iadd hx hb dJ6_numberOfTrailingZeros_0f7a4_78 ?_
            refine lv_as (y := (nI ((1 + 16 + 4 + 2) + (((((2 ^ tzN 14 S - 1) / 2 ^ 16) / 2 ^ 4) / 2 ^ 2) / 2 ^ 1)))) (nI_add _ _) ?_
            exact pu_iret (y := yJ6_numberOfTrailingZeros_0f7a4) hx hb hr hlocks hS (by generalize tzN 14 S = t at ht c9 c23 c38 c52 c64 ⊢; rcases tz14 ht with rfl | rfl | rfl | rfl | rfl | rfl | rfl | rfl | rfl | rfl | rfl | rfl | rfl | rfl <;> first | decide +kernel | exact absurd c9 (by decide +kernel) | exact absurd c23 (by decide +kernel) | exact absurd c38 (by decide +kernel) | exact absurd c52 (by decide +kernel) | exact absurd c64 (by decide +kernel)) dJ6_numberOfTrailingZeros_0f7a4_79
      · refine lv_iinc (v := (nI (1 + 16 + 8))) (lv' := [(1, .int (nI (1 + 16 + 8))), (0, .int (nI ((2 ^ tzN 14 S - 1) / 2 ^ 16)))]) hx hb dJ6_numberOfTrailingZeros_0f7a4_41 hl (k := 1) rfl (ni_incn _ 8) (by decide) rfl (fun ls hl => ?_)
        refine lv_iload_n hx hb dJ6_numberOfTrailingZeros_0f7a4_44 rfl (lv_at hl 1 rfl) ?_
        refine lv_bipush (v := nI 8) hx hb dJ6_numberOfTrailingZeros_0f7a4_45 (by decide) ?_
        refine lv_iushr hx hb dJ6_numberOfTrailingZeros_0f7a4_47 rfl ?_
        refine lv_as (y := (nI (((2 ^ tzN 14 S - 1) / 2 ^ 16) / 2 ^ 8))) (ni_ushr (by omega) (by omega)) ?_
        refine lv_istore_n (lv' := [(0, .int (nI (((2 ^ tzN 14 S - 1) / 2 ^ 16) / 2 ^ 8))), (1, .int (nI (1 + 16 + 8)))]) hx hb dJ6_numberOfTrailingZeros_0f7a4_48 rfl hl (by decide) rfl (fun ls hl => ?_)
        refine lv_iload_n hx hb dJ6_numberOfTrailingZeros_0f7a4_49 rfl (lv_at hl 0 rfl) ?_
        refine lv_bipush (v := nI 16) hx hb dJ6_numberOfTrailingZeros_0f7a4_50 (by decide) ?_
        refine n_le (a := (((2 ^ tzN 14 S - 1) / 2 ^ 16) / 2 ^ 8)) (b := 16) (tgt := 62) hx hb dJ6_numberOfTrailingZeros_0f7a4_52 (by decide) (by omega) (by omega) (fun c52 => ?_) (fun c52 => ?_)
        · refine lv_iload_n hx hb dJ6_numberOfTrailingZeros_0f7a4_62 rfl (lv_at hl 0 rfl) ?_
          refine lv_iconst (v := nI 4) hx hb dJ6_numberOfTrailingZeros_0f7a4_63 (by decide) ?_
          refine n_le (a := (((2 ^ tzN 14 S - 1) / 2 ^ 16) / 2 ^ 8)) (b := 4) (tgt := 74) hx hb dJ6_numberOfTrailingZeros_0f7a4_64 (by decide) (by omega) (by omega) (fun c64 => ?_) (fun c64 => ?_)
          · refine lv_iload_n hx hb dJ6_numberOfTrailingZeros_0f7a4_74 rfl (lv_at hl 1 rfl) ?_
            refine lv_iload_n hx hb dJ6_numberOfTrailingZeros_0f7a4_75 rfl (lv_at hl 0 rfl) ?_
            refine lv_iconst (v := nI 1) hx hb dJ6_numberOfTrailingZeros_0f7a4_76 (by decide) ?_
            refine lv_iushr hx hb dJ6_numberOfTrailingZeros_0f7a4_77 rfl ?_
            refine lv_as (y := (nI ((((2 ^ tzN 14 S - 1) / 2 ^ 16) / 2 ^ 8) / 2 ^ 1))) (ni_ushr (by omega) (by omega)) ?_
            refine lv_iadd hx hb dJ6_numberOfTrailingZeros_0f7a4_78 ?_
            refine lv_as (y := (nI ((1 + 16 + 8) + ((((2 ^ tzN 14 S - 1) / 2 ^ 16) / 2 ^ 8) / 2 ^ 1)))) (nI_add _ _) ?_
            exact pu_iret (y := yJ6_numberOfTrailingZeros_0f7a4) hx hb hr hlocks hS (by generalize tzN 14 S = t at ht c9 c23 c38 c52 c64 ⊢; rcases tz14 ht with rfl | rfl | rfl | rfl | rfl | rfl | rfl | rfl | rfl | rfl | rfl | rfl | rfl | rfl <;> first | decide +kernel | exact absurd c9 (by decide +kernel) | exact absurd c23 (by decide +kernel) | exact absurd c38 (by decide +kernel) | exact absurd c52 (by decide +kernel) | exact absurd c64 (by decide +kernel)) dJ6_numberOfTrailingZeros_0f7a4_79
          · refine lv_iinc (v := (nI (1 + 16 + 8 + 2))) (lv' := [(1, .int (nI (1 + 16 + 8 + 2))), (0, .int (nI (((2 ^ tzN 14 S - 1) / 2 ^ 16) / 2 ^ 8)))]) hx hb dJ6_numberOfTrailingZeros_0f7a4_67 hl (k := 1) rfl (ni_incn _ 2) (by decide) rfl (fun ls hl => ?_)
            refine lv_iload_n hx hb dJ6_numberOfTrailingZeros_0f7a4_70 rfl (lv_at hl 1 rfl) ?_
            refine lv_iconst (v := nI 2) hx hb dJ6_numberOfTrailingZeros_0f7a4_71 (by decide) ?_
            refine lv_iushr hx hb dJ6_numberOfTrailingZeros_0f7a4_72 rfl ?_
            refine lv_as (y := (nI ((((2 ^ tzN 14 S - 1) / 2 ^ 16) / 2 ^ 8) / 2 ^ 2))) (ni_ushr (by omega) (by omega)) ?_
            refine lv_istore_n (lv' := [(0, .int (nI ((((2 ^ tzN 14 S - 1) / 2 ^ 16) / 2 ^ 8) / 2 ^ 2))), (1, .int (nI (1 + 16 + 8 + 2)))]) hx hb dJ6_numberOfTrailingZeros_0f7a4_73 rfl hl (by decide) rfl (fun ls hl => ?_)
            refine lv_iload_n hx hb dJ6_numberOfTrailingZeros_0f7a4_74 rfl (lv_at hl 1 rfl) ?_
            refine lv_iload_n hx hb dJ6_numberOfTrailingZeros_0f7a4_75 rfl (lv_at hl 0 rfl) ?_
            refine lv_iconst (v := nI 1) hx hb dJ6_numberOfTrailingZeros_0f7a4_76 (by decide) ?_
            refine lv_iushr hx hb dJ6_numberOfTrailingZeros_0f7a4_77 rfl ?_
            refine lv_as (y := (nI (((((2 ^ tzN 14 S - 1) / 2 ^ 16) / 2 ^ 8) / 2 ^ 2) / 2 ^ 1))) (ni_ushr (by omega) (by omega)) ?_
            refine lv_iadd hx hb dJ6_numberOfTrailingZeros_0f7a4_78 ?_
            refine lv_as (y := (nI ((1 + 16 + 8 + 2) + (((((2 ^ tzN 14 S - 1) / 2 ^ 16) / 2 ^ 8) / 2 ^ 2) / 2 ^ 1)))) (nI_add _ _) ?_
            exact pu_iret (y := yJ6_numberOfTrailingZeros_0f7a4) hx hb hr hlocks hS (by generalize tzN 14 S = t at ht c9 c23 c38 c52 c64 ⊢; rcases tz14 ht with rfl | rfl | rfl | rfl | rfl | rfl | rfl | rfl | rfl | rfl | rfl | rfl | rfl | rfl <;> first | decide +kernel | exact absurd c9 (by decide +kernel) | exact absurd c23 (by decide +kernel) | exact absurd c38 (by decide +kernel) | exact absurd c52 (by decide +kernel) | exact absurd c64 (by decide +kernel)) dJ6_numberOfTrailingZeros_0f7a4_79
        · refine lv_iinc (v := (nI (1 + 16 + 8 + 4))) (lv' := [(1, .int (nI (1 + 16 + 8 + 4))), (0, .int (nI (((2 ^ tzN 14 S - 1) / 2 ^ 16) / 2 ^ 8)))]) hx hb dJ6_numberOfTrailingZeros_0f7a4_55 hl (k := 1) rfl (ni_incn _ 4) (by decide) rfl (fun ls hl => ?_)
          refine lv_iload_n hx hb dJ6_numberOfTrailingZeros_0f7a4_58 rfl (lv_at hl 1 rfl) ?_
          refine lv_iconst (v := nI 4) hx hb dJ6_numberOfTrailingZeros_0f7a4_59 (by decide) ?_
          refine lv_iushr hx hb dJ6_numberOfTrailingZeros_0f7a4_60 rfl ?_
          refine lv_as (y := (nI ((((2 ^ tzN 14 S - 1) / 2 ^ 16) / 2 ^ 8) / 2 ^ 4))) (ni_ushr (by omega) (by omega)) ?_
          refine lv_istore_n (lv' := [(0, .int (nI ((((2 ^ tzN 14 S - 1) / 2 ^ 16) / 2 ^ 8) / 2 ^ 4))), (1, .int (nI (1 + 16 + 8 + 4)))]) hx hb dJ6_numberOfTrailingZeros_0f7a4_61 rfl hl (by decide) rfl (fun ls hl => ?_)
          refine lv_iload_n hx hb dJ6_numberOfTrailingZeros_0f7a4_62 rfl (lv_at hl 0 rfl) ?_
          refine lv_iconst (v := nI 4) hx hb dJ6_numberOfTrailingZeros_0f7a4_63 (by decide) ?_
          refine n_le (a := ((((2 ^ tzN 14 S - 1) / 2 ^ 16) / 2 ^ 8) / 2 ^ 4)) (b := 4) (tgt := 74) hx hb dJ6_numberOfTrailingZeros_0f7a4_64 (by decide) (by omega) (by omega) (fun c64 => ?_) (fun c64 => ?_)
          · refine lv_iload_n hx hb dJ6_numberOfTrailingZeros_0f7a4_74 rfl (lv_at hl 1 rfl) ?_
            refine lv_iload_n hx hb dJ6_numberOfTrailingZeros_0f7a4_75 rfl (lv_at hl 0 rfl) ?_
            refine lv_iconst (v := nI 1) hx hb dJ6_numberOfTrailingZeros_0f7a4_76 (by decide) ?_
            refine lv_iushr hx hb dJ6_numberOfTrailingZeros_0f7a4_77 rfl ?_
            refine lv_as (y := (nI (((((2 ^ tzN 14 S - 1) / 2 ^ 16) / 2 ^ 8) / 2 ^ 4) / 2 ^ 1))) (ni_ushr (by omega) (by omega)) ?_
            refine lv_iadd hx hb dJ6_numberOfTrailingZeros_0f7a4_78 ?_
            refine lv_as (y := (nI ((1 + 16 + 8 + 4) + (((((2 ^ tzN 14 S - 1) / 2 ^ 16) / 2 ^ 8) / 2 ^ 4) / 2 ^ 1)))) (nI_add _ _) ?_
            exact pu_iret (y := yJ6_numberOfTrailingZeros_0f7a4) hx hb hr hlocks hS (by generalize tzN 14 S = t at ht c9 c23 c38 c52 c64 ⊢; rcases tz14 ht with rfl | rfl | rfl | rfl | rfl | rfl | rfl | rfl | rfl | rfl | rfl | rfl | rfl | rfl <;> first | decide +kernel | exact absurd c9 (by decide +kernel) | exact absurd c23 (by decide +kernel) | exact absurd c38 (by decide +kernel) | exact absurd c52 (by decide +kernel) | exact absurd c64 (by decide +kernel)) dJ6_numberOfTrailingZeros_0f7a4_79
          · refine lv_iinc (v := (nI (1 + 16 + 8 + 4 + 2))) (lv' := [(1, .int (nI (1 + 16 + 8 + 4 + 2))), (0, .int (nI ((((2 ^ tzN 14 S - 1) / 2 ^ 16) / 2 ^ 8) / 2 ^ 4)))]) hx hb dJ6_numberOfTrailingZeros_0f7a4_67 hl (k := 1) rfl (ni_incn _ 2) (by decide) rfl (fun ls hl => ?_)
            refine lv_iload_n hx hb dJ6_numberOfTrailingZeros_0f7a4_70 rfl (lv_at hl 1 rfl) ?_
            refine lv_iconst (v := nI 2) hx hb dJ6_numberOfTrailingZeros_0f7a4_71 (by decide) ?_
            refine lv_iushr hx hb dJ6_numberOfTrailingZeros_0f7a4_72 rfl ?_
            refine lv_as (y := (nI (((((2 ^ tzN 14 S - 1) / 2 ^ 16) / 2 ^ 8) / 2 ^ 4) / 2 ^ 2))) (ni_ushr (by omega) (by omega)) ?_
            refine lv_istore_n (lv' := [(0, .int (nI (((((2 ^ tzN 14 S - 1) / 2 ^ 16) / 2 ^ 8) / 2 ^ 4) / 2 ^ 2))), (1, .int (nI (1 + 16 + 8 + 4 + 2)))]) hx hb dJ6_numberOfTrailingZeros_0f7a4_73 rfl hl (by decide) rfl (fun ls hl => ?_)
            refine lv_iload_n hx hb dJ6_numberOfTrailingZeros_0f7a4_74 rfl (lv_at hl 1 rfl) ?_
            refine lv_iload_n hx hb dJ6_numberOfTrailingZeros_0f7a4_75 rfl (lv_at hl 0 rfl) ?_
            refine lv_iconst (v := nI 1) hx hb dJ6_numberOfTrailingZeros_0f7a4_76 (by decide) ?_
            refine lv_iushr hx hb dJ6_numberOfTrailingZeros_0f7a4_77 rfl ?_
            refine lv_as (y := (nI ((((((2 ^ tzN 14 S - 1) / 2 ^ 16) / 2 ^ 8) / 2 ^ 4) / 2 ^ 2) / 2 ^ 1))) (ni_ushr (by omega) (by omega)) ?_
            refine lv_iadd hx hb dJ6_numberOfTrailingZeros_0f7a4_78 ?_
            refine lv_as (y := (nI ((1 + 16 + 8 + 4 + 2) + ((((((2 ^ tzN 14 S - 1) / 2 ^ 16) / 2 ^ 8) / 2 ^ 4) / 2 ^ 2) / 2 ^ 1)))) (nI_add _ _) ?_
            exact pu_iret (y := yJ6_numberOfTrailingZeros_0f7a4) hx hb hr hlocks hS (by generalize tzN 14 S = t at ht c9 c23 c38 c52 c64 ⊢; rcases tz14 ht with rfl | rfl | rfl | rfl | rfl | rfl | rfl | rfl | rfl | rfl | rfl | rfl | rfl | rfl <;> first | decide +kernel | exact absurd c9 (by decide +kernel) | exact absurd c23 (by decide +kernel) | exact absurd c38 (by decide +kernel) | exact absurd c52 (by decide +kernel) | exact absurd c64 (by decide +kernel)) dJ6_numberOfTrailingZeros_0f7a4_79
  · refine lv_iload_n hx hb dJ6_numberOfTrailingZeros_0f7a4_12 rfl (lv_at hl 0 rfl) ?_
    refine lv_bipush (v := nI 32) hx hb dJ6_numberOfTrailingZeros_0f7a4_13 (by decide) ?_
    refine lv_iand hx hb dJ6_numberOfTrailingZeros_0f7a4_15 ?_
    refine lv_as (y := (nI ((2 ^ tzN 14 S - 1) &&& 32))) (ni_and _ _) ?_
    exact pu_iret (y := yJ6_numberOfTrailingZeros_0f7a4) hx hb hr hlocks hS (by generalize tzN 14 S = t at ht c9 ⊢; rcases tz14 ht with rfl | rfl | rfl | rfl | rfl | rfl | rfl | rfl | rfl | rfl | rfl | rfl | rfl | rfl <;> first | decide +kernel | exact absurd c9 (by decide +kernel)) dJ6_numberOfTrailingZeros_0f7a4_16

set_option maxHeartbeats 4000000 in
set_option maxRecDepth 100000 in
theorem c_J6_lowestOneBit_0f7a4 (l : Launch) (D : va_G) (cy : Nat → ClassId) {S : Nat} (hS9 : S < 16384) : PU l yJ6_lowestOneBit_0f7a4 wsJ6_lowestOneBit_0f7a4 ({ frames := 0, cells := 0, slots := 0, locals := 0 }) D cy [.int (nI S)] [] ((nI (loN S))) := by
  refine Met.ofW (cc := cJ6_lowestOneBit_0f7a4) (maxL := 1) (ret := (some .int)) (by decide) rfl ?_
  intro p ev s m args below meth c s₁ B hml hv
  obtain ⟨rfl, hK, hP⟩ := hv
  have hx := B.exec
  have hb := B.bytes
  have hr := B.returns
  have hts := atoms_spec (ws := wsJ6_lowestOneBit_0f7a4) B.pre
  have hown : s.vm.findClass RJ6 = some m.cls := findClass_of_methodNamed B.named
  have hlocks := B.notSynchronized
  have hS : va_S (fun _ => False) s.heap s.heap [] := va_S.rf
  have hP : va_P D vwCl [] s.heap := hP
  have hl := lv_entry ([.int (nI S)]) (n := 1) (Nat.le_of_ble_eq_true rfl)
  rw [lg_entry_eq]
  generalize (lg_sl ([.int (nI S)]) ++ List.replicate (1 - (lg_sl ([.int (nI S)])).length) Slot.unset).toArray = ls at hl ⊢
  have hl : lv_has ls 1 [(0, .int (nI S))] := hl
  have hgen := True.intro
  refine lv_iload_n hx hb dJ6_lowestOneBit_0f7a4_0 rfl (lv_at hl 0 rfl) ?_
  refine lv_iload_n hx hb dJ6_lowestOneBit_0f7a4_1 rfl (lv_at hl 0 rfl) ?_
  refine lv_ineg hx hb dJ6_lowestOneBit_0f7a4_2 ?_
  refine lv_iand hx hb dJ6_lowestOneBit_0f7a4_3 ?_
  refine lv_as (y := (nI (loN S))) (lo_ok hS9) ?_
  exact pu_iret (y := yJ6_lowestOneBit_0f7a4) hx hb hr hlocks hS (by first | rfl | (simp [bI, *]; done) | (simp_all [bI]; done)) dJ6_lowestOneBit_0f7a4_4

set_option maxHeartbeats 4000000 in
set_option maxRecDepth 100000 in
theorem c_allows3 (l : Launch) (D : va_G) (cy : Nat → ClassId) (ad : Nat → Nat) (ch : Int32) {g : GT} (hg : gOK g) {S : Nat} (hS9 : S < 2 ^ gE g) : PU l yX1_allows wsX1_allows ({ frames := 3, cells := 0, slots := 0, locals := 73 }) D cy [.ref (ad 7), .int (nI S)] (wK3 cy ad ch g) ((bI (decide (rA g S = ms_card 14 S)))) := by
  refine Met.ofW (cc := cX1_allows) (maxL := 2) (ret := (some .boolean)) (by decide) rfl ?_
  intro p ev s m args below meth c s₁ B hml hv
  obtain ⟨rfl, hK, hP⟩ := hv
  have hx := B.exec
  have hb := B.bytes
  have hr := B.returns
  have hts := atoms_spec (ws := wsX1_allows) B.pre
  have hown : s.vm.findClass RX1 = some m.cls := findClass_of_methodNamed B.named
  have hlocks := B.notSynchronized
  have hS : va_S (fun _ => False) s.heap s.heap [] := va_S.rf
  have hP : va_P D vwCl (wK3 cy ad ch g) s.heap := hP
  have inX0 : ∀ w ∈ wsX00, w ∈ wsX1_allows := by decide +kernel
  have inX3 : ∀ w ∈ wsX30, w ∈ wsX1_allows := by decide +kernel
  have hl := lv_entry ([.ref (ad 7), .int (nI S)]) (n := 2) (Nat.le_of_ble_eq_true rfl)
  rw [lg_entry_eq]
  generalize (lg_sl ([.ref (ad 7), .int (nI S)]) ++ List.replicate (2 - (lg_sl ([.ref (ad 7), .int (nI S)])).length) Slot.unset).toArray = ls at hl ⊢
  have hl : lv_has ls 2 [(0, .ref (ad 7)), (1, .int (nI S))] := hl
  have hgen := True.intro
  have hE := hg.2.2.1
  have hV := hg.1
  have hC := hg.2.1
  have hS8 : 2 ^ gE g ≤ 2 ^ 14 := Nat.pow_le_pow_right (by decide) hE
  have hrk := rA_le g S
  have hcd := ms_card_le 14 S
  refine lv_aload_n hx hb dX1_allows_0 rfl (lv_at hl 0 rfl) ?_
  refine lv_iload_n hx hb dX1_allows_1 rfl (lv_at hl 1 rfl) ?_
  refine pu_call (va_runU (As := [.int (nI S)]) (rest := []) ⟨hx, hb, hml, hown, hts⟩ (c_X3_rankOf l D cy ad ch hg (S := S) (by omega)) (va_cwA 1 hts gX1_allows_X3_rankOf_u13X3 rfl rfl rfl (hK.2 _ (List.mem_of_getElem? (i := 6) rfl)) (by decide +kernel) ⟨Nat.le_of_ble_eq_true rfl, Nat.le_of_ble_eq_true rfl⟩) (PU_preV (ci := 2) (q0 := 0) hK hP 0 rfl rfl [0, 1, 2, 3, 4, 5, 6] rfl) rfl rfl hl.1 rfl (lv_room (Nat.le_of_ble_eq_true rfl)) dX1_allows_2 ⟨(Nat.zero_le _), (Nat.zero_le _)⟩) hS hP (fun H locs hP hS => ?_)
  refine lv_iload_n hx hb dX1_allows_5 rfl (lv_at hl 1 rfl) ?_
  refine pu_call (va_runS (As := [.int (nI S)]) (rest := [.int (nI (rA g S))]) ⟨hx, hb, hml, hown, hts⟩ (c_J6_bitCount_0f7a4 l D cy (S := S) (by omega)) (va_cwS 1 hts gX1_allows_J6_bitCount_0f7a4 rfl rfl rfl (by decide +kernel) ⟨Nat.le_of_ble_eq_true rfl, Nat.le_of_ble_eq_true rfl⟩) (PU_preS hK hP [] rfl) rfl rfl hl.1 rfl (lv_room (Nat.le_of_ble_eq_true rfl)) dX1_allows_6 ⟨(Nat.zero_le _), (Nat.zero_le _)⟩) hS hP (fun H locs hP hS => ?_)
  refine n_ne (a := (rA g S)) (b := (ms_card 14 S)) (tgt := 16) hx hb dX1_allows_9 (by decide) (by omega) (by omega) (fun c9 => ?_) (fun c9 => ?_)
  · refine lv_iconst (v := nI 0) hx hb dX1_allows_16 (by decide) ?_
    exact pu_zret hx hb hr hlocks hS (by first | (rw [decide_eq_true c9]; rfl) | (rw [decide_eq_false c9]; rfl)) dX1_allows_17
  · refine lv_iconst (v := nI 1) hx hb dX1_allows_12 (by decide) ?_
    refine lv_goto (tgt := 17) hx hb dX1_allows_13 (by decide) ?_
    exact pu_zret hx hb hr hlocks hS (by first | (rw [decide_eq_true c9]; rfl) | (rw [decide_eq_false c9]; rfl)) dX1_allows_17

set_option maxHeartbeats 4000000 in
set_option maxRecDepth 100000 in
theorem c_circuitWithin3 (l : Launch) (D : va_G) (cy : Nat → ClassId) (ad : Nat → Nat) (ch : Int32) {g : GT} (hg : gOK g) {S : Nat} (hS9 : S < 2 ^ gE g) : PU l yX1_circuitWithin wsX1_circuitWithin ({ frames := 3, cells := 0, slots := 0, locals := 73 }) D cy [.ref (ad 7), .int (nI S)] (wK3 cy ad ch g) ((nI (cirN (rA g) (gE g) S))) := by
  refine Met.ofW (cc := cX1_circuitWithin) (maxL := 6) (ret := (some .int)) (by decide) rfl ?_
  intro p ev s m args below meth c s₁ B hml hv
  obtain ⟨rfl, hK, hP⟩ := hv
  have hx := B.exec
  have hb := B.bytes
  have hr := B.returns
  have hts := atoms_spec (ws := wsX1_circuitWithin) B.pre
  have hown : s.vm.findClass RX1 = some m.cls := findClass_of_methodNamed B.named
  have hlocks := B.notSynchronized
  have hS : va_S (fun _ => False) s.heap s.heap [] := va_S.rf
  have hP : va_P D vwCl (wK3 cy ad ch g) s.heap := hP
  have inX0 : ∀ w ∈ wsX00, w ∈ wsX1_circuitWithin := by decide +kernel
  have inX3 : ∀ w ∈ wsX30, w ∈ wsX1_circuitWithin := by decide +kernel
  have hl := lv_entry ([.ref (ad 7), .int (nI S)]) (n := 6) (Nat.le_of_ble_eq_true rfl)
  rw [lg_entry_eq]
  generalize (lg_sl ([.ref (ad 7), .int (nI S)]) ++ List.replicate (6 - (lg_sl ([.ref (ad 7), .int (nI S)])).length) Slot.unset).toArray = ls at hl ⊢
  have hl : lv_has ls 6 [(0, .ref (ad 7)), (1, .int (nI S))] := hl
  have hgen := True.intro
  have hE := hg.2.2.1
  have hV := hg.1
  have hC := hg.2.1
  have hS8 : 2 ^ gE g ≤ 2 ^ 14 := Nat.pow_le_pow_right (by decide) hE
  have hrk := rA_le g S
  refine lv_aload_n hx hb dX1_circuitWithin_0 rfl (lv_at hl 0 rfl) ?_
  refine lv_iload_n hx hb dX1_circuitWithin_1 rfl (lv_at hl 1 rfl) ?_
  refine pu_call (va_runU (As := [.int (nI S)]) (rest := []) ⟨hx, hb, hml, hown, hts⟩ (c_X3_rankOf l D cy ad ch hg (S := S) (by omega)) (va_cwA 1 hts gX1_circuitWithin_X3_rankOf_u13X3 rfl rfl rfl (hK.2 _ (List.mem_of_getElem? (i := 6) rfl)) (by decide +kernel) ⟨Nat.le_of_ble_eq_true rfl, Nat.le_of_ble_eq_true rfl⟩) (PU_preV (ci := 2) (q0 := 0) hK hP 0 rfl rfl [0, 1, 2, 3, 4, 5, 6] rfl) rfl rfl hl.1 rfl (lv_room (Nat.le_of_ble_eq_true rfl)) dX1_circuitWithin_2 ⟨(Nat.zero_le _), (Nat.zero_le _)⟩) hS hP (fun H locs hP hS => ?_)
  refine lv_istore_n (lv' := [(2, .int (nI (rA g S))), (0, .ref (ad 7)), (1, .int (nI S))]) hx hb dX1_circuitWithin_5 rfl hl (by decide) rfl (fun ls hl => ?_)
  refine lv_iconst (v := nI 0) hx hb dX1_circuitWithin_6 (by decide) ?_
  refine lv_istore_n (lv' := [(3, .int (nI 0)), (2, .int (nI (rA g S))), (0, .ref (ad 7)), (1, .int (nI S))]) hx hb dX1_circuitWithin_7 rfl hl (by decide) rfl (fun ls hl => ?_)
  refine lv_iconst (v := nI 0) hx hb dX1_circuitWithin_8 (by decide) ?_
  refine lv_istore (lv' := [(4, .int (nI 0)), (3, .int (nI 0)), (2, .int (nI (rA g S))), (0, .ref (ad 7)), (1, .int (nI S))]) hx hb dX1_circuitWithin_9 hl (by decide) rfl (fun ls hl => ?_)
  have L11 : ∀ (n : Nat) (e : Nat), e ≤ gE g ∧ gE g + 1 ≤ e + n → ∀ (H : Heap) (locs : List Loc), va_P D vwCl (wK3 cy ad ch g) H → va_S (fun _ => False) s.heap H locs → ∀ (ls : Array Slot), lv_has ls 6 [(0, .ref (ad 7)), (1, .int (nI S)), (2, .int (nI (rA g S))), (3, .int (nI (ms_mk e (cirP (rA g) S)))), (4, .int (nI e))] → W p l ev (headSpec wsX1_circuitWithin ({ frames := 3, cells := 0, slots := 0, locals := 73 })).room s m [.ref (ad 7), .int (nI S)].toArray below meth c H locs 0 0 (MQ below (va_Qi (fun (x : Int32) (_ : Unit) => x = (nI (cirN (rA g) (gE g) S))) (fun _ _ => True) (fun _ => False)) [.ref (ad 7), .int (nI S)].toArray s 0 0 (fun _ => False)) (F0 m 11 ls []) := by
    intro n
    induction n with
    | zero =>
      intro e hfuel  H locs hP hS ls hl
      exact absurd hfuel.2 (by have := hfuel.1; omega)
    | succ n ih11 =>
      intro e hfuel  H locs hP hS ls hl
      obtain ⟨hfu1, hfu2⟩ := hfuel
      have hrk2 := rA_le g (ms_sd S (2 ^ e))
      refine lv_iload hx hb dX1_circuitWithin_11 (lv_at hl 4 rfl) ?_
      refine lv_aload_n hx hb dX1_circuitWithin_13 rfl (lv_at hl 0 rfl) ?_
      refine va_get (D := D) (ci := 2) (v := .ref (ad 1)) (C := RX3) (T := TX3) (N := 1) hx hb hts inX3 hown hK.1 hP 0 rfl rfl 0 (by decide) (hts (.fieldLink RX1 7 "ColourForests$Kind" "graph" "LColourForests$Graph;") (List.mem_of_getElem? (i := 1) rfl)) (fun _ h9 => h9) rfl dX1_circuitWithin_14 ?_
      refine va_get (D := D) (ci := 0) (v := .int (nI (gE g))) (C := RX0) (T := TX0) (N := 9) hx hb hts inX0 hown hK.1 hP 1 rfl rfl 2 (by decide) (hts (.fieldLink RX1 22 "ColourForests$Graph" "edges" "I") (List.mem_of_getElem? (i := 2) rfl)) (fun _ h9 => h9) rfl dX1_circuitWithin_17 ?_
      refine n_ge (a := e) (b := (gE g)) (tgt := 61) hx hb dX1_circuitWithin_20 (by decide) (by omega) (by omega) (fun c20 => ?_) (fun c20 => ?_)
      · refine lv_iload_n hx hb dX1_circuitWithin_61 rfl (lv_at hl 3 rfl) ?_
        exact pu_iret (y := yX1_circuitWithin) hx hb hr hlocks hS (by rw [show e = gE g by omega]; rfl) dX1_circuitWithin_62
      · refine lv_iconst (v := nI 1) hx hb dX1_circuitWithin_23 (by decide) ?_
        refine lv_iload hx hb dX1_circuitWithin_24 (lv_at hl 4 rfl) ?_
        refine lv_ishl hx hb dX1_circuitWithin_26 ?_
        refine lv_as (y := (nI (2 ^ e))) (ni_bit (by omega)) ?_
        refine lv_istore (lv' := [(5, .int (nI (2 ^ e))), (0, .ref (ad 7)), (1, .int (nI S)), (2, .int (nI (rA g S))), (3, .int (nI (ms_mk e (cirP (rA g) S)))), (4, .int (nI e))]) hx hb dX1_circuitWithin_27 hl (by decide) rfl (fun ls hl => ?_)
        refine lv_iload_n hx hb dX1_circuitWithin_29 rfl (lv_at hl 2 rfl) ?_
        refine lv_iload hx hb dX1_circuitWithin_30 (lv_at hl 0 rfl) ?_
        refine lv_iand hx hb dX1_circuitWithin_32 ?_
        refine lv_as (y := (nI (S &&& (2 ^ e)))) (ni_and _ _) ?_
        refine lv_if_eq (tgt := 55) hx hb dX1_circuitWithin_33 (by decide) (fun c33 => ?_) (fun c33 => ?_)
        · have c33 := (and_bit (by omega)).mp c33
          refine lv_iinc (v := (nI (e + 1))) (lv' := [(4, .int (nI (e + 1))), (5, .int (nI (2 ^ e))), (0, .ref (ad 7)), (1, .int (nI S)), (2, .int (nI (rA g S))), (3, .int (nI (ms_mk e (cirP (rA g) S))))]) hx hb dX1_circuitWithin_55 hl (k := 5) rfl (ni_inc _) (by decide) rfl (fun ls hl => ?_)
          refine lv_goto (tgt := 11) hx hb dX1_circuitWithin_58 (by decide) ?_
          exact ih11 (e + 1) ⟨by omega, by omega⟩  _ _ hP hS _ (by first | (rw [ms_mk_n (cirP_f (Or.inl c33))]; exact lv_sub hl [2, 3, 4, 5, 0] rfl) | (rw [ms_mk_n (cirP_f (Or.inr c47))]; exact lv_sub hl [2, 3, 4, 5, 0] rfl) | (rw [ms_mk_y (cirP_t c33 c47)]; exact lv_sub hl [2, 3, 4, 5, 0] rfl))
        · have c33 := and_bit_t (by omega) c33
          refine lv_aload_n hx hb dX1_circuitWithin_36 rfl (lv_at hl 1 rfl) ?_
          refine lv_iload_n hx hb dX1_circuitWithin_37 rfl (lv_at hl 2 rfl) ?_
          refine lv_iload hx hb dX1_circuitWithin_38 (lv_at hl 0 rfl) ?_
          refine lv_iconst (v := zI (-1)) hx hb dX1_circuitWithin_40 (by decide) ?_
          refine lv_ixor hx hb dX1_circuitWithin_41 ?_
          refine lv_iand hx hb dX1_circuitWithin_42 ?_
          refine lv_as (y := (nI (ms_sd S (2 ^ e)))) (ni_sdz _ _) ?_
          refine pu_call (va_runU (As := [.int (nI (ms_sd S (2 ^ e)))]) (rest := []) ⟨hx, hb, hml, hown, hts⟩ (c_X3_rankOf l D cy ad ch hg (S := ms_sd S (2 ^ e)) (ms_sd_lt hS9)) (va_cwA 1 hts gX1_circuitWithin_X3_rankOf_u13X3 rfl rfl rfl (hK.2 _ (List.mem_of_getElem? (i := 6) rfl)) (by decide +kernel) ⟨Nat.le_of_ble_eq_true rfl, Nat.le_of_ble_eq_true rfl⟩) (PU_preV (ci := 2) (q0 := 0) hK hP 0 rfl rfl [0, 1, 2, 3, 4, 5, 6] rfl) rfl rfl hl.1 rfl (lv_room (Nat.le_of_ble_eq_true rfl)) dX1_circuitWithin_43 ⟨(Nat.zero_le _), (Nat.zero_le _)⟩) hS hP (fun H locs hP hS => ?_)
          refine lv_iload_n hx hb dX1_circuitWithin_46 rfl (lv_at hl 3 rfl) ?_
          refine n_ne (a := (rA g (ms_sd S (2 ^ e)))) (b := (rA g S)) (tgt := 55) hx hb dX1_circuitWithin_47 (by decide) (by omega) (by omega) (fun c47 => ?_) (fun c47 => ?_)
          · refine lv_iinc (v := (nI (e + 1))) (lv' := [(4, .int (nI (e + 1))), (5, .int (nI (2 ^ e))), (0, .ref (ad 7)), (1, .int (nI S)), (2, .int (nI (rA g S))), (3, .int (nI (ms_mk e (cirP (rA g) S))))]) hx hb dX1_circuitWithin_55 hl (k := 5) rfl (ni_inc _) (by decide) rfl (fun ls hl => ?_)
            refine lv_goto (tgt := 11) hx hb dX1_circuitWithin_58 (by decide) ?_
            exact ih11 (e + 1) ⟨by omega, by omega⟩  _ _ hP hS _ (by first | (rw [ms_mk_n (cirP_f (Or.inl c33))]; exact lv_sub hl [2, 3, 4, 5, 0] rfl) | (rw [ms_mk_n (cirP_f (Or.inr c47))]; exact lv_sub hl [2, 3, 4, 5, 0] rfl) | (rw [ms_mk_y (cirP_t c33 c47)]; exact lv_sub hl [2, 3, 4, 5, 0] rfl))
          · refine lv_iload_n hx hb dX1_circuitWithin_50 rfl (lv_at hl 4 rfl) ?_
            refine lv_iload hx hb dX1_circuitWithin_51 (lv_at hl 0 rfl) ?_
            refine lv_ior hx hb dX1_circuitWithin_53 ?_
            refine lv_as (y := (nI ((ms_mk e (cirP (rA g) S)) ||| (2 ^ e)))) (ni_or _ _) ?_
            refine lv_istore_n (lv' := [(3, .int (nI ((ms_mk e (cirP (rA g) S)) ||| (2 ^ e)))), (5, .int (nI (2 ^ e))), (0, .ref (ad 7)), (1, .int (nI S)), (2, .int (nI (rA g S))), (4, .int (nI e))]) hx hb dX1_circuitWithin_54 rfl hl (by decide) rfl (fun ls hl => ?_)
            refine lv_iinc (v := (nI (e + 1))) (lv' := [(4, .int (nI (e + 1))), (3, .int (nI ((ms_mk e (cirP (rA g) S)) ||| (2 ^ e)))), (5, .int (nI (2 ^ e))), (0, .ref (ad 7)), (1, .int (nI S)), (2, .int (nI (rA g S)))]) hx hb dX1_circuitWithin_55 hl (k := 5) rfl (ni_inc _) (by decide) rfl (fun ls hl => ?_)
            refine lv_goto (tgt := 11) hx hb dX1_circuitWithin_58 (by decide) ?_
            exact ih11 (e + 1) ⟨by omega, by omega⟩  _ _ hP hS _ (by first | (rw [ms_mk_n (cirP_f (Or.inl c33))]; exact lv_sub hl [3, 4, 5, 1, 0] rfl) | (rw [ms_mk_n (cirP_f (Or.inr c47))]; exact lv_sub hl [3, 4, 5, 1, 0] rfl) | (rw [ms_mk_y (cirP_t c33 c47)]; exact lv_sub hl [3, 4, 5, 1, 0] rfl))
  exact L11 (gE g + 1) 0 ⟨by omega, by omega⟩  _ _ hP hS _ (lv_sub hl [3, 4, 2, 1, 0] rfl)

set_option maxHeartbeats 4000000 in
set_option maxRecDepth 100000 in
theorem c_closureOf3 (l : Launch) (D : va_G) (cy : Nat → ClassId) (ad : Nat → Nat) (ch : Int32) {g : GT} (hg : gOK g) {S : Nat} (hS9 : S < 2 ^ gE g) : PU l yX1_closureOf wsX1_closureOf ({ frames := 3, cells := 0, slots := 0, locals := 73 }) D cy [.ref (ad 7), .int (nI S)] (wK3 cy ad ch g) ((nI (cloN (rA g) (gE g) S))) := by
  refine Met.ofW (cc := cX1_closureOf) (maxL := 6) (ret := (some .int)) (by decide) rfl ?_
  intro p ev s m args below meth c s₁ B hml hv
  obtain ⟨rfl, hK, hP⟩ := hv
  have hx := B.exec
  have hb := B.bytes
  have hr := B.returns
  have hts := atoms_spec (ws := wsX1_closureOf) B.pre
  have hown : s.vm.findClass RX1 = some m.cls := findClass_of_methodNamed B.named
  have hlocks := B.notSynchronized
  have hS : va_S (fun _ => False) s.heap s.heap [] := va_S.rf
  have hP : va_P D vwCl (wK3 cy ad ch g) s.heap := hP
  have inX0 : ∀ w ∈ wsX00, w ∈ wsX1_closureOf := by decide +kernel
  have inX3 : ∀ w ∈ wsX30, w ∈ wsX1_closureOf := by decide +kernel
  have hl := lv_entry ([.ref (ad 7), .int (nI S)]) (n := 6) (Nat.le_of_ble_eq_true rfl)
  rw [lg_entry_eq]
  generalize (lg_sl ([.ref (ad 7), .int (nI S)]) ++ List.replicate (6 - (lg_sl ([.ref (ad 7), .int (nI S)])).length) Slot.unset).toArray = ls at hl ⊢
  have hl : lv_has ls 6 [(0, .ref (ad 7)), (1, .int (nI S))] := hl
  have hgen := True.intro
  have hE := hg.2.2.1
  have hV := hg.1
  have hC := hg.2.1
  have hS8 : 2 ^ gE g ≤ 2 ^ 14 := Nat.pow_le_pow_right (by decide) hE
  have hrk := rA_le g S
  refine lv_aload_n hx hb dX1_closureOf_0 rfl (lv_at hl 0 rfl) ?_
  refine lv_iload_n hx hb dX1_closureOf_1 rfl (lv_at hl 1 rfl) ?_
  refine pu_call (va_runU (As := [.int (nI S)]) (rest := []) ⟨hx, hb, hml, hown, hts⟩ (c_X3_rankOf l D cy ad ch hg (S := S) (by omega)) (va_cwA 1 hts gX1_closureOf_X3_rankOf_u13X3 rfl rfl rfl (hK.2 _ (List.mem_of_getElem? (i := 6) rfl)) (by decide +kernel) ⟨Nat.le_of_ble_eq_true rfl, Nat.le_of_ble_eq_true rfl⟩) (PU_preV (ci := 2) (q0 := 0) hK hP 0 rfl rfl [0, 1, 2, 3, 4, 5, 6] rfl) rfl rfl hl.1 rfl (lv_room (Nat.le_of_ble_eq_true rfl)) dX1_closureOf_2 ⟨(Nat.zero_le _), (Nat.zero_le _)⟩) hS hP (fun H locs hP hS => ?_)
  refine lv_istore_n (lv' := [(2, .int (nI (rA g S))), (0, .ref (ad 7)), (1, .int (nI S))]) hx hb dX1_closureOf_5 rfl hl (by decide) rfl (fun ls hl => ?_)
  refine lv_iload_n hx hb dX1_closureOf_6 rfl (lv_at hl 2 rfl) ?_
  refine lv_istore_n (lv' := [(3, .int (nI S)), (2, .int (nI (rA g S))), (0, .ref (ad 7)), (1, .int (nI S))]) hx hb dX1_closureOf_7 rfl hl (by decide) rfl (fun ls hl => ?_)
  refine lv_iconst (v := nI 0) hx hb dX1_closureOf_8 (by decide) ?_
  refine lv_istore (lv' := [(4, .int (nI 0)), (3, .int (nI S)), (2, .int (nI (rA g S))), (0, .ref (ad 7)), (1, .int (nI S))]) hx hb dX1_closureOf_9 hl (by decide) rfl (fun ls hl => ?_)
  have L11 : ∀ (n : Nat) (e : Nat), e ≤ gE g ∧ gE g + 1 ≤ e + n → ∀ (H : Heap) (locs : List Loc), va_P D vwCl (wK3 cy ad ch g) H → va_S (fun _ => False) s.heap H locs → ∀ (ls : Array Slot), lv_has ls 6 [(0, .ref (ad 7)), (1, .int (nI S)), (2, .int (nI (rA g S))), (3, .int (nI (S ||| ms_mk e (cloP (rA g) S)))), (4, .int (nI e))] → W p l ev (headSpec wsX1_closureOf ({ frames := 3, cells := 0, slots := 0, locals := 73 })).room s m [.ref (ad 7), .int (nI S)].toArray below meth c H locs 0 0 (MQ below (va_Qi (fun (x : Int32) (_ : Unit) => x = (nI (cloN (rA g) (gE g) S))) (fun _ _ => True) (fun _ => False)) [.ref (ad 7), .int (nI S)].toArray s 0 0 (fun _ => False)) (F0 m 11 ls []) := by
    intro n
    induction n with
    | zero =>
      intro e hfuel  H locs hP hS ls hl
      exact absurd hfuel.2 (by have := hfuel.1; omega)
    | succ n ih11 =>
      intro e hfuel  H locs hP hS ls hl
      obtain ⟨hfu1, hfu2⟩ := hfuel
      have hrk2 := rA_le g (S ||| 2 ^ e)
      refine lv_iload hx hb dX1_closureOf_11 (lv_at hl 4 rfl) ?_
      refine lv_aload_n hx hb dX1_closureOf_13 rfl (lv_at hl 0 rfl) ?_
      refine va_get (D := D) (ci := 2) (v := .ref (ad 1)) (C := RX3) (T := TX3) (N := 1) hx hb hts inX3 hown hK.1 hP 0 rfl rfl 0 (by decide) (hts (.fieldLink RX1 7 "ColourForests$Kind" "graph" "LColourForests$Graph;") (List.mem_of_getElem? (i := 1) rfl)) (fun _ h9 => h9) rfl dX1_closureOf_14 ?_
      refine va_get (D := D) (ci := 0) (v := .int (nI (gE g))) (C := RX0) (T := TX0) (N := 9) hx hb hts inX0 hown hK.1 hP 1 rfl rfl 2 (by decide) (hts (.fieldLink RX1 22 "ColourForests$Graph" "edges" "I") (List.mem_of_getElem? (i := 2) rfl)) (fun _ h9 => h9) rfl dX1_closureOf_17 ?_
      refine n_ge (a := e) (b := (gE g)) (tgt := 52) hx hb dX1_closureOf_20 (by decide) (by omega) (by omega) (fun c20 => ?_) (fun c20 => ?_)
      · refine lv_iload_n hx hb dX1_closureOf_52 rfl (lv_at hl 3 rfl) ?_
        exact pu_iret (y := yX1_closureOf) hx hb hr hlocks hS (by rw [show e = gE g by omega]; rfl) dX1_closureOf_53
      · refine lv_iconst (v := nI 1) hx hb dX1_closureOf_23 (by decide) ?_
        refine lv_iload hx hb dX1_closureOf_24 (lv_at hl 4 rfl) ?_
        refine lv_ishl hx hb dX1_closureOf_26 ?_
        refine lv_as (y := (nI (2 ^ e))) (ni_bit (by omega)) ?_
        refine lv_istore (lv' := [(5, .int (nI (2 ^ e))), (0, .ref (ad 7)), (1, .int (nI S)), (2, .int (nI (rA g S))), (3, .int (nI (S ||| ms_mk e (cloP (rA g) S)))), (4, .int (nI e))]) hx hb dX1_closureOf_27 hl (by decide) rfl (fun ls hl => ?_)
        refine lv_aload_n hx hb dX1_closureOf_29 rfl (lv_at hl 1 rfl) ?_
        refine lv_iload_n hx hb dX1_closureOf_30 rfl (lv_at hl 2 rfl) ?_
        refine lv_iload hx hb dX1_closureOf_31 (lv_at hl 0 rfl) ?_
        refine lv_ior hx hb dX1_closureOf_33 ?_
        refine lv_as (y := (nI (S ||| (2 ^ e)))) (ni_or _ _) ?_
        refine pu_call (va_runU (As := [.int (nI (S ||| (2 ^ e)))]) (rest := []) ⟨hx, hb, hml, hown, hts⟩ (c_X3_rankOf l D cy ad ch hg (S := S ||| (2 ^ e)) (ms_ins_lt hS9 (by omega))) (va_cwA 1 hts gX1_closureOf_X3_rankOf_u13X3 rfl rfl rfl (hK.2 _ (List.mem_of_getElem? (i := 6) rfl)) (by decide +kernel) ⟨Nat.le_of_ble_eq_true rfl, Nat.le_of_ble_eq_true rfl⟩) (PU_preV (ci := 2) (q0 := 0) hK hP 0 rfl rfl [0, 1, 2, 3, 4, 5, 6] rfl) rfl rfl hl.1 rfl (lv_room (Nat.le_of_ble_eq_true rfl)) dX1_closureOf_34 ⟨(Nat.zero_le _), (Nat.zero_le _)⟩) hS hP (fun H locs hP hS => ?_)
        refine lv_iload_n hx hb dX1_closureOf_37 rfl (lv_at hl 3 rfl) ?_
        refine n_ne (a := (rA g (S ||| (2 ^ e)))) (b := (rA g S)) (tgt := 46) hx hb dX1_closureOf_38 (by decide) (by omega) (by omega) (fun c38 => ?_) (fun c38 => ?_)
        · refine lv_iinc (v := (nI (e + 1))) (lv' := [(4, .int (nI (e + 1))), (5, .int (nI (2 ^ e))), (0, .ref (ad 7)), (1, .int (nI S)), (2, .int (nI (rA g S))), (3, .int (nI (S ||| ms_mk e (cloP (rA g) S))))]) hx hb dX1_closureOf_46 hl (k := 5) rfl (ni_inc _) (by decide) rfl (fun ls hl => ?_)
          refine lv_goto (tgt := 11) hx hb dX1_closureOf_49 (by decide) ?_
          exact ih11 (e + 1) ⟨by omega, by omega⟩  _ _ hP hS _ (by first | (rw [ms_mk_n (cloP_f c38)]; exact lv_sub hl [2, 3, 4, 5, 0] rfl) | (rw [ms_mk_y (cloP_t c38), ← Nat.or_assoc]; exact lv_sub hl [2, 3, 4, 5, 0] rfl))
        · refine lv_iload_n hx hb dX1_closureOf_41 rfl (lv_at hl 4 rfl) ?_
          refine lv_iload hx hb dX1_closureOf_42 (lv_at hl 0 rfl) ?_
          refine lv_ior hx hb dX1_closureOf_44 ?_
          refine lv_as (y := (nI ((S ||| ms_mk e (cloP (rA g) S)) ||| (2 ^ e)))) (ni_or _ _) ?_
          refine lv_istore_n (lv' := [(3, .int (nI ((S ||| ms_mk e (cloP (rA g) S)) ||| (2 ^ e)))), (5, .int (nI (2 ^ e))), (0, .ref (ad 7)), (1, .int (nI S)), (2, .int (nI (rA g S))), (4, .int (nI e))]) hx hb dX1_closureOf_45 rfl hl (by decide) rfl (fun ls hl => ?_)
          refine lv_iinc (v := (nI (e + 1))) (lv' := [(4, .int (nI (e + 1))), (3, .int (nI ((S ||| ms_mk e (cloP (rA g) S)) ||| (2 ^ e)))), (5, .int (nI (2 ^ e))), (0, .ref (ad 7)), (1, .int (nI S)), (2, .int (nI (rA g S)))]) hx hb dX1_closureOf_46 hl (k := 5) rfl (ni_inc _) (by decide) rfl (fun ls hl => ?_)
          refine lv_goto (tgt := 11) hx hb dX1_closureOf_49 (by decide) ?_
          exact ih11 (e + 1) ⟨by omega, by omega⟩  _ _ hP hS _ (by first | (rw [ms_mk_n (cloP_f c38)]; exact lv_sub hl [3, 4, 5, 1, 0] rfl) | (rw [ms_mk_y (cloP_t c38), ← Nat.or_assoc]; exact lv_sub hl [3, 4, 5, 1, 0] rfl))
  exact L11 (gE g + 1) 0 ⟨by omega, by omega⟩  _ _ hP hS _ (by rw [show ms_mk 0 _ = 0 from rfl, Nat.or_zero]; exact lv_sub hl [3, 4, 2, 1, 0] rfl)

set_option maxHeartbeats 4000000 in
set_option maxRecDepth 100000 in
theorem c_allows2 (l : Launch) (D : va_G) (cy : Nat → ClassId) (ad : Nat → Nat) (ch : Int32) {g : GT} (hg : gOK g) {S : Nat} (hS9 : S < 2 ^ gE g) : PU l yX1_allows wsX1_allows ({ frames := 3, cells := 0, slots := 0, locals := 69 }) D cy [.ref (ad 8), .int (nI S)] (wK2 cy ad ch g) ((bI (decide (rB g S = ms_card 14 S)))) := by
  refine Met.ofW (cc := cX1_allows) (maxL := 2) (ret := (some .boolean)) (by decide) rfl ?_
  intro p ev s m args below meth c s₁ B hml hv
  obtain ⟨rfl, hK, hP⟩ := hv
  have hx := B.exec
  have hb := B.bytes
  have hr := B.returns
  have hts := atoms_spec (ws := wsX1_allows) B.pre
  have hown : s.vm.findClass RX1 = some m.cls := findClass_of_methodNamed B.named
  have hlocks := B.notSynchronized
  have hS : va_S (fun _ => False) s.heap s.heap [] := va_S.rf
  have hP : va_P D vwCl (wK2 cy ad ch g) s.heap := hP
  have inX0 : ∀ w ∈ wsX00, w ∈ wsX1_allows := by decide +kernel
  have inX2 : ∀ w ∈ wsX20, w ∈ wsX1_allows := by decide +kernel
  have hl := lv_entry ([.ref (ad 8), .int (nI S)]) (n := 2) (Nat.le_of_ble_eq_true rfl)
  rw [lg_entry_eq]
  generalize (lg_sl ([.ref (ad 8), .int (nI S)]) ++ List.replicate (2 - (lg_sl ([.ref (ad 8), .int (nI S)])).length) Slot.unset).toArray = ls at hl ⊢
  have hl : lv_has ls 2 [(0, .ref (ad 8)), (1, .int (nI S))] := hl
  have hgen := True.intro
  have hE := hg.2.2.1
  have hV := hg.1
  have hC := hg.2.1
  have hS8 : 2 ^ gE g ≤ 2 ^ 14 := Nat.pow_le_pow_right (by decide) hE
  have hrk := rB_le g S
  have hcd := ms_card_le 14 S
  refine lv_aload_n hx hb dX1_allows_0 rfl (lv_at hl 0 rfl) ?_
  refine lv_iload_n hx hb dX1_allows_1 rfl (lv_at hl 1 rfl) ?_
  refine pu_call (va_runU (As := [.int (nI S)]) (rest := []) ⟨hx, hb, hml, hown, hts⟩ (c_X2_rankOf l D cy ad ch hg (S := S) (by omega)) (va_cwA 1 hts gX1_allows_X2_rankOf_u13X2 rfl rfl rfl (hK.2 _ (List.mem_of_getElem? (i := 6) rfl)) (by decide +kernel) ⟨Nat.le_of_ble_eq_true rfl, Nat.le_of_ble_eq_true rfl⟩) (PU_preV (ci := 1) (q0 := 0) hK hP 0 rfl rfl [0, 1, 2, 3, 4, 5, 6] rfl) rfl rfl hl.1 rfl (lv_room (Nat.le_of_ble_eq_true rfl)) dX1_allows_2 ⟨(Nat.zero_le _), (Nat.zero_le _)⟩) hS hP (fun H locs hP hS => ?_)
  refine lv_iload_n hx hb dX1_allows_5 rfl (lv_at hl 1 rfl) ?_
  refine pu_call (va_runS (As := [.int (nI S)]) (rest := [.int (nI (rB g S))]) ⟨hx, hb, hml, hown, hts⟩ (c_J6_bitCount_0f7a4 l D cy (S := S) (by omega)) (va_cwS 1 hts gX1_allows_J6_bitCount_0f7a4 rfl rfl rfl (by decide +kernel) ⟨Nat.le_of_ble_eq_true rfl, Nat.le_of_ble_eq_true rfl⟩) (PU_preS hK hP [] rfl) rfl rfl hl.1 rfl (lv_room (Nat.le_of_ble_eq_true rfl)) dX1_allows_6 ⟨(Nat.zero_le _), (Nat.zero_le _)⟩) hS hP (fun H locs hP hS => ?_)
  refine n_ne (a := (rB g S)) (b := (ms_card 14 S)) (tgt := 16) hx hb dX1_allows_9 (by decide) (by omega) (by omega) (fun c9 => ?_) (fun c9 => ?_)
  · refine lv_iconst (v := nI 0) hx hb dX1_allows_16 (by decide) ?_
    exact pu_zret hx hb hr hlocks hS (by first | (rw [decide_eq_true c9]; rfl) | (rw [decide_eq_false c9]; rfl)) dX1_allows_17
  · refine lv_iconst (v := nI 1) hx hb dX1_allows_12 (by decide) ?_
    refine lv_goto (tgt := 17) hx hb dX1_allows_13 (by decide) ?_
    exact pu_zret hx hb hr hlocks hS (by first | (rw [decide_eq_true c9]; rfl) | (rw [decide_eq_false c9]; rfl)) dX1_allows_17

set_option maxHeartbeats 4000000 in
set_option maxRecDepth 100000 in
theorem c_circuitWithin2 (l : Launch) (D : va_G) (cy : Nat → ClassId) (ad : Nat → Nat) (ch : Int32) {g : GT} (hg : gOK g) {S : Nat} (hS9 : S < 2 ^ gE g) : PU l yX1_circuitWithin wsX1_circuitWithin ({ frames := 3, cells := 0, slots := 0, locals := 69 }) D cy [.ref (ad 8), .int (nI S)] (wK2 cy ad ch g) ((nI (cirN (rB g) (gE g) S))) := by
  refine Met.ofW (cc := cX1_circuitWithin) (maxL := 6) (ret := (some .int)) (by decide) rfl ?_
  intro p ev s m args below meth c s₁ B hml hv
  obtain ⟨rfl, hK, hP⟩ := hv
  have hx := B.exec
  have hb := B.bytes
  have hr := B.returns
  have hts := atoms_spec (ws := wsX1_circuitWithin) B.pre
  have hown : s.vm.findClass RX1 = some m.cls := findClass_of_methodNamed B.named
  have hlocks := B.notSynchronized
  have hS : va_S (fun _ => False) s.heap s.heap [] := va_S.rf
  have hP : va_P D vwCl (wK2 cy ad ch g) s.heap := hP
  have inX0 : ∀ w ∈ wsX00, w ∈ wsX1_circuitWithin := by decide +kernel
  have inX2 : ∀ w ∈ wsX20, w ∈ wsX1_circuitWithin := by decide +kernel
  have hl := lv_entry ([.ref (ad 8), .int (nI S)]) (n := 6) (Nat.le_of_ble_eq_true rfl)
  rw [lg_entry_eq]
  generalize (lg_sl ([.ref (ad 8), .int (nI S)]) ++ List.replicate (6 - (lg_sl ([.ref (ad 8), .int (nI S)])).length) Slot.unset).toArray = ls at hl ⊢
  have hl : lv_has ls 6 [(0, .ref (ad 8)), (1, .int (nI S))] := hl
  have hgen := True.intro
  have hE := hg.2.2.1
  have hV := hg.1
  have hC := hg.2.1
  have hS8 : 2 ^ gE g ≤ 2 ^ 14 := Nat.pow_le_pow_right (by decide) hE
  have hrk := rB_le g S
  refine lv_aload_n hx hb dX1_circuitWithin_0 rfl (lv_at hl 0 rfl) ?_
  refine lv_iload_n hx hb dX1_circuitWithin_1 rfl (lv_at hl 1 rfl) ?_
  refine pu_call (va_runU (As := [.int (nI S)]) (rest := []) ⟨hx, hb, hml, hown, hts⟩ (c_X2_rankOf l D cy ad ch hg (S := S) (by omega)) (va_cwA 1 hts gX1_circuitWithin_X2_rankOf_u13X2 rfl rfl rfl (hK.2 _ (List.mem_of_getElem? (i := 6) rfl)) (by decide +kernel) ⟨Nat.le_of_ble_eq_true rfl, Nat.le_of_ble_eq_true rfl⟩) (PU_preV (ci := 1) (q0 := 0) hK hP 0 rfl rfl [0, 1, 2, 3, 4, 5, 6] rfl) rfl rfl hl.1 rfl (lv_room (Nat.le_of_ble_eq_true rfl)) dX1_circuitWithin_2 ⟨(Nat.zero_le _), (Nat.zero_le _)⟩) hS hP (fun H locs hP hS => ?_)
  refine lv_istore_n (lv' := [(2, .int (nI (rB g S))), (0, .ref (ad 8)), (1, .int (nI S))]) hx hb dX1_circuitWithin_5 rfl hl (by decide) rfl (fun ls hl => ?_)
  refine lv_iconst (v := nI 0) hx hb dX1_circuitWithin_6 (by decide) ?_
  refine lv_istore_n (lv' := [(3, .int (nI 0)), (2, .int (nI (rB g S))), (0, .ref (ad 8)), (1, .int (nI S))]) hx hb dX1_circuitWithin_7 rfl hl (by decide) rfl (fun ls hl => ?_)
  refine lv_iconst (v := nI 0) hx hb dX1_circuitWithin_8 (by decide) ?_
  refine lv_istore (lv' := [(4, .int (nI 0)), (3, .int (nI 0)), (2, .int (nI (rB g S))), (0, .ref (ad 8)), (1, .int (nI S))]) hx hb dX1_circuitWithin_9 hl (by decide) rfl (fun ls hl => ?_)
  have L11 : ∀ (n : Nat) (e : Nat), e ≤ gE g ∧ gE g + 1 ≤ e + n → ∀ (H : Heap) (locs : List Loc), va_P D vwCl (wK2 cy ad ch g) H → va_S (fun _ => False) s.heap H locs → ∀ (ls : Array Slot), lv_has ls 6 [(0, .ref (ad 8)), (1, .int (nI S)), (2, .int (nI (rB g S))), (3, .int (nI (ms_mk e (cirP (rB g) S)))), (4, .int (nI e))] → W p l ev (headSpec wsX1_circuitWithin ({ frames := 3, cells := 0, slots := 0, locals := 69 })).room s m [.ref (ad 8), .int (nI S)].toArray below meth c H locs 0 0 (MQ below (va_Qi (fun (x : Int32) (_ : Unit) => x = (nI (cirN (rB g) (gE g) S))) (fun _ _ => True) (fun _ => False)) [.ref (ad 8), .int (nI S)].toArray s 0 0 (fun _ => False)) (F0 m 11 ls []) := by
    intro n
    induction n with
    | zero =>
      intro e hfuel  H locs hP hS ls hl
      exact absurd hfuel.2 (by have := hfuel.1; omega)
    | succ n ih11 =>
      intro e hfuel  H locs hP hS ls hl
      obtain ⟨hfu1, hfu2⟩ := hfuel
      have hrk2 := rB_le g (ms_sd S (2 ^ e))
      refine lv_iload hx hb dX1_circuitWithin_11 (lv_at hl 4 rfl) ?_
      refine lv_aload_n hx hb dX1_circuitWithin_13 rfl (lv_at hl 0 rfl) ?_
      refine va_get (D := D) (ci := 1) (v := .ref (ad 1)) (C := RX2) (T := TX2) (N := 1) hx hb hts inX2 hown hK.1 hP 0 rfl rfl 0 (by decide) (hts (.fieldLink RX1 7 "ColourForests$Kind" "graph" "LColourForests$Graph;") (List.mem_of_getElem? (i := 1) rfl)) (fun _ h9 => h9) rfl dX1_circuitWithin_14 ?_
      refine va_get (D := D) (ci := 0) (v := .int (nI (gE g))) (C := RX0) (T := TX0) (N := 9) hx hb hts inX0 hown hK.1 hP 1 rfl rfl 2 (by decide) (hts (.fieldLink RX1 22 "ColourForests$Graph" "edges" "I") (List.mem_of_getElem? (i := 2) rfl)) (fun _ h9 => h9) rfl dX1_circuitWithin_17 ?_
      refine n_ge (a := e) (b := (gE g)) (tgt := 61) hx hb dX1_circuitWithin_20 (by decide) (by omega) (by omega) (fun c20 => ?_) (fun c20 => ?_)
      · refine lv_iload_n hx hb dX1_circuitWithin_61 rfl (lv_at hl 3 rfl) ?_
        exact pu_iret (y := yX1_circuitWithin) hx hb hr hlocks hS (by rw [show e = gE g by omega]; rfl) dX1_circuitWithin_62
      · refine lv_iconst (v := nI 1) hx hb dX1_circuitWithin_23 (by decide) ?_
        refine lv_iload hx hb dX1_circuitWithin_24 (lv_at hl 4 rfl) ?_
        refine lv_ishl hx hb dX1_circuitWithin_26 ?_
        refine lv_as (y := (nI (2 ^ e))) (ni_bit (by omega)) ?_
        refine lv_istore (lv' := [(5, .int (nI (2 ^ e))), (0, .ref (ad 8)), (1, .int (nI S)), (2, .int (nI (rB g S))), (3, .int (nI (ms_mk e (cirP (rB g) S)))), (4, .int (nI e))]) hx hb dX1_circuitWithin_27 hl (by decide) rfl (fun ls hl => ?_)
        refine lv_iload_n hx hb dX1_circuitWithin_29 rfl (lv_at hl 2 rfl) ?_
        refine lv_iload hx hb dX1_circuitWithin_30 (lv_at hl 0 rfl) ?_
        refine lv_iand hx hb dX1_circuitWithin_32 ?_
        refine lv_as (y := (nI (S &&& (2 ^ e)))) (ni_and _ _) ?_
        refine lv_if_eq (tgt := 55) hx hb dX1_circuitWithin_33 (by decide) (fun c33 => ?_) (fun c33 => ?_)
        · have c33 := (and_bit (by omega)).mp c33
          refine lv_iinc (v := (nI (e + 1))) (lv' := [(4, .int (nI (e + 1))), (5, .int (nI (2 ^ e))), (0, .ref (ad 8)), (1, .int (nI S)), (2, .int (nI (rB g S))), (3, .int (nI (ms_mk e (cirP (rB g) S))))]) hx hb dX1_circuitWithin_55 hl (k := 5) rfl (ni_inc _) (by decide) rfl (fun ls hl => ?_)
          refine lv_goto (tgt := 11) hx hb dX1_circuitWithin_58 (by decide) ?_
          exact ih11 (e + 1) ⟨by omega, by omega⟩  _ _ hP hS _ (by first | (rw [ms_mk_n (cirP_f (Or.inl c33))]; exact lv_sub hl [2, 3, 4, 5, 0] rfl) | (rw [ms_mk_n (cirP_f (Or.inr c47))]; exact lv_sub hl [2, 3, 4, 5, 0] rfl) | (rw [ms_mk_y (cirP_t c33 c47)]; exact lv_sub hl [2, 3, 4, 5, 0] rfl))
        · have c33 := and_bit_t (by omega) c33
          refine lv_aload_n hx hb dX1_circuitWithin_36 rfl (lv_at hl 1 rfl) ?_
          refine lv_iload_n hx hb dX1_circuitWithin_37 rfl (lv_at hl 2 rfl) ?_
          refine lv_iload hx hb dX1_circuitWithin_38 (lv_at hl 0 rfl) ?_
          refine lv_iconst (v := zI (-1)) hx hb dX1_circuitWithin_40 (by decide) ?_
          refine lv_ixor hx hb dX1_circuitWithin_41 ?_
          refine lv_iand hx hb dX1_circuitWithin_42 ?_
          refine lv_as (y := (nI (ms_sd S (2 ^ e)))) (ni_sdz _ _) ?_
          refine pu_call (va_runU (As := [.int (nI (ms_sd S (2 ^ e)))]) (rest := []) ⟨hx, hb, hml, hown, hts⟩ (c_X2_rankOf l D cy ad ch hg (S := ms_sd S (2 ^ e)) (ms_sd_lt hS9)) (va_cwA 1 hts gX1_circuitWithin_X2_rankOf_u13X2 rfl rfl rfl (hK.2 _ (List.mem_of_getElem? (i := 6) rfl)) (by decide +kernel) ⟨Nat.le_of_ble_eq_true rfl, Nat.le_of_ble_eq_true rfl⟩) (PU_preV (ci := 1) (q0 := 0) hK hP 0 rfl rfl [0, 1, 2, 3, 4, 5, 6] rfl) rfl rfl hl.1 rfl (lv_room (Nat.le_of_ble_eq_true rfl)) dX1_circuitWithin_43 ⟨(Nat.zero_le _), (Nat.zero_le _)⟩) hS hP (fun H locs hP hS => ?_)
          refine lv_iload_n hx hb dX1_circuitWithin_46 rfl (lv_at hl 3 rfl) ?_
          refine n_ne (a := (rB g (ms_sd S (2 ^ e)))) (b := (rB g S)) (tgt := 55) hx hb dX1_circuitWithin_47 (by decide) (by omega) (by omega) (fun c47 => ?_) (fun c47 => ?_)
          · refine lv_iinc (v := (nI (e + 1))) (lv' := [(4, .int (nI (e + 1))), (5, .int (nI (2 ^ e))), (0, .ref (ad 8)), (1, .int (nI S)), (2, .int (nI (rB g S))), (3, .int (nI (ms_mk e (cirP (rB g) S))))]) hx hb dX1_circuitWithin_55 hl (k := 5) rfl (ni_inc _) (by decide) rfl (fun ls hl => ?_)
            refine lv_goto (tgt := 11) hx hb dX1_circuitWithin_58 (by decide) ?_
            exact ih11 (e + 1) ⟨by omega, by omega⟩  _ _ hP hS _ (by first | (rw [ms_mk_n (cirP_f (Or.inl c33))]; exact lv_sub hl [2, 3, 4, 5, 0] rfl) | (rw [ms_mk_n (cirP_f (Or.inr c47))]; exact lv_sub hl [2, 3, 4, 5, 0] rfl) | (rw [ms_mk_y (cirP_t c33 c47)]; exact lv_sub hl [2, 3, 4, 5, 0] rfl))
          · refine lv_iload_n hx hb dX1_circuitWithin_50 rfl (lv_at hl 4 rfl) ?_
            refine lv_iload hx hb dX1_circuitWithin_51 (lv_at hl 0 rfl) ?_
            refine lv_ior hx hb dX1_circuitWithin_53 ?_
            refine lv_as (y := (nI ((ms_mk e (cirP (rB g) S)) ||| (2 ^ e)))) (ni_or _ _) ?_
            refine lv_istore_n (lv' := [(3, .int (nI ((ms_mk e (cirP (rB g) S)) ||| (2 ^ e)))), (5, .int (nI (2 ^ e))), (0, .ref (ad 8)), (1, .int (nI S)), (2, .int (nI (rB g S))), (4, .int (nI e))]) hx hb dX1_circuitWithin_54 rfl hl (by decide) rfl (fun ls hl => ?_)
            refine lv_iinc (v := (nI (e + 1))) (lv' := [(4, .int (nI (e + 1))), (3, .int (nI ((ms_mk e (cirP (rB g) S)) ||| (2 ^ e)))), (5, .int (nI (2 ^ e))), (0, .ref (ad 8)), (1, .int (nI S)), (2, .int (nI (rB g S)))]) hx hb dX1_circuitWithin_55 hl (k := 5) rfl (ni_inc _) (by decide) rfl (fun ls hl => ?_)
            refine lv_goto (tgt := 11) hx hb dX1_circuitWithin_58 (by decide) ?_
            exact ih11 (e + 1) ⟨by omega, by omega⟩  _ _ hP hS _ (by first | (rw [ms_mk_n (cirP_f (Or.inl c33))]; exact lv_sub hl [3, 4, 5, 1, 0] rfl) | (rw [ms_mk_n (cirP_f (Or.inr c47))]; exact lv_sub hl [3, 4, 5, 1, 0] rfl) | (rw [ms_mk_y (cirP_t c33 c47)]; exact lv_sub hl [3, 4, 5, 1, 0] rfl))
  exact L11 (gE g + 1) 0 ⟨by omega, by omega⟩  _ _ hP hS _ (lv_sub hl [3, 4, 2, 1, 0] rfl)

set_option maxHeartbeats 4000000 in
set_option maxRecDepth 100000 in
theorem c_closureOf2 (l : Launch) (D : va_G) (cy : Nat → ClassId) (ad : Nat → Nat) (ch : Int32) {g : GT} (hg : gOK g) {S : Nat} (hS9 : S < 2 ^ gE g) : PU l yX1_closureOf wsX1_closureOf ({ frames := 3, cells := 0, slots := 0, locals := 69 }) D cy [.ref (ad 8), .int (nI S)] (wK2 cy ad ch g) ((nI (cloN (rB g) (gE g) S))) := by
  refine Met.ofW (cc := cX1_closureOf) (maxL := 6) (ret := (some .int)) (by decide) rfl ?_
  intro p ev s m args below meth c s₁ B hml hv
  obtain ⟨rfl, hK, hP⟩ := hv
  have hx := B.exec
  have hb := B.bytes
  have hr := B.returns
  have hts := atoms_spec (ws := wsX1_closureOf) B.pre
  have hown : s.vm.findClass RX1 = some m.cls := findClass_of_methodNamed B.named
  have hlocks := B.notSynchronized
  have hS : va_S (fun _ => False) s.heap s.heap [] := va_S.rf
  have hP : va_P D vwCl (wK2 cy ad ch g) s.heap := hP
  have inX0 : ∀ w ∈ wsX00, w ∈ wsX1_closureOf := by decide +kernel
  have inX2 : ∀ w ∈ wsX20, w ∈ wsX1_closureOf := by decide +kernel
  have hl := lv_entry ([.ref (ad 8), .int (nI S)]) (n := 6) (Nat.le_of_ble_eq_true rfl)
  rw [lg_entry_eq]
  generalize (lg_sl ([.ref (ad 8), .int (nI S)]) ++ List.replicate (6 - (lg_sl ([.ref (ad 8), .int (nI S)])).length) Slot.unset).toArray = ls at hl ⊢
  have hl : lv_has ls 6 [(0, .ref (ad 8)), (1, .int (nI S))] := hl
  have hgen := True.intro
  have hE := hg.2.2.1
  have hV := hg.1
  have hC := hg.2.1
  have hS8 : 2 ^ gE g ≤ 2 ^ 14 := Nat.pow_le_pow_right (by decide) hE
  have hrk := rB_le g S
  refine lv_aload_n hx hb dX1_closureOf_0 rfl (lv_at hl 0 rfl) ?_
  refine lv_iload_n hx hb dX1_closureOf_1 rfl (lv_at hl 1 rfl) ?_
  refine pu_call (va_runU (As := [.int (nI S)]) (rest := []) ⟨hx, hb, hml, hown, hts⟩ (c_X2_rankOf l D cy ad ch hg (S := S) (by omega)) (va_cwA 1 hts gX1_closureOf_X2_rankOf_u13X2 rfl rfl rfl (hK.2 _ (List.mem_of_getElem? (i := 6) rfl)) (by decide +kernel) ⟨Nat.le_of_ble_eq_true rfl, Nat.le_of_ble_eq_true rfl⟩) (PU_preV (ci := 1) (q0 := 0) hK hP 0 rfl rfl [0, 1, 2, 3, 4, 5, 6] rfl) rfl rfl hl.1 rfl (lv_room (Nat.le_of_ble_eq_true rfl)) dX1_closureOf_2 ⟨(Nat.zero_le _), (Nat.zero_le _)⟩) hS hP (fun H locs hP hS => ?_)
  refine lv_istore_n (lv' := [(2, .int (nI (rB g S))), (0, .ref (ad 8)), (1, .int (nI S))]) hx hb dX1_closureOf_5 rfl hl (by decide) rfl (fun ls hl => ?_)
  refine lv_iload_n hx hb dX1_closureOf_6 rfl (lv_at hl 2 rfl) ?_
  refine lv_istore_n (lv' := [(3, .int (nI S)), (2, .int (nI (rB g S))), (0, .ref (ad 8)), (1, .int (nI S))]) hx hb dX1_closureOf_7 rfl hl (by decide) rfl (fun ls hl => ?_)
  refine lv_iconst (v := nI 0) hx hb dX1_closureOf_8 (by decide) ?_
  refine lv_istore (lv' := [(4, .int (nI 0)), (3, .int (nI S)), (2, .int (nI (rB g S))), (0, .ref (ad 8)), (1, .int (nI S))]) hx hb dX1_closureOf_9 hl (by decide) rfl (fun ls hl => ?_)
  have L11 : ∀ (n : Nat) (e : Nat), e ≤ gE g ∧ gE g + 1 ≤ e + n → ∀ (H : Heap) (locs : List Loc), va_P D vwCl (wK2 cy ad ch g) H → va_S (fun _ => False) s.heap H locs → ∀ (ls : Array Slot), lv_has ls 6 [(0, .ref (ad 8)), (1, .int (nI S)), (2, .int (nI (rB g S))), (3, .int (nI (S ||| ms_mk e (cloP (rB g) S)))), (4, .int (nI e))] → W p l ev (headSpec wsX1_closureOf ({ frames := 3, cells := 0, slots := 0, locals := 69 })).room s m [.ref (ad 8), .int (nI S)].toArray below meth c H locs 0 0 (MQ below (va_Qi (fun (x : Int32) (_ : Unit) => x = (nI (cloN (rB g) (gE g) S))) (fun _ _ => True) (fun _ => False)) [.ref (ad 8), .int (nI S)].toArray s 0 0 (fun _ => False)) (F0 m 11 ls []) := by
    intro n
    induction n with
    | zero =>
      intro e hfuel  H locs hP hS ls hl
      exact absurd hfuel.2 (by have := hfuel.1; omega)
    | succ n ih11 =>
      intro e hfuel  H locs hP hS ls hl
      obtain ⟨hfu1, hfu2⟩ := hfuel
      have hrk2 := rB_le g (S ||| 2 ^ e)
      refine lv_iload hx hb dX1_closureOf_11 (lv_at hl 4 rfl) ?_
      refine lv_aload_n hx hb dX1_closureOf_13 rfl (lv_at hl 0 rfl) ?_
      refine va_get (D := D) (ci := 1) (v := .ref (ad 1)) (C := RX2) (T := TX2) (N := 1) hx hb hts inX2 hown hK.1 hP 0 rfl rfl 0 (by decide) (hts (.fieldLink RX1 7 "ColourForests$Kind" "graph" "LColourForests$Graph;") (List.mem_of_getElem? (i := 1) rfl)) (fun _ h9 => h9) rfl dX1_closureOf_14 ?_
      refine va_get (D := D) (ci := 0) (v := .int (nI (gE g))) (C := RX0) (T := TX0) (N := 9) hx hb hts inX0 hown hK.1 hP 1 rfl rfl 2 (by decide) (hts (.fieldLink RX1 22 "ColourForests$Graph" "edges" "I") (List.mem_of_getElem? (i := 2) rfl)) (fun _ h9 => h9) rfl dX1_closureOf_17 ?_
      refine n_ge (a := e) (b := (gE g)) (tgt := 52) hx hb dX1_closureOf_20 (by decide) (by omega) (by omega) (fun c20 => ?_) (fun c20 => ?_)
      · refine lv_iload_n hx hb dX1_closureOf_52 rfl (lv_at hl 3 rfl) ?_
        exact pu_iret (y := yX1_closureOf) hx hb hr hlocks hS (by rw [show e = gE g by omega]; rfl) dX1_closureOf_53
      · refine lv_iconst (v := nI 1) hx hb dX1_closureOf_23 (by decide) ?_
        refine lv_iload hx hb dX1_closureOf_24 (lv_at hl 4 rfl) ?_
        refine lv_ishl hx hb dX1_closureOf_26 ?_
        refine lv_as (y := (nI (2 ^ e))) (ni_bit (by omega)) ?_
        refine lv_istore (lv' := [(5, .int (nI (2 ^ e))), (0, .ref (ad 8)), (1, .int (nI S)), (2, .int (nI (rB g S))), (3, .int (nI (S ||| ms_mk e (cloP (rB g) S)))), (4, .int (nI e))]) hx hb dX1_closureOf_27 hl (by decide) rfl (fun ls hl => ?_)
        refine lv_aload_n hx hb dX1_closureOf_29 rfl (lv_at hl 1 rfl) ?_
        refine lv_iload_n hx hb dX1_closureOf_30 rfl (lv_at hl 2 rfl) ?_
        refine lv_iload hx hb dX1_closureOf_31 (lv_at hl 0 rfl) ?_
        refine lv_ior hx hb dX1_closureOf_33 ?_
        refine lv_as (y := (nI (S ||| (2 ^ e)))) (ni_or _ _) ?_
        refine pu_call (va_runU (As := [.int (nI (S ||| (2 ^ e)))]) (rest := []) ⟨hx, hb, hml, hown, hts⟩ (c_X2_rankOf l D cy ad ch hg (S := S ||| (2 ^ e)) (ms_ins_lt hS9 (by omega))) (va_cwA 1 hts gX1_closureOf_X2_rankOf_u13X2 rfl rfl rfl (hK.2 _ (List.mem_of_getElem? (i := 6) rfl)) (by decide +kernel) ⟨Nat.le_of_ble_eq_true rfl, Nat.le_of_ble_eq_true rfl⟩) (PU_preV (ci := 1) (q0 := 0) hK hP 0 rfl rfl [0, 1, 2, 3, 4, 5, 6] rfl) rfl rfl hl.1 rfl (lv_room (Nat.le_of_ble_eq_true rfl)) dX1_closureOf_34 ⟨(Nat.zero_le _), (Nat.zero_le _)⟩) hS hP (fun H locs hP hS => ?_)
        refine lv_iload_n hx hb dX1_closureOf_37 rfl (lv_at hl 3 rfl) ?_
        refine n_ne (a := (rB g (S ||| (2 ^ e)))) (b := (rB g S)) (tgt := 46) hx hb dX1_closureOf_38 (by decide) (by omega) (by omega) (fun c38 => ?_) (fun c38 => ?_)
        · refine lv_iinc (v := (nI (e + 1))) (lv' := [(4, .int (nI (e + 1))), (5, .int (nI (2 ^ e))), (0, .ref (ad 8)), (1, .int (nI S)), (2, .int (nI (rB g S))), (3, .int (nI (S ||| ms_mk e (cloP (rB g) S))))]) hx hb dX1_closureOf_46 hl (k := 5) rfl (ni_inc _) (by decide) rfl (fun ls hl => ?_)
          refine lv_goto (tgt := 11) hx hb dX1_closureOf_49 (by decide) ?_
          exact ih11 (e + 1) ⟨by omega, by omega⟩  _ _ hP hS _ (by first | (rw [ms_mk_n (cloP_f c38)]; exact lv_sub hl [2, 3, 4, 5, 0] rfl) | (rw [ms_mk_y (cloP_t c38), ← Nat.or_assoc]; exact lv_sub hl [2, 3, 4, 5, 0] rfl))
        · refine lv_iload_n hx hb dX1_closureOf_41 rfl (lv_at hl 4 rfl) ?_
          refine lv_iload hx hb dX1_closureOf_42 (lv_at hl 0 rfl) ?_
          refine lv_ior hx hb dX1_closureOf_44 ?_
          refine lv_as (y := (nI ((S ||| ms_mk e (cloP (rB g) S)) ||| (2 ^ e)))) (ni_or _ _) ?_
          refine lv_istore_n (lv' := [(3, .int (nI ((S ||| ms_mk e (cloP (rB g) S)) ||| (2 ^ e)))), (5, .int (nI (2 ^ e))), (0, .ref (ad 8)), (1, .int (nI S)), (2, .int (nI (rB g S))), (4, .int (nI e))]) hx hb dX1_closureOf_45 rfl hl (by decide) rfl (fun ls hl => ?_)
          refine lv_iinc (v := (nI (e + 1))) (lv' := [(4, .int (nI (e + 1))), (3, .int (nI ((S ||| ms_mk e (cloP (rB g) S)) ||| (2 ^ e)))), (5, .int (nI (2 ^ e))), (0, .ref (ad 8)), (1, .int (nI S)), (2, .int (nI (rB g S)))]) hx hb dX1_closureOf_46 hl (k := 5) rfl (ni_inc _) (by decide) rfl (fun ls hl => ?_)
          refine lv_goto (tgt := 11) hx hb dX1_closureOf_49 (by decide) ?_
          exact ih11 (e + 1) ⟨by omega, by omega⟩  _ _ hP hS _ (by first | (rw [ms_mk_n (cloP_f c38)]; exact lv_sub hl [3, 4, 5, 1, 0] rfl) | (rw [ms_mk_y (cloP_t c38), ← Nat.or_assoc]; exact lv_sub hl [3, 4, 5, 1, 0] rfl))
  exact L11 (gE g + 1) 0 ⟨by omega, by omega⟩  _ _ hP hS _ (by rw [show ms_mk 0 _ = 0 from rfl, Nat.or_zero]; exact lv_sub hl [3, 4, 2, 1, 0] rfl)
