/-! a method that only reads and answers a reference, or null -/
def PVQ (v : Value) : Array Value → State → Outcome → State → Prop := fun _ st oc t => oc = .returned (some v) ∧ va_F (fun _ => False) st t
def PV (l : Launch) (y : MethodName) (ws : List Cond) (rm : Room) (D : va_G) (cy : Nat → ClassId) (av : List Value) (w0 : va_W) (v : Value) : Prop :=
  Met l y ws rm (va_Pc av (fun U => KN D cy U ∧ va_P D vwCl w0 U.heap)) (PVQ v) 0 0 (fun _ => False)
section RP
variable {p : Program} {l : Launch} {e : Env} {R : Room} {s : State} {m : MethodId} {args : Array Value} {below : List Frame} {meth : Method} {c : Code} {H : Heap} {locs : List Loc} {cells slots : Nat} {Q : State → Prop} {cc : ByteArray} {pc : Nat} {ls : Array Slot} {rest st0 : List Value} {D : va_G} {cy : Nat → ClassId} {ws : va_W} {A0 : Nat → Prop} {H0 : Heap} {av : Array Value}
theorem pv_call {v : Value} (hr : va_Run p l e R s m args below meth c H locs cells slots 0 0 (F0 m pc ls st0) rest (PVQ v av) (fun _ => False)) (hS : va_S A0 H0 H locs) (hP : va_P D vwCl ws H)
    (kk : ∀ (H1 : Heap) (locs1 : List Loc), va_P D vwCl ws H1 → va_S A0 H0 H1 locs1 → W p l e R s m args below meth c H1 locs1 cells slots Q (F0 m (pc + 3) ls (v :: rest))) : W p l e R s m args below meth c H locs cells slots Q (F0 m pc ls st0) := by
  intro T hT X
  obtain ⟨v1, st₀, t, T', L, h0, X', hL, e1, e2, ⟨hv, hz, hk⟩, st⟩ := hr T hT X
  cases hv
  rw [h0] at hz hk
  obtain ⟨t2, a1, b1⟩ := kk T'.heap (locs ++ L) (hP.kept fun k q hq => by rw [e1]; exact hk q.1 (hP k q hq).lt (fun h => h))
    ⟨Nat.le_trans hS.1 (by rw [e1]; exact hz), fun q h1 h2 => by rw [e1, hk q (Nat.lt_of_lt_of_le h1 hS.1) (fun z => z)]; exact hS.2.1 q h1 h2, fun q hq => by
      rcases List.mem_append.mp hq with h | h
      · exact hS.2.2 q h
      · exact (hL q h).elim⟩ T' rfl X'
  exact ⟨t2, st t2 a1, b1⟩
theorem pv_ret {v : Value} {n : String} (hexec : p.tables.exec = Jvm.exec) (hb : c.code = cc) (hr : meth.sig.returnType = some (.object n)) (hlocks : meth.locks = false) (hS : va_S (fun _ => False) s.heap H locs) (hv : v = .null ∨ ∃ a, v = .ref a) (hdg : decode cc pc = .ok (.areturn, 1)) :
    W p l e R s m args below meth c H locs cells slots (MQ below (PVQ v) args s cells slots (fun _ => False)) (F0 m pc ls [v]) :=
  W.aret hexec hb hr (Or.inl ⟨n, rfl⟩) hv (fun t ht _ => ⟨rfl, hS.F ht⟩) hS.2.2 hdg hlocks
end RP
/-! the class's cells -/
abbrev wY (cy : Nat → ClassId) (ad : Nat → Nat) (ch : Int32) (g : GT) : va_W := (ad 0, .inr (4, [.ref (ad 1), .ref (ad 7), .ref (ad 8), .ref (ad 9)])) :: (ad 7, .inr (2, [.ref (ad 1)])) :: (ad 8, .inr (1, [.ref (ad 1)])) :: wG cy ad ch g
abbrev wX (cy : Nat → ClassId) (ad : Nat → Nat) (ch : Int32) (g : GT) (sn wf cs ms wd : Int32) (fd fw fp fr ft : Nat → Int32) : va_W := (ad 0, .inr (4, [.ref (ad 1), .ref (ad 7), .ref (ad 8), .ref (ad 9)])) :: (ad 7, .inr (2, [.ref (ad 1)])) :: (ad 8, .inr (1, [.ref (ad 1)])) :: wSv cy ad ch g sn wf cs ms wd fd fw fp fr ft
theorem kd_cases (x : Int32) : x = nI 0 ∨ x = nI 1 ∨ (¬ x = nI 0 ∧ ¬ x = nI 1) := by
  by_cases h0 : x = nI 0
  · exact Or.inl h0
  · by_cases h1 : x = nI 1
    · exact Or.inr (Or.inl h1)
    · exact Or.inr (Or.inr ⟨h0, h1⟩)
theorem nI_inj_lit {x : Int32} {k : Nat} (hk : k < 2 ^ 31) : x = nI k ↔ x.toInt = (k : Int) := ⟨fun h => by rw [h, nI_toInt hk], fun h => by rw [← zI_as x, h, zI_n]⟩
theorem lk_no {x : Int32} {a b d : Int} (h0 : ¬ x = nI 0) (h1 : ¬ x = nI 1) : Op.lookupswitch.offset [(0, a), (1, b)] d x.toInt = d := by
  rw [nI_inj_lit (by decide)] at h0 h1
  rw [Op.lookupswitch.offset_cons, if_neg (fun q => h0 q.symm), Op.lookupswitch.offset_cons, if_neg (fun q => h1 q.symm)]
  rfl
/-- a row of limits, filled -/
theorem bad_a {x y : Int32} {n : Nat} (h : (decide (x = 0 ∨ x = nI 1) && isN y n) = false) (hx : x = nI 0 ∨ x = nI 1) : isN y n = false := by
  rw [show decide (x = 0 ∨ x = nI 1) = true from decide_eq_true hx, Bool.true_and] at h
  exact h
theorem rN0 (g : GT) : rN g 0 = rA g := rfl
theorem rN1 (g : GT) : rN g 1 = rB g := rfl
theorem fN0 (g : GT) (S : Nat) : fN g 0 S = fr g S := rfl
theorem fN1 (g : GT) (S : Nat) : fN g 1 S = li g S := rfl
/-- the circuit as the class finds it is the reference's -/
theorem ci_same {g : GT} (hg : gOK g) {k S e : Nat} (hS : S < 2 ^ gE g) (he : e < gE g) (hf : fN g k S = true) (hb : S.testBit e = false) : nI (cirN (rN g k) (gE g) (S ||| 2 ^ e)) = ciA g k S e := by
  have hm := rN_ok hg k
  have hB := ms_ins_lt hS he
  have h1 := (fN_iff hg hS).mp hf
  rw [c14 hg hS] at h1
  have h2 := ms_card_ins he hb
  unfold ciA
  rw [if_pos ⟨hf, hb⟩]
  by_cases q : fN g k (S ||| 2 ^ e) = true
  · rw [if_pos q]
    congr 1
    apply Nat.eq_of_testBit_eq
    intro i
    rw [Nat.zero_testBit]
    cases hi : (cirN (rN g k) (gE g) (S ||| 2 ^ e)).testBit i
    · rfl
    · exfalso
      obtain ⟨c1, c2, c3⟩ := cir_bit.mp hi
      have h3 := (fN_iff hg hB).mp q
      rw [c14 hg hB] at h3
      have h4 := mt_card hm (ms_sd_lt (b := 2 ^ i) hB)
      have h5 := ms_card_del c1 c2
      omega
  · rw [if_neg q]
    congr 1
    apply Nat.eq_of_testBit_eq
    intro i
    rw [show cirN (rN g k) (gE g) (S ||| 2 ^ e) = ms_mk (gE g) (cirP (rN g k) (S ||| 2 ^ e)) from rfl, ms_mk_bit, ms_mk_bit]
    by_cases hi : i < gE g
    · rw [decide_eq_true hi, Bool.true_and, Bool.true_and]
      unfold cirP cmP
      cases hbi : (S ||| 2 ^ e).testBit i
      · rfl
      · rw [Bool.true_and, Bool.true_and]
        have hL : ms_sd (S ||| 2 ^ e) (2 ^ i) < 2 ^ gE g := ms_sd_lt hB
        have h3 : rN g k (S ||| 2 ^ e) = ms_card (gE g) S := by
          have h4 : ¬ rN g k (S ||| 2 ^ e) = ms_card (gE g) (S ||| 2 ^ e) := fun z => q ((fN_iff hg hB).mpr (by rw [c14 hg hB]; exact z))
          rcases hm.2.1 S e hS he with z | z <;> omega
        have h5 := ms_card_del hi hbi
        have h6 := fN_iff hg (k := k) hL
        rw [c14 hg hL] at h6
        rw [h3]
        cases hq : fN g k (ms_sd (S ||| 2 ^ e) (2 ^ i))
        · have : ¬ rN g k (ms_sd (S ||| 2 ^ e) (2 ^ i)) = ms_card (gE g) S := fun z => by
            rw [h6.mpr (by omega)] at hq
            cases hq
          simpa using this
        · have := h6.mp hq
          simp only [beq_iff_eq]
          omega
    · rw [decide_eq_false hi, Bool.false_and, Bool.false_and]
theorem kd2_cases (x : Int32) : x = nI 0 ∨ x = nI 1 ∨ x = nI 2 ∨ (¬ x = nI 0 ∧ ¬ x = nI 1 ∧ ¬ x = nI 2) := by
  by_cases h0 : x = nI 0
  · exact Or.inl h0
  · by_cases h1 : x = nI 1
    · exact Or.inr (Or.inl h1)
    · by_cases h2 : x = nI 2
      · exact Or.inr (Or.inr (Or.inl h2))
      · exact Or.inr (Or.inr (Or.inr ⟨h0, h1, h2⟩))
theorem bad_b {x y : Int32} {n : Nat} (h : ((decide (x = 0 ∨ x = nI 1) || decide (x = nI 2)) && isN y n) = false) (hx : x = nI 0 ∨ x = nI 1 ∨ x = nI 2) : isN y n = false := by
  have h1 : (decide (x = 0 ∨ x = nI 1) || decide (x = nI 2)) = true := by
    rcases hx with q | q | q
    · rw [show decide (x = 0 ∨ x = nI 1) = true from decide_eq_true (Or.inl q), Bool.true_or]
    · rw [show decide (x = 0 ∨ x = nI 1) = true from decide_eq_true (Or.inr q), Bool.true_or]
    · rw [show decide (x = nI 2) = true from decide_eq_true q, Bool.or_true]
  rw [h1, Bool.true_and] at h
  exact h
theorem isN2_0 {x : Int32} (h : isN x 2 = false) : ¬ x = nI 0 := fun q => by
  rw [q] at h
  exact absurd h (by decide)
theorem isN2_1 {x : Int32} (h : isN x 2 = false) : ¬ x = nI 1 := fun q => by
  rw [q] at h
  exact absurd h (by decide)
theorem co_cases2 {x : Int32} (h3 : ¬ x = nI 3) (h4 : ¬ x = nI 4) : x = nI 0 ∨ (¬ x = nI 0 ∧ x = nI 1) ∨ (¬ x = nI 0 ∧ ¬ x = nI 1 ∧ x = nI 2) ∨ (¬ x = nI 0 ∧ ¬ x = nI 1 ∧ ¬ x = nI 2 ∧ ¬ x = nI 4 ∧ (x.toInt < 0 ∨ 4 < x.toInt)) := by
  rcases co_cases h3 with q | q | q | ⟨-, -, -, q⟩ | q
  · exact Or.inl q
  · exact Or.inr (Or.inl q)
  · exact Or.inr (Or.inr (Or.inl q))
  · exact absurd q h4
  · exact Or.inr (Or.inr (Or.inr q))
theorem sF_cf {g : GT} (hg : gOK g) : sF g (2 ^ gE g) = nP (cfP g (rA g (2 ^ gE g - 1))) (2 ^ gE g) := by
  rw [sF_is, sW_all hg]
  rfl
/-! the witnesses -/
theorem loF_lt {b : Nat → Nat} {n L X : Nat} (hn : n ≤ 14) (h : loN (frc b n L X) ≠ 0) : loN (frc b n L X) < 2 ^ n := by
  have hne : frc b n L X ≠ 0 := fun z => h (loN_0.mpr z)
  have hF : frc b n L X < 2 ^ 14 := ms_up (frc_lt b n L X) hn
  rw [loN_pos hne]
  exact ms_pow_lt (frc_bit.mp (tzN_in (tzN_lt hF hne))).1
theorem spS_lt {a b : Nat → Nat} {n L X : Nat} (hn : n ≤ 14) (hX : X < 2 ^ n) (h : loN (frc b n L X) ≠ 0) : spS a b n L X < 2 ^ n := Nat.or_lt_two_pow hX (Nat.or_lt_two_pow (loF_lt hn h) (cir_lt a n _))
theorem spl_step {a b : Nat → Nat} {n L X r R0 : Nat} (hr : r < n) (h : loN (frc b n L X) ≠ 0) (hs : spl a b n L (n - r) X = R0) : spl a b n L (n - (r + 1)) (spS a b n L X) = R0 := by
  rw [show n - r = (n - (r + 1)) + 1 by omega] at hs
  simp only [spl] at hs
  rw [if_neg h] at hs
  exact hs
theorem spl_stop {a b : Nat → Nat} {n L X r R0 : Nat} (h : loN (frc b n L X) = 0) (hr : r < n) (hs : spl a b n L (n - r) X = R0) : X = R0 := by
  rw [show n - r = (n - (r + 1)) + 1 by omega] at hs
  simp only [spl] at hs
  rw [if_pos h] at hs
  exact hs
theorem dsA_max {g : GT} (hg : gOK g) : dsA g (moA g) < 2 ^ gE g ∧ rA g (dsA g (moA g)) = ms_card (gE g) (dsA g (moA g)) ∧ rB g (dsA g (moA g)) = ms_card (gE g) (dsA g (moA g)) ∧ ms_card (gE g) (dsA g (moA g)) = moA g ∧
    ∀ I, I < 2 ^ gE g → rA g I = ms_card (gE g) I → rB g I = ms_card (gE g) I → ms_card (gE g) I ≤ moA g := by
  obtain ⟨h1, h2, h3, -⟩ := bs_some _ _ (dsA_some hg (Nat.le_refl (moA g)))
  obtain ⟨h4, h5⟩ := (co_iff hg h1).mp h2
  rw [c14 hg h1] at h3
  refine ⟨h1, h4, h5, h3, fun I hI a1 a2 => ?_⟩
  have := mo_up (g := g) (2 ^ gE g) I hI ((co_iff hg hI).mpr ⟨a1, a2⟩)
  rw [c14 hg hI] at this
  exact this
theorem wP_wit {g : GT} (hg : gOK g) {s : Nat} : wP g s = true ↔ rA g s + rB g (ms_sd (2 ^ gE g - 1) s) = moA g := by
  unfold wP
  rw [decide_eq_true_eq]
theorem lw_ok {g : GT} (hg : gOK g) : wit (rA g) (rB g) (gE g) (moA g) (spl (rA g) (rB g) (gE g) (dsA g (moA g)) (gE g) 0) ∧ ∀ A, wit (rA g) (rB g) (gE g) (moA g) A → ms_sub (spl (rA g) (rB g) (gE g) (dsA g (moA g)) (gE g) 0) A := by
  obtain ⟨h1, h2, h3, h4, h5⟩ := dsA_max hg
  have hw := wit_ex (rA_ok hg) (rB_ok hg) h1 h2 h3 (fun I hI a1 a2 => by rw [h4]; exact h5 I hI a1 a2)
  have := spl_ok (rA_ok hg) (rB_ok hg) hg.2.2.1 h1 h2 h3 hw (gE g) 0 spI_0 (by omega)
  rw [h4] at this
  exact this
theorem gw_ok {g : GT} (hg : gOK g) : wit (rB g) (rA g) (gE g) (moA g) (spl (rB g) (rA g) (gE g) (dsA g (moA g)) (gE g) 0) ∧ ∀ A, wit (rB g) (rA g) (gE g) (moA g) A → ms_sub (spl (rB g) (rA g) (gE g) (dsA g (moA g)) (gE g) 0) A := by
  obtain ⟨h1, h2, h3, h4, h5⟩ := dsA_max hg
  have hw := wit_ex (rB_ok hg) (rA_ok hg) h1 h3 h2 (fun I hI a1 a2 => by rw [h4]; exact h5 I hI a2 a1)
  have := spl_ok (rB_ok hg) (rA_ok hg) hg.2.2.1 h1 h3 h2 hw (gE g) 0 spI_0 (by omega)
  rw [h4] at this
  exact this
theorem lw_is {g : GT} (hg : gOK g) : spl (rA g) (rB g) (gE g) (dsA g (moA g)) (gE g) 0 = wAnd (wP g) (gE g) (2 ^ gE g) := by
  obtain ⟨h1, h2⟩ := lw_ok hg
  exact (wAnd_is h1.1 ((wP_wit hg).mpr h1.2) (fun s hs hp => h2 s ⟨hs, (wP_wit hg).mp hp⟩)).symm
theorem gw_is {g : GT} (hg : gOK g) : ms_sd (2 ^ gE g - 1) (spl (rB g) (rA g) (gE g) (dsA g (moA g)) (gE g) 0) = wOr (wP g) (2 ^ gE g) := by
  obtain ⟨h1, h2⟩ := gw_ok hg
  have h3 := wit_swap h1
  exact (wOr_is h3.1 ((wP_wit hg).mpr h3.2) (fun s hs hp => ms_sd_anti (h2 _ (wit_swap ⟨hs, (wP_wit hg).mp hp⟩)) hs)).symm
theorem wP_l {g : GT} (hg : gOK g) : wAnd (wP g) (gE g) (2 ^ gE g) < 2 ^ gE g ∧ wP g (wAnd (wP g) (gE g) (2 ^ gE g)) = true := by
  rw [← lw_is hg]
  have h1 := (lw_ok hg).1
  exact ⟨h1.1, (wP_wit hg).mpr h1.2⟩
theorem wP_g {g : GT} (hg : gOK g) : wOr (wP g) (2 ^ gE g) < 2 ^ gE g ∧ wP g (wOr (wP g) (2 ^ gE g)) = true := by
  rw [← gw_is hg]
  have h1 := wit_swap (gw_ok hg).1
  exact ⟨h1.1, (wP_wit hg).mpr h1.2⟩
theorem wB_concave {g : GT} (hg : gOK g) {k : Nat} (h0 : 1 ≤ k) (hk : k + 1 ≤ moA g) : wB g (k + 1) - wB g k ≤ wB g k - wB g (k - 1) := by
  rw [wB_is hg hk, wB_is hg (show k ≤ moA g by omega), wB_is hg (show k - 1 ≤ moA g by omega)]
  exact bs_concave hg (dsA_some hg (by omega)) (dsA_some hg (by omega)) (dsA_some hg hk) h0
theorem wi_ok {a lo hi : Nat} (h1 : lo ≤ a) (h2 : a ≤ hi) (h3 : hi < 2 ^ 31) : nI lo ≤ nI a ∧ nI a ≤ nI hi := ⟨(nI_leI (by omega) (by omega)).mpr h1, (nI_leI (by omega) h3).mpr h2⟩
theorem loN_le (n : Nat) : loN n ≤ 2 ^ 14 := by
  unfold loN
  split
  · exact Nat.zero_le _
  · exact Nat.pow_le_pow_right (by decide) (tzN_le 14 n)
section RQ
variable {p : Program} {l : Launch} {e : Env} {R : Room} {s : State} {m : MethodId} {args : Array Value} {below : List Frame} {meth : Method} {c : Code} {H : Heap} {locs : List Loc} {cells slots : Nat} {Q : State → Prop} {cc : ByteArray} {pc : Nat} {ls : Array Slot} {rest : List Value} {D : va_G} {cy : Nat → ClassId} {ws : va_W} {A0 : Nat → Prop} {H0 : Heap}
theorem alen_i {a : Addr} (hexec : p.tables.exec = Jvm.exec) (hb : c.code = cc) (hK : KN D cy s) (hP : va_P D vwCl ws H) (q0 : Nat) {n : Nat} {f : Nat → Int32} (ha : ws[q0]? = some (a, .inl (cy 0, n, .inl f))) (_ : n < 2 ^ 31) (hdg : decode cc pc = .ok (.arraylength, 1))
    (kk : W p l e R s m args below meth c H locs cells slots Q (F0 m (pc + 1) ls (.int (nI n) :: rest))) : W p l e R s m args below meth c H locs cells slots Q (F0 m pc ls (.ref a :: rest)) :=
  va_alen hexec hb hK.1 hP q0 0 ha rfl rfl hdg kk
theorem cy_one {D : va_G} {tys : List (ClassId × FieldType)} {U : State} {cA : ClassId} {ty : FieldType} {k : Nat} (hK : KN D cy U) (h : va_K D vwCl (TY cy ++ [(cA, ty)]) U) (hk : (TY cy)[k]? = some (cy k, ty)) (hs : ∀ n, ty ≠ .object n) : cA = cy k := by
  have h1 := (h.2 3 (cA, ty) rfl).2
  have h2 := (hK.1.2 k (cy k, ty) hk).2
  have e1 : U.vm.findClass ("[" ++ ty.toString) = some cA := by
    cases ty <;> first | exact h1 | exact absurd rfl (hs _)
  have e2 : U.vm.findClass ("[" ++ ty.toString) = some (cy k) := by
    cases ty <;> first | exact h2 | exact absurd rfl (hs _)
  exact Option.some.inj (e1.symm.trans e2)
theorem nw_i (hexec : p.tables.exec = Jvm.exec) (hb : c.code = cc) (harr : (Cond.arrayClass .int).before args s = true) (hK : KN D cy s) (hP : va_P D vwCl ws H) (hD : va_D A0 ws) (hS : va_S A0 H0 H locs) (hA : ∀ q, H0.size ≤ q → A0 q)
    {N' : Nat} (hN : N' ≤ 65536) (hcells : cells + 1 ≤ R.cells) (hslots : slots + N' ≤ R.slots) (hdg : decode cc pc = .ok (.newarray .int, 2))
    (kk : ∀ (q : Nat) (H1 : Heap), va_P D vwCl (ws ++ [(q, .inl (cy 0, N', .inl (fun _ => 0)))]) H1 → va_D A0 (ws ++ [(q, .inl (cy 0, N', .inl (fun _ => 0)))]) → va_S A0 H0 H1 locs →
      W p l e R s m args below meth c H1 locs (cells + 1) (slots + N') Q (F0 m (pc + 2) ls (.ref q :: rest))) : W p l e R s m args below meth c H locs cells slots Q (F0 m pc ls (.int (nI N') :: rest)) := by
  refine va_newa (tys := TY cy) hexec hb (atype := .int) harr rfl hK.1 hP hD hS hA (N' := N') (a0 := (N', .inl (fun _ => 0))) (fun cA => rfl) (nlt0 (by omega)) (nI_clamp (by omega)) (by show N' * 4 ≤ 536870912; omega) hcells hslots hdg fun q cA H1 hK1 hP1 hD1 hS1 => ?_
  have e := cy_one (tys := []) (k := 0) hK hK1 rfl (fun _ h => by cases h)
  subst e
  exact kk q H1 hP1 hD1 hS1
theorem nw_z (hexec : p.tables.exec = Jvm.exec) (hb : c.code = cc) (harr : (Cond.arrayClass .boolean).before args s = true) (hK : KN D cy s) (hP : va_P D vwCl ws H) (hD : va_D A0 ws) (hS : va_S A0 H0 H locs) (hA : ∀ q, H0.size ≤ q → A0 q)
    {N' : Nat} (hN : N' ≤ 65536) (hcells : cells + 1 ≤ R.cells) (hslots : slots + N' ≤ R.slots) (hdg : decode cc pc = .ok (.newarray .boolean, 2))
    (kk : ∀ (q : Nat) (H1 : Heap), va_P D vwCl (ws ++ [(q, .inl (cy 1, N', .inl (fun _ => 0)))]) H1 → va_D A0 (ws ++ [(q, .inl (cy 1, N', .inl (fun _ => 0)))]) → va_S A0 H0 H1 locs →
      W p l e R s m args below meth c H1 locs (cells + 1) (slots + N') Q (F0 m (pc + 2) ls (.ref q :: rest))) : W p l e R s m args below meth c H locs cells slots Q (F0 m pc ls (.int (nI N') :: rest)) := by
  refine va_newa (tys := TY cy) hexec hb (atype := .boolean) harr rfl hK.1 hP hD hS hA (N' := N') (a0 := (N', .inl (fun _ => 0))) (fun cA => rfl) (nlt0 (by omega)) (nI_clamp (by omega)) (by show N' * 1 ≤ 536870912; omega) hcells hslots hdg fun q cA H1 hK1 hP1 hD1 hS1 => ?_
  have e := cy_one (tys := []) (k := 1) hK hK1 rfl (fun _ h => by cases h)
  subst e
  exact kk q H1 hP1 hD1 hS1
end RQ
/-! a constructor: new cells come -/
def NC {S : Type} (l : Launch) (y : MethodName) (ws : List Cond) (rm : Room) (D : va_G) (cy : Nat → ClassId) (av : List Value) (w0 : va_W) (sz : Nat) (w1 : S → va_W) (mc ms : Nat) : Prop :=
  Met l y ws rm (va_Pc av (fun U => U.heap.size = sz ∧ (KN D cy U ∧ va_P D vwCl w0 U.heap) ∧ va_D (fun _ => True) w0)) (va_Qv (fun _ : S => True) (fun u t => va_P D vwCl (w1 u) t.heap ∧ va_D (va_A w0 sz) (w1 u)) (va_A w0 sz)) mc ms (va_A w0 sz)
theorem NC_blind {D : va_G} {cy : Nat → ClassId} {av : List Value} {w0 : va_W} {sz : Nat} : FrameBlind (va_Pc av (fun U => U.heap.size = sz ∧ (KN D cy U ∧ va_P D vwCl w0 U.heap) ∧ va_D (fun _ => True) w0)) := fun _ _ _ _ q => ⟨q.1, q.2.1, ⟨KN_call q.2.2.1.1, q.2.2.1.2⟩, q.2.2.2⟩
section RC
variable {p : Program} {l : Launch} {e : Env} {R : Room} {s : State} {m : MethodId} {args : Array Value} {below : List Frame} {meth : Method} {c : Code} {H : Heap} {locs : List Loc} {cells slots : Nat} {Q : State → Prop} {cc : ByteArray} {pc : Nat} {ls : Array Slot} {rest st0 As : List Value} {D : va_G} {cy : Nat → ClassId} {ws w0 : va_W} {A0 : Nat → Prop} {H0 : Heap} {av : Array Value} {mc ms : Nat}
theorem NC_pre {b : Addr} {A : Nat → Prop} (hK : KN D cy s) (hP : va_P D vwCl ws H) (hD : va_D A ws) (is : List Nat) (hn : va_nd is = true) (hs : is.map (fun i => ws[i]?) = w0.map some) (hs' : is.filterMap (fun i => ws[i]?) = w0) :
    PreS s H (va_Pc (.ref b :: As) (fun U => U.heap.size = H.size ∧ (KN D cy U ∧ va_P D vwCl w0 U.heap) ∧ va_D (fun _ => True) w0)) (.ref b :: As) :=
  ⟨NC_blind, fun _ hU hW => ⟨rfl, by rw [hU], ⟨KN_warm hW hK, by rw [hU]; exact hP.sub is hs'⟩, (hD.sub is hn hs).weaken (fun _ _ _ _ => trivial)⟩⟩
theorem nc_call {S : Type} {w1 : S → va_W} {wr : va_W} (isC isR : List Nat) (hr : va_Run p l e R s m args below meth c H locs cells slots mc ms (F0 m pc ls st0) rest (va_Qv (fun _ : S => True) (fun u t => va_P D vwCl (w1 u) t.heap ∧ va_D (va_A w0 H.size) (w1 u)) (va_A w0 H.size) av) (va_A w0 H.size)) (hS : va_S A0 H0 H locs) (hA : ∀ q, H0.size ≤ q → A0 q) (hP : va_P D vwCl ws H) (hD : va_D A0 ws)
    (hC : isC.map (fun i => ws[i]?) = w0.map some) (hR : isR.map (fun i => ws[i]?) = wr.map some) (hn : va_nd isR = true) (hdis : ∀ i ∈ isR, i ∉ isC)
    (kk : ∀ (u : S) (H1 : Heap) (locs1 : List Loc), va_P D vwCl (wr ++ w1 u) H1 → va_D A0 (wr ++ w1 u) → va_S A0 H0 H1 locs1 → W p l e R s m args below meth c H1 locs1 (cells + mc) (slots + ms) Q (F0 m (pc + 3) ls rest)) : W p l e R s m args below meth c H locs cells slots Q (F0 m pc ls st0) := by
  have hF := va_free (wc := w0) hD hS hA isC hC
  refine va_callv hr hS (fun q _ h => hF q h) hF (fun u t H1 locs1 ht _ _ hB _ hk hS1 => ?_)
  obtain ⟨hP1, hD1⟩ := hB
  rw [ht] at hP1
  obtain ⟨hP2, hD2⟩ := va_join hP hD isC isR hC hR hn hdis hk hF hP1 hD1
  exact kk u H1 locs1 hP2 hD2 hS1
theorem nc_ret {S : Type} {w1 : S → va_W} (u : S) {A : Nat → Prop} (hexec : p.tables.exec = Jvm.exec) (hb : c.code = cc) (hr : meth.sig.returnType = none) (hlocks : meth.locks = false) (hS : va_S A s.heap H locs) (hP : va_P D vwCl (w1 u) H) (hD : va_D A (w1 u)) (hc : cells ≤ mc) (hs : slots ≤ ms) (hdg : decode cc pc = .ok (.return_, 1)) :
    W p l e R s m args below meth c H locs cells slots (MQ below (va_Qv (fun _ : S => True) (fun u t => va_P D vwCl (w1 u) t.heap ∧ va_D A (w1 u)) A) args s mc ms A) (F0 m pc ls []) := by
  refine W.widen (k := mc) (n := ms) hc hs ?_
  exact W.vret hexec hb hr (fun t ht _ => ⟨⟨u, rfl, trivial, by show va_P D vwCl (w1 u) t.heap ∧ _; rw [ht]; exact ⟨hP, hD⟩⟩, hS.F ht⟩) hS.2.2 hdg hlocks
end RC
