/-! the least set whose rank by a and the rest's rank by b are together the most -/
theorem mt_grows {n : Nat} {r : Nat → Nat} (h : mt_ok n r) {S X : Nat} (hS : S < 2 ^ n) (hX : X < 2 ^ n) (k : ∀ e, e < n → X.testBit e = true → r (S ||| 2 ^ e) = r S) : r (S ||| X) = r S := by
  refine mt_grow (P := fun Y => r Y = r S) hX rfl fun Y e he hb h1 h2 _ hp => ?_
  have hY : Y < 2 ^ n := ms_sub_lt h2 (Nat.or_lt_two_pow hS hX)
  rw [← hp]
  exact h.2.2 S Y e hY he h1 (k e he hb)
/-- what lies within a free set is free -/
theorem mt_fsub {n : Nat} {r : Nat → Nat} (h : mt_ok n r) {S T : Nat} (hT : T < 2 ^ n) (hs : ms_sub S T) (k : r T = ms_card n T) : r S = ms_card n S := by
  have h1 := mt_card_diff h hT hs
  have h2 := mt_card h (ms_sub_lt hs hT)
  omega
/-- a set that is not free has an edge that its rank doesn't need -/
theorem mt_spare {n : Nat} {r : Nat → Nat} (h : mt_ok n r) {S : Nat} (hS : S < 2 ^ n) (k : r S ≠ ms_card n S) : ∃ e, e < n ∧ S.testBit e = true ∧ r (ms_sd S (2 ^ e)) = r S := by
  apply Classical.byContradiction
  intro hn
  apply k
  have := mt_grow (P := fun Y => r Y = ms_card n Y) (S := 0) hS (by rw [h.1, ms_card_0]) fun Y e he hb h1 h2 h3 hp => by
    rw [Nat.zero_or] at h2
    rw [Nat.zero_testBit] at h3
    have hY := ms_sub_lt h2 hS
    rw [ms_card_ins he h3, ← hp]
    rcases h.2.1 Y e hY he with q | q
    · exfalso
      apply hn
      refine ⟨e, he, hb, ?_⟩
      have hsub : ms_sub Y (ms_sd S (2 ^ e)) := fun i hi => by
        rw [ms_sd_bit, Nat.testBit_two_pow, h2 i hi]
        have : ¬ e = i := fun z => by rw [z, hi] at h3; cases h3
        simp [this]
      have := h.2.2 Y _ e (ms_sd_lt hS) he hsub q
      rw [ms_del_ins hb] at this
      exact this.symm
    · exact q
  rw [Nat.zero_or] at this
  exact this
/-- each set has a free set of its rank -/
theorem mt_base {n : Nat} {r : Nat → Nat} (h : mt_ok n r) : ∀ (d S : Nat), S < 2 ^ n → ms_card n S ≤ d → ∃ T, ms_sub T S ∧ r T = ms_card n T ∧ r T = r S := by
  intro d
  induction d with
  | zero =>
    intro S hS hd
    exact ⟨S, ms_sub_rf S, by have := mt_card h hS; omega, rfl⟩
  | succ d ih =>
    intro S hS hd
    by_cases q : r S = ms_card n S
    · exact ⟨S, ms_sub_rf S, q, rfl⟩
    · obtain ⟨e, he, hb, hr⟩ := mt_spare h hS q
      obtain ⟨T, h1, h2, h3⟩ := ih (ms_sd S (2 ^ e)) (ms_sd_lt hS) (by have := ms_card_del he hb; omega)
      exact ⟨T, ms_sub_tr h1 (ms_sub_sd _ _), h2, by rw [h3, hr]⟩
theorem ms_card_cut (n L A : Nat) : ms_card n L = ms_card n (L &&& A) + ms_card n (ms_sd L A) := by
  induction n with
  | zero => rfl
  | succ n ih =>
    simp only [ms_card]
    rw [ih, Nat.testBit_and, ms_sd_bit]
    cases L.testBit n <;> cases A.testBit n <;> simp <;> omega
theorem ms_and_lt {a b n : Nat} (h : a < 2 ^ n) : a &&& b < 2 ^ n := Nat.lt_of_le_of_lt Nat.and_le_left h
def frc (b : Nat → Nat) (n L X : Nat) : Nat := ms_sd (ms_sd (2 ^ n - 1) (cloN b n (ms_sd L X))) X
def spS (a b : Nat → Nat) (n L X : Nat) : Nat := X ||| (loN (frc b n L X) ||| cirN a n (L ||| loN (frc b n L X)))
def spl (a b : Nat → Nat) (n L : Nat) : Nat → Nat → Nat
  | 0, X => X
  | k + 1, X => if loN (frc b n L X) = 0 then X else spl a b n L k (spS a b n L X)
def wit (a b : Nat → Nat) (n m A : Nat) : Prop := A < 2 ^ n ∧ a A + b (ms_sd (2 ^ n - 1) A) = m
theorem loN_pos {n : Nat} (h : n ≠ 0) : loN n = 2 ^ tzN 14 n := by
  unfold loN
  rw [if_neg h]
theorem loN_0 {n : Nat} : loN n = 0 ↔ n = 0 := by
  constructor
  · intro h
    apply Classical.byContradiction
    intro q
    rw [loN_pos q] at h
    have := Nat.two_pow_pos (tzN 14 n)
    omega
  · intro h
    rw [h]
    rfl
theorem clo_bit {r : Nat → Nat} {n S e : Nat} (he : e < n) : (cloN r n S).testBit e = true ↔ r (S ||| 2 ^ e) = r S := by
  unfold cloN
  rw [Nat.testBit_or, ms_mk_bit, decide_eq_true he, Bool.true_and]
  unfold cloP
  constructor
  · intro h
    cases hb : S.testBit e
    · rw [hb, Bool.false_or] at h
      exact of_decide_eq_true h
    · rw [ms_ins_in hb]
  · intro h
    rw [h]
    simp
theorem frc_bit {b : Nat → Nat} {n L X e : Nat} : (frc b n L X).testBit e = true ↔ (e < n ∧ b (ms_sd L X ||| 2 ^ e) ≠ b (ms_sd L X) ∧ X.testBit e = false) := by
  unfold frc
  rw [ms_sd_bit, ms_sd_bit, ms_full]
  constructor
  · intro h
    rw [Bool.and_eq_true, Bool.and_eq_true] at h
    obtain ⟨⟨h1, h2⟩, h3⟩ := h
    have he := of_decide_eq_true h1
    refine ⟨he, fun q => ?_, ?_⟩
    · rw [(clo_bit he).mpr q] at h2
      cases h2
    · cases hb : X.testBit e
      · rfl
      · rw [hb] at h3
        cases h3
  · rintro ⟨he, h1, h2⟩
    have h3 : (cloN b n (ms_sd L X)).testBit e = false := by
      cases hb : (cloN b n (ms_sd L X)).testBit e
      · rfl
      · exact absurd ((clo_bit he).mp hb) h1
    rw [h2, h3, decide_eq_true he]
    rfl
theorem frc_lt (b : Nat → Nat) (n L X : Nat) : frc b n L X < 2 ^ n := ms_sd_lt (ms_sd_lt (ms_full_lt n))
theorem cir_bit {r : Nat → Nat} {n S e : Nat} : (cirN r n S).testBit e = true ↔ (e < n ∧ S.testBit e = true ∧ r (ms_sd S (2 ^ e)) = r S) := by
  unfold cirN
  rw [ms_mk_bit]
  unfold cirP
  rw [Bool.and_eq_true, Bool.and_eq_true, decide_eq_true_eq, beq_iff_eq]
section
variable {n L m : Nat} {a b : Nat → Nat}
/-- a witness is spanned on both sides by what lies there of a largest common set -/
theorem wit_tight (ha : mt_ok n a) (hb : mt_ok n b) (hL : L < 2 ^ n) (fa : a L = ms_card n L) (fb : b L = ms_card n L) {A : Nat} (hA : wit a b n (ms_card n L) A) :
    a A = a (L &&& A) ∧ a (L &&& A) = ms_card n (L &&& A) ∧ b (ms_sd (2 ^ n - 1) A) = b (ms_sd L A) := by
  have h1 := mt_fsub ha hL (ms_sub_andl L A) fa
  have h2 := mt_fsub hb hL (ms_sub_sd L A) fb
  have h3 := mt_mono ha hA.1 (ms_sub_andr L A)
  have hs : ms_sub (ms_sd L A) (ms_sd (2 ^ n - 1) A) := fun i hi => by
    rw [ms_sd_bit, Bool.and_eq_true] at hi ⊢
    rw [ms_full]
    exact ⟨decide_eq_true (ms_bit_lt hL hi.1), hi.2⟩
  have h4 := mt_mono hb (ms_sd_lt (ms_full_lt n)) hs
  have h5 := ms_card_cut n L A
  have h6 := hA.2
  exact ⟨by omega, h1, by omega⟩
/-- the circuit of an edge with a free set spans that edge within the free set -/
theorem mt_circ (ha : mt_ok n a) (hL : L < 2 ^ n) (fa : a L = ms_card n L) {e : Nat} (he : e < n) (h0 : L.testBit e = false) (h1 : a (L ||| 2 ^ e) = a L) :
    a (L &&& cirN a n (L ||| 2 ^ e) ||| 2 ^ e) = a (L &&& cirN a n (L ||| 2 ^ e)) := by
  have hLe := ms_ins_lt hL he
  have key : ∀ j, j ≤ n → a (ms_sd L (ms_sd L (cirN a n (L ||| 2 ^ e)) % 2 ^ j) ||| 2 ^ e) = ms_card n (ms_sd L (ms_sd L (cirN a n (L ||| 2 ^ e)) % 2 ^ j)) := by
    intro j
    induction j with
    | zero =>
      intro _
      rw [Nat.pow_zero, Nat.mod_one]
      have e1 : ms_sd L 0 = L := by
        apply Nat.eq_of_testBit_eq
        intro i
        rw [ms_sd_bit, Nat.zero_testBit]
        simp
      rw [e1, h1, fa]
    | succ j ih =>
      intro hj
      have ih := ih (by omega)
      generalize hT : ms_sd L (ms_sd L (cirN a n (L ||| 2 ^ e)) % 2 ^ j) = T at ih
      cases hb : (ms_sd L (cirN a n (L ||| 2 ^ e))).testBit j
      · rw [ms_lo_out hb, hT]
        exact ih
      · rw [ms_lo_in hb]
        have hbb := hb
        rw [ms_sd_bit, Bool.and_eq_true] at hb
        have hLj := hb.1
        have hcj : (cirN a n (L ||| 2 ^ e)).testBit j = false := by simpa using hb.2
        have hej : ¬ e = j := fun z => by rw [z, hLj] at h0; cases h0
        have eT : ms_sd L (ms_sd L (cirN a n (L ||| 2 ^ e)) % 2 ^ j ||| 2 ^ j) = ms_sd T (2 ^ j) := by
          rw [← hT]
          apply Nat.eq_of_testBit_eq
          intro i
          rw [ms_sd_bit, ms_ins_bit, ms_sd_bit, ms_sd_bit, Nat.testBit_two_pow]
          cases L.testBit i <;> cases (ms_sd L (cirN a n (L ||| 2 ^ e)) % 2 ^ j).testBit i <;> cases decide (j = i) <;> rfl
        rw [eT]
        have hTj : T.testBit j = true := by
          rw [← hT, ms_sd_bit, hLj, Nat.testBit_mod_two_pow]
          simp
        have sTL : ms_sub T L := by rw [← hT]; exact ms_sub_sd _ _
        have hTl := ms_sub_lt sTL hL
        have hrk : a (ms_sd L (2 ^ j) ||| 2 ^ e) = ms_card n (ms_sd L (2 ^ j)) := by
          have q1 : ¬ a (ms_sd (L ||| 2 ^ e) (2 ^ j)) = a (L ||| 2 ^ e) := fun z => by
            rw [cir_bit.mpr ⟨by omega, by rw [ms_ins_bit, hLj, Bool.true_or], z⟩] at hcj
            cases hcj
          have q2 : ms_sd (L ||| 2 ^ e) (2 ^ j) = ms_sd L (2 ^ j) ||| 2 ^ e := by
            apply Nat.eq_of_testBit_eq
            intro i
            rw [ms_sd_bit, ms_ins_bit, ms_ins_bit, ms_sd_bit, Nat.testBit_two_pow]
            by_cases z : e = i
            · subst z
              rw [decide_eq_true rfl, decide_eq_false (fun y => hej y.symm)]
              simp
            · rw [decide_eq_false z, Bool.or_false, Bool.or_false]
          rw [q2] at q1
          have q3 := mt_mono ha hLe (S := ms_sd L (2 ^ j) ||| 2 ^ e) (ms_sub_ins2 (ms_sub_sd L _) e)
          have q4 := mt_mono ha (ms_ins_lt (ms_sd_lt hL) he) (ms_sub_ins (ms_sd L (2 ^ j)) e)
          have q5 := mt_fsub ha hL (ms_sub_sd L (2 ^ j)) fa
          have q6 := ms_card_del (show j < n by omega) hLj
          omega
        have sub := mt_submod ha (P := T ||| 2 ^ e) (Q := ms_sd L (2 ^ j) ||| 2 ^ e) (ms_ins_lt hTl he) (ms_ins_lt (ms_sd_lt hL) he)
        have u1 : (T ||| 2 ^ e) ||| (ms_sd L (2 ^ j) ||| 2 ^ e) = L ||| 2 ^ e := by
          apply Nat.eq_of_testBit_eq
          intro i
          rw [Nat.testBit_or, ms_ins_bit, ms_ins_bit, ms_ins_bit, ms_sd_bit, Nat.testBit_two_pow]
          have := sTL i
          by_cases z : j = i
          · subst z
            rw [hTj, hLj]
            simp
          · rw [decide_eq_false z]
            cases hTi : T.testBit i
            · cases L.testBit i <;> cases decide (e = i) <;> rfl
            · rw [this hTi]
              simp
        have u2 : (T ||| 2 ^ e) &&& (ms_sd L (2 ^ j) ||| 2 ^ e) = ms_sd T (2 ^ j) ||| 2 ^ e := by
          apply Nat.eq_of_testBit_eq
          intro i
          rw [Nat.testBit_and, ms_ins_bit, ms_ins_bit, ms_ins_bit, ms_sd_bit, ms_sd_bit, Nat.testBit_two_pow]
          have := sTL i
          cases hTi : T.testBit i
          · cases decide (e = i) <;> simp
          · rw [this hTi]
            cases decide (e = i) <;> simp
        rw [u1, u2, h1, fa, ih, hrk] at sub
        have c1 := ms_card_del (show j < n by omega) hTj
        have c2 := ms_card_del (show j < n by omega) hLj
        have f1 := mt_fsub ha hL (ms_sub_tr (ms_sub_sd T (2 ^ j)) sTL) fa
        have f2 := mt_mono ha (ms_ins_lt (ms_sd_lt hTl) he) (ms_sub_ins (ms_sd T (2 ^ j)) e)
        omega
  have := key n (Nat.le_refl n)
  rw [Nat.mod_eq_of_lt (ms_sd_lt hL)] at this
  have e1 : ms_sd L (ms_sd L (cirN a n (L ||| 2 ^ e))) = L &&& cirN a n (L ||| 2 ^ e) := by
    apply Nat.eq_of_testBit_eq
    intro i
    rw [ms_sd_bit, ms_sd_bit, Nat.testBit_and]
    cases L.testBit i <;> cases (cirN a n (L ||| 2 ^ e)).testBit i <;> rfl
  rw [e1] at this
  rw [this, mt_fsub ha hL (ms_sub_andl L _) fa]
/-- while the set grows: it lies within all witnesses, and is spanned by its part of L -/
def spI (a b : Nat → Nat) (n L X : Nat) : Prop := X < 2 ^ n ∧ (∀ A, wit a b n (ms_card n L) A → ms_sub X A) ∧ ∀ e, e < n → X.testBit e = true → a ((L &&& X) ||| 2 ^ e) = a (L &&& X)
theorem spI_0 : spI a b n L 0 := ⟨Nat.two_pow_pos n, fun A _ => ms_sub_0 A, fun e _ h => by rw [Nat.zero_testBit] at h; cases h⟩
theorem spI_step (ha : mt_ok n a) (hb : mt_ok n b) (hn : n ≤ 14) (hL : L < 2 ^ n) (fa : a L = ms_card n L) (fb : b L = ms_card n L) (hw : ∃ A, wit a b n (ms_card n L) A) {X : Nat} (hX : spI a b n L X) (h0 : frc b n L X ≠ 0) :
    spI a b n L (spS a b n L X) ∧ ms_card n X < ms_card n (spS a b n L X) ∧ spS a b n L X < 2 ^ n := by
  have hF : frc b n L X < 2 ^ 14 := ms_up (frc_lt b n L X) hn
  obtain ⟨e, hee⟩ : ∃ e, e = tzN 14 (frc b n L X) := ⟨_, rfl⟩
  have hbit : (frc b n L X).testBit e = true := by rw [hee]; exact tzN_in (tzN_lt hF h0)
  obtain ⟨he, hr, hXe⟩ := frc_bit.mp hbit
  have hS : spS a b n L X = X ||| (2 ^ e ||| cirN a n (L ||| 2 ^ e)) := by
    unfold spS
    rw [loN_pos h0, hee]
  rw [hS]
  obtain ⟨hXl, hXw, hXs⟩ := hX
  have hlt : X ||| (2 ^ e ||| cirN a n (L ||| 2 ^ e)) < 2 ^ n := Nat.or_lt_two_pow hXl (Nat.or_lt_two_pow (ms_pow_lt he) (cir_lt a n _))
  -- e lies in every witness
  have hin : ∀ A, wit a b n (ms_card n L) A → A.testBit e = true := by
    intro A hA
    obtain ⟨t1, t2, t3⟩ := wit_tight ha hb hL fa fb hA
    cases hAe : A.testBit e
    · exfalso
      apply hr
      have s1 : ms_sub (ms_sd L A) (ms_sd L X) := fun i hi => by
        rw [ms_sd_bit, Bool.and_eq_true] at hi ⊢
        refine ⟨hi.1, ?_⟩
        cases hx : X.testBit i
        · rfl
        · rw [hXw A hA i hx] at hi
          cases hi.2
      refine hb.2.2 _ _ e (ms_sd_lt hL) he s1 ?_
      have s2 : ms_sub (ms_sd L A ||| 2 ^ e) (ms_sd (2 ^ n - 1) A) := fun i hi => by
        rw [ms_ins_bit, ms_sd_bit, Bool.or_eq_true, Bool.and_eq_true] at hi
        rw [ms_sd_bit, ms_full, Bool.and_eq_true]
        rcases hi with hi | hi
        · exact ⟨decide_eq_true (ms_bit_lt hL hi.1), hi.2⟩
        · have : e = i := of_decide_eq_true hi
          subst this
          rw [hAe]
          exact ⟨decide_eq_true he, rfl⟩
      have m1 := mt_mono hb (ms_sd_lt (ms_full_lt n)) s2
      have m2 := mt_mono hb (ms_ins_lt (ms_sd_lt hL) he) (ms_sub_ins (ms_sd L A) e)
      omega
    · rfl
  have hspan : ∀ A, wit a b n (ms_card n L) A → a ((L &&& A) ||| 2 ^ e) = a (L &&& A) := by
    intro A hA
    obtain ⟨t1, t2, t3⟩ := wit_tight ha hb hL fa fb hA
    have s2 : ms_sub ((L &&& A) ||| 2 ^ e) A := fun i hi => by
      rw [ms_ins_bit, Nat.testBit_and, Bool.or_eq_true, Bool.and_eq_true] at hi
      rcases hi with hi | hi
      · exact hi.2
      · have : e = i := of_decide_eq_true hi
        subst this
        exact hin A hA
    have m1 := mt_mono ha hA.1 s2
    have m2 := mt_mono ha (ms_ins_lt (ms_and_lt hL) he) (ms_sub_ins (L &&& A) e)
    omega
  have hLe : a (L ||| 2 ^ e) = a L := by
    obtain ⟨A, hA⟩ := hw
    exact ha.2.2 _ _ e hL he (ms_sub_andl L A) (hspan A hA)
  refine ⟨⟨hlt, fun A hA i hi => ?_, fun i hi hib => ?_⟩, ?_, hlt⟩
  · rw [Nat.testBit_or, Nat.testBit_or, Nat.testBit_two_pow, Bool.or_eq_true, Bool.or_eq_true] at hi
    rcases hi with hi | hi | hi
    · exact hXw A hA i hi
    · have : e = i := of_decide_eq_true hi
      subst this
      exact hin A hA
    · obtain ⟨c1, c2, c3⟩ := cir_bit.mp hi
      cases hAi : A.testBit i
      · exfalso
        have hne : ¬ e = i := fun z => by rw [← z, hin A hA] at hAi; cases hAi
        rw [ms_ins_bit, decide_eq_false hne, Bool.or_false] at c2
        have q2 : ms_sd (L ||| 2 ^ e) (2 ^ i) = ms_sd L (2 ^ i) ||| 2 ^ e := by
          apply Nat.eq_of_testBit_eq
          intro j
          rw [ms_sd_bit, ms_ins_bit, ms_ins_bit, ms_sd_bit, Nat.testBit_two_pow]
          by_cases z : e = j
          · subst z
            rw [decide_eq_true rfl, decide_eq_false (fun y => hne y.symm)]
            simp
          · rw [decide_eq_false z, Bool.or_false, Bool.or_false]
        have s1 : ms_sub (L &&& A) (ms_sd L (2 ^ i)) := fun j hj => by
          rw [Nat.testBit_and, Bool.and_eq_true] at hj
          rw [ms_sd_bit, Nat.testBit_two_pow, hj.1]
          have : ¬ i = j := fun z => by rw [z, hj.2] at hAi; cases hAi
          simp [this]
        have s2 := ha.2.2 _ _ e (ms_sd_lt hL) he s1 (hspan A hA)
        have s3 := mt_fsub ha hL (ms_sub_sd L (2 ^ i)) fa
        have s4 := ms_card_del c1 c2
        rw [q2, s2, s3, hLe, fa] at c3
        omega
      · rfl
  · have hNew : (X ||| (2 ^ e ||| cirN a n (L ||| 2 ^ e))).testBit e = true := by
      rw [Nat.testBit_or, Nat.testBit_or, Nat.testBit_two_pow]
      simp
    cases hLi : L.testBit i
    · have mono : ∀ Y, ms_sub Y (X ||| (2 ^ e ||| cirN a n (L ||| 2 ^ e))) → a ((L &&& Y) ||| 2 ^ i) = a (L &&& Y) → a ((L &&& (X ||| (2 ^ e ||| cirN a n (L ||| 2 ^ e)))) ||| 2 ^ i) = a (L &&& (X ||| (2 ^ e ||| cirN a n (L ||| 2 ^ e)))) := by
        intro Y hY hr
        refine ha.2.2 _ _ i (ms_and_lt hL) hi (fun j hj => ?_) hr
        rw [Nat.testBit_and, Bool.and_eq_true] at hj ⊢
        exact ⟨hj.1, hY j hj.2⟩
      rw [Nat.testBit_or, Nat.testBit_or, Nat.testBit_two_pow, Bool.or_eq_true, Bool.or_eq_true] at hib
      have circ : i = e → a ((L &&& (X ||| (2 ^ e ||| cirN a n (L ||| 2 ^ e)))) ||| 2 ^ i) = a (L &&& (X ||| (2 ^ e ||| cirN a n (L ||| 2 ^ e)))) := by
        intro q
        subst q
        exact mono _ (fun j hj => by rw [Nat.testBit_or, Nat.testBit_or, hj, Bool.or_true, Bool.or_true]) (mt_circ ha hL fa he hLi hLe)
      rcases hib with h1 | h1 | h1
      · exact mono X (ms_sub_orl _ _) (hXs i hi h1)
      · exact circ (of_decide_eq_true h1).symm
      · obtain ⟨c1, c2, c3⟩ := cir_bit.mp h1
        rw [ms_ins_bit, hLi, Bool.false_or] at c2
        exact circ (of_decide_eq_true c2).symm
    · rw [ms_ins_in (by rw [Nat.testBit_and, hLi, hib]; rfl)]
  · have h1 := ms_card_ins he hXe
    have h2 : ms_card n (X ||| 2 ^ e) ≤ ms_card n (X ||| (2 ^ e ||| cirN a n (L ||| 2 ^ e))) := by
      rw [← Nat.or_assoc]
      exact ms_card_mono (ms_sub_orl _ _)
    omega
theorem ms_card_full (n : Nat) : ms_card n (2 ^ n - 1) = n := by
  have key : ∀ j, j ≤ n → ms_card j (2 ^ n - 1) = j := by
    intro j
    induction j with
    | zero => intro _; rfl
    | succ j ih =>
      intro hj
      simp only [ms_card]
      rw [ih (by omega), ms_full, decide_eq_true (show j < n by omega)]
      rfl
  exact key n (Nat.le_refl n)
theorem ms_sub_full {S n : Nat} (h : S < 2 ^ n) : ms_sub S (2 ^ n - 1) := fun i hi => by
  rw [ms_full]
  exact decide_eq_true (ms_bit_lt h hi)
theorem spI_end (ha : mt_ok n a) (hb : mt_ok n b) (hL : L < 2 ^ n) (fa : a L = ms_card n L) (fb : b L = ms_card n L) {X : Nat} (hX : spI a b n L X) (h0 : frc b n L X = 0) : wit a b n (ms_card n L) X := by
  obtain ⟨hXl, hXw, hXs⟩ := hX
  refine ⟨hXl, ?_⟩
  have e1 : a X = a (L &&& X) := by
    have := mt_grows ha (S := L &&& X) (X := X) (ms_and_lt hL) hXl hXs
    rw [ms_sub_or (ms_sub_andr L X)] at this
    exact this
  have e2 : b (ms_sd (2 ^ n - 1) X) = b (ms_sd L X) := by
    have hs : ms_sub (ms_sd L X) (ms_sd (2 ^ n - 1) X) := fun i hi => by
      rw [ms_sd_bit, Bool.and_eq_true] at hi ⊢
      rw [ms_full]
      exact ⟨decide_eq_true (ms_bit_lt hL hi.1), hi.2⟩
    have := mt_grows hb (S := ms_sd L X) (X := ms_sd (2 ^ n - 1) X) (ms_sd_lt hL) (ms_sd_lt (ms_full_lt n)) (fun e he hbt => by
      rw [ms_sd_bit, ms_full, Bool.and_eq_true] at hbt
      apply Classical.byContradiction
      intro q
      have : (frc b n L X).testBit e = true := frc_bit.mpr ⟨he, q, by simpa using hbt.2⟩
      rw [h0, Nat.zero_testBit] at this
      cases this)
    rw [ms_sub_or hs] at this
    exact this
  rw [e1, e2, mt_fsub ha hL (ms_sub_andl L X) fa, mt_fsub hb hL (ms_sub_sd L X) fb, ← ms_card_cut]
theorem spl_ok (ha : mt_ok n a) (hb : mt_ok n b) (hn : n ≤ 14) (hL : L < 2 ^ n) (fa : a L = ms_card n L) (fb : b L = ms_card n L) (hw : ∃ A, wit a b n (ms_card n L) A) :
    ∀ (k X : Nat), spI a b n L X → n ≤ k + ms_card n X → wit a b n (ms_card n L) (spl a b n L k X) ∧ ∀ A, wit a b n (ms_card n L) A → ms_sub (spl a b n L k X) A := by
  intro k
  induction k with
  | zero =>
    intro X hX hk
    have hfull : X = 2 ^ n - 1 := ms_card_eq (ms_full_lt n) (ms_sub_full hX.1) (by rw [ms_card_full]; omega)
    refine ⟨spI_end ha hb hL fa fb hX ?_, hX.2.1⟩
    apply Nat.eq_of_testBit_eq
    intro i
    rw [Nat.zero_testBit]
    cases hbt : (frc b n L X).testBit i
    · exact hbt
    · obtain ⟨h1, -, h3⟩ := frc_bit.mp hbt
      rw [hfull, ms_full, decide_eq_true h1] at h3
      cases h3
  | succ k ih =>
    intro X hX hk
    simp only [spl]
    by_cases q : loN (frc b n L X) = 0
    · rw [if_pos q]
      exact ⟨spI_end ha hb hL fa fb hX (loN_0.mp q), hX.2.1⟩
    · rw [if_neg q]
      obtain ⟨h1, h2, -⟩ := spI_step ha hb hn hL fa fb hw hX (fun z => q (loN_0.mpr z))
      exact ih _ h1 (by omega)
theorem spl_lt (hn : n ≤ 14) (k : Nat) : ∀ X, X < 2 ^ n → spl a b n L k X < 2 ^ n := by
  induction k with
  | zero => exact fun X h => h
  | succ k ih =>
    intro X h
    simp only [spl]
    split
    · exact h
    · rename_i q
      refine ih _ (Nat.or_lt_two_pow h (Nat.or_lt_two_pow ?_ (cir_lt a n _)))
      by_cases z : frc b n L X = 0
      · exact absurd (loN_0.mpr z) q
      · rcases Nat.lt_or_ge (tzN 14 (frc b n L X)) 14 with y | y
        · have h1 := tzN_in y
          have h2 := (frc_bit.mp h1).1
          rw [loN_pos z]
          exact ms_pow_lt h2
        · exfalso
          apply z
          apply Nat.eq_of_testBit_eq
          intro i
          rw [Nat.zero_testBit]
          rcases Nat.lt_or_ge i 14 with w | w
          · exact tzN_lo (n := 14) (by omega)
          · cases hb : (frc b n L X).testBit i
            · rfl
            · have h9 := ms_bit_lt (frc_lt b n L X) hb
              omega
/-- there is a witness, when no common set is larger -/
theorem wit_ex (ha : mt_ok n a) (hb : mt_ok n b) (hL : L < 2 ^ n) (fa : a L = ms_card n L) (fb : b L = ms_card n L) (hmax : ∀ I, I < 2 ^ n → a I = ms_card n I → b I = ms_card n I → ms_card n I ≤ ms_card n L) : ∃ A, wit a b n (ms_card n L) A := by
  obtain ⟨I, U, hI, hU, h1, h2, h3⟩ := mt_inter n a b ha hb
  refine ⟨U, hU, ?_⟩
  have h4 := hmax I hI h1 h2
  have f1 := mt_fsub ha hL (ms_sub_andl L U) fa
  have f2 := mt_fsub hb hL (ms_sub_sd L U) fb
  have f3 := mt_mono ha hU (ms_sub_andr L U)
  have hs : ms_sub (ms_sd L U) (ms_sd (2 ^ n - 1) U) := fun i hi => by
    rw [ms_sd_bit, Bool.and_eq_true] at hi ⊢
    rw [ms_full]
    exact ⟨decide_eq_true (ms_bit_lt hL hi.1), hi.2⟩
  have f4 := mt_mono hb (ms_sd_lt (ms_full_lt n)) hs
  have f5 := ms_card_cut n L U
  omega
end
/-- the rest of the rest -/
theorem ms_sd_sd {S n : Nat} (h : S < 2 ^ n) : ms_sd (2 ^ n - 1) (ms_sd (2 ^ n - 1) S) = S := by
  apply Nat.eq_of_testBit_eq
  intro i
  rw [ms_sd_bit, ms_sd_bit, ms_full]
  cases hb : S.testBit i
  · simp
  · rw [decide_eq_true (ms_bit_lt h hb)]
    rfl
theorem wit_swap {n m A : Nat} {a b : Nat → Nat} (h : wit a b n m A) : wit b a n m (ms_sd (2 ^ n - 1) A) := ⟨ms_sd_lt (ms_full_lt n), by rw [ms_sd_sd h.1, Nat.add_comm]; exact h.2⟩
theorem ms_sd_anti {A B n : Nat} (h : ms_sub A (ms_sd (2 ^ n - 1) B)) (hA : B < 2 ^ n) : ms_sub B (ms_sd (2 ^ n - 1) A) := fun i hi => by
  rw [ms_sd_bit, ms_full, decide_eq_true (ms_bit_lt hA hi)]
  cases hb : A.testBit i
  · rfl
  · have := h i hb
    rw [ms_sd_bit, hi] at this
    simp at this
/-! all sets with a property, cut and joined -/
def wAnd (P : Nat → Bool) (n : Nat) : Nat → Nat
  | 0 => 2 ^ n - 1
  | m + 1 => if P m = true then wAnd P n m &&& m else wAnd P n m
def wOr (P : Nat → Bool) : Nat → Nat
  | 0 => 0
  | m + 1 => if P m = true then wOr P m ||| m else wOr P m
theorem wAnd_bit {P : Nat → Bool} {n : Nat} (i : Nat) : ∀ m, (wAnd P n m).testBit i = true ↔ (i < n ∧ ∀ s, s < m → P s = true → s.testBit i = true) := by
  intro m
  induction m with
  | zero =>
    simp only [wAnd]
    rw [ms_full, decide_eq_true_eq]
    exact ⟨fun h => ⟨h, fun s hs => by omega⟩, fun h => h.1⟩
  | succ m ih =>
    simp only [wAnd]
    by_cases q : P m = true
    · rw [if_pos q, Nat.testBit_and, Bool.and_eq_true, ih]
      constructor
      · rintro ⟨⟨h1, h2⟩, h3⟩
        refine ⟨h1, fun s hs hp => ?_⟩
        by_cases z : s = m
        · subst z
          exact h3
        · exact h2 s (by omega) hp
      · rintro ⟨h1, h2⟩
        exact ⟨⟨h1, fun s hs hp => h2 s (by omega) hp⟩, h2 m (by omega) q⟩
    · rw [if_neg q, ih]
      constructor
      · rintro ⟨h1, h2⟩
        refine ⟨h1, fun s hs hp => ?_⟩
        by_cases z : s = m
        · subst z
          exact absurd hp q
        · exact h2 s (by omega) hp
      · rintro ⟨h1, h2⟩
        exact ⟨h1, fun s hs hp => h2 s (by omega) hp⟩
theorem wOr_bit {P : Nat → Bool} (i : Nat) : ∀ m, (wOr P m).testBit i = true ↔ (∃ s, s < m ∧ P s = true ∧ s.testBit i = true) := by
  intro m
  induction m with
  | zero =>
    simp only [wOr]
    rw [Nat.zero_testBit]
    exact ⟨fun h => (by cases h), fun ⟨s, hs, _⟩ => by omega⟩
  | succ m ih =>
    simp only [wOr]
    by_cases q : P m = true
    · rw [if_pos q, Nat.testBit_or, Bool.or_eq_true, ih]
      constructor
      · rintro (⟨s, h1, h2, h3⟩ | h)
        · exact ⟨s, by omega, h2, h3⟩
        · exact ⟨m, by omega, q, h⟩
      · rintro ⟨s, h1, h2, h3⟩
        by_cases z : s = m
        · subst z
          exact Or.inr h3
        · exact Or.inl ⟨s, by omega, h2, h3⟩
    · rw [if_neg q, ih]
      constructor
      · rintro ⟨s, h1, h2, h3⟩
        exact ⟨s, by omega, h2, h3⟩
      · rintro ⟨s, h1, h2, h3⟩
        by_cases z : s = m
        · subst z
          exact absurd h2 q
        · exact ⟨s, by omega, h2, h3⟩
theorem wAnd_is {P : Nat → Bool} {n X : Nat} (hX : X < 2 ^ n) (hP : P X = true) (h : ∀ s, s < 2 ^ n → P s = true → ms_sub X s) : wAnd P n (2 ^ n) = X := by
  apply ms_sub_eq
  · intro i hi
    exact ((wAnd_bit i _).mp hi).2 X hX hP
  · intro i hi
    exact (wAnd_bit i _).mpr ⟨ms_bit_lt hX hi, fun s hs hp => h s hs hp i hi⟩
theorem wOr_is {P : Nat → Bool} {n X : Nat} (hX : X < 2 ^ n) (hP : P X = true) (h : ∀ s, s < 2 ^ n → P s = true → ms_sub s X) : wOr P (2 ^ n) = X := by
  apply ms_sub_eq
  · intro i hi
    obtain ⟨s, h1, h2, h3⟩ := (wOr_bit i _).mp hi
    exact h s h1 h2 i h3
  · intro i hi
    exact (wOr_bit i _).mpr ⟨X, hX, hP, hi⟩
