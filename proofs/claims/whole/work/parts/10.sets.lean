/-! sets of edges as numbers: bit i is 1 for each i that is in -/
def ms_sub (S T : Nat) : Prop := ∀ i, S.testBit i = true → T.testBit i = true
def ms_sd (a b : Nat) : Nat := a ^^^ (a &&& b)
theorem ms_sd_bit (a b i : Nat) : (ms_sd a b).testBit i = (a.testBit i && !b.testBit i) := by
  unfold ms_sd
  rw [Nat.testBit_xor, Nat.testBit_and]
  cases a.testBit i <;> cases b.testBit i <;> rfl
theorem ms_ins_bit (S e i : Nat) : (S ||| 2 ^ e).testBit i = (S.testBit i || decide (e = i)) := by
  rw [Nat.testBit_or, Nat.testBit_two_pow]
theorem ms_lt {x n : Nat} (h : ∀ i, x.testBit i = true → i < n) : x < 2 ^ n := by
  apply Nat.lt_pow_two_of_testBit
  intro i hi
  cases hb : x.testBit i
  · rfl
  · have := h i hb
    omega
theorem ms_bit_lt {x n i : Nat} (h : x < 2 ^ n) (hb : x.testBit i = true) : i < n := by
  rcases Nat.lt_or_ge i n with q | q
  · exact q
  · have := Nat.testBit_lt_two_pow (Nat.lt_of_lt_of_le h (Nat.pow_le_pow_right (by decide) q))
    rw [this] at hb
    cases hb
theorem ms_bit_ge {x n i : Nat} (h : x < 2 ^ n) (hi : n ≤ i) : x.testBit i = false := by
  cases hb : x.testBit i
  · rfl
  · have := ms_bit_lt h hb
    omega
theorem ms_up {x n k : Nat} (h : x < 2 ^ n) (hk : n ≤ k) : x < 2 ^ k := Nat.lt_of_lt_of_le h (Nat.pow_le_pow_right (by decide) hk)
theorem ms_pow_lt {e n : Nat} (h : e < n) : 2 ^ e < 2 ^ n := Nat.pow_lt_pow_right (by decide) h
theorem ms_ins_lt {S e n : Nat} (h : S < 2 ^ n) (he : e < n) : S ||| 2 ^ e < 2 ^ n := Nat.or_lt_two_pow h (ms_pow_lt he)
theorem ms_sd_lt {a b n : Nat} (h : a < 2 ^ n) : ms_sd a b < 2 ^ n := by
  apply ms_lt
  intro i hi
  rw [ms_sd_bit, Bool.and_eq_true] at hi
  exact ms_bit_lt h hi.1
theorem ms_lo_in {S j : Nat} (h : S.testBit j = true) : S % 2 ^ (j + 1) = S % 2 ^ j ||| 2 ^ j := by
  apply Nat.eq_of_testBit_eq
  intro i
  rw [ms_ins_bit, Nat.testBit_mod_two_pow, Nat.testBit_mod_two_pow]
  by_cases hij : j = i
  · subst hij
    simp [h]
  · have : decide (i < j + 1) = decide (i < j) := decide_eq_decide.mpr (by omega)
    rw [this]
    simp [hij]
theorem ms_lo_out {S j : Nat} (h : S.testBit j = false) : S % 2 ^ (j + 1) = S % 2 ^ j := by
  apply Nat.eq_of_testBit_eq
  intro i
  rw [Nat.testBit_mod_two_pow, Nat.testBit_mod_two_pow]
  by_cases hij : j = i
  · subst hij
    simp [h]
  · have : decide (i < j + 1) = decide (i < j) := decide_eq_decide.mpr (by omega)
    rw [this]
theorem ms_sub_rf (S : Nat) : ms_sub S S := fun _ h => h
theorem ms_sub_tr {S T U : Nat} (h : ms_sub S T) (k : ms_sub T U) : ms_sub S U := fun i q => k i (h i q)
theorem ms_sub_0 (S : Nat) : ms_sub 0 S := fun i h => by rw [Nat.zero_testBit] at h; cases h
theorem ms_sub_ins (S e : Nat) : ms_sub S (S ||| 2 ^ e) := fun i h => by rw [ms_ins_bit, h, Bool.true_or]
theorem ms_sub_orl (S T : Nat) : ms_sub S (S ||| T) := fun i h => by rw [Nat.testBit_or, h, Bool.true_or]
theorem ms_sub_orr (S T : Nat) : ms_sub T (S ||| T) := fun i h => by rw [Nat.testBit_or, h, Bool.or_true]
theorem ms_sub_andl (S T : Nat) : ms_sub (S &&& T) S := fun i h => by
  rw [Nat.testBit_and, Bool.and_eq_true] at h
  exact h.1
theorem ms_sub_andr (S T : Nat) : ms_sub (S &&& T) T := fun i h => by
  rw [Nat.testBit_and, Bool.and_eq_true] at h
  exact h.2
theorem ms_sub_sd (S T : Nat) : ms_sub (ms_sd S T) S := fun i h => by
  rw [ms_sd_bit, Bool.and_eq_true] at h
  exact h.1
theorem ms_sub_lt {S T n : Nat} (h : ms_sub S T) (hT : T < 2 ^ n) : S < 2 ^ n := ms_lt fun i q => ms_bit_lt hT (h i q)
theorem ms_sub_eq {S T : Nat} (h : ms_sub S T) (k : ms_sub T S) : S = T := by
  apply Nat.eq_of_testBit_eq
  intro i
  cases hs : S.testBit i
  · cases ht : T.testBit i
    · rfl
    · rw [k i ht] at hs
      cases hs
  · exact (h i hs).symm
theorem ms_sub_or {S T : Nat} (h : ms_sub S T) : S ||| T = T := by
  apply Nat.eq_of_testBit_eq
  intro i
  rw [Nat.testBit_or]
  cases hs : S.testBit i
  · rfl
  · rw [h i hs]
    rfl
theorem ms_sub_ins2 {S T : Nat} (h : ms_sub S T) (e : Nat) : ms_sub (S ||| 2 ^ e) (T ||| 2 ^ e) := fun i q => by
  rw [ms_ins_bit, Bool.or_eq_true] at q ⊢
  exact q.imp (h i) id
theorem ms_sub_or2 {S T X : Nat} (h : ms_sub S T) : ms_sub (S ||| X) (T ||| X) := fun i q => by
  rw [Nat.testBit_or, Bool.or_eq_true] at q ⊢
  exact q.imp (h i) id
theorem ms_ins_in {S e : Nat} (h : S.testBit e = true) : S ||| 2 ^ e = S := by
  apply Nat.eq_of_testBit_eq
  intro i
  rw [ms_ins_bit]
  by_cases q : e = i
  · subst q
    rw [h, Bool.true_or]
  · rw [decide_eq_false q, Bool.or_false]
theorem ms_del_ins {S e : Nat} (h : S.testBit e = true) : ms_sd S (2 ^ e) ||| 2 ^ e = S := by
  apply Nat.eq_of_testBit_eq
  intro i
  rw [ms_ins_bit, ms_sd_bit, Nat.testBit_two_pow]
  by_cases q : e = i
  · subst q
    rw [h]
    simp
  · simp [q]
theorem ms_del_bit (S e : Nat) : (ms_sd S (2 ^ e)).testBit e = false := by
  rw [ms_sd_bit, Nat.testBit_two_pow]
  simp
theorem ms_or_r (a b c : Nat) : a ||| b ||| c = a ||| c ||| b := by
  rw [Nat.or_assoc, Nat.or_comm b c, ← Nat.or_assoc]
/-- how many of the numbers below n are in -/
def ms_card : Nat → Nat → Nat
  | 0, _ => 0
  | n + 1, S => ms_card n S + (S.testBit n).toNat
theorem ms_card_congr {n S T : Nat} (h : ∀ i, i < n → S.testBit i = T.testBit i) : ms_card n S = ms_card n T := by
  induction n with
  | zero => rfl
  | succ n ih =>
    simp only [ms_card]
    rw [ih (fun i hi => h i (by omega)), h n (by omega)]
theorem ms_card_ins {n S e : Nat} (he : e < n) (h : S.testBit e = false) : ms_card n (S ||| 2 ^ e) = ms_card n S + 1 := by
  induction n with
  | zero => omega
  | succ n ih =>
    simp only [ms_card]
    rcases Nat.lt_or_ge e n with q | q
    · rw [ih q, ms_ins_bit, decide_eq_false (by omega), Bool.or_false]
      omega
    · have hen : e = n := by omega
      subst hen
      rw [ms_card_congr (T := S) (fun i hi => by rw [ms_ins_bit, decide_eq_false (by omega), Bool.or_false]), ms_ins_bit, decide_eq_true rfl, Bool.or_true, h]
      rfl
theorem ms_card_0 (n : Nat) : ms_card n 0 = 0 := by
  induction n with
  | zero => rfl
  | succ n ih =>
    simp only [ms_card]
    rw [ih, Nat.zero_testBit]
    rfl
theorem ms_card_up {n S : Nat} (h : S < 2 ^ n) : ms_card (n + 1) S = ms_card n S := by
  simp only [ms_card]
  rw [ms_bit_ge h (Nat.le_refl n)]
  rfl
theorem ms_card_ge {n k S : Nat} (h : S < 2 ^ n) (hk : n ≤ k) : ms_card k S = ms_card n S := by
  induction k with
  | zero =>
    have : n = 0 := by omega
    subst this
    rfl
  | succ k ih =>
    rcases Nat.lt_or_ge n (k + 1) with q | q
    · rw [ms_card_up (ms_up h (by omega)), ih (by omega)]
    · have : n = k + 1 := by omega
      subst this
      rfl
theorem ms_card_mono {n S T : Nat} (h : ms_sub S T) : ms_card n S ≤ ms_card n T := by
  induction n with
  | zero => exact Nat.le_refl _
  | succ n ih =>
    simp only [ms_card]
    cases hs : S.testBit n
    · simp only [Bool.toNat_false]
      omega
    · rw [h n hs]
      omega
theorem ms_card_le (n S : Nat) : ms_card n S ≤ n := by
  induction n with
  | zero => exact Nat.le_refl _
  | succ n ih =>
    simp only [ms_card]
    have : (S.testBit n).toNat ≤ 1 := Bool.toNat_le _
    omega
theorem ms_card_del {n S e : Nat} (he : e < n) (h : S.testBit e = true) : ms_card n S = ms_card n (ms_sd S (2 ^ e)) + 1 := by
  have := ms_card_ins (S := ms_sd S (2 ^ e)) he (ms_del_bit S e)
  rw [ms_del_ins h] at this
  exact this
theorem ms_card_pos {n S : Nat} (hS : S < 2 ^ n) (h : ms_card n S = 0) : S = 0 := by
  apply ms_sub_eq _ (ms_sub_0 S)
  intro i hi
  have := ms_card_del (ms_bit_lt hS hi) hi
  omega
theorem ms_card_eq {n S T : Nat} (hT : T < 2 ^ n) (h : ms_sub S T) (hc : ms_card n T ≤ ms_card n S) : S = T := by
  apply ms_sub_eq h
  intro i hi
  cases hs : S.testBit i
  · have h1 := ms_card_del (ms_bit_lt hT hi) hi
    have h2 : ms_card n S ≤ ms_card n (ms_sd T (2 ^ i)) := ms_card_mono fun j hj => by
      rw [ms_sd_bit, Nat.testBit_two_pow, h j hj]
      have : ¬ i = j := fun q => by rw [q, hj] at hs; cases hs
      simp [this]
    omega
  · rfl
/-! matroids by their ranks -/
def mt_ok (n : Nat) (r : Nat → Nat) : Prop := r 0 = 0 ∧ (∀ S e, S < 2 ^ n → e < n → r (S ||| 2 ^ e) = r S ∨ r (S ||| 2 ^ e) = r S + 1) ∧ (∀ S T e, T < 2 ^ n → e < n → ms_sub S T → r (S ||| 2 ^ e) = r S → r (T ||| 2 ^ e) = r T)
/-- from S to S with X, one at a time -/
theorem mt_grow {P : Nat → Prop} {S X n : Nat} (hX : X < 2 ^ n) (h0 : P S) (hs : ∀ Y e, e < n → X.testBit e = true → ms_sub S Y → ms_sub Y (S ||| X) → (Y.testBit e = S.testBit e) → P Y → P (Y ||| 2 ^ e)) : P (S ||| X) := by
  have key : ∀ j, j ≤ n → P (S ||| X % 2 ^ j) := by
    intro j
    induction j with
    | zero =>
      intro _
      rw [Nat.pow_zero, Nat.mod_one, Nat.or_zero]
      exact h0
    | succ j ih =>
      intro hj
      cases hb : X.testBit j
      · rw [ms_lo_out hb]
        exact ih (by omega)
      · rw [ms_lo_in hb, ← Nat.or_assoc]
        refine hs _ j (by omega) hb (ms_sub_orl _ _) (fun i hi => ?_) ?_ (ih (by omega))
        · rw [Nat.testBit_or, Nat.testBit_mod_two_pow] at hi
          rw [Nat.testBit_or]
          cases h1 : S.testBit i
          · rw [h1] at hi
            simp at hi
            rw [hi.2]
            rfl
          · rfl
        · rw [Nat.testBit_or, Nat.testBit_mod_two_pow]
          simp
  have := key n (Nat.le_refl n)
  rw [Nat.mod_eq_of_lt hX] at this
  exact this
theorem mt_mono {n : Nat} {r : Nat → Nat} (h : mt_ok n r) {S T : Nat} (hT : T < 2 ^ n) (hs : ms_sub S T) : r S ≤ r T := by
  have := mt_grow (P := fun Y => r S ≤ r Y) hT (Nat.le_refl (r S)) (fun Y e he hb h1 h2 h3 hp => by
    have hY : Y < 2 ^ n := ms_sub_lt h2 (by rw [ms_sub_or hs]; exact hT)
    have := h.2.1 Y e hY he
    omega)
  rw [ms_sub_or hs] at this
  exact this
theorem mt_card {n : Nat} {r : Nat → Nat} (h : mt_ok n r) {S : Nat} (hS : S < 2 ^ n) : r S ≤ ms_card n S := by
  have := mt_grow (P := fun Y => r Y ≤ ms_card n Y) (S := 0) hS (by rw [h.1]; exact Nat.zero_le _) (fun Y e he hb h1 h2 h3 hp => by
    rw [Nat.zero_or] at h2
    rw [Nat.zero_testBit] at h3
    have := h.2.1 Y e (ms_sub_lt h2 hS) he
    rw [ms_card_ins he h3]
    omega)
  rw [Nat.zero_or] at this
  exact this
theorem mt_diff {n : Nat} {r : Nat → Nat} (h : mt_ok n r) {A B X : Nat} (hB : B < 2 ^ n) (hX : X < 2 ^ n) (hs : ms_sub A B) : r (B ||| X) + r A ≤ r (A ||| X) + r B := by
  have key : ∀ j, j ≤ n → r (B ||| X % 2 ^ j) + r A ≤ r (A ||| X % 2 ^ j) + r B := by
    intro j
    induction j with
    | zero =>
      intro _
      rw [Nat.pow_zero, Nat.mod_one, Nat.or_zero, Nat.or_zero]
      omega
    | succ j ih =>
      intro hj
      cases hb : X.testBit j
      · rw [ms_lo_out hb]
        exact ih (by omega)
      · rw [ms_lo_in hb, ← Nat.or_assoc, ← Nat.or_assoc]
        have hlo : X % 2 ^ j < 2 ^ n := Nat.lt_of_le_of_lt (Nat.mod_le _ _) hX
        have hBl : B ||| X % 2 ^ j < 2 ^ n := Nat.or_lt_two_pow hB hlo
        have hAl : A ||| X % 2 ^ j < 2 ^ n := Nat.or_lt_two_pow (ms_sub_lt hs hB) hlo
        have h1 := h.2.1 _ j hBl (by omega)
        have h2 := h.2.1 _ j hAl (by omega)
        have h3 := h.2.2 (A ||| X % 2 ^ j) (B ||| X % 2 ^ j) j hBl (by omega) (ms_sub_or2 hs)
        have := ih (by omega)
        omega
  have := key n (Nat.le_refl n)
  rw [Nat.mod_eq_of_lt hX] at this
  exact this
theorem mt_submod {n : Nat} {r : Nat → Nat} (h : mt_ok n r) {P Q : Nat} (hP : P < 2 ^ n) (hQ : Q < 2 ^ n) : r (P ||| Q) + r (P &&& Q) ≤ r P + r Q := by
  have := mt_diff h (A := P &&& Q) (B := Q) (X := P) hQ hP (ms_sub_andr P Q)
  rw [ms_sub_or (ms_sub_andl P Q), Nat.or_comm Q P] at this
  exact this
theorem mt_less {n : Nat} {r : Nat → Nat} (h : mt_ok (n + 1) r) : mt_ok n r :=
  ⟨h.1, fun S e hS he => h.2.1 S e (ms_up hS (by omega)) (by omega), fun S T e hT he => h.2.2 S T e (ms_up hT (by omega)) (by omega)⟩
theorem mt_contr {n : Nat} {r : Nat → Nat} (h : mt_ok (n + 1) r) : mt_ok n (fun S => r (S ||| 2 ^ n) - r (2 ^ n)) := by
  have hN : 2 ^ n < 2 ^ (n + 1) := ms_pow_lt (by omega)
  have hge : ∀ S, S < 2 ^ n → r (2 ^ n) ≤ r (S ||| 2 ^ n) := fun S hS => mt_mono h (ms_ins_lt (ms_up hS (by omega)) (by omega)) (ms_sub_orr S (2 ^ n))
  refine ⟨?_, fun S e hS he => ?_, fun S T e hT he hs hr => ?_⟩
  · show r (0 ||| 2 ^ n) - r (2 ^ n) = 0
    rw [Nat.zero_or]
    omega
  · show r (S ||| 2 ^ e ||| 2 ^ n) - r (2 ^ n) = r (S ||| 2 ^ n) - r (2 ^ n) ∨ r (S ||| 2 ^ e ||| 2 ^ n) - r (2 ^ n) = r (S ||| 2 ^ n) - r (2 ^ n) + 1
    rw [ms_or_r S]
    have h1 := h.2.1 (S ||| 2 ^ n) e (ms_ins_lt (ms_up hS (by omega)) (by omega)) (by omega)
    have h2 := hge S hS
    omega
  · have hr : r (S ||| 2 ^ e ||| 2 ^ n) - r (2 ^ n) = r (S ||| 2 ^ n) - r (2 ^ n) := hr
    show r (T ||| 2 ^ e ||| 2 ^ n) - r (2 ^ n) = r (T ||| 2 ^ n) - r (2 ^ n)
    have hS := ms_sub_lt hs hT
    have h2 := hge S hS
    have h3 := hge _ (ms_ins_lt hS he)
    have h4 : r (S ||| 2 ^ n ||| 2 ^ e) = r (S ||| 2 ^ n) := by
      rw [ms_or_r S (2 ^ n)]
      omega
    rw [ms_or_r T, h.2.2 (S ||| 2 ^ n) (T ||| 2 ^ n) e (ms_ins_lt (ms_up hT (by omega)) (by omega)) (by omega) (ms_sub_ins2 hs n) h4]
theorem ms_full (n i : Nat) : (2 ^ n - 1).testBit i = decide (i < n) := Nat.testBit_two_pow_sub_one n i
theorem ms_full_lt (n : Nat) : 2 ^ n - 1 < 2 ^ n := by
  have := Nat.two_pow_pos n
  omega
set_option maxHeartbeats 1000000 in
/-- the largest set that is free by both, and what shows that there is no larger one -/
theorem mt_inter : ∀ (n : Nat) (a b : Nat → Nat), mt_ok n a → mt_ok n b → ∃ I U, I < 2 ^ n ∧ U < 2 ^ n ∧ a I = ms_card n I ∧ b I = ms_card n I ∧ a U + b (ms_sd (2 ^ n - 1) U) ≤ ms_card n I := by
  intro n
  induction n with
  | zero =>
    intro a b ha hb
    refine ⟨0, 0, by decide, by decide, ha.1, hb.1, ?_⟩
    have : ms_sd (2 ^ 0 - 1) 0 = 0 := rfl
    rw [this, ha.1, hb.1]
    exact Nat.le_refl _
  | succ n ih =>
    intro a b ha hb
    obtain ⟨I1, U1, hI1, hU1, a1, b1, k1⟩ := ih a b (mt_less ha) (mt_less hb)
    have hN : 2 ^ n < 2 ^ (n + 1) := ms_pow_lt (by omega)
    have cI1 := ms_card_up hI1
    have bU1 : ∀ i, U1.testBit i = true → i < n := fun i h => ms_bit_lt hU1 h
    have a0 := ha.2.1 0 n (Nat.two_pow_pos _) (by omega)
    have b0 := hb.2.1 0 n (Nat.two_pow_pos _) (by omega)
    rw [Nat.zero_or] at a0 b0
    rw [ha.1] at a0
    rw [hb.1] at b0
    by_cases za : a (2 ^ n) = 0
    · refine ⟨I1, U1 ||| 2 ^ n, ms_up hI1 (by omega), ms_ins_lt (ms_up hU1 (by omega)) (by omega), by rw [cI1]; exact a1, by rw [cI1]; exact b1, ?_⟩
      have e1 : ms_sd (2 ^ (n + 1) - 1) (U1 ||| 2 ^ n) = ms_sd (2 ^ n - 1) U1 := by
        apply Nat.eq_of_testBit_eq
        intro i
        have := bU1 i
        rw [ms_sd_bit, ms_sd_bit, ms_full, ms_full, ms_ins_bit]
        grind
      have e2 : a (U1 ||| 2 ^ n) = a U1 := ha.2.2 0 U1 n (ms_up hU1 (by omega)) (by omega) (ms_sub_0 U1) (by rw [Nat.zero_or, ha.1]; exact za)
      rw [e1, e2, cI1]
      exact k1
    · by_cases zb : b (2 ^ n) = 0
      · refine ⟨I1, U1, ms_up hI1 (by omega), ms_up hU1 (by omega), by rw [cI1]; exact a1, by rw [cI1]; exact b1, ?_⟩
        have e1 : ms_sd (2 ^ (n + 1) - 1) U1 = ms_sd (2 ^ n - 1) U1 ||| 2 ^ n := by
          apply Nat.eq_of_testBit_eq
          intro i
          have := bU1 i
          rw [ms_ins_bit, ms_sd_bit, ms_sd_bit, ms_full, ms_full]
          grind
        have e2 : b (ms_sd (2 ^ n - 1) U1 ||| 2 ^ n) = b (ms_sd (2 ^ n - 1) U1) := hb.2.2 0 _ n (ms_up (ms_sd_lt (ms_full_lt n)) (by omega)) (by omega) (ms_sub_0 _) (by rw [Nat.zero_or, hb.1]; exact zb)
        rw [e1, e2, cI1]
        exact k1
      · obtain ⟨I2, U2, hI2, hU2, a2, b2, k2⟩ := ih _ _ (mt_contr ha) (mt_contr hb)
        have a2 : a (I2 ||| 2 ^ n) - a (2 ^ n) = ms_card n I2 := a2
        have b2 : b (I2 ||| 2 ^ n) - b (2 ^ n) = ms_card n I2 := b2
        have k2 : a (U2 ||| 2 ^ n) - a (2 ^ n) + (b (ms_sd (2 ^ n - 1) U2 ||| 2 ^ n) - b (2 ^ n)) ≤ ms_card n I2 := k2
        have bU2 : ∀ i, U2.testBit i = true → i < n := fun i h => ms_bit_lt hU2 h
        have hF1 : ms_sd (2 ^ n - 1) U1 < 2 ^ (n + 1) := ms_up (ms_sd_lt (ms_full_lt n)) (by omega)
        have hF2 : ms_sd (2 ^ n - 1) U2 < 2 ^ (n + 1) := ms_up (ms_sd_lt (ms_full_lt n)) (by omega)
        have hF2' := ms_ins_lt hF2 (Nat.lt_succ_self n)
        have hU1' : U1 < 2 ^ (n + 1) := ms_up hU1 (by omega)
        have hU2' : U2 ||| 2 ^ n < 2 ^ (n + 1) := ms_ins_lt (ms_up hU2 (by omega)) (by omega)
        have s1 := mt_submod ha hU1' hU2'
        have s2 := mt_submod hb hF1 hF2'
        have g1 : a (2 ^ n) ≤ a (I2 ||| 2 ^ n) := mt_mono ha (ms_ins_lt (ms_up hI2 (by omega)) (by omega)) (ms_sub_orr _ _)
        have g2 : b (2 ^ n) ≤ b (I2 ||| 2 ^ n) := mt_mono hb (ms_ins_lt (ms_up hI2 (by omega)) (by omega)) (ms_sub_orr _ _)
        have g3 : a (2 ^ n) ≤ a (U2 ||| 2 ^ n) := mt_mono ha hU2' (ms_sub_orr _ _)
        have g4 : b (2 ^ n) ≤ b (ms_sd (2 ^ n - 1) U2 ||| 2 ^ n) := mt_mono hb hF2' (ms_sub_orr _ _)
        have e1 : U1 &&& (U2 ||| 2 ^ n) = U1 &&& U2 := by
          apply Nat.eq_of_testBit_eq
          intro i
          have := bU1 i
          rw [Nat.testBit_and, Nat.testBit_and, ms_ins_bit]
          grind
        have e2 : ms_sd (2 ^ n - 1) U1 ||| (ms_sd (2 ^ n - 1) U2 ||| 2 ^ n) = ms_sd (2 ^ (n + 1) - 1) (U1 &&& U2) := by
          apply Nat.eq_of_testBit_eq
          intro i
          have := bU1 i
          have := bU2 i
          rw [Nat.testBit_or, ms_ins_bit, ms_sd_bit, ms_sd_bit, ms_sd_bit, Nat.testBit_and, ms_full, ms_full]
          grind
        have e3 : ms_sd (2 ^ n - 1) U1 &&& (ms_sd (2 ^ n - 1) U2 ||| 2 ^ n) = ms_sd (2 ^ (n + 1) - 1) (U1 ||| (U2 ||| 2 ^ n)) := by
          apply Nat.eq_of_testBit_eq
          intro i
          have := bU1 i
          have := bU2 i
          rw [Nat.testBit_and, ms_ins_bit, ms_sd_bit, ms_sd_bit, ms_sd_bit, Nat.testBit_or, ms_ins_bit, ms_full, ms_full]
          grind
        rw [e1] at s1
        rw [e2, e3] at s2
        have cI2 : ms_card (n + 1) (I2 ||| 2 ^ n) = ms_card n I2 + 1 := by
          rw [ms_card_ins (Nat.lt_succ_self n) (ms_bit_ge hI2 (Nat.le_refl n)), ms_card_up hI2]
        have hP : U1 &&& U2 < 2 ^ (n + 1) := ms_sub_lt (ms_sub_andl U1 U2) hU1'
        have hQ : U1 ||| (U2 ||| 2 ^ n) < 2 ^ (n + 1) := Nat.or_lt_two_pow hU1' hU2'
        have fin : ∀ I, I < 2 ^ (n + 1) → a I = ms_card (n + 1) I → b I = ms_card (n + 1) I → ms_card n I1 ≤ ms_card (n + 1) I → ms_card n I2 + 1 ≤ ms_card (n + 1) I → ∃ I U, I < 2 ^ (n + 1) ∧ U < 2 ^ (n + 1) ∧ a I = ms_card (n + 1) I ∧ b I = ms_card (n + 1) I ∧ a U + b (ms_sd (2 ^ (n + 1) - 1) U) ≤ ms_card (n + 1) I := by
          intro I hI h1 h2 h3 h4
          by_cases q : a (U1 &&& U2) + b (ms_sd (2 ^ (n + 1) - 1) (U1 &&& U2)) ≤ ms_card (n + 1) I
          · exact ⟨I, _, hI, hP, h1, h2, q⟩
          · exact ⟨I, _, hI, hQ, h1, h2, by omega⟩
        rcases Nat.lt_or_ge (ms_card n I2) (ms_card n I1) with q | q
        · exact fin I1 (ms_up hI1 (by omega)) (by rw [cI1]; exact a1) (by rw [cI1]; exact b1) (by rw [cI1]; exact Nat.le_refl _) (by rw [cI1]; exact q)
        · exact fin (I2 ||| 2 ^ n) (ms_ins_lt (ms_up hI2 (by omega)) (by omega)) (by rw [cI2]; omega) (by rw [cI2]; omega) (by rw [cI2]; omega) (by rw [cI2]; omega)
