/-! ===== Int32 by its bits: bt x i ===== -/
def bt (x : Int32) (i : Nat) : Bool := x.toBitVec.getLsbD i
theorem b_ext {x y : Int32} (h : ∀ i, i < 32 → bt x i = bt y i) : x = y := Int32.toBitVec_inj.mp (BitVec.eq_of_getLsbD_eq (fun i hi => h i hi))
theorem b_or (x y : Int32) (i : Nat) : bt (x ||| y) i = (bt x i || bt y i) := by unfold bt; rw [Int32.toBitVec_or, BitVec.getLsbD_or]
theorem b_and (x y : Int32) (i : Nat) : bt (x &&& y) i = (bt x i && bt y i) := by unfold bt; rw [Int32.toBitVec_and, BitVec.getLsbD_and]
theorem b_xor (x y : Int32) (i : Nat) : bt (x ^^^ y) i = (bt x i ^^ bt y i) := by unfold bt; rw [Int32.toBitVec_xor, BitVec.getLsbD_xor]
theorem b_big {x : Int32} {i : Nat} (h : 32 ≤ i) : bt x i = false := BitVec.getLsbD_of_ge _ _ h
theorem b_255 (i : Nat) : bt 255 i = decide (i < 8) := by
  rcases Nat.lt_or_ge i 32 with h | h
  · exact (by decide +kernel : ∀ i, i < 32 → bt 255 i = decide (i < 8)) i h
  · rw [b_big h, decide_eq_false (by omega)]
theorem b_65535 (i : Nat) : bt 65535 i = decide (i < 16) := by
  rcases Nat.lt_or_ge i 32 with h | h
  · exact (by decide +kernel : ∀ i, i < 32 → bt 65535 i = decide (i < 16)) i h
  · rw [b_big h, decide_eq_false (by omega)]
theorem b_m1 : ∀ i, i < 32 → bt (-1) i = true := by decide +kernel
theorem b_0 (i : Nat) : bt 0 i = false := BitVec.getLsbD_zero
theorem s_l : ∀ n, n < 32 → ((nI n &&& 31).toBitVec.smod 32).toNat = n := by decide +kernel
theorem s_u : ∀ n, n < 32 → (((nI n).toUInt32 &&& Int32.toUInt32 31).toBitVec % 32).toNat = n := by decide +kernel
theorem b_shl (n : Nat) (hn : n < 32) (x : Int32) {i : Nat} (hi : i < 32) : bt (x <<< (nI n &&& 31)) i = (decide (n ≤ i) && bt x (i - n)) := by
  unfold bt
  rw [Int32.toBitVec_shiftLeft]
  show (x.toBitVec <<< ((nI n &&& 31).toBitVec.smod 32).toNat).getLsbD i = _
  rw [s_l n hn, BitVec.getLsbD_shiftLeft]
  rcases Nat.lt_or_ge i n with h | h
  · simp [h, Nat.not_le.mpr h]
  · simp [hi, h, Nat.not_lt.mpr h]
theorem b_ushr (n : Nat) (hn : n < 32) (x : Int32) (i : Nat) : bt ((x.toUInt32 >>> ((nI n).toUInt32 &&& Int32.toUInt32 31)).toInt32) i = bt x (n + i) := by
  show (x.toUInt32 >>> ((nI n).toUInt32 &&& Int32.toUInt32 31)).toBitVec.getLsbD i = x.toUInt32.toBitVec.getLsbD (n + i)
  rw [UInt32.toBitVec_shiftRight]
  show (x.toUInt32.toBitVec >>> (((nI n).toUInt32 &&& Int32.toUInt32 31).toBitVec % 32).toNat).getLsbD i = _
  rw [s_u n hn, BitVec.getLsbD_ushiftRight]
theorem b_sshr (n : Nat) (hn : n < 32) (x : Int32) {i : Nat} (hi : i < 32) : bt (x >>> (nI n &&& 31)) i = if n + i < 32 then bt x (n + i) else bt x 31 := by
  unfold bt
  rw [Int32.toBitVec_shiftRight]
  show (x.toBitVec.sshiftRight ((nI n &&& 31).toBitVec.smod 32).toNat).getLsbD i = _
  rw [s_l n hn, BitVec.getLsbD_sshiftRight, BitVec.msb_eq_getLsbD_last]
  simp [hi]
theorem b_shl8 (x : Int32) {i : Nat} (hi : i < 32) : bt (x <<< ((8 : Int32) &&& 31)) i = (decide (8 ≤ i) && bt x (i - 8)) := b_shl 8 (by omega) x hi
theorem b_shl16 (x : Int32) {i : Nat} (hi : i < 32) : bt (x <<< ((16 : Int32) &&& 31)) i = (decide (16 ≤ i) && bt x (i - 16)) := b_shl 16 (by omega) x hi
theorem b_shl24 (x : Int32) {i : Nat} (hi : i < 32) : bt (x <<< ((24 : Int32) &&& 31)) i = (decide (24 ≤ i) && bt x (i - 24)) := b_shl 24 (by omega) x hi
theorem b_sshr8 (x : Int32) {i : Nat} (hi : i < 32) : bt (x >>> ((8 : Int32) &&& 31)) i = if 8 + i < 32 then bt x (8 + i) else bt x 31 := b_sshr 8 (by omega) x hi
theorem fb_rng (x : Int32) : -2147483648 ≤ x.toInt ∧ x.toInt < 2147483648 := by
  have h1 := Int32.le_toInt x
  have h2 := Int32.toInt_lt x
  omega
theorem fb_bmod {z : Int} (h1 : -2147483648 ≤ z) (h2 : z < 2147483648) : z.bmod (2 ^ 32) = z := by
  rw [Int.bmod_eq_of_le (by omega) (by omega)]
theorem fb_addI {x y : Int32} (h1 : -2147483648 ≤ x.toInt + y.toInt) (h2 : x.toInt + y.toInt < 2147483648) : (x + y).toInt = x.toInt + y.toInt := by
  rw [Int32.toInt_add, fb_bmod h1 h2]
theorem fb_subI {x y : Int32} (h1 : -2147483648 ≤ x.toInt - y.toInt) (h2 : x.toInt - y.toInt < 2147483648) : (x - y).toInt = x.toInt - y.toInt := by
  rw [Int32.toInt_sub, fb_bmod h1 h2]
theorem fb_mulI {x y : Int32} (h1 : -2147483648 ≤ x.toInt * y.toInt) (h2 : x.toInt * y.toInt < 2147483648) : (x * y).toInt = x.toInt * y.toInt := by
  rw [Int32.toInt_mul, fb_bmod h1 h2]
theorem fb_negI {x : Int32} (h : x.toInt ≠ -2147483648) : (-x).toInt = -x.toInt := by
  have := fb_rng x
  rw [Int32.toInt_neg, fb_bmod (by omega) (by omega)]
theorem fb_ofI {z : Int} (h1 : -2147483648 ≤ z) (h2 : z < 2147483648) : (Int32.ofInt z).toInt = z := by
  rw [Int32.toInt_ofInt, fb_bmod h1 h2]
theorem fb_asI (x : Int32) : Int32.ofInt x.toInt = x := Int32.ofInt_toInt x
/-! ===== ours: ints as numbers ===== -/
def bI (b : Bool) : Int32 := if b = true then 1 else 0
theorem bI_t : bI true = nI 1 := rfl
theorem bI_f : bI false = nI 0 := rfl
theorem bI_nar (b : Bool) : narrow .boolean (.int (bI b)) = .int (bI b) := by cases b <;> rfl
theorem bI_0 {b : Bool} : bI b = 0 ↔ b = false := by cases b <;> decide
def zI (z : Int) : Int32 := Int32.ofInt z
theorem zI_n (n : Nat) : zI (n : Int) = nI n := Int32.ofInt_eq_ofNat
theorem zI_toInt {z : Int} (h1 : -2147483648 ≤ z) (h2 : z < 2147483648) : (zI z).toInt = z := fb_ofI h1 h2
theorem zI_as (x : Int32) : zI x.toInt = x := Int32.ofInt_toInt x
theorem zI_add (a b : Int) : zI a + zI b = zI (a + b) := (Int32.ofInt_add a b).symm
theorem zI_sub (a b : Int) : zI a - zI b = zI (a - b) := (Int32.ofInt_sub a b).symm
theorem bt_nI (n : Nat) {i : Nat} (hi : i < 32) : bt (nI n) i = n.testBit i := by
  unfold bt nI
  rw [show (Int32.ofNat n).toBitVec = BitVec.ofNat 32 n from rfl, BitVec.getLsbD_ofNat, decide_eq_true hi, Bool.true_and]
theorem ni_and (a b : Nat) : nI a &&& nI b = nI (a &&& b) := b_ext fun i hi => by rw [b_and, bt_nI _ hi, bt_nI _ hi, bt_nI _ hi, Nat.testBit_and]
theorem ni_or (a b : Nat) : nI a ||| nI b = nI (a ||| b) := b_ext fun i hi => by rw [b_or, bt_nI _ hi, bt_nI _ hi, bt_nI _ hi, Nat.testBit_or]
theorem ni_xor (a b : Nat) : nI a ^^^ nI b = nI (a ^^^ b) := b_ext fun i hi => by rw [b_xor, bt_nI _ hi, bt_nI _ hi, bt_nI _ hi, Nat.testBit_xor]
theorem ni_sd (a b : Nat) : nI a &&& (nI b ^^^ (-1)) = nI (ms_sd a b) := b_ext fun i hi => by rw [b_and, b_xor, b_m1 i hi, bt_nI _ hi, bt_nI _ hi, bt_nI _ hi, ms_sd_bit, Bool.xor_true]
theorem ni_shl (a : Nat) {k : Nat} (hk : k < 32) : nI a <<< (nI k &&& 31) = nI (a * 2 ^ k) := b_ext fun i hi => by
  rw [b_shl k hk _ hi, bt_nI _ hi, bt_nI _ (show i - k < 32 by omega), Nat.testBit_mul_two_pow]
theorem ni_bit {k : Nat} (hk : k < 32) : nI 1 <<< (nI k &&& 31) = nI (2 ^ k) := by rw [ni_shl 1 hk, Nat.one_mul]
theorem ni_ushr {a k : Nat} (ha : a < 2 ^ 32) (hk : k < 32) : ((nI a).toUInt32 >>> ((nI k).toUInt32 &&& Int32.toUInt32 31)).toInt32 = nI (a / 2 ^ k) := b_ext fun i hi => by
  rw [b_ushr k hk, bt_nI _ hi, Nat.testBit_div_two_pow]
  rcases Nat.lt_or_ge (k + i) 32 with h | h
  · rw [bt_nI _ h, Nat.add_comm]
  · rw [b_big h, Nat.add_comm, Nat.testBit_lt_two_pow (Nat.lt_of_lt_of_le ha (Nat.pow_le_pow_right (by decide) h))]
theorem ni_sshr {a k : Nat} (ha : a < 2 ^ 31) (hk : k < 32) : nI a >>> (nI k &&& 31) = nI (a / 2 ^ k) := b_ext fun i hi => by
  rw [b_sshr k hk _ hi, bt_nI _ hi, Nat.testBit_div_two_pow]
  rcases Nat.lt_or_ge (k + i) 32 with h | h
  · rw [if_pos h, bt_nI _ h, Nat.add_comm]
  · rw [if_neg (by omega), bt_nI _ (by decide), Nat.add_comm, Nat.testBit_lt_two_pow ha, Nat.testBit_lt_two_pow (Nat.lt_of_lt_of_le ha (Nat.pow_le_pow_right (by decide) (by omega)))]
theorem ni_in (s e : Nat) : nI (s / 2 ^ e &&& 1) = bI (s.testBit e) := by
  rw [Nat.testBit_eq_decide_div_mod_eq, show s / 2 ^ e &&& 1 = s / 2 ^ e % 2 from Nat.and_two_pow_sub_one_eq_mod _ 1]
  rcases Nat.mod_two_eq_zero_or_one (s / 2 ^ e) with h | h <;> rw [h] <;> decide
theorem ni_inc (k : Nat) : nI k + Int32.ofInt 1 = nI (k + 1) := nI_1 k
theorem ni_sub {a b : Nat} (h : b ≤ a) : nI a - nI b = nI (a - b) := (Int32.ofNat_sub a b h).symm
theorem ni_mul (a b : Nat) : nI a * nI b = nI (a * b) := (Int32.ofNat_mul a b).symm
theorem ni_subz (a b : Nat) : nI a - nI b = zI ((a : Int) - (b : Int)) := by rw [← zI_n, ← zI_n, zI_sub]
/-- an int that is one of the first n numbers -/
def isN (x : Int32) (n : Nat) : Bool := decide (0 ≤ x.toInt ∧ x.toInt < (n : Int))
theorem isN_of {x : Int32} {n : Nat} (h : isN x n = true) : ∃ k : Nat, k < n ∧ x = nI k := by
  obtain ⟨h1, h2⟩ := of_decide_eq_true h
  refine ⟨x.toInt.toNat, by omega, ?_⟩
  rw [← zI_n, Int.toNat_of_nonneg h1, zI_as]
theorem isN_nI {k n : Nat} (hk : k < 2 ^ 31) : isN (nI k) n = decide (k < n) := by
  unfold isN
  rw [nI_toInt hk]
  apply decide_eq_decide.mpr
  omega
def isW (x : Int32) : Bool := decide (-9999 ≤ x.toInt ∧ x.toInt ≤ 9999)
theorem isW_of {x : Int32} (h : isW x = true) : ∃ z : Int, -9999 ≤ z ∧ z ≤ 9999 ∧ x = zI z := by
  obtain ⟨h1, h2⟩ := of_decide_eq_true h
  exact ⟨x.toInt, h1, h2, (zI_as x).symm⟩
theorem zI_le {a b : Int} (a1 : -2147483648 ≤ a) (a2 : a < 2147483648) (b1 : -2147483648 ≤ b) (b2 : b < 2147483648) : zI a ≤ zI b ↔ a ≤ b := by
  rw [Int32.le_iff_toInt_le, zI_toInt a1 a2, zI_toInt b1 b2]
theorem zI_lt {a b : Int} (a1 : -2147483648 ≤ a) (a2 : a < 2147483648) (b1 : -2147483648 ≤ b) (b2 : b < 2147483648) : zI a < zI b ↔ a < b := by
  rw [Int32.lt_iff_toInt_lt, zI_toInt a1 a2, zI_toInt b1 b2]
theorem zI_eq {a b : Int} (a1 : -2147483648 ≤ a) (a2 : a < 2147483648) (b1 : -2147483648 ≤ b) (b2 : b < 2147483648) : zI a = zI b ↔ a = b :=
  ⟨fun h => by rw [← zI_toInt a1 a2, h, zI_toInt b1 b2], fun h => by rw [h]⟩
/-! rows of eight small numbers in one int -/
def upN (f : Nat → Nat) (p x : Nat) : Nat → Nat := fun v => if v = p then x else f v
def pkN : Nat → (Nat → Nat) → Nat
  | 0, _ => 0
  | n + 1, f => 2 ^ (4 * n) * f n + pkN n f
def pk (f : Nat → Nat) : Nat := pkN 8 f
theorem pkN_lt {n : Nat} {f : Nat → Nat} (h : ∀ v, v < n → f v < 16) : pkN n f < 2 ^ (4 * n) := by
  induction n with
  | zero => exact Nat.zero_lt_one
  | succ n ih =>
    have h1 := ih (fun v hv => h v (by omega))
    have h2 := h n (by omega)
    have h3 : 2 ^ (4 * (n + 1)) = 2 ^ (4 * n) * 16 := by rw [show 4 * (n + 1) = 4 * n + 4 by omega, Nat.pow_add]
    simp only [pkN]
    rw [h3]
    have h4 : 2 ^ (4 * n) * f n ≤ 2 ^ (4 * n) * 15 := Nat.mul_le_mul_left _ (by omega)
    omega
theorem pkN_bit {n : Nat} {f : Nat → Nat} (h : ∀ v, v < n → f v < 16) (j : Nat) : (pkN n f).testBit j = (decide (j < 4 * n) && (f (j / 4)).testBit (j % 4)) := by
  induction n with
  | zero => simp [pkN]
  | succ n ih =>
    simp only [pkN]
    rw [Nat.testBit_two_pow_mul_add _ (pkN_lt (fun v hv => h v (by omega))), ih (fun v hv => h v (by omega))]
    by_cases hj : j < 4 * n
    · rw [if_pos hj, decide_eq_true hj, decide_eq_true (show j < 4 * (n + 1) by omega)]
    · rw [if_neg hj]
      by_cases hj2 : j < 4 * (n + 1)
      · rw [decide_eq_true hj2, show j / 4 = n by omega, show j % 4 = j - 4 * n by omega, Bool.true_and]
      · rw [decide_eq_false hj2, Bool.false_and]
        have h2 := h n (by omega)
        exact Nat.testBit_lt_two_pow (Nat.lt_of_lt_of_le h2 (Nat.pow_le_pow_right (n := 2) (i := 4) (by decide) (by omega)))
theorem pkr_lt {f : Nat → Nat} (h : ∀ v, v < 8 → f v < 16) : pk f < 2 ^ 32 := pkN_lt h
theorem pk_cell {f : Nat → Nat} (h : ∀ v, v < 8 → f v < 16) {p : Nat} (hp : p < 8) : pk f / 2 ^ (4 * p) &&& 15 = f p := by
  apply Nat.eq_of_testBit_eq
  intro i
  rw [Nat.testBit_and, Nat.testBit_div_two_pow, show (15 : Nat) = 2 ^ 4 - 1 from rfl, Nat.testBit_two_pow_sub_one]
  unfold pk
  rw [pkN_bit h]
  by_cases hi : i < 4
  · rw [decide_eq_true hi, decide_eq_true (show i + 4 * p < 4 * 8 by omega), show (i + 4 * p) / 4 = p by omega, show (i + 4 * p) % 4 = i by omega, Bool.true_and, Bool.and_true]
  · rw [decide_eq_false hi, Bool.and_false]
    exact (Nat.testBit_lt_two_pow (Nat.lt_of_lt_of_le (h p hp) (Nat.pow_le_pow_right (n := 2) (i := 4) (by decide) (by omega)))).symm
theorem upN_lt {f : Nat → Nat} {p x n b : Nat} (h : ∀ v, v < n → f v < b) (hx : x < b) : ∀ v, v < n → upN f p x v < b := fun v hv => by
  unfold upN
  split
  · exact hx
  · exact h v hv
theorem pk_with {f : Nat → Nat} (h : ∀ v, v < 8 → f v < 16) {p x : Nat} (hp : p < 8) (hx : x < 16) : ms_sd (pk f) (15 * 2 ^ (4 * p)) ||| x * 2 ^ (4 * p) = pk (upN f p x) := by
  apply Nat.eq_of_testBit_eq
  intro j
  unfold pk
  rw [Nat.testBit_or, ms_sd_bit, Nat.testBit_mul_two_pow, Nat.testBit_mul_two_pow, show (15 : Nat) = 2 ^ 4 - 1 from rfl, Nat.testBit_two_pow_sub_one, pkN_bit h, pkN_bit (upN_lt h hx)]
  unfold upN
  by_cases hj : j / 4 = p
  · rw [if_pos hj, decide_eq_true (show 4 * p ≤ j by omega), decide_eq_true (show j - 4 * p < 4 by omega), decide_eq_true (show j < 4 * 8 by omega), show j % 4 = j - 4 * p by omega]
    simp
  · rw [if_neg hj]
    by_cases h1 : 4 * p ≤ j
    · rw [decide_eq_true h1, decide_eq_false (show ¬ j - 4 * p < 4 by omega)]
      have h2 : x.testBit (j - 4 * p) = false := Nat.testBit_lt_two_pow (Nat.lt_of_lt_of_le hx (Nat.pow_le_pow_right (n := 2) (i := 4) (by decide) (by omega)))
      rw [h2]
      simp
    · rw [decide_eq_false h1]
      simp
theorem pk_congr {f g : Nat → Nat} (h : ∀ v, v < 8 → f v = g v) : pk f = pk g := by
  unfold pk
  have key : ∀ n, n ≤ 8 → pkN n f = pkN n g := by
    intro n
    induction n with
    | zero => intro _; rfl
    | succ n ih =>
      intro hn
      simp only [pkN]
      rw [ih (by omega), h n (by omega)]
  exact key 8 (Nat.le_refl 8)
theorem ni_cell {f : Nat → Nat} (h : ∀ v, v < 8 → f v < 16) {p : Nat} (hp : p < 8) : ((nI (pk f)).toUInt32 >>> ((nI (4 * p)).toUInt32 &&& Int32.toUInt32 31)).toInt32 &&& nI 15 = nI (f p) := by
  rw [ni_ushr (pkr_lt h) (by omega), ni_and, pk_cell h hp]
theorem ni_with {f : Nat → Nat} (h : ∀ v, v < 8 → f v < 16) {p x : Nat} (hp : p < 8) (hx : x < 16) : (nI (pk f) &&& ((nI 15 <<< (nI (4 * p) &&& 31)) ^^^ (-1))) ||| (nI x <<< (nI (4 * p) &&& 31)) = nI (pk (upN f p x)) := by
  rw [ni_shl 15 (by omega), ni_shl x (by omega), ni_sd, ni_or, pk_with h hp hx]
