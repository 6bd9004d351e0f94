/-! counts, lowest bits of sets of fourteen -/
theorem zI_m1 : zI (-1) = (-1 : Int32) := by decide
theorem ni_sdz (a b : Nat) : nI a &&& (nI b ^^^ zI (-1)) = nI (ms_sd a b) := by rw [zI_m1]; exact ni_sd a b
theorem ni_incn (k n : Nat) : nI k + Int32.ofInt (n : Int) = nI (k + n) := by rw [show Int32.ofInt (n : Int) = nI n from zI_n n]; exact nI_add k n
theorem ni_dec {k : Nat} (h : 0 < k) : nI k + Int32.ofInt (-1) = nI (k - 1) := by
  rw [show Int32.ofInt (-1) = zI (-1) from rfl, ← zI_n, zI_add, ← zI_n]
  congr 1
  omega
/-- the least number that is in, or n -/
def tzN : Nat → Nat → Nat
  | 0, _ => 0
  | n + 1, S => if tzN n S < n then tzN n S else if S.testBit n = true then n else n + 1
theorem tzN_le (n S : Nat) : tzN n S ≤ n := by
  induction n with
  | zero => exact Nat.le_refl 0
  | succ n ih =>
    simp only [tzN]
    split
    · omega
    · split <;> omega
theorem tzN_lo {n S i : Nat} (h : i < tzN n S) : S.testBit i = false := by
  induction n with
  | zero => simp [tzN] at h
  | succ n ih =>
    simp only [tzN] at h
    split at h
    · exact ih h
    · rename_i h1
      have h2 : tzN n S = n := by have := tzN_le n S; omega
      split at h
      · exact ih (by omega)
      · rename_i h3
        rcases Nat.lt_or_ge i n with q | q
        · exact ih (by omega)
        · have : i = n := by omega
          subst this
          cases hb : S.testBit i
          · rfl
          · exact absurd hb h3
theorem tzN_in {n S : Nat} (h : tzN n S < n) : S.testBit (tzN n S) = true := by
  induction n with
  | zero => omega
  | succ n ih =>
    simp only [tzN] at h ⊢
    split
    · rename_i h1
      exact ih h1
    · rename_i h1
      split
      · rename_i h2
        exact h2
      · rename_i h2
        rw [if_neg h1, if_neg h2] at h
        omega
theorem tzN_lt {n S : Nat} (hS : S < 2 ^ n) (h : S ≠ 0) : tzN n S < n := by
  rcases Nat.lt_or_ge (tzN n S) n with q | q
  · exact q
  · exfalso
    apply h
    apply Nat.eq_of_testBit_eq
    intro i
    rw [Nat.zero_testBit]
    rcases Nat.lt_or_ge i n with q2 | q2
    · exact tzN_lo (n := n) (by omega)
    · exact ms_bit_ge hS q2
def ushI (x y : Int32) : Int32 := (x.toUInt32 >>> (y.toUInt32 &&& Int32.toUInt32 31)).toInt32
def bcA (i : Int32) : Int32 := i - (ushI i (nI 1) &&& 1431655765)
def bcB (i : Int32) : Int32 := (i &&& 858993459) + (ushI i (nI 2) &&& 858993459)
def bcC (i : Int32) : Int32 := (i + ushI i (nI 4)) &&& 252645135
def bcD (i : Int32) : Int32 := i + ushI i (nI 8)
def bcE (i : Int32) : Int32 := i + ushI i (nI 16)
theorem all128 {P : Nat → Prop} (h : ∀ a, a < 128 → ∀ b, b < 128 → P (128 * a + b)) {n : Nat} (hn : n < 16384) : P n := by
  have := h (n / 128) (by omega) (n % 128) (by omega)
  rw [Nat.div_add_mod] at this
  exact this
theorem bc_ok {n : Nat} (hn : n < 16384) : bcE (bcD (bcC (bcB (bcA (nI n))))) &&& nI 63 = nI (ms_card 14 n) :=
  all128 (P := fun n => bcE (bcD (bcC (bcB (bcA (nI n))))) &&& nI 63 = nI (ms_card 14 n)) (by decide +kernel) hn
theorem tz_mask {n : Nat} (h0 : n ≠ 0) (hn : n < 16384) : (nI n ^^^ zI (-1)) &&& nI (n - 1) = nI (2 ^ tzN 14 n - 1) :=
  all128 (P := fun n => n ≠ 0 → (nI n ^^^ zI (-1)) &&& nI (n - 1) = nI (2 ^ tzN 14 n - 1)) (by decide +kernel) hn h0
def loN (n : Nat) : Nat := if n = 0 then 0 else 2 ^ tzN 14 n
theorem lo_ok {n : Nat} (hn : n < 16384) : nI n &&& (-nI n) = nI (loN n) :=
  all128 (P := fun n => nI n &&& (-nI n) = nI (loN n)) (by decide +kernel) hn
theorem and_bit {S e : Nat} (hS : S < 2 ^ 31) : nI (S &&& 2 ^ e) = 0 ↔ S.testBit e = false := by
  have h1 : S &&& 2 ^ e < 2 ^ 31 := Nat.lt_of_le_of_lt Nat.and_le_left hS
  rw [show (0 : Int32) = nI 0 from rfl, nI_eq h1 (by decide)]
  constructor
  · intro h
    cases hb : S.testBit e
    · rfl
    · have h2 : (S &&& 2 ^ e).testBit e = true := by rw [Nat.testBit_and, hb, Nat.testBit_two_pow]; simp
      rw [h, Nat.zero_testBit] at h2
      cases h2
  · intro h
    apply Nat.eq_of_testBit_eq
    intro i
    rw [Nat.testBit_and, Nat.testBit_two_pow, Nat.zero_testBit]
    by_cases q : e = i
    · subst q
      rw [h]
      rfl
    · rw [decide_eq_false q, Bool.and_false]
theorem and_bit_t {S e : Nat} (hS : S < 2 ^ 31) (h : ¬ nI (S &&& 2 ^ e) = 0) : S.testBit e = true := by
  cases hb : S.testBit e
  · exact absurd ((and_bit hS).mpr hb) h
  · rfl
/-- what follows from ranks -/
def rA (g : GT) (S : Nat) : Nat := cntA g S (gE g)
def rB (g : GT) (S : Nat) : Nat := cntB g S (gE g)
def rk (k : Bool) (g : GT) : Nat → Nat := if k then rB g else rA g
def cirP (r : Nat → Nat) (S : Nat) : Nat → Bool := fun e => S.testBit e && (r (ms_sd S (2 ^ e)) == r S)
def cirN (r : Nat → Nat) (n S : Nat) : Nat := ms_mk n (cirP r S)
def cloP (r : Nat → Nat) (S : Nat) : Nat → Bool := fun e => r (S ||| 2 ^ e) == r S
def cloN (r : Nat → Nat) (n S : Nat) : Nat := S ||| ms_mk n (cloP r S)
theorem ms_mk_y {n : Nat} {p : Nat → Bool} (h : p n = true) : ms_mk (n + 1) p = ms_mk n p ||| 2 ^ n := by
  simp only [ms_mk]
  rw [if_pos h]
theorem ms_mk_n {n : Nat} {p : Nat → Bool} (h : p n = false) : ms_mk (n + 1) p = ms_mk n p := by
  simp only [ms_mk]
  rw [if_neg (by rw [h]; decide), Nat.or_zero]
theorem cirP_t {r : Nat → Nat} {S e : Nat} (h : S.testBit e = true) (k : r (ms_sd S (2 ^ e)) = r S) : cirP r S e = true := by
  unfold cirP
  rw [h, k]
  simp
theorem cirP_f {r : Nat → Nat} {S e : Nat} (h : S.testBit e = false ∨ ¬ r (ms_sd S (2 ^ e)) = r S) : cirP r S e = false := by
  unfold cirP
  rcases h with h | h
  · rw [h]
    rfl
  · rw [show (r (ms_sd S (2 ^ e)) == r S) = false from by simp [h], Bool.and_false]
theorem cloP_t {r : Nat → Nat} {S e : Nat} (k : r (S ||| 2 ^ e) = r S) : cloP r S e = true := by
  unfold cloP
  rw [k]
  simp
theorem cloP_f {r : Nat → Nat} {S e : Nat} (k : ¬ r (S ||| 2 ^ e) = r S) : cloP r S e = false := by
  unfold cloP
  simp [k]
theorem cir_lt (r : Nat → Nat) (n S : Nat) : cirN r n S < 2 ^ n := ms_mk_lt n _
theorem clo_lt (r : Nat → Nat) {n S : Nat} (h : S < 2 ^ n) : cloN r n S < 2 ^ n := Nat.or_lt_two_pow h (ms_mk_lt n _)
theorem rA_le (g : GT) (S : Nat) : rA g S ≤ gE g := cntA_le g S _
theorem rB_le (g : GT) (S : Nat) : rB g S ≤ gE g := cntB_le g S _
theorem tz14 {t : Nat} (h : t < 14) : t = 0 ∨ t = 1 ∨ t = 2 ∨ t = 3 ∨ t = 4 ∨ t = 5 ∨ t = 6 ∨ t = 7 ∨ t = 8 ∨ t = 9 ∨ t = 10 ∨ t = 11 ∨ t = 12 ∨ t = 13 := by omega
