/-! sums below a number, sets by a property, weights -/
def ms_sum (f : Nat → Nat) : Nat → Nat
  | 0 => 0
  | n + 1 => ms_sum f n + f n
theorem ms_sum_congr {f g : Nat → Nat} {n : Nat} (h : ∀ j, j < n → f j = g j) : ms_sum f n = ms_sum g n := by
  induction n with
  | zero => rfl
  | succ n ih =>
    simp only [ms_sum]
    rw [ih (fun j hj => h j (by omega)), h n (by omega)]
theorem ms_sum_le {f g : Nat → Nat} {n : Nat} (h : ∀ j, j < n → f j ≤ g j) : ms_sum f n ≤ ms_sum g n := by
  induction n with
  | zero => exact Nat.le_refl _
  | succ n ih =>
    simp only [ms_sum]
    have h1 := ih (fun j hj => h j (by omega))
    have h2 := h n (by omega)
    omega
theorem ms_sum_add (f g : Nat → Nat) (n : Nat) : ms_sum (fun j => f j + g j) n = ms_sum f n + ms_sum g n := by
  induction n with
  | zero => rfl
  | succ n ih =>
    simp only [ms_sum]
    rw [ih]
    omega
/-- two sums that differ at one place -/
theorem ms_sum_one {f g : Nat → Nat} {n k : Nat} (hk : k < n) (h : ∀ j, j < n → j ≠ k → f j = g j) : ms_sum f n + g k = ms_sum g n + f k := by
  induction n with
  | zero => omega
  | succ n ih =>
    simp only [ms_sum]
    rcases Nat.lt_or_ge k n with q | q
    · have h1 := ih q (fun j hj hne => h j (by omega) hne)
      have h2 := h n (by omega) (by omega)
      omega
    · have : k = n := by omega
      subst this
      have h1 := ms_sum_congr (f := f) (g := g) (n := k) (fun j hj => h j (by omega) (by omega))
      omega
theorem ms_sum_sub {f g : Nat → Nat} {n : Nat} (h : ∀ j, j < n → g j ≤ f j) : ms_sum (fun j => f j - g j) n + ms_sum g n = ms_sum f n := by
  induction n with
  | zero => rfl
  | succ n ih =>
    simp only [ms_sum]
    have h1 := ih (fun j hj => h j (by omega))
    have h2 := h n (by omega)
    omega
/-- the set of those below n that a test takes -/
def ms_mk : Nat → (Nat → Bool) → Nat
  | 0, _ => 0
  | n + 1, p => ms_mk n p ||| (if p n = true then 2 ^ n else 0)
theorem ms_mk_bit (n : Nat) (p : Nat → Bool) (i : Nat) : (ms_mk n p).testBit i = (decide (i < n) && p i) := by
  induction n with
  | zero =>
    simp [ms_mk]
  | succ n ih =>
    simp only [ms_mk]
    rw [Nat.testBit_or, ih]
    by_cases hp : p n = true
    · rw [if_pos hp, Nat.testBit_two_pow]
      by_cases hi : n = i
      · subst hi
        simp [hp]
      · have : decide (i < n + 1) = decide (i < n) := decide_eq_decide.mpr (by omega)
        rw [this, decide_eq_false hi, Bool.or_false]
    · rw [if_neg hp, Nat.zero_testBit, Bool.or_false]
      by_cases hi : n = i
      · subst hi
        simp at hp
        simp [hp]
      · have : decide (i < n + 1) = decide (i < n) := decide_eq_decide.mpr (by omega)
        rw [this]
theorem ms_mk_lt (n : Nat) (p : Nat → Bool) : ms_mk n p < 2 ^ n := ms_lt fun i h => by
  rw [ms_mk_bit, Bool.and_eq_true] at h
  exact of_decide_eq_true h.1
/-- the weight of a set -/
def ms_w (u : Nat → Nat) : Nat → Nat → Nat
  | 0, _ => 0
  | n + 1, S => ms_w u n S + (if S.testBit n = true then u n else 0)
theorem ms_w_add (u v : Nat → Nat) (n S : Nat) : ms_w (fun e => u e + v e) n S = ms_w u n S + ms_w v n S := by
  induction n with
  | zero => rfl
  | succ n ih =>
    simp only [ms_w]
    rw [ih]
    split <;> omega
theorem ms_w_congr {u v : Nat → Nat} {n : Nat} (S : Nat) (h : ∀ e, e < n → u e = v e) : ms_w u n S = ms_w v n S := by
  induction n with
  | zero => rfl
  | succ n ih =>
    simp only [ms_w]
    rw [ih (fun e he => h e (by omega)), h n (by omega)]
theorem ms_w_const (c n S : Nat) : ms_w (fun _ => c) n S = c * ms_card n S := by
  induction n with
  | zero => rfl
  | succ n ih =>
    simp only [ms_w, ms_card]
    rw [ih, Nat.mul_add]
    cases S.testBit n <;> simp
/-- those whose weight is at least m -/
def ms_ge (n : Nat) (u : Nat → Nat) (m : Nat) : Nat := ms_mk n (fun e => decide (m ≤ u e))
theorem ms_ge_bit (n : Nat) (u : Nat → Nat) (m i : Nat) : (ms_ge n u m).testBit i = (decide (i < n) && decide (m ≤ u i)) := ms_mk_bit n _ i
theorem ms_ge_lt (n : Nat) (u : Nat → Nat) (m : Nat) : ms_ge n u m < 2 ^ n := ms_mk_lt n _
theorem ms_ge_sub {n : Nat} {u : Nat → Nat} {m k : Nat} (h : m ≤ k) : ms_sub (ms_ge n u k) (ms_ge n u m) := fun i q => by
  rw [ms_ge_bit, Bool.and_eq_true, decide_eq_true_eq, decide_eq_true_eq] at q ⊢
  exact ⟨q.1, by omega⟩
theorem ms_ge_none {n : Nat} {u : Nat → Nat} {m : Nat} (h : ∀ e, e < n → u e < m) : ms_ge n u m = 0 := by
  apply Nat.eq_of_testBit_eq
  intro i
  rw [ms_ge_bit, Nat.zero_testBit]
  by_cases hi : i < n
  · have := h i hi
    rw [decide_eq_false (show ¬ m ≤ u i by omega), Bool.and_false]
  · rw [decide_eq_false hi, Bool.false_and]
theorem ms_ge_0 (n : Nat) (u : Nat → Nat) : ms_ge n u 0 = 2 ^ n - 1 := by
  apply Nat.eq_of_testBit_eq
  intro i
  rw [ms_ge_bit, ms_full]
  simp
theorem ms_steps (b x : Nat) (h : x ≤ b) : ms_sum (fun j => (decide (j + 1 ≤ x)).toNat) b = x := by
  have key : ∀ m, ms_sum (fun j => (decide (j + 1 ≤ x)).toNat) m = min m x := by
    intro m
    induction m with
    | zero => simp [ms_sum]
    | succ m ih =>
      simp only [ms_sum]
      rw [ih]
      by_cases q : m + 1 ≤ x
      · rw [decide_eq_true q]
        simp only [Bool.toNat_true]
        omega
      · rw [decide_eq_false q]
        simp only [Bool.toNat_false]
        omega
  rw [key b]
  omega
/-- a weight is a sum over levels -/
theorem ms_w_levels {N : Nat} {u : Nat → Nat} {b : Nat} (h : ∀ e, e < N → u e ≤ b) (A : Nat) : ms_w u N A = ms_sum (fun j => ms_card N (A &&& ms_ge N u (j + 1))) b := by
  have key : ∀ n, n ≤ N → ms_w u n A = ms_sum (fun j => ms_card n (A &&& ms_ge N u (j + 1))) b := by
    intro n
    induction n with
    | zero =>
      intro _
      show 0 = ms_sum (fun j => 0) b
      have : ∀ m, ms_sum (fun _ => 0) m = 0 := by
        intro m
        induction m with
        | zero => rfl
        | succ m ih => simp only [ms_sum]; omega
      rw [this]
    | succ n ih =>
      intro hn
      simp only [ms_w, ms_card]
      rw [ms_sum_add, ih (by omega)]
      congr 1
      cases hb : A.testBit n
      · rw [if_neg (by decide)]
        rw [ms_sum_congr (g := fun _ => 0) (fun j _ => by rw [Nat.testBit_and, hb]; rfl)]
        have : ∀ m, ms_sum (fun _ => 0) m = 0 := by
          intro m
          induction m with
          | zero => rfl
          | succ m ih => simp only [ms_sum]; omega
        rw [this]
      · rw [if_pos rfl]
        rw [ms_sum_congr (g := fun j => (decide (j + 1 ≤ u n)).toNat) (fun j _ => by rw [Nat.testBit_and, hb, ms_ge_bit, decide_eq_true (show n < N by omega), Bool.true_and, Bool.true_and])]
        exact (ms_steps b (u n) (h n (by omega))).symm
  exact key N (Nat.le_refl N)
theorem mt_trunc {n : Nat} {r : Nat → Nat} (h : mt_ok n r) (k : Nat) : mt_ok n (fun S => min (r S) k) := by
  refine ⟨?_, fun S e hS he => ?_, fun S T e hT he hs hr => ?_⟩
  · show min (r 0) k = 0
    rw [h.1]
    omega
  · show min (r (S ||| 2 ^ e)) k = min (r S) k ∨ min (r (S ||| 2 ^ e)) k = min (r S) k + 1
    have := h.2.1 S e hS he
    omega
  · have hr : min (r (S ||| 2 ^ e)) k = min (r S) k := hr
    show min (r (T ||| 2 ^ e)) k = min (r T) k
    have hS := ms_sub_lt hs hT
    rcases h.2.1 S e hS he with q | q
    · rw [h.2.2 S T e hT he hs q]
    · have h1 := mt_mono h hT hs
      have h2 := h.2.1 T e hT he
      omega
theorem mt_card_diff {n : Nat} {r : Nat → Nat} (h : mt_ok n r) {A X : Nat} (hX : X < 2 ^ n) (hs : ms_sub A X) : r X + ms_card n A ≤ r A + ms_card n X := by
  have := mt_grow (P := fun Y => r Y + ms_card n A ≤ r A + ms_card n Y) (S := A) hX (Nat.le_refl _) (fun Y e he hb h1 h2 h3 hp => by
    have hY : Y < 2 ^ n := ms_sub_lt h2 (by rw [ms_sub_or hs]; exact hX)
    cases hy : Y.testBit e
    · have := h.2.1 Y e hY he
      rw [ms_card_ins he hy]
      omega
    · rw [ms_ins_in hy]
      exact hp)
  rw [ms_sub_or hs] at this
  exact this
/-! a weight's levels, one of them raised on a set -/
def mt_lv (n : Nat) (u : Nat → Nat) (S j : Nat) : Nat := ms_ge n u (j + 1) ||| (S &&& ms_ge n u j)
def mt_F (n : Nat) (q : Nat → Nat) (u : Nat → Nat) (b S : Nat) : Nat := ms_sum (fun j => q (mt_lv n u S j)) b
def mt_Phi (n : Nat) (q : Nat → Nat) (u : Nat → Nat) (b : Nat) : Nat := ms_sum (fun j => q (ms_ge n u (j + 1))) b
def mt_rho (n : Nat) (q : Nat → Nat) (u : Nat → Nat) (b S : Nat) : Nat := mt_F n q u b S - mt_F n q u b 0
theorem mt_lv_bit (n : Nat) (u : Nat → Nat) (S j i : Nat) : (mt_lv n u S j).testBit i = (decide (i < n) && (decide (j + 1 ≤ u i) || (S.testBit i && decide (j ≤ u i)))) := by
  unfold mt_lv
  rw [Nat.testBit_or, Nat.testBit_and, ms_ge_bit, ms_ge_bit]
  cases decide (i < n) <;> cases decide (j + 1 ≤ u i) <;> cases S.testBit i <;> cases decide (j ≤ u i) <;> rfl
theorem mt_lv_lt (n : Nat) (u : Nat → Nat) (S j : Nat) : mt_lv n u S j < 2 ^ n := ms_lt fun i h => by
  rw [mt_lv_bit, Bool.and_eq_true] at h
  exact of_decide_eq_true h.1
theorem mt_lv_0 (n : Nat) (u : Nat → Nat) (j : Nat) : mt_lv n u 0 j = ms_ge n u (j + 1) := by
  unfold mt_lv
  rw [Nat.zero_and, Nat.or_zero]
theorem mt_lv_sub {n : Nat} {u : Nat → Nat} {S T : Nat} (h : ms_sub S T) (j : Nat) : ms_sub (mt_lv n u S j) (mt_lv n u T j) := fun i q => by
  rw [mt_lv_bit] at q ⊢
  have := h i
  grind
theorem mt_lv_same {n : Nat} {u : Nat → Nat} {S e j : Nat} (h : j ≠ u e) : mt_lv n u (S ||| 2 ^ e) j = mt_lv n u S j := by
  apply Nat.eq_of_testBit_eq
  intro i
  rw [mt_lv_bit, mt_lv_bit, ms_ins_bit]
  by_cases hi : e = i
  · subst hi
    by_cases h1 : j + 1 ≤ u e
    · rw [decide_eq_true h1]
      simp
    · rw [decide_eq_false h1, decide_eq_false (show ¬ j ≤ u e by omega)]
      simp
  · rw [decide_eq_false hi, Bool.or_false]
theorem mt_lv_new {n : Nat} {u : Nat → Nat} {S e : Nat} (he : e < n) : mt_lv n u (S ||| 2 ^ e) (u e) = mt_lv n u S (u e) ||| 2 ^ e := by
  apply Nat.eq_of_testBit_eq
  intro i
  rw [ms_ins_bit, mt_lv_bit, mt_lv_bit, ms_ins_bit]
  by_cases hi : e = i
  · subst hi
    rw [decide_eq_true he]
    simp
  · rw [decide_eq_false hi, Bool.or_false, Bool.or_false]
theorem mt_F_le {n : Nat} {q : Nat → Nat} (h : mt_ok n q) (u : Nat → Nat) (b : Nat) {S T : Nat} (hs : ms_sub S T) : mt_F n q u b S ≤ mt_F n q u b T :=
  ms_sum_le fun j _ => mt_mono h (mt_lv_lt n u T j) (mt_lv_sub hs j)
theorem mt_rho_ok {n : Nat} {q : Nat → Nat} (h : mt_ok n q) {u : Nat → Nat} {b : Nat} (hb : ∀ e, e < n → u e < b) : mt_ok n (mt_rho n q u b) := by
  have one : ∀ S e, e < n → mt_F n q u b (S ||| 2 ^ e) + q (mt_lv n u S (u e)) = mt_F n q u b S + q (mt_lv n u S (u e) ||| 2 ^ e) := by
    intro S e he
    have := ms_sum_one (f := fun j => q (mt_lv n u (S ||| 2 ^ e) j)) (g := fun j => q (mt_lv n u S j)) (hb e he) (fun j _ hj => by
      show q (mt_lv n u (S ||| 2 ^ e) j) = q (mt_lv n u S j)
      rw [mt_lv_same hj])
    rw [mt_lv_new he] at this
    exact this
  have low : ∀ S, mt_F n q u b 0 ≤ mt_F n q u b S := fun S => mt_F_le h u b (ms_sub_0 S)
  refine ⟨Nat.sub_self _, fun S e hS he => ?_, fun S T e hT he hs hr => ?_⟩
  · have h1 := one S e he
    have h2 := h.2.1 (mt_lv n u S (u e)) e (mt_lv_lt n u S (u e)) he
    have h3 := low S
    have h4 := low (S ||| 2 ^ e)
    unfold mt_rho
    omega
  · have h1 := one S e he
    have h2 := one T e he
    have h3 := low S
    have h4 := low (S ||| 2 ^ e)
    have h5 := low T
    unfold mt_rho at hr ⊢
    have h6 := h.2.2 (mt_lv n u S (u e)) (mt_lv n u T (u e)) e (mt_lv_lt n u T (u e)) he (mt_lv_sub hs _) (by omega)
    omega
theorem mt_F_0 (n : Nat) (q : Nat → Nat) (u : Nat → Nat) (b : Nat) : mt_F n q u b 0 = mt_Phi n q u b :=
  ms_sum_congr fun j _ => by rw [mt_lv_0]
/-- what a raised level adds, at least what it adds within I -/
theorem mt_step {n : Nat} {q : Nat → Nat} (h : mt_ok n q) (u : Nat → Nat) {I : Nat} (hI : I < 2 ^ n) (m : Nat) : (q (mt_lv n u I m) - q (ms_ge n u (m + 1))) + q (I &&& ms_ge n u (m + 1)) ≤ q (I &&& ms_ge n u m) := by
  have hlt : I &&& ms_ge n u m < 2 ^ n := ms_sub_lt (ms_sub_andl _ _) hI
  have h1 := mt_diff h (A := I &&& ms_ge n u (m + 1)) (B := ms_ge n u (m + 1)) (X := I &&& ms_ge n u m) (ms_ge_lt n u (m + 1)) hlt (ms_sub_andr _ _)
  have h2 : I &&& ms_ge n u (m + 1) ||| I &&& ms_ge n u m = I &&& ms_ge n u m := ms_sub_or fun i hi => by
    rw [Nat.testBit_and, Bool.and_eq_true] at hi ⊢
    exact ⟨hi.1, ms_ge_sub (Nat.le_succ m) i hi.2⟩
  rw [h2] at h1
  have h3 : q (I &&& ms_ge n u (m + 1)) ≤ q (I &&& ms_ge n u m) := mt_mono h hlt (by rw [← h2]; exact ms_sub_orl _ _)
  show (q (ms_ge n u (m + 1) ||| (I &&& ms_ge n u m)) - q (ms_ge n u (m + 1))) + q (I &&& ms_ge n u (m + 1)) ≤ q (I &&& ms_ge n u m)
  omega
theorem mt_rho_sum {n : Nat} {q : Nat → Nat} (h : mt_ok n q) (u : Nat → Nat) (b I : Nat) : mt_rho n q u b I = ms_sum (fun m => q (mt_lv n u I m) - q (ms_ge n u (m + 1))) b := by
  have h1 := ms_sum_sub (f := fun m => q (mt_lv n u I m)) (g := fun m => q (ms_ge n u (m + 1))) (n := b) (fun j _ => mt_mono h (mt_lv_lt n u I j) (ms_sub_orl _ _))
  have h2 := mt_F_0 n q u b
  unfold mt_rho
  rw [h2]
  unfold mt_Phi mt_F
  omega
/-- a set that is free by rho is free by q, and of the greatest weight -/
theorem mt_rho_rank {n : Nat} {q : Nat → Nat} (h : mt_ok n q) {u : Nat → Nat} {b : Nat} (hb : ∀ e, e < n → u e < b) {I : Nat} (hI : I < 2 ^ n) : mt_rho n q u b I ≤ q I := by
  have key : ∀ m, ms_sum (fun m => q (mt_lv n u I m) - q (ms_ge n u (m + 1))) m + q (I &&& ms_ge n u m) ≤ q I := by
    intro m
    induction m with
    | zero =>
      simp only [ms_sum]
      rw [Nat.zero_add]
      exact mt_mono h hI (ms_sub_andl _ _)
    | succ m ih =>
      simp only [ms_sum]
      have := mt_step h u hI m
      omega
  rw [mt_rho_sum h]
  have := key b
  omega
theorem mt_rho_all {n : Nat} {q : Nat → Nat} (h : mt_ok n q) (u : Nat → Nat) (I m : Nat) : ms_sum (fun m => q (mt_lv n u I m) - q (ms_ge n u (m + 1))) m + q (ms_ge n u m) ≤ q (2 ^ n - 1) := by
  induction m with
  | zero =>
    simp only [ms_sum]
    rw [ms_ge_0, Nat.zero_add]
    exact Nat.le_refl _
  | succ m ih =>
    simp only [ms_sum]
    have h1 : q (mt_lv n u I m) ≤ q (ms_ge n u m) := mt_mono h (ms_ge_lt n u m) fun i hi => by
      rw [mt_lv_bit] at hi
      rw [ms_ge_bit]
      grind
    have h2 : q (ms_ge n u (m + 1)) ≤ q (mt_lv n u I m) := mt_mono h (mt_lv_lt n u I m) (ms_sub_orl _ _)
    omega
theorem mt_rho_best {n : Nat} {q : Nat → Nat} (h : mt_ok n q) {u : Nat → Nat} {b : Nat} (hb : ∀ e, e < n → u e < b) {I : Nat} (hI : I < 2 ^ n) (hk : q (2 ^ n - 1) ≤ mt_rho n q u b I) : mt_Phi n q u b ≤ ms_w u n I := by
  have down : ∀ d m, m + d = b → ms_sum (fun m => q (mt_lv n u I m) - q (ms_ge n u (m + 1))) b ≤ ms_sum (fun m => q (mt_lv n u I m) - q (ms_ge n u (m + 1))) m + ms_card n (I &&& ms_ge n u m) := by
    intro d
    induction d with
    | zero =>
      intro m hm
      have : m = b := by omega
      subst this
      omega
    | succ d ih =>
      intro m hm
      have h1 := ih (m + 1) (by omega)
      have h2 := mt_step h u hI m
      have h3 : ms_sub (I &&& ms_ge n u (m + 1)) (I &&& ms_ge n u m) := fun i hi => by
        rw [Nat.testBit_and, Bool.and_eq_true] at hi ⊢
        exact ⟨hi.1, ms_ge_sub (Nat.le_succ m) i hi.2⟩
      have h4 := mt_card_diff h (ms_sub_lt (ms_sub_andl _ _) hI) h3
      simp only [ms_sum] at h1
      omega
  rw [mt_rho_sum h] at hk
  rw [ms_w_levels (fun e he => Nat.le_of_lt (hb e he)) I]
  refine ms_sum_le fun j hj => ?_
  have h1 := down (b - (j + 1)) (j + 1) (by omega)
  have h2 := mt_rho_all h u I (j + 1)
  omega
theorem mt_rho_le {n : Nat} {q : Nat → Nat} (h : mt_ok n q) (u : Nat → Nat) (b I : Nat) : mt_rho n q u b I ≤ q (2 ^ n - 1) := by
  rw [mt_rho_sum h]
  have := mt_rho_all h u I b
  omega
/-- the weight raised on U -/
theorem mt_raise {n : Nat} {q : Nat → Nat} (h : mt_ok n q) {u : Nat → Nat} {b : Nat} (hb : ∀ e, e < n → u e < b) (U : Nat) : mt_Phi n q (fun e => u e + (U.testBit e).toNat) (b + 1) = mt_Phi n q u b + mt_rho n q u b U := by
  have e1 : ∀ j, ms_ge n (fun e => u e + (U.testBit e).toNat) (j + 1) = mt_lv n u U j := by
    intro j
    apply Nat.eq_of_testBit_eq
    intro i
    rw [ms_ge_bit, mt_lv_bit]
    congr 1
    cases hu : U.testBit i
    · simp
    · by_cases h1 : j ≤ u i
      · simp [h1]
      · simp [h1]
        omega
  have e2 : mt_lv n u U b = 0 := by
    unfold mt_lv
    rw [ms_ge_none (fun e he => by have := hb e he; omega), ms_ge_none hb, Nat.and_zero, Nat.or_zero]
  have e3 : mt_Phi n q (fun e => u e + (U.testBit e).toNat) (b + 1) = mt_F n q u b U := by
    unfold mt_Phi
    simp only [ms_sum]
    rw [e1, e2, h.1, Nat.add_zero]
    exact ms_sum_congr fun j _ => by rw [e1]
  have e4 := mt_F_le h u b (ms_sub_0 U)
  rw [e3]
  have e5 := mt_F_0 n q u b
  unfold mt_rho
  omega
theorem mt_phi_up {n : Nat} {r : Nat → Nat} (h : mt_ok n r) {k : Nat} {u : Nat → Nat} {b : Nat} (hb : ∀ e, e < n → u e < b) {A : Nat} (hA : A < 2 ^ n) (fA : r A = ms_card n A) (cA : ms_card n A ≤ k) : ms_w u n A ≤ mt_Phi n (fun S => min (r S) k) u b := by
  rw [ms_w_levels (fun e he => Nat.le_of_lt (hb e he)) A]
  refine ms_sum_le fun j _ => ?_
  have h1 := mt_card_diff h hA (ms_sub_andl A (ms_ge n u (j + 1)))
  have h2 := mt_mono h (ms_ge_lt n u (j + 1)) (ms_sub_andr A (ms_ge n u (j + 1)))
  have h3 := ms_card_mono (n := n) (ms_sub_andl A (ms_ge n u (j + 1)))
  show ms_card n (A &&& ms_ge n u (j + 1)) ≤ min (r (ms_ge n u (j + 1))) k
  omega
theorem mt_phi_two {n : Nat} {r : Nat → Nat} (h : mt_ok n r) {k : Nat} {u : Nat → Nat} {b : Nat} (hb : ∀ e, e < n → u e < b) {A B : Nat} (hA : A < 2 ^ n) (hB : B < 2 ^ n) (fA : r A = ms_card n A) (fB : r B = ms_card n B) (cA : ms_card n A + 1 = k) (cB : ms_card n B = k + 1) :
    ms_w u n A + ms_w u n B ≤ 2 * mt_Phi n (fun S => min (r S) k) u b := by
  rw [ms_w_levels (fun e he => Nat.le_of_lt (hb e he)) A, ms_w_levels (fun e he => Nat.le_of_lt (hb e he)) B, ← ms_sum_add, Nat.two_mul]
  unfold mt_Phi
  rw [← ms_sum_add]
  refine ms_sum_le fun j _ => ?_
  have a1 := mt_card_diff h hA (ms_sub_andl A (ms_ge n u (j + 1)))
  have a2 := mt_mono h (ms_ge_lt n u (j + 1)) (ms_sub_andr A (ms_ge n u (j + 1)))
  have a3 := ms_card_mono (n := n) (ms_sub_andl A (ms_ge n u (j + 1)))
  have b1 := mt_card_diff h hB (ms_sub_andl B (ms_ge n u (j + 1)))
  have b2 := mt_mono h (ms_ge_lt n u (j + 1)) (ms_sub_andr B (ms_ge n u (j + 1)))
  have b3 := ms_card_mono (n := n) (ms_sub_andl B (ms_ge n u (j + 1)))
  show ms_card n (A &&& ms_ge n u (j + 1)) + ms_card n (B &&& ms_ge n u (j + 1)) ≤ min (r (ms_ge n u (j + 1))) k + min (r (ms_ge n u (j + 1))) k
  omega
set_option maxHeartbeats 1000000 in
/-- the greatest weights of common sets: no more is gained from k to k + 1 than from k - 1 to k -/
theorem mt_concave {n : Nat} {r1 r2 : Nat → Nat} (h1 : mt_ok n r1) (h2 : mt_ok n r2) {w : Nat → Nat} {k A B I0 : Nat} (hA : A < 2 ^ n) (hB : B < 2 ^ n) (hI0 : I0 < 2 ^ n)
    (fA1 : r1 A = ms_card n A) (fA2 : r2 A = ms_card n A) (fB1 : r1 B = ms_card n B) (fB2 : r2 B = ms_card n B) (f01 : r1 I0 = ms_card n I0) (f02 : r2 I0 = ms_card n I0) (cA : ms_card n A + 1 = k) (cB : ms_card n B = k + 1) (c0 : ms_card n I0 = k) :
    ∀ (d b : Nat) (w1 w2 : Nat → Nat) (c : Nat), (∀ e, e < n → w1 e < b) → (∀ e, e < n → w2 e < b) → (∀ e, e < n → w1 e + w2 e = w e + c) →
      mt_Phi n (fun S => min (r1 S) k) w1 b + mt_Phi n (fun S => min (r2 S) k) w2 b ≤ ms_w w n I0 + c * k + d →
      ∃ I, I < 2 ^ n ∧ r1 I = ms_card n I ∧ r2 I = ms_card n I ∧ ms_card n I = k ∧ ms_w w n A + ms_w w n B ≤ 2 * ms_w w n I := by
  have split : ∀ (w1 w2 : Nat → Nat) (c S : Nat), (∀ e, e < n → w1 e + w2 e = w e + c) → ms_w w1 n S + ms_w w2 n S = ms_w w n S + c * ms_card n S := by
    intro w1 w2 c S hs
    rw [← ms_w_add, ms_w_congr S hs, ms_w_add, ms_w_const]
  have t1 := mt_trunc h1 k
  have t2 := mt_trunc h2 k
  intro d
  induction d with
  | zero =>
    intro b w1 w2 c hb1 hb2 hs hd
    obtain ⟨I, U, hI, hU, i1, i2, hU2⟩ := mt_inter n _ _ (mt_rho_ok t1 hb1) (mt_rho_ok t2 hb2)
    have r1' := mt_rho_rank t1 hb1 hI
    have r2' := mt_rho_rank t2 hb2 hI
    have k1 := mt_card h1 hI
    have k2 := mt_card h2 hI
    have hr1 : mt_rho n (fun S => min (r1 S) k) w1 b I ≤ min (r1 I) k := r1'
    have hr2 : mt_rho n (fun S => min (r2 S) k) w2 b I ≤ min (r2 I) k := r2'
    rcases Nat.lt_or_ge (ms_card n I) k with q | q
    · have u1 := mt_raise t1 hb1 U
      have u2 := mt_raise t2 hb2 (ms_sd (2 ^ n - 1) U)
      have hs' : ∀ e, e < n → (w1 e + (U.testBit e).toNat) + (w2 e + ((ms_sd (2 ^ n - 1) U).testBit e).toNat) = w e + (c + 1) := by
        intro e he
        have := hs e he
        rw [ms_sd_bit, ms_full, decide_eq_true he, Bool.true_and]
        cases U.testBit e <;> simp <;> omega
      have lo := split _ _ (c + 1) I0 hs'
      have hb1' : ∀ e, e < n → w1 e + (U.testBit e).toNat < b + 1 := fun e he => by
        have := hb1 e he
        have := Bool.toNat_le (U.testBit e)
        omega
      have hb2' : ∀ e, e < n → w2 e + ((ms_sd (2 ^ n - 1) U).testBit e).toNat < b + 1 := fun e he => by
        have := hb2 e he
        have := Bool.toNat_le ((ms_sd (2 ^ n - 1) U).testBit e)
        omega
      have p1 := mt_phi_up h1 (k := k) hb1' hI0 f01 (by omega)
      have p2 := mt_phi_up h2 (k := k) hb2' hI0 f02 (by omega)
      rw [c0, Nat.add_mul, Nat.one_mul] at lo
      omega
    · have hm1 : (fun S => min (r1 S) k) (2 ^ n - 1) ≤ mt_rho n (fun S => min (r1 S) k) w1 b I := by
        show min (r1 (2 ^ n - 1)) k ≤ _
        omega
      have hm2 : (fun S => min (r2 S) k) (2 ^ n - 1) ≤ mt_rho n (fun S => min (r2 S) k) w2 b I := by
        show min (r2 (2 ^ n - 1)) k ≤ _
        omega
      have b1 := mt_rho_best t1 hb1 hI hm1
      have b2 := mt_rho_best t2 hb2 hI hm2
      have a1 := mt_phi_two h1 hb1 hA hB fA1 fB1 cA cB
      have a2 := mt_phi_two h2 hb2 hA hB fA2 fB2 cA cB
      have sA := split w1 w2 c A hs
      have sB := split w1 w2 c B hs
      have sI := split w1 w2 c I hs
      have cI : ms_card n I = k := by omega
      refine ⟨I, hI, by omega, by omega, cI, ?_⟩
      rw [cI] at sI
      rw [cB, Nat.mul_add, Nat.mul_one] at sB
      have e3 : c * k = c * ms_card n A + c := by rw [← cA, Nat.mul_add, Nat.mul_one]
      omega
  | succ d ih =>
    intro b w1 w2 c hb1 hb2 hs hd
    obtain ⟨I, U, hI, hU, i1, i2, hU2⟩ := mt_inter n _ _ (mt_rho_ok t1 hb1) (mt_rho_ok t2 hb2)
    have r1' := mt_rho_rank t1 hb1 hI
    have r2' := mt_rho_rank t2 hb2 hI
    have k1 := mt_card h1 hI
    have k2 := mt_card h2 hI
    have hr1 : mt_rho n (fun S => min (r1 S) k) w1 b I ≤ min (r1 I) k := r1'
    have hr2 : mt_rho n (fun S => min (r2 S) k) w2 b I ≤ min (r2 I) k := r2'
    rcases Nat.lt_or_ge (ms_card n I) k with q | q
    · have u1 := mt_raise t1 hb1 U
      have u2 := mt_raise t2 hb2 (ms_sd (2 ^ n - 1) U)
      have hs' : ∀ e, e < n → (w1 e + (U.testBit e).toNat) + (w2 e + ((ms_sd (2 ^ n - 1) U).testBit e).toNat) = w e + (c + 1) := by
        intro e he
        have := hs e he
        rw [ms_sd_bit, ms_full, decide_eq_true he, Bool.true_and]
        cases U.testBit e <;> simp <;> omega
      have hb1' : ∀ e, e < n → w1 e + (U.testBit e).toNat < b + 1 := fun e he => by
        have := hb1 e he
        have := Bool.toNat_le (U.testBit e)
        omega
      have hb2' : ∀ e, e < n → w2 e + ((ms_sd (2 ^ n - 1) U).testBit e).toNat < b + 1 := fun e he => by
        have := hb2 e he
        have := Bool.toNat_le ((ms_sd (2 ^ n - 1) U).testBit e)
        omega
      refine ih (b + 1) _ _ (c + 1) hb1' hb2' hs' ?_
      rw [u1, u2, Nat.add_mul, Nat.one_mul]
      omega
    · have hm1 : (fun S => min (r1 S) k) (2 ^ n - 1) ≤ mt_rho n (fun S => min (r1 S) k) w1 b I := by
        show min (r1 (2 ^ n - 1)) k ≤ _
        omega
      have hm2 : (fun S => min (r2 S) k) (2 ^ n - 1) ≤ mt_rho n (fun S => min (r2 S) k) w2 b I := by
        show min (r2 (2 ^ n - 1)) k ≤ _
        omega
      have b1 := mt_rho_best t1 hb1 hI hm1
      have b2 := mt_rho_best t2 hb2 hI hm2
      have a1 := mt_phi_two h1 hb1 hA hB fA1 fB1 cA cB
      have a2 := mt_phi_two h2 hb2 hA hB fA2 fB2 cA cB
      have sA := split w1 w2 c A hs
      have sB := split w1 w2 c B hs
      have sI := split w1 w2 c I hs
      have cI : ms_card n I = k := by omega
      refine ⟨I, hI, by omega, by omega, cI, ?_⟩
      rw [cI] at sI
      rw [cB, Nat.mul_add, Nat.mul_one] at sB
      have e3 : c * k = c * ms_card n A + c := by rw [← cA, Nat.mul_add, Nat.mul_one]
      omega
