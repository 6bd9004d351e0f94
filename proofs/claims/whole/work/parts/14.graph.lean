/-! a graph: vertices, colours, edges; limits, the two ends, colours and weights of edges -/
abbrev GT : Type := Nat × Nat × Nat × (Nat → Nat) × (Nat → Nat) × (Nat → Nat) × (Nat → Nat) × (Nat → Int)
def gV (g : GT) : Nat := g.1
def gC (g : GT) : Nat := g.2.1
def gE (g : GT) : Nat := g.2.2.1
def gL (g : GT) : Nat → Nat := g.2.2.2.1
def gF (g : GT) : Nat → Nat := g.2.2.2.2.1
def gS (g : GT) : Nat → Nat := g.2.2.2.2.2.1
def gH (g : GT) : Nat → Nat := g.2.2.2.2.2.2.1
def gW (g : GT) : Nat → Int := g.2.2.2.2.2.2.2
def gOK (g : GT) : Prop := (1 ≤ gV g ∧ gV g ≤ 8) ∧ (1 ≤ gC g ∧ gC g ≤ 6) ∧ gE g ≤ 14 ∧ (∀ c, gL g c ≤ 14) ∧ ∀ e, e < gE g → gF g e < gV g ∧ gS g e < gV g ∧ gH g e < gC g ∧ -9999 ≤ gW g e ∧ gW g e ≤ 9999
/-- its cells -/
abbrev wG (cy : Nat → ClassId) (ad : Nat → Nat) (ch : Int32) (g : GT) : va_W := [(ad 1, .inr (0, [.int (nI (gV g)), .int (nI (gC g)), .int (nI (gE g)), .int ch, .ref (ad 2), .ref (ad 3), .ref (ad 4), .ref (ad 5), .ref (ad 6)])), (ad 2, .inl (cy 0, 6, .inl (fun i => nI (gL g i)))), (ad 3, .inl (cy 0, 14, .inl (fun i => nI (gF g i)))), (ad 4, .inl (cy 0, 14, .inl (fun i => nI (gS g i)))), (ad 5, .inl (cy 0, 14, .inl (fun i => nI (gH g i)))), (ad 6, .inl (cy 0, 14, .inl (fun i => zI (gW g i))))]
abbrev wK3 (cy : Nat → ClassId) (ad : Nat → Nat) (ch : Int32) (g : GT) : va_W := (ad 7, .inr (2, [.ref (ad 1)])) :: wG cy ad ch g
abbrev wK2 (cy : Nat → ClassId) (ad : Nat → Nat) (ch : Int32) (g : GT) : va_W := (ad 8, .inr (1, [.ref (ad 1)])) :: wG cy ad ch g
/-! parts: each vertex has a label; edges join them -/
def lone (n : Nat) : Nat → Nat := fun v => if v < n then v else 0
def jn (n : Nat) (f : Nat → Nat) (a b : Nat) : Nat → Nat := fun v => if v < n ∧ f v = b then a else f v
def labA (g : GT) (S : Nat) : Nat → Nat → Nat
  | 0 => lone (gV g)
  | e + 1 => if S.testBit e = true ∧ labA g S e (gF g e) ≠ labA g S e (gS g e) then jn (gV g) (labA g S e) (labA g S e (gF g e)) (labA g S e (gS g e)) else labA g S e
def cntA (g : GT) (S : Nat) : Nat → Nat
  | 0 => 0
  | e + 1 => if S.testBit e = true ∧ labA g S e (gF g e) ≠ labA g S e (gS g e) then cntA g S e + 1 else cntA g S e
def fulR (g : GT) : Nat → Nat := fun c => if c < gC g then gL g c else 0
def romB (g : GT) (S : Nat) : Nat → Nat → Nat
  | 0 => fulR g
  | e + 1 => if S.testBit e = true ∧ 0 < romB g S e (gH g e) then upN (romB g S e) (gH g e) (romB g S e (gH g e) - 1) else romB g S e
def cntB (g : GT) (S : Nat) : Nat → Nat
  | 0 => 0
  | e + 1 => if S.testBit e = true ∧ 0 < romB g S e (gH g e) then cntB g S e + 1 else cntB g S e
theorem lone_lt {n : Nat} (hn : n ≤ 8) : ∀ v, v < 8 → lone n v < 8 := fun v hv => by
  unfold lone
  split <;> omega
theorem jn_lt {n b : Nat} {f : Nat → Nat} {x y : Nat} (h : ∀ v, v < 8 → f v < b) (hx : x < b) : ∀ v, v < 8 → jn n f x y v < b := fun v hv => by
  unfold jn
  split
  · exact hx
  · exact h v hv
theorem labA_lt {g : GT} (hg : gOK g) (S : Nat) : ∀ e, e ≤ gE g → ∀ v, v < 8 → labA g S e v < 8 := by
  intro e
  induction e with
  | zero => exact fun _ => lone_lt hg.1.2
  | succ e ih =>
    intro he
    have h1 := ih (by omega)
    have h2 := (hg.2.2.2.2 e (by omega)).1
    have h3 := hg.1.2
    simp only [labA]
    split
    · exact jn_lt h1 (h1 _ (by omega))
    · exact h1
theorem fulR_lt {g : GT} (hg : gOK g) : ∀ v, v < 8 → fulR g v < 16 := fun v _ => by
  unfold fulR
  have := hg.2.2.2.1 v
  split <;> omega
theorem romB_lt {g : GT} (hg : gOK g) (S : Nat) : ∀ e, e ≤ gE g → ∀ v, v < 8 → romB g S e v < 16 := by
  intro e
  induction e with
  | zero => exact fun _ => fulR_lt hg
  | succ e ih =>
    intro he
    have h1 := ih (by omega)
    have h2 := (hg.2.2.2.2 e (by omega)).2.2.1
    have h3 := hg.2.1.2
    simp only [romB]
    split
    · have := h1 (gH g e) (by omega)
      exact upN_lt h1 (by omega)
    · exact h1
theorem labA_y {g : GT} {S e : Nat} (h : S.testBit e = true) (k : labA g S e (gF g e) ≠ labA g S e (gS g e)) : labA g S (e + 1) = jn (gV g) (labA g S e) (labA g S e (gF g e)) (labA g S e (gS g e)) := by
  simp only [labA]
  rw [if_pos ⟨h, k⟩]
theorem labA_n {g : GT} {S e : Nat} (h : S.testBit e = false ∨ labA g S e (gF g e) = labA g S e (gS g e)) : labA g S (e + 1) = labA g S e := by
  simp only [labA]
  rw [if_neg]
  intro q
  rcases h with h | h
  · rw [h] at q
    exact absurd q.1 (by decide)
  · exact q.2 h
theorem cntA_y {g : GT} {S e : Nat} (h : S.testBit e = true) (k : labA g S e (gF g e) ≠ labA g S e (gS g e)) : cntA g S (e + 1) = cntA g S e + 1 := by
  simp only [cntA]
  rw [if_pos ⟨h, k⟩]
theorem cntA_n {g : GT} {S e : Nat} (h : S.testBit e = false ∨ labA g S e (gF g e) = labA g S e (gS g e)) : cntA g S (e + 1) = cntA g S e := by
  simp only [cntA]
  rw [if_neg]
  intro q
  rcases h with h | h
  · rw [h] at q
    exact absurd q.1 (by decide)
  · exact q.2 h
theorem romB_y {g : GT} {S e : Nat} (h : S.testBit e = true) (k : 0 < romB g S e (gH g e)) : romB g S (e + 1) = upN (romB g S e) (gH g e) (romB g S e (gH g e) - 1) := by
  simp only [romB]
  rw [if_pos ⟨h, k⟩]
theorem romB_n {g : GT} {S e : Nat} (h : S.testBit e = false ∨ ¬ 0 < romB g S e (gH g e)) : romB g S (e + 1) = romB g S e := by
  simp only [romB]
  rw [if_neg]
  intro q
  rcases h with h | h
  · rw [h] at q
    exact absurd q.1 (by decide)
  · exact h q.2
theorem cntB_y {g : GT} {S e : Nat} (h : S.testBit e = true) (k : 0 < romB g S e (gH g e)) : cntB g S (e + 1) = cntB g S e + 1 := by
  simp only [cntB]
  rw [if_pos ⟨h, k⟩]
theorem cntB_n {g : GT} {S e : Nat} (h : S.testBit e = false ∨ ¬ 0 < romB g S e (gH g e)) : cntB g S (e + 1) = cntB g S e := by
  simp only [cntB]
  rw [if_neg]
  intro q
  rcases h with h | h
  · rw [h] at q
    exact absurd q.1 (by decide)
  · exact h q.2
theorem cntA_le (g : GT) (S : Nat) : ∀ e, cntA g S e ≤ e
  | 0 => Nat.le_refl 0
  | e + 1 => by
    have := cntA_le g S e
    simp only [cntA]
    split <;> omega
theorem cntB_le (g : GT) (S : Nat) : ∀ e, cntB g S e ≤ e
  | 0 => Nat.le_refl 0
  | e + 1 => by
    have := cntB_le g S e
    simp only [cntB]
    split <;> omega
/-- row by row: the first k vertices of a row made new -/
def mixN (k : Nat) (f h : Nat → Nat) : Nat → Nat := fun v => if v < k then f v else h v
theorem mixN_0 (f h : Nat → Nat) : mixN 0 f h = h := by
  funext v
  unfold mixN
  rw [if_neg (by omega)]
theorem mixN_s (k : Nat) (f h : Nat → Nat) : mixN (k + 1) f h = upN (mixN k f h) k (f k) := by
  funext v
  show (if v < k + 1 then f v else h v) = (if v = k then f k else (if v < k then f v else h v))
  by_cases h1 : v = k
  · subst h1
    rw [if_pos (by omega), if_pos rfl]
  · rw [if_neg h1]
    by_cases h2 : v < k
    · rw [if_pos (by omega), if_pos h2]
    · rw [if_neg (by omega), if_neg h2]
theorem mixN_i {k : Nat} {f h : Nat → Nat} (e : f k = mixN k f h k) : mixN (k + 1) f h = mixN k f h := by
  rw [mixN_s]
  funext v
  unfold upN
  by_cases h1 : v = k
  · subst h1
    rw [if_pos rfl, e]
  · rw [if_neg h1]
theorem mixN_at {k : Nat} {f h : Nat → Nat} {v : Nat} (hv : k ≤ v) : mixN k f h v = h v := by
  unfold mixN
  rw [if_neg (by omega)]
theorem mixN_lt {k b : Nat} {f h : Nat → Nat} (h1 : ∀ v, v < 8 → f v < b) (h2 : ∀ v, v < 8 → h v < b) : ∀ v, v < 8 → mixN k f h v < b := fun v hv => by
  unfold mixN
  split
  · exact h1 v hv
  · exact h2 v hv
theorem mixN_lone {n : Nat} : mixN n (fun v => v) (fun _ => 0) = lone n := rfl
theorem mixN_room (g : GT) : mixN (gC g) (gL g) (fun _ => 0) = fulR g := rfl
theorem mixN_jn (n : Nat) (f : Nat → Nat) (a b : Nat) : mixN n (fun v => if f v = b then a else f v) f = jn n f a b := by
  funext v
  show (if v < n then (if f v = b then a else f v) else f v) = (if v < n ∧ f v = b then a else f v)
  by_cases h1 : v < n
  · by_cases h2 : f v = b
    · rw [if_pos h1, if_pos h2, if_pos ⟨h1, h2⟩]
    · rw [if_pos h1, if_neg h2, if_neg (fun q => h2 q.2)]
  · rw [if_neg h1, if_neg (fun q => h1 q.1)]
theorem pk_0 : pk (fun _ => 0) = 0 := by decide
theorem b8_16 {f : Nat → Nat} (h : ∀ v, v < 8 → f v < 8) : ∀ v, v < 8 → f v < 16 := fun v hv => Nat.lt_trans (h v hv) (by decide)
theorem hb_of {s e : Nat} (hs : s < 2 ^ 31) (he : e < 32) : ((nI s).toUInt32 >>> ((nI e).toUInt32 &&& Int32.toUInt32 31)).toInt32 &&& nI 1 = bI (s.testBit e) := by
  rw [ni_ushr (by omega) he, ni_and, ni_in]
theorem hb_of2 {s e : Nat} (hs : s < 2 ^ 31) (he : e < 32) : nI s >>> (nI e &&& 31) &&& nI 1 = bI (s.testBit e) := by
  rw [ni_sshr hs he, ni_and, ni_in]
theorem hasSet_of (x : Int32) {n : Nat} (hn : n < 31) : (x &&& (nI (2 ^ n - 1) ^^^ zI (-1)) = 0) ↔ isN x (2 ^ n) = true := by
  have hp : 2 ^ n < 2 ^ 31 := ms_pow_lt hn
  have hz : zI (-1) = (-1 : Int32) := by decide
  rw [hz]
  constructor
  · intro h
    have hb : ∀ i, i < 32 → n ≤ i → bt x i = false := by
      intro i hi hni
      have h1 : bt (x &&& (nI (2 ^ n - 1) ^^^ (-1))) i = false := by rw [h]; exact b_0 i
      rw [b_and, b_xor, b_m1 i hi, bt_nI _ hi, ms_full, decide_eq_false (by omega)] at h1
      simpa using h1
    have hx : x = nI (x.toBitVec.toNat) := by
      apply b_ext
      intro i hi
      rw [bt_nI _ hi]
      rfl
    have hlt : x.toBitVec.toNat < 2 ^ n := ms_lt fun i hi => by
      rcases Nat.lt_or_ge i 32 with q | q
      · rcases Nat.lt_or_ge i n with q2 | q2
        · exact q2
        · have h2 := hb i q q2
          have h3 : x.toBitVec.toNat.testBit i = false := h2
          rw [h3] at hi
          cases hi
      · have h3 : x.toBitVec.toNat.testBit i = false := Nat.testBit_lt_two_pow (Nat.lt_of_lt_of_le x.toBitVec.isLt (Nat.pow_le_pow_right (by decide) q))
        rw [h3] at hi
        cases hi
    rw [hx, isN_nI (by omega), decide_eq_true hlt]
  · intro h
    obtain ⟨k, hk, rfl⟩ := isN_of h
    rw [ni_sd]
    have : ms_sd k (2 ^ n - 1) = 0 := by
      apply Nat.eq_of_testBit_eq
      intro i
      rw [ms_sd_bit, ms_full, Nat.zero_testBit]
      cases hi : k.testBit i
      · rfl
      · rw [decide_eq_true (ms_bit_lt hk hi)]
        rfl
    rw [this]
    exact nI_0
theorem isN_within (x : Int32) {n : Nat} (hn : n < 2 ^ 31) : decide (nI 0 ≤ x ∧ x ≤ nI n - nI 1) = isN x n := by
  unfold isN
  apply decide_eq_decide.mpr
  rw [ni_subz n 1, Int32.le_iff_toInt_le, Int32.le_iff_toInt_le, nI_toInt (by decide), zI_toInt (by omega) (by omega)]
  omega
