/-! how a graph changes -/
def upZ (f : Nat → Int) (p : Nat) (x : Int) : Nat → Int := fun v => if v = p then x else f v
def mkG (a b : Nat) (g : GT) : GT := (a, b, 0, (fun i => if i < 6 then 1 else gL g i), gF g, gS g, gH g, gW g)
def edG (a b c : Nat) (w : Int) (g : GT) : GT := (gV g, gC g, gE g + 1, gL g, upN (gF g) (gE g) a, upN (gS g) (gE g) b, upN (gH g) (gE g) c, upZ (gW g) (gE g) w)
def liG (c n : Nat) (g : GT) : GT := (gV g, gC g, gE g, upN (gL g) c n, gF g, gS g, gH g, gW g)
def weG (e : Nat) (w : Int) (g : GT) : GT := (gV g, gC g, gE g, gL g, gF g, gS g, gH g, upZ (gW g) e w)
def g00 : GT := (1, 1, 0, (fun i => if i = 0 then 1 else 0), (fun _ => 0), (fun _ => 0), (fun _ => 0), (fun _ => 0))
theorem gOK_00 : gOK g00 := ⟨⟨by decide, by decide⟩, ⟨by decide, by decide⟩, by decide, fun c => by
  show (if c = 0 then 1 else 0) ≤ 14
  split <;> omega, fun e he => by
  have he : e < 0 := he
  omega⟩
theorem gOK_mk {g : GT} (hg : gOK g) {a b : Nat} (ha : 1 ≤ a ∧ a ≤ 8) (hb : 1 ≤ b ∧ b ≤ 6) : gOK (mkG a b g) := ⟨ha, hb, Nat.zero_le _, fun c => by
  show (if c < 6 then 1 else gL g c) ≤ 14
  have := hg.2.2.2.1 c
  split <;> omega, fun e he => by
  have he : e < 0 := he
  omega⟩
theorem gOK_ed {g : GT} (hg : gOK g) {a b c : Nat} {w : Int} (ha : a < gV g) (hb : b < gV g) (hc : c < gC g) (hw : -9999 ≤ w ∧ w ≤ 9999) (hE : gE g < 14) : gOK (edG a b c w g) := ⟨hg.1, hg.2.1, hE, hg.2.2.2.1, fun e he => by
  have he : e < gE g + 1 := he
  show (if e = gE g then a else gF g e) < gV g ∧ (if e = gE g then b else gS g e) < gV g ∧ (if e = gE g then c else gH g e) < gC g ∧ -9999 ≤ (if e = gE g then w else gW g e) ∧ (if e = gE g then w else gW g e) ≤ 9999
  by_cases q : e = gE g
  · rw [if_pos q, if_pos q, if_pos q, if_pos q]
    exact ⟨ha, hb, hc, hw⟩
  · rw [if_neg q, if_neg q, if_neg q, if_neg q]
    exact hg.2.2.2.2 e (by omega)⟩
theorem gOK_li {g : GT} (hg : gOK g) {c n : Nat} (hn : n ≤ 14) : gOK (liG c n g) := ⟨hg.1, hg.2.1, hg.2.2.1, fun x => by
  show (if x = c then n else gL g x) ≤ 14
  have := hg.2.2.2.1 x
  split <;> omega, hg.2.2.2.2⟩
theorem gOK_we {g : GT} (hg : gOK g) {e : Nat} {w : Int} (hw : -9999 ≤ w ∧ w ≤ 9999) : gOK (weG e w g) := ⟨hg.1, hg.2.1, hg.2.2.1, hg.2.2.2.1, fun x hx => by
  obtain ⟨h1, h2, h3, h4⟩ := hg.2.2.2.2 x hx
  refine ⟨h1, h2, h3, ?_⟩
  show -9999 ≤ (if x = e then w else gW g x) ∧ (if x = e then w else gW g x) ≤ 9999
  split
  · exact hw
  · exact h4⟩
theorem upd_nI (f : Nat → Nat) (k x : Nat) : upd (fun i => nI (f i)) k (nI x) = fun i => nI (upN f k x i) := by
  funext i
  show (if i = k then nI x else nI (f i)) = nI (if i = k then x else f i)
  split <;> rfl
theorem upd_zI (f : Nat → Int) (k : Nat) (x : Int) : upd (fun i => zI (f i)) k (zI x) = fun i => zI (upZ f k x i) := by
  funext i
  show (if i = k then zI x else zI (f i)) = zI (if i = k then x else f i)
  split <;> rfl
theorem upd_lim (f : Nat → Nat) (k : Nat) : upd (fun i => nI (if i < k then 1 else f i)) k (nI 1) = fun i => nI (if i < k + 1 then 1 else f i) := by
  funext i
  show (if i = k then nI 1 else nI (if i < k then 1 else f i)) = nI (if i < k + 1 then 1 else f i)
  by_cases q : i = k
  · rw [if_pos q, if_pos (show i < k + 1 by omega)]
  · rw [if_neg q]
    by_cases z : i < k
    · rw [if_pos z, if_pos (show i < k + 1 by omega)]
    · rw [if_neg z, if_neg (show ¬ i < k + 1 by omega)]
theorem lim_0 (f : Nat → Nat) : (fun i => nI (if i < 0 then 1 else f i)) = fun i => nI (f i) := by
  funext i
  rw [if_neg (Nat.not_lt_zero i)]
/-! what is asked for, is it such? -/
def mkOK (x y : Int32) : Bool := decide (nI 1 ≤ x ∧ x ≤ nI 8) && decide (nI 1 ≤ y ∧ y ≤ nI 6)
theorem le_of_nlt {x y : Int32} (h : ¬ x < y) : y ≤ x := Int32.not_lt.mp h
theorem mk_yes {x y : Int32} (h1 : ¬ x < nI 1) (h2 : ¬ nI 8 < x) (h3 : ¬ y < nI 1) (h4 : y ≤ nI 6) : mkOK x y = true := by
  unfold mkOK
  rw [decide_eq_true ⟨le_of_nlt h1, le_of_nlt h2⟩, decide_eq_true ⟨le_of_nlt h3, h4⟩]
  rfl
theorem mk_of {x y : Int32} (h : mkOK x y = true) : ∃ a b : Nat, (1 ≤ a ∧ a ≤ 8) ∧ (1 ≤ b ∧ b ≤ 6) ∧ x = nI a ∧ y = nI b := by
  unfold mkOK at h
  rw [Bool.and_eq_true, decide_eq_true_eq, decide_eq_true_eq, Int32.le_iff_toInt_le, Int32.le_iff_toInt_le, Int32.le_iff_toInt_le, Int32.le_iff_toInt_le, nI_toInt (by decide), nI_toInt (by decide), nI_toInt (by decide)] at h
  obtain ⟨⟨h1, h2⟩, h3, h4⟩ := h
  refine ⟨x.toInt.toNat, y.toInt.toNat, ⟨by omega, by omega⟩, ⟨by omega, by omega⟩, ?_, ?_⟩
  · rw [← zI_n, Int.toNat_of_nonneg (by omega), zI_as]
  · rw [← zI_n, Int.toNat_of_nonneg (by omega), zI_as]
def edOK (g : GT) (x y c w : Int32) : Bool := isN x (gV g) && isN y (gV g) && isN c (gC g) && isW w && decide (gE g ≠ 14)
theorem isN_t {x : Int32} {n : Nat} (hn : n < 2 ^ 31) (h1 : ¬ x < 0) (h2 : ¬ nI n ≤ x) : isN x n = true := by
  unfold isN
  rw [Int32.lt_iff_toInt_lt, show (0 : Int32).toInt = 0 from rfl] at h1
  rw [Int32.le_iff_toInt_le, nI_toInt hn] at h2
  exact decide_eq_true (by omega)
theorem isN_t2 {x : Int32} {n : Nat} (hn : n < 2 ^ 31) (h1 : ¬ x < 0) (h2 : x < nI n) : isN x n = true := isN_t hn h1 (fun q => by
  rw [Int32.lt_iff_toInt_lt] at h2
  rw [Int32.le_iff_toInt_le] at q
  omega)
theorem isN_t3 {x : Int32} {n : Nat} (hn : n + 1 < 2 ^ 31) (h1 : ¬ x < 0) (h2 : x ≤ nI n) : isN x (n + 1) = true := isN_t hn h1 (fun q => by
  rw [Int32.le_iff_toInt_le, nI_toInt (by omega)] at h2
  rw [Int32.le_iff_toInt_le, nI_toInt hn] at q
  omega)
theorem isN_f0 {x : Int32} {n : Nat} (h1 : x < 0) : isN x n = false := by
  unfold isN
  rw [Int32.lt_iff_toInt_lt, show (0 : Int32).toInt = 0 from rfl] at h1
  exact decide_eq_false (by omega)
theorem isN_f1 {x : Int32} {n : Nat} (hn : n < 2 ^ 31) (h1 : nI n ≤ x) : isN x n = false := by
  unfold isN
  rw [Int32.le_iff_toInt_le, nI_toInt hn] at h1
  exact decide_eq_false (by omega)
theorem isN_y {k n : Nat} (hk : k < n) (hn : n < 2 ^ 31) : isN (nI k) n = true := by
  rw [isN_nI (by omega)]
  exact decide_eq_true hk
theorem isW_z {z : Int} (h : -9999 ≤ z ∧ z ≤ 9999) : isW (zI z) = true := by
  unfold isW
  rw [zI_toInt (by omega) (by omega)]
  exact decide_eq_true h
theorem nlt0 {k : Nat} (h : k < 2 ^ 31) : ¬ nI k < 0 := nI_pos h
theorem b_nt {b : Bool} (h : (!b) = false) : b = true := by cases b <;> simp_all
theorem b_nf {b : Bool} (h : (!b) = true) : b = false := by cases b <;> simp_all
theorem bIe {a b : Bool} (h : a = b) : bI a = bI b := by rw [h]
