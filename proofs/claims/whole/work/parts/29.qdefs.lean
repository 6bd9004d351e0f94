/-! what is answered -/
def wB (g : GT) (k : Nat) : Int := match bs g k (2 ^ gE g) with
  | none => 0
  | some T => wS g T
def hv (w : Nat → Int) : Nat → Nat
  | 0 => 0
  | k + 1 => if w (hv w k) < w (k + 1) then k + 1 else hv w k
theorem hv_le (w : Nat → Int) : ∀ k, hv w k ≤ k
  | 0 => Nat.le_refl 0
  | k + 1 => by
    have := hv_le w k
    simp only [hv]
    split <;> omega
def moA (g : GT) : Nat := mo g (2 ^ gE g)
theorem mo_le (g : GT) (hg : gOK g) : moA g < gV g := mo_7 hg (Nat.two_pow_pos _) (Nat.le_refl _)
theorem bA_ex {g : GT} (hg : gOK g) {k : Nat} (hk : k ≤ moA g) : ∃ T, bs g k (2 ^ gE g) = some T := bs_le hg (Nat.two_pow_pos _) (Nat.le_refl _) hk
def dsA (g : GT) (k : Nat) : Nat := match bs g k (2 ^ gE g) with
  | none => 0
  | some T => T
theorem dsA_some {g : GT} (hg : gOK g) {k : Nat} (hk : k ≤ moA g) : bs g k (2 ^ gE g) = some (dsA g k) := by
  obtain ⟨T, hT⟩ := bA_ex hg hk
  unfold dsA
  rw [hT]
theorem dsA_lt {g : GT} (hg : gOK g) {k : Nat} (hk : k ≤ moA g) : dsA g k < 2 ^ gE g := bs_lt (dsA_some hg hk)
theorem wB_is {g : GT} (hg : gOK g) {k : Nat} (hk : k ≤ moA g) : wB g k = wS g (dsA g k) := by
  unfold wB
  rw [dsA_some hg hk]
theorem lrB_ds {g : GT} (hg : gOK g) {fb : Nat → Int32} (h : lrB g (2 ^ gE g) fb) {k : Nat} (hk : k ≤ moA g) : fb k = nI (dsA g k) := by
  have h1 := mo_le g hg
  have h2 := hg.1.2
  rw [h k (by omega), dsA_some hg hk]
  rfl
theorem tabs_ds {g : GT} (hg : gOK g) {fd fw : Nat → Int32} (h : tabs g (2 ^ gE g) fd fw) {k : Nat} (hk : k ≤ moA g) : fd k = nI (dsA g k) ∧ fw k = zI (wB g k) := by
  rw [wB_is hg hk]
  exact h k _ (dsA_some hg hk)
theorem wB_bd {g : GT} (hg : gOK g) (k : Nat) : -139986 ≤ wB g k ∧ wB g k ≤ 139986 := by
  unfold wB
  split
  · omega
  · rename_i T _
    exact wS_bd hg T
def wP (g : GT) (s : Nat) : Bool := decide (rA g s + rB g (ms_sd (2 ^ gE g - 1) s) = moA g)
/-- the circuit as the reference finds it -/
def cmP (g : GT) (k B : Nat) : Nat → Bool := fun i => B.testBit i && fN g k (ms_sd B (2 ^ i))
def ciA (g : GT) (k S e : Nat) : Int32 := if fN g k S = true ∧ S.testBit e = false then (if fN g k (S ||| 2 ^ e) = true then nI 0 else nI (ms_mk (gE g) (cmP g k (S ||| 2 ^ e)))) else zI (-1)
theorem cmP_t {g : GT} {k B e : Nat} (h : B.testBit e = true) (q : fN g k (ms_sd B (2 ^ e)) = true) : cmP g k B e = true := by
  unfold cmP
  rw [h, q]
  rfl
theorem cmP_f {g : GT} {k B e : Nat} (h : B.testBit e = false ∨ fN g k (ms_sd B (2 ^ e)) = false) : cmP g k B e = false := by
  unfold cmP
  rcases h with h | h
  · rw [h, Bool.false_and]
  · rw [h, Bool.and_false]
def cfP (g : GT) (n : Nat) : Nat → Bool := fun s => fr g s && (ms_card 14 s == n)
def coR (g : GT) (x : Int32) : Int32 := if x = nI 0 then nI (gV g) else if x = nI 1 then nI (gC g) else if x = nI 2 then nI (gE g) else if x = nI 4 then nI (nP (co g) (2 ^ gE g)) else zI (-1)
theorem nP_y {P : Nat → Bool} {m : Nat} (h : P m = true) : nP P (m + 1) = nP P m + 1 := by
  simp only [nP]
  rw [if_pos h]
theorem nP_n {P : Nat → Bool} {m : Nat} (h : P m = false) : nP P (m + 1) = nP P m + 0 := by
  simp only [nP]
  rw [if_neg (by rw [h]; decide)]
theorem cfP_t {g : GT} {n s : Nat} (h : fr g s = true) (q : ms_card 14 s = n) : cfP g n s = true := by
  unfold cfP
  rw [h, q]
  simp
theorem cfP_f {g : GT} {n s : Nat} (h : fr g s = false ∨ ms_card 14 s ≠ n) : cfP g n s = false := by
  unfold cfP
  rcases h with h | h
  · rw [h, Bool.false_and]
  · rw [show (ms_card 14 s == n) = false by simpa using h, Bool.and_false]
theorem co_f {g : GT} {s : Nat} (h : fr g s = false ∨ li g s = false) : co g s = false := by
  unfold co
  rcases h with h | h
  · rw [h, Bool.false_and]
  · rw [h, Bool.and_false]
theorem isK {k : Nat} (h : k < 2) : nI k = 0 ∨ nI k = nI 1 := by
  rcases (show k = 0 ∨ k = 1 by omega) with rfl | rfl
  · exact Or.inl rfl
  · exact Or.inr rfl
theorem xor_full {n s : Nat} (h : s < 2 ^ n) : (2 ^ n - 1) ^^^ s = ms_sd (2 ^ n - 1) s := by
  apply Nat.eq_of_testBit_eq
  intro i
  rw [Nat.testBit_xor, ms_sd_bit, ms_full]
  cases hb : s.testBit i
  · simp
  · rw [decide_eq_true (ms_bit_lt h hb)]
    rfl
theorem wAnd_y {P : Nat → Bool} {n m : Nat} (h : P m = true) : wAnd P n (m + 1) = wAnd P n m &&& m := by
  simp only [wAnd]
  rw [if_pos h]
theorem wAnd_n {P : Nat → Bool} {n m : Nat} (h : P m = false) : wAnd P n (m + 1) = wAnd P n m := by
  simp only [wAnd]
  rw [if_neg (by rw [h]; decide)]
theorem wOr_y {P : Nat → Bool} {m : Nat} (h : P m = true) : wOr P (m + 1) = wOr P m ||| m := by
  simp only [wOr]
  rw [if_pos h]
theorem wOr_n {P : Nat → Bool} {m : Nat} (h : P m = false) : wOr P (m + 1) = wOr P m := by
  simp only [wOr]
  rw [if_neg (by rw [h]; decide)]
theorem hv_y {w : Nat → Int} {k : Nat} (h : w (hv w k) < w (k + 1)) : hv w (k + 1) = k + 1 := by
  simp only [hv]
  rw [if_pos h]
theorem hv_n {w : Nat → Int} {k : Nat} (h : ¬ w (hv w k) < w (k + 1)) : hv w (k + 1) = hv w k := by
  simp only [hv]
  rw [if_neg h]
theorem cl_y {r : Nat → Nat} {S e : Nat} (h : r (S ||| 2 ^ e) = r S) : (S ||| ms_mk e (cloP r S)) ||| 2 ^ e = S ||| ms_mk (e + 1) (cloP r S) := by rw [ms_mk_y (cloP_t h), Nat.or_assoc]
theorem cl_n {r : Nat → Nat} {S e : Nat} (h : ¬ r (S ||| 2 ^ e) = r S) : (S ||| ms_mk e (cloP r S)) ||| 0 = S ||| ms_mk (e + 1) (cloP r S) := by rw [ms_mk_n (cloP_f h), Nat.or_zero]
theorem mk_y2 {p : Nat → Bool} {e : Nat} (h : p e = true) : ms_mk e p ||| 2 ^ e = ms_mk (e + 1) p := (ms_mk_y h).symm
theorem mk_n2 {p : Nat → Bool} {e : Nat} (h : p e = false) : ms_mk e p ||| 0 = ms_mk (e + 1) p := by rw [ms_mk_n h, Nat.or_zero]
theorem mo_up' {x : Int32} {n : Nat} (hn : n + 1 < 2 ^ 31) (h : isN x (n + 1) = false) (h1 : ¬ x < 0) (h2 : x ≤ nI n) : False := by
  rw [isN_t3 hn h1 h2] at h
  cases h
/-- a witness's way: two there are -/
def wiA (g : GT) (k : Nat) : Nat := if k = 0 then wAnd (wP g) (gE g) (2 ^ gE g) else wOr (wP g) (2 ^ gE g)
theorem co_cases {x : Int32} (h3 : ¬ x = nI 3) : x = nI 0 ∨ (¬ x = nI 0 ∧ x = nI 1) ∨ (¬ x = nI 0 ∧ ¬ x = nI 1 ∧ x = nI 2) ∨ (¬ x = nI 0 ∧ ¬ x = nI 1 ∧ ¬ x = nI 2 ∧ x = nI 4) ∨ (¬ x = nI 0 ∧ ¬ x = nI 1 ∧ ¬ x = nI 2 ∧ ¬ x = nI 4 ∧ (x.toInt < 0 ∨ 4 < x.toInt)) := by
  have e : ∀ k : Nat, k < 5 → (x = nI k ↔ x.toInt = (k : Int)) := fun k hk => ⟨fun h => by rw [h, nI_toInt (by omega)], fun h => by rw [← zI_as x, h, zI_n]⟩
  rw [e 3 (by decide)] at h3
  rw [e 0 (by decide), e 1 (by decide), e 2 (by decide), e 4 (by decide)]
  omega
