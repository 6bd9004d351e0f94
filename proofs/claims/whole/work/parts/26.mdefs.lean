/-! the reference's cells: its object; limits, ends, colours, weights; what it has learnt -/
abbrev wM (cy : Nat → ClassId) (ad : Nat → Nat) (g : GT) (th kn mo : Int32) (ff fr fb fp fc : Nat → Int32) : va_W :=
  [(ad 20, .inr (5, [.int th, .int (nI (gV g)), .int (nI (gC g)), .int (nI (gE g)), .ref (ad 21), .ref (ad 22), .ref (ad 23), .ref (ad 24), .ref (ad 25), .int kn, .ref (ad 26), .ref (ad 27), .ref (ad 28), .int mo, .ref (ad 29), .ref (ad 30)])),
   (ad 21, .inl (cy 0, 6, .inl (fun i => nI (gL g i)))), (ad 22, .inl (cy 0, 14, .inl (fun i => nI (gF g i)))), (ad 23, .inl (cy 0, 14, .inl (fun i => nI (gS g i)))), (ad 24, .inl (cy 0, 14, .inl (fun i => nI (gH g i)))), (ad 25, .inl (cy 0, 14, .inl (fun i => zI (gW g i)))),
   (ad 26, .inl (cy 1, 32768, .inl ff)), (ad 27, .inl (cy 0, 32768, .inl fr)), (ad 28, .inl (cy 0, 15, .inl fb)), (ad 29, .inl (cy 0, 8, .inl fp)), (ad 30, .inl (cy 0, 6, .inl fc))]
/-! labels in a row of their own -/
def labF (n : Nat) (f : Nat → Nat) : Nat → Int32 := fun i => nI (f i)
/-- the first k labels of x are those of f -/
def ago (k : Nat) (x : Nat → Int32) (f : Nat → Nat) : Prop := ∀ v, v < k → x v = nI (f v)
theorem ago_0 (x : Nat → Int32) (f : Nat → Nat) : ago 0 x f := fun v hv => by omega
theorem ago_s {k : Nat} {x : Nat → Int32} {f : Nat → Nat} (h : ago k x f) {y : Int32} (e : y = nI (f k)) : ago (k + 1) (upd x k y) f := fun v hv => by
  by_cases q : v = k
  · subst q
    rw [upd_eq, e]
  · rw [upd_ne q]
    exact h v (by omega)
theorem ago_at {k v : Nat} {x : Nat → Int32} {f : Nat → Nat} (h : ago k x f) (hv : v < k) : x v = nI (f v) := h v hv
/-- row by row a's label becomes b -/
def re2 (f : Nat → Nat) (a b : Nat) : Nat → Nat := fun v => if f v = a then b else f v
def ago2 (n k : Nat) (x : Nat → Int32) (f h : Nat → Nat) : Prop := ∀ v, v < n → x v = nI (if v < k then h v else f v)
theorem ago2_0 {n : Nat} {x : Nat → Int32} {f h : Nat → Nat} (k : ago n x f) : ago2 n 0 x f h := fun v hv => by rw [if_neg (Nat.not_lt_zero v)]; exact k v hv
theorem ago2_s {n k : Nat} {x : Nat → Int32} {f h : Nat → Nat} (q : ago2 n k x f h) {y : Int32} (e : y = nI (h k)) : ago2 n (k + 1) (upd x k y) f h := fun v hv => by
  by_cases z : v = k
  · subst z
    rw [upd_eq, e, if_pos (Nat.lt_succ_self v)]
  · rw [upd_ne z, q v hv]
    congr 1
    by_cases y : v < k
    · rw [if_pos y, if_pos (by omega)]
    · rw [if_neg y, if_neg (by omega)]
theorem ago2_e {n : Nat} {x : Nat → Int32} {f h : Nat → Nat} (q : ago2 n n x f h) : ago n x h := fun v hv => by rw [q v hv, if_pos hv]
theorem ago2_at {n k : Nat} {x : Nat → Int32} {f h : Nat → Nat} (q : ago2 n k x f h) (hk : k < n) : x k = nI (f k) := by rw [q k hk, if_neg (Nat.lt_irrefl k)]
/-- of the ring test: the labels of the edges below e, no ring so far -/
def rng (g : GT) (S e : Nat) (x : Nat → Int32) : Prop := ∃ f : Nat → Nat, ago (gV g) x f ∧ (∀ v, v < gV g → f v < gV g) ∧ mnl g (S % 2 ^ e) f ∧ cntA g S e = ms_card e S
theorem rng_0 {g : GT} {S : Nat} {x : Nat → Int32} (h : ago (gV g) x (fun v => v)) : rng g S 0 x :=
  ⟨_, h, fun v hv => hv, by rw [Nat.pow_zero, Nat.mod_one]; exact mnl_0 fun u v _ _ q => q, rfl⟩
theorem rng_n {g : GT} {S e : Nat} {x : Nat → Int32} (h : rng g S e x) (hb : S.testBit e = false) : rng g S (e + 1) x := by
  obtain ⟨f, h1, h2, h3, h4⟩ := h
  refine ⟨f, h1, h2, by rw [ms_lo_out hb]; exact h3, ?_⟩
  rw [cntA_n (Or.inl hb), h4]
  simp only [ms_card]
  rw [hb]
  rfl
theorem re2_ker {f : Nat → Nat} {a b u v : Nat} : re2 f a b u = re2 f a b v ↔ (f u = f v ∨ ((f u = a ∨ f u = b) ∧ (f v = a ∨ f v = b))) := by
  unfold re2
  have := @ker_re f b a (f u) (f v)
  rw [this]
  constructor
  · rintro (h | ⟨h1, h2⟩)
    · exact Or.inl h
    · exact Or.inr ⟨h1.symm, h2.symm⟩
  · rintro (h | ⟨h1, h2⟩)
    · exact Or.inl h
    · exact Or.inr ⟨h1.symm, h2.symm⟩
theorem rng_y {g : GT} (hg : gOK g) {S e : Nat} {x : Nat → Int32} {f : Nat → Nat} (he : e < gE g) (h2 : ∀ v, v < gV g → f v < gV g) (h3 : mnl g (S % 2 ^ e) f) (h4 : cntA g S e = ms_card e S) (hb : S.testBit e = true) (hne : f (gF g e) ≠ f (gS g e)) (hx : ago (gV g) x (re2 f (f (gF g e)) (f (gS g e)))) : rng g S (e + 1) x := by
  obtain ⟨he1, he2, -, -, -⟩ := hg.2.2.2.2 e he
  refine ⟨_, hx, fun v hv => ?_, ?_, ?_⟩
  · show (if f v = f (gF g e) then f (gS g e) else f v) < gV g
    split
    · exact h2 _ he2
    · exact h2 v hv
  · rw [ms_lo_in hb]
    exact mnl_join hg he h3 fun u v _ _ => re2_ker
  · have hl := labA_mnl hg S e (by omega)
    have hne' : labA g S e (gF g e) ≠ labA g S e (gS g e) := fun q => hne ((mnl_ker hl h3 he1 he2).mp q)
    rw [cntA_y hb hne', h4]
    simp only [ms_card]
    rw [hb]
    rfl
theorem cnt_card_gap {g : GT} (S : Nat) : ∀ e, cntA g S e ≤ ms_card e S
  | 0 => Nat.le_refl 0
  | e + 1 => by
    have := cnt_card_gap (g := g) S e
    simp only [ms_card]
    by_cases q : S.testBit e = true ∧ labA g S e (gF g e) ≠ labA g S e (gS g e)
    · rw [cntA_y q.1 q.2, q.1]
      simp only [Bool.toNat_true]
      omega
    · have q : S.testBit e = false ∨ labA g S e (gF g e) = labA g S e (gS g e) := by
        cases hb : S.testBit e
        · exact Or.inl rfl
        · exact Or.inr (Decidable.not_not.mp fun z => q ⟨hb, z⟩)
      rw [cntA_n q]
      omega
theorem cntA_stay {g : GT} {S e : Nat} (h : cntA g S (e + 1) < ms_card (e + 1) S) : ∀ d, cntA g S (e + 1 + d) < ms_card (e + 1 + d) S
  | 0 => h
  | d + 1 => by
    have := cntA_stay h d
    rw [← Nat.add_assoc]
    generalize e + 1 + d = k at this
    simp only [ms_card]
    by_cases q : S.testBit k = true ∧ labA g S k (gF g k) ≠ labA g S k (gS g k)
    · rw [cntA_y q.1 q.2, q.1]
      simp only [Bool.toNat_true]
      omega
    · have q : S.testBit k = false ∨ labA g S k (gF g k) = labA g S k (gS g k) := by
        cases hb : S.testBit k
        · exact Or.inl rfl
        · exact Or.inr (Decidable.not_not.mp fun z => q ⟨hb, z⟩)
      rw [cntA_n q]
      omega
theorem rng_no {g : GT} (hg : gOK g) {S e : Nat} {f : Nat → Nat} (hS : S < 2 ^ gE g) (he : e < gE g) (h3 : mnl g (S % 2 ^ e) f) (hb : S.testBit e = true) (heq : f (gF g e) = f (gS g e)) : fr g S = false := by
  obtain ⟨he1, he2, -, -, -⟩ := hg.2.2.2.2 e he
  have hl := labA_mnl hg S e (by omega)
  have heq' : labA g S e (gF g e) = labA g S e (gS g e) := (mnl_ker hl h3 he1 he2).mpr heq
  have h1 : cntA g S (e + 1) < ms_card (e + 1) S := by
    rw [cntA_n (Or.inr heq')]
    have := cnt_card_gap (g := g) S e
    simp only [ms_card]
    rw [hb]
    simp only [Bool.toNat_true]
    omega
  have h2 := cntA_stay h1 (gE g - (e + 1))
  rw [show e + 1 + (gE g - (e + 1)) = gE g by omega] at h2
  cases q : fr g S
  · rfl
  · have := (fr_iff hg hS).mp q
    unfold rA at this
    omega
theorem rng_end {g : GT} (hg : gOK g) {S : Nat} {x : Nat → Int32} (hS : S < 2 ^ gE g) (h : rng g S (gE g) x) : fr g S = true := by
  obtain ⟨f, -, -, -, h4⟩ := h
  exact (fr_iff hg hS).mpr h4
/-! of the limits' test -/
def kps (g : GT) (S e : Nat) : Bool := decide (cntB g S e = ms_card e S)
theorem cntB_gap {g : GT} (S : Nat) : ∀ e, cntB g S e ≤ ms_card e S
  | 0 => Nat.le_refl 0
  | e + 1 => by
    have := cntB_gap (g := g) S e
    simp only [ms_card]
    by_cases q : S.testBit e = true ∧ 0 < romB g S e (gH g e)
    · rw [cntB_y q.1 q.2, q.1]
      simp only [Bool.toNat_true]
      omega
    · have q : S.testBit e = false ∨ ¬ 0 < romB g S e (gH g e) := by
        cases hb : S.testBit e
        · exact Or.inl rfl
        · exact Or.inr fun z => q ⟨hb, z⟩
      rw [cntB_n q]
      omega
theorem kps_0 (g : GT) (S : Nat) : kps g S 0 = true := decide_eq_true rfl
theorem kps_n {g : GT} {S e : Nat} (hb : S.testBit e = false) : kps g S (e + 1) = kps g S e := by
  have h5 : ms_card (e + 1) S = ms_card e S := by
    simp only [ms_card]
    rw [hb]
    rfl
  unfold kps
  rw [cntB_n (Or.inl hb), h5]
theorem kps_y {g : GT} (hg : gOK g) {S e : Nat} (he : e < gE g) (hb : S.testBit e = true) : kps g S (e + 1) = (kps g S e && decide (kcN g S (gH g e) (e + 1) ≤ gL g (gH g e))) := by
  obtain ⟨-, -, he3, -, -⟩ := hg.2.2.2.2 e he
  have h1 := romB_kc g S e (gH g e)
  have h2 := kcN_y (g := g) (S := S) hb
  have h3 := cntB_gap (g := g) S e
  have h4 : fulR g (gH g e) = gL g (gH g e) := if_pos he3
  have h5 : ms_card (e + 1) S = ms_card e S + 1 := by
    simp only [ms_card]
    rw [hb]
    rfl
  unfold kps
  rw [h5, h2]
  by_cases q : 0 < romB g S e (gH g e)
  · rw [cntB_y hb q, decide_eq_true (show kcN g S (gH g e) e + 1 ≤ gL g (gH g e) by omega), Bool.and_true]
    exact decide_eq_decide.mpr (by omega)
  · rw [cntB_n (Or.inr q), decide_eq_false (show ¬ kcN g S (gH g e) e + 1 ≤ gL g (gH g e) by omega), Bool.and_false, decide_eq_false (by omega)]
theorem kps_e {g : GT} (hg : gOK g) {S : Nat} (hS : S < 2 ^ gE g) : kps g S (gE g) = li g S := by
  unfold kps li
  rw [c14 hg hS]
  rfl
def kco (g : GT) (S e : Nat) (x : Nat → Int32) : Prop := ∀ c, c < gC g → x c = nI (kcN g S c e)
theorem kco_n {g : GT} {S e : Nat} {x : Nat → Int32} (h : kco g S e x) (hb : S.testBit e = false) : kco g S (e + 1) x := fun c hc => by rw [h c hc, kcN_n (Or.inl hb)]
theorem kco_y {g : GT} {S e : Nat} {x : Nat → Int32} (h : kco g S e x) (hb : S.testBit e = true) : kco g S (e + 1) (upd x (gH g e) (nI (kcN g S (gH g e) e + 1))) := fun c hc => by
  by_cases q : c = gH g e
  · subst q
    rw [upd_eq, kcN_y hb]
  · rw [upd_ne q, h c hc, kcN_n (Or.inr (fun z => q z.symm))]
theorem kcN_le (g : GT) (S c : Nat) : ∀ n, kcN g S c n ≤ n
  | 0 => Nat.le_refl 0
  | n + 1 => by
    have := kcN_le g S c n
    simp only [kcN]
    split <;> omega
def zro (k : Nat) (x : Nat → Int32) : Prop := ∀ c, c < k → x c = nI 0
theorem zro_s {k : Nat} {x : Nat → Int32} (h : zro k x) : zro (k + 1) (upd x k (nI 0)) := fun c hc => by
  by_cases q : c = k
  · subst q
    exact upd_eq
  · rw [upd_ne q]
    exact h c (by omega)
/-! weights, sizes -/
theorem wZ_s (w : Nat → Int) (n S : Nat) : wZ w (n + 1) S = wZ w n S + (if S.testBit n = true then w n else 0) := rfl
theorem card_s (n S : Nat) : nI (ms_card n S) + bI (S.testBit n) = nI (ms_card (n + 1) S) := by
  simp only [ms_card]
  cases S.testBit n
  · show nI (ms_card n S) + nI 0 = _
    rw [nI_add]
    rfl
  · show nI (ms_card n S) + nI 1 = _
    rw [nI_add]
    rfl
/-! what the reference has learnt of the sets below m -/
def rN (g : GT) (k : Nat) : Nat → Nat := if k = 0 then rA g else rB g
def fN (g : GT) (k S : Nat) : Bool := if k = 0 then fr g S else li g S
def bsv (o : Option Nat) : Int32 := match o with
  | none => zI (-1)
  | some T => nI T
def lrF (g : GT) (m : Nat) (ff : Nat → Int32) : Prop := ∀ k S, k < 2 → S < m → ff (16384 * k + S) = bI (fN g k S)
def lrR (g : GT) (m : Nat) (fr : Nat → Int32) : Prop := ∀ k S, k < 2 → S < m → fr (16384 * k + S) = nI (rN g k S)
def lrB (g : GT) (m : Nat) (fb : Nat → Int32) : Prop := ∀ k, k < 15 → fb k = bsv (bs g k m)
theorem rN_ok {g : GT} (hg : gOK g) (k : Nat) : mt_ok (gE g) (rN g k) := by
  unfold rN
  split
  · exact rA_ok hg
  · exact rB_ok hg
theorem fN_iff {g : GT} (hg : gOK g) {k S : Nat} (hS : S < 2 ^ gE g) : fN g k S = true ↔ rN g k S = ms_card 14 S := by
  unfold fN rN
  by_cases q : k = 0
  · rw [if_pos q, if_pos q, fr_iff hg hS, c14 hg hS]
  · rw [if_neg q, if_neg q, li_iff hg hS, c14 hg hS]
/-- the greatest rank without an edge, of the first e -/
def mxR (r : Nat → Nat) (S : Nat) : Nat → Nat
  | 0 => 0
  | e + 1 => max (mxR r S e) (if S.testBit e = true then r (ms_sd S (2 ^ e)) else 0)
theorem mxR_is {n : Nat} {r : Nat → Nat} (h : mt_ok n r) {S : Nat} (hS : S < 2 ^ n) (hn : r S ≠ ms_card n S) : mxR r S n = r S := by
  obtain ⟨e, he, hb, hr⟩ := mt_spare h hS hn
  have up : ∀ j, mxR r S j ≤ r S := by
    intro j
    induction j with
    | zero => exact Nat.zero_le _
    | succ j ih =>
      simp only [mxR]
      have : (if S.testBit j = true then r (ms_sd S (2 ^ j)) else 0) ≤ r S := by
        split
        · exact mt_mono h hS (ms_sub_sd S _)
        · exact Nat.zero_le _
      omega
  have lo : ∀ j, e < j → r S ≤ mxR r S j := by
    intro j
    induction j with
    | zero => intro q; omega
    | succ j ih =>
      intro q
      simp only [mxR]
      by_cases z : e = j
      · subst z
        rw [if_pos hb, hr]
        exact Nat.le_max_right _ _
      · have := ih (by omega)
        omega
  exact Nat.le_antisymm (up n) (lo n he)
theorem rN_le {g : GT} (hg : gOK g) (k S : Nat) : rN g k S ≤ 14 := by
  have h1 := rA_le g S
  have h2 := rB_le g S
  have h3 := hg.2.2.1
  unfold rN
  split <;> omega
theorem mxR_le {g : GT} (hg : gOK g) (k S e : Nat) : mxR (rN g k) S e ≤ 14 := by
  induction e with
  | zero => exact Nat.zero_le _
  | succ e ih =>
    have := rN_le hg k (ms_sd S (2 ^ e))
    simp only [mxR]
    split <;> omega
theorem xor_bit {S e : Nat} (h : S.testBit e = true) : S ^^^ 2 ^ e = ms_sd S (2 ^ e) := by
  apply Nat.eq_of_testBit_eq
  intro i
  rw [Nat.testBit_xor, ms_sd_bit, Nat.testBit_two_pow]
  by_cases q : e = i
  · subst q
    rw [h, decide_eq_true rfl]
    rfl
  · rw [decide_eq_false q]
    simp
theorem sd_bit_lt {S e : Nat} (h : S.testBit e = true) : ms_sd S (2 ^ e) < S := by
  have h1 := ms_le_sub (ms_sub_sd S (2 ^ e))
  rcases Nat.lt_or_ge (ms_sd S (2 ^ e)) S with q | q
  · exact q
  · have : ms_sd S (2 ^ e) = S := Nat.le_antisymm h1 q
    have h2 := ms_del_bit S e
    rw [this, h] at h2
    cases h2
theorem lrB_0 {g : GT} {fb : Nat → Int32} (h : ∀ k, k < 15 → fb k = zI (-1)) : lrB g 0 fb := h
theorem bs_new {g : GT} {m : Nat} {fb : Nat → Int32} (h : lrB g m fb) (hc : co g m = true) (hn : ∀ T, bs g (ms_card 14 m) m = some T → wS g T < wS g m) : lrB g (m + 1) (upd fb (ms_card 14 m) (nI m)) := by
  intro k hk
  simp only [bs]
  by_cases z : ms_card 14 m = k
  · subst z
    rw [if_pos ⟨hc, rfl, hn⟩, upd_eq]
    rfl
  · rw [if_neg (fun y => z y.2.1), upd_ne (fun y => z y.symm)]
    exact h k hk
theorem bs_old {g : GT} {m : Nat} {fb : Nat → Int32} (h : lrB g m fb) (hq : ¬ co g m = true ∨ ∃ T, bs g (ms_card 14 m) m = some T ∧ ¬ wS g T < wS g m) : lrB g (m + 1) fb := by
  intro k hk
  simp only [bs]
  by_cases z : co g m = true ∧ ms_card 14 m = k ∧ ∀ T, bs g k m = some T → wS g T < wS g m
  · obtain ⟨z1, z2, z3⟩ := z
    rcases hq with q | ⟨T0, q1, q2⟩
    · exact absurd z1 q
    · subst z2
      exact absurd (z3 T0 q1) q2
  · rw [if_neg z]
    exact h k hk
theorem mo_new {g : GT} {m : Nat} (hc : co g m = true) : mo g (m + 1) = max (mo g m) (ms_card 14 m) := by
  simp only [mo]
  rw [if_pos hc]
theorem mo_old {g : GT} {m : Nat} (hc : ¬ co g m = true) : mo g (m + 1) = mo g m := by
  simp only [mo]
  rw [if_neg hc]
/-- a common set that doesn't better the best leaves the most -/
theorem mo_same {g : GT} {m T : Nat} (hT : bs g (ms_card 14 m) m = some T) : mo g (m + 1) = mo g m := by
  obtain ⟨h1, h2, h3, -⟩ := bs_some m T hT
  have := mo_up m T h1 h2
  by_cases q : co g m = true
  · rw [mo_new q]
    omega
  · exact mo_old q
theorem hv_ok (x : Int32) {r : Int32} (h : (x < zI (-9999) ∧ r = nI 1) ∨ (¬ x < zI (-9999) ∧ x ≤ nI 9999 ∧ r = nI 0) ∨ (¬ x < zI (-9999) ∧ ¬ x ≤ nI 9999 ∧ r = nI 1)) : r = bI (!isW x) := by
  unfold isW
  rw [Int32.lt_iff_toInt_lt, Int32.le_iff_toInt_le, zI_toInt (by decide) (by decide), nI_toInt (by decide)] at h
  rcases h with ⟨h1, h2⟩ | ⟨h1, h2, h3⟩ | ⟨h1, h2, h3⟩
  · rw [decide_eq_false (by omega), h2]
    rfl
  · rw [decide_eq_true (by omega), h3]
    rfl
  · rw [decide_eq_false (by omega), h3]
    rfl
theorem is_ok (x : Int32) {n : Nat} (hn : n < 2 ^ 31) {r : Int32} (h : (x < 0 ∧ r = nI 0) ∨ (¬ x < 0 ∧ nI n ≤ x ∧ r = nI 0) ∨ (¬ x < 0 ∧ ¬ nI n ≤ x ∧ r = nI 1)) : r = bI (isN x n) := by
  unfold isN
  rw [Int32.lt_iff_toInt_lt, Int32.le_iff_toInt_le, nI_toInt hn, show (0 : Int32).toInt = 0 from rfl] at h
  rcases h with ⟨h1, h2⟩ | ⟨h1, h2, h3⟩ | ⟨h1, h2, h3⟩
  · rw [decide_eq_false (by omega), h2]
    rfl
  · rw [decide_eq_false (by omega), h3]
    rfl
  · rw [decide_eq_true (by omega), h3]
    rfl
