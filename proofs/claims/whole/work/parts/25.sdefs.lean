/-! the survey's cells: its object, the best sets and weights by size, the rows of the walk; the graph's -/
abbrev wSv (cy : Nat → ClassId) (ad : Nat → Nat) (ch : Int32) (g : GT) (sn wf cs mo wd : Int32) (fd fw fp fr ft : Nat → Int32) : va_W :=
  (ad 9, .inr (3, [.ref (ad 1), .int sn, .int wf, .int cs, .int mo, .ref (ad 10), .ref (ad 11), .int wd, .ref (ad 12), .ref (ad 13), .ref (ad 14)])) :: (ad 10, .inl (cy 0, 8, .inl fd)) :: (ad 11, .inl (cy 0, 8, .inl fw)) :: (ad 12, .inl (cy 0, 15, .inl fp)) :: (ad 13, .inl (cy 0, 15, .inl fr)) :: (ad 14, .inl (cy 0, 15, .inl ft)) :: wG cy ad ch g
/-- how much room each colour has left behind a set -/
def rmF (g : GT) (T : Nat) : Nat → Nat := fun c => fulR g c - kcN g T c (gE g)
def rmv (g : GT) (T : Nat) : Int32 := if li g T = true then nI (pk (rmF g T)) else zI (-1)
def pOK (g : GT) (T : Nat) (x : Int32) : Prop := ∃ f : Nat → Nat, x = nI (pk f) ∧ (∀ v, v < 8 → f v < 8) ∧ mnl g T f
/-- place p of the rows tells of the set T -/
def rowT (g : GT) (T p : Nat) (fp frm ft : Nat → Int32) : Prop := pOK g T (fp p) ∧ frm p = rmv g T ∧ ft p = zI (wS g T) ∧ fr g T = true
/-- .. all places above the lowest of m -/
def invR (g : GT) (m : Nat) (fp frm ft : Nat → Int32) : Prop := rowT g 0 14 fp frm ft ∧ ∀ p, p < 14 → m.testBit p = true → tzN 14 m < p → rowT g (hi m p) p fp frm ft
def tabs (g : GT) (m : Nat) (fd fw : Nat → Int32) : Prop := ∀ k T, bs g k m = some T → fd k = nI T ∧ fw k = zI (wS g T)
def plA (S : Nat) : Nat := if ms_sd S (2 ^ tzN 14 S) = 0 then 14 else tzN 14 (ms_sd S (2 ^ tzN 14 S))
theorem n0_of {a : Nat} (h : a < 2 ^ 31) (k : nI a = 0) : a = 0 := (nI_eq h (by decide)).mp (show nI a = nI 0 from k)
theorem n0_ne {a : Nat} (k : ¬ nI a = 0) : a ≠ 0 := fun q => k (by rw [q]; rfl)
theorem isN_withN (x : Int32) {n : Nat} (hn : n < 2 ^ 31) : decide (nI 0 ≤ x ∧ x ≤ nI n) = isN x (n + 1) := by
  unfold isN
  apply decide_eq_decide.mpr
  rw [Int32.le_iff_toInt_le, Int32.le_iff_toInt_le, nI_toInt (by decide), nI_toInt hn]
  omega
theorem upd_ne {f : Nat → Int32} {k : Nat} {x : Int32} {i : Nat} (h : i ≠ k) : upd f k x i = f i := if_neg h
theorem upd_eq {f : Nat → Int32} {k : Nat} {x : Int32} : upd f k x k = x := if_pos rfl
theorem rmF_lt {g : GT} (hg : gOK g) (T : Nat) : ∀ v, v < 8 → rmF g T v < 16 := fun v hv => by
  have := fulR_lt hg v hv
  unfold rmF
  omega
/-- a row of room is no mark of a set that is too full -/
theorem rmF_m1 {g : GT} (hg : gOK g) (T : Nat) : nI (pk (rmF g T)) ≠ zI (-1) := by
  intro h
  have h1 : bt (nI (pk (rmF g T))) 28 = bt (zI (-1)) 28 := by rw [h]
  have h3 : pk (rmF g T) / 2 ^ 28 = 0 := by
    have h4 := pk_cell (rmF_lt hg T) (p := 7) (by decide)
    have h5 : rmF g T 7 = 0 := by
      have h6 : fulR g 7 = 0 := if_neg (by have := hg.2.1; omega)
      unfold rmF
      rw [h6, Nat.zero_sub]
    rw [h5] at h4
    have h7 := pkr_lt (rmF_lt hg T)
    have h8 : pk (rmF g T) / 2 ^ (4 * 7) &&& 15 = (pk (rmF g T) / 2 ^ (4 * 7)) % 16 := Nat.and_two_pow_sub_one_eq_mod _ 4
    rw [h8] at h4
    omega
  have h2 : (pk (rmF g T)).testBit 28 = false := by
    rw [Nat.testBit_eq_decide_div_mod_eq, h3]
    rfl
  rw [bt_nI _ (by decide), h2] at h1
  exact absurd h1 (by decide)
theorem kcN_0 (g : GT) (c : Nat) : ∀ n, kcN g 0 c n = 0
  | 0 => rfl
  | n + 1 => by rw [kcN_n (Or.inl (Nat.zero_testBit n))]; exact kcN_0 g c n
theorem rmF_0 (g : GT) : rmF g 0 = fulR g := by
  funext c
  unfold rmF
  rw [kcN_0]
  rfl
theorem li_0 {g : GT} (hg : gOK g) : li g 0 = true := (li_iff hg (Nat.two_pow_pos _)).mpr (by rw [(rB_ok hg).1, ms_card_0])
theorem fr_0 {g : GT} (hg : gOK g) : fr g 0 = true := (fr_iff hg (Nat.two_pow_pos _)).mpr (by rw [(rA_ok hg).1, ms_card_0])
theorem rmv_0 {g : GT} (hg : gOK g) : rmv g 0 = nI (pk (fulR g)) := by
  unfold rmv
  rw [if_pos (li_0 hg), rmF_0]
theorem rmv_t {g : GT} (hg : gOK g) {T : Nat} (h : ¬ rmv g T = zI (-1)) : li g T = true ∧ rmv g T = nI (pk (rmF g T)) := by
  unfold rmv at h ⊢
  by_cases q : li g T = true
  · rw [if_pos q]
    exact ⟨q, rfl⟩
  · rw [if_neg q] at h
    exact absurd rfl h
theorem rmv_f {g : GT} (hg : gOK g) {T : Nat} (h : rmv g T = zI (-1)) : li g T = false := by
  unfold rmv at h
  cases q : li g T
  · rfl
  · rw [if_pos q] at h
    exact absurd h (rmF_m1 hg T)
/-- one edge more: of kind 1 -/
theorem li_step {g : GT} (hg : gOK g) {T e : Nat} (hT : T < 2 ^ gE g) (he : e < gE g) (hb : T.testBit e = false) (hl : li g T = true) : (0 < rmF g T (gH g e) ∧ li g (T ||| 2 ^ e) = true ∧ pk (upN (rmF g T) (gH g e) (rmF g T (gH g e) - 1)) = pk (rmF g (T ||| 2 ^ e))) ∨ (¬ 0 < rmF g T (gH g e) ∧ li g (T ||| 2 ^ e) = false) := by
  have h1 := (li_iff hg hT).mp hl
  have hT' := ms_ins_lt hT he
  have h2 := ms_card_ins he hb
  rcases rB_step hg he hb with ⟨k, h⟩ | ⟨k, h⟩
  · refine Or.inr ⟨?_, ?_⟩
    · unfold rmF
      omega
    · cases q : li g (T ||| 2 ^ e)
      · rfl
      · have := (li_iff hg hT').mp q
        omega
  · refine Or.inl ⟨?_, (li_iff hg hT').mpr (by omega), ?_⟩
    · unfold rmF
      omega
    · refine pk_congr fun v hv => ?_
      unfold upN rmF
      rw [kcN_ins he hb]
      by_cases z : v = gH g e
      · subst z
        rw [if_pos rfl, if_pos rfl]
        omega
      · rw [if_neg z, if_neg (fun y => z y.symm), Nat.add_zero]
theorem li_sub {g : GT} (hg : gOK g) {S T : Nat} (hT : T < 2 ^ gE g) (hs : ms_sub S T) (h : li g T = true) : li g S = true :=
  (li_iff hg (ms_sub_lt hs hT)).mpr (mt_fsub (rB_ok hg) hT hs ((li_iff hg hT).mp h))
theorem rmv_n {g : GT} {T : Nat} (h : li g T = false) : rmv g T = zI (-1) := by
  unfold rmv
  rw [h, if_neg (by decide)]
theorem rmv_y {g : GT} {T : Nat} (h : li g T = true) : rmv g T = nI (pk (rmF g T)) := by
  unfold rmv
  rw [if_pos h]
/-- .. of kind 0 -/
theorem fr_step {g : GT} (hg : gOK g) {T e : Nat} (hT : T < 2 ^ gE g) (he : e < gE g) (hb : T.testBit e = false) (hf : fr g T = true) {f : Nat → Nat} (kf : mnl g T f) : fr g (T ||| 2 ^ e) = decide (f (gF g e) ≠ f (gS g e)) := by
  have h1 := (fr_iff hg hT).mp hf
  have hT' := ms_ins_lt hT he
  have h2 := ms_card_ins he hb
  rcases rA_step hg hT he kf with ⟨k, h⟩ | ⟨k, h⟩
  · rw [decide_eq_false (fun z => z k)]
    cases q : fr g (T ||| 2 ^ e)
    · rfl
    · have := (fr_iff hg hT').mp q
      omega
  · rw [decide_eq_true k]
    exact (fr_iff hg hT').mpr (by omega)
theorem plA_ok {g : GT} (hg : gOK g) {m : Nat} {fp frm ft : Nat → Int32} (h0 : m ≠ 0) (hm : m < 2 ^ gE g) (h : invR g m fp frm ft) :
    tzN 14 m < gE g ∧ m = ms_sd m (2 ^ tzN 14 m) ||| 2 ^ tzN 14 m ∧ (ms_sd m (2 ^ tzN 14 m)).testBit (tzN 14 m) = false ∧ plA m < 15 ∧ rowT g (ms_sd m (2 ^ tzN 14 m)) (plA m) fp frm ft := by
  have hm14 : m < 2 ^ 14 := ms_up hm hg.2.2.1
  have ht := tzN_in (tzN_lt hm14 h0)
  have ht2 := tzN_lt hm14 h0
  refine ⟨ms_bit_lt hm ht, (ms_del_ins ht).symm, ms_del_bit _ _, ?_, ?_⟩
  · unfold plA
    split
    · omega
    · have := tzN_le 14 (ms_sd m (2 ^ tzN 14 m))
      omega
  · unfold plA
    by_cases z : ms_sd m (2 ^ tzN 14 m) = 0
    · rw [if_pos z, z]
      exact h.1
    · rw [if_neg z]
      have hA : ms_sd m (2 ^ tzN 14 m) < 2 ^ 14 := ms_sd_lt hm14
      have hq := tzN_in (tzN_lt hA z)
      have hq2 := tzN_lt hA z
      have hlo : ∀ i, i < tzN 14 (ms_sd m (2 ^ tzN 14 m)) → (ms_sd m (2 ^ tzN 14 m)).testBit i = false := fun i hi => tzN_lo (n := 14) hi
      generalize tzN 14 (ms_sd m (2 ^ tzN 14 m)) = q at hq hq2 hlo ⊢
      rw [ms_sd_bit, Bool.and_eq_true, Nat.testBit_two_pow] at hq
      have hne : tzN 14 m ≠ q := fun y => by
        rw [decide_eq_true y] at hq
        exact absurd hq.2 (by decide)
      have hgt : tzN 14 m < q := by
        apply Nat.lt_of_not_le
        intro y
        have : m.testBit q = false := tzN_lo (n := 14) (by omega)
        rw [this] at hq
        cases hq.1
      have e1 : hi m q = ms_sd m (2 ^ tzN 14 m) := by
        apply Nat.eq_of_testBit_eq
        intro i
        rw [hi_bit]
        by_cases y : q ≤ i
        · rw [decide_eq_true y, Bool.true_and, ms_sd_bit, Nat.testBit_two_pow, decide_eq_false (show ¬ tzN 14 m = i by omega)]
          simp
        · rw [decide_eq_false y, Bool.false_and]
          exact (hlo i (by omega)).symm
      have := h.2 q hq2 hq.1 hgt
      rw [e1] at this
      exact this
theorem invR_1 {g : GT} {fp frm ft : Nat → Int32} (h : rowT g 0 14 fp frm ft) : invR g 1 fp frm ft := ⟨h, fun p _ hb hp => by
  have : (1 : Nat).testBit p = false := by
    have h2 : p ≠ 0 := by omega
    rw [show (1 : Nat) = 2 ^ 0 from rfl, Nat.testBit_two_pow, decide_eq_false (fun q => h2 q.symm)]
  rw [this] at hb
  cases hb⟩
/-- behind a leap from m the lowest is higher -/
theorem leap_tz {m : Nat} (h0 : m ≠ 0) (hm : m + 2 ^ tzN 14 m < 2 ^ 14) : tzN 14 m < tzN 14 (m + 2 ^ tzN 14 m) := by
  have hp := Nat.two_pow_pos (tzN 14 m)
  have hm14 : m < 2 ^ 14 := by omega
  have ht := tzN_in (tzN_lt hm14 h0)
  have hb := tzN_in (tzN_lt hm (by omega))
  generalize hs : tzN 14 (m + 2 ^ tzN 14 m) = s at hb
  have hmod := tz_mod (m := m)
  generalize tzN 14 m = t at *
  apply Nat.lt_of_not_le
  intro hst
  have e1 := Nat.div_add_mod m (2 ^ t)
  rw [hmod, Nat.add_zero] at e1
  have e2 : m + 2 ^ t = 2 ^ t * (m / 2 ^ t + 1) := by rw [Nat.mul_add, e1, Nat.mul_one]
  rw [e2, Nat.mul_comm, Nat.testBit_mul_two_pow] at hb
  by_cases y : t ≤ s
  · have : s = t := by omega
    subst this
    rw [decide_eq_true y, Nat.sub_self, Bool.true_and] at hb
    rw [Nat.testBit_eq_decide_div_mod_eq, decide_eq_true_eq] at ht
    rw [Nat.testBit_eq_decide_div_mod_eq, decide_eq_true_eq, Nat.pow_zero, Nat.div_one] at hb
    omega
  · rw [decide_eq_false y] at hb
    cases hb
theorem tabs_1 {g : GT} (hg : gOK g) (fd fw : Nat → Int32) : tabs g 1 (upd fd 0 (nI 0)) (upd fw 0 (nI 0)) := by
  intro k T h
  obtain ⟨h1, h2, h3, -⟩ := bs_some 1 T h
  have : T = 0 := by omega
  subst this
  rw [ms_card_0] at h3
  subst h3
  have hw : wS g 0 = 0 := wZ_0 _ _
  rw [hw]
  exact ⟨upd_eq, upd_eq⟩
theorem sv_1 {g : GT} (hg : gOK g) : mo g 1 = 0 ∧ sW g 1 = 0 ∧ sF g 1 = 1 ∧ nP (co g) 1 = 1 := by
  have h1 := co_0 hg
  have h2 := fr_0 hg
  refine ⟨?_, ?_, ?_, ?_⟩
  · show (if co g 0 = true then max 0 (ms_card 14 0) else 0) = 0
    rw [if_pos h1, ms_card_0]
    rfl
  · show (if fr g 0 = true then max 0 (ms_card 14 0) else 0) = 0
    rw [if_pos h2, ms_card_0]
    rfl
  · show (if fr g 0 = true then (if 0 < ms_card 14 0 then 1 else if ms_card 14 0 = 0 then 0 + 1 else 0) else 0) = 1
    rw [if_pos h2, ms_card_0]
    rfl
  · show 0 + (if co g 0 = true then 1 else 0) = 1
    rw [if_pos h1]
/-- what is noted of a common set -/
theorem tabs_new {g : GT} {m : Nat} {fd fw : Nat → Int32} (h : tabs g m fd fw) (hc : co g m = true) (hq : mo g m < ms_card 14 m ∨ ∀ T, bs g (ms_card 14 m) m = some T → wS g T < wS g m) : tabs g (m + 1) (upd fd (ms_card 14 m) (nI m)) (upd fw (ms_card 14 m) (zI (wS g m))) := by
  intro k T hT
  simp only [bs] at hT
  by_cases z : ms_card 14 m = k
  · subst z
    have hall : ∀ T, bs g (ms_card 14 m) m = some T → wS g T < wS g m := by
      rcases hq with q | q
      · intro T hT
        rw [bs_gt q] at hT
        cases hT
      · exact q
    rw [if_pos ⟨hc, rfl, hall⟩] at hT
    cases hT
    exact ⟨upd_eq, upd_eq⟩
  · rw [if_neg (fun y => z y.2.1)] at hT
    obtain ⟨h1, h2⟩ := h k T hT
    exact ⟨by rw [upd_ne (fun y => z y.symm)]; exact h1, by rw [upd_ne (fun y => z y.symm)]; exact h2⟩
theorem tabs_old {g : GT} {m : Nat} {fd fw : Nat → Int32} (h : tabs g m fd fw) (hq : ¬ co g m = true ∨ ∃ T, bs g (ms_card 14 m) m = some T ∧ ¬ wS g T < wS g m) : tabs g (m + 1) fd fw := by
  intro k T hT
  simp only [bs] at hT
  by_cases z : co g m = true ∧ ms_card 14 m = k ∧ ∀ T, bs g k m = some T → wS g T < wS g m
  · obtain ⟨z1, z2, z3⟩ := z
    rcases hq with q | ⟨T0, q1, q2⟩
    · exact absurd z1 q
    · subst z2
      exact absurd (z3 T0 q1) q2
  · rw [if_neg z] at hT
    exact h k T hT
theorem ni_max {a b : Nat} (ha : a < 2 ^ 31) (hb : b < 2 ^ 31) : (if nI a < nI b then nI b else nI a) = nI (max a b) := by
  by_cases h : a < b
  · rw [if_pos ((nI_ltI ha hb).mpr h), Nat.max_eq_right (Nat.le_of_lt h)]
  · rw [if_neg (fun q => h ((nI_ltI ha hb).mp q)), Nat.max_eq_left (Nat.le_of_not_lt h)]
theorem sv_nf {g : GT} {m : Nat} (hf : fr g m = true) : (if sW g m < ms_card 14 m then (ms_card 14 m, 1) else (sW g m, if ms_card 14 m = sW g m then sF g m + 1 else sF g m)) = (sW g (m + 1), sF g (m + 1)) := by
  simp only [sW, sF]
  rw [if_pos hf, if_pos hf]
  by_cases q : sW g m < ms_card 14 m
  · rw [if_pos q, if_pos q, Nat.max_eq_right (Nat.le_of_lt q)]
  · rw [if_neg q, if_neg q, Nat.max_eq_left (Nat.le_of_not_lt q)]
theorem sv_z {g : GT} (hg : gOK g) {m : Nat} {fd fw : Nat → Int32} (h0 : 0 < m) (hm : m ≤ 2 ^ gE g) (h : tabs g m fd fw) (k : Nat) : ∃ z, (k ≤ mo g m → fw k = zI z) ∧ zOK z ∧ (∀ T, bs g k m = some T → z = wS g T) ∧ (k ≤ mo g m → ∃ T, bs g k m = some T) := by
  by_cases q : k ≤ mo g m
  · obtain ⟨T, hT⟩ := bs_le hg h0 hm q
    have hb := wS_bd hg T
    exact ⟨wS g T, fun _ => (h k T hT).2, ⟨by omega, by omega⟩, fun T' hT' => by rw [hT] at hT'; cases hT'; rfl, fun _ => ⟨T, hT⟩⟩
  · exact ⟨0, fun z => absurd z q, ⟨by decide, by decide⟩, fun T hT => (by rw [bs_gt (by omega)] at hT; cases hT), fun z => absurd z q⟩
theorem sv_no {g : GT} {m : Nat} {fd fw : Nat → Int32} (h : tabs g m fd fw) (hl : li g m = false) : tabs g (m + 1) fd fw ∧ nP (co g) (m + 1) = nP (co g) m ∧ mo g (m + 1) = mo g m := by
  have hc : ¬ co g m = true := by
    unfold co
    rw [hl, Bool.and_false]
    decide
  refine ⟨tabs_old h (Or.inl hc), ?_, ?_⟩
  · simp only [nP]
    rw [if_neg hc]
    rfl
  · simp only [mo]
    rw [if_neg hc]
theorem sv_nc {g : GT} {m : Nat} {fd fw : Nat → Int32} {z : Int} {u : (Nat → Int32) × (Nat → Int32)} (h : tabs g m fd fw) (hf : fr g m = true) (hl : li g m = true) (hz : (∀ T, bs g (ms_card 14 m) m = some T → z = wS g T) ∧ (ms_card 14 m ≤ mo g m → ∃ T, bs g (ms_card 14 m) m = some T))
    (hu : u = if mo g m < ms_card 14 m ∨ z < wS g m then (upd fd (ms_card 14 m) (nI m), upd fw (ms_card 14 m) (zI (wS g m))) else (fd, fw)) : tabs g (m + 1) u.1 u.2 ∧ nP (co g) (m + 1) = nP (co g) m + 1 ∧ mo g (m + 1) = max (mo g m) (ms_card 14 m) := by
  have hc : co g m = true := by
    unfold co
    rw [hf, hl]
    rfl
  refine ⟨?_, ?_, ?_⟩
  · rw [hu]
    by_cases q : mo g m < ms_card 14 m ∨ z < wS g m
    · rw [if_pos q]
      refine tabs_new h hc ?_
      rcases q with q | q
      · exact Or.inl q
      · exact Or.inr fun T hT => by rw [← hz.1 T hT]; exact q
    · rw [if_neg q]
      refine tabs_old h (Or.inr ?_)
      obtain ⟨T, hT⟩ := hz.2 (Nat.le_of_not_lt fun y => q (Or.inl y))
      exact ⟨T, hT, fun y => q (Or.inr (by rw [hz.1 T hT]; exact y))⟩
  · simp only [nP]
    rw [if_pos hc]
  · simp only [mo]
    rw [if_pos hc]
theorem li_f {g : GT} (hg : gOK g) {T e : Nat} (hT : T < 2 ^ gE g) (he : e < gE g) (hb : T.testBit e = false) (h : li g T = false) : li g (T ||| 2 ^ e) = false := by
  cases q : li g (T ||| 2 ^ e)
  · rfl
  · rw [li_sub hg (ms_ins_lt hT he) (ms_sub_ins T e) q] at h
    cases h
theorem en_no {g : GT} {X e : Nat} {fp frm ft : Nat → Int32} (h : fr g X = false) : nI 0 = bI (fr g X) ∧ (fr g X = true → rowT g X e fp frm ft) ∧ (∀ i, i ≠ e → fp i = fp i ∧ frm i = frm i ∧ ft i = ft i) ∧ (fr g X = false → (fp, frm, ft) = (fp, frm, ft)) :=
  ⟨by rw [h]; rfl, fun q => (by rw [h] at q; cases q), fun i _ => ⟨rfl, rfl, rfl⟩, fun _ => rfl⟩
theorem en_yes {g : GT} (hg : gOK g) {T e : Nat} {fp frm ft : Nat → Int32} {f : Nat → Nat} (he : e < gE g) (kf : mnl g T f) (hf : ∀ v, v < 8 → f v < 8) (hf1 : f (gF g e) < 8) (h : fr g (T ||| 2 ^ e) = true) :
    nI 1 = bI (fr g (T ||| 2 ^ e)) ∧ (fr g (T ||| 2 ^ e) = true → rowT g (T ||| 2 ^ e) e (upd fp e (nI (pk (jn (gV g) f (f (gF g e)) (f (gS g e)))))) (upd frm e (rmv g (T ||| 2 ^ e))) (upd ft e (zI (wS g (T ||| 2 ^ e))))) ∧
      (∀ i, i ≠ e → upd fp e (nI (pk (jn (gV g) f (f (gF g e)) (f (gS g e))))) i = fp i ∧ upd frm e (rmv g (T ||| 2 ^ e)) i = frm i ∧ upd ft e (zI (wS g (T ||| 2 ^ e))) i = ft i) ∧
      (fr g (T ||| 2 ^ e) = false → (upd fp e (nI (pk (jn (gV g) f (f (gF g e)) (f (gS g e))))), upd frm e (rmv g (T ||| 2 ^ e)), upd ft e (zI (wS g (T ||| 2 ^ e)))) = (fp, frm, ft)) :=
  ⟨by rw [h]; rfl, fun _ => ⟨⟨_, upd_eq, jn_lt hf hf1, mnl_jn hg he kf⟩, upd_eq, upd_eq, h⟩, fun i hi => ⟨upd_ne hi, upd_ne hi, upd_ne hi⟩, fun q => by rw [h] at q; cases q⟩
theorem row_0 {g : GT} (hg : gOK g) (fp frm ft : Nat → Int32) : rowT g 0 14 (upd fp 14 (nI (pk (lone (gV g))))) (upd frm 14 (nI (pk (fulR g)))) (upd ft 14 (nI 0)) :=
  ⟨⟨_, upd_eq, lone_lt hg.1.2, mnl_lone g⟩, by rw [upd_eq, rmv_0 hg], by rw [upd_eq, show wS g 0 = 0 from wZ_0 _ _]; rfl, fr_0 hg⟩
theorem leap_le {m n : Nat} (h0 : m ≠ 0) (hm : m < 2 ^ n) (hn : n ≤ 14) : m + 2 ^ tzN 14 m ≤ 2 ^ n := by
  have ht := tzN_in (tzN_lt (n := 14) (ms_up hm hn) h0)
  have ht2 := ms_bit_lt hm ht
  have hmod := tz_mod (m := m)
  generalize tzN 14 m = t at *
  have e1 := Nat.div_add_mod m (2 ^ t)
  rw [hmod, Nat.add_zero] at e1
  have e2 : 2 ^ n = 2 ^ t * 2 ^ (n - t) := by rw [← Nat.pow_add]; congr 1; omega
  have e3 : m / 2 ^ t < 2 ^ (n - t) := by
    apply Nat.lt_of_not_le
    intro q
    have := Nat.mul_le_mul_left (2 ^ t) q
    omega
  have e4 := Nat.mul_le_mul_left (2 ^ t) (show m / 2 ^ t + 1 ≤ 2 ^ (n - t) by omega)
  rw [Nat.mul_add, Nat.mul_one] at e4
  omega
/-- no set that the walk leaps over is free -/
theorem leap_sv {g : GT} (hg : gOK g) {m : Nat} (h0 : m ≠ 0) (hm : m < 2 ^ gE g) (hf : fr g m = false) : mo g (m + 2 ^ tzN 14 m) = mo g m ∧ (∀ k, bs g k (m + 2 ^ tzN 14 m) = bs g k m) ∧ sW g (m + 2 ^ tzN 14 m) = sW g m ∧ sF g (m + 2 ^ tzN 14 m) = sF g m ∧ nP (co g) (m + 2 ^ tzN 14 m) = nP (co g) m :=
  sv_skip _ fun s h1 h2 => by
    have hle := leap_le h0 hm hg.2.2.1
    cases q : fr g s
    · rfl
    · rw [fr_sub hg (by omega) (leap_sub tz_mod h1 h2) q] at hf
      cases hf
theorem tabs_skip {g : GT} {m m' : Nat} {fd fw : Nat → Int32} (h : tabs g m fd fw) (e : ∀ k, bs g k m' = bs g k m) : tabs g m' fd fw := fun k T hT => h k T (by rw [← e k]; exact hT)
theorem invR_yes {g : GT} (hg : gOK g) {m : Nat} {fp frm ft fp' frm' ft' : Nat → Int32} (h0 : m ≠ 0) (hm : m < 2 ^ gE g) (h : invR g m fp frm ft)
    (hold : ∀ i, i ≠ tzN 14 m → fp' i = fp i ∧ frm' i = frm i ∧ ft' i = ft i) (hnew : rowT g m (tzN 14 m) fp' frm' ft') (hm' : m + 1 < 2 ^ gE g) : invR g (m + 1) fp' frm' ft' := by
  have hm14 : m < 2 ^ 14 := ms_up hm hg.2.2.1
  have hm14' : m + 2 ^ 0 < 2 ^ 14 := by rw [Nat.pow_zero]; exact ms_up hm' hg.2.2.1
  have ht2 := tzN_lt hm14 h0
  have hlo : ∀ i, i < tzN 14 m → m.testBit i = false := fun i hi => tzN_lo (n := 14) hi
  have hz : hi m (tzN 14 m) = m := hi_tz
  have hnb : ∀ p, tzN 14 (m + 1) < p → (m + 1).testBit p = m.testBit p ∧ hi (m + 1) p = hi m p := fun p hp => by
    have := nxt_bit (j := 0) (Nat.zero_le _) hm14' (p := p) (by rw [Nat.pow_zero]; exact hp)
    rw [Nat.pow_zero] at this
    exact this
  have keep : ∀ T p, p ≠ tzN 14 m → rowT g T p fp frm ft → rowT g T p fp' frm' ft' := by
    intro T p hp hr
    obtain ⟨a1, a2, a3⟩ := hold p hp
    unfold rowT at hr ⊢
    rw [a1, a2, a3]
    exact hr
  refine ⟨keep 0 14 (by omega) h.1, fun p hp hb hlt => ?_⟩
  obtain ⟨b1, b2⟩ := hnb p hlt
  have hall := h.2
  generalize tzN 14 m = t at *
  rw [b1] at hb
  rw [b2]
  by_cases q : p = t
  · rw [q, hz]
    exact hnew
  · have hge : t < p := by
      apply Nat.lt_of_not_le
      intro y
      have : m.testBit p = false := hlo p (by omega)
      rw [this] at hb
      cases hb
    exact keep _ p q (hall p hp hb hge)
theorem invR_no {g : GT} (hg : gOK g) {m : Nat} {fp frm ft : Nat → Int32} (h0 : m ≠ 0) (hm : m < 2 ^ gE g) (h : invR g m fp frm ft) (hm' : m + 2 ^ tzN 14 m < 2 ^ gE g) (hz : tzN 14 m ≠ 0 ∨ True) : invR g (m + 2 ^ tzN 14 m) fp frm ft := by
  have hm14 : m + 2 ^ tzN 14 m < 2 ^ 14 := ms_up hm' hg.2.2.1
  have hl := leap_tz h0 hm14
  have ht2 := tzN_lt (n := 14) (ms_up hm hg.2.2.1) h0
  refine ⟨h.1, fun p hp hb hlt => ?_⟩
  obtain ⟨b1, b2⟩ := nxt_bit (Nat.le_refl _) hm14 hlt
  rw [b1] at hb
  rw [b2]
  exact h.2 p hp hb (by omega)
