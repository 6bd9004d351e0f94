/-! what all sets below m tell -/
def fr (g : GT) (S : Nat) : Bool := decide (rA g S = ms_card 14 S)
def li (g : GT) (S : Nat) : Bool := decide (rB g S = ms_card 14 S)
def co (g : GT) (S : Nat) : Bool := fr g S && li g S
def wZ (w : Nat → Int) : Nat → Nat → Int
  | 0, _ => 0
  | n + 1, S => wZ w n S + (if S.testBit n = true then w n else 0)
def wS (g : GT) (S : Nat) : Int := wZ (gW g) (gE g) S
def nP (P : Nat → Bool) : Nat → Nat
  | 0 => 0
  | m + 1 => nP P m + (if P m = true then 1 else 0)
def mo (g : GT) : Nat → Nat
  | 0 => 0
  | m + 1 => if co g m = true then max (mo g m) (ms_card 14 m) else mo g m
/-- the best common set of k edges below m -/
def bs (g : GT) (k : Nat) : Nat → Option Nat
  | 0 => none
  | m + 1 => if co g m = true ∧ ms_card 14 m = k ∧ (∀ T, bs g k m = some T → wS g T < wS g m) then some m else bs g k m
def sW (g : GT) : Nat → Nat
  | 0 => 0
  | m + 1 => if fr g m = true then max (sW g m) (ms_card 14 m) else sW g m
def sF (g : GT) : Nat → Nat
  | 0 => 0
  | m + 1 => if fr g m = true then (if sW g m < ms_card 14 m then 1 else if ms_card 14 m = sW g m then sF g m + 1 else sF g m) else sF g m
theorem nP_le (P : Nat → Bool) (m : Nat) : nP P m ≤ m := by
  induction m with
  | zero => exact Nat.le_refl 0
  | succ m ih =>
    simp only [nP]
    split <;> omega
theorem nP_congr {P Q : Nat → Bool} {m : Nat} (h : ∀ s, s < m → P s = Q s) : nP P m = nP Q m := by
  induction m with
  | zero => rfl
  | succ m ih =>
    simp only [nP]
    rw [ih (fun s hs => h s (by omega)), h m (by omega)]
theorem nP_0 {P : Nat → Bool} {m : Nat} (h : ∀ s, s < m → P s = false) : nP P m = 0 := by
  induction m with
  | zero => rfl
  | succ m ih =>
    simp only [nP]
    rw [ih (fun s hs => h s (by omega)), h m (by omega), if_neg (by decide)]
theorem sW_up (g : GT) : ∀ m s, s < m → fr g s = true → ms_card 14 s ≤ sW g m := by
  intro m
  induction m with
  | zero => exact fun s hs => by omega
  | succ m ih =>
    intro s hs hf
    simp only [sW]
    by_cases q : s = m
    · subst q
      rw [if_pos hf]
      exact Nat.le_max_right _ _
    · have := ih s (by omega) hf
      split
      · exact Nat.le_trans this (Nat.le_max_left _ _)
      · exact this
theorem sF_is (g : GT) : ∀ m, sF g m = nP (fun s => fr g s && (ms_card 14 s == sW g m)) m := by
  intro m
  induction m with
  | zero => rfl
  | succ m ih =>
    simp only [sF, nP]
    by_cases q : fr g m = true
    · have e1 : sW g (m + 1) = max (sW g m) (ms_card 14 m) := if_pos q
      have e3 : ((fr g m && (ms_card 14 m == sW g (m + 1))) = true) ↔ ms_card 14 m = sW g (m + 1) := by
        rw [q]
        simp
      rw [if_pos q]
      by_cases z : sW g m < ms_card 14 m
      · have e2 : sW g (m + 1) = ms_card 14 m := by omega
        rw [if_pos z, if_pos (e3.mpr e2.symm), e2, nP_0]
        intro s hs
        cases hf : fr g s
        · rfl
        · have := sW_up g m s hs hf
          have : ¬ ms_card 14 s = ms_card 14 m := by omega
          simp [this]
      · have e2 : sW g (m + 1) = sW g m := by omega
        by_cases y : ms_card 14 m = sW g m
        · rw [if_neg z, if_pos y, if_pos (e3.mpr (by omega)), e2, ih]
        · rw [if_neg z, if_neg y, if_neg (fun w => y (by have := e3.mp w; omega)), e2, ih]
          rfl
    · have e1 : sW g (m + 1) = sW g m := if_neg q
      rw [if_neg q, e1, if_neg (fun z => q (by rw [Bool.and_eq_true] at z; exact z.1)), ih]
      rfl
/-! nothing is free from m to m' -/
theorem sv_skip {g : GT} {m : Nat} : ∀ d, (∀ s, m ≤ s → s < m + d → fr g s = false) → mo g (m + d) = mo g m ∧ (∀ k, bs g k (m + d) = bs g k m) ∧ sW g (m + d) = sW g m ∧ sF g (m + d) = sF g m ∧ nP (co g) (m + d) = nP (co g) m := by
  intro d
  induction d with
  | zero => exact fun _ => ⟨rfl, fun _ => rfl, rfl, rfl, rfl⟩
  | succ d ih =>
    intro h
    obtain ⟨h1, h2, h3, h4, h5⟩ := ih (fun s a b => h s a (by omega))
    have hf := h (m + d) (by omega) (by omega)
    have hc : ¬ co g (m + d) = true := by
      unfold co
      rw [hf, Bool.false_and]
      decide
    have hf' : ¬ fr g (m + d) = true := by
      rw [hf]
      decide
    rw [← Nat.add_assoc]
    refine ⟨?_, fun k => ?_, ?_, ?_, ?_⟩
    · simp only [mo]
      rw [if_neg hc, h1]
    · simp only [bs]
      rw [if_neg (fun z => hc z.1), h2]
    · simp only [sW]
      rw [if_neg hf', h3]
    · simp only [sF]
      rw [if_neg hf', h4]
    · simp only [nP]
      rw [if_neg hc, h5]
      rfl
/-! common sets -/
section
variable {g : GT}
theorem c14 (hg : gOK g) {S : Nat} (hS : S < 2 ^ gE g) : ms_card 14 S = ms_card (gE g) S := ms_card_ge hS hg.2.2.1
theorem fr_iff (hg : gOK g) {S : Nat} (hS : S < 2 ^ gE g) : fr g S = true ↔ rA g S = ms_card (gE g) S := by
  unfold fr
  rw [decide_eq_true_eq, c14 hg hS]
theorem li_iff (hg : gOK g) {S : Nat} (hS : S < 2 ^ gE g) : li g S = true ↔ rB g S = ms_card (gE g) S := by
  unfold li
  rw [decide_eq_true_eq, c14 hg hS]
theorem co_iff (hg : gOK g) {S : Nat} (hS : S < 2 ^ gE g) : co g S = true ↔ (rA g S = ms_card (gE g) S ∧ rB g S = ms_card (gE g) S) := by
  unfold co
  rw [Bool.and_eq_true, fr_iff hg hS, li_iff hg hS]
theorem fr_sub (hg : gOK g) {S T : Nat} (hT : T < 2 ^ gE g) (hs : ms_sub S T) (h : fr g T = true) : fr g S = true :=
  (fr_iff hg (ms_sub_lt hs hT)).mpr (mt_fsub (rA_ok hg) hT hs ((fr_iff hg hT).mp h))
theorem co_sub (hg : gOK g) {S T : Nat} (hT : T < 2 ^ gE g) (hs : ms_sub S T) (h : co g T = true) : co g S = true := by
  obtain ⟨h1, h2⟩ := (co_iff hg hT).mp h
  exact (co_iff hg (ms_sub_lt hs hT)).mpr ⟨mt_fsub (rA_ok hg) hT hs h1, mt_fsub (rB_ok hg) hT hs h2⟩
theorem fr_7 (hg : gOK g) {S : Nat} (hS : S < 2 ^ gE g) (h : fr g S = true) : ms_card 14 S < gV g := by
  have h1 := (fr_iff hg hS).mp h
  have h2 := rA_lt hg hS
  rw [c14 hg hS]
  omega
theorem co_fr {S : Nat} (h : co g S = true) : fr g S = true := by
  unfold co at h
  rw [Bool.and_eq_true] at h
  exact h.1
theorem co_0 (hg : gOK g) : co g 0 = true := (co_iff hg (Nat.two_pow_pos _)).mpr ⟨by rw [(rA_ok hg).1, ms_card_0], by rw [(rB_ok hg).1, ms_card_0]⟩
theorem mo_up : ∀ m s, s < m → co g s = true → ms_card 14 s ≤ mo g m := by
  intro m
  induction m with
  | zero => exact fun s hs => by omega
  | succ m ih =>
    intro s hs hf
    simp only [mo]
    by_cases q : s = m
    · subst q
      rw [if_pos hf]
      exact Nat.le_max_right _ _
    · have := ih s (by omega) hf
      split
      · exact Nat.le_trans this (Nat.le_max_left _ _)
      · exact this
theorem mo_at (hg : gOK g) : ∀ m, ∃ s, s ≤ m - 1 ∧ co g s = true ∧ ms_card 14 s = mo g m := by
  intro m
  induction m with
  | zero => exact ⟨0, by omega, co_0 hg, ms_card_0 14⟩
  | succ m ih =>
    obtain ⟨s, h1, h2, h3⟩ := ih
    simp only [mo]
    by_cases q : co g m = true
    · rw [if_pos q]
      rcases Nat.lt_or_ge (mo g m) (ms_card 14 m) with z | z
      · exact ⟨m, by omega, q, by omega⟩
      · exact ⟨s, by omega, h2, by omega⟩
    · rw [if_neg q]
      exact ⟨s, by omega, h2, h3⟩
theorem ms_le_sub {S T : Nat} (h : ms_sub S T) : S ≤ T := by
  have : S ||| T = T := ms_sub_or h
  rw [← this]
  exact Nat.left_le_or
theorem co_down (hg : gOK g) : ∀ (d s : Nat), s < 2 ^ gE g → co g s = true → ∀ k, k + d = ms_card 14 s → ∃ t, t ≤ s ∧ co g t = true ∧ ms_card 14 t = k := by
  intro d
  induction d with
  | zero => exact fun s _ hc k hk => ⟨s, Nat.le_refl s, hc, by omega⟩
  | succ d ih =>
    intro s hs hc k hk
    have hne : s ≠ 0 := fun z => by rw [z, ms_card_0] at hk; omega
    have hb := tzN_in (tzN_lt (n := 14) (ms_up hs hg.2.2.1) hne)
    have ht := tzN_lt (n := 14) (ms_up hs hg.2.2.1) hne
    have h1 := ms_card_del ht hb
    obtain ⟨t, h2, h3, h4⟩ := ih (ms_sd s (2 ^ tzN 14 s)) (ms_sd_lt hs) (co_sub hg hs (ms_sub_sd _ _) hc) k (by omega)
    exact ⟨t, Nat.le_trans h2 (ms_le_sub (ms_sub_sd _ _)), h3, h4⟩
/-- what bs answers is a best one -/
theorem bs_some {k : Nat} : ∀ m T, bs g k m = some T → T < m ∧ co g T = true ∧ ms_card 14 T = k ∧ ∀ s, s < m → co g s = true → ms_card 14 s = k → wS g s ≤ wS g T := by
  intro m
  induction m with
  | zero => intro T h; cases h
  | succ m ih =>
    intro T h
    simp only [bs] at h
    by_cases q : co g m = true ∧ ms_card 14 m = k ∧ (∀ T, bs g k m = some T → wS g T < wS g m)
    · rw [if_pos q] at h
      have : m = T := Option.some.inj h
      subst this
      refine ⟨by omega, q.1, q.2.1, fun s hs hc hk => ?_⟩
      by_cases z : s = m
      · subst z
        exact Int.le_refl _
      · cases hb : bs g k m with
        | none =>
          exfalso
          have key : ∀ j, j ≤ m → s < j → ∃ T, bs g k j = some T := by
            intro j
            induction j with
            | zero => exact fun _ h => by omega
            | succ j ihj =>
              intro hj hsj
              simp only [bs]
              by_cases y : co g j = true ∧ ms_card 14 j = k ∧ (∀ T, bs g k j = some T → wS g T < wS g j)
              · rw [if_pos y]
                exact ⟨j, rfl⟩
              · rw [if_neg y]
                by_cases w : s = j
                · subst w
                  cases hbj : bs g k s with
                  | none => exact absurd ⟨hc, hk, fun T hT => by rw [hbj] at hT; cases hT⟩ y
                  | some T => exact ⟨T, rfl⟩
                · exact ihj (by omega) (by omega)
          obtain ⟨T, hT⟩ := key m (Nat.le_refl m) (by omega)
          rw [hb] at hT
          cases hT
        | some T0 =>
          have h1 := (ih T0 hb).2.2.2 s (by omega) hc hk
          have h2 := q.2.2 T0 hb
          omega
    · rw [if_neg q] at h
      obtain ⟨h1, h2, h3, h4⟩ := ih T h
      refine ⟨by omega, h2, h3, fun s hs hc hk => ?_⟩
      by_cases z : s = m
      · subst z
        apply Int.not_lt.mp
        intro hlt
        exact q ⟨hc, hk, fun T' hT' => by rw [h] at hT'; cases hT'; exact hlt⟩
      · exact h4 s (by omega) hc hk
theorem bs_ex {k : Nat} : ∀ m s, s < m → co g s = true → ms_card 14 s = k → ∃ T, bs g k m = some T := by
  intro m
  induction m with
  | zero => exact fun s h => by omega
  | succ m ih =>
    intro s hs hc hk
    simp only [bs]
    by_cases y : co g m = true ∧ ms_card 14 m = k ∧ (∀ T, bs g k m = some T → wS g T < wS g m)
    · rw [if_pos y]
      exact ⟨m, rfl⟩
    · rw [if_neg y]
      by_cases w : s = m
      · subst w
        cases hbj : bs g k s with
        | none => exact absurd ⟨hc, hk, fun T hT => by rw [hbj] at hT; cases hT⟩ y
        | some T => exact ⟨T, rfl⟩
      · exact ih s (by omega) hc hk
/-- up to the most each size has one, above it none -/
theorem bs_le (hg : gOK g) {m k : Nat} (h0 : 0 < m) (hm : m ≤ 2 ^ gE g) (hk : k ≤ mo g m) : ∃ T, bs g k m = some T := by
  obtain ⟨s, h1, h2, h3⟩ := mo_at hg m
  obtain ⟨t, t1, t2, t3⟩ := co_down hg (mo g m - k) s (by omega) h2 k (by omega)
  exact bs_ex m t (by omega) t2 t3
theorem bs_gt {m k : Nat} (hk : mo g m < k) : bs g k m = none := by
  cases hb : bs g k m with
  | none => rfl
  | some T =>
    obtain ⟨h1, h2, h3, -⟩ := bs_some m T hb
    have := mo_up m T h1 h2
    omega
theorem mo_7 (hg : gOK g) {m : Nat} (h0 : 0 < m) (hm : m ≤ 2 ^ gE g) : mo g m < gV g := by
  obtain ⟨s, h1, h2, h3⟩ := mo_at hg m
  rw [← h3]
  exact fr_7 hg (by omega) (co_fr h2)
theorem sW_7 (hg : gOK g) : ∀ m, m ≤ 2 ^ gE g → sW g m < gV g := by
  intro m
  induction m with
  | zero =>
    intro _
    have := hg.1.1
    show 0 < _
    omega
  | succ m ih =>
    intro hm
    have h1 := ih (by omega)
    simp only [sW]
    split
    · rename_i q
      have := fr_7 hg (by omega) q
      omega
    · exact h1
theorem sF_le : ∀ m, sF g m ≤ m := fun m => by
  rw [sF_is]
  exact nP_le _ m
/-- the widest forests have the rank of all edges -/
theorem sW_all (hg : gOK g) : sW g (2 ^ gE g) = rA g (2 ^ gE g - 1) := by
  obtain ⟨T, h1, h2, h3⟩ := mt_base (rA_ok hg) _ (2 ^ gE g - 1) (ms_full_lt _) (Nat.le_refl _)
  have hT := ms_sub_lt h1 (ms_full_lt (gE g))
  have q1 := sW_up g (2 ^ gE g) T hT ((fr_iff hg hT).mpr h2)
  rw [c14 hg hT] at q1
  have q2 : ∀ m, m ≤ 2 ^ gE g → sW g m ≤ rA g (2 ^ gE g - 1) := by
    intro m
    induction m with
    | zero =>
      intro _
      exact Nat.zero_le _
    | succ m ih =>
      intro hm
      have h1 := ih (by omega)
      simp only [sW]
      split
      · rename_i q
        have hm' : m < 2 ^ gE g := by omega
        have e1 := (fr_iff hg hm').mp q
        have e2 := mt_mono (rA_ok hg) (ms_full_lt (gE g)) (ms_sub_full hm')
        rw [c14 hg hm']
        omega
      · exact h1
  have := q2 _ (Nat.le_refl _)
  omega
/-! weights -/
theorem wZ_ins {w : Nat → Int} {S e n : Nat} (he : e < n) (h : S.testBit e = false) : wZ w n (S ||| 2 ^ e) = wZ w n S + w e := by
  have key : ∀ n, wZ w n (S ||| 2 ^ e) = wZ w n S + (if e < n then w e else 0) := by
    intro n
    induction n with
    | zero => rfl
    | succ n ih =>
      simp only [wZ]
      rw [ih, ms_ins_bit]
      by_cases q : e = n
      · subst q
        rw [decide_eq_true rfl, Bool.or_true, h, if_neg (Nat.lt_irrefl e), if_pos rfl, if_pos (Nat.lt_succ_self e), if_neg (by decide)]
      · rw [decide_eq_false q, Bool.or_false]
        by_cases z : e < n
        · rw [if_pos z, if_pos (show e < n + 1 by omega)]
          omega
        · rw [if_neg z, if_neg (show ¬ e < n + 1 by omega)]
          omega
  rw [key n, if_pos he]
theorem wZ_0 (w : Nat → Int) (n : Nat) : wZ w n 0 = 0 := by
  induction n with
  | zero => rfl
  | succ n ih =>
    simp only [wZ]
    rw [ih, Nat.zero_testBit, if_neg (by decide)]
    rfl
theorem wZ_bd {w : Nat → Int} {n S : Nat} (h : ∀ e, e < n → -9999 ≤ w e ∧ w e ≤ 9999) : -(9999 * (n : Int)) ≤ wZ w n S ∧ wZ w n S ≤ 9999 * (n : Int) := by
  induction n with
  | zero => exact ⟨by show -(9999 * 0) ≤ (0 : Int); omega, by show (0 : Int) ≤ 9999 * 0; omega⟩
  | succ n ih =>
    have h1 := ih (fun e he => h e (by omega))
    have h2 := h n (by omega)
    simp only [wZ]
    split <;> omega
theorem wS_bd (hg : gOK g) (S : Nat) : -139986 ≤ wS g S ∧ wS g S ≤ 139986 := by
  have h1 := wZ_bd (w := gW g) (n := gE g) (S := S) (fun e he => (hg.2.2.2.2 e he).2.2.2)
  have h2 := hg.2.2.1
  unfold wS
  omega
theorem wS_w (hg : gOK g) (S : Nat) : (ms_w (fun e => (gW g e + 9999).toNat) (gE g) S : Int) = wS g S + 9999 * (ms_card (gE g) S : Int) := by
  have key : ∀ n, n ≤ gE g → (ms_w (fun e => (gW g e + 9999).toNat) n S : Int) = wZ (gW g) n S + 9999 * (ms_card n S : Int) := by
    intro n
    induction n with
    | zero => intro _; rfl
    | succ n ih =>
      intro hn
      have h1 := (hg.2.2.2.2 n (by omega)).2.2.2
      simp only [ms_w, wZ, ms_card]
      have h2 := ih (by omega)
      cases hb : S.testBit n
      · simp only [Bool.toNat_false]
        rw [if_neg (by decide), if_neg (by decide)]
        omega
      · simp only [Bool.toNat_true]
        simp only [if_true]
        omega
  exact key _ (Nat.le_refl _)
/-- from k to k + 1 no more is gained than from k - 1 to k -/
theorem bs_concave (hg : gOK g) {k A B I : Nat} (hA : bs g (k - 1) (2 ^ gE g) = some A) (hI : bs g k (2 ^ gE g) = some I) (hB : bs g (k + 1) (2 ^ gE g) = some B) (h0 : 0 < k) : wS g B - wS g I ≤ wS g I - wS g A := by
  obtain ⟨a1, a2, a3, -⟩ := bs_some _ _ hA
  obtain ⟨i1, i2, i3, i4⟩ := bs_some _ _ hI
  obtain ⟨b1, b2, b3, -⟩ := bs_some _ _ hB
  obtain ⟨aa, ab⟩ := (co_iff hg a1).mp a2
  obtain ⟨ia, ib⟩ := (co_iff hg i1).mp i2
  obtain ⟨ba, bb⟩ := (co_iff hg b1).mp b2
  rw [c14 hg a1] at a3
  rw [c14 hg i1] at i3
  rw [c14 hg b1] at b3
  obtain ⟨J, j1, j2, j3, j4, j5⟩ := mt_concave (rA_ok hg) (rB_ok hg) (w := fun e => (gW g e + 9999).toNat) (k := k) a1 b1 i1 aa ab ba bb ia ib (by omega) b3 i3
    (mt_Phi (gE g) (fun S => min (rA g S) k) (fun e => (gW g e + 9999).toNat) 20000 + mt_Phi (gE g) (fun S => min (rB g S) k) (fun _ => 0) 20000) 20000 (fun e => (gW g e + 9999).toNat) (fun _ => 0) 0
    (fun e he => by have := (hg.2.2.2.2 e he).2.2.2; show (gW g e + 9999).toNat < 20000; omega) (fun e he => by decide) (fun e he => rfl) (by omega)
  have q1 := i4 J j1 ((co_iff hg j1).mpr ⟨j2, j3⟩) (by rw [c14 hg j1]; exact j4)
  have wA := wS_w hg A
  have wB := wS_w hg B
  have wI := wS_w hg I
  have wJ := wS_w hg J
  rw [a3] at wA
  rw [b3] at wB
  rw [i3] at wI
  rw [j4] at wJ
  omega
end
/-! steps of the walk through all sets -/
def hi (m p : Nat) : Nat := m / 2 ^ p * 2 ^ p
theorem hi_bit (m p i : Nat) : (hi m p).testBit i = (decide (p ≤ i) && m.testBit i) := by
  unfold hi
  rw [Nat.testBit_mul_two_pow, Nat.testBit_div_two_pow]
  by_cases h : p ≤ i
  · rw [decide_eq_true h, show i - p + p = i by omega]
  · rw [decide_eq_false h, Bool.false_and, Bool.false_and]
theorem hi_tz {m : Nat} : hi m (tzN 14 m) = m := by
  apply Nat.eq_of_testBit_eq
  intro i
  rw [hi_bit]
  by_cases h : tzN 14 m ≤ i
  · rw [decide_eq_true h, Bool.true_and]
  · rw [decide_eq_false h, Bool.false_and, tzN_lo (n := 14) (S := m) (i := i) (by omega)]
/-- without its lowest -/
theorem low_off {m : Nat} (h0 : m ≠ 0) (hm : m < 2 ^ 14) : m &&& (m - 1) = ms_sd m (2 ^ tzN 14 m) := by
  refine (all128 (P := fun m => m ≠ 0 → m &&& (m - 1) = ms_sd m (2 ^ tzN 14 m)) (by decide +kernel) hm) h0
theorem nxt {m j : Nat} (hj : j ≤ tzN 14 m) (hm : m + 2 ^ j < 2 ^ 14) {p : Nat} (hp : tzN 14 (m + 2 ^ j) < p) : j ≤ tzN 14 (m + 2 ^ j) ∧ (m + 2 ^ j) / 2 ^ p = m / 2 ^ p := by
  have h2 := Nat.two_pow_pos j
  have hne : m + 2 ^ j ≠ 0 := by omega
  have hb := tzN_in (tzN_lt hm hne)
  have d1 : 2 ^ j ∣ m := by
    have e : m % 2 ^ j = 0 := by
      apply Nat.eq_of_testBit_eq
      intro i
      rw [Nat.testBit_mod_two_pow, Nat.zero_testBit]
      by_cases q : i < j
      · rw [tzN_lo (n := 14) (S := m) (i := i) (by omega), Bool.and_false]
      · rw [decide_eq_false q, Bool.false_and]
    exact Nat.dvd_of_mod_eq_zero e
  have k1 : j ≤ tzN 14 (m + 2 ^ j) := by
    apply Nat.le_of_not_lt
    intro q
    have e : (m + 2 ^ j) % 2 ^ j = 0 := Nat.mod_eq_zero_of_dvd (Nat.dvd_add d1 (Nat.dvd_refl _))
    have : ((m + 2 ^ j) % 2 ^ j).testBit (tzN 14 (m + 2 ^ j)) = true := by rw [Nat.testBit_mod_two_pow, decide_eq_true q, hb]; rfl
    rw [e, Nat.zero_testBit] at this
    cases this
  refine ⟨k1, ?_⟩
  have k2 : 2 ^ j ≤ (m + 2 ^ j) % 2 ^ p := by
    have h3 : ((m + 2 ^ j) % 2 ^ p).testBit (tzN 14 (m + 2 ^ j)) = true := by rw [Nat.testBit_mod_two_pow, decide_eq_true hp, hb]; rfl
    exact Nat.le_trans (Nat.pow_le_pow_right (by decide) k1) (Nat.ge_two_pow_of_testBit h3)
  have k3 := Nat.div_add_mod (m + 2 ^ j) (2 ^ p)
  have k4 := Nat.mod_lt (m + 2 ^ j) (Nat.two_pow_pos p)
  generalize hQ : (m + 2 ^ j) / 2 ^ p = Q at k3
  have k5 : m = 2 ^ p * Q + ((m + 2 ^ j) % 2 ^ p - 2 ^ j) := by omega
  rw [k5, Nat.mul_add_div (Nat.two_pow_pos p), Nat.div_eq_of_lt (by omega), Nat.add_zero]
theorem nxt_bit {m j : Nat} (hj : j ≤ tzN 14 m) (hm : m + 2 ^ j < 2 ^ 14) {p : Nat} (hp : tzN 14 (m + 2 ^ j) < p) : (m + 2 ^ j).testBit p = m.testBit p ∧ hi (m + 2 ^ j) p = hi m p := by
  obtain ⟨-, h⟩ := nxt hj hm hp
  refine ⟨?_, by unfold hi; rw [h]⟩
  rw [Nat.testBit_eq_decide_div_mod_eq, Nat.testBit_eq_decide_div_mod_eq, h]
/-- the sets that the walk leaps over hold the one that has a ring -/
theorem leap_sub {m s t : Nat} (ht : m % 2 ^ t = 0) (h1 : m ≤ s) (h2 : s < m + 2 ^ t) : ms_sub m s := by
  have e1 : s / 2 ^ t = m / 2 ^ t := by
    have k1 := Nat.div_add_mod m (2 ^ t)
    rw [ht, Nat.add_zero] at k1
    have k2 : s = 2 ^ t * (m / 2 ^ t) + (s - m) := by omega
    rw [k2, Nat.mul_add_div (Nat.two_pow_pos t), Nat.div_eq_of_lt (show s - m < 2 ^ t by omega), Nat.add_zero]
  intro i hib
  by_cases q : t ≤ i
  · have h3 : (m / 2 ^ t).testBit (i - t) = true := by rw [Nat.testBit_div_two_pow, show i - t + t = i by omega]; exact hib
    rw [← e1, Nat.testBit_div_two_pow, show i - t + t = i by omega] at h3
    exact h3
  · have h3 : (m % 2 ^ t).testBit i = true := by rw [Nat.testBit_mod_two_pow, decide_eq_true (show i < t by omega), hib]; rfl
    rw [ht, Nat.zero_testBit] at h3
    cases h3
theorem tz_mod {m : Nat} : m % 2 ^ tzN 14 m = 0 := by
  apply Nat.eq_of_testBit_eq
  intro i
  rw [Nat.testBit_mod_two_pow, Nat.zero_testBit]
  by_cases q : i < tzN 14 m
  · rw [tzN_lo (n := 14) (S := m) q, Bool.and_false]
  · rw [decide_eq_false q, Bool.false_and]
