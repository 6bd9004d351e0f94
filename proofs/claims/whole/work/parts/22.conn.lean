/-! labels: how many different ones; the least labelling that joins the ends of a set's edges -/
def vd (f : Nat → Nat) : Nat → Nat
  | 0 => 0
  | n + 1 => vd f n + (if ∃ u, u < n ∧ f u = f n then 0 else 1)
theorem vd_congr {f h : Nat → Nat} {n : Nat} (k : ∀ u v, u < n → v < n → (f u = f v ↔ h u = h v)) : vd f n = vd h n := by
  induction n with
  | zero => rfl
  | succ n ih =>
    simp only [vd]
    rw [ih (fun u v hu hv => k u v (by omega) (by omega))]
    have e1 : (∃ u, u < n ∧ f u = f n) ↔ (∃ u, u < n ∧ h u = h n) :=
      ⟨fun ⟨u, h1, h2⟩ => ⟨u, h1, (k u n (by omega) (by omega)).mp h2⟩, fun ⟨u, h1, h2⟩ => ⟨u, h1, (k u n (by omega) (by omega)).mpr h2⟩⟩
    by_cases q : ∃ u, u < n ∧ f u = f n
    · rw [if_pos q, if_pos (e1.mp q)]
    · rw [if_neg q, if_neg (fun z => q (e1.mpr z))]
theorem vd_le (f : Nat → Nat) (n : Nat) : vd f n ≤ n := by
  induction n with
  | zero => exact Nat.le_refl 0
  | succ n ih =>
    simp only [vd]
    split <;> omega
theorem vd_pos (f : Nat → Nat) {n : Nat} (h : 0 < n) : 0 < vd f n := by
  induction n with
  | zero => omega
  | succ n ih =>
    simp only [vd]
    by_cases q : n = 0
    · subst q
      rw [if_neg (fun ⟨u, hu, _⟩ => by omega)]
      omega
    · have := ih (by omega)
      omega
theorem vd_id {f : Nat → Nat} {n : Nat} (h : ∀ u v, u < n → v < n → f u = f v → u = v) : vd f n = n := by
  induction n with
  | zero => rfl
  | succ n ih =>
    simp only [vd]
    rw [ih (fun u v hu hv => h u v (by omega) (by omega)), if_neg]
    rintro ⟨u, hu, hq⟩
    have := h u n (by omega) (by omega) hq
    omega
theorem vd_jn0 {f : Nat → Nat} {n a b : Nat} (hab : a ≠ b) : ∀ m, m ≤ n → vd f m = vd (jn n f a b) m + (if (∃ u, u < m ∧ f u = a) ∧ (∃ u, u < m ∧ f u = b) then 1 else 0) := by
  intro m
  induction m with
  | zero =>
    intro _
    rw [if_neg (fun ⟨⟨u, hu, _⟩, _⟩ => by omega)]
    rfl
  | succ m ih =>
    intro hm
    have ih := ih (by omega)
    simp only [vd]
    have up : ∀ x, (∃ u, u < m + 1 ∧ f u = x) ↔ ((∃ u, u < m ∧ f u = x) ∨ f m = x) := by
      intro x
      constructor
      · rintro ⟨u, hu, h⟩
        by_cases q : u = m
        · subst q
          exact Or.inr h
        · exact Or.inl ⟨u, by omega, h⟩
      · rintro (⟨u, hu, h⟩ | h)
        · exact ⟨u, by omega, h⟩
        · exact ⟨m, by omega, h⟩
    have jv : ∀ u, u < m + 1 → jn n f a b u = if f u = b then a else f u := by
      intro u hu
      show (if u < n ∧ f u = b then a else f u) = _
      by_cases q : f u = b
      · rw [if_pos ⟨by omega, q⟩, if_pos q]
      · rw [if_neg (fun z => q z.2), if_neg q]
    have e1 : (∃ u, u < m ∧ jn n f a b u = jn n f a b m) ↔ (if f m = a ∨ f m = b then (∃ u, u < m ∧ f u = a) ∨ (∃ u, u < m ∧ f u = b) else ∃ u, u < m ∧ f u = f m) := by
      by_cases q : f m = a ∨ f m = b
      · rw [if_pos q]
        have hm : jn n f a b m = a := by
          rw [jv m (by omega)]
          rcases q with q | q
          · by_cases z : f m = b
            · rw [if_pos z]
            · rw [if_neg z, q]
          · rw [if_pos q]
        rw [hm]
        constructor
        · rintro ⟨u, hu, h⟩
          rw [jv u (by omega)] at h
          by_cases z : f u = b
          · exact Or.inr ⟨u, hu, z⟩
          · rw [if_neg z] at h
            exact Or.inl ⟨u, hu, h⟩
        · rintro (⟨u, hu, h⟩ | ⟨u, hu, h⟩)
          · refine ⟨u, hu, ?_⟩
            rw [jv u (by omega), h]
            by_cases z : a = b
            · rw [if_pos z]
            · rw [if_neg z]
          · refine ⟨u, hu, ?_⟩
            rw [jv u (by omega), if_pos h]
      · rw [if_neg q]
        have hm : jn n f a b m = f m := by rw [jv m (by omega), if_neg (fun z => q (Or.inr z))]
        rw [hm]
        constructor
        · rintro ⟨u, hu, h⟩
          rw [jv u (by omega)] at h
          by_cases z : f u = b
          · rw [if_pos z] at h
            exact absurd (Or.inl h.symm) q
          · rw [if_neg z] at h
            exact ⟨u, hu, h⟩
        · rintro ⟨u, hu, h⟩
          refine ⟨u, hu, ?_⟩
          rw [jv u (by omega), if_neg (fun z => q (Or.inr (by rw [← h]; exact z))), h]
    rw [ih]
    have uA := up a
    have uB := up b
    by_cases q : f m = a
    · rw [if_pos (Or.inl q)] at e1
      have q2 : ¬ f m = b := fun z => hab (by rw [← q, z])
      have e2 : ((∃ u, u < m + 1 ∧ f u = a) ∧ (∃ u, u < m + 1 ∧ f u = b)) ↔ (∃ u, u < m ∧ f u = b) := by
        rw [uA, uB]
        exact ⟨fun z => z.2.elim id (fun y => absurd y q2), fun z => ⟨Or.inr q, Or.inl z⟩⟩
      have e3 : (∃ u, u < m ∧ f u = f m) ↔ (∃ u, u < m ∧ f u = a) := by rw [q]
      by_cases zA : ∃ u, u < m ∧ f u = a
      · by_cases zB : ∃ u, u < m ∧ f u = b
        · rw [if_pos ⟨zA, zB⟩, if_pos (e3.mpr zA), if_pos (e1.mpr (Or.inl zA)), if_pos (e2.mpr zB)]
        · rw [if_neg (fun z => zB z.2), if_pos (e3.mpr zA), if_pos (e1.mpr (Or.inl zA)), if_neg (fun z => zB (e2.mp z))]
      · by_cases zB : ∃ u, u < m ∧ f u = b
        · rw [if_neg (fun z => zA z.1), if_neg (fun z => zA (e3.mp z)), if_pos (e1.mpr (Or.inr zB)), if_pos (e2.mpr zB)]
        · rw [if_neg (fun z => zA z.1), if_neg (fun z => zA (e3.mp z)), if_neg (fun z => (e1.mp z).elim zA zB), if_neg (fun z => zB (e2.mp z))]
    · by_cases q2 : f m = b
      · rw [if_pos (Or.inr q2)] at e1
        have e2 : ((∃ u, u < m + 1 ∧ f u = a) ∧ (∃ u, u < m + 1 ∧ f u = b)) ↔ (∃ u, u < m ∧ f u = a) := by
          rw [uA, uB]
          exact ⟨fun z => z.1.elim id (fun y => absurd y q), fun z => ⟨Or.inl z, Or.inr q2⟩⟩
        have e3 : (∃ u, u < m ∧ f u = f m) ↔ (∃ u, u < m ∧ f u = b) := by rw [q2]
        by_cases zB : ∃ u, u < m ∧ f u = b
        · by_cases zA : ∃ u, u < m ∧ f u = a
          · rw [if_pos ⟨zA, zB⟩, if_pos (e3.mpr zB), if_pos (e1.mpr (Or.inl zA)), if_pos (e2.mpr zA)]
          · rw [if_neg (fun z => zA z.1), if_pos (e3.mpr zB), if_pos (e1.mpr (Or.inr zB)), if_neg (fun z => zA (e2.mp z))]
        · by_cases zA : ∃ u, u < m ∧ f u = a
          · rw [if_neg (fun z => zB z.2), if_neg (fun z => zB (e3.mp z)), if_pos (e1.mpr (Or.inl zA)), if_pos (e2.mpr zA)]
          · rw [if_neg (fun z => zB z.2), if_neg (fun z => zB (e3.mp z)), if_neg (fun z => (e1.mp z).elim zA zB), if_neg (fun z => zA (e2.mp z))]
      · rw [if_neg (fun z => z.elim q q2)] at e1
        have e2 : ((∃ u, u < m + 1 ∧ f u = a) ∧ (∃ u, u < m + 1 ∧ f u = b)) ↔ ((∃ u, u < m ∧ f u = a) ∧ (∃ u, u < m ∧ f u = b)) := by
          rw [uA, uB]
          exact ⟨fun z => ⟨z.1.elim id (fun y => absurd y q), z.2.elim id (fun y => absurd y q2)⟩, fun z => ⟨Or.inl z.1, Or.inl z.2⟩⟩
        by_cases z1 : (∃ u, u < m ∧ f u = a) ∧ (∃ u, u < m ∧ f u = b)
        · by_cases z2 : ∃ u, u < m ∧ f u = f m
          · rw [if_pos z1, if_pos z2, if_pos (e1.mpr z2), if_pos (e2.mpr z1)]
          · rw [if_pos z1, if_neg z2, if_neg (fun z => z2 (e1.mp z)), if_pos (e2.mpr z1)]
        · by_cases z2 : ∃ u, u < m ∧ f u = f m
          · rw [if_neg z1, if_pos z2, if_pos (e1.mpr z2), if_neg (fun z => z1 (e2.mp z))]
          · rw [if_neg z1, if_neg z2, if_neg (fun z => z2 (e1.mp z)), if_neg (fun z => z1 (e2.mp z))]
theorem vd_jn {f : Nat → Nat} {n i j : Nat} (hi : i < n) (hj : j < n) (h : f i ≠ f j) : vd f n = vd (jn n f (f i) (f j)) n + 1 := by
  rw [vd_jn0 (f := f) (n := n) h n (Nat.le_refl n), if_pos ⟨⟨i, hi, rfl⟩, ⟨j, hj, rfl⟩⟩]
/-- h gives both ends of each edge of T the same label -/
def rsp (g : GT) (T : Nat) (h : Nat → Nat) : Prop := ∀ i, i < gE g → T.testBit i = true → h (gF g i) = h (gS g i)
/-- .. and no vertices have the same label that needn't -/
def mnl (g : GT) (T : Nat) (f : Nat → Nat) : Prop := rsp g T f ∧ ∀ h, rsp g T h → ∀ u v, u < gV g → v < gV g → f u = f v → h u = h v
theorem rsp_sub {g : GT} {S T : Nat} {h : Nat → Nat} (hs : ms_sub S T) (k : rsp g T h) : rsp g S h := fun i hi q => k i hi (hs i q)
theorem mnl_ker {g : GT} {T : Nat} {f h : Nat → Nat} (kf : mnl g T f) (kh : mnl g T h) {u v : Nat} (hu : u < gV g) (hv : v < gV g) : f u = f v ↔ h u = h v :=
  ⟨kf.2 h kh.1 u v hu hv, kh.2 f kf.1 u v hu hv⟩
theorem mnl_mono {g : GT} {S T : Nat} {f h : Nat → Nat} (hs : ms_sub S T) (kf : mnl g S f) (kh : mnl g T h) {u v : Nat} (hu : u < gV g) (hv : v < gV g) (q : f u = f v) : h u = h v :=
  kf.2 h (rsp_sub hs kh.1) u v hu hv q
/-- one edge more, which joins two labels -/
theorem mnl_join {g : GT} {T e : Nat} {f f' : Nat → Nat} (hg : gOK g) (he : e < gE g) (kf : mnl g T f)
    (ker : ∀ u v, u < gV g → v < gV g → (f' u = f' v ↔ (f u = f v ∨ ((f u = f (gF g e) ∨ f u = f (gS g e)) ∧ (f v = f (gF g e) ∨ f v = f (gS g e)))))) : mnl g (T ||| 2 ^ e) f' := by
  obtain ⟨he1, he2, -, -, -⟩ := hg.2.2.2.2 e he
  refine ⟨fun i hi hb => ?_, fun h kh u v hu hv q => ?_⟩
  · obtain ⟨hi1, hi2, -, -, -⟩ := hg.2.2.2.2 i hi
    rw [ms_ins_bit, Bool.or_eq_true] at hb
    rcases hb with hb | hb
    · exact (ker _ _ hi1 hi2).mpr (Or.inl (kf.1 i hi hb))
    · have : e = i := of_decide_eq_true hb
      subst this
      exact (ker _ _ hi1 hi2).mpr (Or.inr ⟨Or.inl rfl, Or.inr rfl⟩)
  · have k1 : rsp g T h := rsp_sub (ms_sub_ins T e) kh
    have k2 : h (gF g e) = h (gS g e) := kh e he (by rw [ms_ins_bit, decide_eq_true rfl, Bool.or_true])
    rcases (ker u v hu hv).mp q with q | ⟨q1, q2⟩
    · exact kf.2 h k1 u v hu hv q
    · have a1 : h u = h (gF g e) := by
        rcases q1 with q1 | q1
        · exact kf.2 h k1 u _ hu he1 q1
        · rw [k2]
          exact kf.2 h k1 u _ hu he2 q1
      have a2 : h v = h (gF g e) := by
        rcases q2 with q2 | q2
        · exact kf.2 h k1 v _ hv he1 q2
        · rw [k2]
          exact kf.2 h k1 v _ hv he2 q2
      rw [a1, a2]
theorem mnl_same {g : GT} {T e : Nat} {f : Nat → Nat} (hg : gOK g) (he : e < gE g) (kf : mnl g T f) (q : f (gF g e) = f (gS g e)) : mnl g (T ||| 2 ^ e) f :=
  mnl_join hg he kf fun u v _ _ => ⟨Or.inl, fun z => z.elim id fun ⟨z1, z2⟩ => by
    rw [← q, or_self] at z1 z2
    rw [z1, z2]⟩
/-- b's label becomes a -/
theorem ker_re {f : Nat → Nat} {a b x y : Nat} : ((if x = b then a else x) = (if y = b then a else y)) ↔ (x = y ∨ ((x = a ∨ x = b) ∧ (y = a ∨ y = b))) := by
  by_cases h1 : x = b <;> by_cases h2 : y = b <;> simp only [h1, h2, if_true, if_false] <;> constructor <;> intro h <;> grind
theorem mnl_jn {g : GT} {T e : Nat} {f : Nat → Nat} (hg : gOK g) (he : e < gE g) (kf : mnl g T f) : mnl g (T ||| 2 ^ e) (jn (gV g) f (f (gF g e)) (f (gS g e))) :=
  mnl_join hg he kf fun u v hu hv => by
    have e1 : ∀ x, x < gV g → jn (gV g) f (f (gF g e)) (f (gS g e)) x = if f x = f (gS g e) then f (gF g e) else f x := by
      intro x hx
      show (if x < gV g ∧ f x = f (gS g e) then f (gF g e) else f x) = _
      by_cases q : f x = f (gS g e)
      · rw [if_pos ⟨hx, q⟩, if_pos q]
      · rw [if_neg (fun z => q z.2), if_neg q]
    rw [e1 u hu, e1 v hv]
    exact ker_re (f := f)
theorem mnl_0 {g : GT} {f : Nat → Nat} (h : ∀ u v, u < gV g → v < gV g → f u = f v → u = v) : mnl g 0 f :=
  ⟨fun i _ hb => (by rw [Nat.zero_testBit] at hb; cases hb), fun k _ u v hu hv q => (by have e := h u v hu hv q; subst e; rfl)⟩
theorem mnl_lone (g : GT) : mnl g 0 (lone (gV g)) := mnl_0 fun u v hu hv q => by
  have e1 : ∀ x, x < gV g → lone (gV g) x = x := fun x hx => if_pos hx
  rw [e1 u hu, e1 v hv] at q
  exact q
theorem labA_mnl {g : GT} (hg : gOK g) (S : Nat) : ∀ e, e ≤ gE g → mnl g (S % 2 ^ e) (labA g S e) := by
  intro e
  induction e with
  | zero =>
    intro _
    rw [Nat.pow_zero, Nat.mod_one]
    exact mnl_lone g
  | succ e ih =>
    intro he
    have ih := ih (by omega)
    cases hb : S.testBit e
    · rw [ms_lo_out hb, labA_n (Or.inl hb)]
      exact ih
    · rw [ms_lo_in hb]
      by_cases q : labA g S e (gF g e) = labA g S e (gS g e)
      · rw [labA_n (Or.inr q)]
        exact mnl_same hg (by omega) ih q
      · rw [labA_y hb q]
        exact mnl_jn hg (by omega) ih
theorem cntA_vd {g : GT} (hg : gOK g) (S : Nat) : ∀ e, e ≤ gE g → cntA g S e + vd (labA g S e) (gV g) = gV g := by
  intro e
  induction e with
  | zero =>
    intro _
    have : vd (labA g S 0) (gV g) = gV g := vd_id fun u v hu hv q => by
      have e1 : ∀ x, x < gV g → lone (gV g) x = x := fun x hx => if_pos hx
      have q : lone (gV g) u = lone (gV g) v := q
      rw [e1 u hu, e1 v hv] at q
      exact q
    rw [this]
    show 0 + _ = _
    omega
  | succ e ih =>
    intro he
    have ih := ih (by omega)
    obtain ⟨he1, he2, -, -, -⟩ := hg.2.2.2.2 e (by omega)
    by_cases q : S.testBit e = true ∧ labA g S e (gF g e) ≠ labA g S e (gS g e)
    · rw [labA_y q.1 q.2, cntA_y q.1 q.2]
      have := vd_jn he1 he2 q.2
      omega
    · have q : S.testBit e = false ∨ labA g S e (gF g e) = labA g S e (gS g e) := by
        cases hb : S.testBit e
        · exact Or.inl rfl
        · exact Or.inr (Decidable.not_not.mp fun z => q ⟨hb, z⟩)
      rw [labA_n q, cntA_n q]
      exact ih
theorem rA_lab {g : GT} (hg : gOK g) {S : Nat} (hS : S < 2 ^ gE g) : mnl g S (labA g S (gE g)) := by
  have := labA_mnl hg S (gE g) (Nat.le_refl _)
  rw [Nat.mod_eq_of_lt hS] at this
  exact this
theorem rA_vd {g : GT} (hg : gOK g) {S : Nat} (hS : S < 2 ^ gE g) {f : Nat → Nat} (kf : mnl g S f) : rA g S + vd f (gV g) = gV g := by
  have h1 := cntA_vd hg S (gE g) (Nat.le_refl _)
  rw [vd_congr (f := f) (h := labA g S (gE g)) fun u v hu hv => mnl_ker kf (rA_lab hg hS) hu hv]
  exact h1
theorem rA_lt {g : GT} (hg : gOK g) {S : Nat} (hS : S < 2 ^ gE g) : rA g S < gV g := by
  have h1 := rA_vd hg hS (rA_lab hg hS)
  have h2 := vd_pos (labA g S (gE g)) (n := gV g) (by have := hg.1.1; omega)
  omega
theorem rA_step {g : GT} (hg : gOK g) {S e : Nat} (hS : S < 2 ^ gE g) (he : e < gE g) {f : Nat → Nat} (kf : mnl g S f) : (f (gF g e) = f (gS g e) ∧ rA g (S ||| 2 ^ e) = rA g S) ∨ (f (gF g e) ≠ f (gS g e) ∧ rA g (S ||| 2 ^ e) = rA g S + 1) := by
  have h1 := rA_vd hg hS kf
  have hS' := ms_ins_lt hS he
  obtain ⟨he1, he2, -, -, -⟩ := hg.2.2.2.2 e he
  by_cases q : f (gF g e) = f (gS g e)
  · have h2 := rA_vd hg hS' (mnl_same hg he kf q)
    exact Or.inl ⟨q, by omega⟩
  · have h2 := rA_vd hg hS' (mnl_jn hg he kf)
    have h3 := vd_jn he1 he2 q
    exact Or.inr ⟨q, by omega⟩
theorem cntA_0 (g : GT) : ∀ e, cntA g 0 e = 0
  | 0 => rfl
  | e + 1 => by rw [cntA_n (Or.inl (Nat.zero_testBit e))]; exact cntA_0 g e
theorem rA_ok {g : GT} (hg : gOK g) : mt_ok (gE g) (rA g) := by
  refine ⟨cntA_0 g _, fun S e hS he => ?_, fun S T e hT he hs hr => ?_⟩
  · rcases rA_step hg hS he (rA_lab hg hS) with h | h
    · exact Or.inl h.2
    · exact Or.inr h.2
  · have hS := ms_sub_lt hs hT
    obtain ⟨he1, he2, -, -, -⟩ := hg.2.2.2.2 e he
    rcases rA_step hg hS he (rA_lab hg hS) with h | h
    · rcases rA_step hg hT he (rA_lab hg hT) with k | k
      · exact k.2
      · exact absurd (mnl_mono hs (rA_lab hg hS) (rA_lab hg hT) he1 he2 h.1) k.1
    · omega
/-! of each colour how many -/
def kcN (g : GT) (S c : Nat) : Nat → Nat
  | 0 => 0
  | e + 1 => kcN g S c e + (if S.testBit e = true ∧ gH g e = c then 1 else 0)
theorem kcN_y {g : GT} {S e : Nat} (h : S.testBit e = true) : kcN g S (gH g e) (e + 1) = kcN g S (gH g e) e + 1 := by
  show kcN g S (gH g e) e + (if S.testBit e = true ∧ gH g e = gH g e then 1 else 0) = _
  rw [if_pos ⟨h, rfl⟩]
theorem kcN_n {g : GT} {S c e : Nat} (h : S.testBit e = false ∨ gH g e ≠ c) : kcN g S c (e + 1) = kcN g S c e := by
  simp only [kcN]
  rw [if_neg, Nat.add_zero]
  rintro ⟨q1, q2⟩
  rcases h with h | h
  · rw [h] at q1
    cases q1
  · exact h q2
theorem romB_kc (g : GT) (S : Nat) : ∀ e, ∀ c, romB g S e c = fulR g c - kcN g S c e := by
  intro e
  induction e with
  | zero => exact fun c => rfl
  | succ e ih =>
    intro c
    by_cases q : S.testBit e = true ∧ 0 < romB g S e (gH g e)
    · rw [romB_y q.1 q.2]
      unfold upN
      by_cases z : c = gH g e
      · subst z
        rw [if_pos rfl, kcN_y q.1, ih]
        omega
      · rw [if_neg z, kcN_n (Or.inr (fun y => z y.symm)), ih]
    · have q : S.testBit e = false ∨ ¬ 0 < romB g S e (gH g e) := by
        cases hb : S.testBit e
        · exact Or.inl rfl
        · exact Or.inr fun z => q ⟨hb, z⟩
      rw [romB_n q, ih]
      by_cases z : gH g e = c
      · rcases q with q | q
        · rw [kcN_n (Or.inl q)]
        · cases hb : S.testBit e
          · rw [kcN_n (Or.inl hb)]
          · subst z
            rw [kcN_y hb]
            rw [ih] at q
            omega
      · rw [kcN_n (Or.inr z)]
theorem cntB_kc {g : GT} (hg : gOK g) (S : Nat) : ∀ e, e ≤ gE g → cntB g S e = ms_sum (fun c => min (kcN g S c e) (fulR g c)) 6 := by
  intro e
  induction e with
  | zero =>
    intro _
    show 0 = _
    rw [ms_sum_congr (g := fun _ => 0) (fun c _ => by show min 0 _ = 0; omega)]
    rfl
  | succ e ih =>
    intro he
    have ih := ih (by omega)
    obtain ⟨-, -, he3, -, -⟩ := hg.2.2.2.2 e (by omega)
    have hC := hg.2.1
    have one := ms_sum_one (f := fun c => min (kcN g S c (e + 1)) (fulR g c)) (g := fun c => min (kcN g S c e) (fulR g c)) (n := 6) (k := gH g e) (by omega) (fun c _ hc => by
      show min (kcN g S c (e + 1)) _ = min (kcN g S c e) _
      rw [kcN_n (Or.inr (fun y => hc y.symm))])
    have one : ms_sum (fun c => min (kcN g S c (e + 1)) (fulR g c)) 6 + min (kcN g S (gH g e) e) (fulR g (gH g e)) = ms_sum (fun c => min (kcN g S c e) (fulR g c)) 6 + min (kcN g S (gH g e) (e + 1)) (fulR g (gH g e)) := one
    have hrm := romB_kc g S e (gH g e)
    cases hb : S.testBit e
    · rw [kcN_n (Or.inl hb)] at one
      rw [cntB_n (Or.inl hb)]
      omega
    · rw [kcN_y hb] at one
      by_cases q : 0 < romB g S e (gH g e)
      · rw [cntB_y hb q]
        omega
      · rw [cntB_n (Or.inr q)]
        omega
theorem kcN_ins {g : GT} {S c e n : Nat} (he : e < n) (h : S.testBit e = false) : kcN g (S ||| 2 ^ e) c n = kcN g S c n + (if gH g e = c then 1 else 0) := by
  have key : ∀ n, kcN g (S ||| 2 ^ e) c n = kcN g S c n + (if e < n ∧ gH g e = c then 1 else 0) := by
    intro n
    induction n with
    | zero => rfl
    | succ n ih =>
      simp only [kcN]
      rw [ih, ms_ins_bit]
      by_cases q : e = n
      · subst q
        by_cases z : gH g e = c <;> simp [z, h]
      · rw [decide_eq_false q, Bool.or_false]
        have e9 : (if e < n + 1 ∧ gH g e = c then 1 else 0) = (if e < n ∧ gH g e = c then 1 else 0) := by
          by_cases z : e < n ∧ gH g e = c
          · rw [if_pos z, if_pos ⟨by omega, z.2⟩]
          · rw [if_neg z, if_neg (fun y => z ⟨by omega, y.2⟩)]
        rw [e9, Nat.add_right_comm]
  rw [key n]
  by_cases z : gH g e = c
  · rw [if_pos ⟨he, z⟩, if_pos z]
  · rw [if_neg (fun y => z y.2), if_neg z]
theorem kcN_mono {g : GT} {S T c : Nat} (hs : ms_sub S T) : ∀ n, kcN g S c n ≤ kcN g T c n
  | 0 => Nat.le_refl 0
  | n + 1 => by
    have := kcN_mono (g := g) (c := c) hs n
    simp only [kcN]
    by_cases q : S.testBit n = true ∧ gH g n = c
    · rw [if_pos q, if_pos ⟨hs n q.1, q.2⟩]
      omega
    · rw [if_neg q]
      omega
theorem rB_kc {g : GT} (hg : gOK g) (S : Nat) : rB g S = ms_sum (fun c => min (kcN g S c (gE g)) (fulR g c)) 6 := cntB_kc hg S _ (Nat.le_refl _)
theorem rB_step {g : GT} (hg : gOK g) {S e : Nat} (he : e < gE g) (hb : S.testBit e = false) : (fulR g (gH g e) ≤ kcN g S (gH g e) (gE g) ∧ rB g (S ||| 2 ^ e) = rB g S) ∨ (kcN g S (gH g e) (gE g) < fulR g (gH g e) ∧ rB g (S ||| 2 ^ e) = rB g S + 1) := by
  obtain ⟨-, -, he3, -, -⟩ := hg.2.2.2.2 e he
  have hC := hg.2.1
  rw [rB_kc hg, rB_kc hg]
  have one := ms_sum_one (f := fun c => min (kcN g (S ||| 2 ^ e) c (gE g)) (fulR g c)) (g := fun c => min (kcN g S c (gE g)) (fulR g c)) (n := 6) (k := gH g e) (by omega) (fun c _ hc => by
    show min (kcN g (S ||| 2 ^ e) c (gE g)) _ = min (kcN g S c (gE g)) _
    rw [kcN_ins he hb, if_neg (fun y => hc y.symm), Nat.add_zero])
  have one : ms_sum (fun c => min (kcN g (S ||| 2 ^ e) c (gE g)) (fulR g c)) 6 + min (kcN g S (gH g e) (gE g)) (fulR g (gH g e)) = ms_sum (fun c => min (kcN g S c (gE g)) (fulR g c)) 6 + min (kcN g (S ||| 2 ^ e) (gH g e) (gE g)) (fulR g (gH g e)) := one
  rw [kcN_ins he hb, if_pos rfl] at one
  rcases Nat.lt_or_ge (kcN g S (gH g e) (gE g)) (fulR g (gH g e)) with q | q
  · exact Or.inr ⟨q, by omega⟩
  · exact Or.inl ⟨q, by omega⟩
theorem cntB_0 (g : GT) : ∀ e, cntB g 0 e = 0
  | 0 => rfl
  | e + 1 => by rw [cntB_n (Or.inl (Nat.zero_testBit e))]; exact cntB_0 g e
theorem rB_ok {g : GT} (hg : gOK g) : mt_ok (gE g) (rB g) := by
  refine ⟨cntB_0 g _, fun S e hS he => ?_, fun S T e hT he hs hr => ?_⟩
  · cases hb : S.testBit e
    · rcases rB_step hg he hb with h | h
      · exact Or.inl h.2
      · exact Or.inr h.2
    · exact Or.inl (by rw [ms_ins_in hb])
  · cases hb : T.testBit e
    · have hbS : S.testBit e = false := by
        cases q : S.testBit e
        · rfl
        · rw [hs e q] at hb
          cases hb
      rcases rB_step hg he hbS with h | h
      · rcases rB_step hg he hb with k | k
        · exact k.2
        · have := kcN_mono (g := g) (c := gH g e) hs (gE g)
          omega
      · omega
    · rw [ms_ins_in hb]
