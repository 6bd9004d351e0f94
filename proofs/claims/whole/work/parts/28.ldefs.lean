/-! steps of the reference's learning -/
theorem co_no {g : GT} {S : Nat} (h : fr g S = false ∨ li g S = false) : ¬ co g S = true := by
  unfold co
  rcases h with h | h
  · rw [h, Bool.false_and]
    decide
  · rw [h, Bool.and_false]
    decide
theorem co_yes {g : GT} {S : Nat} (h1 : fr g S = true) (h2 : li g S = true) : co g S = true := by
  unfold co
  rw [h1, h2]
  rfl
theorem lrF_s {g : GT} {m : Nat} {ff : Nat → Int32} (hm : m < 16384) (h : lrF g m ff) : lrF g (m + 1) (upd (upd ff m (bI (fr g m))) (16384 + m) (bI (li g m))) := by
  intro k S hk hS
  by_cases z : S = m
  · subst z
    rcases (show k = 0 ∨ k = 1 by omega) with rfl | rfl
    · rw [upd_ne (by omega), Nat.mul_zero, Nat.zero_add, upd_eq]
      rfl
    · rw [Nat.mul_one, upd_eq]
      rfl
  · rw [upd_ne (by omega), upd_ne (by omega)]
    exact h k S hk (by omega)
theorem lrF_at0 {g : GT} {m S : Nat} {ff : Nat → Int32} (h : lrF g m ff) (hS : S < m) : ff S = bI (fr g S) := by
  have := h 0 S (by decide) hS
  rw [Nat.mul_zero, Nat.zero_add] at this
  exact this
theorem lrF_at1 {g : GT} {m S : Nat} {ff : Nat → Int32} (h : lrF g m ff) (hS : S < m) : ff (16384 + S) = bI (li g S) := h 1 S (by decide) hS
theorem lrR_at0 {g : GT} {m S : Nat} {f : Nat → Int32} (h : lrR g m f) (hS : S < m) : f S = nI (rA g S) := by
  have := h 0 S (by decide) hS
  rw [Nat.mul_zero, Nat.zero_add] at this
  exact this
theorem lrR_at1 {g : GT} {m S : Nat} {f : Nat → Int32} (h : lrR g m f) (hS : S < m) : f (16384 + S) = nI (rB g S) := h 1 S (by decide) hS
theorem lrR_keep {g : GT} {m kd : Nat} {f f' : Nat → Int32} (hm : m < 16384) (h : lrR g m f) (ho : ∀ i, i ≠ 16384 * kd + m → f' i = f i) : lrR g m f' := fun k S hk hS => by
  rw [ho _ (by omega)]
  exact h k S hk hS
def kdR (g : GT) (m kd : Nat) (f : Nat → Int32) : Prop := ∀ k, k < kd → f (16384 * k + m) = nI (rN g k m)
theorem kdR_0 {g : GT} {m : Nat} {f : Nat → Int32} : kdR g m 0 f := fun k hk => by omega
theorem kdR_s {g : GT} {m kd : Nat} {f f' : Nat → Int32} (h : kdR g m kd f) (ho : ∀ i, i ≠ 16384 * kd + m → f' i = f i) (hv : f' (16384 * kd + m) = nI (rN g kd m)) : kdR g m (kd + 1) f' := fun k hk => by
  by_cases z : k = kd
  · rw [z]
    exact hv
  · rw [ho _ (by omega)]
    exact h k (by omega)
theorem lrR_s {g : GT} {m : Nat} {f : Nat → Int32} (h : lrR g m f) (k2 : kdR g m 2 f) : lrR g (m + 1) f := fun k S hk hS => by
  by_cases z : S = m
  · rw [z]
    exact k2 k hk
  · exact h k S hk (by omega)
theorem bsv_none {o : Option Nat} (hT : ∀ T, o = some T → T < 2 ^ 31) (h : bsv o < 0) : o = none := by
  cases o with
  | none => rfl
  | some T => exact absurd h (nlt0 (hT T rfl))
theorem bsv_some {o : Option Nat} (h : ¬ bsv o < 0) : ∃ T, o = some T := by
  cases o with
  | none => exact absurd (by decide) h
  | some T => exact ⟨T, rfl⟩
theorem mxR_y {r : Nat → Nat} {S e : Nat} (h : S.testBit e = true) : mxR r S (e + 1) = max (mxR r S e) (r (ms_sd S (2 ^ e))) := by
  simp only [mxR]
  rw [if_pos h]
theorem mxR_n {r : Nat → Nat} {S e : Nat} (h : S.testBit e = false) : mxR r S (e + 1) = max (mxR r S e) 0 := by
  simp only [mxR]
  rw [if_neg (by rw [h]; decide)]
theorem fN_f {g : GT} (hg : gOK g) {k S : Nat} (hS : S < 2 ^ gE g) (h : fN g k S = false) : rN g k S ≠ ms_card (gE g) S := fun q => by
  have := (fN_iff hg (k := k) hS).mpr (by rw [q, c14 hg hS])
  rw [h] at this
  cases this
theorem bs_lt {g : GT} {k m T : Nat} (h : bs g k m = some T) : T < m := (bs_some m T h).1
theorem lr_done {g : GT} {m n : Nat} {P : GT → Nat → (Nat → Int32) → Prop} {f : Nat → Int32} (h : P g m f) (e : m = n) : P g n f := by rw [← e]; exact h
