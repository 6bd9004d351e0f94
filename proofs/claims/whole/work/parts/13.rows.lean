/-! what the tables say at any state of a run -/
def nw_ws : List Cond := [.methodLinkNest RX0 46 yX5_within RX5, .methodLinkNest RX0 54 yX5_withCell RX5, .methodLinkNest RX0 58 yX5_cell RX5, .methodLinkNest RX2 23 yX5_hasBit RX5, .methodLinkNest RX3 23 yX5_hasBit RX5, .methodLinkNest RX4 38 yX5_within RX5, .declares ⟨"ColourForests$Kind", "rankOf", "(I)I"⟩]
def NW (U : State) : Prop := ∀ w ∈ nw_ws, va_Nw w U
theorem NW_warm {s U : State} (hW : s.WarmedH U.vm) (h : NW s) : NW U := by
  intro w hw
  have h9 := h w hw
  simp only [nw_ws, List.mem_cons, List.not_mem_nil, or_false] at hw
  rcases hw with rfl | rfl | rfl | rfl | rfl | rfl | rfl <;> first | exact va_Nw.warmM hW h9 | exact va_Nw.warmD hW h9
theorem NW_same {u U : State} (hvm : u.vm = U.vm) (h : NW u) : NW U := by
  intro w hw
  have h9 := h w hw
  simp only [nw_ws, List.mem_cons, List.not_mem_nil, or_false] at hw
  rcases hw with rfl | rfl | rfl | rfl | rfl | rfl | rfl <;> exact va_Nw.same rfl hvm h9
abbrev TY (cy : Nat → ClassId) : List (ClassId × FieldType) := [(cy 0, .int), (cy 1, .boolean), (cy 2, .long)]
def KN (D : va_G) (cy : Nat → ClassId) (U : State) : Prop := va_K D vwCl (TY cy) U ∧ NW U
theorem KN_warm {D : va_G} {cy : Nat → ClassId} {s U : State} (hW : s.WarmedH U.vm) (h : KN D cy s) : KN D cy U := ⟨va_K.moved hW.alike h.1, NW_warm hW h.2⟩
theorem KN_call {D : va_G} {cy : Nat → ClassId} {U : State} {g : JFrame} {mk : MethodId} {a : Array Value} (h : KN D cy U) : KN D cy (U.calling g mk a) := ⟨va_K.moved (u := U) (U := U.calling g mk a) (Vm.Alike.refl U.vm) h.1, NW_same (u := U) (U := U.calling g mk a) rfl h.2⟩
/-! contracts: a method that only reads; a method that writes in its world -/
def PU (l : Launch) (y : MethodName) (ws : List Cond) (rm : Room) (D : va_G) (cy : Nat → ClassId) (av : List Value) (w0 : va_W) (r : Int32) : Prop :=
  Met l y ws rm (va_Pc av (fun U => KN D cy U ∧ va_P D vwCl w0 U.heap)) (va_Qi (fun (x : Int32) (_ : Unit) => x = r) (fun _ _ => True) (fun _ => False)) 0 0 (fun _ => False)
def inW (w : va_W) (q : Nat) : Prop := q ∈ w.map Prod.fst
def WV {S : Type} (l : Launch) (y : MethodName) (ws : List Cond) (rm : Room) (D : va_G) (cy : Nat → ClassId) (av : List Value) (w0 : va_W) (post : S → Prop) (w1 : S → va_W) : Prop :=
  Met l y ws rm (va_Pc av (fun U => (KN D cy U ∧ va_P D vwCl w0 U.heap) ∧ va_D (fun _ => True) w0)) (va_Qv post (fun u t => va_P D vwCl (w1 u) t.heap) (inW w0)) 0 0 (inW w0)
def WI {S : Type} (l : Launch) (y : MethodName) (ws : List Cond) (rm : Room) (D : va_G) (cy : Nat → ClassId) (av : List Value) (w0 : va_W) (post : Int32 → S → Prop) (w1 : S → va_W) : Prop :=
  Met l y ws rm (va_Pc av (fun U => (KN D cy U ∧ va_P D vwCl w0 U.heap) ∧ va_D (fun _ => True) w0)) (va_Qi post (fun u t => va_P D vwCl (w1 u) t.heap) (inW w0)) 0 0 (inW w0)
theorem PU_blind {D : va_G} {cy : Nat → ClassId} {av : List Value} {w0 : va_W} : FrameBlind (va_Pc av (fun U => KN D cy U ∧ va_P D vwCl w0 U.heap)) := fun _ _ _ _ q => ⟨q.1, KN_call q.2.1, q.2.2⟩
theorem PU_preV {D : va_G} {cy : Nat → ClassId} {s : State} {H : Heap} {b : Addr} {As : List Value} {ws w0 : va_W} {ci q0 : Nat} {q : vw_C} {fs : List Value} (hK : KN D cy s) (hP : va_P D vwCl ws H) (q0' : Nat := q0) (hc : vwCl[ci]? = some q) (he : ws[q0]? = some (b, .inr (ci, fs))) (is : List Nat) (hs : is.filterMap (fun i => ws[i]?) = w0) :
    PreV s H q.1 b (va_Pc (.ref b :: As) (fun U => KN D cy U ∧ va_P D vwCl w0 U.heap)) As :=
  ⟨PU_blind, va_recv hK.1 hP hc he, fun _ hU hW => ⟨rfl, KN_warm hW hK, by rw [hU]; exact hP.sub is hs⟩⟩
theorem PU_preS {D : va_G} {cy : Nat → ClassId} {s : State} {H : Heap} {As : List Value} {ws w0 : va_W} (hK : KN D cy s) (hP : va_P D vwCl ws H) (is : List Nat) (hs : is.filterMap (fun i => ws[i]?) = w0) :
    PreS s H (va_Pc As (fun U => KN D cy U ∧ va_P D vwCl w0 U.heap)) As :=
  ⟨PU_blind, fun _ hU hW => ⟨rfl, KN_warm hW hK, by rw [hU]; exact hP.sub is hs⟩⟩
theorem WR_blind {D : va_G} {cy : Nat → ClassId} {av : List Value} {w0 : va_W} : FrameBlind (va_Pc av (fun U => (KN D cy U ∧ va_P D vwCl w0 U.heap) ∧ va_D (fun _ => True) w0)) := fun _ _ _ _ q => ⟨q.1, ⟨KN_call q.2.1.1, q.2.1.2⟩, q.2.2⟩
theorem WR_preV {D : va_G} {cy : Nat → ClassId} {s : State} {H : Heap} {A : Nat → Prop} {b : Addr} {As : List Value} {ws w0 : va_W} {ci q0 : Nat} {q : vw_C} {fs : List Value} (hK : KN D cy s) (hP : va_P D vwCl ws H) (hD : va_D A ws) (hc : vwCl[ci]? = some q) (he : ws[q0]? = some (b, .inr (ci, fs))) (is : List Nat) (hn : va_nd is = true) (hs : is.map (fun i => ws[i]?) = w0.map some) (hs' : is.filterMap (fun i => ws[i]?) = w0) :
    PreV s H q.1 b (va_Pc (.ref b :: As) (fun U => (KN D cy U ∧ va_P D vwCl w0 U.heap) ∧ va_D (fun _ => True) w0)) As :=
  ⟨WR_blind, va_recv hK.1 hP hc he, fun _ hU hW => ⟨rfl, ⟨KN_warm hW hK, by rw [hU]; exact hP.sub is hs'⟩, (hD.sub is hn hs).weaken (fun _ _ _ _ => trivial)⟩⟩
theorem WR_preS {D : va_G} {cy : Nat → ClassId} {s : State} {H : Heap} {A : Nat → Prop} {As : List Value} {ws w0 : va_W} (hK : KN D cy s) (hP : va_P D vwCl ws H) (hD : va_D A ws) (is : List Nat) (hn : va_nd is = true) (hs : is.map (fun i => ws[i]?) = w0.map some) (hs' : is.filterMap (fun i => ws[i]?) = w0) :
    PreS s H (va_Pc As (fun U => (KN D cy U ∧ va_P D vwCl w0 U.heap) ∧ va_D (fun _ => True) w0)) As :=
  ⟨WR_blind, fun _ hU hW => ⟨rfl, ⟨KN_warm hW hK, by rw [hU]; exact hP.sub is hs'⟩, (hD.sub is hn hs).weaken (fun _ _ _ _ => trivial)⟩⟩
/-! what a callee changed, put back into the caller's world -/
def putW : va_W → List Nat → va_W → va_W
  | ws, i :: is, x :: xs => putW (ws.set i x) is xs
  | ws, _, _ => ws
theorem putW_at {D : va_G} {cl : List vw_C} {H1 : Heap} : ∀ (is : List Nat) (ws w1 : va_W), is.length = w1.length → (∀ q ∈ w1, va_at D cl q H1) → (∀ (k : Nat) (q : Nat × va_E), ws[k]? = some q → k ∈ is ∨ va_at D cl q H1) → va_P D cl (putW ws is w1) H1 := by
  intro is
  induction is with
  | nil =>
    intro ws w1 _ _ h3 k q hq
    have hq' : ws[k]? = some q := by cases w1 <;> exact hq
    rcases h3 k q hq' with h | h
    · cases h
    · exact h
  | cons i is ih =>
    intro ws w1 h1 h2 h3
    cases w1 with
    | nil => simp at h1
    | cons x xs =>
      refine ih (ws.set i x) xs (by simpa using h1) (fun q hq => h2 q (List.mem_cons_of_mem _ hq)) (fun k q hq => ?_)
      by_cases hk : i = k
      · subst hk
        rw [List.getElem?_set] at hq
        split at hq
        · split at hq
          · cases hq
            exact Or.inr (h2 x List.mem_cons_self)
          · cases hq
        · rename_i hne
          exact absurd rfl hne
      · rw [List.getElem?_set_ne hk] at hq
        rcases h3 k q hq with h | h
        · rcases List.mem_cons.mp h with e | e
          · exact absurd e.symm hk
          · exact Or.inl e
        · exact Or.inr h
theorem va_D_same {A : Nat → Prop} {ws ws' : va_W} (h : ws'.map Prod.fst = ws.map Prod.fst) (hD : va_D A ws) : va_D A ws' := by
  have key : ∀ (k : Nat) (q : Nat × va_E), ws'[k]? = some q → ∃ e, ws[k]? = some (q.1, e) := by
    intro k q hq
    have h1 : (ws'.map Prod.fst)[k]? = some q.1 := by rw [List.getElem?_map, hq]; rfl
    rw [h, List.getElem?_map] at h1
    cases hw : ws[k]? with
    | none => rw [hw] at h1; cases h1
    | some x =>
      rw [hw] at h1
      have h2 : x.1 = q.1 := Option.some.inj h1
      exact ⟨x.2, by rw [← h2]⟩
  refine ⟨fun i j a b ha hb hab => ?_, fun k q hk => ?_⟩
  · obtain ⟨e1, h1⟩ := key i a ha
    obtain ⟨e2, h2⟩ := key j b hb
    exact hD.1 i j _ _ h1 h2 hab
  · obtain ⟨e1, h1⟩ := key k q hk
    exact hD.2 k (q.1, e1) h1
theorem inW_of {w : va_W} {k : Nat} {q : Nat × va_E} (h : w[k]? = some q) : inW w q.1 := List.mem_map.mpr ⟨q, List.mem_of_getElem? h, rfl⟩
theorem inW_self {A : Nat → Prop} {w : va_W} (h : va_D A w) : va_D (inW w) w := ⟨h.1, fun _ _ hk => inW_of hk⟩
theorem inW_up {A0 : Nat → Prop} {ws w0 : va_W} (hD : va_D A0 ws) (is : List Nat) (hi : is.map (fun i => ws[i]?) = w0.map some) : ∀ q, inW w0 q → A0 q := by
  intro q hq
  obtain ⟨x, hx, rfl⟩ := List.mem_map.mp hq
  obtain ⟨k, hk, hk2⟩ := List.mem_iff_getElem.mp hx
  have h1 : (is.map (fun i => ws[i]?))[k]? = some (some x) := by rw [hi, List.getElem?_map, List.getElem?_eq_getElem hk, hk2]; rfl
  rw [List.getElem?_map] at h1
  cases hj : is[k]? with
  | none => rw [hj] at h1; cases h1
  | some i =>
    rw [hj] at h1
    exact hD.2 i x (Option.some.inj h1)
theorem putW_join {D : va_G} {A0 : Nat → Prop} {ws w0 w1 : va_W} {H H1 : Heap} (hP : va_P D vwCl ws H) (hD : va_D A0 ws) (is : List Nat) (hi : is.map (fun i => ws[i]?) = w0.map some) (hlen : is.length = w1.length) (hk : ∀ q : Nat, q < H.size → ¬ inW w0 q → H1[q]? = H[q]?) (hP1 : va_P D vwCl w1 H1) : va_P D vwCl (putW ws is w1) H1 := by
  refine putW_at is ws w1 hlen (fun q hq => ?_) (fun k q hq => ?_)
  · obtain ⟨j, hj, hj2⟩ := List.mem_iff_getElem.mp hq
    exact hP1 j q (by rw [List.getElem?_eq_getElem hj, hj2])
  · by_cases hm : k ∈ is
    · exact Or.inl hm
    · refine Or.inr ((hP k q hq).kept (hk q.1 (hP k q hq).lt fun hin => hm ?_))
      obtain ⟨x, hx, hx2⟩ := List.mem_map.mp hin
      obtain ⟨j, hj, hj2⟩ := List.mem_iff_getElem.mp hx
      have h1 : (is.map (fun i => ws[i]?))[j]? = some (some x) := by rw [hi, List.getElem?_map, List.getElem?_eq_getElem hj, hj2]; rfl
      rw [List.getElem?_map] at h1
      cases hz : is[j]? with
      | none => rw [hz] at h1; cases h1
      | some i =>
        rw [hz] at h1
        have h2 : ws[i]? = some x := Option.some.inj h1
        have h3 := hD.1 i k x q h2 hq hx2
        rw [← h3]
        exact List.mem_of_getElem? hz
section RW
variable {p : Program} {l : Launch} {e : Env} {R : Room} {s : State} {m : MethodId} {args : Array Value} {below : List Frame} {meth : Method} {c : Code} {H : Heap} {locs : List Loc} {cells slots : Nat} {Q : State → Prop} {cc : ByteArray} {pc : Nat} {ls : Array Slot} {rest st0 : List Value} {D : va_G} {cy : Nat → ClassId} {ws w0 : va_W} {A0 : Nat → Prop} {H0 : Heap} {av : Array Value}
theorem pu_call {r : Int32} (hr : va_Run p l e R s m args below meth c H locs cells slots 0 0 (F0 m pc ls st0) rest (va_Qi (fun (x : Int32) (_ : Unit) => x = r) (fun _ _ => True) (fun _ => False) av) (fun _ => False)) (hS : va_S A0 H0 H locs) (hP : va_P D vwCl ws H)
    (kk : ∀ (H1 : Heap) (locs1 : List Loc), va_P D vwCl ws H1 → va_S A0 H0 H1 locs1 → W p l e R s m args below meth c H1 locs1 cells slots Q (F0 m (pc + 3) ls (.int r :: rest))) : W p l e R s m args below meth c H locs cells slots Q (F0 m pc ls st0) :=
  va_calli hr hS (fun _ _ h => h.elim) (fun _ h => h.elim) (fun x _ _ H1 locs1 _ _ hw _ _ hk hS1 => by
    subst hw
    exact kk H1 locs1 (hP.kept fun k q hq => hk q.1 (hP k q hq).lt (fun h => h)) hS1)
theorem wr_callv {S : Type} {post : S → Prop} {w1 : S → va_W} (is : List Nat) (hr : va_Run p l e R s m args below meth c H locs cells slots 0 0 (F0 m pc ls st0) rest (va_Qv post (fun u t => va_P D vwCl (w1 u) t.heap) (inW w0) av) (inW w0)) (hS : va_S A0 H0 H locs) (hP : va_P D vwCl ws H) (hD : va_D A0 ws) (hi : is.map (fun i => ws[i]?) = w0.map some) (hlen : ∀ u, is.length = (w1 u).length) (hsame : ∀ u, (putW ws is (w1 u)).map Prod.fst = ws.map Prod.fst)
    (kk : ∀ (u : S) (H1 : Heap) (locs1 : List Loc), post u → va_P D vwCl (putW ws is (w1 u)) H1 → va_D A0 (putW ws is (w1 u)) → va_S A0 H0 H1 locs1 → W p l e R s m args below meth c H1 locs1 cells slots Q (F0 m (pc + 3) ls rest)) : W p l e R s m args below meth c H locs cells slots Q (F0 m pc ls st0) :=
  va_callv hr hS (fun q _ h => inW_up hD is hi q h) (inW_up hD is hi) (fun u t H1 locs1 ht _ hw hB _ hk hS1 => by
    rw [ht] at hB
    exact kk u H1 locs1 hw (putW_join hP hD is hi (hlen u) hk hB) (va_D_same (hsame u) hD) hS1)
theorem wr_calli {S : Type} {post : Int32 → S → Prop} {w1 : S → va_W} (is : List Nat) (hr : va_Run p l e R s m args below meth c H locs cells slots 0 0 (F0 m pc ls st0) rest (va_Qi post (fun u t => va_P D vwCl (w1 u) t.heap) (inW w0) av) (inW w0)) (hS : va_S A0 H0 H locs) (hP : va_P D vwCl ws H) (hD : va_D A0 ws) (hi : is.map (fun i => ws[i]?) = w0.map some) (hlen : ∀ u, is.length = (w1 u).length) (hsame : ∀ u, (putW ws is (w1 u)).map Prod.fst = ws.map Prod.fst)
    (kk : ∀ (r : Int32) (u : S) (H1 : Heap) (locs1 : List Loc), post r u → va_P D vwCl (putW ws is (w1 u)) H1 → va_D A0 (putW ws is (w1 u)) → va_S A0 H0 H1 locs1 → W p l e R s m args below meth c H1 locs1 cells slots Q (F0 m (pc + 3) ls (.int r :: rest))) : W p l e R s m args below meth c H locs cells slots Q (F0 m pc ls st0) :=
  va_calli hr hS (fun q _ h => inW_up hD is hi q h) (inW_up hD is hi) (fun r u t H1 locs1 ht _ hw hB _ hk hS1 => by
    rw [ht] at hB
    exact kk r u H1 locs1 hw (putW_join hP hD is hi (hlen u) hk hB) (va_D_same (hsame u) hD) hS1)
theorem lv_as {x y : Int32} (h : x = y) (k : W p l e R s m args below meth c H locs cells slots Q (F0 m pc ls (.int y :: rest))) : W p l e R s m args below meth c H locs cells slots Q (F0 m pc ls (.int x :: rest)) := by
  rw [h]
  exact k
theorem n_ge (hexec : p.tables.exec = Jvm.exec) (hb : c.code = cc) {a b : Nat} {off : Int} {tgt : Nat} (hdg : decode cc pc = .ok (.if_icmp .ge off, 3)) (ht : (pc : Int) + off = (tgt : Int)) (ha : a < 2 ^ 31) (hb2 : b < 2 ^ 31)
    (kt : b ≤ a → W p l e R s m args below meth c H locs cells slots Q (F0 m tgt ls rest)) (kf : a < b → W p l e R s m args below meth c H locs cells slots Q (F0 m (pc + 3) ls rest)) : W p l e R s m args below meth c H locs cells slots Q (F0 m pc ls (.int (nI b) :: .int (nI a) :: rest)) :=
  lv_icmp_ge hexec hb hdg ht (fun h => kt ((nI_leI hb2 ha).mp h)) (fun h => kf (Nat.lt_of_not_le fun q => h ((nI_leI hb2 ha).mpr q)))
theorem n_gt (hexec : p.tables.exec = Jvm.exec) (hb : c.code = cc) {a b : Nat} {off : Int} {tgt : Nat} (hdg : decode cc pc = .ok (.if_icmp .gt off, 3)) (ht : (pc : Int) + off = (tgt : Int)) (ha : a < 2 ^ 31) (hb2 : b < 2 ^ 31)
    (kt : b < a → W p l e R s m args below meth c H locs cells slots Q (F0 m tgt ls rest)) (kf : a ≤ b → W p l e R s m args below meth c H locs cells slots Q (F0 m (pc + 3) ls rest)) : W p l e R s m args below meth c H locs cells slots Q (F0 m pc ls (.int (nI b) :: .int (nI a) :: rest)) :=
  lv_icmp_gt hexec hb hdg ht (fun h => kt ((nI_ltI hb2 ha).mp h)) (fun h => kf (Nat.le_of_not_lt fun q => h ((nI_ltI hb2 ha).mpr q)))
theorem n_lt (hexec : p.tables.exec = Jvm.exec) (hb : c.code = cc) {a b : Nat} {off : Int} {tgt : Nat} (hdg : decode cc pc = .ok (.if_icmp .lt off, 3)) (ht : (pc : Int) + off = (tgt : Int)) (ha : a < 2 ^ 31) (hb2 : b < 2 ^ 31)
    (kt : a < b → W p l e R s m args below meth c H locs cells slots Q (F0 m tgt ls rest)) (kf : b ≤ a → W p l e R s m args below meth c H locs cells slots Q (F0 m (pc + 3) ls rest)) : W p l e R s m args below meth c H locs cells slots Q (F0 m pc ls (.int (nI b) :: .int (nI a) :: rest)) :=
  lv_icmp_lt hexec hb hdg ht (fun h => kt ((nI_ltI ha hb2).mp h)) (fun h => kf (Nat.le_of_not_lt fun q => h ((nI_ltI ha hb2).mpr q)))
theorem n_le (hexec : p.tables.exec = Jvm.exec) (hb : c.code = cc) {a b : Nat} {off : Int} {tgt : Nat} (hdg : decode cc pc = .ok (.if_icmp .le off, 3)) (ht : (pc : Int) + off = (tgt : Int)) (ha : a < 2 ^ 31) (hb2 : b < 2 ^ 31)
    (kt : a ≤ b → W p l e R s m args below meth c H locs cells slots Q (F0 m tgt ls rest)) (kf : b < a → W p l e R s m args below meth c H locs cells slots Q (F0 m (pc + 3) ls rest)) : W p l e R s m args below meth c H locs cells slots Q (F0 m pc ls (.int (nI b) :: .int (nI a) :: rest)) :=
  lv_icmp_le hexec hb hdg ht (fun h => kt ((nI_leI ha hb2).mp h)) (fun h => kf (Nat.lt_of_not_le fun q => h ((nI_leI ha hb2).mpr q)))
theorem n_eq (hexec : p.tables.exec = Jvm.exec) (hb : c.code = cc) {a b : Nat} {off : Int} {tgt : Nat} (hdg : decode cc pc = .ok (.if_icmp .eq off, 3)) (ht : (pc : Int) + off = (tgt : Int)) (ha : a < 2 ^ 31) (hb2 : b < 2 ^ 31)
    (kt : a = b → W p l e R s m args below meth c H locs cells slots Q (F0 m tgt ls rest)) (kf : ¬ a = b → W p l e R s m args below meth c H locs cells slots Q (F0 m (pc + 3) ls rest)) : W p l e R s m args below meth c H locs cells slots Q (F0 m pc ls (.int (nI b) :: .int (nI a) :: rest)) :=
  lv_icmp_eq hexec hb hdg ht (fun h => kt ((nI_eq ha hb2).mp h)) (fun h => kf (fun q => h ((nI_eq ha hb2).mpr q)))
theorem n_ne (hexec : p.tables.exec = Jvm.exec) (hb : c.code = cc) {a b : Nat} {off : Int} {tgt : Nat} (hdg : decode cc pc = .ok (.if_icmp .ne off, 3)) (ht : (pc : Int) + off = (tgt : Int)) (ha : a < 2 ^ 31) (hb2 : b < 2 ^ 31)
    (kt : ¬ a = b → W p l e R s m args below meth c H locs cells slots Q (F0 m tgt ls rest)) (kf : a = b → W p l e R s m args below meth c H locs cells slots Q (F0 m (pc + 3) ls rest)) : W p l e R s m args below meth c H locs cells slots Q (F0 m pc ls (.int (nI b) :: .int (nI a) :: rest)) :=
  lv_icmp_ne hexec hb hdg ht (fun h => kt (fun q => h ((nI_eq ha hb2).mpr q))) (fun h => kf ((nI_eq ha hb2).mp h))
def zOK (z : Int) : Prop := -2147483648 ≤ z ∧ z < 2147483648
theorem z_ge (hexec : p.tables.exec = Jvm.exec) (hb : c.code = cc) {a b : Int} {off : Int} {tgt : Nat} (hdg : decode cc pc = .ok (.if_icmp .ge off, 3)) (ht : (pc : Int) + off = (tgt : Int)) (ha : zOK a) (hb2 : zOK b)
    (kt : b ≤ a → W p l e R s m args below meth c H locs cells slots Q (F0 m tgt ls rest)) (kf : a < b → W p l e R s m args below meth c H locs cells slots Q (F0 m (pc + 3) ls rest)) : W p l e R s m args below meth c H locs cells slots Q (F0 m pc ls (.int (zI b) :: .int (zI a) :: rest)) :=
  lv_icmp_ge hexec hb hdg ht (fun h => kt ((zI_le hb2.1 hb2.2 ha.1 ha.2).mp h)) (fun h => kf (Int.not_le.mp fun q => h ((zI_le hb2.1 hb2.2 ha.1 ha.2).mpr q)))
theorem z_gt (hexec : p.tables.exec = Jvm.exec) (hb : c.code = cc) {a b : Int} {off : Int} {tgt : Nat} (hdg : decode cc pc = .ok (.if_icmp .gt off, 3)) (ht : (pc : Int) + off = (tgt : Int)) (ha : zOK a) (hb2 : zOK b)
    (kt : b < a → W p l e R s m args below meth c H locs cells slots Q (F0 m tgt ls rest)) (kf : a ≤ b → W p l e R s m args below meth c H locs cells slots Q (F0 m (pc + 3) ls rest)) : W p l e R s m args below meth c H locs cells slots Q (F0 m pc ls (.int (zI b) :: .int (zI a) :: rest)) :=
  lv_icmp_gt hexec hb hdg ht (fun h => kt ((zI_lt hb2.1 hb2.2 ha.1 ha.2).mp h)) (fun h => kf (Int.not_lt.mp fun q => h ((zI_lt hb2.1 hb2.2 ha.1 ha.2).mpr q)))
theorem z_lt (hexec : p.tables.exec = Jvm.exec) (hb : c.code = cc) {a b : Int} {off : Int} {tgt : Nat} (hdg : decode cc pc = .ok (.if_icmp .lt off, 3)) (ht : (pc : Int) + off = (tgt : Int)) (ha : zOK a) (hb2 : zOK b)
    (kt : a < b → W p l e R s m args below meth c H locs cells slots Q (F0 m tgt ls rest)) (kf : b ≤ a → W p l e R s m args below meth c H locs cells slots Q (F0 m (pc + 3) ls rest)) : W p l e R s m args below meth c H locs cells slots Q (F0 m pc ls (.int (zI b) :: .int (zI a) :: rest)) :=
  lv_icmp_lt hexec hb hdg ht (fun h => kt ((zI_lt ha.1 ha.2 hb2.1 hb2.2).mp h)) (fun h => kf (Int.not_lt.mp fun q => h ((zI_lt ha.1 ha.2 hb2.1 hb2.2).mpr q)))
theorem z_le (hexec : p.tables.exec = Jvm.exec) (hb : c.code = cc) {a b : Int} {off : Int} {tgt : Nat} (hdg : decode cc pc = .ok (.if_icmp .le off, 3)) (ht : (pc : Int) + off = (tgt : Int)) (ha : zOK a) (hb2 : zOK b)
    (kt : a ≤ b → W p l e R s m args below meth c H locs cells slots Q (F0 m tgt ls rest)) (kf : b < a → W p l e R s m args below meth c H locs cells slots Q (F0 m (pc + 3) ls rest)) : W p l e R s m args below meth c H locs cells slots Q (F0 m pc ls (.int (zI b) :: .int (zI a) :: rest)) :=
  lv_icmp_le hexec hb hdg ht (fun h => kt ((zI_le ha.1 ha.2 hb2.1 hb2.2).mp h)) (fun h => kf (Int.not_le.mp fun q => h ((zI_le ha.1 ha.2 hb2.1 hb2.2).mpr q)))
theorem b_eq (hexec : p.tables.exec = Jvm.exec) (hb : c.code = cc) {b : Bool} {off : Int} {tgt : Nat} (hdg : decode cc pc = .ok (.ifCond .eq off, 3)) (ht : (pc : Int) + off = (tgt : Int))
    (kt : b = false → W p l e R s m args below meth c H locs cells slots Q (F0 m tgt ls rest)) (kf : b = true → W p l e R s m args below meth c H locs cells slots Q (F0 m (pc + 3) ls rest)) : W p l e R s m args below meth c H locs cells slots Q (F0 m pc ls (.int (bI b) :: rest)) :=
  lv_if_eq hexec hb hdg ht (fun h => kt (bI_0.mp h)) (fun h => kf (by cases b; exact absurd rfl h; rfl))
theorem b_ne (hexec : p.tables.exec = Jvm.exec) (hb : c.code = cc) {b : Bool} {off : Int} {tgt : Nat} (hdg : decode cc pc = .ok (.ifCond .ne off, 3)) (ht : (pc : Int) + off = (tgt : Int))
    (kt : b = true → W p l e R s m args below meth c H locs cells slots Q (F0 m tgt ls rest)) (kf : b = false → W p l e R s m args below meth c H locs cells slots Q (F0 m (pc + 3) ls rest)) : W p l e R s m args below meth c H locs cells slots Q (F0 m pc ls (.int (bI b) :: rest)) :=
  lv_if_ne hexec hb hdg ht (fun h => kt (by cases b; exact absurd rfl h; rfl)) (fun h => kf (bI_0.mp h))
theorem rd_i {a : Addr} (hexec : p.tables.exec = Jvm.exec) (hb : c.code = cc) (hK : KN D cy s) (hP : va_P D vwCl ws H) (q0 : Nat) {n : Nat} {f : Nat → Int32} (ha : ws[q0]? = some (a, .inl (cy 0, n, .inl f))) {k : Nat} {v : Int32} (hk : k < n) (hn : n < 2 ^ 31) (hv : f k = v) (hdg : decode cc pc = .ok (.iaload, 1))
    (kk : W p l e R s m args below meth c H locs cells slots Q (F0 m (pc + 1) ls (.int v :: rest))) : W p l e R s m args below meth c H locs cells slots Q (F0 m pc ls (.int (nI k) :: .ref a :: rest)) :=
  va_iald hexec hb hK.1 hP q0 0 ha rfl (vp_in_nI hk hn) hdg (by rw [nI_clamp (Nat.lt_trans hk hn), hv]; exact kk)
theorem rd_z {a : Addr} (hexec : p.tables.exec = Jvm.exec) (hb : c.code = cc) (hK : KN D cy s) (hP : va_P D vwCl ws H) (q0 : Nat) {n : Nat} {f : Nat → Int32} (ha : ws[q0]? = some (a, .inl (cy 1, n, .inl f))) {k : Nat} {v : Int32} (hk : k < n) (hn : n < 2 ^ 31) (hv : f k = v) (hdg : decode cc pc = .ok (.baload, 1))
    (kk : W p l e R s m args below meth c H locs cells slots Q (F0 m (pc + 1) ls (.int v :: rest))) : W p l e R s m args below meth c H locs cells slots Q (F0 m pc ls (.int (nI k) :: .ref a :: rest)) :=
  va_zald hexec hb hK.1 hP q0 1 ha rfl (vp_in_nI hk hn) hdg (by rw [nI_clamp (Nat.lt_trans hk hn), hv]; exact kk)
theorem st_i {a : Addr} (hexec : p.tables.exec = Jvm.exec) (hb : c.code = cc) (hK : KN D cy s) (hP : va_P D vwCl ws H) (hD : va_D A0 ws) (hS : va_S A0 H0 H locs) (q0 : Nat) {n : Nat} {f g : Nat → Int32} (ha : ws[q0]? = some (a, .inl (cy 0, n, .inl f))) {k : Nat} {x : Int32} (hk : k < n) (hn : n < 2 ^ 31) (hg : upd f k x = g) (hdg : decode cc pc = .ok (.iastore, 1))
    (kk : ∀ (H1 : Heap) (locs1 : List Loc), va_P D vwCl (ws.set q0 (a, .inl (cy 0, n, .inl g))) H1 → va_D A0 (ws.set q0 (a, .inl (cy 0, n, .inl g))) → va_S A0 H0 H1 locs1 → W p l e R s m args below meth c H1 locs1 cells slots Q (F0 m (pc + 1) ls rest)) : W p l e R s m args below meth c H locs cells slots Q (F0 m pc ls (.int x :: .int (nI k) :: .ref a :: rest)) :=
  va_iast hexec hb hK.1 hP hD hS q0 0 ha rfl (vp_in_nI hk hn) hdg (by rw [nI_clamp (Nat.lt_trans hk hn), hg]; exact kk)
theorem st_z {a : Addr} (hexec : p.tables.exec = Jvm.exec) (hb : c.code = cc) (hK : KN D cy s) (hP : va_P D vwCl ws H) (hD : va_D A0 ws) (hS : va_S A0 H0 H locs) (q0 : Nat) {n : Nat} {f g : Nat → Int32} (ha : ws[q0]? = some (a, .inl (cy 1, n, .inl f))) {k : Nat} {b : Bool} (hk : k < n) (hn : n < 2 ^ 31) (hg : upd f k (bI b) = g) (hdg : decode cc pc = .ok (.bastore, 1))
    (kk : ∀ (H1 : Heap) (locs1 : List Loc), va_P D vwCl (ws.set q0 (a, .inl (cy 1, n, .inl g))) H1 → va_D A0 (ws.set q0 (a, .inl (cy 1, n, .inl g))) → va_S A0 H0 H1 locs1 → W p l e R s m args below meth c H1 locs1 cells slots Q (F0 m (pc + 1) ls rest)) : W p l e R s m args below meth c H locs cells slots Q (F0 m pc ls (.int (bI b) :: .int (nI k) :: .ref a :: rest)) :=
  va_zast hexec hb hK.1 hP hD hS q0 1 ha rfl (vp_in_nI hk hn) hdg (by rw [nI_clamp (Nat.lt_trans hk hn), show vp_nar .boolean (bI b) = bI b by cases b <;> decide, hg]; exact kk)
/-! ends -/
theorem pu_iret {y : MethodName} {r v : Int32} (hexec : p.tables.exec = Jvm.exec) (hb : c.code = cc) (hr : meth.sig.returnType = some .int) (hlocks : meth.locks = false) (hS : va_S (fun _ => False) s.heap H locs) (hv : v = r) (hdg : decode cc pc = .ok (.ireturn, 1)) :
    W p l e R s m args below meth c H locs cells slots (MQ below (va_Qi (fun (x : Int32) (_ : Unit) => x = r) (fun _ _ => True) (fun _ => False)) args s cells slots (fun _ => False)) (F0 m pc ls [.int v]) :=
  W.iret hexec hb hr (fun t ht _ => ⟨⟨v, (), rfl, hv, trivial⟩, hS.F ht⟩) hS.2.2 hdg hlocks
theorem pu_zret {b : Bool} {v : Int32} (hexec : p.tables.exec = Jvm.exec) (hb : c.code = cc) (hr : meth.sig.returnType = some .boolean) (hlocks : meth.locks = false) (hS : va_S (fun _ => False) s.heap H locs) (hv : v = bI b) (hdg : decode cc pc = .ok (.ireturn, 1)) :
    W p l e R s m args below meth c H locs cells slots (MQ below (va_Qi (fun (x : Int32) (_ : Unit) => x = bI b) (fun _ _ => True) (fun _ => False)) args s cells slots (fun _ => False)) (F0 m pc ls [.int v]) :=
  W.zret hexec hb hr (by rw [hv]; exact bI_nar b) (fun t ht _ => ⟨⟨v, (), rfl, hv, trivial⟩, hS.F ht⟩) hS.2.2 hdg hlocks
theorem wv_ret {S : Type} {post : S → Prop} {w1 : S → va_W} (u : S) (hexec : p.tables.exec = Jvm.exec) (hb : c.code = cc) (hr : meth.sig.returnType = none) (hlocks : meth.locks = false) (hS : va_S (inW w0) s.heap H locs) (hP : va_P D vwCl (w1 u) H) (hpost : post u) (hdg : decode cc pc = .ok (.return_, 1)) :
    W p l e R s m args below meth c H locs cells slots (MQ below (va_Qv post (fun u t => va_P D vwCl (w1 u) t.heap) (inW w0)) args s cells slots (inW w0)) (F0 m pc ls []) :=
  W.vret hexec hb hr (fun t ht _ => ⟨⟨u, rfl, hpost, by show va_P D vwCl (w1 u) t.heap; rw [ht]; exact hP⟩, hS.F ht⟩) hS.2.2 hdg hlocks
theorem wi_ret {S : Type} {post : Int32 → S → Prop} {w1 : S → va_W} (u : S) {v : Int32} (hexec : p.tables.exec = Jvm.exec) (hb : c.code = cc) (hr : meth.sig.returnType = some .int) (hlocks : meth.locks = false) (hS : va_S (inW w0) s.heap H locs) (hP : va_P D vwCl (w1 u) H) (hpost : post v u) (hdg : decode cc pc = .ok (.ireturn, 1)) :
    W p l e R s m args below meth c H locs cells slots (MQ below (va_Qi post (fun u t => va_P D vwCl (w1 u) t.heap) (inW w0)) args s cells slots (inW w0)) (F0 m pc ls [.int v]) :=
  W.iret hexec hb hr (fun t ht _ => ⟨⟨v, u, rfl, hpost, by show va_P D vwCl (w1 u) t.heap; rw [ht]; exact hP⟩, hS.F ht⟩) hS.2.2 hdg hlocks
theorem wz_ret {S : Type} {post : Int32 → S → Prop} {w1 : S → va_W} (u : S) {b : Bool} {v : Int32} (hexec : p.tables.exec = Jvm.exec) (hb : c.code = cc) (hr : meth.sig.returnType = some .boolean) (hlocks : meth.locks = false) (hS : va_S (inW w0) s.heap H locs) (hP : va_P D vwCl (w1 u) H) (hv : v = bI b) (hpost : post v u) (hdg : decode cc pc = .ok (.ireturn, 1)) :
    W p l e R s m args below meth c H locs cells slots (MQ below (va_Qi post (fun u t => va_P D vwCl (w1 u) t.heap) (inW w0)) args s cells slots (inW w0)) (F0 m pc ls [.int v]) :=
  W.zret hexec hb hr (by rw [hv]; exact bI_nar b) (fun t ht _ => ⟨⟨v, u, rfl, hpost, by show va_P D vwCl (w1 u) t.heap; rw [ht]; exact hP⟩, hS.F ht⟩) hS.2.2 hdg hlocks
end RW
