/-! what a throw needs of the start -/
def tw_ws : List Cond := [.castable "java/lang/IllegalArgumentException" "java/lang/IllegalArgumentException", .castable "java/lang/IndexOutOfBoundsException" "java/lang/IndexOutOfBoundsException", .declares (Bundle.initS "java/lang/RuntimeException"), .declares (Bundle.initS "java/lang/Exception"), .declares (Bundle.initS Bundle.tN)]
def TW (U : State) : Prop := (∀ w ∈ tw_ws, va_Nw w U) ∧ va_Nc "java/lang/IllegalArgumentException" "java/lang/IndexOutOfBoundsException" U ∧ (∃ a, vk_R RX5 44 "vertices are 1 to 8, colours 1 to 6" a U) ∧ (∃ a, vk_R RX5 73 "no such colour" a U) ∧ (∃ a, vk_R RX5 76 "a limit is 0 to 14" a U) ∧ (∃ a, vk_R RX5 84 "no such edge" a U) ∧ (∃ a, vk_R RX5 86 "a weight is -9999 to 9999" a U) ∧ (∃ a, vk_R RX5 149 "no common set has so many edges" a U)
theorem TW_warm {s U : State} (hW : s.WarmedH U.vm) (h : TW s) : TW U := by
  obtain ⟨h1, h2, ⟨a1, b1⟩, ⟨a2, b2⟩, ⟨a3, b3⟩, ⟨a4, b4⟩, ⟨a5, b5⟩, ⟨a6, b6⟩⟩ := h
  refine ⟨fun w hw => ?_, h2.moved hW.alike, ⟨a1, vk_R.warm hW b1⟩, ⟨a2, vk_R.warm hW b2⟩, ⟨a3, vk_R.warm hW b3⟩, ⟨a4, vk_R.warm hW b4⟩, ⟨a5, vk_R.warm hW b5⟩, ⟨a6, vk_R.warm hW b6⟩⟩
  have h9 := h1 w hw
  simp only [tw_ws, List.mem_cons, List.not_mem_nil, or_false] at hw
  rcases hw with rfl | rfl | rfl | rfl | rfl <;> first | exact va_Nw.warmC hW h9 | exact va_Nw.warmD hW h9
theorem TW_call {U : State} {g : JFrame} {mk : MethodId} {a : Array Value} (h : TW U) : TW (U.calling g mk a) := by
  obtain ⟨h1, h2, ⟨a1, b1⟩, ⟨a2, b2⟩, ⟨a3, b3⟩, ⟨a4, b4⟩, ⟨a5, b5⟩, ⟨a6, b6⟩⟩ := h
  refine ⟨fun w hw => ?_, h2.moved (u := U) (U := U.calling g mk a) (Vm.Alike.refl U.vm), ⟨a1, vk_R.same (u := U) rfl b1⟩, ⟨a2, vk_R.same (u := U) rfl b2⟩, ⟨a3, vk_R.same (u := U) rfl b3⟩, ⟨a4, vk_R.same (u := U) rfl b4⟩, ⟨a5, vk_R.same (u := U) rfl b5⟩, ⟨a6, vk_R.same (u := U) rfl b6⟩⟩
  have h9 := h1 w hw
  simp only [tw_ws, List.mem_cons, List.not_mem_nil, or_false] at hw
  rcases hw with rfl | rfl | rfl | rfl | rfl <;> exact va_Nw.same (u := U) (U := U.calling g mk a) rfl rfl h9
def TS (A : Nat → Prop) (U : State) (H : Heap) : Prop := vx_Zq Bundle.tN "UNASSIGNED_STACK" Bundle.steD A U H ∧ vx_Zq Bundle.tN "SUPPRESSED_SENTINEL" Bundle.listD A U H
def TH (A : Nat → Prop) (U : State) : Prop := TW U ∧ TS A U U.heap
theorem TH_call {A : Nat → Prop} {U : State} {g : JFrame} {mk : MethodId} {a : Array Value} (h : TH A U) : TH A (U.calling g mk a) := ⟨TW_call h.1, vx_Zq.moved (u := U) (U := U.calling g mk a) (Vm.Alike.refl U.vm) h.2.1, vx_Zq.moved (u := U) (U := U.calling g mk a) (Vm.Alike.refl U.vm) h.2.2⟩
/-- at a call: the callee's start, out of the caller's -/
theorem TH_at {A0 A : Nat → Prop} {s U : State} {H : Heap} {locs : List Loc} (hW : s.WarmedH U.vm) (hU : U.heap = H) (hS : va_S A0 s.heap H locs) (hA : ∀ q, A q → A0 q) (h : TH A0 s) : TH A U := by
  refine ⟨TW_warm hW h.1, ?_, ?_⟩
  · rw [hU]
    exact vx_Zq.moved hW.alike ((h.2.1.kept hS.2.1).narrow hA)
  · rw [hU]
    exact vx_Zq.moved hW.alike ((h.2.2.kept hS.2.1).narrow hA)
/-- none of its throws leaves it -/
abbrev NoX : String → State → State → Prop := vx_X (fun _ : Unit => False) (fun _ _ _ => False) (fun _ => False)
/-- a method that throws, and has written nothing -/
def XT (l : Launch) (y : MethodName) (ws : List Cond) (rm : Room) (D : va_G) (cy : Nat → ClassId) (av : List Value) (w0 : va_W) (E : String) : Prop :=
  vx_Met l y ws rm (va_Pc av (fun U => (KN D cy U ∧ va_P D vwCl w0 U.heap) ∧ TH (fun _ => False) U)) (va_Qv (fun _ : Unit => False) (fun _ _ => True) (fun _ => False)) (vx_X (fun _ : Unit => True) (fun E' _ _ => E' = E) (fun _ => False)) 1 6 (fun _ => False)
theorem XT_blind {D : va_G} {cy : Nat → ClassId} {av : List Value} {w0 : va_W} {A : Nat → Prop} : FrameBlind (va_Pc av (fun U => (KN D cy U ∧ va_P D vwCl w0 U.heap) ∧ TH A U)) := fun _ _ _ _ q => ⟨q.1, ⟨KN_call q.2.1.1, q.2.1.2⟩, TH_call q.2.2⟩
/-- its caller's handler answers r -/
def LN (l : Launch) (y : MethodName) (ws : List Cond) (rm : Room) (D : va_G) (cy : Nat → ClassId) (av : List Value) (w0 : va_W) (r : Nat) : Prop :=
  vx_Met l y ws rm (va_Pc av (fun U => (KN D cy U ∧ va_P D vwCl w0 U.heap) ∧ TH (fun _ => False) U)) (va_Qi (fun (x : Int32) (_ : Unit) => x = nI r) (fun _ _ => True) (fun _ => False)) NoX 1 6 (fun _ => False)
/-- one that writes in its world and throws: no set of so many edges -/
def XN (l : Launch) (y : MethodName) (ws : List Cond) (rm : Room) (D : va_G) (cy : Nat → ClassId) (av : List Value) (w0 : va_W) {S : Type} (post : S → Prop) (w1 : S → va_W) (E : String) : Prop :=
  vx_Met l y ws rm (va_Pc av (fun U => ((KN D cy U ∧ va_P D vwCl w0 U.heap) ∧ va_D (fun _ => True) w0) ∧ TH (inW w0) U)) (va_Qi (fun (_ : Int32) (_ : Unit) => False) (fun _ _ => True) (fun _ => False)) (vx_X post (fun E' u t => E' = E ∧ va_P D vwCl (w1 u) t.heap) (inW w0)) 1 6 (inW w0)
def LX (l : Launch) (y : MethodName) (ws : List Cond) (rm : Room) (D : va_G) (cy : Nat → ClassId) (av : List Value) (w0 : va_W) {S : Type} (post : S → Prop) (w1 : S → va_W) (r : Nat) : Prop :=
  vx_Met l y ws rm (va_Pc av (fun U => ((KN D cy U ∧ va_P D vwCl w0 U.heap) ∧ va_D (fun _ => True) w0) ∧ TH (inW w0) U)) (va_Qi (fun (x : Int32) (u : S) => x = nI r ∧ post u) (fun u t => va_P D vwCl (w1 u) t.heap) (inW w0)) NoX 1 6 (inW w0)
theorem XN_blind {D : va_G} {cy : Nat → ClassId} {av : List Value} {w0 w9 : va_W} : FrameBlind (va_Pc av (fun U => ((KN D cy U ∧ va_P D vwCl w0 U.heap) ∧ va_D (fun _ => True) w0) ∧ TH (inW w9) U)) := fun _ _ _ _ q => ⟨q.1, ⟨⟨KN_call q.2.1.1.1, q.2.1.1.2⟩, q.2.1.2⟩, TH_call q.2.2⟩
/-- one with a table of its own that returns -/
def LY {S : Type} (l : Launch) (y : MethodName) (ws : List Cond) (rm : Room) (D : va_G) (cy : Nat → ClassId) (av : List Value) (w0 : va_W) (post : Int32 → S → Prop) (w1 : S → va_W) : Prop :=
  vx_Met l y ws rm (va_Pc av (fun U => (KN D cy U ∧ va_P D vwCl w0 U.heap) ∧ va_D (fun _ => True) w0)) (va_Qi post (fun u t => va_P D vwCl (w1 u) t.heap) (inW w0)) NoX 0 0 (inW w0)
section RX
variable {p : Program} {l : Launch} {e : Env} {R : Room} {s : State} {m : MethodId} {args : Array Value} {below : List Frame} {meth : Method} {c : Code} {H : Heap} {locs : List Loc} {cells slots : Nat} {Q : State → Prop} {cc : ByteArray} {pc : Nat} {ls : Array Slot} {rest st0 As : List Value} {D : va_G} {cy : Nat → ClassId} {ws w0 : va_W} {A0 : Nat → Prop} {H0 : Heap} {av : Array Value}
theorem XT_preV {b : Addr} {ci q0 : Nat} {q : vw_C} {fs : List Value} (hK : KN D cy s) (hP : va_P D vwCl ws H) (hT : TH A0 s) (hS : va_S A0 s.heap H locs) (hc : vwCl[ci]? = some q) (he : ws[q0]? = some (b, .inr (ci, fs))) (is : List Nat) (hs : is.filterMap (fun i => ws[i]?) = w0) :
    PreV s H q.1 b (va_Pc (.ref b :: As) (fun U => (KN D cy U ∧ va_P D vwCl w0 U.heap) ∧ TH (fun _ => False) U)) As :=
  ⟨XT_blind, va_recv hK.1 hP hc he, fun _ hU hW => ⟨rfl, ⟨KN_warm hW hK, by rw [hU]; exact hP.sub is hs⟩, TH_at hW hU hS (fun _ h => h.elim) hT⟩⟩
theorem XT_preS (hK : KN D cy s) (hP : va_P D vwCl ws H) (hT : TH A0 s) (hS : va_S A0 s.heap H locs) (is : List Nat) (hs : is.filterMap (fun i => ws[i]?) = w0) :
    PreS s H (va_Pc As (fun U => (KN D cy U ∧ va_P D vwCl w0 U.heap) ∧ TH (fun _ => False) U)) As :=
  ⟨XT_blind, fun _ hU hW => ⟨rfl, ⟨KN_warm hW hK, by rw [hU]; exact hP.sub is hs⟩, TH_at hW hU hS (fun _ h => h.elim) hT⟩⟩
theorem XN_preV {b : Addr} {ci q0 : Nat} {q : vw_C} {fs : List Value} (hK : KN D cy s) (hP : va_P D vwCl ws H) (hD : va_D A0 ws) (hT : TH A0 s) (hS : va_S A0 s.heap H locs) (hc : vwCl[ci]? = some q) (he : ws[q0]? = some (b, .inr (ci, fs))) (is : List Nat) (hn : va_nd is = true) (hs : is.map (fun i => ws[i]?) = w0.map some) (hs' : is.filterMap (fun i => ws[i]?) = w0) :
    PreV s H q.1 b (va_Pc (.ref b :: As) (fun U => ((KN D cy U ∧ va_P D vwCl w0 U.heap) ∧ va_D (fun _ => True) w0) ∧ TH (inW w0) U)) As :=
  ⟨XN_blind, va_recv hK.1 hP hc he, fun _ hU hW => ⟨rfl, ⟨⟨KN_warm hW hK, by rw [hU]; exact hP.sub is hs'⟩, (hD.sub is hn hs).weaken (fun _ _ _ _ => trivial)⟩, TH_at hW hU hS (inW_up hD is hs) hT⟩⟩
theorem XN_preS (hK : KN D cy s) (hP : va_P D vwCl ws H) (hD : va_D A0 ws) (hT : TH A0 s) (hS : va_S A0 s.heap H locs) (is : List Nat) (hn : va_nd is = true) (hs : is.map (fun i => ws[i]?) = w0.map some) (hs' : is.filterMap (fun i => ws[i]?) = w0) :
    PreS s H (va_Pc As (fun U => ((KN D cy U ∧ va_P D vwCl w0 U.heap) ∧ va_D (fun _ => True) w0) ∧ TH (inW w0) U)) As :=
  ⟨XN_blind, fun _ hU hW => ⟨rfl, ⟨⟨KN_warm hW hK, by rw [hU]; exact hP.sub is hs'⟩, (hD.sub is hn hs).weaken (fun _ _ _ _ => trivial)⟩, TH_at hW hU hS (inW_up hD is hs) hT⟩⟩
/-- the handler of a call that throws without a trace in the world -/
theorem xt_catch {E : String} (hr : vx_Run p l e R s m args below meth c H locs cells slots 1 6 (F0 m pc ls st0) rest (va_Qv (fun _ : Unit => False) (fun _ _ => True) (fun _ => False) av) (vx_X (fun _ : Unit => True) (fun E' _ _ => E' = E) (fun _ => False)) (fun _ => False)) (hS : va_S A0 H0 H locs) (hP : va_P D vwCl ws H)
    (hown : s.vm.findClass RL = some m.cls) (pre : List ExceptionTableEntry) (x : ExceptionTableEntry) (suf : List ExceptionTableEntry) (hsplit : c.exceptionTable.toList = pre ++ x :: suf) (hpass : ∀ z ∈ pre, covers z pc = false ∨ (z.catchType ≠ 0 ∧ ∃ nm : String, (Cond.classLink RL z.catchType nm).before args s = true ∧ va_Nc E nm s)) (hx : covers x pc = true) (h0 : x.catchType ≠ 0)
    (hlink : (Cond.classLink RL x.catchType E).before args s = true) (hcast : va_Nw (.castable E E) s)
    (kk : ∀ (q9 : Nat) (H1 : Heap) (locs1 : List Loc), va_P D vwCl ws H1 → va_S A0 H0 H1 locs1 → W p l e R s m args below meth c H1 locs1 (cells + 1) (slots + 6) Q (F0 m x.handlerPc ls [.ref q9])) : W p l e R s m args below meth c H locs cells slots Q (F0 m pc ls st0) :=
  vx_callv hr hS (fun _ _ h => h.elim) (fun _ h => h.elim) (fun _ _ h => h.elim)
    (fun E' ce q9 u t H1 locs1 ht hal _ hB hsz hk hS1 hce hcv hcl => by
      have hB : E' = E := hB
      subst hB
      exact vx_catch hown pre x suf hsplit hpass hx h0 hlink (va_Nw.use rfl hcast) hce hcv hcl (kk q9 H1 locs1 (hP.kept fun k q hq => hk q.1 (hP k q hq).lt (fun h => h)) hS1))
    (fun u t H1 locs1 _ _ hp _ _ _ _ => False.elim hp)
/-- .. of one that has written in its world -/
theorem xn_catch {S : Type} {post : S → Prop} {w1 : S → va_W} {E : String} (is : List Nat) (hr : vx_Run p l e R s m args below meth c H locs cells slots 1 6 (F0 m pc ls st0) rest (va_Qi (fun (_ : Int32) (_ : Unit) => False) (fun _ _ => True) (fun _ => False) av) (vx_X post (fun E' u t => E' = E ∧ va_P D vwCl (w1 u) t.heap) (inW w0)) (inW w0)) (hS : va_S A0 H0 H locs) (hP : va_P D vwCl ws H) (hD : va_D A0 ws)
    (hi : is.map (fun i => ws[i]?) = w0.map some) (hlen : ∀ u, is.length = (w1 u).length) (hsame : ∀ u, (putW ws is (w1 u)).map Prod.fst = ws.map Prod.fst)
    (hown : s.vm.findClass RL = some m.cls) (x : ExceptionTableEntry) (suf : List ExceptionTableEntry) (hsplit : c.exceptionTable.toList = x :: suf) (hx : covers x pc = true) (h0 : x.catchType ≠ 0)
    (hlink : (Cond.classLink RL x.catchType E).before args s = true) (hcast : va_Nw (.castable E E) s)
    (kk : ∀ (u : S) (q9 : Nat) (H1 : Heap) (locs1 : List Loc), post u → va_P D vwCl (putW ws is (w1 u)) H1 → va_D A0 (putW ws is (w1 u)) → va_S A0 H0 H1 locs1 → W p l e R s m args below meth c H1 locs1 (cells + 1) (slots + 6) Q (F0 m x.handlerPc ls [.ref q9])) : W p l e R s m args below meth c H locs cells slots Q (F0 m pc ls st0) :=
  vx_calli hr hS (fun _ _ h => h.elim) (inW_up hD is hi) (fun q _ h => inW_up hD is hi q h)
    (fun E' ce q9 u t H1 locs1 ht hal hp hB hsz hk hS1 hce hcv hcl => by
      obtain ⟨hE, hB⟩ := hB
      subst hE
      rw [ht] at hB
      exact vx_catch hown [] x suf hsplit (fun z hz => nomatch hz) hx h0 hlink (va_Nw.use rfl hcast) hce hcv hcl (kk u q9 H1 locs1 hp (putW_join hP hD is hi (hlen u) hk hB) (va_D_same (hsame u) hD) hS1))
    (fun _ u t H1 locs1 _ _ hp _ _ _ _ => False.elim hp)
theorem ln_ret {r : Nat} (hexec : p.tables.exec = Jvm.exec) (hb : c.code = cc) (hr : meth.sig.returnType = some .int) (hlocks : meth.locks = false) (hS : va_S (fun _ => False) s.heap H locs) (hdg : decode cc pc = .ok (.ireturn, 1)) :
    W p l e R s m args below meth c H locs cells slots (vx_MQ below (va_Qi (fun (x : Int32) (_ : Unit) => x = nI r) (fun _ _ => True) (fun _ => False)) NoX args s cells slots (fun _ => False)) (F0 m pc ls [.int (nI r)]) :=
  vx_ret (W.iret hexec hb hr (fun t ht _ => ⟨⟨nI r, (), rfl, rfl, trivial⟩, hS.F ht⟩) hS.2.2 hdg hlocks)
theorem ly_ret {S : Type} {post : Int32 → S → Prop} {w1 : S → va_W} (u : S) {v : Int32} (hexec : p.tables.exec = Jvm.exec) (hb : c.code = cc) (hr : meth.sig.returnType = some .int) (hlocks : meth.locks = false) (hS : va_S (inW w0) s.heap H locs) (hP : va_P D vwCl (w1 u) H) (hpost : post v u) (hdg : decode cc pc = .ok (.ireturn, 1)) :
    W p l e R s m args below meth c H locs cells slots (vx_MQ below (va_Qi post (fun u t => va_P D vwCl (w1 u) t.heap) (inW w0)) NoX args s cells slots (inW w0)) (F0 m pc ls [.int v]) :=
  vx_ret (wi_ret u hexec hb hr hlocks hS hP hpost hdg)
end RX
theorem tw_use {args : Array Value} {s : State} (h : TW s) : ∀ w ∈ tw_ws, w.before args s = true := fun w hw => va_Nw.use ((by decide +kernel : ∀ w ∈ tw_ws, w.onTables = true) w hw) (h.1 w hw)
theorem thr_F {A : Nat → Prop} {s t : State} {H : Heap} {locs : List Loc} (hS : va_S A s.heap H locs) (h1 : H.size ≤ t.heap.size) (h2 : ∀ q : Nat, q < H.size → t.heap[q]? = H[q]?) : va_F A s t :=
  ⟨Nat.le_trans hS.1 h1, fun q hq hn => (h2 q (Nat.lt_of_lt_of_le hq hS.1)).trans (hS.2.1 q hq hn)⟩
section RL
variable {p : Program} {l : Launch} {e : Env} {R : Room} {s : State} {m : MethodId} {args : Array Value} {below : List Frame} {meth : Method} {c : Code} {H : Heap} {locs : List Loc} {cells slots : Nat} {Q : State → Prop} {cc : ByteArray} {pc : Nat} {ls : Array Slot} {rest : List Value} {D : va_G} {cy : Nat → ClassId} {ws : va_W} {A0 : Nat → Prop} {H0 : Heap}
theorem st_l {a : Addr} (hexec : p.tables.exec = Jvm.exec) (hb : c.code = cc) (hK : KN D cy s) (hP : va_P D vwCl ws H) (hD : va_D A0 ws) (hS : va_S A0 H0 H locs) (q0 : Nat) {n : Nat} {f : Nat → Int64} (ha : ws[q0]? = some (a, .inl (cy 2, n, .inr (.inl f)))) {k : Nat} {x : Int64} (hk : k < n) (hn : n < 2 ^ 31) (hdg : decode cc pc = .ok (.lastore, 1))
    (kk : ∀ (H1 : Heap) (locs1 : List Loc), va_P D vwCl (ws.set q0 (a, .inl (cy 2, n, .inr (.inl (vp_updL f k x))))) H1 → va_D A0 (ws.set q0 (a, .inl (cy 2, n, .inr (.inl (vp_updL f k x))))) → va_S A0 H0 H1 locs1 → W p l e R s m args below meth c H1 locs1 cells slots Q (F0 m (pc + 1) ls rest)) : W p l e R s m args below meth c H locs cells slots Q (F0 m pc ls (.long x :: .int (nI k) :: .ref a :: rest)) :=
  va_last hexec hb hK.1 hP hD hS q0 2 ha rfl (vp_in_nI hk hn) hdg (by rw [nI_clamp (Nat.lt_trans hk hn)]; exact kk)
end RL
