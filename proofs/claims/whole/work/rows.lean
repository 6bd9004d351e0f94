section
-- ===== PART A: goes FIRST, ahead of the names: the tables' words, and 'selects' of the private methods out of them =====
/-- a private method of a class that the tables say can be made, by its rows of tables_1 -/
def lw_okq (q : MethodName × Nat) : Prop := (q.1.cls ≠ "java/lang/invoke/MethodHandle" ∧ q.1.cls ≠ "java/lang/invoke/VarHandle") ∧ Cond.instantiable q.1.cls q.2 ∈ tables_1 ∧ Cond.privateMethod q.1 ∈ tables_1 ∧ Cond.instanceMethod q.1 ∈ tables_1
theorem lw_p0 : lw_okq (⟨"ColourForests$Survey", "walk", "()V"⟩, 11) := ⟨⟨by decide +kernel, by decide +kernel⟩, List.mem_of_getElem? (i := 94) (by decide +kernel), List.mem_of_getElem? (i := 183) (by decide +kernel), List.mem_of_getElem? (i := 184) (by decide +kernel)⟩
theorem lw_p1 : lw_okq (⟨"ColourForests$Survey", "begin", "()V"⟩, 11) := ⟨⟨by decide +kernel, by decide +kernel⟩, List.mem_of_getElem? (i := 94) (by decide +kernel), List.mem_of_getElem? (i := 187) (by decide +kernel), List.mem_of_getElem? (i := 188) (by decide +kernel)⟩
theorem lw_p2 : lw_okq (⟨"ColourForests$Survey", "placeAbove", "(I)I"⟩, 11) := ⟨⟨by decide +kernel, by decide +kernel⟩, List.mem_of_getElem? (i := 94) (by decide +kernel), List.mem_of_getElem? (i := 206) (by decide +kernel), List.mem_of_getElem? (i := 207) (by decide +kernel)⟩
theorem lw_p3 : lw_okq (⟨"ColourForests$Survey", "enter", "(II)Z"⟩, 11) := ⟨⟨by decide +kernel, by decide +kernel⟩, List.mem_of_getElem? (i := 94) (by decide +kernel), List.mem_of_getElem? (i := 210) (by decide +kernel), List.mem_of_getElem? (i := 211) (by decide +kernel)⟩
theorem lw_p4 : lw_okq (⟨"ColourForests$Survey", "note", "(II)V"⟩, 11) := ⟨⟨by decide +kernel, by decide +kernel⟩, List.mem_of_getElem? (i := 94) (by decide +kernel), List.mem_of_getElem? (i := 233) (by decide +kernel), List.mem_of_getElem? (i := 234) (by decide +kernel)⟩
theorem lw_p5 : lw_okq (⟨"ColourForests$Survey", "noteForest", "(I)V"⟩, 11) := ⟨⟨by decide +kernel, by decide +kernel⟩, List.mem_of_getElem? (i := 94) (by decide +kernel), List.mem_of_getElem? (i := 243) (by decide +kernel), List.mem_of_getElem? (i := 244) (by decide +kernel)⟩
theorem lw_p6 : lw_okq (⟨"ColourForests$Survey", "noteCommon", "(III)V"⟩, 11) := ⟨⟨by decide +kernel, by decide +kernel⟩, List.mem_of_getElem? (i := 94) (by decide +kernel), List.mem_of_getElem? (i := 247) (by decide +kernel), List.mem_of_getElem? (i := 248) (by decide +kernel)⟩
theorem lw_p7 : lw_okq (⟨"ColourForests", "judgeOf", "(I)LColourForests$Kind;"⟩, 4) := ⟨⟨by decide +kernel, by decide +kernel⟩, List.mem_of_getElem? (i := 17) (by decide +kernel), List.mem_of_getElem? (i := 258) (by decide +kernel), List.mem_of_getElem? (i := 259) (by decide +kernel)⟩
theorem lw_p8 : lw_okq (⟨"ColourForests", "isCommon", "(I)Z"⟩, 4) := ⟨⟨by decide +kernel, by decide +kernel⟩, List.mem_of_getElem? (i := 17) (by decide +kernel), List.mem_of_getElem? (i := 293) (by decide +kernel), List.mem_of_getElem? (i := 294) (by decide +kernel)⟩
theorem lw_p9 : lw_okq (⟨"ColourForests", "leastWitness", "()I"⟩, 4) := ⟨⟨by decide +kernel, by decide +kernel⟩, List.mem_of_getElem? (i := 17) (by decide +kernel), List.mem_of_getElem? (i := 354) (by decide +kernel), List.mem_of_getElem? (i := 355) (by decide +kernel)⟩
theorem lw_p10 : lw_okq (⟨"ColourForests", "leastSplit", "(LColourForests$Kind;LColourForests$Kind;)I"⟩, 4) := ⟨⟨by decide +kernel, by decide +kernel⟩, List.mem_of_getElem? (i := 17) (by decide +kernel), List.mem_of_getElem? (i := 358) (by decide +kernel), List.mem_of_getElem? (i := 359) (by decide +kernel)⟩
theorem lw_p11 : lw_okq (⟨"ColourForests", "greatestWitness", "()I"⟩, 4) := ⟨⟨by decide +kernel, by decide +kernel⟩, List.mem_of_getElem? (i := 17) (by decide +kernel), List.mem_of_getElem? (i := 366) (by decide +kernel), List.mem_of_getElem? (i := 367) (by decide +kernel)⟩
theorem lw_p12 : lw_okq (⟨"ColourForests", "dearestAreSuch", "()Z"⟩, 4) := ⟨⟨by decide +kernel, by decide +kernel⟩, List.mem_of_getElem? (i := 17) (by decide +kernel), List.mem_of_getElem? (i := 374) (by decide +kernel), List.mem_of_getElem? (i := 375) (by decide +kernel)⟩
theorem lw_p13 : lw_okq (⟨"ColourForests", "gainsNeverRise", "()Z"⟩, 4) := ⟨⟨by decide +kernel, by decide +kernel⟩, List.mem_of_getElem? (i := 17) (by decide +kernel), List.mem_of_getElem? (i := 379) (by decide +kernel), List.mem_of_getElem? (i := 380) (by decide +kernel)⟩
theorem lw_p14 : lw_okq (⟨"ColourForests", "isWitness", "(I)Z"⟩, 4) := ⟨⟨by decide +kernel, by decide +kernel⟩, List.mem_of_getElem? (i := 17) (by decide +kernel), List.mem_of_getElem? (i := 383) (by decide +kernel), List.mem_of_getElem? (i := 384) (by decide +kernel)⟩
theorem lw_p15 : lw_okq (⟨"java/lang/Throwable", "fillInStackTrace", "(I)Ljava/lang/Throwable;"⟩, 6) := ⟨⟨by decide +kernel, by decide +kernel⟩, List.mem_of_getElem? (i := 432) (by decide +kernel), List.mem_of_getElem? (i := 430) (by decide +kernel), List.mem_of_getElem? (i := 431) (by decide +kernel)⟩
def lw_privs_1 : List (MethodName × Nat) := [(⟨"ColourForests$Survey", "walk", "()V"⟩, 11), (⟨"ColourForests$Survey", "begin", "()V"⟩, 11), (⟨"ColourForests$Survey", "placeAbove", "(I)I"⟩, 11), (⟨"ColourForests$Survey", "enter", "(II)Z"⟩, 11), (⟨"ColourForests$Survey", "note", "(II)V"⟩, 11), (⟨"ColourForests$Survey", "noteForest", "(I)V"⟩, 11), (⟨"ColourForests$Survey", "noteCommon", "(III)V"⟩, 11), (⟨"ColourForests", "judgeOf", "(I)LColourForests$Kind;"⟩, 4), (⟨"ColourForests", "isCommon", "(I)Z"⟩, 4), (⟨"ColourForests", "leastWitness", "()I"⟩, 4), (⟨"ColourForests", "leastSplit", "(LColourForests$Kind;LColourForests$Kind;)I"⟩, 4), (⟨"ColourForests", "greatestWitness", "()I"⟩, 4), (⟨"ColourForests", "dearestAreSuch", "()Z"⟩, 4), (⟨"ColourForests", "gainsNeverRise", "()Z"⟩, 4), (⟨"ColourForests", "isWitness", "(I)Z"⟩, 4), (⟨"java/lang/Throwable", "fillInStackTrace", "(I)Ljava/lang/Throwable;"⟩, 6)]
theorem lw_r1 : ∀ q ∈ lw_privs_1, lw_okq q := List.forall_mem_cons.mpr ⟨lw_p0, List.forall_mem_cons.mpr ⟨lw_p1, List.forall_mem_cons.mpr ⟨lw_p2, List.forall_mem_cons.mpr ⟨lw_p3, List.forall_mem_cons.mpr ⟨lw_p4, List.forall_mem_cons.mpr ⟨lw_p5, List.forall_mem_cons.mpr ⟨lw_p6, List.forall_mem_cons.mpr ⟨lw_p7, List.forall_mem_cons.mpr ⟨lw_p8, List.forall_mem_cons.mpr ⟨lw_p9, List.forall_mem_cons.mpr ⟨lw_p10, List.forall_mem_cons.mpr ⟨lw_p11, List.forall_mem_cons.mpr ⟨lw_p12, List.forall_mem_cons.mpr ⟨lw_p13, List.forall_mem_cons.mpr ⟨lw_p14, List.forall_mem_cons.mpr ⟨lw_p15, fun _ h => absurd h List.not_mem_nil⟩⟩⟩⟩⟩⟩⟩⟩⟩⟩⟩⟩⟩⟩⟩⟩
theorem lw_p16 : lw_okq (⟨"ColourForestsModel", "refuses", "(I)Z"⟩, 16) := ⟨⟨by decide +kernel, by decide +kernel⟩, List.mem_of_getElem? (i := 519) (by decide +kernel), List.mem_of_getElem? (i := 584) (by decide +kernel), List.mem_of_getElem? (i := 585) (by decide +kernel)⟩
theorem lw_p17 : lw_okq (⟨"ColourForestsModel", "learn", "()V"⟩, 16) := ⟨⟨by decide +kernel, by decide +kernel⟩, List.mem_of_getElem? (i := 519) (by decide +kernel), List.mem_of_getElem? (i := 607) (by decide +kernel), List.mem_of_getElem? (i := 608) (by decide +kernel)⟩
theorem lw_p18 : lw_okq (⟨"ColourForestsModel", "hasNoRing", "(I)Z"⟩, 16) := ⟨⟨by decide +kernel, by decide +kernel⟩, List.mem_of_getElem? (i := 519) (by decide +kernel), List.mem_of_getElem? (i := 611) (by decide +kernel), List.mem_of_getElem? (i := 612) (by decide +kernel)⟩
theorem lw_p19 : lw_okq (⟨"ColourForestsModel", "keepsLimits", "(I)Z"⟩, 16) := ⟨⟨by decide +kernel, by decide +kernel⟩, List.mem_of_getElem? (i := 519) (by decide +kernel), List.mem_of_getElem? (i := 618) (by decide +kernel), List.mem_of_getElem? (i := 619) (by decide +kernel)⟩
theorem lw_p20 : lw_okq (⟨"ColourForestsModel", "weightOf", "(I)I"⟩, 16) := ⟨⟨by decide +kernel, by decide +kernel⟩, List.mem_of_getElem? (i := 519) (by decide +kernel), List.mem_of_getElem? (i := 625) (by decide +kernel), List.mem_of_getElem? (i := 626) (by decide +kernel)⟩
theorem lw_p21 : lw_okq (⟨"ColourForestsModel", "isSet", "(I)Z"⟩, 16) := ⟨⟨by decide +kernel, by decide +kernel⟩, List.mem_of_getElem? (i := 519) (by decide +kernel), List.mem_of_getElem? (i := 636) (by decide +kernel), List.mem_of_getElem? (i := 637) (by decide +kernel)⟩
def lw_privs_2 : List (MethodName × Nat) := [(⟨"ColourForestsModel", "refuses", "(I)Z"⟩, 16), (⟨"ColourForestsModel", "learn", "()V"⟩, 16), (⟨"ColourForestsModel", "hasNoRing", "(I)Z"⟩, 16), (⟨"ColourForestsModel", "keepsLimits", "(I)Z"⟩, 16), (⟨"ColourForestsModel", "weightOf", "(I)I"⟩, 16), (⟨"ColourForestsModel", "isSet", "(I)Z"⟩, 16)]
theorem lw_r2 : ∀ q ∈ lw_privs_2, lw_okq q := List.forall_mem_cons.mpr ⟨lw_p16, List.forall_mem_cons.mpr ⟨lw_p17, List.forall_mem_cons.mpr ⟨lw_p18, List.forall_mem_cons.mpr ⟨lw_p19, List.forall_mem_cons.mpr ⟨lw_p20, List.forall_mem_cons.mpr ⟨lw_p21, fun _ h => absurd h List.not_mem_nil⟩⟩⟩⟩⟩⟩
def lw_privs : List (MethodName × Nat) := lw_privs_1 ++ (lw_privs_2)
def lw_tbl : List Cond := k2_sels lw_privs ++ tables_1
theorem lw_privs_ok : ∀ q ∈ lw_privs, lw_okq q := by
  show ∀ q ∈ lw_privs_1 ++ (lw_privs_2), lw_okq q
  exact List.forall_mem_append.mpr ⟨lw_r1, lw_r2⟩
end
section
/-! ===== BEGIN words of one list among another's, by their places ===== -/
theorem goodIn_r {big : List Cond} (ws : List Cond) (ps : List Nat) (hp : ws = ps.filterMap (fun i => big[i]?)) (h : ws.all goodWord = true) : GoodIn big ws := by
  intro w hw
  have h1 := List.all_eq_true.mp h w hw
  rw [hp] at hw
  obtain ⟨i, -, hi⟩ := List.mem_filterMap.mp hw
  have hm : w ∈ big := by first | exact List.mem_of_getElem? hi | exact List.getElem?_mem hi
  exact ⟨hm, good_of_word h1⟩
theorem goodIn_app {big a b : List Cond} (ha : GoodIn big a) (hb : GoodIn big b) : GoodIn big (a ++ b) := fun w h => (List.mem_append.mp h).elim (ha w) (hb w)
theorem goodIn_ca {big a b : List Cond} {c : Cond} (ha : GoodIn big (c :: a)) (hb : GoodIn big b) : GoodIn big (c :: (a ++ b)) := fun w h => (List.mem_cons.mp h).elim (fun e => ha w (List.mem_cons.mpr (Or.inl e))) (fun h => (List.mem_append.mp h).elim (fun h => ha w (List.mem_cons.mpr (Or.inr h))) (hb w))
theorem goodIn_sub {big ws : List Cond} (hm : ∀ w ∈ ws, w ∈ big) (h : ws.all goodWord = true) : GoodIn big ws := fun w hw => ⟨hm w hw, good_of_word (List.all_eq_true.mp h w hw)⟩
/-! ===== END ===== -/

/-! ===== BEGIN exceptions that leave a method, and their catching by the caller (launches without stack traces) ===== -/
section VXA
/-! The laws vx_back, vx_callV, vx_callS, vx_callSW, vx_throw0, vx_throwS follow proofs of the library, with one case more: JvmDerived/Free/Laws.lean (Back.of_free), Shelf42/LK1.lean (callV, callS), Shelf/KitTraced.lean (throwNew0V, throwNewS). -/
/-- where a method has thrown q: the class by its name, the cell, what was written, the world -/
def vx_T (XC : String → State → State → Prop) (st : State) (q : Addr) (t : State) (mc ms : Nat) (free : Addr → Prop) : Prop :=
  ∃ (E : String) (ce : Cell) (L : List Loc), XC E st t ∧ t.heap[q]? = some ce ∧ ce.vm = .none ∧ st.vm.findClass E = some ce.cls ∧ st.WarmedH t.vm ∧ st.sameButNew ({ t with vm := st.vm } : State) L mc ms ∧ ∀ z ∈ L, free z.base
def vx_Q (Qc : Array Value → State → Outcome → State → Prop) (XC : String → State → State → Prop) (mc ms : Nat) (free : Addr → Prop) : Array Value → State → Outcome → State → Prop := fun a st o t =>
  (Qc a st o t ∧ ∃ L, FrameEnd st o t L mc ms ∧ ∀ q ∈ L, free q.base) ∨ ∃ q, o = .threw q ∧ vx_T XC st q t mc ms free
/-- a callee that returns or throws -/
def vx_Met (l : Launch) (y : MethodName) (ws : List Cond) (rm : Room) (Pc : Array Value → State → Prop) (Qc : Array Value → State → Outcome → State → Prop) (XC : String → State → State → Prop) (mc ms : Nat) (free : Addr → Prop) : Prop :=
  MetFree l y (headSpec ws rm) Pc (fun _ _ _ _ _ => True) (vx_Q Qc XC mc ms free)
def vx_Post (XC : String → State → State → Prop) (mc ms : Nat) (free : Addr → Prop) : Pt → Array Value → Addr → Pt → Prop := fun A a q B =>
  ∃ (g : JFrame) (mk : MethodId) (t : State) (L : List Loc) (E : String) (ce : Cell), B.U.heap = t.heap ∧ B.U.vm = t.vm ∧ XC E (A.U.calling g mk a) t ∧ t.heap[q]? = some ce ∧ ce.vm = .none ∧ A.U.vm.findClass E = some ce.cls ∧ B.locs = A.locs ++ L ∧ (∀ z ∈ L, free z.base) ∧ B.cells = A.cells + mc ∧ B.slots = A.slots + ms
def vx_Back (l : Launch) (R : Room) (p : Program) (e : Env) (below : List Frame) (s : State) (sargs : Array Value) (y : MethodName) (len W9 : Nat)
    (Pre : Pt → Array Value → Prop) (Post : Pt → Array Value → Option Value → Pt → Prop) (PostX : Pt → Array Value → Addr → Pt → Prop) : Prop :=
  ∀ (m : MethodId) (meth : Method) (c : Code) (A : Pt) (g : JFrame) (ig : Instr) (mk : MethodId) (a : Array Value),
    Stand p l e R s m sargs below meth c A.U A.locs A.cells A.slots → g.method = m → g.locals.size = c.maxLocals → decode c.code g.pc = .ok (ig, len) →
    2 * g.monitorRoom + (g.stack.map fun v => v.category).sum ≤ W9 → A.U.methodNamed? y = some mk → Pre A a →
    (∃ (v : Option Value) (B : Pt), Stand p l e R s m sargs below meth c B.U B.locs B.cells B.slots ∧ Post A a v B ∧
      Steps p.tables e below (doInvoke e (A.U.setTop g) [] mk a).1 (B.U.setTop { g with pc := g.pc + len, stack := v.toList ++ g.stack })) ∨
    (∃ (q : Addr) (B : Pt), Stand p l e R s m sargs below meth c B.U B.locs B.cells B.slots ∧ PostX A a q B ∧
      Steps p.tables e below (doInvoke e (A.U.setTop g) [] mk a).1 ((B.U.setTop g).pushFrame (.throwing q)))
section Payer
variable {l : Launch} {R : Room} {p : Program} {e : Env} {below : List Frame} {s : State} {sargs : Array Value} {y : MethodName} {len W9 : Nat}
theorem vx_back {ws : List Cond} {rm : Room} {Pc : Array Value → State → Prop} {Qc : Array Value → State → Outcome → State → Prop} {XC : String → State → State → Prop} {mc ms : Nat} {free : Addr → Prop} {bytes : ByteArray} {maxL : Nat} {ret : Option FieldType}
    (hM : vx_Met l y ws rm Pc Qc XC mc ms free) (hblind : FrameBlind Pc) (hrc : rm.cells = mc) (hrs : rm.slots = ms)
    (hframes : rm.frames + 1 ≤ R.frames) (hlocals : W9 + (maxL + 11) + rm.locals ≤ R.locals)
    (hws : ∀ w ∈ ws, ∀ a' U, s.WarmedH U.vm → w.before a' U = true) (hcode : Cond.code y bytes maxL ret ∈ ws) (hinit : ∀ a' U, s.WarmedH U.vm → (Cond.initialized y.cls).before a' U = true) :
    vx_Back l R p e below s sargs y len W9 (PreOf R mc ms Pc) (PostOf Qc mc ms free) (vx_Post XC mc ms free) := by
  intro m meth c A g ig mk a X hg hsize hdg hW hn hp
  have h1 : (headSpec ws rm).pre.before a A.U = true := atoms_intro fun w hw => hws w hw _ _ X.warmed
  have h2 : (Cond.code y bytes maxL ret).before a A.U = true := hws _ hcode _ _ X.warmed
  have h3 : (Cond.initialized y.cls).before a A.U = true := hinit _ _ X.warmed
  have h4 : A.cells + (headSpec ws rm).room.cells ≤ R.cells := by rw [show (headSpec ws rm).room.cells = mc from hrc]; exact hp.1
  have h5 : A.slots + (headSpec ws rm).room.slots ≤ R.slots := by rw [show (headSpec ws rm).room.slots = ms from hrs]; exact hp.2.1
  have hPc : Pc a (A.U.calling g mk a) := hblind _ _ _ _ hp.2.2
  obtain ⟨U, Ls, c0, s0⟩ := A
  dsimp only [Pt.U, Pt.locs, Pt.cells, Pt.slots] at h1 h2 h3 h4 h5 X hn hPc ⊢
  obtain ⟨methY, cY, hmY, hcY, -, hlY, -, -, -, -⟩ := Cond.code_spec hn h2
  obtain ⟨kY, hkY, -⟩ := className_of_methodNamed hn
  have hinitY : kY.init = .initialized := Cond.initialized_spec (findClass_of_methodNamed hn) hkY h3
  have h : At U g.method c below := by rw [hg]; exact X.here
  have hlocals9 : W9 + (maxL + 11) + (headSpec ws rm).room.locals ≤ R.locals := hlocals
  have happ : (headSpec ws rm).appliesLoose y e.platform (U.calling g mk a) = true :=
    Spec.appliesLoose_calling (g := g) h hdg hn hkY hinitY
      (X.room_calling (g := g) (R' := (headSpec ws rm).room) hsize hmY hcY hframes (by rw [hlY]; omega) h4 h5) h1
  obtain ⟨mid, hmid⟩ := h.above
  have hfr : (U.setTop g).frames = (.java g :: mid) ++ below := by rw [State.frames_setTop' g h.top, hmid]; rfl
  obtain ⟨o, s₂, hsteps, -, hend, hq⟩ := Steps.callFree hM p X.admits X.cas X.clock (acts := []) hfr happ hPc trivial
  have hq' : vx_Q Qc XC mc ms free a (U.calling g mk a) o s₂ := hq
  rw [State.frames_setTop' g h.top] at hend
  obtain ⟨g₀, hg0⟩ := Option.isSome_iff_exists.mp h.top
  obtain ⟨r, hr⟩ := State.topJava?_eq_some.mp hg0
  have hr' : (({ U with heap := s₂.heap, slotsUsed := s₂.slotsUsed } : State).setVm s₂.vm).frames = .java g₀ :: r := hr
  rcases hq' with ⟨hqc, L, hfe, hL⟩ | ⟨q, rfl, E, ce, L, hx, hce, hcv, hcl, hW₂, hsm, hL⟩
  · obtain ⟨⟨v, rfl⟩, hW₂, e2, q2, q3, q4, q5, q6⟩ := id hfe
    have e3 : s₂ = ({ (U.calling g mk a).setFrames s₂.frames with heap := s₂.heap, slotsUsed := s₂.slotsUsed } : State).setVm s₂.vm := by
      have : s₂ = ({ s₂ with vm := (U.calling g mk a).vm } : State).setVm s₂.vm := rfl
      rw [e2] at this
      exact this
    obtain ⟨c₂, i₂, len₂, hc₂, hd₂, hf₂⟩ := hend
    have hW' : U.WarmedH s₂.vm := hW₂
    have hcc : c₂ = c := by
      have h1 : s₂.code? g.method = U.code? g.method := by
        rw [State.code?_eq, State.code?_eq, hW'.alike.method?]
      exact Option.some.inj (hc₂.symm.trans (h1.trans h.code))
    subst hcc
    have hlen : len₂ = len := by rw [hdg] at hd₂; cases hd₂; rfl
    subst hlen
    have hs₂ : s₂ = (({ U with heap := s₂.heap, slotsUsed := s₂.slotsUsed } : State).setVm s₂.vm).setTop { g with pc := g.pc + len₂, stack := v.toList ++ g.stack } := by
      refine e3.trans ?_
      rw [hf₂, State.calling_eq h.top, State.setFrames_setFrames, State.setTop_of_frames _ hr', hr]
      rfl
    have hsame : U.sameButNew ({ U with heap := s₂.heap, slotsUsed := s₂.slotsUsed } : State) L mc ms := by
      refine ⟨?_, q2, q3, q4, q5, q6⟩
      obtain ⟨t, ht, -⟩ := State.frames_cons hr
      show ({ U with heap := s₂.heap, slotsUsed := s₂.slotsUsed } : State) = { U.setFrames U.frames with heap := s₂.heap, slotsUsed := s₂.slotsUsed }
      rw [State.setFrames_self ht]
    subst hg
    refine Or.inl ⟨v, ⟨(({ U with heap := s₂.heap, slotsUsed := s₂.slotsUsed } : State).setVm s₂.vm), Ls ++ L, c0 + mc, s0 + ms⟩,
      ⟨X.admits, X.cas, X.clock, X.frames, X.room, X.hears, X.method, X.code, (X.here.setHeapUsed s₂.heap s₂.slotsUsed).setVm hW'.alike, X.tail, State.WarmedH.trans X.warmed hW', X.limits, X.bytes, X.same.trans (hsame.setVm s.vm)⟩,
      ⟨g, mk, s₂, L, rfl, rfl, hqc, rfl, hL, rfl, rfl⟩, ?_⟩
    show Steps p.tables e below _ ((({ U with heap := s₂.heap, slotsUsed := s₂.slotsUsed } : State).setVm s₂.vm).setTop { g with pc := g.pc + len₂, stack := v.toList ++ g.stack })
    rw [← hs₂]
    exact hsteps
  · obtain ⟨e2, q2, q3, q4, q5, q6⟩ := id hsm
    have e3 : s₂ = ({ (U.calling g mk a).setFrames s₂.frames with heap := s₂.heap, slotsUsed := s₂.slotsUsed } : State).setVm s₂.vm := by
      have : s₂ = ({ s₂ with vm := (U.calling g mk a).vm } : State).setVm s₂.vm := rfl
      rw [e2] at this
      exact this
    have hf₂ : s₂.frames = .throwing q :: .java g :: U.frames.tail := hend
    have hW' : U.WarmedH s₂.vm := hW₂
    have hs₂ : s₂ = ((({ U with heap := s₂.heap, slotsUsed := s₂.slotsUsed } : State).setVm s₂.vm).setTop g).pushFrame (.throwing q) := by
      refine e3.trans ?_
      rw [hf₂, State.calling_eq h.top, State.setFrames_setFrames, State.pushFrame, State.frames_setTop _ hr', State.setTop_of_frames _ hr', State.setFrames_setFrames, hr]
      rfl
    have hsame : U.sameButNew ({ U with heap := s₂.heap, slotsUsed := s₂.slotsUsed } : State) L mc ms := by
      refine ⟨?_, q2, q3, q4, q5, q6⟩
      obtain ⟨t, ht, -⟩ := State.frames_cons hr
      show ({ U with heap := s₂.heap, slotsUsed := s₂.slotsUsed } : State) = { U.setFrames U.frames with heap := s₂.heap, slotsUsed := s₂.slotsUsed }
      rw [State.setFrames_self ht]
    subst hg
    refine Or.inr ⟨q, ⟨(({ U with heap := s₂.heap, slotsUsed := s₂.slotsUsed } : State).setVm s₂.vm), Ls ++ L, c0 + mc, s0 + ms⟩,
      ⟨X.admits, X.cas, X.clock, X.frames, X.room, X.hears, X.method, X.code, (X.here.setHeapUsed s₂.heap s₂.slotsUsed).setVm hW'.alike, X.tail, State.WarmedH.trans X.warmed hW', X.limits, X.bytes, X.same.trans (hsame.setVm s.vm)⟩,
      ⟨g, mk, s₂, L, E, ce, rfl, rfl, hx, hce, hcv, hcl, rfl, hL, rfl, rfl⟩, ?_⟩
    show Steps p.tables e below _ (((({ U with heap := s₂.heap, slotsUsed := s₂.slotsUsed } : State).setVm s₂.vm).setTop g).pushFrame (.throwing q))
    rw [← hs₂]
    exact hsteps
end Payer
section Calls
variable {p : Program} {l : Launch} {e : Env} {R : Room} {s : State} {m : MethodId} {args : Array Value} {below : List Frame} {meth : Method} {c : Code} {T : State} {locs : List Loc} {cells slots : Nat}
theorem vx_callV (X : Stand p l e R s m args below meth c T locs cells slots) (hexec : p.tables.exec = Jvm.exec) {own C : String} {index : Nat} {y : MethodName} {bytes : ByteArray} {maxL : Nat} {ret : Option FieldType}
    (hown : s.vm.findClass own = some m.cls) (hlink : (Cond.methodLink own index y).before args s = true) (hinst : (Cond.instanceMethod y).before args s = true) (hsel : (Cond.selects C y y).before args s = true)
    (hcode : (Cond.code y bytes maxL ret).before args s = true) (hy : y.cls ≠ "java/lang/invoke/MethodHandle" ∧ y.cls ≠ "java/lang/invoke/VarHandle")
    {W9 : Nat} {Pre : Pt → Array Value → Prop} {Post : Pt → Array Value → Option Value → Pt → Prop} {PostX : Pt → Array Value → Addr → Pt → Prop} (hK : vx_Back l R p e below s args y 3 W9 Pre Post PostX)
    {b : Addr} {cellB : Cell} (hcell : T.heap[b]? = some cellB) (hobj : cellB.vm.isStatics = false) (hcls : s.vm.findClass C = some cellB.cls)
    {g : JFrame} (hg : g.method = m) (hsize : g.locals.size = c.maxLocals) {argsL rest : List Value} (hlen : ∀ sig, parseMethodDescriptor y.desc = some sig → argsL.length = sig.parameters.length)
    (hstack : g.stack = argsL.reverse ++ .ref b :: rest) (hW : 2 * g.monitorRoom + (rest.map fun v => v.category).sum ≤ W9) (hdg : decode c.code g.pc = .ok (.invokevirtual index, 3))
    (hpre : ∀ vm₁, s.WarmedH vm₁ → Pre ⟨T.setVm vm₁, locs, cells, slots⟩ (Value.ref b :: argsL).toArray) :
    (∃ (v : Option Value) (vm₁ : Vm) (B : Pt), s.WarmedH vm₁ ∧ Stand p l e R s m args below meth c B.U B.locs B.cells B.slots ∧ Post ⟨T.setVm vm₁, locs, cells, slots⟩ (Value.ref b :: argsL).toArray v B ∧
      ∀ target, Steps p.tables e below (B.U.setTop { g with pc := g.pc + 3, stack := v.toList ++ rest }) target → Steps p.tables e below (T.setTop g) target) ∨
    (∃ (q : Addr) (vm₁ : Vm) (B : Pt), s.WarmedH vm₁ ∧ Stand p l e R s m args below meth c B.U B.locs B.cells B.slots ∧ PostX ⟨T.setVm vm₁, locs, cells, slots⟩ (Value.ref b :: argsL).toArray q B ∧
      Steps p.tables e below (T.setTop g) ((B.U.setTop { g with stack := rest }).pushFrame (.throwing q))) := by
  obtain ⟨mk, methM, hnamed, hmethM, hstM, habM⟩ := Cond.instanceMethod_spec hinst
  obtain ⟨methM', cM, hmethM', -, -, -, -, -, -, hsigM⟩ := Cond.code_spec hnamed hcode
  cases hmethM.symm.trans hmethM'
  obtain ⟨c2, r2, m2, q1, q2, q3, q4, kP, hkP, hkPi⟩ := Cond.selects_spec hsel
  cases hcls.symm.trans q1
  cases (State.methodFound?_of_named hnamed hy).symm.trans q2
  cases hnamed.symm.trans q3
  have hselP : selectMethod e.platform s.vm cellB.cls mk = .method mk := by rw [Launch.admits_selectMethod X.admits]; exact q4
  obtain ⟨vm₁, X₁, hstep₁⟩ := X.invokevirtual hexec hown hlink hnamed hmethM hstM hkP hkPi hy (a := b) (cell := cellB) hcell
    (fun z h => by rw [h] at hobj; cases hobj) hselP hmethM habM hkP hkPi (g := g) hg (argsL := argsL) (rest := rest) (hlen _ hsigM) hstack hdg
  rcases hK m meth c ⟨T.setVm vm₁, locs, cells, slots⟩ { g with stack := rest } (.invokevirtual index) mk (Value.ref b :: argsL).toArray X₁ hg hsize hdg hW (X₁.named hnamed) (hpre vm₁ X₁.warmed) with ⟨v, B, X', hpost, hsteps⟩ | ⟨q, B, X', hpost, hsteps⟩
  · exact Or.inl ⟨v, vm₁, B, X₁.warmed, X', hpost, fun target h => hstep₁ _ fun acts => by rw [doInvoke_state]; exact hsteps.trans h⟩
  · exact Or.inr ⟨q, vm₁, B, X₁.warmed, X', hpost, hstep₁ _ fun acts => by rw [doInvoke_state]; exact hsteps⟩
theorem vx_callS (X : Stand p l e R s m args below meth c T locs cells slots) (hexec : p.tables.exec = Jvm.exec) {own : String} {index : Nat} {y : MethodName} {bytes : ByteArray} {maxL : Nat} {ret : Option FieldType}
    (hown : s.vm.findClass own = some m.cls) (hlink : (Cond.methodLink own index y).before args s = true) (hstat : (Cond.static y).before args s = true) (hinit : (Cond.initialized y.cls).before args s = true)
    (hcode : (Cond.code y bytes maxL ret).before args s = true) (hy : y.cls ≠ "java/lang/invoke/MethodHandle" ∧ y.cls ≠ "java/lang/invoke/VarHandle")
    {W9 : Nat} {Pre : Pt → Array Value → Prop} {Post : Pt → Array Value → Option Value → Pt → Prop} {PostX : Pt → Array Value → Addr → Pt → Prop} (hK : vx_Back l R p e below s args y 3 W9 Pre Post PostX)
    {g : JFrame} (hg : g.method = m) (hsize : g.locals.size = c.maxLocals) {argsL rest : List Value} (hlen : ∀ sig, parseMethodDescriptor y.desc = some sig → argsL.length = sig.parameters.length)
    (hstack : g.stack = argsL.reverse ++ rest) (hW : 2 * g.monitorRoom + (rest.map fun v => v.category).sum ≤ W9) (hdg : decode c.code g.pc = .ok (.invokestatic index, 3))
    (hpre : ∀ vm₁, s.WarmedH vm₁ → Pre ⟨T.setVm vm₁, locs, cells, slots⟩ argsL.toArray) :
    (∃ (v : Option Value) (vm₁ : Vm) (B : Pt), s.WarmedH vm₁ ∧ Stand p l e R s m args below meth c B.U B.locs B.cells B.slots ∧ Post ⟨T.setVm vm₁, locs, cells, slots⟩ argsL.toArray v B ∧
      ∀ target, Steps p.tables e below (B.U.setTop { g with pc := g.pc + 3, stack := v.toList ++ rest }) target → Steps p.tables e below (T.setTop g) target) ∨
    (∃ (q : Addr) (vm₁ : Vm) (B : Pt), s.WarmedH vm₁ ∧ Stand p l e R s m args below meth c B.U B.locs B.cells B.slots ∧ PostX ⟨T.setVm vm₁, locs, cells, slots⟩ argsL.toArray q B ∧
      Steps p.tables e below (T.setTop g) ((B.U.setTop { g with stack := rest }).pushFrame (.throwing q))) := by
  obtain ⟨mk, hnamed⟩ := Cond.code_named hcode
  obtain ⟨methM, cM, hmethM, -, -, -, -, -, -, hsigM⟩ := Cond.code_spec hnamed hcode
  have hstatic : methM.isStatic = true := Cond.static_spec hnamed hmethM hstat
  obtain ⟨kP, hkP, -⟩ := className_of_methodNamed hnamed
  have hinitP : kP.init = .initialized := Cond.initialized_spec (findClass_of_methodNamed hnamed) hkP hinit
  obtain ⟨vm₁, X₁, hstep₁⟩ := X.invokestatic hexec hown hlink hnamed hmethM hstatic hkP hinitP hy (g := g) hg (argsL := argsL) (rest := rest) (hlen _ hsigM) hstack hdg
  rcases hK m meth c ⟨T.setVm vm₁, locs, cells, slots⟩ { g with stack := rest } (.invokestatic index) mk argsL.toArray X₁ hg hsize hdg hW (X₁.named hnamed) (hpre vm₁ X₁.warmed) with ⟨v, B, X', hpost, hsteps⟩ | ⟨q, B, X', hpost, hsteps⟩
  · exact Or.inl ⟨v, vm₁, B, X₁.warmed, X', hpost, fun target h => hstep₁ _ fun acts => by rw [doInvoke_state]; exact hsteps.trans h⟩
  · exact Or.inr ⟨q, vm₁, B, X₁.warmed, X', hpost, hstep₁ _ fun acts => by rw [doInvoke_state]; exact hsteps⟩
end Calls
theorem vx_cls {s : State} {T : State} {vm₁ : Vm} {E : String} {k : ClassId} (hW : s.WarmedH vm₁) (h : (T.setVm vm₁).vm.findClass E = some k) : s.vm.findClass E = some k := by
  have h1 : vm₁.findClass E = some k := h
  rw [hW.alike.findClass] at h1
  exact h1
/-- the method's frame g, with q thrown over it -/
def vx_W (p : Program) (l : Launch) (e : Env) (R : Room) (s : State) (m : MethodId) (args : Array Value) (below : List Frame) (meth : Method) (c : Code) (H : Heap) (locs : List Loc) (cells slots : Nat) (Q : State → Prop) (g : JFrame) (q : Addr) : Prop :=
  ∀ T : State, T.heap = H → Stand p l e R s m args below meth c T locs cells slots → ∃ t, Steps p.tables e below ((T.setTop g).pushFrame (.throwing q)) t ∧ Q t
def vx_Run (p : Program) (l : Launch) (e : Env) (R : Room) (s : State) (m : MethodId) (args : Array Value) (below : List Frame) (meth : Method) (c : Code) (H : Heap) (locs : List Loc) (cells slots mc ms : Nat) (g : JFrame) (rest : List Value) (Qa : State → Outcome → State → Prop) (XC : String → State → State → Prop) (free : Addr → Prop) : Prop :=
  ∀ T : State, T.heap = H → Stand p l e R s m args below meth c T locs cells slots →
    (∃ (v : Option Value) (st₀ t T' : State) (L : List Loc), st₀.heap = H ∧ Stand p l e R s m args below meth c T' (locs ++ L) (cells + mc) (slots + ms) ∧ (∀ q ∈ L, free q.base) ∧ T'.heap = t.heap ∧ T'.vm = t.vm ∧ Qa st₀ (.returned v) t ∧
      Goes p e below T g T' { g with pc := g.pc + 3, stack := v.toList ++ rest }) ∨
    (∃ (q : Addr) (st₀ t T' : State) (L : List Loc) (E : String) (ce : Cell), st₀.heap = H ∧ Stand p l e R s m args below meth c T' (locs ++ L) (cells + mc) (slots + ms) ∧ (∀ z ∈ L, free z.base) ∧ T'.heap = t.heap ∧ T'.vm = t.vm ∧ XC E st₀ t ∧ t.heap[q]? = some ce ∧ ce.vm = .none ∧ s.vm.findClass E = some ce.cls ∧
      Steps p.tables e below (T.setTop g) ((T'.setTop { g with stack := rest }).pushFrame (.throwing q)))
def vx_X {S : Type} (px : S → Prop) (B : String → S → State → Prop) (A : Nat → Prop) : String → State → State → Prop := fun E st t => ∃ u : S, px u ∧ B E u t ∧ va_F A st t
section Runs
variable {p : Program} {l : Launch} {e : Env} {R : Room} {s : State} {m : MethodId} {args : Array Value} {below : List Frame} {meth : Method} {c : Code} {H : Heap} {locs : List Loc} {cells slots : Nat}
variable {y : MethodName} {bytes cc : ByteArray} {maxL nL mc ms n index : Nat} {ret : Option FieldType} {ws : List Cond} {rm : Room} {Pc : Array Value → State → Prop} {Qc : Array Value → State → Outcome → State → Prop} {XC : String → State → State → Prop} {free : Addr → Prop} {Ts : List Cond} {own C : String} {b : Addr} {As rest : List Value} {g : JFrame}
theorem vx_callBack (cb : CallB R s args own index y bytes maxL ret ws rm mc ms n) (hM : vx_Met l y ws rm Pc Qc XC mc ms free) (hbl : FrameBlind Pc) : vx_Back l R p e below s args y 3 8 (PreOf R mc ms Pc) (PostOf Qc mc ms free) (vx_Post XC mc ms free) := by
  obtain ⟨hrc, hrs, hfr, hlo, hws, hcw, -, hini, -⟩ := cb
  exact vx_back (bytes := bytes) (maxL := maxL) (ret := ret) hM hbl hrc hrs hfr hlo hws hcw (fun a' U hW => word_at hW (Or.inl (by first | rfl | simp [Cond.onTables, Cond.keeps, Cond.steady])) hini)
theorem vx_runV (S : CallFix p m c cc nL s args Ts own) (hM : vx_Met l y ws rm Pc Qc XC mc ms free) (cw : CallW R s args own C index y bytes maxL ret ws rm mc ms n) (hp : PreV s H C b Pc As)
    (hg : g.method = m) (hn : As.length = n) (hsize : g.locals.size = nL) (hstack : g.stack = As.reverse ++ .ref b :: rest) (hW : 2 * g.monitorRoom + (rest.map fun v => v.category).sum ≤ 8) (hdg : decode cc g.pc = .ok (.invokevirtual index, 3)) (hf : cells + mc ≤ R.cells ∧ slots + ms ≤ R.slots) :
    vx_Run p l e R s m args below meth c H locs cells slots mc ms g rest (Qc (Value.ref b :: As).toArray) XC free := by
  have hK : vx_Back l R p e below s args y 3 8 (PreOf R mc ms Pc) (PostOf Qc mc ms free) (vx_Post XC mc ms free) := vx_callBack cw.1 hM hp.1
  obtain ⟨⟨-, -, -, -, -, -, hcode, -, hy, hlen, hl⟩, hin, hse⟩ := cw
  obtain ⟨hx, hb, hml, ho, -⟩ := S
  obtain ⟨-, ⟨cellB, hcB, hoB, hclB⟩, hPc⟩ := hp
  intro T hT X
  rcases vx_callV X hx (C := C) (bytes := bytes) (maxL := maxL) (ret := ret) ho hl hin hse hcode hy hK (by rw [hT]; exact hcB) hoB hclB hg (hsize.trans hml.symm) (argsL := As) (rest := rest) (fun sig h => hn.trans (hlen sig h)) hstack hW (by rw [hb]; exact hdg)
    (fun vm₁ hW₁ => ⟨hf.1, hf.2, hPc (T.setVm vm₁) hT hW₁⟩) with ⟨v, vm₁, ⟨U', l2, c2, s2⟩, hW₁, X', ⟨g', mk, t, L, e1, e2, hq, h1, hL, h2, h3⟩, st⟩ | ⟨q, vm₁, ⟨U', l2, c2, s2⟩, hW₁, X', ⟨g', mk, t, L, E, ce, e1, e2, hq, hce, hcv, hcl, h1, hL, h2, h3⟩, st⟩
  · dsimp only [Pt.U, Pt.locs, Pt.cells, Pt.slots] at X' e1 e2 h1 h2 h3 st
    subst h1; subst h2; subst h3
    exact Or.inl ⟨v, (T.setVm vm₁).calling g' mk (Value.ref b :: As).toArray, t, U', L, hT, X', hL, e1, e2, hq, st⟩
  · dsimp only [Pt.U, Pt.locs, Pt.cells, Pt.slots] at X' e1 e2 h1 h2 h3 st hcl
    subst h1; subst h2; subst h3
    exact Or.inr ⟨q, (T.setVm vm₁).calling g' mk (Value.ref b :: As).toArray, t, U', L, E, ce, hT, X', hL, e1, e2, hq, hce, hcv, vx_cls hW₁ hcl, st⟩
theorem vx_runS (S : CallFix p m c cc nL s args Ts own) (hM : vx_Met l y ws rm Pc Qc XC mc ms free) (cw : CallB R s args own index y bytes maxL ret ws rm mc ms n ∧ (Cond.static y).before args s = true) (hp : PreS s H Pc As)
    (hg : g.method = m) (hn : As.length = n) (hsize : g.locals.size = nL) (hstack : g.stack = As.reverse ++ rest) (hW : 2 * g.monitorRoom + (rest.map fun v => v.category).sum ≤ 8) (hdg : decode cc g.pc = .ok (.invokestatic index, 3)) (hf : cells + mc ≤ R.cells ∧ slots + ms ≤ R.slots) :
    vx_Run p l e R s m args below meth c H locs cells slots mc ms g rest (Qc As.toArray) XC free := by
  have hK : vx_Back l R p e below s args y 3 8 (PreOf R mc ms Pc) (PostOf Qc mc ms free) (vx_Post XC mc ms free) := vx_callBack cw.1 hM hp.1
  obtain ⟨⟨-, -, -, -, -, -, hcode, hini, hy, hlen, hl⟩, hstt⟩ := cw
  obtain ⟨hx, hb, hml, ho, -⟩ := S
  intro T hT X
  rcases vx_callS X hx (bytes := bytes) (maxL := maxL) (ret := ret) ho hl hstt hini hcode hy hK hg (hsize.trans hml.symm) (argsL := As) (rest := rest) (fun sig h => hn.trans (hlen sig h)) hstack hW (by rw [hb]; exact hdg)
    (fun vm₁ hW₁ => ⟨hf.1, hf.2, hp.2 (T.setVm vm₁) hT hW₁⟩) with ⟨v, vm₁, ⟨U', l2, c2, s2⟩, hW₁, X', ⟨g', mk, t, L, e1, e2, hq, h1, hL, h2, h3⟩, st⟩ | ⟨q, vm₁, ⟨U', l2, c2, s2⟩, hW₁, X', ⟨g', mk, t, L, E, ce, e1, e2, hq, hce, hcv, hcl, h1, hL, h2, h3⟩, st⟩
  · dsimp only [Pt.U, Pt.locs, Pt.cells, Pt.slots] at X' e1 e2 h1 h2 h3 st
    subst h1; subst h2; subst h3
    exact Or.inl ⟨v, (T.setVm vm₁).calling g' mk As.toArray, t, U', L, hT, X', hL, e1, e2, hq, st⟩
  · dsimp only [Pt.U, Pt.locs, Pt.cells, Pt.slots] at X' e1 e2 h1 h2 h3 st hcl
    subst h1; subst h2; subst h3
    exact Or.inr ⟨q, (T.setVm vm₁).calling g' mk As.toArray, t, U', L, E, ce, hT, X', hL, e1, e2, hq, hce, hcv, vx_cls hW₁ hcl, st⟩
end Runs
section Rows
variable {p : Program} {l : Launch} {e : Env} {R : Room} {s : State} {m : MethodId} {args : Array Value} {below : List Frame} {meth : Method} {c : Code} {H : Heap} {locs : List Loc} {cells slots : Nat} {Q : State → Prop}
variable {mc ms : Nat} {free : Addr → Prop} {A0 A1 : Nat → Prop} {H0 : Heap} {a : Array Value} {pc : Nat} {ls : Array Slot} {st0 rest : List Value}
theorem vx_keep {st₀ t T' : State} {L : List Loc} (h0 : st₀.heap = H) (e1 : T'.heap = t.heap) (hS : va_S A0 H0 H locs) (hA : ∀ q, q < H.size → A1 q → A0 q) (hf : ∀ q, free q → A0 q) (hL : ∀ q ∈ L, free q.base) (hF : va_F A1 st₀ t) :
    H.size ≤ T'.heap.size ∧ (∀ q : Nat, q < H.size → ¬ A1 q → T'.heap[q]? = H[q]?) ∧ va_S A0 H0 T'.heap (locs ++ L) := by
  obtain ⟨hz, hk⟩ := hF
  rw [h0] at hz hk
  exact ⟨by rw [e1]; exact hz, fun q h1 h2 => by rw [e1]; exact hk q h1 h2,
    ⟨Nat.le_trans hS.1 (by rw [e1]; exact hz), fun q h1 h2 => by rw [e1, hk q (Nat.lt_of_lt_of_le h1 hS.1) (fun z => h2 (hA q (Nat.lt_of_lt_of_le h1 hS.1) z))]; exact hS.2.1 q h1 h2, fun q hq => by
      rcases List.mem_append.mp hq with h | h
      · exact hS.2.2 q h
      · exact hf _ (hL q h)⟩⟩
theorem vx_calli {S SX : Type} {post : Int32 → S → Prop} {px : SX → Prop} {B : S → State → Prop} {BX : String → SX → State → Prop} {AX : Nat → Prop} (hr : vx_Run p l e R s m args below meth c H locs cells slots mc ms (F0 m pc ls st0) rest (va_Qi post B A1 a) (vx_X px BX AX) free) (hS : va_S A0 H0 H locs) (hA : ∀ q, q < H.size → A1 q → A0 q) (hf : ∀ q, free q → A0 q) (hAX : ∀ q, q < H.size → AX q → A0 q)
    (kx : ∀ (E : String) (ce : Cell) (q9 : Addr) (u : SX) (t : State) (H1 : Heap) (locs1 : List Loc), t.heap = H1 → s.vm.Alike t.vm → px u → BX E u t → H.size ≤ H1.size → (∀ q : Nat, q < H.size → ¬ AX q → H1[q]? = H[q]?) → va_S A0 H0 H1 locs1 → H1[q9]? = some ce → ce.vm = .none → s.vm.findClass E = some ce.cls → vx_W p l e R s m args below meth c H1 locs1 (cells + mc) (slots + ms) Q (F0 m pc ls rest) q9)
    (kk : ∀ (r : Int32) (u : S) (t : State) (H1 : Heap) (locs1 : List Loc), t.heap = H1 → s.vm.Alike t.vm → post r u → B u t → H.size ≤ H1.size → (∀ q : Nat, q < H.size → ¬ A1 q → H1[q]? = H[q]?) → va_S A0 H0 H1 locs1 → W p l e R s m args below meth c H1 locs1 (cells + mc) (slots + ms) Q (F0 m (pc + 3) ls (.int r :: rest))) : W p l e R s m args below meth c H locs cells slots Q (F0 m pc ls st0) := by
  intro T hT X
  rcases hr T hT X with ⟨v, st₀, t, T', L, h0, X', hL, e1, e2, ⟨⟨r, u, hv, hp, hb⟩, hF⟩, st⟩ | ⟨q, st₀, t, T', L, E, ce, h0, X', hL, e1, e2, ⟨u, hp, hb, hF⟩, hce, hcv, hcl, st⟩
  · cases hv
    obtain ⟨k1, k2, k3⟩ := vx_keep h0 e1 hS hA hf hL hF
    obtain ⟨t2, a1, b1⟩ := kk r u t T'.heap (locs ++ L) e1.symm (by rw [← e2]; exact X'.warmed.alike) hp hb k1 k2 k3 T' rfl X'
    exact ⟨t2, st t2 a1, b1⟩
  · obtain ⟨k1, k2, k3⟩ := vx_keep h0 e1 hS hAX hf hL hF
    obtain ⟨t2, a1, b1⟩ := kx E ce q u t T'.heap (locs ++ L) e1.symm (by rw [← e2]; exact X'.warmed.alike) hp hb k1 k2 k3 (by rw [e1]; exact hce) hcv hcl T' rfl X'
    exact ⟨t2, st.trans a1, b1⟩
theorem vx_calll {S SX : Type} {post : Int64 → S → Prop} {px : SX → Prop} {B : S → State → Prop} {BX : String → SX → State → Prop} {AX : Nat → Prop} (hr : vx_Run p l e R s m args below meth c H locs cells slots mc ms (F0 m pc ls st0) rest (va_Ql post B A1 a) (vx_X px BX AX) free) (hS : va_S A0 H0 H locs) (hA : ∀ q, q < H.size → A1 q → A0 q) (hf : ∀ q, free q → A0 q) (hAX : ∀ q, q < H.size → AX q → A0 q)
    (kx : ∀ (E : String) (ce : Cell) (q9 : Addr) (u : SX) (t : State) (H1 : Heap) (locs1 : List Loc), t.heap = H1 → s.vm.Alike t.vm → px u → BX E u t → H.size ≤ H1.size → (∀ q : Nat, q < H.size → ¬ AX q → H1[q]? = H[q]?) → va_S A0 H0 H1 locs1 → H1[q9]? = some ce → ce.vm = .none → s.vm.findClass E = some ce.cls → vx_W p l e R s m args below meth c H1 locs1 (cells + mc) (slots + ms) Q (F0 m pc ls rest) q9)
    (kk : ∀ (r : Int64) (u : S) (t : State) (H1 : Heap) (locs1 : List Loc), t.heap = H1 → s.vm.Alike t.vm → post r u → B u t → H.size ≤ H1.size → (∀ q : Nat, q < H.size → ¬ A1 q → H1[q]? = H[q]?) → va_S A0 H0 H1 locs1 → W p l e R s m args below meth c H1 locs1 (cells + mc) (slots + ms) Q (F0 m (pc + 3) ls (.long r :: rest))) : W p l e R s m args below meth c H locs cells slots Q (F0 m pc ls st0) := by
  intro T hT X
  rcases hr T hT X with ⟨v, st₀, t, T', L, h0, X', hL, e1, e2, ⟨⟨r, u, hv, hp, hb⟩, hF⟩, st⟩ | ⟨q, st₀, t, T', L, E, ce, h0, X', hL, e1, e2, ⟨u, hp, hb, hF⟩, hce, hcv, hcl, st⟩
  · cases hv
    obtain ⟨k1, k2, k3⟩ := vx_keep h0 e1 hS hA hf hL hF
    obtain ⟨t2, a1, b1⟩ := kk r u t T'.heap (locs ++ L) e1.symm (by rw [← e2]; exact X'.warmed.alike) hp hb k1 k2 k3 T' rfl X'
    exact ⟨t2, st t2 a1, b1⟩
  · obtain ⟨k1, k2, k3⟩ := vx_keep h0 e1 hS hAX hf hL hF
    obtain ⟨t2, a1, b1⟩ := kx E ce q u t T'.heap (locs ++ L) e1.symm (by rw [← e2]; exact X'.warmed.alike) hp hb k1 k2 k3 (by rw [e1]; exact hce) hcv hcl T' rfl X'
    exact ⟨t2, st.trans a1, b1⟩
theorem vx_callf {S SX : Type} {post : UInt32 → S → Prop} {px : SX → Prop} {B : S → State → Prop} {BX : String → SX → State → Prop} {AX : Nat → Prop} (hr : vx_Run p l e R s m args below meth c H locs cells slots mc ms (F0 m pc ls st0) rest (va_Qf post B A1 a) (vx_X px BX AX) free) (hS : va_S A0 H0 H locs) (hA : ∀ q, q < H.size → A1 q → A0 q) (hf : ∀ q, free q → A0 q) (hAX : ∀ q, q < H.size → AX q → A0 q)
    (kx : ∀ (E : String) (ce : Cell) (q9 : Addr) (u : SX) (t : State) (H1 : Heap) (locs1 : List Loc), t.heap = H1 → s.vm.Alike t.vm → px u → BX E u t → H.size ≤ H1.size → (∀ q : Nat, q < H.size → ¬ AX q → H1[q]? = H[q]?) → va_S A0 H0 H1 locs1 → H1[q9]? = some ce → ce.vm = .none → s.vm.findClass E = some ce.cls → vx_W p l e R s m args below meth c H1 locs1 (cells + mc) (slots + ms) Q (F0 m pc ls rest) q9)
    (kk : ∀ (r : UInt32) (u : S) (t : State) (H1 : Heap) (locs1 : List Loc), t.heap = H1 → s.vm.Alike t.vm → post r u → B u t → H.size ≤ H1.size → (∀ q : Nat, q < H.size → ¬ A1 q → H1[q]? = H[q]?) → va_S A0 H0 H1 locs1 → W p l e R s m args below meth c H1 locs1 (cells + mc) (slots + ms) Q (F0 m (pc + 3) ls (.float r :: rest))) : W p l e R s m args below meth c H locs cells slots Q (F0 m pc ls st0) := by
  intro T hT X
  rcases hr T hT X with ⟨v, st₀, t, T', L, h0, X', hL, e1, e2, ⟨⟨r, u, hv, hp, hb⟩, hF⟩, st⟩ | ⟨q, st₀, t, T', L, E, ce, h0, X', hL, e1, e2, ⟨u, hp, hb, hF⟩, hce, hcv, hcl, st⟩
  · cases hv
    obtain ⟨k1, k2, k3⟩ := vx_keep h0 e1 hS hA hf hL hF
    obtain ⟨t2, a1, b1⟩ := kk r u t T'.heap (locs ++ L) e1.symm (by rw [← e2]; exact X'.warmed.alike) hp hb k1 k2 k3 T' rfl X'
    exact ⟨t2, st t2 a1, b1⟩
  · obtain ⟨k1, k2, k3⟩ := vx_keep h0 e1 hS hAX hf hL hF
    obtain ⟨t2, a1, b1⟩ := kx E ce q u t T'.heap (locs ++ L) e1.symm (by rw [← e2]; exact X'.warmed.alike) hp hb k1 k2 k3 (by rw [e1]; exact hce) hcv hcl T' rfl X'
    exact ⟨t2, st.trans a1, b1⟩
theorem vx_calld {S SX : Type} {post : UInt64 → S → Prop} {px : SX → Prop} {B : S → State → Prop} {BX : String → SX → State → Prop} {AX : Nat → Prop} (hr : vx_Run p l e R s m args below meth c H locs cells slots mc ms (F0 m pc ls st0) rest (va_Qd post B A1 a) (vx_X px BX AX) free) (hS : va_S A0 H0 H locs) (hA : ∀ q, q < H.size → A1 q → A0 q) (hf : ∀ q, free q → A0 q) (hAX : ∀ q, q < H.size → AX q → A0 q)
    (kx : ∀ (E : String) (ce : Cell) (q9 : Addr) (u : SX) (t : State) (H1 : Heap) (locs1 : List Loc), t.heap = H1 → s.vm.Alike t.vm → px u → BX E u t → H.size ≤ H1.size → (∀ q : Nat, q < H.size → ¬ AX q → H1[q]? = H[q]?) → va_S A0 H0 H1 locs1 → H1[q9]? = some ce → ce.vm = .none → s.vm.findClass E = some ce.cls → vx_W p l e R s m args below meth c H1 locs1 (cells + mc) (slots + ms) Q (F0 m pc ls rest) q9)
    (kk : ∀ (r : UInt64) (u : S) (t : State) (H1 : Heap) (locs1 : List Loc), t.heap = H1 → s.vm.Alike t.vm → post r u → B u t → H.size ≤ H1.size → (∀ q : Nat, q < H.size → ¬ A1 q → H1[q]? = H[q]?) → va_S A0 H0 H1 locs1 → W p l e R s m args below meth c H1 locs1 (cells + mc) (slots + ms) Q (F0 m (pc + 3) ls (.double r :: rest))) : W p l e R s m args below meth c H locs cells slots Q (F0 m pc ls st0) := by
  intro T hT X
  rcases hr T hT X with ⟨v, st₀, t, T', L, h0, X', hL, e1, e2, ⟨⟨r, u, hv, hp, hb⟩, hF⟩, st⟩ | ⟨q, st₀, t, T', L, E, ce, h0, X', hL, e1, e2, ⟨u, hp, hb, hF⟩, hce, hcv, hcl, st⟩
  · cases hv
    obtain ⟨k1, k2, k3⟩ := vx_keep h0 e1 hS hA hf hL hF
    obtain ⟨t2, a1, b1⟩ := kk r u t T'.heap (locs ++ L) e1.symm (by rw [← e2]; exact X'.warmed.alike) hp hb k1 k2 k3 T' rfl X'
    exact ⟨t2, st t2 a1, b1⟩
  · obtain ⟨k1, k2, k3⟩ := vx_keep h0 e1 hS hAX hf hL hF
    obtain ⟨t2, a1, b1⟩ := kx E ce q u t T'.heap (locs ++ L) e1.symm (by rw [← e2]; exact X'.warmed.alike) hp hb k1 k2 k3 (by rw [e1]; exact hce) hcv hcl T' rfl X'
    exact ⟨t2, st.trans a1, b1⟩
theorem vx_callv {S SX : Type} {post : S → Prop} {px : SX → Prop} {B : S → State → Prop} {BX : String → SX → State → Prop} {AX : Nat → Prop} (hr : vx_Run p l e R s m args below meth c H locs cells slots mc ms (F0 m pc ls st0) rest (va_Qv post B A1 a) (vx_X px BX AX) free) (hS : va_S A0 H0 H locs) (hA : ∀ q, q < H.size → A1 q → A0 q) (hf : ∀ q, free q → A0 q) (hAX : ∀ q, q < H.size → AX q → A0 q)
    (kx : ∀ (E : String) (ce : Cell) (q9 : Addr) (u : SX) (t : State) (H1 : Heap) (locs1 : List Loc), t.heap = H1 → s.vm.Alike t.vm → px u → BX E u t → H.size ≤ H1.size → (∀ q : Nat, q < H.size → ¬ AX q → H1[q]? = H[q]?) → va_S A0 H0 H1 locs1 → H1[q9]? = some ce → ce.vm = .none → s.vm.findClass E = some ce.cls → vx_W p l e R s m args below meth c H1 locs1 (cells + mc) (slots + ms) Q (F0 m pc ls rest) q9)
    (kk : ∀ (u : S) (t : State) (H1 : Heap) (locs1 : List Loc), t.heap = H1 → s.vm.Alike t.vm → post u → B u t → H.size ≤ H1.size → (∀ q : Nat, q < H.size → ¬ A1 q → H1[q]? = H[q]?) → va_S A0 H0 H1 locs1 → W p l e R s m args below meth c H1 locs1 (cells + mc) (slots + ms) Q (F0 m (pc + 3) ls (rest))) : W p l e R s m args below meth c H locs cells slots Q (F0 m pc ls st0) := by
  intro T hT X
  rcases hr T hT X with ⟨v, st₀, t, T', L, h0, X', hL, e1, e2, ⟨⟨u, hv, hp, hb⟩, hF⟩, st⟩ | ⟨q, st₀, t, T', L, E, ce, h0, X', hL, e1, e2, ⟨u, hp, hb, hF⟩, hce, hcv, hcl, st⟩
  · cases hv
    obtain ⟨k1, k2, k3⟩ := vx_keep h0 e1 hS hA hf hL hF
    obtain ⟨t2, a1, b1⟩ := kk u t T'.heap (locs ++ L) e1.symm (by rw [← e2]; exact X'.warmed.alike) hp hb k1 k2 k3 T' rfl X'
    exact ⟨t2, st t2 a1, b1⟩
  · obtain ⟨k1, k2, k3⟩ := vx_keep h0 e1 hS hAX hf hL hF
    obtain ⟨t2, a1, b1⟩ := kx E ce q u t T'.heap (locs ++ L) e1.symm (by rw [← e2]; exact X'.warmed.alike) hp hb k1 k2 k3 (by rw [e1]; exact hce) hcv hcl T' rfl X'
    exact ⟨t2, st.trans a1, b1⟩
/-- caught by the row x of this method's table; the rows ahead don't take it -/
theorem vx_catch {own name : String} {E : String} {ce : Cell} {q : Addr} (hown : s.vm.findClass own = some m.cls) (pre : List ExceptionTableEntry) (x : ExceptionTableEntry) (suf : List ExceptionTableEntry) (hsplit : c.exceptionTable.toList = pre ++ x :: suf)
    (hpass : ∀ z ∈ pre, covers z pc = false ∨ (z.catchType ≠ 0 ∧ ∃ nm : String, (Cond.classLink own z.catchType nm).before args s = true ∧ va_Nc E nm s)) (hx : covers x pc = true) (h0 : x.catchType ≠ 0)
    (hlink : (Cond.classLink own x.catchType name).before args s = true) (hcast : (Cond.castable E name).before args s = true) (hcell : H[q]? = some ce) (hv : ce.vm = .none) (hcl : s.vm.findClass E = some ce.cls)
    (kk : W p l e R s m args below meth c H locs cells slots Q (F0 m x.handlerPc ls [.ref q])) : vx_W p l e R s m args below meth c H locs cells slots Q (F0 m pc ls rest) q := by
  intro T hT X
  have hpl : e.platform.magicAccessors = ({} : Platform).magicAccessors := by rw [X.admits.platform]
  obtain ⟨c3, c4, hc3, hc4, hasg⟩ := Cond.castable_spec hcast
  cases Option.some.inj (hc3.symm.trans hcl)
  obtain ⟨c5, hc5, hcl5⟩ := Cond.classLink_spec hown hlink e.platform hpl
  cases Option.some.inj (hc4.symm.trans hc5)
  obtain ⟨vm', X', st⟩ := X.thenCaughtThrough q (g := F0 m pc ls rest) rfl (Steps.refl _) (by rw [hT]; exact hcell) (by rw [hv]; rfl) (by obtain ⟨k9, h9, -⟩ := Vm.findClass_spec hcl; exact ⟨k9, h9⟩) pre x suf hsplit
    (fun z hz => by
      rcases hpass z hz with h | ⟨hz0, nm, hl1, hn1⟩
      · exact Or.inl h
      · obtain ⟨c6, hc6, hcl6⟩ := Cond.classLink_spec hown hl1 e.platform hpl
        obtain ⟨a8, b8, h1, h2, h3⟩ := hn1
        cases Option.some.inj (h1.symm.trans hcl)
        cases Option.some.inj (h2.symm.trans hc6)
        exact Or.inr ⟨hz0, _, hcl6, h3⟩) hx (Or.inr ⟨h0, c4, hcl5, hasg⟩)
  obtain ⟨t, a1, b1⟩ := kk (T.setVm vm') hT X'
  exact ⟨t, st.trans a1, b1⟩
end Rows
section Ends
variable {p : Program} {l : Launch} {e : Env} {R : Room} {s : State} {m : MethodId} {args : Array Value} {below : List Frame} {meth : Method} {c : Code} {H : Heap} {locs : List Loc} {cells slots : Nat} {Q : State → Prop}
variable {mc ms : Nat} {free : Addr → Prop} {A0 A1 : Nat → Prop} {H0 : Heap} {a : Array Value} {ls : Array Slot} {st0 rest : List Value}
variable {Qc : Array Value → State → Outcome → State → Prop} {XC : String → State → State → Prop}
/-- what a body that may throw owes at its end -/
def vx_MQ (below : List Frame) (Qc : Array Value → State → Outcome → State → Prop) (XC : String → State → State → Prop) (a : Array Value) (s : State) (mc ms : Nat) (free : Addr → Prop) : State → Prop := fun t =>
  ∃ o, t.status = .running ∧ Ended t below o ∧ vx_Q Qc XC mc ms free a s o t
theorem vx_ret {g : JFrame} {mc ms : Nat} (k : W p l e R s m args below meth c H locs cells slots (MQ below Qc args s mc ms free) g) : W p l e R s m args below meth c H locs cells slots (vx_MQ below Qc XC args s mc ms free) g := by
  intro T hT X
  obtain ⟨t, a1, o, b1, b2, b3, b4⟩ := k T hT X
  exact ⟨t, a1, o, b1, b2, Or.inl ⟨b3, b4⟩⟩
/-- not caught here: it goes on to the caller -/
theorem vx_widen {g : JFrame} {q : Addr} {k n : Nat} (h1 : cells ≤ k) (h2 : slots ≤ n) (kk : vx_W p l e R s m args below meth c H locs k n Q g q) : vx_W p l e R s m args below meth c H locs cells slots Q g q := fun T hT X => kk T hT (stand_widen X h1 h2)
theorem vx_out {pc : Nat} {E : String} {ce : Cell} {q : Addr} {mc ms : Nat} (hout : ∀ x ∈ c.exceptionTable.toList, covers x pc = false) (hlocks : meth.locks = false) (hcell : H[q]? = some ce) (hv : ce.vm = .none) (hcl : s.vm.findClass E = some ce.cls)
    (hx : ∀ t : State, t.heap = H → s.vm.Alike t.vm → XC E s t) (hf : ∀ z ∈ locs, free z.base) (hc : cells ≤ mc) (hs : slots ≤ ms) :
    vx_W p l e R s m args below meth c H locs cells slots (vx_MQ below Qc XC args s mc ms free) (F0 m pc ls rest) q := by
  intro T hT X
  obtain ⟨st1, hrun, hend, hW, hsm⟩ := X.leaveThrown q (g := F0 m pc ls rest) rfl rfl rfl hout hlocks
  have hcell9 : (T.setFrames (.throwing q :: below)).heap[q]? = some ce := by
    show T.heap[q]? = some ce
    rw [hT]; exact hcell
  exact ⟨_, st1, .threw q, hrun, hend, Or.inr ⟨q, rfl, E, ce, locs, hx _ hT hW.alike, hcell9, hv, hcl, hW, hsm.mono hc hs, hf⟩⟩
theorem vx_frame {U : State} {k n : Nat} (h : s.sameButNew ({ U with vm := s.vm } : State) locs k n) : s.heap.size ≤ U.heap.size ∧ ∀ q : Nat, q < s.heap.size → (∀ z ∈ locs, z.base ≠ q) → U.heap[q]? = s.heap[q]? := by
  obtain ⟨-, h2, -, -, -, h6⟩ := h
  refine ⟨h2, fun q hq hz => ?_⟩
  obtain ⟨c9, e1, e2, e3, e4⟩ := h6 q _ (Array.getElem?_eq_getElem hq)
  have hs : c9.slots = (s.heap[q]).slots := Array.ext_getElem? fun i => e4 i fun hm => hz _ hm rfl
  have h9 : c9 = s.heap[q] := by
    rw [hs] at e2
    exact e2
  have e5 : U.heap[q]? = some c9 := e1
  rw [e5, h9, Array.getElem?_eq_getElem hq]
/-- the words of a throw but the four that speak of the heap -/
def vx_no (w : Cond) : Bool := decide (w ≠ .isRef (.static Bundle.tN "UNASSIGNED_STACK" Bundle.steD)) && decide (w ≠ .isRef (.static Bundle.tN "SUPPRESSED_SENTINEL" Bundle.listD)) && decide (w ≠ .laysStatic Bundle.tN "UNASSIGNED_STACK" Bundle.steD) && decide (w ≠ .laysStatic Bundle.tN "SUPPRESSED_SENTINEL" Bundle.listD)
def vx_at0 (own : String) (ic : Nat) (X : String) (names : List String) : List Cond := (Bundle.ownAtoms0 own ic X names).filter vx_no
def vx_atS (own : String) (ic : Nat) (X : String) (names : List String) : List Cond := (Bundle.ownAtoms own ic X names).filter vx_no
/-- a word that the tables alone decide, or a good one -/
def vx_ot (w : Cond) : Bool := w.onTables || goodWord w
theorem vx_ot_at {args a' : Array Value} {s U : State} {w : Cond} (hW : s.WarmedH U.vm) (hvm : s.vm = U.vm) (hg : vx_ot w = true) (h : w.before args s = true) : w.before a' U = true := by
  simp only [vx_ot, Bool.or_eq_true] at hg
  rcases hg with hg | hg
  · exact va_tabs hg hvm h
  · exact word_at hW (good_of_word hg) h
/-- a list's words: the good ones out of the method's own list, the others by premises of their own -/
theorem vx_hat {args : Array Value} {s : State} {L B : List Cond} (h1 : ∀ w ∈ L.filter goodWord, w.before args s = true) (h2 : ∀ w ∈ L.filter (fun w => !goodWord w), w ∈ B) (h3 : ∀ w ∈ B, w.before args s = true) : ∀ w ∈ L, w.before args s = true := by
  intro w hw
  by_cases g : goodWord w = true
  · exact h1 w (List.mem_filter.mpr ⟨hw, g⟩)
  · refine h3 w (h2 w (List.mem_filter.mpr ⟨hw, ?_⟩))
    show (!goodWord w) = true
    cases hgw : goodWord w
    · rfl
    · exact absurd hgw g
theorem vx_c {args : Array Value} {s : State} {w : Cond} {B : List Cond} (h : w.before args s = true) (t : ∀ w ∈ B, w.before args s = true) : ∀ w' ∈ w :: B, w'.before args s = true := fun w' h' => (List.mem_cons.mp h').elim (fun e => by rw [e]; exact h) (t w')
theorem vx_n {args : Array Value} {s : State} : ∀ w ∈ ([] : List Cond), w.before args s = true := fun _ h => nomatch h
theorem vx_own {args : Array Value} {s : State} {L : List Cond} (h1 : ∀ w ∈ L.filter vx_no, w.before args s = true)
    (hU : (Cond.isRef (.static Bundle.tN "UNASSIGNED_STACK" Bundle.steD)).before args s = true) (hN : (Cond.isRef (.static Bundle.tN "SUPPRESSED_SENTINEL" Bundle.listD)).before args s = true)
    (lU : (Cond.laysStatic Bundle.tN "UNASSIGNED_STACK" Bundle.steD).before args s = true) (lN : (Cond.laysStatic Bundle.tN "SUPPRESSED_SENTINEL" Bundle.listD).before args s = true) : ∀ w ∈ L, w.before args s = true := by
  intro w hw
  by_cases e1 : w = .isRef (.static Bundle.tN "UNASSIGNED_STACK" Bundle.steD)
  · rw [e1]; exact hU
  · by_cases e2 : w = .isRef (.static Bundle.tN "SUPPRESSED_SENTINEL" Bundle.listD)
    · rw [e2]; exact hN
    · by_cases e3 : w = .laysStatic Bundle.tN "UNASSIGNED_STACK" Bundle.steD
      · rw [e3]; exact lU
      · by_cases e4 : w = .laysStatic Bundle.tN "SUPPRESSED_SENTINEL" Bundle.listD
        · rw [e4]; exact lN
        · exact h1 w (List.mem_filter.mpr ⟨hw, by unfold vx_no; rw [decide_eq_true e1, decide_eq_true e2, decide_eq_true e3, decide_eq_true e4]; rfl⟩)
/-- where a static field lies, its class's statics cell in H -/
def vx_L (C n d : String) (A : Nat → Prop) (U : State) (H : Heap) : Prop := ∃ (c : ClassId) (k : Class) (i : Nat) (f : Field) (a : Nat) (cell : Cell), U.vm.findClass C = some c ∧ U.fieldFound? C n d = some (c, k, i, f) ∧ f.isStatic = true ∧ k.statics = some a ∧ H[a]? = some cell ∧ cell.vm.isStatics = true ∧ cell.cls = c ∧ f.slot < cell.slots.size ∧ k.staticTypes[f.slot]? = some f.type ∧ ¬ A a
theorem vx_L.moved {C n d : String} {A : Nat → Prop} {u U : State} {H : Heap} (hvm : u.vm.Alike U.vm) (h : vx_L C n d A u H) : vx_L C n d A U H := by
  obtain ⟨c, k, i, f, a, cell, h1, h2, h3, h4, h5, h6, h7, h8, h9, h10⟩ := h
  obtain ⟨k', hi', he⟩ := State.fieldFound?_setVm hvm h2
  exact ⟨c, k', i, f, a, cell, by rw [hvm.findClass]; exact h1, hi', h3, by rw [he]; exact h4, h5, h6, h7, h8, by rw [he]; exact h9, h10⟩
theorem vx_L.kept {C n d : String} {A : Nat → Prop} {U : State} {H H1 : Heap} (h : vx_L C n d A U H) (hq : ∀ a : Nat, a < H.size → ¬ A a → H1[a]? = H[a]?) : vx_L C n d A U H1 := by
  obtain ⟨c, k, i, f, a, cell, h1, h2, h3, h4, h5, h6, h7, h8, h9, h10⟩ := h
  exact ⟨c, k, i, f, a, cell, h1, h2, h3, h4, by rw [hq a (Array.getElem?_eq_some_iff.mp h5).1 h10]; exact h5, h6, h7, h8, h9, h10⟩
theorem vx_L.narrow {C n d : String} {A B : Nat → Prop} {U : State} {H : Heap} (h : vx_L C n d A U H) (hAB : ∀ q, B q → A q) : vx_L C n d B U H := by
  obtain ⟨c, k, i, f, a, cell, h1, h2, h3, h4, h5, h6, h7, h8, h9, h10⟩ := h
  exact ⟨c, k, i, f, a, cell, h1, h2, h3, h4, h5, h6, h7, h8, h9, fun z => h10 (hAB _ z)⟩
theorem vx_L.word {C n d : String} {A : Nat → Prop} {s : State} {args : Array Value} (h : vx_L C n d A s s.heap) : (Cond.laysStatic C n d).before args s = true := by
  obtain ⟨c, k, i, f, a, cell, h1, h2, h3, h4, h5, h6, h7, h8, h9, -⟩ := h
  show (Cond.laysStatic C n d).holds args s none s [] = true
  exact Cond.laysStatic_of h1 h2 h3 h4 h5 h6 h7 h8 h9
/-- .. and what it holds: null or some reference -/
def vx_Zq (C n d : String) (A : Nat → Prop) (U : State) (H : Heap) : Prop := va_Zq C n d A U H ∧ vx_L C n d A U H
theorem vx_Zq.moved {C n d : String} {A : Nat → Prop} {u U : State} {H : Heap} (hvm : u.vm.Alike U.vm) (h : vx_Zq C n d A u H) : vx_Zq C n d A U H := ⟨va_Zq.moved hvm h.1, vx_L.moved hvm h.2⟩
theorem vx_Zq.kept {C n d : String} {A : Nat → Prop} {U : State} {H H1 : Heap} (h : vx_Zq C n d A U H) (hq : ∀ a : Nat, a < H.size → ¬ A a → H1[a]? = H[a]?) : vx_Zq C n d A U H1 := ⟨va_Zq.kept h.1 hq, vx_L.kept h.2 hq⟩
theorem vx_Zq.narrow {C n d : String} {A B : Nat → Prop} {U : State} {H : Heap} (h : vx_Zq C n d A U H) (hAB : ∀ q, B q → A q) : vx_Zq C n d B U H := ⟨va_Zq.narrow h.1 hAB, vx_L.narrow h.2 hAB⟩
theorem vx_Zqof {args : Array Value} {s : State} {C n d : String} {A : Nat → Prop} (hl : (Cond.laysStatic C n d).before args s = true) (hini : (Cond.initialized C).before args s = true) (h : (Cond.isRef (.static C n d)).before args s = true) (hA : ∀ a : Nat, a < s.heap.size → ¬ A a) : vx_Zq C n d A s s.heap := by
  refine ⟨va_Zqof hl hini h hA, ?_⟩
  obtain ⟨c, k, i, f, a, cell, h1, h2, h3, h4, h5, h6, h7, h8, h9⟩ := Cond.laysStatic_spec hl
  exact ⟨c, k, i, f, a, cell, h1, h2, h3, h4, h5, h6, h7, h8, h9, hA a (Array.getElem?_eq_some_iff.mp h5).1⟩
theorem vx_isRef {C n d : String} {v : Value} {A : Nat → Prop} {s : State} {args : Array Value} (h : va_Z C n d v A s s.heap) (hv : v.isRef = true) : (Cond.isRef (.static C n d)).before args s = true := by
  obtain ⟨cf, kf, fi, f, a, cell, h1, h2, h3, h4, h5, h6, h7, -⟩ := h
  have he : (Term.static C n d).eval args s none [] s = some v := by
    simp [Term.eval, State.fieldNamed?, h1, h2, h4, h5, h6, h7]
  simp only [Cond.before, Cond.holds, Cond.value, he]
  cases v <;> simp_all [Value.isRef]
theorem vx_isRefq {C n d : String} {A : Nat → Prop} {s : State} {args : Array Value} (h : va_Zq C n d A s s.heap) : (Cond.isRef (.static C n d)).before args s = true := by
  rcases h with h | ⟨t, h⟩
  · exact vx_isRef h rfl
  · exact vx_isRef h rfl
/-- the same frame, seen from here: as if the method were called anew in this heap -/
theorem vx_rebase {T : State} (X : Stand p l e R s m args below meth c T locs cells slots) {R' : Room} (hf : R'.frames ≤ R.frames) (hl : R'.locals ≤ R.locals) (hc : cells + R'.cells ≤ R.cells) (hs : slots + R'.slots ≤ R.slots) :
    Stand p l e R' ((T.setVm s.vm).setFrames (.invoking m args :: below)) m args below meth c T [] 0 0 := by
  have htop : (T.setVm s.vm).topJava?.isSome := X.here.top
  have hF : ((T.setVm s.vm).setFrames (.invoking m args :: below)).frames = .invoking m args :: below := State.frames_setFrames _ (State.cur_lt_of_top htop)
  obtain ⟨g₀, hg0⟩ := Option.isSome_iff_exists.mp htop
  obtain ⟨r, hr⟩ := State.topJava?_eq_some.mp hg0
  have hl9 : e.platform.stackLimits (T.setVm s.vm).me = e.platform.stackLimits s.me := X.limits
  have hb9 : (T.setVm s.vm).me.stackBytes = s.me.stackBytes := X.bytes
  refine ⟨X.admits, X.cas, X.clock, hF, ?_, X.hears, X.method, X.code, X.here, X.tail, X.warmed, ?_, ?_, ?_⟩
  · have h := X.room
    have hU : ((T.setVm s.vm).setFrames (.invoking m args :: below)).localsInUse = s.localsInUse := by
      rw [State.localsInUse_invoking hF (meth := meth) (c := c) X.method X.code, State.localsInUse_invoking X.frames X.method X.code]
    simp only [State.hasRoom, Bool.and_eq_true, decide_eq_true_eq] at h ⊢
    obtain ⟨⟨⟨⟨h1, h2, h3, h4, h5, h6⟩, h7⟩, h8⟩, h9⟩ := h
    rw [X.frames, List.length_cons] at h2 h3
    have q1 := X.heapSize
    have q2 := X.used
    simp only [hF, hU, List.length_cons, State.stackLimits_setFrames, State.stackBytes_setFrames, hl9, hb9]
    refine ⟨⟨⟨⟨by omega, by omega, by omega, by omega, by omega, h6⟩, ?_⟩, ?_⟩, X.book⟩
    · show T.heap.size + R'.cells ≤ e.platform.maxCells
      omega
    · show T.slotsUsed + R'.slots ≤ e.platform.maxSlots
      omega
  · rw [State.stackLimits_setFrames]; rfl
  · rw [State.stackBytes_setFrames]; rfl
  · refine ⟨?_, Nat.le_refl _, Nat.le_refl _, ?_, ?_, fun a c9 h9 => ⟨c9, h9, rfl, rfl, fun _ _ => rfl⟩⟩
    · obtain ⟨t, ht, -⟩ := State.frames_cons hr
      show T.setVm s.vm = { ((T.setVm s.vm).setFrames (.invoking m args :: below)).setFrames (T.setVm s.vm).frames with heap := T.heap, slotsUsed := T.slotsUsed }
      rw [State.setFrames_setFrames, State.setFrames_self ht]
      rfl
    · show T.slotsUsed = T.slotsUsed + ((T.heap.toList.drop T.heap.size).map (·.slots.size)).sum
      rw [List.drop_eq_nil_of_le (Nat.le_of_eq Array.length_toList)]
      rfl
    · show ((T.heap.toList.drop T.heap.size).map (·.slots.size)).sum ≤ 0
      rw [List.drop_eq_nil_of_le (Nat.le_of_eq Array.length_toList)]
      exact Nat.le_refl _
/-- 'throw new E()': new; dup; invokespecial; athrow -/
theorem vx_throw0 {cc : ByteArray} {pc : Nat} (hexec : p.tables.exec = Jvm.exec) (hb : c.code = cc) (hl : l.stackTraces = false) {own cls : String} {names : List String} {ik ic mc ms : Nat} {A : Nat → Prop}
    (hown : s.vm.findClass own = some m.cls) (hcls : Bundle.fit cls = true) (hnames : ∀ n ∈ names, Bundle.fit n = true)
    (hk : (Cond.classLink own ik cls).before args s = true) (hini : (Cond.initialized cls).before args s = true) (hat : ∀ w ∈ vx_at0 own ic cls names, w.before args s = true)
    (hgood : ∀ w ∈ Cond.classLink own ik cls :: Cond.initialized cls :: vx_at0 own ic cls names, vx_ot w = true)
    (hU : vx_Zq Bundle.tN "UNASSIGNED_STACK" Bundle.steD A s s.heap) (hN : vx_Zq Bundle.tN "SUPPRESSED_SENTINEL" Bundle.listD A s s.heap) (hS : va_S A s.heap H locs) (hsize : ls.size = c.maxLocals)
    (d0 : decode cc pc = .ok (.new ik, 3)) (d3 : decode cc (pc + 3) = .ok (.dup, 1)) (d4 : decode cc (pc + 4) = .ok (.invokespecial ic, 3)) (d7 : decode cc (pc + 7) = .ok (.athrow, 1))
    (hout : ∀ x ∈ c.exceptionTable.toList, covers x (pc + 7) = false)
    (hRframes : names.length + 3 < R.frames) (hRlocals : (rest.map fun v => v.category).sum + (13 * (names.length + 1) + 42) ≤ R.locals) (hRcells : cells + 1 ≤ R.cells) (hRslots : slots + 6 ≤ R.slots) (hlocks : meth.locks = false)
    (hx : ∀ t : State, s.vm.Alike t.vm → H.size ≤ t.heap.size → (∀ q : Nat, q < H.size → t.heap[q]? = H[q]?) → XC cls s t)
    (hf : ∀ z ∈ locs, free z.base) (hc : cells + 1 ≤ mc) (hs : slots + 6 ≤ ms) :
    W p l e R s m args below meth c H locs cells slots (vx_MQ below Qc XC args s mc ms free) (F0 m pc ls rest) := by
  intro T hT X
  have htr : e.platform.stackTraces = false := (show e.platform.stackTraces = l.stackTraces by rw [X.admits.platform]).trans hl
  have Y := vx_rebase X (R' := { frames := R.frames, locals := R.locals, cells := 1, slots := 6 }) (Nat.le_refl _) (Nat.le_refl _) hRcells hRslots
  obtain ⟨s', hA⟩ : ∃ z, z = (T.setVm s.vm).setFrames (.invoking m args :: below) := ⟨_, rfl⟩
  rw [← hA] at Y
  have hvm : s'.vm = s.vm := by rw [hA]; rfl
  have hhp : s'.heap = H := by rw [hA]; exact hT
  have hW0 : s.WarmedH s'.vm := by rw [hvm]; exact State.WarmedH.refl s
  have hat' : ∀ w ∈ vx_at0 own ic cls names, w.before args s' = true := fun w hw => vx_ot_at hW0 hvm.symm (hgood w (List.mem_cons_of_mem _ (List.mem_cons_of_mem _ hw))) (hat w hw)
  have hk' : (Cond.classLink own ik cls).before args s' = true := vx_ot_at hW0 hvm.symm (hgood _ List.mem_cons_self) hk
  have hini' : (Cond.initialized cls).before args s' = true := vx_ot_at hW0 hvm.symm (hgood _ (List.mem_cons_of_mem _ List.mem_cons_self)) hini
  have hU' : vx_Zq Bundle.tN "UNASSIGNED_STACK" Bundle.steD A s' s'.heap := by rw [hhp]; exact vx_Zq.moved hW0.alike (hU.kept hS.2.1)
  have hN' : vx_Zq Bundle.tN "SUPPRESSED_SENTINEL" Bundle.listD A s' s'.heap := by rw [hhp]; exact vx_Zq.moved hW0.alike (hN.kept hS.2.1)
  have h : ∀ w ∈ Bundle.ownAtoms0 own ic cls names, w.before args s' = true := vx_own hat' (vx_isRefq hU'.1) (vx_isRefq hN'.1) hU'.2.word hN'.2.word
  have hown' : s'.vm.findClass own = some m.cls := by rw [hvm]; exact hown
  have hins : (Cond.instantiable cls 6).before args s' = true := h _ (by simp [Bundle.ownAtoms0])
  obtain ⟨vm₁, cX, kX, hfX, hkX, -, -, X₁, st1⟩ := Y.newCold hexec (own := own) (C := cls) (index := ik) (n := 6) hown' hk' hins hini'
    (g := F0 m pc ls rest) rfl (by rw [hb]; exact d0) (Nat.le_refl _) (Nat.le_refl _)
  generalize hT1 : (T.setVm vm₁).pushCell { cls := cX, slots := kX.instanceTypes.map defaultValue, vm := .none } = T1 at X₁ st1
  have hcat : (Value.ref T.heap.size).category = 1 := rfl
  have hcellA : T1.heap[T.heap.size]? = some (freshCell cX kX) := by rw [← hT1]; exact State.heap_pushCell_size _ _
  have d3' : decode c.code (pc + 3) = .ok (.dup, 1) := by rw [hb]; exact d3
  obtain ⟨U, hsteps, hrun, hend, hW, hsame, ce, hce, hO⟩ := X₁.ctorThrow0 hexec htr (own := own) (cls := cls) (names := names) (ic := ic) hown' hcls hnames h (fun x hx => nomatch hx) hfX hkX hcellA (by rw [hhp, hT]; exact Nat.le_refl _)
    (g := { method := m, pc := pc + 4, locals := ls, stack := .ref T.heap.size :: .ref T.heap.size :: rest, locked := none }) rfl hsize rfl rfl (rest := rest) rfl
    (by rw [hb]; exact d4) (by rw [hb]; exact d7) hout hRframes (by simp only [List.map_cons, List.sum_cons, hcat]; omega) hlocks
  obtain ⟨f1, f2⟩ := vx_frame hsame
  rw [hhp] at f1 f2
  have hWs : s.WarmedH U.vm := State.WarmedH.trans hW0 hW
  have hcl : s.vm.findClass cls = some ce.cls := by
    have h9 := hO.cls
    rw [hvm] at h9
    exact h9
  have hall : s.sameButNew ({ U with vm := s.vm } : State) locs mc ms := by
    subst hA
    obtain ⟨e1, e2⟩ := hsame
    rw [State.setFrames_setFrames] at e1
    have h2 : (T.setVm s.vm).sameButNew ({ U with vm := s.vm } : State) [] (0 + 1) (0 + 6) := ⟨e1, e2⟩
    have h3 := X.same.trans h2
    rw [List.append_nil] at h3
    exact h3.mono hc hs
  refine ⟨U, ?_, .threw T.heap.size, hrun, hend, Or.inr ⟨T.heap.size, rfl, cls, ce, locs, hx U hWs.alike f1 (fun q hq => f2 q hq (fun z hz => nomatch hz)), hce, hO.vm, hcl, hWs, hall, hf⟩⟩
  refine st1 _ ?_
  show Steps p.tables e below (T1.setTop { method := m, pc := pc + 3, locals := ls, stack := .ref T.heap.size :: rest, locked := none }) _
  jvm_step X₁.here [X₁.here.top, hexec, d3', Value.category]
  exact hsteps
/-- 'throw new E("text")': new; dup; ldc; invokespecial; athrow -/
theorem vx_throwS {cc : ByteArray} {pc : Nat} (hexec : p.tables.exec = Jvm.exec) (hb : c.code = cc) (hl : l.stackTraces = false) {own cls text : String} {names : List String} {ik is ic mc ms sa : Nat} {A : Nat → Prop}
    (hown : s.vm.findClass own = some m.cls) (hcls : Bundle.fit cls = true) (hnames : ∀ n ∈ names, Bundle.fit n = true)
    (hk : (Cond.classLink own ik cls).before args s = true) (hini : (Cond.initialized cls).before args s = true) (hstr : vk_R own is text sa s) (hat : ∀ w ∈ vx_atS own ic cls names, w.before args s = true)
    (hgood : ∀ w ∈ Cond.classLink own ik cls :: Cond.initialized cls :: vx_atS own ic cls names, vx_ot w = true)
    (hU : vx_Zq Bundle.tN "UNASSIGNED_STACK" Bundle.steD A s s.heap) (hN : vx_Zq Bundle.tN "SUPPRESSED_SENTINEL" Bundle.listD A s s.heap) (hS : va_S A s.heap H locs) (hsize : ls.size = c.maxLocals)
    (d0 : decode cc pc = .ok (.new ik, 3)) (d3 : decode cc (pc + 3) = .ok (.dup, 1)) (d4 : decode cc (pc + 4) = .ok (.ldc is, 2)) (d6 : decode cc (pc + 6) = .ok (.invokespecial ic, 3)) (d9 : decode cc (pc + 9) = .ok (.athrow, 1))
    (hout : ∀ x ∈ c.exceptionTable.toList, covers x (pc + 9) = false)
    (hRframes : names.length + 3 < R.frames) (hRlocals : (rest.map fun v => v.category).sum + (13 * (names.length + 1) + 43) ≤ R.locals) (hRcells : cells + 1 ≤ R.cells) (hRslots : slots + 6 ≤ R.slots) (hlocks : meth.locks = false)
    (hx : ∀ t : State, s.vm.Alike t.vm → H.size ≤ t.heap.size → (∀ q : Nat, q < H.size → t.heap[q]? = H[q]?) → XC cls s t)
    (hf : ∀ z ∈ locs, free z.base) (hc : cells + 1 ≤ mc) (hs : slots + 6 ≤ ms) :
    W p l e R s m args below meth c H locs cells slots (vx_MQ below Qc XC args s mc ms free) (F0 m pc ls rest) := by
  intro T hT X
  have htr : e.platform.stackTraces = false := (show e.platform.stackTraces = l.stackTraces by rw [X.admits.platform]).trans hl
  have Y := vx_rebase X (R' := { frames := R.frames, locals := R.locals, cells := 1, slots := 6 }) (Nat.le_refl _) (Nat.le_refl _) hRcells hRslots
  obtain ⟨s', hA⟩ : ∃ z, z = (T.setVm s.vm).setFrames (.invoking m args :: below) := ⟨_, rfl⟩
  rw [← hA] at Y
  have hvm : s'.vm = s.vm := by rw [hA]; rfl
  have hhp : s'.heap = H := by rw [hA]; exact hT
  have hW0 : s.WarmedH s'.vm := by rw [hvm]; exact State.WarmedH.refl s
  have hat' : ∀ w ∈ vx_atS own ic cls names, w.before args s' = true := fun w hw => vx_ot_at hW0 hvm.symm (hgood w (List.mem_cons_of_mem _ (List.mem_cons_of_mem _ hw))) (hat w hw)
  have hk' : (Cond.classLink own ik cls).before args s' = true := vx_ot_at hW0 hvm.symm (hgood _ List.mem_cons_self) hk
  have hini' : (Cond.initialized cls).before args s' = true := vx_ot_at hW0 hvm.symm (hgood _ (List.mem_cons_of_mem _ List.mem_cons_self)) hini
  have hU' : vx_Zq Bundle.tN "UNASSIGNED_STACK" Bundle.steD A s' s'.heap := by rw [hhp]; exact vx_Zq.moved hW0.alike (hU.kept hS.2.1)
  have hN' : vx_Zq Bundle.tN "SUPPRESSED_SENTINEL" Bundle.listD A s' s'.heap := by rw [hhp]; exact vx_Zq.moved hW0.alike (hN.kept hS.2.1)
  have h : ∀ w ∈ Bundle.ownAtoms own ic cls names, w.before args s' = true := vx_own hat' (vx_isRefq hU'.1) (vx_isRefq hN'.1) hU'.2.word hN'.2.word
  have hown' : s'.vm.findClass own = some m.cls := by rw [hvm]; exact hown
  have hins : (Cond.instantiable cls 6).before args s' = true := h _ (by simp [Bundle.ownAtoms])
  obtain ⟨vm₁, cX, kX, hfX, hkX, -, -, X₁, st1⟩ := Y.newCold hexec (own := own) (C := cls) (index := ik) (n := 6) hown' hk' hins hini'
    (g := F0 m pc ls rest) rfl (by rw [hb]; exact d0) (Nat.le_refl _) (Nat.le_refl _)
  generalize hT1 : (T.setVm vm₁).pushCell { cls := cX, slots := kX.instanceTypes.map defaultValue, vm := .none } = T1 at X₁ st1
  have hcat : (Value.ref T.heap.size).category = 1 := rfl
  have hcellA : T1.heap[T.heap.size]? = some (freshCell cX kX) := by rw [← hT1]; exact State.heap_pushCell_size _ _
  have d3' : decode c.code (pc + 3) = .ok (.dup, 1) := by rw [hb]; exact d3
  have d4' : decode c.code (pc + 4) = .ok (.ldc is, 2) := by rw [hb]; exact d4
  have hstr' : vk_R own is text sa s' := vk_R.warm hW0 hstr
  obtain ⟨U, hsteps, hrun, hend, hW, hsame, ce, hce, hO⟩ := X₁.ctorThrowS hexec htr (own := own) (cls := cls) (names := names) (ic := ic) hown' hcls hnames h (fun x hx => nomatch hx) hfX hkX hcellA (by rw [hhp, hT]; exact Nat.le_refl _) (msg := .ref sa) rfl
    (g := { method := m, pc := pc + 6, locals := ls, stack := .ref sa :: .ref T.heap.size :: .ref T.heap.size :: rest, locked := none }) rfl hsize rfl rfl (rest := rest) rfl
    (by rw [hb]; exact d6) (by rw [hb]; exact d9) hout hRframes (by simp only [List.map_cons, List.sum_cons, hcat]; omega) hlocks
  obtain ⟨f1, f2⟩ := vx_frame hsame
  rw [hhp] at f1 f2
  have hWs : s.WarmedH U.vm := State.WarmedH.trans hW0 hW
  have hcl : s.vm.findClass cls = some ce.cls := by
    have h9 := hO.cls
    rw [hvm] at h9
    exact h9
  have hall : s.sameButNew ({ U with vm := s.vm } : State) locs mc ms := by
    subst hA
    obtain ⟨e1, e2⟩ := hsame
    rw [State.setFrames_setFrames] at e1
    have h2 : (T.setVm s.vm).sameButNew ({ U with vm := s.vm } : State) [] (0 + 1) (0 + 6) := ⟨e1, e2⟩
    have h3 := X.same.trans h2
    rw [List.append_nil] at h3
    exact h3.mono hc hs
  refine ⟨U, ?_, .threw T.heap.size, hrun, hend, Or.inr ⟨T.heap.size, rfl, cls, ce, locs, hx U hWs.alike f1 (fun q hq => f2 q hq (fun z hz => nomatch hz)), hce, hO.vm, hcl, hWs, hall, hf⟩⟩
  refine st1 _ ?_
  show Steps p.tables e below (T1.setTop { method := m, pc := pc + 3, locals := ls, stack := .ref T.heap.size :: rest, locked := none }) _
  jvm_step X₁.here [X₁.here.top, hexec, d3', Value.category]
  exact X₁.ldcString hexec (own := own) (text := text) (index := is) (a := sa) hown' hstr'.1 hstr'.2
    (g := { method := m, pc := pc + 4, locals := ls, stack := .ref T.heap.size :: .ref T.heap.size :: rest, locked := none }) rfl d4' _ hsteps
/-- 'throw new E("text")', the text by a wide index -/
theorem vx_throwSW {cc : ByteArray} {pc : Nat} (hexec : p.tables.exec = Jvm.exec) (hb : c.code = cc) (hl : l.stackTraces = false) {own cls text : String} {names : List String} {ik is ic mc ms sa : Nat} {A : Nat → Prop}
    (hown : s.vm.findClass own = some m.cls) (hcls : Bundle.fit cls = true) (hnames : ∀ n ∈ names, Bundle.fit n = true)
    (hk : (Cond.classLink own ik cls).before args s = true) (hini : (Cond.initialized cls).before args s = true) (hstr : vk_R own is text sa s) (hat : ∀ w ∈ vx_atS own ic cls names, w.before args s = true)
    (hgood : ∀ w ∈ Cond.classLink own ik cls :: Cond.initialized cls :: vx_atS own ic cls names, vx_ot w = true)
    (hU : vx_Zq Bundle.tN "UNASSIGNED_STACK" Bundle.steD A s s.heap) (hN : vx_Zq Bundle.tN "SUPPRESSED_SENTINEL" Bundle.listD A s s.heap) (hS : va_S A s.heap H locs) (hsize : ls.size = c.maxLocals)
    (d0 : decode cc pc = .ok (.new ik, 3)) (d3 : decode cc (pc + 3) = .ok (.dup, 1)) (d4 : decode cc (pc + 4) = .ok (.ldc_w is, 3)) (d7 : decode cc (pc + 7) = .ok (.invokespecial ic, 3)) (d10 : decode cc (pc + 10) = .ok (.athrow, 1))
    (hout : ∀ x ∈ c.exceptionTable.toList, covers x (pc + 10) = false)
    (hRframes : names.length + 3 < R.frames) (hRlocals : (rest.map fun v => v.category).sum + (13 * (names.length + 1) + 43) ≤ R.locals) (hRcells : cells + 1 ≤ R.cells) (hRslots : slots + 6 ≤ R.slots) (hlocks : meth.locks = false)
    (hx : ∀ t : State, s.vm.Alike t.vm → H.size ≤ t.heap.size → (∀ q : Nat, q < H.size → t.heap[q]? = H[q]?) → XC cls s t)
    (hf : ∀ z ∈ locs, free z.base) (hc : cells + 1 ≤ mc) (hs : slots + 6 ≤ ms) :
    W p l e R s m args below meth c H locs cells slots (vx_MQ below Qc XC args s mc ms free) (F0 m pc ls rest) := by
  intro T hT X
  have htr : e.platform.stackTraces = false := (show e.platform.stackTraces = l.stackTraces by rw [X.admits.platform]).trans hl
  have Y := vx_rebase X (R' := { frames := R.frames, locals := R.locals, cells := 1, slots := 6 }) (Nat.le_refl _) (Nat.le_refl _) hRcells hRslots
  obtain ⟨s', hA⟩ : ∃ z, z = (T.setVm s.vm).setFrames (.invoking m args :: below) := ⟨_, rfl⟩
  rw [← hA] at Y
  have hvm : s'.vm = s.vm := by rw [hA]; rfl
  have hhp : s'.heap = H := by rw [hA]; exact hT
  have hW0 : s.WarmedH s'.vm := by rw [hvm]; exact State.WarmedH.refl s
  have hat' : ∀ w ∈ vx_atS own ic cls names, w.before args s' = true := fun w hw => vx_ot_at hW0 hvm.symm (hgood w (List.mem_cons_of_mem _ (List.mem_cons_of_mem _ hw))) (hat w hw)
  have hk' : (Cond.classLink own ik cls).before args s' = true := vx_ot_at hW0 hvm.symm (hgood _ List.mem_cons_self) hk
  have hini' : (Cond.initialized cls).before args s' = true := vx_ot_at hW0 hvm.symm (hgood _ (List.mem_cons_of_mem _ List.mem_cons_self)) hini
  have hU' : vx_Zq Bundle.tN "UNASSIGNED_STACK" Bundle.steD A s' s'.heap := by rw [hhp]; exact vx_Zq.moved hW0.alike (hU.kept hS.2.1)
  have hN' : vx_Zq Bundle.tN "SUPPRESSED_SENTINEL" Bundle.listD A s' s'.heap := by rw [hhp]; exact vx_Zq.moved hW0.alike (hN.kept hS.2.1)
  have h : ∀ w ∈ Bundle.ownAtoms own ic cls names, w.before args s' = true := vx_own hat' (vx_isRefq hU'.1) (vx_isRefq hN'.1) hU'.2.word hN'.2.word
  have hown' : s'.vm.findClass own = some m.cls := by rw [hvm]; exact hown
  have hins : (Cond.instantiable cls 6).before args s' = true := h _ (by simp [Bundle.ownAtoms])
  obtain ⟨vm₁, cX, kX, hfX, hkX, -, -, X₁, st1⟩ := Y.newCold hexec (own := own) (C := cls) (index := ik) (n := 6) hown' hk' hins hini'
    (g := F0 m pc ls rest) rfl (by rw [hb]; exact d0) (Nat.le_refl _) (Nat.le_refl _)
  generalize hT1 : (T.setVm vm₁).pushCell { cls := cX, slots := kX.instanceTypes.map defaultValue, vm := .none } = T1 at X₁ st1
  have hcat : (Value.ref T.heap.size).category = 1 := rfl
  have hcellA : T1.heap[T.heap.size]? = some (freshCell cX kX) := by rw [← hT1]; exact State.heap_pushCell_size _ _
  have d3' : decode c.code (pc + 3) = .ok (.dup, 1) := by rw [hb]; exact d3
  have d4' : decode c.code (pc + 4) = .ok (.ldc_w is, 3) := by rw [hb]; exact d4
  have hstr' : vk_R own is text sa s' := vk_R.warm hW0 hstr
  obtain ⟨U, hsteps, hrun, hend, hW, hsame, ce, hce, hO⟩ := X₁.ctorThrowS hexec htr (own := own) (cls := cls) (names := names) (ic := ic) hown' hcls hnames h (fun x hx => nomatch hx) hfX hkX hcellA (by rw [hhp, hT]; exact Nat.le_refl _) (msg := .ref sa) rfl
    (g := { method := m, pc := pc + 7, locals := ls, stack := .ref sa :: .ref T.heap.size :: .ref T.heap.size :: rest, locked := none }) rfl hsize rfl rfl (rest := rest) rfl
    (by rw [hb]; exact d7) (by rw [hb]; exact d10) hout hRframes (by simp only [List.map_cons, List.sum_cons, hcat]; omega) hlocks
  obtain ⟨f1, f2⟩ := vx_frame hsame
  rw [hhp] at f1 f2
  have hWs : s.WarmedH U.vm := State.WarmedH.trans hW0 hW
  have hcl : s.vm.findClass cls = some ce.cls := by
    have h9 := hO.cls
    rw [hvm] at h9
    exact h9
  have hall : s.sameButNew ({ U with vm := s.vm } : State) locs mc ms := by
    subst hA
    obtain ⟨e1, e2⟩ := hsame
    rw [State.setFrames_setFrames] at e1
    have h2 : (T.setVm s.vm).sameButNew ({ U with vm := s.vm } : State) [] (0 + 1) (0 + 6) := ⟨e1, e2⟩
    have h3 := X.same.trans h2
    rw [List.append_nil] at h3
    exact h3.mono hc hs
  refine ⟨U, ?_, .threw T.heap.size, hrun, hend, Or.inr ⟨T.heap.size, rfl, cls, ce, locs, hx U hWs.alike f1 (fun q hq => f2 q hq (fun z hz => nomatch hz)), hce, hO.vm, hcl, hWs, hall, hf⟩⟩
  refine st1 _ ?_
  show Steps p.tables e below (T1.setTop { method := m, pc := pc + 3, locals := ls, stack := .ref T.heap.size :: rest, locked := none }) _
  jvm_step X₁.here [X₁.here.top, hexec, d3', Value.category]
  exact X₁.ldcStringW hexec (own := own) (text := text) (index := is) (a := sa) hown' hstr'.1 hstr'.2
    (g := { method := m, pc := pc + 4, locals := ls, stack := .ref T.heap.size :: .ref T.heap.size :: rest, locked := none }) rfl d4' _ hsteps
end Ends
section Bodies
variable {l : Launch}
theorem vx_ofW {y : MethodName} {ws ws' : List Cond} {rm : Room} {Pc : Array Value → State → Prop} {Qc : Array Value → State → Outcome → State → Prop} {XC : String → State → State → Prop} {mc ms : Nat} {free : Addr → Prop} {cc : ByteArray} {maxL : Nat} {ret : Option FieldType}
    (hy : plainName y.cls = true) (hw : ws = Cond.code y cc maxL ret :: ws')
    (body : ∀ p e s m args below meth c s₁, BodyLoose p l y (headSpec ws rm) cc maxL ret e s m args below meth c s₁ → c.maxLocals = maxL → (∀ x ∈ c.exceptionTable.toList, False) → Pc args s →
      W p l e (headSpec ws rm).room s m args below meth c s.heap [] 0 0 (vx_MQ below Qc XC args s mc ms free) (entryFrame m args maxL)) : vx_Met l y ws rm Pc Qc XC mc ms free := by
  refine MetFree.of_bodyS (code := cc) (maxLocals := maxL) (ret := ret) hy ?_ ?_
  · intro args s m h hn
    obtain ⟨meth, c, h1, h2, h3, h4, h5, h6, -, -⟩ := Cond.code_spec hn (atoms_spec (ws := ws) h _ (by rw [hw]; exact List.mem_cons_self))
    exact ⟨meth, c, h1, h2, h3, h4, h5, h6⟩
  · intro p e s m args below meth c s₁ B hml hP _
    have hh0 : s₁.heap = s.heap := by rw [B.state]; rfl
    have ht : ∀ x ∈ c.exceptionTable.toList, False := by
      obtain ⟨meth9, c9, h1, h2, -, -, -, -, h7, -⟩ := Cond.code_spec B.named (atoms_spec (ws := ws) B.pre _ (by rw [hw]; exact List.mem_cons_self))
      cases Option.some.inj (h1.symm.trans B.method)
      cases Option.some.inj (h2.symm.trans (Stand.of_body B).code)
      intro x hx
      rw [Array.isEmpty_iff.mp h7] at hx
      cases hx
    obtain ⟨t, a1, o, b1, b2, b3⟩ := body p e s m args below meth c s₁ B hml ht hP s₁ hh0 (Stand.of_body B)
    exact ⟨t, o, a1, b1, b2, b3⟩
/-- the table of a body with handlers -/
theorem vx_table {p : Program} {x y : MethodName} {S : Spec} {cc bytes : ByteArray} {maxL maxL' : Nat} {ret ret' : Option FieldType} {e : Env} {s s₁ : State} {m : MethodId} {args : Array Value} {below : List Frame} {meth : Method} {c : Code} {hh : List (Nat × Nat × Nat × Nat)}
    (B : BodyLoose p l y S cc maxL ret e s m args below meth c s₁) (h : (Cond.codeWith y bytes maxL' ret' hh).before args s = true) : c.exceptionTable.toList = tableOf hh := by
  obtain ⟨m9, meth9, c9, hn9, h1, h2, -, -, h6, -⟩ := Cond.codeWith_spec h
  cases Option.some.inj (hn9.symm.trans B.named)
  cases Option.some.inj (h1.symm.trans B.method)
  cases Option.some.inj (h2.symm.trans (Stand.of_body B).code)
  rw [← h6, table_eq]
end Bodies
end VXA
/-! ===== END ===== -/
/-! ===== BEGIN a static call of a method with an exception table ===== -/
section VXS
variable {p : Program} {l : Launch} {e : Env} {R : Room} {s : State} {m : MethodId} {args : Array Value} {below : List Frame} {meth : Method} {c : Code} {T : State} {H : Heap} {locs : List Loc} {cells slots : Nat}
abbrev vx_CSW (R : Room) (s : State) (args : Array Value) (own : String) (index : Nat) (y : MethodName) (bytes : ByteArray) (maxL : Nat) (ret : Option FieldType) (hh : List (Nat × Nat × Nat × Nat)) (ws : List Cond) (rm : Room) (mc ms n : Nat) : Prop :=
  (rm.cells = mc ∧ rm.slots = ms ∧ rm.frames + 1 ≤ R.frames ∧ 8 + (maxL + 11) + rm.locals ≤ R.locals ∧ (∀ w ∈ ws, ∀ (a' : Array Value) (U : State), s.WarmedH U.vm → w.before a' U = true) ∧ Cond.codeWith y bytes maxL ret hh ∈ ws) ∧
  (Cond.codeWith y bytes maxL ret hh).before args s = true ∧ (Cond.initialized y.cls).before args s = true ∧ (y.cls ≠ "java/lang/invoke/MethodHandle" ∧ y.cls ≠ "java/lang/invoke/VarHandle") ∧
  (∀ sig, parseMethodDescriptor y.desc = some sig → n = sig.parameters.length) ∧ (Cond.methodLink own index y).before args s = true ∧ (Cond.static y).before args s = true
theorem vx_cwSW {own : String} {index maxL mc ms : Nat} {y : MethodName} {bytes : ByteArray} {ret : Option FieldType} {hh : List (Nat × Nat × Nat × Nat)} {Ts ws ws' : List Cond} {rm : Room} (n : Nat) (ht : ∀ w ∈ Ts, w.before args s = true) (hT : GoodIn Ts (va_wsS own index y ws)) (hw : ws = Cond.codeWith y bytes maxL ret hh :: ws') (hrc : rm.cells = mc) (hrs : rm.slots = ms)
    (hd : y.cls ≠ "java/lang/invoke/MethodHandle" ∧ y.cls ≠ "java/lang/invoke/VarHandle" ∧ (parseMethodDescriptor y.desc).map (fun d => d.parameters.length) = some n) (hR : rm.frames + 1 ≤ R.frames ∧ 8 + (maxL + 11) + rm.locals ≤ R.locals) :
    vx_CSW R s args own index y bytes maxL ret hh ws rm mc ms n := by
  have ok : ∀ w ∈ va_wsS own index y ws, w.before args s = true := fun w h => ht w (hT w h).1
  have hG : GoodIn Ts ws := fun w h => hT w (by unfold va_wsS; exact List.mem_append_right _ h)
  have hc : Cond.codeWith y bytes maxL ret hh ∈ ws := by rw [hw]; exact List.mem_cons_self
  refine ⟨⟨hrc, hrs, hR.1, hR.2, pay_in ht hG, hc⟩, ht _ (hG _ hc).1, ok _ (by simp [va_wsS]), ⟨hd.1, hd.2.1⟩, fun sig h => ?_, ok _ (by simp [va_wsS]), ok _ (by simp [va_wsS])⟩
  have h2 := hd.2.2
  rw [h] at h2
  exact (Option.some.inj h2).symm
theorem vx_callSW (X : Stand p l e R s m args below meth c T locs cells slots) (hexec : p.tables.exec = Jvm.exec) {own : String} {index : Nat} {y : MethodName} {bytes : ByteArray} {maxL : Nat} {ret : Option FieldType} {hh : List (Nat × Nat × Nat × Nat)}
    (hown : s.vm.findClass own = some m.cls) (hlink : (Cond.methodLink own index y).before args s = true) (hstat : (Cond.static y).before args s = true) (hinit : (Cond.initialized y.cls).before args s = true)
    (hcode : (Cond.codeWith y bytes maxL ret hh).before args s = true) (hy : y.cls ≠ "java/lang/invoke/MethodHandle" ∧ y.cls ≠ "java/lang/invoke/VarHandle")
    {W9 : Nat} {Pre : Pt → Array Value → Prop} {Post : Pt → Array Value → Option Value → Pt → Prop} (hK : Back l R p e below s args y 3 W9 Pre Post)
    {g : JFrame} (hg : g.method = m) (hsize : g.locals.size = c.maxLocals) {argsL rest : List Value} (hlen : ∀ sig, parseMethodDescriptor y.desc = some sig → argsL.length = sig.parameters.length)
    (hstack : g.stack = argsL.reverse ++ rest) (hW : 2 * g.monitorRoom + (rest.map fun v => v.category).sum ≤ W9) (hdg : decode c.code g.pc = .ok (.invokestatic index, 3))
    (hpre : ∀ vm₁, s.WarmedH vm₁ → Pre ⟨T.setVm vm₁, locs, cells, slots⟩ argsL.toArray) :
    ∃ (v : Option Value) (vm₁ : Vm) (B : Pt), s.WarmedH vm₁ ∧ Stand p l e R s m args below meth c B.U B.locs B.cells B.slots ∧ Post ⟨T.setVm vm₁, locs, cells, slots⟩ argsL.toArray v B ∧
      ∀ target, Steps p.tables e below (B.U.setTop { g with pc := g.pc + 3, stack := v.toList ++ rest }) target → Steps p.tables e below (T.setTop g) target := by
  obtain ⟨mk, methM, cM, hnamed, hmethM, -, -, -, -, -, -, hsigM⟩ := Cond.codeWith_spec hcode
  have hstatic : methM.isStatic = true := Cond.static_spec hnamed hmethM hstat
  obtain ⟨kP, hkP, -⟩ := className_of_methodNamed hnamed
  have hinitP : kP.init = .initialized := Cond.initialized_spec (findClass_of_methodNamed hnamed) hkP hinit
  obtain ⟨vm₁, X₁, hstep₁⟩ := X.invokestatic hexec hown hlink hnamed hmethM hstatic hkP hinitP hy (g := g) hg (argsL := argsL) (rest := rest) (hlen _ hsigM) hstack hdg
  obtain ⟨v, B, X', hpost, hsteps⟩ := hK m meth c ⟨T.setVm vm₁, locs, cells, slots⟩ { g with stack := rest } (.invokestatic index) mk argsL.toArray X₁ hg hsize hdg hW (X₁.named hnamed) (hpre vm₁ X₁.warmed)
  exact ⟨v, vm₁, B, X₁.warmed, X', hpost, fun target h => hstep₁ _ fun acts => by rw [doInvoke_state]; exact hsteps.trans h⟩
theorem vx_runSW {y : MethodName} {bytes cc : ByteArray} {maxL nL mc ms n index : Nat} {ret : Option FieldType} {hh : List (Nat × Nat × Nat × Nat)} {ws : List Cond} {rm : Room} {Pc : Array Value → State → Prop} {Qc : Array Value → State → Outcome → State → Prop} {free : Addr → Prop} {Ts : List Cond} {own : String} {As rest : List Value} {g : JFrame}
    (S : CallFix p m c cc nL s args Ts own) (hM : Met l y ws rm Pc Qc mc ms free) (cw : vx_CSW R s args own index y bytes maxL ret hh ws rm mc ms n) (hp : PreS s H Pc As)
    (hg : g.method = m) (hn : As.length = n) (hsize : g.locals.size = nL) (hstack : g.stack = As.reverse ++ rest) (hW : 2 * g.monitorRoom + (rest.map fun v => v.category).sum ≤ 8) (hdg : decode cc g.pc = .ok (.invokestatic index, 3)) (hf : cells + mc ≤ R.cells ∧ slots + ms ≤ R.slots) :
    va_Run p l e R s m args below meth c H locs cells slots mc ms g rest (Qc As.toArray) (free) := by
  obtain ⟨⟨hrc, hrs, hfr, hlo, hws, hcw⟩, hcode, hini, hy, hlen, hl, hstt⟩ := cw
  have hK : Back l R p e below s args y 3 8 (PreOf R mc ms Pc) (PostOf Qc mc ms free) := va_backW (hh := hh) (bytes := bytes) (maxL := maxL) (ret := ret) hM hp.1 hrc hrs hfr hlo hws hcw (fun a' U hW => word_at hW (Or.inl (by first | rfl | simp [Cond.onTables, Cond.keeps, Cond.steady])) hini)
  obtain ⟨hx, hb, hml, ho, -⟩ := S
  intro T hT X
  obtain ⟨v, vm₁, ⟨U', l2, c2, s2⟩, hW₁, X', ⟨g', mk, t, L, e1, e2, hq, h1, hL, h2, h3⟩, st⟩ := vx_callSW X hx (hh := hh) (bytes := bytes) (maxL := maxL) (ret := ret) ho hl hstt hini hcode hy hK hg (hsize.trans hml.symm) (argsL := As) (rest := rest) (fun sig h => hn.trans (hlen sig h)) hstack hW (by rw [hb]; exact hdg)
    (fun vm₁ hW₁ => ⟨hf.1, hf.2, hp.2 (T.setVm vm₁) hT hW₁⟩)
  dsimp only [Pt.U, Pt.locs, Pt.cells, Pt.slots] at X' e1 e2 h1 h2 h3 st
  subst h1; subst h2; subst h3
  exact ⟨v, (T.setVm vm₁).calling g' mk As.toArray, t, U', L, hT, X', hL, e1, e2, hq, st⟩
/-- not caught here, past rows that name other classes: it goes on to the caller -/
theorem vx_outP {p : Program} {l : Launch} {e : Env} {R : Room} {s : State} {m : MethodId} {args : Array Value} {below : List Frame} {meth : Method} {c : Code} {H : Heap} {locs : List Loc} {cells slots : Nat} {free : Addr → Prop} {ls : Array Slot} {rest : List Value} {Qc : Array Value → State → Outcome → State → Prop} {XC : String → State → State → Prop}
    {pc : Nat} {own E : String} {ce : Cell} {q : Addr} {mc ms : Nat} (hown : s.vm.findClass own = some m.cls) (hlocks : meth.locks = false)
    (hpass : ∀ z ∈ c.exceptionTable.toList, covers z pc = false ∨ (z.catchType ≠ 0 ∧ ∃ nm : String, (Cond.classLink own z.catchType nm).before args s = true ∧ va_Nc E nm s)) (hcell : H[q]? = some ce) (hv : ce.vm = .none) (hcl : s.vm.findClass E = some ce.cls)
    (hx : ∀ t : State, t.heap = H → s.vm.Alike t.vm → XC E s t) (hf : ∀ z ∈ locs, free z.base) (hc : cells ≤ mc) (hs : slots ≤ ms) :
    vx_W p l e R s m args below meth c H locs cells slots (vx_MQ below Qc XC args s mc ms free) (F0 m pc ls rest) q := by
  intro T hT X
  have hpl : e.platform.magicAccessors = ({} : Platform).magicAccessors := by rw [X.admits.platform]
  obtain ⟨vm', hW', X', st⟩ := X.outThrough hlocks q (g := F0 m pc ls rest) rfl rfl rfl (cell := ce) (by rw [hT]; exact hcell) (by rw [hv]; rfl)
    (by obtain ⟨k9, h9, -⟩ := Vm.findClass_spec hcl; exact ⟨k9, h9⟩) (fun z hz => by
      rcases hpass z hz with h | ⟨hz0, nm, hl1, hn1⟩
      · exact Or.inl h
      · obtain ⟨c6, hc6, hcl6⟩ := Cond.classLink_spec hown hl1 e.platform hpl
        obtain ⟨a8, b8, h1, h2, h3⟩ := hn1
        cases Option.some.inj (h1.symm.trans hcl)
        cases Option.some.inj (h2.symm.trans hc6)
        exact Or.inr ⟨hz0, _, hcl6, h3⟩)
  obtain ⟨g₀, hfr⟩ := X'.frames_eq
  have hcell9 : ((T.setVm vm').setFrames (.throwing q :: below)).heap[q]? = some ce := by
    show T.heap[q]? = some ce
    rw [hT]; exact hcell
  have hend : Ended ((T.setVm vm').setFrames (.throwing q :: below)) below (.threw q) := State.frames_setFrames _ (State.cur_lt_of_frames hfr)
  refine ⟨(T.setVm vm').setFrames (.throwing q :: below), ?_, .threw q, X'.here.running, hend, Or.inr ⟨q, rfl, E, ce, locs, hx _ hT (X'.ends _).1.alike, hcell9, hv, hcl, (X'.ends _).1, (X'.ends _).2.mono hc hs, hf⟩⟩
  rw [X.pushThrowing_eq]
  exact st
/-- a thing of a world lies in the heap -/
theorem vx_lt {D : va_G} {cl : List vw_C} {ws : va_W} {H1 : Heap} (h : va_P D cl ws H1) {k : Nat} {q : Nat × va_E} (hk : ws[k]? = some q) : q.1 < H1.size := (h k q hk).lt
end VXS
/-! ===== END ===== -/
/-! ===== BEGIN methods with a table of their own: called by a name, returning or throwing ===== -/
section VXH
/-! vx_backW, vx_callVX, vx_callSX, vx_callVW, vx_runVW, vx_runVX, vx_runSX, vx_ofWH follow the same proofs as their sisters above (Free/Laws.lean, Shelf42/LK1.lean); vx_outP calls Shelf42/NT130.lean (outThrough). -/
section
variable {l : Launch} {R : Room} {p : Program} {e : Env} {below : List Frame} {s : State} {sargs : Array Value} {y : MethodName} {len W9 : Nat}
theorem vx_backW {ws : List Cond} {rm : Room} {Pc : Array Value → State → Prop} {Qc : Array Value → State → Outcome → State → Prop} {XC : String → State → State → Prop} {mc ms : Nat} {free : Addr → Prop} {bytes : ByteArray} {maxL : Nat} {ret : Option FieldType} {hh : List (Nat × Nat × Nat × Nat)}
    (hM : vx_Met l y ws rm Pc Qc XC mc ms free) (hblind : FrameBlind Pc) (hrc : rm.cells = mc) (hrs : rm.slots = ms)
    (hframes : rm.frames + 1 ≤ R.frames) (hlocals : W9 + (maxL + 11) + rm.locals ≤ R.locals)
    (hws : ∀ w ∈ ws, ∀ a' U, s.WarmedH U.vm → w.before a' U = true) (hcode : Cond.codeWith y bytes maxL ret hh ∈ ws) (hinit : ∀ a' U, s.WarmedH U.vm → (Cond.initialized y.cls).before a' U = true) :
    vx_Back l R p e below s sargs y len W9 (PreOf R mc ms Pc) (PostOf Qc mc ms free) (vx_Post XC mc ms free) := by
  intro m meth c A g ig mk a X hg hsize hdg hW hn hp
  have h1 : (headSpec ws rm).pre.before a A.U = true := atoms_intro fun w hw => hws w hw _ _ X.warmed
  have h2 : (Cond.codeWith y bytes maxL ret hh).before a A.U = true := hws _ hcode _ _ X.warmed
  have h3 : (Cond.initialized y.cls).before a A.U = true := hinit _ _ X.warmed
  have h4 : A.cells + (headSpec ws rm).room.cells ≤ R.cells := by rw [show (headSpec ws rm).room.cells = mc from hrc]; exact hp.1
  have h5 : A.slots + (headSpec ws rm).room.slots ≤ R.slots := by rw [show (headSpec ws rm).room.slots = ms from hrs]; exact hp.2.1
  have hPc : Pc a (A.U.calling g mk a) := hblind _ _ _ _ hp.2.2
  obtain ⟨U, Ls, c0, s0⟩ := A
  dsimp only [Pt.U, Pt.locs, Pt.cells, Pt.slots] at h1 h2 h3 h4 h5 X hn hPc ⊢
  obtain ⟨m9, methY, cY, hn9, hmY, hcY, -, hlY, -⟩ := Cond.codeWith_spec h2
  cases Option.some.inj (hn9.symm.trans hn)
  obtain ⟨kY, hkY, -⟩ := className_of_methodNamed hn
  have hinitY : kY.init = .initialized := Cond.initialized_spec (findClass_of_methodNamed hn) hkY h3
  have h : At U g.method c below := by rw [hg]; exact X.here
  have hlocals9 : W9 + (maxL + 11) + (headSpec ws rm).room.locals ≤ R.locals := hlocals
  have happ : (headSpec ws rm).appliesLoose y e.platform (U.calling g mk a) = true :=
    Spec.appliesLoose_calling (g := g) h hdg hn hkY hinitY
      (X.room_calling (g := g) (R' := (headSpec ws rm).room) hsize hmY hcY hframes (by rw [hlY]; omega) h4 h5) h1
  obtain ⟨mid, hmid⟩ := h.above
  have hfr : (U.setTop g).frames = (.java g :: mid) ++ below := by rw [State.frames_setTop' g h.top, hmid]; rfl
  obtain ⟨o, s₂, hsteps, -, hend, hq⟩ := Steps.callFree hM p X.admits X.cas X.clock (acts := []) hfr happ hPc trivial
  have hq' : vx_Q Qc XC mc ms free a (U.calling g mk a) o s₂ := hq
  rw [State.frames_setTop' g h.top] at hend
  obtain ⟨g₀, hg0⟩ := Option.isSome_iff_exists.mp h.top
  obtain ⟨r, hr⟩ := State.topJava?_eq_some.mp hg0
  have hr' : (({ U with heap := s₂.heap, slotsUsed := s₂.slotsUsed } : State).setVm s₂.vm).frames = .java g₀ :: r := hr
  rcases hq' with ⟨hqc, L, hfe, hL⟩ | ⟨q, rfl, E, ce, L, hx, hce, hcv, hcl, hW₂, hsm, hL⟩
  · obtain ⟨⟨v, rfl⟩, hW₂, e2, q2, q3, q4, q5, q6⟩ := id hfe
    have e3 : s₂ = ({ (U.calling g mk a).setFrames s₂.frames with heap := s₂.heap, slotsUsed := s₂.slotsUsed } : State).setVm s₂.vm := by
      have : s₂ = ({ s₂ with vm := (U.calling g mk a).vm } : State).setVm s₂.vm := rfl
      rw [e2] at this
      exact this
    obtain ⟨c₂, i₂, len₂, hc₂, hd₂, hf₂⟩ := hend
    have hW' : U.WarmedH s₂.vm := hW₂
    have hcc : c₂ = c := by
      have h1 : s₂.code? g.method = U.code? g.method := by
        rw [State.code?_eq, State.code?_eq, hW'.alike.method?]
      exact Option.some.inj (hc₂.symm.trans (h1.trans h.code))
    subst hcc
    have hlen : len₂ = len := by rw [hdg] at hd₂; cases hd₂; rfl
    subst hlen
    have hs₂ : s₂ = (({ U with heap := s₂.heap, slotsUsed := s₂.slotsUsed } : State).setVm s₂.vm).setTop { g with pc := g.pc + len₂, stack := v.toList ++ g.stack } := by
      refine e3.trans ?_
      rw [hf₂, State.calling_eq h.top, State.setFrames_setFrames, State.setTop_of_frames _ hr', hr]
      rfl
    have hsame : U.sameButNew ({ U with heap := s₂.heap, slotsUsed := s₂.slotsUsed } : State) L mc ms := by
      refine ⟨?_, q2, q3, q4, q5, q6⟩
      obtain ⟨t, ht, -⟩ := State.frames_cons hr
      show ({ U with heap := s₂.heap, slotsUsed := s₂.slotsUsed } : State) = { U.setFrames U.frames with heap := s₂.heap, slotsUsed := s₂.slotsUsed }
      rw [State.setFrames_self ht]
    subst hg
    refine Or.inl ⟨v, ⟨(({ U with heap := s₂.heap, slotsUsed := s₂.slotsUsed } : State).setVm s₂.vm), Ls ++ L, c0 + mc, s0 + ms⟩,
      ⟨X.admits, X.cas, X.clock, X.frames, X.room, X.hears, X.method, X.code, (X.here.setHeapUsed s₂.heap s₂.slotsUsed).setVm hW'.alike, X.tail, State.WarmedH.trans X.warmed hW', X.limits, X.bytes, X.same.trans (hsame.setVm s.vm)⟩,
      ⟨g, mk, s₂, L, rfl, rfl, hqc, rfl, hL, rfl, rfl⟩, ?_⟩
    show Steps p.tables e below _ ((({ U with heap := s₂.heap, slotsUsed := s₂.slotsUsed } : State).setVm s₂.vm).setTop { g with pc := g.pc + len₂, stack := v.toList ++ g.stack })
    rw [← hs₂]
    exact hsteps
  · obtain ⟨e2, q2, q3, q4, q5, q6⟩ := id hsm
    have e3 : s₂ = ({ (U.calling g mk a).setFrames s₂.frames with heap := s₂.heap, slotsUsed := s₂.slotsUsed } : State).setVm s₂.vm := by
      have : s₂ = ({ s₂ with vm := (U.calling g mk a).vm } : State).setVm s₂.vm := rfl
      rw [e2] at this
      exact this
    have hf₂ : s₂.frames = .throwing q :: .java g :: U.frames.tail := hend
    have hW' : U.WarmedH s₂.vm := hW₂
    have hs₂ : s₂ = ((({ U with heap := s₂.heap, slotsUsed := s₂.slotsUsed } : State).setVm s₂.vm).setTop g).pushFrame (.throwing q) := by
      refine e3.trans ?_
      rw [hf₂, State.calling_eq h.top, State.setFrames_setFrames, State.pushFrame, State.frames_setTop _ hr', State.setTop_of_frames _ hr', State.setFrames_setFrames, hr]
      rfl
    have hsame : U.sameButNew ({ U with heap := s₂.heap, slotsUsed := s₂.slotsUsed } : State) L mc ms := by
      refine ⟨?_, q2, q3, q4, q5, q6⟩
      obtain ⟨t, ht, -⟩ := State.frames_cons hr
      show ({ U with heap := s₂.heap, slotsUsed := s₂.slotsUsed } : State) = { U.setFrames U.frames with heap := s₂.heap, slotsUsed := s₂.slotsUsed }
      rw [State.setFrames_self ht]
    subst hg
    refine Or.inr ⟨q, ⟨(({ U with heap := s₂.heap, slotsUsed := s₂.slotsUsed } : State).setVm s₂.vm), Ls ++ L, c0 + mc, s0 + ms⟩,
      ⟨X.admits, X.cas, X.clock, X.frames, X.room, X.hears, X.method, X.code, (X.here.setHeapUsed s₂.heap s₂.slotsUsed).setVm hW'.alike, X.tail, State.WarmedH.trans X.warmed hW', X.limits, X.bytes, X.same.trans (hsame.setVm s.vm)⟩,
      ⟨g, mk, s₂, L, E, ce, rfl, rfl, hx, hce, hcv, hcl, rfl, hL, rfl, rfl⟩, ?_⟩
    show Steps p.tables e below _ (((({ U with heap := s₂.heap, slotsUsed := s₂.slotsUsed } : State).setVm s₂.vm).setTop g).pushFrame (.throwing q))
    rw [← hs₂]
    exact hsteps
end
variable {p : Program} {l : Launch} {e : Env} {R : Room} {s : State} {m : MethodId} {args : Array Value} {below : List Frame} {meth : Method} {c : Code} {T : State} {H : Heap} {locs : List Loc} {cells slots : Nat}
theorem vx_callVX (X : Stand p l e R s m args below meth c T locs cells slots) (hexec : p.tables.exec = Jvm.exec) {own C : String} {index : Nat} {y : MethodName} {bytes : ByteArray} {maxL : Nat} {ret : Option FieldType} {hh : List (Nat × Nat × Nat × Nat)}
    (hown : s.vm.findClass own = some m.cls) (hlink : (Cond.methodLink own index y).before args s = true) (hinst : (Cond.instanceMethod y).before args s = true) (hsel : (Cond.selects C y y).before args s = true)
    (hcode : (Cond.codeWith y bytes maxL ret hh).before args s = true) (hy : y.cls ≠ "java/lang/invoke/MethodHandle" ∧ y.cls ≠ "java/lang/invoke/VarHandle")
    {W9 : Nat} {Pre : Pt → Array Value → Prop} {Post : Pt → Array Value → Option Value → Pt → Prop} {PostX : Pt → Array Value → Addr → Pt → Prop} (hK : vx_Back l R p e below s args y 3 W9 Pre Post PostX)
    {b : Addr} {cellB : Cell} (hcell : T.heap[b]? = some cellB) (hobj : cellB.vm.isStatics = false) (hcls : s.vm.findClass C = some cellB.cls)
    {g : JFrame} (hg : g.method = m) (hsize : g.locals.size = c.maxLocals) {argsL rest : List Value} (hlen : ∀ sig, parseMethodDescriptor y.desc = some sig → argsL.length = sig.parameters.length)
    (hstack : g.stack = argsL.reverse ++ .ref b :: rest) (hW : 2 * g.monitorRoom + (rest.map fun v => v.category).sum ≤ W9) (hdg : decode c.code g.pc = .ok (.invokevirtual index, 3))
    (hpre : ∀ vm₁, s.WarmedH vm₁ → Pre ⟨T.setVm vm₁, locs, cells, slots⟩ (Value.ref b :: argsL).toArray) :
    (∃ (v : Option Value) (vm₁ : Vm) (B : Pt), s.WarmedH vm₁ ∧ Stand p l e R s m args below meth c B.U B.locs B.cells B.slots ∧ Post ⟨T.setVm vm₁, locs, cells, slots⟩ (Value.ref b :: argsL).toArray v B ∧
      ∀ target, Steps p.tables e below (B.U.setTop { g with pc := g.pc + 3, stack := v.toList ++ rest }) target → Steps p.tables e below (T.setTop g) target) ∨
    (∃ (q : Addr) (vm₁ : Vm) (B : Pt), s.WarmedH vm₁ ∧ Stand p l e R s m args below meth c B.U B.locs B.cells B.slots ∧ PostX ⟨T.setVm vm₁, locs, cells, slots⟩ (Value.ref b :: argsL).toArray q B ∧
      Steps p.tables e below (T.setTop g) ((B.U.setTop { g with stack := rest }).pushFrame (.throwing q))) := by
  obtain ⟨mk, methM, hnamed, hmethM, hstM, habM⟩ := Cond.instanceMethod_spec hinst
  obtain ⟨m8, methM', cM, hn8, hmethM', -, -, -, -, -, -, hsigM⟩ := Cond.codeWith_spec hcode
  cases Option.some.inj (hn8.symm.trans hnamed)
  cases hmethM.symm.trans hmethM'
  obtain ⟨c2, r2, m2, q1, q2, q3, q4, kP, hkP, hkPi⟩ := Cond.selects_spec hsel
  cases hcls.symm.trans q1
  cases (State.methodFound?_of_named hnamed hy).symm.trans q2
  cases hnamed.symm.trans q3
  have hselP : selectMethod e.platform s.vm cellB.cls mk = .method mk := by rw [Launch.admits_selectMethod X.admits]; exact q4
  obtain ⟨vm₁, X₁, hstep₁⟩ := X.invokevirtual hexec hown hlink hnamed hmethM hstM hkP hkPi hy (a := b) (cell := cellB) hcell
    (fun z h => by rw [h] at hobj; cases hobj) hselP hmethM habM hkP hkPi (g := g) hg (argsL := argsL) (rest := rest) (hlen _ hsigM) hstack hdg
  rcases hK m meth c ⟨T.setVm vm₁, locs, cells, slots⟩ { g with stack := rest } (.invokevirtual index) mk (Value.ref b :: argsL).toArray X₁ hg hsize hdg hW (X₁.named hnamed) (hpre vm₁ X₁.warmed) with ⟨v, B, X', hpost, hsteps⟩ | ⟨q, B, X', hpost, hsteps⟩
  · exact Or.inl ⟨v, vm₁, B, X₁.warmed, X', hpost, fun target h => hstep₁ _ fun acts => by rw [doInvoke_state]; exact hsteps.trans h⟩
  · exact Or.inr ⟨q, vm₁, B, X₁.warmed, X', hpost, hstep₁ _ fun acts => by rw [doInvoke_state]; exact hsteps⟩
theorem vx_callSX (X : Stand p l e R s m args below meth c T locs cells slots) (hexec : p.tables.exec = Jvm.exec) {own : String} {index : Nat} {y : MethodName} {bytes : ByteArray} {maxL : Nat} {ret : Option FieldType} {hh : List (Nat × Nat × Nat × Nat)}
    (hown : s.vm.findClass own = some m.cls) (hlink : (Cond.methodLink own index y).before args s = true) (hstat : (Cond.static y).before args s = true) (hinit : (Cond.initialized y.cls).before args s = true)
    (hcode : (Cond.codeWith y bytes maxL ret hh).before args s = true) (hy : y.cls ≠ "java/lang/invoke/MethodHandle" ∧ y.cls ≠ "java/lang/invoke/VarHandle")
    {W9 : Nat} {Pre : Pt → Array Value → Prop} {Post : Pt → Array Value → Option Value → Pt → Prop} {PostX : Pt → Array Value → Addr → Pt → Prop} (hK : vx_Back l R p e below s args y 3 W9 Pre Post PostX)
    {g : JFrame} (hg : g.method = m) (hsize : g.locals.size = c.maxLocals) {argsL rest : List Value} (hlen : ∀ sig, parseMethodDescriptor y.desc = some sig → argsL.length = sig.parameters.length)
    (hstack : g.stack = argsL.reverse ++ rest) (hW : 2 * g.monitorRoom + (rest.map fun v => v.category).sum ≤ W9) (hdg : decode c.code g.pc = .ok (.invokestatic index, 3))
    (hpre : ∀ vm₁, s.WarmedH vm₁ → Pre ⟨T.setVm vm₁, locs, cells, slots⟩ argsL.toArray) :
    (∃ (v : Option Value) (vm₁ : Vm) (B : Pt), s.WarmedH vm₁ ∧ Stand p l e R s m args below meth c B.U B.locs B.cells B.slots ∧ Post ⟨T.setVm vm₁, locs, cells, slots⟩ argsL.toArray v B ∧
      ∀ target, Steps p.tables e below (B.U.setTop { g with pc := g.pc + 3, stack := v.toList ++ rest }) target → Steps p.tables e below (T.setTop g) target) ∨
    (∃ (q : Addr) (vm₁ : Vm) (B : Pt), s.WarmedH vm₁ ∧ Stand p l e R s m args below meth c B.U B.locs B.cells B.slots ∧ PostX ⟨T.setVm vm₁, locs, cells, slots⟩ argsL.toArray q B ∧
      Steps p.tables e below (T.setTop g) ((B.U.setTop { g with stack := rest }).pushFrame (.throwing q))) := by
  obtain ⟨mk, methM, cM, hnamed, hmethM, -, -, -, -, -, -, hsigM⟩ := Cond.codeWith_spec hcode
  have hstatic : methM.isStatic = true := Cond.static_spec hnamed hmethM hstat
  obtain ⟨kP, hkP, -⟩ := className_of_methodNamed hnamed
  have hinitP : kP.init = .initialized := Cond.initialized_spec (findClass_of_methodNamed hnamed) hkP hinit
  obtain ⟨vm₁, X₁, hstep₁⟩ := X.invokestatic hexec hown hlink hnamed hmethM hstatic hkP hinitP hy (g := g) hg (argsL := argsL) (rest := rest) (hlen _ hsigM) hstack hdg
  rcases hK m meth c ⟨T.setVm vm₁, locs, cells, slots⟩ { g with stack := rest } (.invokestatic index) mk argsL.toArray X₁ hg hsize hdg hW (X₁.named hnamed) (hpre vm₁ X₁.warmed) with ⟨v, B, X', hpost, hsteps⟩ | ⟨q, B, X', hpost, hsteps⟩
  · exact Or.inl ⟨v, vm₁, B, X₁.warmed, X', hpost, fun target h => hstep₁ _ fun acts => by rw [doInvoke_state]; exact hsteps.trans h⟩
  · exact Or.inr ⟨q, vm₁, B, X₁.warmed, X', hpost, hstep₁ _ fun acts => by rw [doInvoke_state]; exact hsteps⟩
theorem vx_callVW (X : Stand p l e R s m args below meth c T locs cells slots) (hexec : p.tables.exec = Jvm.exec) {own C : String} {index : Nat} {y : MethodName} {bytes : ByteArray} {maxL : Nat} {ret : Option FieldType} {hh : List (Nat × Nat × Nat × Nat)}
    (hown : s.vm.findClass own = some m.cls) (hlink : (Cond.methodLink own index y).before args s = true) (hinst : (Cond.instanceMethod y).before args s = true) (hsel : (Cond.selects C y y).before args s = true)
    (hcode : (Cond.codeWith y bytes maxL ret hh).before args s = true) (hy : y.cls ≠ "java/lang/invoke/MethodHandle" ∧ y.cls ≠ "java/lang/invoke/VarHandle")
    {W9 : Nat} {Pre : Pt → Array Value → Prop} {Post : Pt → Array Value → Option Value → Pt → Prop} (hK : Back l R p e below s args y 3 W9 Pre Post)
    {b : Addr} {cellB : Cell} (hcell : T.heap[b]? = some cellB) (hobj : cellB.vm.isStatics = false) (hcls : s.vm.findClass C = some cellB.cls)
    {g : JFrame} (hg : g.method = m) (hsize : g.locals.size = c.maxLocals) {argsL rest : List Value} (hlen : ∀ sig, parseMethodDescriptor y.desc = some sig → argsL.length = sig.parameters.length)
    (hstack : g.stack = argsL.reverse ++ .ref b :: rest) (hW : 2 * g.monitorRoom + (rest.map fun v => v.category).sum ≤ W9) (hdg : decode c.code g.pc = .ok (.invokevirtual index, 3))
    (hpre : ∀ vm₁, s.WarmedH vm₁ → Pre ⟨T.setVm vm₁, locs, cells, slots⟩ (Value.ref b :: argsL).toArray) :
    ∃ (v : Option Value) (vm₁ : Vm) (B : Pt), s.WarmedH vm₁ ∧ Stand p l e R s m args below meth c B.U B.locs B.cells B.slots ∧ Post ⟨T.setVm vm₁, locs, cells, slots⟩ (Value.ref b :: argsL).toArray v B ∧
      ∀ target, Steps p.tables e below (B.U.setTop { g with pc := g.pc + 3, stack := v.toList ++ rest }) target → Steps p.tables e below (T.setTop g) target := by
  obtain ⟨mk, methM, hnamed, hmethM, hstM, habM⟩ := Cond.instanceMethod_spec hinst
  obtain ⟨m8, methM', cM, hn8, hmethM', -, -, -, -, -, -, hsigM⟩ := Cond.codeWith_spec hcode
  cases Option.some.inj (hn8.symm.trans hnamed)
  cases hmethM.symm.trans hmethM'
  obtain ⟨c2, r2, m2, q1, q2, q3, q4, kP, hkP, hkPi⟩ := Cond.selects_spec hsel
  cases hcls.symm.trans q1
  cases (State.methodFound?_of_named hnamed hy).symm.trans q2
  cases hnamed.symm.trans q3
  have hselP : selectMethod e.platform s.vm cellB.cls mk = .method mk := by rw [Launch.admits_selectMethod X.admits]; exact q4
  obtain ⟨vm₁, X₁, hstep₁⟩ := X.invokevirtual hexec hown hlink hnamed hmethM hstM hkP hkPi hy (a := b) (cell := cellB) hcell
    (fun z h => by rw [h] at hobj; cases hobj) hselP hmethM habM hkP hkPi (g := g) hg (argsL := argsL) (rest := rest) (hlen _ hsigM) hstack hdg
  obtain ⟨v, B, X', hpost, hsteps⟩ := hK m meth c ⟨T.setVm vm₁, locs, cells, slots⟩ { g with stack := rest } (.invokevirtual index) mk (Value.ref b :: argsL).toArray X₁ hg hsize hdg hW (X₁.named hnamed) (hpre vm₁ X₁.warmed)
  exact ⟨v, vm₁, B, X₁.warmed, X', hpost, fun target h => hstep₁ _ fun acts => by rw [doInvoke_state]; exact hsteps.trans h⟩
abbrev vx_CVW (R : Room) (s : State) (args : Array Value) (own C : String) (index : Nat) (y : MethodName) (bytes : ByteArray) (maxL : Nat) (ret : Option FieldType) (hh : List (Nat × Nat × Nat × Nat)) (ws : List Cond) (rm : Room) (mc ms n : Nat) : Prop :=
  (rm.cells = mc ∧ rm.slots = ms ∧ rm.frames + 1 ≤ R.frames ∧ 8 + (maxL + 11) + rm.locals ≤ R.locals ∧ (∀ w ∈ ws, ∀ (a' : Array Value) (U : State), s.WarmedH U.vm → w.before a' U = true) ∧ Cond.codeWith y bytes maxL ret hh ∈ ws) ∧
  (Cond.codeWith y bytes maxL ret hh).before args s = true ∧ (Cond.initialized y.cls).before args s = true ∧ (y.cls ≠ "java/lang/invoke/MethodHandle" ∧ y.cls ≠ "java/lang/invoke/VarHandle") ∧
  (∀ sig, parseMethodDescriptor y.desc = some sig → n = sig.parameters.length) ∧ (Cond.methodLink own index y).before args s = true ∧ (Cond.instanceMethod y).before args s = true ∧ (Cond.selects C y y).before args s = true
theorem vx_cwVW {own C : String} {index maxL mc ms : Nat} {y : MethodName} {bytes : ByteArray} {ret : Option FieldType} {hh : List (Nat × Nat × Nat × Nat)} {Ts ws ws' : List Cond} {rm : Room} (n : Nat) (ht : ∀ w ∈ Ts, w.before args s = true) (hT : GoodIn Ts (wsV own index C y ws)) (hw : ws = Cond.codeWith y bytes maxL ret hh :: ws') (hrc : rm.cells = mc) (hrs : rm.slots = ms)
    (hd : y.cls = C ∧ y.cls ≠ "java/lang/invoke/MethodHandle" ∧ y.cls ≠ "java/lang/invoke/VarHandle" ∧ (parseMethodDescriptor y.desc).map (fun d => d.parameters.length) = some n) (hR : rm.frames + 1 ≤ R.frames ∧ 8 + (maxL + 11) + rm.locals ≤ R.locals) :
    vx_CVW R s args own C index y bytes maxL ret hh ws rm mc ms n := by
  obtain ⟨hC, hd⟩ := hd
  subst hC
  have ok : ∀ w ∈ wsV own index y.cls y ws, w.before args s = true := fun w h => ht w (hT w h).1
  have hG : GoodIn Ts ws := fun w h => hT w (by unfold wsV; exact List.mem_append_right _ h)
  have hc : Cond.codeWith y bytes maxL ret hh ∈ ws := by rw [hw]; exact List.mem_cons_self
  refine ⟨⟨hrc, hrs, hR.1, hR.2, pay_in ht hG, hc⟩, ht _ (hG _ hc).1, ok _ (by simp [wsV]), ⟨hd.1, hd.2.1⟩, fun sig h => ?_, ok _ (by simp [wsV]), ok _ (by simp [wsV]), ok _ (by simp [wsV])⟩
  have h2 := hd.2.2
  rw [h] at h2
  exact (Option.some.inj h2).symm
theorem vx_runVW {y : MethodName} {bytes cc : ByteArray} {maxL nL mc ms n index : Nat} {ret : Option FieldType} {hh : List (Nat × Nat × Nat × Nat)} {ws : List Cond} {rm : Room} {Pc : Array Value → State → Prop} {Qc : Array Value → State → Outcome → State → Prop} {free : Addr → Prop} {Ts : List Cond} {own C : String} {b : Addr} {As rest : List Value} {g : JFrame}
    (S : CallFix p m c cc nL s args Ts own) (hM : Met l y ws rm Pc Qc mc ms free) (cw : vx_CVW R s args own C index y bytes maxL ret hh ws rm mc ms n) (hp : PreV s H C b Pc As)
    (hg : g.method = m) (hn : As.length = n) (hsize : g.locals.size = nL) (hstack : g.stack = As.reverse ++ .ref b :: rest) (hW : 2 * g.monitorRoom + (rest.map fun v => v.category).sum ≤ 8) (hdg : decode cc g.pc = .ok (.invokevirtual index, 3)) (hf : cells + mc ≤ R.cells ∧ slots + ms ≤ R.slots) :
    va_Run p l e R s m args below meth c H locs cells slots mc ms g rest (Qc (Value.ref b :: As).toArray) free := by
  obtain ⟨⟨hrc, hrs, hfr, hlo, hws, hcw⟩, hcode, hini, hy, hlen, hl, hin, hse⟩ := cw
  have hK : Back l R p e below s args y 3 8 (PreOf R mc ms Pc) (PostOf Qc mc ms free) := va_backW (hh := hh) (bytes := bytes) (maxL := maxL) (ret := ret) hM hp.1 hrc hrs hfr hlo hws hcw (fun a' U hW => word_at hW (Or.inl (by first | rfl | simp [Cond.onTables, Cond.keeps, Cond.steady])) hini)
  obtain ⟨hx, hb, hml, ho, -⟩ := S
  obtain ⟨-, ⟨cellB, hcB, hoB, hclB⟩, hPc⟩ := hp
  intro T hT X
  obtain ⟨v, vm₁, ⟨U', l2, c2, s2⟩, hW₁, X', ⟨g', mk, t, L, e1, e2, hq, h1, hL, h2, h3⟩, st⟩ := vx_callVW X hx (C := C) (hh := hh) (bytes := bytes) (maxL := maxL) (ret := ret) ho hl hin hse hcode hy hK (by rw [hT]; exact hcB) hoB hclB hg (hsize.trans hml.symm) (argsL := As) (rest := rest) (fun sig h => hn.trans (hlen sig h)) hstack hW (by rw [hb]; exact hdg)
    (fun vm₁ hW₁ => ⟨hf.1, hf.2, hPc (T.setVm vm₁) hT hW₁⟩)
  dsimp only [Pt.U, Pt.locs, Pt.cells, Pt.slots] at X' e1 e2 h1 h2 h3 st
  subst h1; subst h2; subst h3
  exact ⟨v, (T.setVm vm₁).calling g' mk (Value.ref b :: As).toArray, t, U', L, hT, X', hL, e1, e2, hq, st⟩
section
variable {y : MethodName} {bytes cc : ByteArray} {maxL nL mc ms n index : Nat} {ret : Option FieldType} {ws : List Cond} {rm : Room} {Pc : Array Value → State → Prop} {Qc : Array Value → State → Outcome → State → Prop} {XC : String → State → State → Prop} {free : Addr → Prop} {Ts : List Cond} {own C : String} {b : Addr} {As rest : List Value} {g : JFrame}
theorem vx_runVX {hh : List (Nat × Nat × Nat × Nat)} (S : CallFix p m c cc nL s args Ts own) (hM : vx_Met l y ws rm Pc Qc XC mc ms free) (cw : vx_CVW R s args own C index y bytes maxL ret hh ws rm mc ms n) (hp : PreV s H C b Pc As)
    (hg : g.method = m) (hn : As.length = n) (hsize : g.locals.size = nL) (hstack : g.stack = As.reverse ++ .ref b :: rest) (hW : 2 * g.monitorRoom + (rest.map fun v => v.category).sum ≤ 8) (hdg : decode cc g.pc = .ok (.invokevirtual index, 3)) (hf : cells + mc ≤ R.cells ∧ slots + ms ≤ R.slots) :
    vx_Run p l e R s m args below meth c H locs cells slots mc ms g rest (Qc (Value.ref b :: As).toArray) XC free := by
  obtain ⟨⟨hrc, hrs, hfr, hlo, hws, hcw⟩, hcode, hini, hy, hlen, hl, hin, hse⟩ := cw
  have hK : vx_Back l R p e below s args y 3 8 (PreOf R mc ms Pc) (PostOf Qc mc ms free) (vx_Post XC mc ms free) := vx_backW (hh := hh) (bytes := bytes) (maxL := maxL) (ret := ret) hM hp.1 hrc hrs hfr hlo hws hcw (fun a' U hW => word_at hW (Or.inl (by first | rfl | simp [Cond.onTables, Cond.keeps, Cond.steady])) hini)
  obtain ⟨hx, hb, hml, ho, -⟩ := S
  obtain ⟨-, ⟨cellB, hcB, hoB, hclB⟩, hPc⟩ := hp
  intro T hT X
  rcases vx_callVX X hx (C := C) (hh := hh) (bytes := bytes) (maxL := maxL) (ret := ret) ho hl hin hse hcode hy hK (by rw [hT]; exact hcB) hoB hclB hg (hsize.trans hml.symm) (argsL := As) (rest := rest) (fun sig h => hn.trans (hlen sig h)) hstack hW (by rw [hb]; exact hdg)
    (fun vm₁ hW₁ => ⟨hf.1, hf.2, hPc (T.setVm vm₁) hT hW₁⟩) with ⟨v, vm₁, ⟨U', l2, c2, s2⟩, hW₁, X', ⟨g', mk, t, L, e1, e2, hq, h1, hL, h2, h3⟩, st⟩ | ⟨q, vm₁, ⟨U', l2, c2, s2⟩, hW₁, X', ⟨g', mk, t, L, E, ce, e1, e2, hq, hce, hcv, hcl, h1, hL, h2, h3⟩, st⟩
  · dsimp only [Pt.U, Pt.locs, Pt.cells, Pt.slots] at X' e1 e2 h1 h2 h3 st
    subst h1; subst h2; subst h3
    exact Or.inl ⟨v, (T.setVm vm₁).calling g' mk (Value.ref b :: As).toArray, t, U', L, hT, X', hL, e1, e2, hq, st⟩
  · dsimp only [Pt.U, Pt.locs, Pt.cells, Pt.slots] at X' e1 e2 h1 h2 h3 st hcl
    subst h1; subst h2; subst h3
    exact Or.inr ⟨q, (T.setVm vm₁).calling g' mk (Value.ref b :: As).toArray, t, U', L, E, ce, hT, X', hL, e1, e2, hq, hce, hcv, vx_cls hW₁ hcl, st⟩
theorem vx_runSX {hh : List (Nat × Nat × Nat × Nat)} (S : CallFix p m c cc nL s args Ts own) (hM : vx_Met l y ws rm Pc Qc XC mc ms free) (cw : vx_CSW R s args own index y bytes maxL ret hh ws rm mc ms n) (hp : PreS s H Pc As)
    (hg : g.method = m) (hn : As.length = n) (hsize : g.locals.size = nL) (hstack : g.stack = As.reverse ++ rest) (hW : 2 * g.monitorRoom + (rest.map fun v => v.category).sum ≤ 8) (hdg : decode cc g.pc = .ok (.invokestatic index, 3)) (hf : cells + mc ≤ R.cells ∧ slots + ms ≤ R.slots) :
    vx_Run p l e R s m args below meth c H locs cells slots mc ms g rest (Qc As.toArray) XC free := by
  obtain ⟨⟨hrc, hrs, hfr, hlo, hws, hcw⟩, hcode, hini, hy, hlen, hl, hstt⟩ := cw
  have hK : vx_Back l R p e below s args y 3 8 (PreOf R mc ms Pc) (PostOf Qc mc ms free) (vx_Post XC mc ms free) := vx_backW (hh := hh) (bytes := bytes) (maxL := maxL) (ret := ret) hM hp.1 hrc hrs hfr hlo hws hcw (fun a' U hW => word_at hW (Or.inl (by first | rfl | simp [Cond.onTables, Cond.keeps, Cond.steady])) hini)
  obtain ⟨hx, hb, hml, ho, -⟩ := S
  intro T hT X
  rcases vx_callSX X hx (hh := hh) (bytes := bytes) (maxL := maxL) (ret := ret) ho hl hstt hini hcode hy hK hg (hsize.trans hml.symm) (argsL := As) (rest := rest) (fun sig h => hn.trans (hlen sig h)) hstack hW (by rw [hb]; exact hdg)
    (fun vm₁ hW₁ => ⟨hf.1, hf.2, hp.2 (T.setVm vm₁) hT hW₁⟩) with ⟨v, vm₁, ⟨U', l2, c2, s2⟩, hW₁, X', ⟨g', mk, t, L, e1, e2, hq, h1, hL, h2, h3⟩, st⟩ | ⟨q, vm₁, ⟨U', l2, c2, s2⟩, hW₁, X', ⟨g', mk, t, L, E, ce, e1, e2, hq, hce, hcv, hcl, h1, hL, h2, h3⟩, st⟩
  · dsimp only [Pt.U, Pt.locs, Pt.cells, Pt.slots] at X' e1 e2 h1 h2 h3 st
    subst h1; subst h2; subst h3
    exact Or.inl ⟨v, (T.setVm vm₁).calling g' mk As.toArray, t, U', L, hT, X', hL, e1, e2, hq, st⟩
  · dsimp only [Pt.U, Pt.locs, Pt.cells, Pt.slots] at X' e1 e2 h1 h2 h3 st hcl
    subst h1; subst h2; subst h3
    exact Or.inr ⟨q, (T.setVm vm₁).calling g' mk As.toArray, t, U', L, E, ce, hT, X', hL, e1, e2, hq, hce, hcv, vx_cls hW₁ hcl, st⟩
end
end VXH
theorem vx_ofWH {l : Launch} {y : MethodName} {ws ws' : List Cond} {rm : Room} {Pc : Array Value → State → Prop} {Qc : Array Value → State → Outcome → State → Prop} {XC : String → State → State → Prop} {mc ms : Nat} {free : Addr → Prop} {cc : ByteArray} {maxL : Nat} {ret : Option FieldType} {hh : List (Nat × Nat × Nat × Nat)}
    (hy : plainName y.cls = true) (hw : ws = Cond.codeWith y cc maxL ret hh :: ws')
    (body : ∀ p e s m args below meth c s₁, BodyLoose p l y (headSpec ws rm) cc maxL ret e s m args below meth c s₁ → c.maxLocals = maxL → Pc args s →
      W p l e (headSpec ws rm).room s m args below meth c s.heap [] 0 0 (vx_MQ below Qc XC args s mc ms free) (entryFrame m args maxL)) : vx_Met l y ws rm Pc Qc XC mc ms free := by
  refine MetFree.of_bodyS (code := cc) (maxLocals := maxL) (ret := ret) hy ?_ ?_
  · intro args s m h hn
    obtain ⟨m9, meth, c, hn9, h1, h2, h3, h4, -, h5, h6, -⟩ := Cond.codeWith_spec (atoms_spec (ws := ws) h _ (by rw [hw]; exact List.mem_cons_self))
    cases hn.symm.trans hn9
    exact ⟨meth, c, h1, h2, h3, h4, h5, h6⟩
  · intro p e s m args below meth c s₁ B hml hP _
    have hh0 : s₁.heap = s.heap := by rw [B.state]; rfl
    obtain ⟨t, a1, o, b1, b2, b3⟩ := body p e s m args below meth c s₁ B hml hP s₁ hh0 (Stand.of_body B)
    exact ⟨t, o, a1, b1, b2, b3⟩
/-! ===== END ===== -/
end
section
/-! ===== BEGIN printed: names, fields, word lists, decode rows ===== -/
def RX0 : String := "ColourForests$Graph"
def TX0 : u_T := fun k => match k with
  | 0 => ("ColourForests$Graph", "vertices", "I", false)
  | 1 => ("ColourForests$Graph", "colours", "I", false)
  | 2 => ("ColourForests$Graph", "edges", "I", false)
  | 3 => ("ColourForests$Graph", "changes", "I", false)
  | 4 => ("ColourForests$Graph", "limits", "[I", true)
  | 5 => ("ColourForests$Graph", "firstEnds", "[I", true)
  | 6 => ("ColourForests$Graph", "secondEnds", "[I", true)
  | 7 => ("ColourForests$Graph", "hues", "[I", true)
  | _ => ("ColourForests$Graph", "weights", "[I", true)
def tyX0 : Nat → FieldType := fun k => match k with
  | 0 => .int
  | 1 => .int
  | 2 => .int
  | 3 => .int
  | 4 => .array .int
  | 5 => .array .int
  | 6 => .array .int
  | 7 => .array .int
  | _ => .array .int
abbrev wsX00 : List Cond := u_ws RX0 TX0 9
theorem nmX0 : ∀ a, a < 9 → ∀ b, b < 9 → a ≠ b → (TX0 a).2.1 ≠ (TX0 b).2.1 := by decide +kernel
theorem tyX0_ok : ∀ k, k < 9 → parseFieldDescriptor (TX0 k).2.2.1 = some (tyX0 k) := by decide +kernel
abbrev cX0_init : ByteArray := prog_2_method_1_code
def yX0_init : MethodName := ⟨RX0, "<init>", "()V"⟩
abbrev cX0_restart : ByteArray := prog_2_method_2_code
def yX0_restart : MethodName := ⟨RX0, "restart", "(II)V"⟩
abbrev cX0_addEdge : ByteArray := prog_2_method_3_code
def yX0_addEdge : MethodName := ⟨RX0, "addEdge", "(IIII)I"⟩
abbrev cX0_setLimit : ByteArray := prog_2_method_4_code
def yX0_setLimit : MethodName := ⟨RX0, "setLimit", "(II)V"⟩
abbrev cX0_setWeight : ByteArray := prog_2_method_5_code
def yX0_setWeight : MethodName := ⟨RX0, "setWeight", "(II)V"⟩
abbrev cX0_hasVertex : ByteArray := prog_2_method_6_code
def yX0_hasVertex : MethodName := ⟨RX0, "hasVertex", "(I)Z"⟩
abbrev cX0_hasColour : ByteArray := prog_2_method_7_code
def yX0_hasColour : MethodName := ⟨RX0, "hasColour", "(I)Z"⟩
abbrev cX0_hasEdge : ByteArray := prog_2_method_8_code
def yX0_hasEdge : MethodName := ⟨RX0, "hasEdge", "(I)Z"⟩
abbrev cX0_hasSet : ByteArray := prog_2_method_9_code
def yX0_hasSet : MethodName := ⟨RX0, "hasSet", "(I)Z"⟩
abbrev cX0_allEdges : ByteArray := prog_2_method_10_code
def yX0_allEdges : MethodName := ⟨RX0, "allEdges", "()I"⟩
abbrev cX0_loneParts : ByteArray := prog_2_method_11_code
def yX0_loneParts : MethodName := ⟨RX0, "loneParts", "()I"⟩
abbrev cX0_joinsTwoParts : ByteArray := prog_2_method_12_code
def yX0_joinsTwoParts : MethodName := ⟨RX0, "joinsTwoParts", "(II)Z"⟩
abbrev cX0_partsJoinedBy : ByteArray := prog_2_method_13_code
def yX0_partsJoinedBy : MethodName := ⟨RX0, "partsJoinedBy", "(II)I"⟩
abbrev cX0_fullRoom : ByteArray := prog_2_method_14_code
def yX0_fullRoom : MethodName := ⟨RX0, "fullRoom", "()I"⟩
abbrev cX0_hasRoom : ByteArray := prog_2_method_15_code
def yX0_hasRoom : MethodName := ⟨RX0, "hasRoom", "(II)Z"⟩
abbrev cX0_roomAfter : ByteArray := prog_2_method_16_code
def yX0_roomAfter : MethodName := ⟨RX0, "roomAfter", "(II)I"⟩
def RX1 : String := "ColourForests$Kind"
def TX1 : u_T := fun k => match k with
  | _ => ("", "", "", false)
def tyX1 : Nat → FieldType := fun k => match k with
  | _ => .int
abbrev wsX10 : List Cond := u_ws RX1 TX1 0
theorem nmX1 : ∀ a, a < 0 → ∀ b, b < 0 → a ≠ b → (TX1 a).2.1 ≠ (TX1 b).2.1 := by decide +kernel
theorem tyX1_ok : ∀ k, k < 0 → parseFieldDescriptor (TX1 k).2.2.1 = some (tyX1 k) := by decide +kernel
abbrev cX1_init : ByteArray := prog_3_method_1_code
def yX1_init : MethodName := ⟨RX1, "<init>", "(LColourForests$Graph;)V"⟩
abbrev cX1_allows : ByteArray := prog_3_method_3_code
def yX1_allows : MethodName := ⟨RX1, "allows", "(I)Z"⟩
abbrev cX1_circuitWithin : ByteArray := prog_3_method_4_code
def yX1_circuitWithin : MethodName := ⟨RX1, "circuitWithin", "(I)I"⟩
abbrev cX1_closureOf : ByteArray := prog_3_method_5_code
def yX1_closureOf : MethodName := ⟨RX1, "closureOf", "(I)I"⟩
def RX2 : String := "ColourForests$LimitKind"
def TX2 : u_T := fun k => match k with
  | _ => ("ColourForests$Kind", "graph", "LColourForests$Graph;", true)
def tyX2 : Nat → FieldType := fun k => match k with
  | _ => .object "ColourForests$Graph"
abbrev wsX20 : List Cond := u_ws RX2 TX2 1
theorem nmX2 : ∀ a, a < 1 → ∀ b, b < 1 → a ≠ b → (TX2 a).2.1 ≠ (TX2 b).2.1 := by decide +kernel
theorem tyX2_ok : ∀ k, k < 1 → parseFieldDescriptor (TX2 k).2.2.1 = some (tyX2 k) := by decide +kernel
abbrev cX2_init : ByteArray := prog_4_method_1_code
def yX2_init : MethodName := ⟨RX2, "<init>", "(LColourForests$Graph;)V"⟩
abbrev cX2_rankOf : ByteArray := prog_4_method_2_code
def yX2_rankOf : MethodName := ⟨RX2, "rankOf", "(I)I"⟩
def RX3 : String := "ColourForests$RinglessKind"
def TX3 : u_T := fun k => match k with
  | _ => ("ColourForests$Kind", "graph", "LColourForests$Graph;", true)
def tyX3 : Nat → FieldType := fun k => match k with
  | _ => .object "ColourForests$Graph"
abbrev wsX30 : List Cond := u_ws RX3 TX3 1
theorem nmX3 : ∀ a, a < 1 → ∀ b, b < 1 → a ≠ b → (TX3 a).2.1 ≠ (TX3 b).2.1 := by decide +kernel
theorem tyX3_ok : ∀ k, k < 1 → parseFieldDescriptor (TX3 k).2.2.1 = some (tyX3 k) := by decide +kernel
abbrev cX3_init : ByteArray := prog_5_method_1_code
def yX3_init : MethodName := ⟨RX3, "<init>", "(LColourForests$Graph;)V"⟩
abbrev cX3_rankOf : ByteArray := prog_5_method_2_code
def yX3_rankOf : MethodName := ⟨RX3, "rankOf", "(I)I"⟩
def RX4 : String := "ColourForests$Survey"
def TX4 : u_T := fun k => match k with
  | 0 => ("ColourForests$Survey", "graph", "LColourForests$Graph;", true)
  | 1 => ("ColourForests$Survey", "changesSeen", "I", false)
  | 2 => ("ColourForests$Survey", "widestForests", "I", false)
  | 3 => ("ColourForests$Survey", "commonSets", "I", false)
  | 4 => ("ColourForests$Survey", "most", "I", false)
  | 5 => ("ColourForests$Survey", "dearestSets", "[I", true)
  | 6 => ("ColourForests$Survey", "dearestWeights", "[I", true)
  | 7 => ("ColourForests$Survey", "widest", "I", false)
  | 8 => ("ColourForests$Survey", "partsFrom", "[I", true)
  | 9 => ("ColourForests$Survey", "roomFrom", "[I", true)
  | _ => ("ColourForests$Survey", "weightFrom", "[I", true)
def tyX4 : Nat → FieldType := fun k => match k with
  | 0 => .object "ColourForests$Graph"
  | 1 => .int
  | 2 => .int
  | 3 => .int
  | 4 => .int
  | 5 => .array .int
  | 6 => .array .int
  | 7 => .int
  | 8 => .array .int
  | 9 => .array .int
  | _ => .array .int
abbrev wsX40 : List Cond := u_ws RX4 TX4 11
theorem nmX4 : ∀ a, a < 11 → ∀ b, b < 11 → a ≠ b → (TX4 a).2.1 ≠ (TX4 b).2.1 := by decide +kernel
theorem tyX4_ok : ∀ k, k < 11 → parseFieldDescriptor (TX4 k).2.2.1 = some (tyX4 k) := by decide +kernel
abbrev cX4_init : ByteArray := prog_6_method_1_code
def yX4_init : MethodName := ⟨RX4, "<init>", "(LColourForests$Graph;)V"⟩
abbrev cX4_hasSize : ByteArray := prog_6_method_2_code
def yX4_hasSize : MethodName := ⟨RX4, "hasSize", "(I)Z"⟩
abbrev cX4_refresh : ByteArray := prog_6_method_3_code
def yX4_refresh : MethodName := ⟨RX4, "refresh", "()V"⟩
abbrev cX4_walk : ByteArray := prog_6_method_4_code
def yX4_walk : MethodName := ⟨RX4, "walk", "()V"⟩
abbrev cX4_begin : ByteArray := prog_6_method_5_code
def yX4_begin : MethodName := ⟨RX4, "begin", "()V"⟩
abbrev cX4_placeAbove : ByteArray := prog_6_method_6_code
def yX4_placeAbove : MethodName := ⟨RX4, "placeAbove", "(I)I"⟩
abbrev cX4_enter : ByteArray := prog_6_method_7_code
def yX4_enter : MethodName := ⟨RX4, "enter", "(II)Z"⟩
abbrev cX4_note : ByteArray := prog_6_method_8_code
def yX4_note : MethodName := ⟨RX4, "note", "(II)V"⟩
abbrev cX4_noteForest : ByteArray := prog_6_method_9_code
def yX4_noteForest : MethodName := ⟨RX4, "noteForest", "(I)V"⟩
abbrev cX4_noteCommon : ByteArray := prog_6_method_10_code
def yX4_noteCommon : MethodName := ⟨RX4, "noteCommon", "(III)V"⟩
def RX5 : String := "ColourForests"
def TX5 : u_T := fun k => match k with
  | 0 => ("ColourForests", "graph", "LColourForests$Graph;", true)
  | 1 => ("ColourForests", "ringless", "LColourForests$Kind;", true)
  | 2 => ("ColourForests", "withinLimits", "LColourForests$Kind;", true)
  | _ => ("ColourForests", "survey", "LColourForests$Survey;", true)
def tyX5 : Nat → FieldType := fun k => match k with
  | 0 => .object "ColourForests$Graph"
  | 1 => .object "ColourForests$Kind"
  | 2 => .object "ColourForests$Kind"
  | _ => .object "ColourForests$Survey"
abbrev wsX50 : List Cond := u_ws RX5 TX5 4
theorem nmX5 : ∀ a, a < 4 → ∀ b, b < 4 → a ≠ b → (TX5 a).2.1 ≠ (TX5 b).2.1 := by decide +kernel
theorem tyX5_ok : ∀ k, k < 4 → parseFieldDescriptor (TX5 k).2.2.1 = some (tyX5 k) := by decide +kernel
abbrev cX5_init : ByteArray := prog_1_method_1_code
def yX5_init : MethodName := ⟨RX5, "<init>", "()V"⟩
abbrev cX5_make : ByteArray := prog_1_method_2_code
def yX5_make : MethodName := ⟨RX5, "make", "(II)V"⟩
abbrev cX5_edge : ByteArray := prog_1_method_3_code
def yX5_edge : MethodName := ⟨RX5, "edge", "(IIII)I"⟩
abbrev cX5_limit : ByteArray := prog_1_method_4_code
def yX5_limit : MethodName := ⟨RX5, "limit", "(II)V"⟩
abbrev cX5_weigh : ByteArray := prog_1_method_5_code
def yX5_weigh : MethodName := ⟨RX5, "weigh", "(II)V"⟩
abbrev cX5_count : ByteArray := prog_1_method_6_code
def yX5_count : MethodName := ⟨RX5, "count", "(I)I"⟩
abbrev cX5_rank : ByteArray := prog_1_method_7_code
def yX5_rank : MethodName := ⟨RX5, "rank", "(II)I"⟩
abbrev cX5_free : ByteArray := prog_1_method_8_code
def yX5_free : MethodName := ⟨RX5, "free", "(II)I"⟩
abbrev cX5_circuit : ByteArray := prog_1_method_9_code
def yX5_circuit : MethodName := ⟨RX5, "circuit", "(III)I"⟩
abbrev cX5_closure : ByteArray := prog_1_method_10_code
def yX5_closure : MethodName := ⟨RX5, "closure", "(II)I"⟩
abbrev cX5_most : ByteArray := prog_1_method_11_code
def yX5_most : MethodName := ⟨RX5, "most", "()I"⟩
abbrev cX5_dearest : ByteArray := prog_1_method_12_code
def yX5_dearest : MethodName := ⟨RX5, "dearest", "(I)I"⟩
abbrev cX5_weight : ByteArray := prog_1_method_13_code
def yX5_weight : MethodName := ⟨RX5, "weight", "(I)I"⟩
abbrev cX5_heaviest : ByteArray := prog_1_method_14_code
def yX5_heaviest : MethodName := ⟨RX5, "heaviest", "()I"⟩
abbrev cX5_witness : ByteArray := prog_1_method_15_code
def yX5_witness : MethodName := ⟨RX5, "witness", "(I)I"⟩
abbrev cX5_check : ByteArray := prog_1_method_16_code
def yX5_check : MethodName := ⟨RX5, "check", "()I"⟩
abbrev cX5_told : ByteArray := prog_1_method_17_code
def yX5_told : MethodName := ⟨RX5, "told", "(Z)I"⟩
abbrev cX5_within : ByteArray := prog_1_method_18_code
def yX5_within : MethodName := ⟨RX5, "within", "(III)Z"⟩
abbrev cX5_isWeight : ByteArray := prog_1_method_19_code
def yX5_isWeight : MethodName := ⟨RX5, "isWeight", "(I)Z"⟩
abbrev cX5_hasBit : ByteArray := prog_1_method_20_code
def yX5_hasBit : MethodName := ⟨RX5, "hasBit", "(II)Z"⟩
abbrev cX5_cell : ByteArray := prog_1_method_21_code
def yX5_cell : MethodName := ⟨RX5, "cell", "(II)I"⟩
abbrev cX5_withCell : ByteArray := prog_1_method_22_code
def yX5_withCell : MethodName := ⟨RX5, "withCell", "(III)I"⟩
abbrev cX5_judgeOf : ByteArray := prog_1_method_23_code
def yX5_judgeOf : MethodName := ⟨RX5, "judgeOf", "(I)LColourForests$Kind;"⟩
abbrev cX5_isCommon : ByteArray := prog_1_method_24_code
def yX5_isCommon : MethodName := ⟨RX5, "isCommon", "(I)Z"⟩
abbrev cX5_isWitness : ByteArray := prog_1_method_25_code
def yX5_isWitness : MethodName := ⟨RX5, "isWitness", "(I)Z"⟩
abbrev cX5_leastWitness : ByteArray := prog_1_method_26_code
def yX5_leastWitness : MethodName := ⟨RX5, "leastWitness", "()I"⟩
abbrev cX5_greatestWitness : ByteArray := prog_1_method_27_code
def yX5_greatestWitness : MethodName := ⟨RX5, "greatestWitness", "()I"⟩
abbrev cX5_leastSplit : ByteArray := prog_1_method_28_code
def yX5_leastSplit : MethodName := ⟨RX5, "leastSplit", "(LColourForests$Kind;LColourForests$Kind;)I"⟩
abbrev cX5_dearestAreSuch : ByteArray := prog_1_method_29_code
def yX5_dearestAreSuch : MethodName := ⟨RX5, "dearestAreSuch", "()Z"⟩
abbrev cX5_gainsNeverRise : ByteArray := prog_1_method_30_code
def yX5_gainsNeverRise : MethodName := ⟨RX5, "gainsNeverRise", "()Z"⟩
def RX6 : String := "ColourForestsModel"
def TX6 : u_T := fun k => match k with
  | 0 => ("ColourForestsModel", "thrown", "I", false)
  | 1 => ("ColourForestsModel", "vertices", "I", false)
  | 2 => ("ColourForestsModel", "colours", "I", false)
  | 3 => ("ColourForestsModel", "edges", "I", false)
  | 4 => ("ColourForestsModel", "limits", "[I", true)
  | 5 => ("ColourForestsModel", "firsts", "[I", true)
  | 6 => ("ColourForestsModel", "seconds", "[I", true)
  | 7 => ("ColourForestsModel", "colourOf", "[I", true)
  | 8 => ("ColourForestsModel", "weights", "[I", true)
  | 9 => ("ColourForestsModel", "known", "Z", false)
  | 10 => ("ColourForestsModel", "free", "[Z", true)
  | 11 => ("ColourForestsModel", "ranks", "[I", true)
  | 12 => ("ColourForestsModel", "best", "[I", true)
  | 13 => ("ColourForestsModel", "most", "I", false)
  | 14 => ("ColourForestsModel", "parts", "[I", true)
  | _ => ("ColourForestsModel", "counts", "[I", true)
def tyX6 : Nat → FieldType := fun k => match k with
  | 0 => .int
  | 1 => .int
  | 2 => .int
  | 3 => .int
  | 4 => .array .int
  | 5 => .array .int
  | 6 => .array .int
  | 7 => .array .int
  | 8 => .array .int
  | 9 => .boolean
  | 10 => .array .boolean
  | 11 => .array .int
  | 12 => .array .int
  | 13 => .int
  | 14 => .array .int
  | _ => .array .int
abbrev wsX60 : List Cond := u_ws RX6 TX6 16
theorem nmX6 : ∀ a, a < 16 → ∀ b, b < 16 → a ≠ b → (TX6 a).2.1 ≠ (TX6 b).2.1 := by decide +kernel
theorem tyX6_ok : ∀ k, k < 16 → parseFieldDescriptor (TX6 k).2.2.1 = some (tyX6 k) := by decide +kernel
abbrev cX6_init : ByteArray := prog_8_method_1_code
def yX6_init : MethodName := ⟨RX6, "<init>", "()V"⟩
abbrev cX6_thrown : ByteArray := prog_8_method_2_code
def yX6_thrown : MethodName := ⟨RX6, "thrown", "()I"⟩
abbrev cX6_refuses : ByteArray := prog_8_method_3_code
def yX6_refuses : MethodName := ⟨RX6, "refuses", "(I)Z"⟩
abbrev cX6_make : ByteArray := prog_8_method_4_code
def yX6_make : MethodName := ⟨RX6, "make", "(II)V"⟩
abbrev cX6_isHeavy : ByteArray := prog_8_method_5_code
def yX6_isHeavy : MethodName := ⟨RX6, "isHeavy", "(I)Z"⟩
abbrev cX6_edge : ByteArray := prog_8_method_6_code
def yX6_edge : MethodName := ⟨RX6, "edge", "(IIII)I"⟩
abbrev cX6_limit : ByteArray := prog_8_method_7_code
def yX6_limit : MethodName := ⟨RX6, "limit", "(II)V"⟩
abbrev cX6_weigh : ByteArray := prog_8_method_8_code
def yX6_weigh : MethodName := ⟨RX6, "weigh", "(II)V"⟩
abbrev cX6_has : ByteArray := prog_8_method_9_code
def yX6_has : MethodName := ⟨RX6, "has", "(II)Z"⟩
abbrev cX6_size : ByteArray := prog_8_method_10_code
def yX6_size : MethodName := ⟨RX6, "size", "(I)I"⟩
abbrev cX6_hasNoRing : ByteArray := prog_8_method_11_code
def yX6_hasNoRing : MethodName := ⟨RX6, "hasNoRing", "(I)Z"⟩
abbrev cX6_keepsLimits : ByteArray := prog_8_method_12_code
def yX6_keepsLimits : MethodName := ⟨RX6, "keepsLimits", "(I)Z"⟩
abbrev cX6_weightOf : ByteArray := prog_8_method_13_code
def yX6_weightOf : MethodName := ⟨RX6, "weightOf", "(I)I"⟩
abbrev cX6_learn : ByteArray := prog_8_method_14_code
def yX6_learn : MethodName := ⟨RX6, "learn", "()V"⟩
abbrev cX6_isSet : ByteArray := prog_8_method_15_code
def yX6_isSet : MethodName := ⟨RX6, "isSet", "(I)Z"⟩
abbrev cX6_isKind : ByteArray := prog_8_method_16_code
def yX6_isKind : MethodName := ⟨RX6, "isKind", "(I)Z"⟩
abbrev cX6_count : ByteArray := prog_8_method_17_code
def yX6_count : MethodName := ⟨RX6, "count", "(I)I"⟩
abbrev cX6_rank : ByteArray := prog_8_method_18_code
def yX6_rank : MethodName := ⟨RX6, "rank", "(II)I"⟩
abbrev cX6_free : ByteArray := prog_8_method_19_code
def yX6_free : MethodName := ⟨RX6, "free", "(II)I"⟩
abbrev cX6_circuit : ByteArray := prog_8_method_20_code
def yX6_circuit : MethodName := ⟨RX6, "circuit", "(III)I"⟩
abbrev cX6_closure : ByteArray := prog_8_method_21_code
def yX6_closure : MethodName := ⟨RX6, "closure", "(II)I"⟩
abbrev cX6_most : ByteArray := prog_8_method_22_code
def yX6_most : MethodName := ⟨RX6, "most", "()I"⟩
abbrev cX6_dearest : ByteArray := prog_8_method_23_code
def yX6_dearest : MethodName := ⟨RX6, "dearest", "(I)I"⟩
abbrev cX6_weight : ByteArray := prog_8_method_24_code
def yX6_weight : MethodName := ⟨RX6, "weight", "(I)I"⟩
abbrev cX6_heaviest : ByteArray := prog_8_method_25_code
def yX6_heaviest : MethodName := ⟨RX6, "heaviest", "()I"⟩
abbrev cX6_witness : ByteArray := prog_8_method_26_code
def yX6_witness : MethodName := ⟨RX6, "witness", "(I)I"⟩
abbrev cX6_check : ByteArray := prog_8_method_27_code
def yX6_check : MethodName := ⟨RX6, "check", "()I"⟩
def RJx145de : String := "java/io/Serializable"
def TJx145de : u_T := fun k => match k with
  | _ => ("", "", "", false)
def tyJx145de : Nat → FieldType := fun k => match k with
  | _ => .int
abbrev wsJx145de0 : List Cond := u_ws RJx145de TJx145de 0
theorem nmJx145de : ∀ a, a < 0 → ∀ b, b < 0 → a ≠ b → (TJx145de a).2.1 ≠ (TJx145de b).2.1 := by decide +kernel
theorem tyJx145de_ok : ∀ k, k < 0 → parseFieldDescriptor (TJx145de k).2.2.1 = some (tyJx145de k) := by decide +kernel
def RJ6 : String := "java/lang/Integer"
def TJ6 : u_T := fun k => match k with
  | _ => ("", "", "", false)
def tyJ6 : Nat → FieldType := fun k => match k with
  | _ => .int
abbrev wsJ60 : List Cond := u_ws RJ6 TJ6 0
theorem nmJ6 : ∀ a, a < 0 → ∀ b, b < 0 → a ≠ b → (TJ6 a).2.1 ≠ (TJ6 b).2.1 := by decide +kernel
theorem tyJ6_ok : ∀ k, k < 0 → parseFieldDescriptor (TJ6 k).2.2.1 = some (tyJ6 k) := by decide +kernel
abbrev cJ6_lowestOneBit_0f7a4 : ByteArray := prog_12_method_46_code
def yJ6_lowestOneBit_0f7a4 : MethodName := ⟨RJ6, "lowestOneBit", "(I)I"⟩
abbrev cJ6_numberOfTrailingZeros_0f7a4 : ByteArray := prog_12_method_48_code
def yJ6_numberOfTrailingZeros_0f7a4 : MethodName := ⟨RJ6, "numberOfTrailingZeros", "(I)I"⟩
abbrev cJ6_bitCount_0f7a4 : ByteArray := prog_12_method_49_code
def yJ6_bitCount_0f7a4 : MethodName := ⟨RJ6, "bitCount", "(I)I"⟩
def RJ9 : String := "java/lang/Math"
def TJ9 : u_T := fun k => match k with
  | _ => ("", "", "", false)
def tyJ9 : Nat → FieldType := fun k => match k with
  | _ => .int
abbrev wsJ90 : List Cond := u_ws RJ9 TJ9 0
theorem nmJ9 : ∀ a, a < 0 → ∀ b, b < 0 → a ≠ b → (TJ9 a).2.1 ≠ (TJ9 b).2.1 := by decide +kernel
theorem tyJ9_ok : ∀ k, k < 0 → parseFieldDescriptor (TJ9 k).2.2.1 = some (tyJ9 k) := by decide +kernel
abbrev cJ9_max_7cf53 : ByteArray := prog_13_method_65_code
def yJ9_max_7cf53 : MethodName := ⟨RJ9, "max", "(II)I"⟩
def RJ0 : String := "java/lang/String"
def TJ0 : u_T := fun k => match k with
  | _ => ("", "", "", false)
def tyJ0 : Nat → FieldType := fun k => match k with
  | _ => .int
abbrev wsJ00 : List Cond := u_ws RJ0 TJ0 0
theorem nmJ0 : ∀ a, a < 0 → ∀ b, b < 0 → a ≠ b → (TJ0 a).2.1 ≠ (TJ0 b).2.1 := by decide +kernel
theorem tyJ0_ok : ∀ k, k < 0 → parseFieldDescriptor (TJ0 k).2.2.1 = some (tyJ0 k) := by decide +kernel
def RJ7 : String := "java/util/Arrays"
def TJ7 : u_T := fun k => match k with
  | _ => ("", "", "", false)
def tyJ7 : Nat → FieldType := fun k => match k with
  | _ => .int
abbrev wsJ70 : List Cond := u_ws RJ7 TJ7 0
theorem nmJ7 : ∀ a, a < 0 → ∀ b, b < 0 → a ≠ b → (TJ7 a).2.1 ≠ (TJ7 b).2.1 := by decide +kernel
theorem tyJ7_ok : ∀ k, k < 0 → parseFieldDescriptor (TJ7 k).2.2.1 = some (tyJ7 k) := by decide +kernel
abbrev cJ7_fill_53178 : ByteArray := prog_17_method_103_code
def yJ7_fill_53178 : MethodName := ⟨RJ7, "fill", "([II)V"⟩
def RL : String := "ColourForestsLaw"
abbrev cL_make : ByteArray := method_3_code
def yL_make : MethodName := ⟨RL, "make", "(LColourForests;II)I"⟩
abbrev cL_limit : ByteArray := method_4_code
def yL_limit : MethodName := ⟨RL, "limit", "(LColourForests;II)I"⟩
abbrev cL_weigh : ByteArray := method_5_code
def yL_weigh : MethodName := ⟨RL, "weigh", "(LColourForests;II)I"⟩
abbrev cL_weight : ByteArray := method_6_code
def yL_weight : MethodName := ⟨RL, "weight", "(LColourForests;I[J)I"⟩
abbrev cL_law : ByteArray := code
def yL_law : MethodName := ⟨RL, "law", "([I)Z"⟩
def wsX0_init : List Cond := .code yX0_init cX0_init 1 none :: ([.methodLink RX0 3 objectInit, .instanceMethod objectInit, .code objectInit ⟨#[0xb1]⟩ 1 none, .arrayClass .int, .fieldLink RX0 9 "ColourForests$Graph" "limits" "[I", .fieldLink RX0 15 "ColourForests$Graph" "firstEnds" "[I", .fieldLink RX0 18 "ColourForests$Graph" "secondEnds" "[I", .fieldLink RX0 21 "ColourForests$Graph" "hues" "[I", .fieldLink RX0 24 "ColourForests$Graph" "weights" "[I", .fieldLink RX0 27 "ColourForests$Graph" "vertices" "I", .fieldLink RX0 31 "ColourForests$Graph" "colours" "I"] ++ wsX00)
def wsJ7_fill_53178 : List Cond := .code yJ7_fill_53178 cJ7_fill_53178 4 none :: ([])
def wsX0_restart : List Cond := .code yX0_restart cX0_restart 3 none :: ([.fieldLink RX0 27 "ColourForests$Graph" "vertices" "I", .fieldLink RX0 31 "ColourForests$Graph" "colours" "I", .fieldLink RX0 34 "ColourForests$Graph" "edges" "I", .fieldLink RX0 9 "ColourForests$Graph" "limits" "[I", .fieldLink RX0 43 "ColourForests$Graph" "changes" "I", .methodLink RX0 37 yJ7_fill_53178, .static yJ7_fill_53178, .initialized RJ7, .code yJ7_fill_53178 cJ7_fill_53178 4 none] ++ wsX00)
def wsX0_addEdge : List Cond := .code yX0_addEdge cX0_addEdge 6 (some .int) :: ([.fieldLink RX0 34 "ColourForests$Graph" "edges" "I", .fieldLink RX0 15 "ColourForests$Graph" "firstEnds" "[I", .fieldLink RX0 18 "ColourForests$Graph" "secondEnds" "[I", .fieldLink RX0 21 "ColourForests$Graph" "hues" "[I", .fieldLink RX0 24 "ColourForests$Graph" "weights" "[I", .fieldLink RX0 43 "ColourForests$Graph" "changes" "I"] ++ wsX00)
def wsX0_setLimit : List Cond := .code yX0_setLimit cX0_setLimit 3 none :: ([.fieldLink RX0 9 "ColourForests$Graph" "limits" "[I", .fieldLink RX0 43 "ColourForests$Graph" "changes" "I"] ++ wsX00)
def wsX0_setWeight : List Cond := .code yX0_setWeight cX0_setWeight 3 none :: ([.fieldLink RX0 24 "ColourForests$Graph" "weights" "[I", .fieldLink RX0 43 "ColourForests$Graph" "changes" "I"] ++ wsX00)
def wsX5_within : List Cond := .code yX5_within cX5_within 3 (some .boolean) :: ([])
def wsX0_hasVertex : List Cond := .code yX0_hasVertex cX0_hasVertex 2 (some .boolean) :: ([.fieldLink RX0 27 "ColourForests$Graph" "vertices" "I", .static yX5_within, .initialized RX5, .code yX5_within cX5_within 3 (some .boolean)] ++ wsX00)
def wsX0_hasColour : List Cond := .code yX0_hasColour cX0_hasColour 2 (some .boolean) :: ([.fieldLink RX0 31 "ColourForests$Graph" "colours" "I", .static yX5_within, .initialized RX5, .code yX5_within cX5_within 3 (some .boolean)] ++ wsX00)
def wsX0_hasEdge : List Cond := .code yX0_hasEdge cX0_hasEdge 2 (some .boolean) :: ([.fieldLink RX0 34 "ColourForests$Graph" "edges" "I", .static yX5_within, .initialized RX5, .code yX5_within cX5_within 3 (some .boolean)] ++ wsX00)
def wsX0_allEdges : List Cond := .code yX0_allEdges cX0_allEdges 1 (some .int) :: ([.fieldLink RX0 34 "ColourForests$Graph" "edges" "I"] ++ wsX00)
def wsX0_hasSet : List Cond := .code yX0_hasSet cX0_hasSet 2 (some .boolean) :: ([.methodLink RX0 50 yX0_allEdges, .instanceMethod yX0_allEdges, .selects RX0 yX0_allEdges yX0_allEdges, .initialized RX0, .code yX0_allEdges cX0_allEdges 1 (some .int), .fieldLink RX0 34 "ColourForests$Graph" "edges" "I"] ++ wsX00)
def wsX5_withCell : List Cond := .code yX5_withCell cX5_withCell 4 (some .int) :: ([])
def wsX0_loneParts : List Cond := .code yX0_loneParts cX0_loneParts 3 (some .int) :: ([.fieldLink RX0 27 "ColourForests$Graph" "vertices" "I", .static yX5_withCell, .initialized RX5, .code yX5_withCell cX5_withCell 4 (some .int)] ++ wsX00)
def wsX5_cell : List Cond := .code yX5_cell cX5_cell 2 (some .int) :: ([])
def wsX0_joinsTwoParts : List Cond := .code yX0_joinsTwoParts cX0_joinsTwoParts 3 (some .boolean) :: ([.fieldLink RX0 15 "ColourForests$Graph" "firstEnds" "[I", .fieldLink RX0 18 "ColourForests$Graph" "secondEnds" "[I", .static yX5_cell, .initialized RX5, .code yX5_cell cX5_cell 2 (some .int)] ++ wsX00)
def wsX0_partsJoinedBy : List Cond := .code yX0_partsJoinedBy cX0_partsJoinedBy 7 (some .int) :: ([.fieldLink RX0 15 "ColourForests$Graph" "firstEnds" "[I", .fieldLink RX0 18 "ColourForests$Graph" "secondEnds" "[I", .fieldLink RX0 27 "ColourForests$Graph" "vertices" "I", .static yX5_cell, .initialized RX5, .code yX5_cell cX5_cell 2 (some .int), .static yX5_withCell, .code yX5_withCell cX5_withCell 4 (some .int)] ++ wsX00)
def wsX0_fullRoom : List Cond := .code yX0_fullRoom cX0_fullRoom 3 (some .int) :: ([.fieldLink RX0 31 "ColourForests$Graph" "colours" "I", .fieldLink RX0 9 "ColourForests$Graph" "limits" "[I", .static yX5_withCell, .initialized RX5, .code yX5_withCell cX5_withCell 4 (some .int)] ++ wsX00)
def wsX0_hasRoom : List Cond := .code yX0_hasRoom cX0_hasRoom 3 (some .boolean) :: ([.fieldLink RX0 21 "ColourForests$Graph" "hues" "[I", .static yX5_cell, .initialized RX5, .code yX5_cell cX5_cell 2 (some .int)] ++ wsX00)
def wsX0_roomAfter : List Cond := .code yX0_roomAfter cX0_roomAfter 3 (some .int) :: ([.fieldLink RX0 21 "ColourForests$Graph" "hues" "[I", .static yX5_cell, .initialized RX5, .code yX5_cell cX5_cell 2 (some .int), .static yX5_withCell, .code yX5_withCell cX5_withCell 4 (some .int)] ++ wsX00)
def wsX1_init : List Cond := .code yX1_init cX1_init 2 none :: ([.methodLink RX1 1 objectInit, .instanceMethod objectInit, .code objectInit ⟨#[0xb1]⟩ 1 none, .fieldLink RX1 7 "ColourForests$Kind" "graph" "LColourForests$Graph;"] ++ wsX20 ++ wsX30)
def wsX5_hasBit : List Cond := .code yX5_hasBit cX5_hasBit 2 (some .boolean) :: ([])
def wsX2_rankOf_r1 : List Cond := [Cond.fieldLink RX2 7 "ColourForests$LimitKind" "graph" "LColourForests$Graph;", Cond.sameField "ColourForests$LimitKind" "ColourForests$Kind" "graph" "LColourForests$Graph;", Cond.fieldLink RX2 19 "ColourForests$Graph" "edges" "I", Cond.methodLink RX2 13 yX0_fullRoom, Cond.instanceMethod yX0_fullRoom, Cond.selects RX0 yX0_fullRoom yX0_fullRoom, Cond.initialized RX0, Cond.code yX0_fullRoom cX0_fullRoom 3 (some .int), Cond.fieldLink RX0 31 "ColourForests$Graph" "colours" "I", Cond.fieldLink RX0 9 "ColourForests$Graph" "limits" "[I", Cond.static yX5_withCell, Cond.initialized RX5, Cond.code yX5_withCell cX5_withCell 4 (some .int), Cond.static yX5_hasBit, Cond.code yX5_hasBit cX5_hasBit 2 (some .boolean), Cond.methodLink RX2 29 yX0_hasRoom, Cond.instanceMethod yX0_hasRoom, Cond.selects RX0 yX0_hasRoom yX0_hasRoom, Cond.code yX0_hasRoom cX0_hasRoom 3 (some .boolean), Cond.fieldLink RX0 21 "ColourForests$Graph" "hues" "[I", Cond.static yX5_cell, Cond.code yX5_cell cX5_cell 2 (some .int), Cond.methodLink RX2 32 yX0_roomAfter, Cond.instanceMethod yX0_roomAfter]
def wsX2_rankOf_r2 : List Cond := [Cond.selects RX0 yX0_roomAfter yX0_roomAfter, Cond.code yX0_roomAfter cX0_roomAfter 3 (some .int)]
def wsX2_rankOf : List Cond := .code yX2_rankOf cX2_rankOf 5 (some .int) :: ((wsX2_rankOf_r1 ++ wsX2_rankOf_r2) ++ wsX20 ++ wsX30 ++ wsX00)
def wsX3_rankOf_r1 : List Cond := [Cond.fieldLink RX3 7 "ColourForests$RinglessKind" "graph" "LColourForests$Graph;", Cond.sameField "ColourForests$RinglessKind" "ColourForests$Kind" "graph" "LColourForests$Graph;", Cond.fieldLink RX3 19 "ColourForests$Graph" "edges" "I", Cond.methodLink RX3 13 yX0_loneParts, Cond.instanceMethod yX0_loneParts, Cond.selects RX0 yX0_loneParts yX0_loneParts, Cond.initialized RX0, Cond.code yX0_loneParts cX0_loneParts 3 (some .int), Cond.fieldLink RX0 27 "ColourForests$Graph" "vertices" "I", Cond.static yX5_withCell, Cond.initialized RX5, Cond.code yX5_withCell cX5_withCell 4 (some .int), Cond.static yX5_hasBit, Cond.code yX5_hasBit cX5_hasBit 2 (some .boolean), Cond.methodLink RX3 29 yX0_joinsTwoParts, Cond.instanceMethod yX0_joinsTwoParts, Cond.selects RX0 yX0_joinsTwoParts yX0_joinsTwoParts, Cond.code yX0_joinsTwoParts cX0_joinsTwoParts 3 (some .boolean), Cond.fieldLink RX0 15 "ColourForests$Graph" "firstEnds" "[I", Cond.fieldLink RX0 18 "ColourForests$Graph" "secondEnds" "[I", Cond.static yX5_cell, Cond.code yX5_cell cX5_cell 2 (some .int), Cond.methodLink RX3 32 yX0_partsJoinedBy, Cond.instanceMethod yX0_partsJoinedBy]
def wsX3_rankOf_r2 : List Cond := [Cond.selects RX0 yX0_partsJoinedBy yX0_partsJoinedBy, Cond.code yX0_partsJoinedBy cX0_partsJoinedBy 7 (some .int)]
def wsX3_rankOf : List Cond := .code yX3_rankOf cX3_rankOf 5 (some .int) :: ((wsX3_rankOf_r1 ++ wsX3_rankOf_r2) ++ wsX20 ++ wsX30 ++ wsX00)
def wsJ6_bitCount_0f7a4 : List Cond := .code yJ6_bitCount_0f7a4 cJ6_bitCount_0f7a4 1 (some .int) :: ([.constant RJ6 265 (1431655765), .constant RJ6 266 (858993459), .constant RJ6 267 (252645135)])
def wsX1_allows_r1 : List Cond := [Cond.methodLink RX1 13 ⟨"ColourForests$Kind", "rankOf", "(I)I"⟩, Cond.sameMethod "ColourForests$Kind" "ColourForests$Kind" "rankOf" "(I)I", Cond.selects RX2 ⟨"ColourForests$Kind", "rankOf", "(I)I"⟩ yX2_rankOf, Cond.instanceMethod yX2_rankOf, Cond.initialized RX2, Cond.code yX2_rankOf cX2_rankOf 5 (some .int), Cond.fieldLink RX2 7 "ColourForests$LimitKind" "graph" "LColourForests$Graph;", Cond.sameField "ColourForests$LimitKind" "ColourForests$Kind" "graph" "LColourForests$Graph;", Cond.fieldLink RX2 19 "ColourForests$Graph" "edges" "I", Cond.methodLink RX2 13 yX0_fullRoom, Cond.instanceMethod yX0_fullRoom, Cond.selects RX0 yX0_fullRoom yX0_fullRoom, Cond.initialized RX0, Cond.code yX0_fullRoom cX0_fullRoom 3 (some .int), Cond.fieldLink RX0 31 "ColourForests$Graph" "colours" "I", Cond.fieldLink RX0 9 "ColourForests$Graph" "limits" "[I", Cond.static yX5_withCell, Cond.initialized RX5, Cond.code yX5_withCell cX5_withCell 4 (some .int), Cond.static yX5_hasBit, Cond.code yX5_hasBit cX5_hasBit 2 (some .boolean), Cond.methodLink RX2 29 yX0_hasRoom, Cond.instanceMethod yX0_hasRoom, Cond.selects RX0 yX0_hasRoom yX0_hasRoom]
def wsX1_allows_r2 : List Cond := [Cond.code yX0_hasRoom cX0_hasRoom 3 (some .boolean), Cond.fieldLink RX0 21 "ColourForests$Graph" "hues" "[I", Cond.static yX5_cell, Cond.code yX5_cell cX5_cell 2 (some .int), Cond.methodLink RX2 32 yX0_roomAfter, Cond.instanceMethod yX0_roomAfter, Cond.selects RX0 yX0_roomAfter yX0_roomAfter, Cond.code yX0_roomAfter cX0_roomAfter 3 (some .int), Cond.selects RX3 ⟨"ColourForests$Kind", "rankOf", "(I)I"⟩ yX3_rankOf, Cond.instanceMethod yX3_rankOf, Cond.initialized RX3, Cond.code yX3_rankOf cX3_rankOf 5 (some .int), Cond.fieldLink RX3 7 "ColourForests$RinglessKind" "graph" "LColourForests$Graph;", Cond.sameField "ColourForests$RinglessKind" "ColourForests$Kind" "graph" "LColourForests$Graph;", Cond.fieldLink RX3 19 "ColourForests$Graph" "edges" "I", Cond.methodLink RX3 13 yX0_loneParts, Cond.instanceMethod yX0_loneParts, Cond.selects RX0 yX0_loneParts yX0_loneParts, Cond.code yX0_loneParts cX0_loneParts 3 (some .int), Cond.fieldLink RX0 27 "ColourForests$Graph" "vertices" "I", Cond.methodLink RX3 29 yX0_joinsTwoParts, Cond.instanceMethod yX0_joinsTwoParts, Cond.selects RX0 yX0_joinsTwoParts yX0_joinsTwoParts, Cond.code yX0_joinsTwoParts cX0_joinsTwoParts 3 (some .boolean)]
def wsX1_allows_r3 : List Cond := [Cond.fieldLink RX0 15 "ColourForests$Graph" "firstEnds" "[I", Cond.fieldLink RX0 18 "ColourForests$Graph" "secondEnds" "[I", Cond.methodLink RX3 32 yX0_partsJoinedBy, Cond.instanceMethod yX0_partsJoinedBy, Cond.selects RX0 yX0_partsJoinedBy yX0_partsJoinedBy, Cond.code yX0_partsJoinedBy cX0_partsJoinedBy 7 (some .int), Cond.methodLink RX1 17 yJ6_bitCount_0f7a4, Cond.static yJ6_bitCount_0f7a4, Cond.initialized RJ6, Cond.code yJ6_bitCount_0f7a4 cJ6_bitCount_0f7a4 1 (some .int), Cond.constant RJ6 265 (1431655765), Cond.constant RJ6 266 (858993459), Cond.constant RJ6 267 (252645135)]
def wsX1_allows : List Cond := .code yX1_allows cX1_allows 2 (some .boolean) :: ((wsX1_allows_r1 ++ (wsX1_allows_r2 ++ wsX1_allows_r3)) ++ wsX20 ++ wsX30 ++ wsX00)
def wsX1_circuitWithin_r1 : List Cond := [Cond.fieldLink RX1 7 "ColourForests$Kind" "graph" "LColourForests$Graph;", Cond.fieldLink RX1 22 "ColourForests$Graph" "edges" "I", Cond.methodLink RX1 13 ⟨"ColourForests$Kind", "rankOf", "(I)I"⟩, Cond.sameMethod "ColourForests$Kind" "ColourForests$Kind" "rankOf" "(I)I", Cond.selects RX2 ⟨"ColourForests$Kind", "rankOf", "(I)I"⟩ yX2_rankOf, Cond.instanceMethod yX2_rankOf, Cond.initialized RX2, Cond.code yX2_rankOf cX2_rankOf 5 (some .int), Cond.fieldLink RX2 7 "ColourForests$LimitKind" "graph" "LColourForests$Graph;", Cond.sameField "ColourForests$LimitKind" "ColourForests$Kind" "graph" "LColourForests$Graph;", Cond.fieldLink RX2 19 "ColourForests$Graph" "edges" "I", Cond.methodLink RX2 13 yX0_fullRoom, Cond.instanceMethod yX0_fullRoom, Cond.selects RX0 yX0_fullRoom yX0_fullRoom, Cond.initialized RX0, Cond.code yX0_fullRoom cX0_fullRoom 3 (some .int), Cond.fieldLink RX0 31 "ColourForests$Graph" "colours" "I", Cond.fieldLink RX0 9 "ColourForests$Graph" "limits" "[I", Cond.static yX5_withCell, Cond.initialized RX5, Cond.code yX5_withCell cX5_withCell 4 (some .int), Cond.static yX5_hasBit, Cond.code yX5_hasBit cX5_hasBit 2 (some .boolean), Cond.methodLink RX2 29 yX0_hasRoom]
def wsX1_circuitWithin_r2 : List Cond := [Cond.instanceMethod yX0_hasRoom, Cond.selects RX0 yX0_hasRoom yX0_hasRoom, Cond.code yX0_hasRoom cX0_hasRoom 3 (some .boolean), Cond.fieldLink RX0 21 "ColourForests$Graph" "hues" "[I", Cond.static yX5_cell, Cond.code yX5_cell cX5_cell 2 (some .int), Cond.methodLink RX2 32 yX0_roomAfter, Cond.instanceMethod yX0_roomAfter, Cond.selects RX0 yX0_roomAfter yX0_roomAfter, Cond.code yX0_roomAfter cX0_roomAfter 3 (some .int), Cond.selects RX3 ⟨"ColourForests$Kind", "rankOf", "(I)I"⟩ yX3_rankOf, Cond.instanceMethod yX3_rankOf, Cond.initialized RX3, Cond.code yX3_rankOf cX3_rankOf 5 (some .int), Cond.fieldLink RX3 7 "ColourForests$RinglessKind" "graph" "LColourForests$Graph;", Cond.sameField "ColourForests$RinglessKind" "ColourForests$Kind" "graph" "LColourForests$Graph;", Cond.fieldLink RX3 19 "ColourForests$Graph" "edges" "I", Cond.methodLink RX3 13 yX0_loneParts, Cond.instanceMethod yX0_loneParts, Cond.selects RX0 yX0_loneParts yX0_loneParts, Cond.code yX0_loneParts cX0_loneParts 3 (some .int), Cond.fieldLink RX0 27 "ColourForests$Graph" "vertices" "I", Cond.methodLink RX3 29 yX0_joinsTwoParts, Cond.instanceMethod yX0_joinsTwoParts]
def wsX1_circuitWithin_r3 : List Cond := [Cond.selects RX0 yX0_joinsTwoParts yX0_joinsTwoParts, Cond.code yX0_joinsTwoParts cX0_joinsTwoParts 3 (some .boolean), Cond.fieldLink RX0 15 "ColourForests$Graph" "firstEnds" "[I", Cond.fieldLink RX0 18 "ColourForests$Graph" "secondEnds" "[I", Cond.methodLink RX3 32 yX0_partsJoinedBy, Cond.instanceMethod yX0_partsJoinedBy, Cond.selects RX0 yX0_partsJoinedBy yX0_partsJoinedBy, Cond.code yX0_partsJoinedBy cX0_partsJoinedBy 7 (some .int)]
def wsX1_circuitWithin : List Cond := .code yX1_circuitWithin cX1_circuitWithin 6 (some .int) :: ((wsX1_circuitWithin_r1 ++ (wsX1_circuitWithin_r2 ++ wsX1_circuitWithin_r3)) ++ wsX20 ++ wsX30 ++ wsX00)
def wsX1_closureOf_r1 : List Cond := [Cond.fieldLink RX1 7 "ColourForests$Kind" "graph" "LColourForests$Graph;", Cond.fieldLink RX1 22 "ColourForests$Graph" "edges" "I", Cond.methodLink RX1 13 ⟨"ColourForests$Kind", "rankOf", "(I)I"⟩, Cond.sameMethod "ColourForests$Kind" "ColourForests$Kind" "rankOf" "(I)I", Cond.selects RX2 ⟨"ColourForests$Kind", "rankOf", "(I)I"⟩ yX2_rankOf, Cond.instanceMethod yX2_rankOf, Cond.initialized RX2, Cond.code yX2_rankOf cX2_rankOf 5 (some .int), Cond.fieldLink RX2 7 "ColourForests$LimitKind" "graph" "LColourForests$Graph;", Cond.sameField "ColourForests$LimitKind" "ColourForests$Kind" "graph" "LColourForests$Graph;", Cond.fieldLink RX2 19 "ColourForests$Graph" "edges" "I", Cond.methodLink RX2 13 yX0_fullRoom, Cond.instanceMethod yX0_fullRoom, Cond.selects RX0 yX0_fullRoom yX0_fullRoom, Cond.initialized RX0, Cond.code yX0_fullRoom cX0_fullRoom 3 (some .int), Cond.fieldLink RX0 31 "ColourForests$Graph" "colours" "I", Cond.fieldLink RX0 9 "ColourForests$Graph" "limits" "[I", Cond.static yX5_withCell, Cond.initialized RX5, Cond.code yX5_withCell cX5_withCell 4 (some .int), Cond.static yX5_hasBit, Cond.code yX5_hasBit cX5_hasBit 2 (some .boolean), Cond.methodLink RX2 29 yX0_hasRoom]
def wsX1_closureOf_r2 : List Cond := [Cond.instanceMethod yX0_hasRoom, Cond.selects RX0 yX0_hasRoom yX0_hasRoom, Cond.code yX0_hasRoom cX0_hasRoom 3 (some .boolean), Cond.fieldLink RX0 21 "ColourForests$Graph" "hues" "[I", Cond.static yX5_cell, Cond.code yX5_cell cX5_cell 2 (some .int), Cond.methodLink RX2 32 yX0_roomAfter, Cond.instanceMethod yX0_roomAfter, Cond.selects RX0 yX0_roomAfter yX0_roomAfter, Cond.code yX0_roomAfter cX0_roomAfter 3 (some .int), Cond.selects RX3 ⟨"ColourForests$Kind", "rankOf", "(I)I"⟩ yX3_rankOf, Cond.instanceMethod yX3_rankOf, Cond.initialized RX3, Cond.code yX3_rankOf cX3_rankOf 5 (some .int), Cond.fieldLink RX3 7 "ColourForests$RinglessKind" "graph" "LColourForests$Graph;", Cond.sameField "ColourForests$RinglessKind" "ColourForests$Kind" "graph" "LColourForests$Graph;", Cond.fieldLink RX3 19 "ColourForests$Graph" "edges" "I", Cond.methodLink RX3 13 yX0_loneParts, Cond.instanceMethod yX0_loneParts, Cond.selects RX0 yX0_loneParts yX0_loneParts, Cond.code yX0_loneParts cX0_loneParts 3 (some .int), Cond.fieldLink RX0 27 "ColourForests$Graph" "vertices" "I", Cond.methodLink RX3 29 yX0_joinsTwoParts, Cond.instanceMethod yX0_joinsTwoParts]
def wsX1_closureOf_r3 : List Cond := [Cond.selects RX0 yX0_joinsTwoParts yX0_joinsTwoParts, Cond.code yX0_joinsTwoParts cX0_joinsTwoParts 3 (some .boolean), Cond.fieldLink RX0 15 "ColourForests$Graph" "firstEnds" "[I", Cond.fieldLink RX0 18 "ColourForests$Graph" "secondEnds" "[I", Cond.methodLink RX3 32 yX0_partsJoinedBy, Cond.instanceMethod yX0_partsJoinedBy, Cond.selects RX0 yX0_partsJoinedBy yX0_partsJoinedBy, Cond.code yX0_partsJoinedBy cX0_partsJoinedBy 7 (some .int)]
def wsX1_closureOf : List Cond := .code yX1_closureOf cX1_closureOf 6 (some .int) :: ((wsX1_closureOf_r1 ++ (wsX1_closureOf_r2 ++ wsX1_closureOf_r3)) ++ wsX20 ++ wsX30 ++ wsX00)
def wsX2_init : List Cond := .code yX2_init cX2_init 2 none :: ([.methodLink RX2 1 yX1_init, .instanceMethod yX1_init, .initialized RX1, .code yX1_init cX1_init 2 none, .methodLink RX1 1 objectInit, .instanceMethod objectInit, .code objectInit ⟨#[0xb1]⟩ 1 none, .fieldLink RX1 7 "ColourForests$Kind" "graph" "LColourForests$Graph;"] ++ wsX20 ++ wsX30)
def wsX3_init : List Cond := .code yX3_init cX3_init 2 none :: ([.methodLink RX3 1 yX1_init, .instanceMethod yX1_init, .initialized RX1, .code yX1_init cX1_init 2 none, .methodLink RX1 1 objectInit, .instanceMethod objectInit, .code objectInit ⟨#[0xb1]⟩ 1 none, .fieldLink RX1 7 "ColourForests$Kind" "graph" "LColourForests$Graph;"] ++ wsX20 ++ wsX30)
def wsX4_init : List Cond := .code yX4_init cX4_init 2 none :: ([.methodLink RX4 3 objectInit, .instanceMethod objectInit, .code objectInit ⟨#[0xb1]⟩ 1 none, .fieldLink RX4 11 "ColourForests$Survey" "changesSeen" "I", .arrayClass .int, .fieldLink RX4 15 "ColourForests$Survey" "dearestSets" "[I", .fieldLink RX4 19 "ColourForests$Survey" "dearestWeights" "[I", .fieldLink RX4 22 "ColourForests$Survey" "partsFrom" "[I", .fieldLink RX4 25 "ColourForests$Survey" "roomFrom" "[I", .fieldLink RX4 28 "ColourForests$Survey" "weightFrom" "[I", .fieldLink RX4 31 "ColourForests$Survey" "graph" "LColourForests$Graph;"] ++ wsX40)
def wsX4_hasSize : List Cond := .code yX4_hasSize cX4_hasSize 2 (some .boolean) :: ([.fieldLink RX4 35 "ColourForests$Survey" "most" "I", .static yX5_within, .initialized RX5, .code yX5_within cX5_within 3 (some .boolean)] ++ wsX40)
def wsX4_begin_r1 : List Cond := [Cond.fieldLink RX4 22 "ColourForests$Survey" "partsFrom" "[I", Cond.fieldLink RX4 31 "ColourForests$Survey" "graph" "LColourForests$Graph;", Cond.fieldLink RX4 25 "ColourForests$Survey" "roomFrom" "[I", Cond.fieldLink RX4 28 "ColourForests$Survey" "weightFrom" "[I", Cond.fieldLink RX4 80 "ColourForests$Survey" "widest" "I", Cond.fieldLink RX4 83 "ColourForests$Survey" "widestForests" "I", Cond.fieldLink RX4 86 "ColourForests$Survey" "commonSets" "I", Cond.fieldLink RX4 35 "ColourForests$Survey" "most" "I", Cond.fieldLink RX4 15 "ColourForests$Survey" "dearestSets" "[I", Cond.fieldLink RX4 19 "ColourForests$Survey" "dearestWeights" "[I", Cond.methodLink RX4 73 yX0_loneParts, Cond.instanceMethod yX0_loneParts, Cond.selects RX0 yX0_loneParts yX0_loneParts, Cond.initialized RX0, Cond.code yX0_loneParts cX0_loneParts 3 (some .int), Cond.fieldLink RX0 27 "ColourForests$Graph" "vertices" "I", Cond.static yX5_withCell, Cond.initialized RX5, Cond.code yX5_withCell cX5_withCell 4 (some .int), Cond.methodLink RX4 77 yX0_fullRoom, Cond.instanceMethod yX0_fullRoom, Cond.selects RX0 yX0_fullRoom yX0_fullRoom, Cond.code yX0_fullRoom cX0_fullRoom 3 (some .int), Cond.fieldLink RX0 31 "ColourForests$Graph" "colours" "I"]
def wsX4_begin_r2 : List Cond := [Cond.fieldLink RX0 9 "ColourForests$Graph" "limits" "[I"]
def wsX4_begin : List Cond := .code yX4_begin cX4_begin 1 none :: ((wsX4_begin_r1 ++ wsX4_begin_r2) ++ wsX40 ++ wsX00)
def wsJ6_numberOfTrailingZeros_0f7a4 : List Cond := .code yJ6_numberOfTrailingZeros_0f7a4 cJ6_numberOfTrailingZeros_0f7a4 2 (some .int) :: ([.constant RJ6 264 (65536)])
def wsX4_placeAbove : List Cond := .code yX4_placeAbove cX4_placeAbove 3 (some .int) :: ([.methodLink RX4 56 yJ6_numberOfTrailingZeros_0f7a4, .static yJ6_numberOfTrailingZeros_0f7a4, .initialized RJ6, .code yJ6_numberOfTrailingZeros_0f7a4 cJ6_numberOfTrailingZeros_0f7a4 2 (some .int), .constant RJ6 264 (65536)])
def wsX4_enter_r1 : List Cond := [Cond.fieldLink RX4 31 "ColourForests$Survey" "graph" "LColourForests$Graph;", Cond.fieldLink RX4 22 "ColourForests$Survey" "partsFrom" "[I", Cond.fieldLink RX4 25 "ColourForests$Survey" "roomFrom" "[I", Cond.fieldLink RX4 28 "ColourForests$Survey" "weightFrom" "[I", Cond.fieldLink RX4 102 "ColourForests$Graph" "weights" "[I", Cond.methodLink RX4 89 yX0_joinsTwoParts, Cond.instanceMethod yX0_joinsTwoParts, Cond.selects RX0 yX0_joinsTwoParts yX0_joinsTwoParts, Cond.initialized RX0, Cond.code yX0_joinsTwoParts cX0_joinsTwoParts 3 (some .boolean), Cond.fieldLink RX0 15 "ColourForests$Graph" "firstEnds" "[I", Cond.fieldLink RX0 18 "ColourForests$Graph" "secondEnds" "[I", Cond.static yX5_cell, Cond.initialized RX5, Cond.code yX5_cell cX5_cell 2 (some .int), Cond.methodLink RX4 92 yX0_partsJoinedBy, Cond.instanceMethod yX0_partsJoinedBy, Cond.selects RX0 yX0_partsJoinedBy yX0_partsJoinedBy, Cond.code yX0_partsJoinedBy cX0_partsJoinedBy 7 (some .int), Cond.fieldLink RX0 27 "ColourForests$Graph" "vertices" "I", Cond.static yX5_withCell, Cond.code yX5_withCell cX5_withCell 4 (some .int), Cond.methodLink RX4 96 yX0_hasRoom, Cond.instanceMethod yX0_hasRoom]
def wsX4_enter_r2 : List Cond := [Cond.selects RX0 yX0_hasRoom yX0_hasRoom, Cond.code yX0_hasRoom cX0_hasRoom 3 (some .boolean), Cond.fieldLink RX0 21 "ColourForests$Graph" "hues" "[I", Cond.methodLink RX4 99 yX0_roomAfter, Cond.instanceMethod yX0_roomAfter, Cond.selects RX0 yX0_roomAfter yX0_roomAfter, Cond.code yX0_roomAfter cX0_roomAfter 3 (some .int)]
def wsX4_enter : List Cond := .code yX4_enter cX4_enter 5 (some .boolean) :: ((wsX4_enter_r1 ++ wsX4_enter_r2) ++ wsX40 ++ wsX00)
def wsX4_noteForest : List Cond := .code yX4_noteForest cX4_noteForest 2 none :: ([.fieldLink RX4 80 "ColourForests$Survey" "widest" "I", .fieldLink RX4 83 "ColourForests$Survey" "widestForests" "I"] ++ wsX40)
def wsX4_noteCommon : List Cond := .code yX4_noteCommon cX4_noteCommon 4 none :: ([.fieldLink RX4 86 "ColourForests$Survey" "commonSets" "I", .fieldLink RX4 35 "ColourForests$Survey" "most" "I", .fieldLink RX4 19 "ColourForests$Survey" "dearestWeights" "[I", .fieldLink RX4 15 "ColourForests$Survey" "dearestSets" "[I", .methodLink RX4 116 Lib.Math.max.name, .static Lib.Math.max.name, .initialized "java/lang/Math", .code Lib.Math.max.name Lib.Math.max.code 2 (some .int)] ++ wsX40)
def wsX4_note_r1 : List Cond := [Cond.fieldLink RX4 25 "ColourForests$Survey" "roomFrom" "[I", Cond.fieldLink RX4 28 "ColourForests$Survey" "weightFrom" "[I", Cond.methodLink RX4 105 yJ6_bitCount_0f7a4, Cond.static yJ6_bitCount_0f7a4, Cond.initialized RJ6, Cond.code yJ6_bitCount_0f7a4 cJ6_bitCount_0f7a4 1 (some .int), Cond.constant RJ6 265 (1431655765), Cond.constant RJ6 266 (858993459), Cond.constant RJ6 267 (252645135), Cond.methodLink RX4 108 yX4_noteForest, Cond.instanceMethod yX4_noteForest, Cond.selects RX4 yX4_noteForest yX4_noteForest, Cond.initialized RX4, Cond.code yX4_noteForest cX4_noteForest 2 none, Cond.fieldLink RX4 80 "ColourForests$Survey" "widest" "I", Cond.fieldLink RX4 83 "ColourForests$Survey" "widestForests" "I", Cond.methodLink RX4 112 yX4_noteCommon, Cond.instanceMethod yX4_noteCommon, Cond.selects RX4 yX4_noteCommon yX4_noteCommon, Cond.code yX4_noteCommon cX4_noteCommon 4 none, Cond.fieldLink RX4 86 "ColourForests$Survey" "commonSets" "I", Cond.fieldLink RX4 35 "ColourForests$Survey" "most" "I", Cond.fieldLink RX4 19 "ColourForests$Survey" "dearestWeights" "[I", Cond.fieldLink RX4 15 "ColourForests$Survey" "dearestSets" "[I"]
def wsX4_note_r2 : List Cond := [Cond.methodLink RX4 116 Lib.Math.max.name, Cond.static Lib.Math.max.name, Cond.initialized "java/lang/Math", Cond.code Lib.Math.max.name Lib.Math.max.code 2 (some .int)]
def wsX4_note : List Cond := .code yX4_note cX4_note 4 none :: ((wsX4_note_r1 ++ wsX4_note_r2) ++ wsX40)
def wsX4_walk_r1 : List Cond := [Cond.fieldLink RX4 31 "ColourForests$Survey" "graph" "LColourForests$Graph;", Cond.fieldLink RX4 53 "ColourForests$Graph" "edges" "I", Cond.methodLink RX4 50 yX4_begin, Cond.instanceMethod yX4_begin, Cond.selects RX4 yX4_begin yX4_begin, Cond.initialized RX4, Cond.code yX4_begin cX4_begin 1 none, Cond.fieldLink RX4 22 "ColourForests$Survey" "partsFrom" "[I", Cond.fieldLink RX4 25 "ColourForests$Survey" "roomFrom" "[I", Cond.fieldLink RX4 28 "ColourForests$Survey" "weightFrom" "[I", Cond.fieldLink RX4 80 "ColourForests$Survey" "widest" "I", Cond.fieldLink RX4 83 "ColourForests$Survey" "widestForests" "I", Cond.fieldLink RX4 86 "ColourForests$Survey" "commonSets" "I", Cond.fieldLink RX4 35 "ColourForests$Survey" "most" "I", Cond.fieldLink RX4 15 "ColourForests$Survey" "dearestSets" "[I", Cond.fieldLink RX4 19 "ColourForests$Survey" "dearestWeights" "[I", Cond.methodLink RX4 73 yX0_loneParts, Cond.instanceMethod yX0_loneParts, Cond.selects RX0 yX0_loneParts yX0_loneParts, Cond.initialized RX0, Cond.code yX0_loneParts cX0_loneParts 3 (some .int), Cond.fieldLink RX0 27 "ColourForests$Graph" "vertices" "I", Cond.static yX5_withCell, Cond.initialized RX5]
def wsX4_walk_r2 : List Cond := [Cond.code yX5_withCell cX5_withCell 4 (some .int), Cond.methodLink RX4 77 yX0_fullRoom, Cond.instanceMethod yX0_fullRoom, Cond.selects RX0 yX0_fullRoom yX0_fullRoom, Cond.code yX0_fullRoom cX0_fullRoom 3 (some .int), Cond.fieldLink RX0 31 "ColourForests$Graph" "colours" "I", Cond.fieldLink RX0 9 "ColourForests$Graph" "limits" "[I", Cond.methodLink RX4 56 yJ6_numberOfTrailingZeros_0f7a4, Cond.static yJ6_numberOfTrailingZeros_0f7a4, Cond.initialized RJ6, Cond.code yJ6_numberOfTrailingZeros_0f7a4 cJ6_numberOfTrailingZeros_0f7a4 2 (some .int), Cond.constant RJ6 264 (65536), Cond.methodLink RX4 62 yX4_placeAbove, Cond.instanceMethod yX4_placeAbove, Cond.selects RX4 yX4_placeAbove yX4_placeAbove, Cond.code yX4_placeAbove cX4_placeAbove 3 (some .int), Cond.methodLink RX4 65 yX4_enter, Cond.instanceMethod yX4_enter, Cond.selects RX4 yX4_enter yX4_enter, Cond.code yX4_enter cX4_enter 5 (some .boolean), Cond.fieldLink RX4 102 "ColourForests$Graph" "weights" "[I", Cond.methodLink RX4 89 yX0_joinsTwoParts, Cond.instanceMethod yX0_joinsTwoParts, Cond.selects RX0 yX0_joinsTwoParts yX0_joinsTwoParts]
def wsX4_walk_r3 : List Cond := [Cond.code yX0_joinsTwoParts cX0_joinsTwoParts 3 (some .boolean), Cond.fieldLink RX0 15 "ColourForests$Graph" "firstEnds" "[I", Cond.fieldLink RX0 18 "ColourForests$Graph" "secondEnds" "[I", Cond.static yX5_cell, Cond.code yX5_cell cX5_cell 2 (some .int), Cond.methodLink RX4 92 yX0_partsJoinedBy, Cond.instanceMethod yX0_partsJoinedBy, Cond.selects RX0 yX0_partsJoinedBy yX0_partsJoinedBy, Cond.code yX0_partsJoinedBy cX0_partsJoinedBy 7 (some .int), Cond.methodLink RX4 96 yX0_hasRoom, Cond.instanceMethod yX0_hasRoom, Cond.selects RX0 yX0_hasRoom yX0_hasRoom, Cond.code yX0_hasRoom cX0_hasRoom 3 (some .boolean), Cond.fieldLink RX0 21 "ColourForests$Graph" "hues" "[I", Cond.methodLink RX4 99 yX0_roomAfter, Cond.instanceMethod yX0_roomAfter, Cond.selects RX0 yX0_roomAfter yX0_roomAfter, Cond.code yX0_roomAfter cX0_roomAfter 3 (some .int), Cond.methodLink RX4 69 yX4_note, Cond.instanceMethod yX4_note, Cond.selects RX4 yX4_note yX4_note, Cond.code yX4_note cX4_note 4 none, Cond.methodLink RX4 105 yJ6_bitCount_0f7a4, Cond.static yJ6_bitCount_0f7a4]
def wsX4_walk_r4 : List Cond := [Cond.code yJ6_bitCount_0f7a4 cJ6_bitCount_0f7a4 1 (some .int), Cond.constant RJ6 265 (1431655765), Cond.constant RJ6 266 (858993459), Cond.constant RJ6 267 (252645135), Cond.methodLink RX4 108 yX4_noteForest, Cond.instanceMethod yX4_noteForest, Cond.selects RX4 yX4_noteForest yX4_noteForest, Cond.code yX4_noteForest cX4_noteForest 2 none, Cond.methodLink RX4 112 yX4_noteCommon, Cond.instanceMethod yX4_noteCommon, Cond.selects RX4 yX4_noteCommon yX4_noteCommon, Cond.code yX4_noteCommon cX4_noteCommon 4 none, Cond.methodLink RX4 116 Lib.Math.max.name, Cond.static Lib.Math.max.name, Cond.initialized "java/lang/Math", Cond.code Lib.Math.max.name Lib.Math.max.code 2 (some .int)]
def wsX4_walk : List Cond := .code yX4_walk cX4_walk 5 none :: ((wsX4_walk_r1 ++ (wsX4_walk_r2 ++ (wsX4_walk_r3 ++ wsX4_walk_r4))) ++ wsX40 ++ wsX00)
def wsX4_refresh_r1 : List Cond := [Cond.fieldLink RX4 11 "ColourForests$Survey" "changesSeen" "I", Cond.fieldLink RX4 31 "ColourForests$Survey" "graph" "LColourForests$Graph;", Cond.fieldLink RX4 42 "ColourForests$Graph" "changes" "I", Cond.methodLink RX4 47 yX4_walk, Cond.instanceMethod yX4_walk, Cond.selects RX4 yX4_walk yX4_walk, Cond.initialized RX4, Cond.code yX4_walk cX4_walk 5 none, Cond.fieldLink RX4 53 "ColourForests$Graph" "edges" "I", Cond.methodLink RX4 50 yX4_begin, Cond.instanceMethod yX4_begin, Cond.selects RX4 yX4_begin yX4_begin, Cond.code yX4_begin cX4_begin 1 none, Cond.fieldLink RX4 22 "ColourForests$Survey" "partsFrom" "[I", Cond.fieldLink RX4 25 "ColourForests$Survey" "roomFrom" "[I", Cond.fieldLink RX4 28 "ColourForests$Survey" "weightFrom" "[I", Cond.fieldLink RX4 80 "ColourForests$Survey" "widest" "I", Cond.fieldLink RX4 83 "ColourForests$Survey" "widestForests" "I", Cond.fieldLink RX4 86 "ColourForests$Survey" "commonSets" "I", Cond.fieldLink RX4 35 "ColourForests$Survey" "most" "I", Cond.fieldLink RX4 15 "ColourForests$Survey" "dearestSets" "[I", Cond.fieldLink RX4 19 "ColourForests$Survey" "dearestWeights" "[I", Cond.methodLink RX4 73 yX0_loneParts, Cond.instanceMethod yX0_loneParts]
def wsX4_refresh_r2 : List Cond := [Cond.selects RX0 yX0_loneParts yX0_loneParts, Cond.initialized RX0, Cond.code yX0_loneParts cX0_loneParts 3 (some .int), Cond.fieldLink RX0 27 "ColourForests$Graph" "vertices" "I", Cond.static yX5_withCell, Cond.initialized RX5, Cond.code yX5_withCell cX5_withCell 4 (some .int), Cond.methodLink RX4 77 yX0_fullRoom, Cond.instanceMethod yX0_fullRoom, Cond.selects RX0 yX0_fullRoom yX0_fullRoom, Cond.code yX0_fullRoom cX0_fullRoom 3 (some .int), Cond.fieldLink RX0 31 "ColourForests$Graph" "colours" "I", Cond.fieldLink RX0 9 "ColourForests$Graph" "limits" "[I", Cond.methodLink RX4 56 yJ6_numberOfTrailingZeros_0f7a4, Cond.static yJ6_numberOfTrailingZeros_0f7a4, Cond.initialized RJ6, Cond.code yJ6_numberOfTrailingZeros_0f7a4 cJ6_numberOfTrailingZeros_0f7a4 2 (some .int), Cond.constant RJ6 264 (65536), Cond.methodLink RX4 62 yX4_placeAbove, Cond.instanceMethod yX4_placeAbove, Cond.selects RX4 yX4_placeAbove yX4_placeAbove, Cond.code yX4_placeAbove cX4_placeAbove 3 (some .int), Cond.methodLink RX4 65 yX4_enter, Cond.instanceMethod yX4_enter]
def wsX4_refresh_r3 : List Cond := [Cond.selects RX4 yX4_enter yX4_enter, Cond.code yX4_enter cX4_enter 5 (some .boolean), Cond.fieldLink RX4 102 "ColourForests$Graph" "weights" "[I", Cond.methodLink RX4 89 yX0_joinsTwoParts, Cond.instanceMethod yX0_joinsTwoParts, Cond.selects RX0 yX0_joinsTwoParts yX0_joinsTwoParts, Cond.code yX0_joinsTwoParts cX0_joinsTwoParts 3 (some .boolean), Cond.fieldLink RX0 15 "ColourForests$Graph" "firstEnds" "[I", Cond.fieldLink RX0 18 "ColourForests$Graph" "secondEnds" "[I", Cond.static yX5_cell, Cond.code yX5_cell cX5_cell 2 (some .int), Cond.methodLink RX4 92 yX0_partsJoinedBy, Cond.instanceMethod yX0_partsJoinedBy, Cond.selects RX0 yX0_partsJoinedBy yX0_partsJoinedBy, Cond.code yX0_partsJoinedBy cX0_partsJoinedBy 7 (some .int), Cond.methodLink RX4 96 yX0_hasRoom, Cond.instanceMethod yX0_hasRoom, Cond.selects RX0 yX0_hasRoom yX0_hasRoom, Cond.code yX0_hasRoom cX0_hasRoom 3 (some .boolean), Cond.fieldLink RX0 21 "ColourForests$Graph" "hues" "[I", Cond.methodLink RX4 99 yX0_roomAfter, Cond.instanceMethod yX0_roomAfter, Cond.selects RX0 yX0_roomAfter yX0_roomAfter, Cond.code yX0_roomAfter cX0_roomAfter 3 (some .int)]
def wsX4_refresh_r4 : List Cond := [Cond.methodLink RX4 69 yX4_note, Cond.instanceMethod yX4_note, Cond.selects RX4 yX4_note yX4_note, Cond.code yX4_note cX4_note 4 none, Cond.methodLink RX4 105 yJ6_bitCount_0f7a4, Cond.static yJ6_bitCount_0f7a4, Cond.code yJ6_bitCount_0f7a4 cJ6_bitCount_0f7a4 1 (some .int), Cond.constant RJ6 265 (1431655765), Cond.constant RJ6 266 (858993459), Cond.constant RJ6 267 (252645135), Cond.methodLink RX4 108 yX4_noteForest, Cond.instanceMethod yX4_noteForest, Cond.selects RX4 yX4_noteForest yX4_noteForest, Cond.code yX4_noteForest cX4_noteForest 2 none, Cond.methodLink RX4 112 yX4_noteCommon, Cond.instanceMethod yX4_noteCommon, Cond.selects RX4 yX4_noteCommon yX4_noteCommon, Cond.code yX4_noteCommon cX4_noteCommon 4 none, Cond.methodLink RX4 116 Lib.Math.max.name, Cond.static Lib.Math.max.name, Cond.initialized "java/lang/Math", Cond.code Lib.Math.max.name Lib.Math.max.code 2 (some .int)]
def wsX4_refresh : List Cond := .code yX4_refresh cX4_refresh 1 none :: ((wsX4_refresh_r1 ++ (wsX4_refresh_r2 ++ (wsX4_refresh_r3 ++ wsX4_refresh_r4))) ++ wsX40 ++ wsX00)
def wsX5_init_r1 : List Cond := [Cond.methodLink RX5 1 objectInit, Cond.instanceMethod objectInit, Cond.code objectInit ⟨#[0xb1]⟩ 1 none, Cond.classLink RX5 7 RX0, Cond.instantiable RX0 9, Cond.initialized RX0, Cond.fieldLink RX5 10 "ColourForests" "graph" "LColourForests$Graph;", Cond.classLink RX5 16 RX3, Cond.instantiable RX3 1, Cond.initialized RX3, Cond.fieldLink RX5 21 "ColourForests" "ringless" "LColourForests$Kind;", Cond.classLink RX5 25 RX2, Cond.instantiable RX2 1, Cond.initialized RX2, Cond.fieldLink RX5 28 "ColourForests" "withinLimits" "LColourForests$Kind;", Cond.classLink RX5 31 RX4, Cond.instantiable RX4 11, Cond.initialized RX4, Cond.fieldLink RX5 34 "ColourForests" "survey" "LColourForests$Survey;", Cond.methodLink RX5 9 yX0_init, Cond.instanceMethod yX0_init, Cond.code yX0_init cX0_init 1 none, Cond.methodLink RX0 3 objectInit, Cond.arrayClass .int]
def wsX5_init_r2 : List Cond := [Cond.fieldLink RX0 9 "ColourForests$Graph" "limits" "[I", Cond.fieldLink RX0 15 "ColourForests$Graph" "firstEnds" "[I", Cond.fieldLink RX0 18 "ColourForests$Graph" "secondEnds" "[I", Cond.fieldLink RX0 21 "ColourForests$Graph" "hues" "[I", Cond.fieldLink RX0 24 "ColourForests$Graph" "weights" "[I", Cond.fieldLink RX0 27 "ColourForests$Graph" "vertices" "I", Cond.fieldLink RX0 31 "ColourForests$Graph" "colours" "I", Cond.methodLink RX5 18 yX3_init, Cond.instanceMethod yX3_init, Cond.code yX3_init cX3_init 2 none, Cond.methodLink RX3 1 yX1_init, Cond.instanceMethod yX1_init, Cond.initialized RX1, Cond.code yX1_init cX1_init 2 none, Cond.methodLink RX1 1 objectInit, Cond.fieldLink RX1 7 "ColourForests$Kind" "graph" "LColourForests$Graph;", Cond.methodLink RX5 27 yX2_init, Cond.instanceMethod yX2_init, Cond.code yX2_init cX2_init 2 none, Cond.methodLink RX2 1 yX1_init, Cond.methodLink RX5 33 yX4_init, Cond.instanceMethod yX4_init, Cond.code yX4_init cX4_init 2 none, Cond.methodLink RX4 3 objectInit]
def wsX5_init_r3 : List Cond := [Cond.fieldLink RX4 11 "ColourForests$Survey" "changesSeen" "I", Cond.fieldLink RX4 15 "ColourForests$Survey" "dearestSets" "[I", Cond.fieldLink RX4 19 "ColourForests$Survey" "dearestWeights" "[I", Cond.fieldLink RX4 22 "ColourForests$Survey" "partsFrom" "[I", Cond.fieldLink RX4 25 "ColourForests$Survey" "roomFrom" "[I", Cond.fieldLink RX4 28 "ColourForests$Survey" "weightFrom" "[I", Cond.fieldLink RX4 31 "ColourForests$Survey" "graph" "LColourForests$Graph;"]
def wsX5_init : List Cond := .code yX5_init cX5_init 1 none :: ((wsX5_init_r1 ++ (wsX5_init_r2 ++ wsX5_init_r3)) ++ wsX00 ++ wsX50 ++ wsX30 ++ wsX20 ++ wsX40)
def wsX5_make : List Cond := .code yX5_make cX5_make 3 none :: ([.classLink RX5 42 "java/lang/IllegalArgumentException", .initialized "java/lang/IllegalArgumentException", .fieldLink RX5 10 "ColourForests" "graph" "LColourForests$Graph;", .methodLink RX5 38 yX5_within, .static yX5_within, .initialized RX5, .code yX5_within cX5_within 3 (some .boolean), .methodLink RX5 49 yX0_restart, .instanceMethod yX0_restart, .selects RX0 yX0_restart yX0_restart, .initialized RX0, .code yX0_restart cX0_restart 3 none, .fieldLink RX0 27 "ColourForests$Graph" "vertices" "I", .fieldLink RX0 31 "ColourForests$Graph" "colours" "I", .fieldLink RX0 34 "ColourForests$Graph" "edges" "I", .fieldLink RX0 9 "ColourForests$Graph" "limits" "[I", .fieldLink RX0 43 "ColourForests$Graph" "changes" "I", .methodLink RX0 37 yJ7_fill_53178, .static yJ7_fill_53178, .initialized RJ7, .code yJ7_fill_53178 cJ7_fill_53178 4 none] ++ wsX50 ++ wsX00 ++ (vx_atS RX5 46 "java/lang/IllegalArgumentException" ["java/lang/RuntimeException", "java/lang/Exception"]).filter goodWord)
def wsX5_isWeight : List Cond := .code yX5_isWeight cX5_isWeight 1 (some .boolean) :: ([.methodLink RX5 38 yX5_within, .static yX5_within, .initialized RX5, .code yX5_within cX5_within 3 (some .boolean)])
def wsX5_edge_r1 : List Cond := [Cond.fieldLink RX5 10 "ColourForests" "graph" "LColourForests$Graph;", Cond.fieldLink RX5 63 "ColourForests$Graph" "edges" "I", Cond.methodLink RX5 53 yX0_hasVertex, Cond.instanceMethod yX0_hasVertex, Cond.selects RX0 yX0_hasVertex yX0_hasVertex, Cond.initialized RX0, Cond.code yX0_hasVertex cX0_hasVertex 2 (some .boolean), Cond.fieldLink RX0 27 "ColourForests$Graph" "vertices" "I", Cond.static yX5_within, Cond.initialized RX5, Cond.code yX5_within cX5_within 3 (some .boolean), Cond.methodLink RX5 57 yX0_hasColour, Cond.instanceMethod yX0_hasColour, Cond.selects RX0 yX0_hasColour yX0_hasColour, Cond.code yX0_hasColour cX0_hasColour 2 (some .boolean), Cond.fieldLink RX0 31 "ColourForests$Graph" "colours" "I", Cond.methodLink RX5 60 yX5_isWeight, Cond.static yX5_isWeight, Cond.code yX5_isWeight cX5_isWeight 1 (some .boolean), Cond.methodLink RX5 38 yX5_within, Cond.methodLink RX5 67 yX0_addEdge, Cond.instanceMethod yX0_addEdge, Cond.selects RX0 yX0_addEdge yX0_addEdge, Cond.code yX0_addEdge cX0_addEdge 6 (some .int)]
def wsX5_edge_r2 : List Cond := [Cond.fieldLink RX0 34 "ColourForests$Graph" "edges" "I", Cond.fieldLink RX0 15 "ColourForests$Graph" "firstEnds" "[I", Cond.fieldLink RX0 18 "ColourForests$Graph" "secondEnds" "[I", Cond.fieldLink RX0 21 "ColourForests$Graph" "hues" "[I", Cond.fieldLink RX0 24 "ColourForests$Graph" "weights" "[I", Cond.fieldLink RX0 43 "ColourForests$Graph" "changes" "I"]
def wsX5_edge : List Cond := .code yX5_edge cX5_edge 5 (some .int) :: ((wsX5_edge_r1 ++ wsX5_edge_r2) ++ wsX50 ++ wsX00)
def wsX5_limit : List Cond := .code yX5_limit cX5_limit 3 none :: ([.classLink RX5 71 "java/lang/IndexOutOfBoundsException", .initialized "java/lang/IndexOutOfBoundsException", .classLink RX5 42 "java/lang/IllegalArgumentException", .initialized "java/lang/IllegalArgumentException", .fieldLink RX5 10 "ColourForests" "graph" "LColourForests$Graph;", .methodLink RX5 57 yX0_hasColour, .instanceMethod yX0_hasColour, .selects RX0 yX0_hasColour yX0_hasColour, .initialized RX0, .code yX0_hasColour cX0_hasColour 2 (some .boolean), .fieldLink RX0 31 "ColourForests$Graph" "colours" "I", .static yX5_within, .initialized RX5, .code yX5_within cX5_within 3 (some .boolean), .methodLink RX5 38 yX5_within, .methodLink RX5 78 yX0_setLimit, .instanceMethod yX0_setLimit, .selects RX0 yX0_setLimit yX0_setLimit, .code yX0_setLimit cX0_setLimit 3 none, .fieldLink RX0 9 "ColourForests$Graph" "limits" "[I", .fieldLink RX0 43 "ColourForests$Graph" "changes" "I"] ++ wsX50 ++ wsX00 ++ (vx_atS RX5 75 "java/lang/IndexOutOfBoundsException" ["java/lang/RuntimeException", "java/lang/Exception"]).filter goodWord ++ (vx_atS RX5 46 "java/lang/IllegalArgumentException" ["java/lang/RuntimeException", "java/lang/Exception"]).filter goodWord)
def wsX5_weigh : List Cond := .code yX5_weigh cX5_weigh 3 none :: ([.classLink RX5 71 "java/lang/IndexOutOfBoundsException", .initialized "java/lang/IndexOutOfBoundsException", .classLink RX5 42 "java/lang/IllegalArgumentException", .initialized "java/lang/IllegalArgumentException", .fieldLink RX5 10 "ColourForests" "graph" "LColourForests$Graph;", .methodLink RX5 81 yX0_hasEdge, .instanceMethod yX0_hasEdge, .selects RX0 yX0_hasEdge yX0_hasEdge, .initialized RX0, .code yX0_hasEdge cX0_hasEdge 2 (some .boolean), .fieldLink RX0 34 "ColourForests$Graph" "edges" "I", .static yX5_within, .initialized RX5, .code yX5_within cX5_within 3 (some .boolean), .methodLink RX5 60 yX5_isWeight, .static yX5_isWeight, .code yX5_isWeight cX5_isWeight 1 (some .boolean), .methodLink RX5 38 yX5_within, .methodLink RX5 88 yX0_setWeight, .instanceMethod yX0_setWeight, .selects RX0 yX0_setWeight yX0_setWeight, .code yX0_setWeight cX0_setWeight 3 none, .fieldLink RX0 24 "ColourForests$Graph" "weights" "[I", .fieldLink RX0 43 "ColourForests$Graph" "changes" "I"] ++ wsX50 ++ wsX00 ++ (vx_atS RX5 75 "java/lang/IndexOutOfBoundsException" ["java/lang/RuntimeException", "java/lang/Exception"]).filter goodWord ++ (vx_atS RX5 46 "java/lang/IllegalArgumentException" ["java/lang/RuntimeException", "java/lang/Exception"]).filter goodWord)
def wsX5_count_r1 : List Cond := [Cond.fieldLink RX5 10 "ColourForests" "graph" "LColourForests$Graph;", Cond.fieldLink RX5 91 "ColourForests$Graph" "vertices" "I", Cond.fieldLink RX5 94 "ColourForests$Graph" "colours" "I", Cond.fieldLink RX5 63 "ColourForests$Graph" "edges" "I", Cond.fieldLink RX5 34 "ColourForests" "survey" "LColourForests$Survey;", Cond.fieldLink RX5 100 "ColourForests$Survey" "widestForests" "I", Cond.fieldLink RX5 103 "ColourForests$Survey" "commonSets" "I", Cond.methodLink RX5 97 yX4_refresh, Cond.instanceMethod yX4_refresh, Cond.selects RX4 yX4_refresh yX4_refresh, Cond.initialized RX4, Cond.code yX4_refresh cX4_refresh 1 none, Cond.fieldLink RX4 11 "ColourForests$Survey" "changesSeen" "I", Cond.fieldLink RX4 31 "ColourForests$Survey" "graph" "LColourForests$Graph;", Cond.fieldLink RX4 42 "ColourForests$Graph" "changes" "I", Cond.methodLink RX4 47 yX4_walk, Cond.instanceMethod yX4_walk, Cond.selects RX4 yX4_walk yX4_walk, Cond.code yX4_walk cX4_walk 5 none, Cond.fieldLink RX4 53 "ColourForests$Graph" "edges" "I", Cond.methodLink RX4 50 yX4_begin, Cond.instanceMethod yX4_begin, Cond.selects RX4 yX4_begin yX4_begin, Cond.code yX4_begin cX4_begin 1 none]
def wsX5_count_r2 : List Cond := [Cond.fieldLink RX4 22 "ColourForests$Survey" "partsFrom" "[I", Cond.fieldLink RX4 25 "ColourForests$Survey" "roomFrom" "[I", Cond.fieldLink RX4 28 "ColourForests$Survey" "weightFrom" "[I", Cond.fieldLink RX4 80 "ColourForests$Survey" "widest" "I", Cond.fieldLink RX4 83 "ColourForests$Survey" "widestForests" "I", Cond.fieldLink RX4 86 "ColourForests$Survey" "commonSets" "I", Cond.fieldLink RX4 35 "ColourForests$Survey" "most" "I", Cond.fieldLink RX4 15 "ColourForests$Survey" "dearestSets" "[I", Cond.fieldLink RX4 19 "ColourForests$Survey" "dearestWeights" "[I", Cond.methodLink RX4 73 yX0_loneParts, Cond.instanceMethod yX0_loneParts, Cond.selects RX0 yX0_loneParts yX0_loneParts, Cond.initialized RX0, Cond.code yX0_loneParts cX0_loneParts 3 (some .int), Cond.fieldLink RX0 27 "ColourForests$Graph" "vertices" "I", Cond.static yX5_withCell, Cond.initialized RX5, Cond.code yX5_withCell cX5_withCell 4 (some .int), Cond.methodLink RX4 77 yX0_fullRoom, Cond.instanceMethod yX0_fullRoom, Cond.selects RX0 yX0_fullRoom yX0_fullRoom, Cond.code yX0_fullRoom cX0_fullRoom 3 (some .int), Cond.fieldLink RX0 31 "ColourForests$Graph" "colours" "I", Cond.fieldLink RX0 9 "ColourForests$Graph" "limits" "[I"]
def wsX5_count_r3 : List Cond := [Cond.methodLink RX4 56 yJ6_numberOfTrailingZeros_0f7a4, Cond.static yJ6_numberOfTrailingZeros_0f7a4, Cond.initialized RJ6, Cond.code yJ6_numberOfTrailingZeros_0f7a4 cJ6_numberOfTrailingZeros_0f7a4 2 (some .int), Cond.constant RJ6 264 (65536), Cond.methodLink RX4 62 yX4_placeAbove, Cond.instanceMethod yX4_placeAbove, Cond.selects RX4 yX4_placeAbove yX4_placeAbove, Cond.code yX4_placeAbove cX4_placeAbove 3 (some .int), Cond.methodLink RX4 65 yX4_enter, Cond.instanceMethod yX4_enter, Cond.selects RX4 yX4_enter yX4_enter, Cond.code yX4_enter cX4_enter 5 (some .boolean), Cond.fieldLink RX4 102 "ColourForests$Graph" "weights" "[I", Cond.methodLink RX4 89 yX0_joinsTwoParts, Cond.instanceMethod yX0_joinsTwoParts, Cond.selects RX0 yX0_joinsTwoParts yX0_joinsTwoParts, Cond.code yX0_joinsTwoParts cX0_joinsTwoParts 3 (some .boolean), Cond.fieldLink RX0 15 "ColourForests$Graph" "firstEnds" "[I", Cond.fieldLink RX0 18 "ColourForests$Graph" "secondEnds" "[I", Cond.static yX5_cell, Cond.code yX5_cell cX5_cell 2 (some .int), Cond.methodLink RX4 92 yX0_partsJoinedBy, Cond.instanceMethod yX0_partsJoinedBy]
def wsX5_count_r4 : List Cond := [Cond.selects RX0 yX0_partsJoinedBy yX0_partsJoinedBy, Cond.code yX0_partsJoinedBy cX0_partsJoinedBy 7 (some .int), Cond.methodLink RX4 96 yX0_hasRoom, Cond.instanceMethod yX0_hasRoom, Cond.selects RX0 yX0_hasRoom yX0_hasRoom, Cond.code yX0_hasRoom cX0_hasRoom 3 (some .boolean), Cond.fieldLink RX0 21 "ColourForests$Graph" "hues" "[I", Cond.methodLink RX4 99 yX0_roomAfter, Cond.instanceMethod yX0_roomAfter, Cond.selects RX0 yX0_roomAfter yX0_roomAfter, Cond.code yX0_roomAfter cX0_roomAfter 3 (some .int), Cond.methodLink RX4 69 yX4_note, Cond.instanceMethod yX4_note, Cond.selects RX4 yX4_note yX4_note, Cond.code yX4_note cX4_note 4 none, Cond.methodLink RX4 105 yJ6_bitCount_0f7a4, Cond.static yJ6_bitCount_0f7a4, Cond.code yJ6_bitCount_0f7a4 cJ6_bitCount_0f7a4 1 (some .int), Cond.constant RJ6 265 (1431655765), Cond.constant RJ6 266 (858993459), Cond.constant RJ6 267 (252645135), Cond.methodLink RX4 108 yX4_noteForest, Cond.instanceMethod yX4_noteForest, Cond.selects RX4 yX4_noteForest yX4_noteForest]
def wsX5_count_r5 : List Cond := [Cond.code yX4_noteForest cX4_noteForest 2 none, Cond.methodLink RX4 112 yX4_noteCommon, Cond.instanceMethod yX4_noteCommon, Cond.selects RX4 yX4_noteCommon yX4_noteCommon, Cond.code yX4_noteCommon cX4_noteCommon 4 none, Cond.methodLink RX4 116 Lib.Math.max.name, Cond.static Lib.Math.max.name, Cond.initialized "java/lang/Math", Cond.code Lib.Math.max.name Lib.Math.max.code 2 (some .int)]
def wsX5_count : List Cond := .code yX5_count cX5_count 2 (some .int) :: ((wsX5_count_r1 ++ (wsX5_count_r2 ++ (wsX5_count_r3 ++ (wsX5_count_r4 ++ wsX5_count_r5)))) ++ wsX50 ++ wsX00 ++ wsX40)
def wsX5_judgeOf : List Cond := .code yX5_judgeOf cX5_judgeOf 2 (some (.object "ColourForests$Kind")) :: ([.fieldLink RX5 21 "ColourForests" "ringless" "LColourForests$Kind;", .fieldLink RX5 28 "ColourForests" "withinLimits" "LColourForests$Kind;"] ++ wsX50)
def wsX5_rank_r1 : List Cond := [Cond.fieldLink RX5 10 "ColourForests" "graph" "LColourForests$Graph;", Cond.methodLink RX5 106 yX5_judgeOf, Cond.instanceMethod yX5_judgeOf, Cond.selects RX5 yX5_judgeOf yX5_judgeOf, Cond.initialized RX5, Cond.code yX5_judgeOf cX5_judgeOf 2 (some (.object "ColourForests$Kind")), Cond.fieldLink RX5 21 "ColourForests" "ringless" "LColourForests$Kind;", Cond.fieldLink RX5 28 "ColourForests" "withinLimits" "LColourForests$Kind;", Cond.methodLink RX5 110 yX0_hasSet, Cond.instanceMethod yX0_hasSet, Cond.selects RX0 yX0_hasSet yX0_hasSet, Cond.initialized RX0, Cond.code yX0_hasSet cX0_hasSet 2 (some .boolean), Cond.methodLink RX0 50 yX0_allEdges, Cond.instanceMethod yX0_allEdges, Cond.selects RX0 yX0_allEdges yX0_allEdges, Cond.code yX0_allEdges cX0_allEdges 1 (some .int), Cond.fieldLink RX0 34 "ColourForests$Graph" "edges" "I", Cond.methodLink RX5 113 ⟨"ColourForests$Kind", "rankOf", "(I)I"⟩, Cond.sameMethod "ColourForests$Kind" "ColourForests$Kind" "rankOf" "(I)I", Cond.selects RX2 ⟨"ColourForests$Kind", "rankOf", "(I)I"⟩ yX2_rankOf, Cond.instanceMethod yX2_rankOf, Cond.initialized RX2, Cond.code yX2_rankOf cX2_rankOf 5 (some .int)]
def wsX5_rank_r2 : List Cond := [Cond.fieldLink RX2 7 "ColourForests$LimitKind" "graph" "LColourForests$Graph;", Cond.sameField "ColourForests$LimitKind" "ColourForests$Kind" "graph" "LColourForests$Graph;", Cond.fieldLink RX2 19 "ColourForests$Graph" "edges" "I", Cond.methodLink RX2 13 yX0_fullRoom, Cond.instanceMethod yX0_fullRoom, Cond.selects RX0 yX0_fullRoom yX0_fullRoom, Cond.code yX0_fullRoom cX0_fullRoom 3 (some .int), Cond.fieldLink RX0 31 "ColourForests$Graph" "colours" "I", Cond.fieldLink RX0 9 "ColourForests$Graph" "limits" "[I", Cond.static yX5_withCell, Cond.code yX5_withCell cX5_withCell 4 (some .int), Cond.static yX5_hasBit, Cond.code yX5_hasBit cX5_hasBit 2 (some .boolean), Cond.methodLink RX2 29 yX0_hasRoom, Cond.instanceMethod yX0_hasRoom, Cond.selects RX0 yX0_hasRoom yX0_hasRoom, Cond.code yX0_hasRoom cX0_hasRoom 3 (some .boolean), Cond.fieldLink RX0 21 "ColourForests$Graph" "hues" "[I", Cond.static yX5_cell, Cond.code yX5_cell cX5_cell 2 (some .int), Cond.methodLink RX2 32 yX0_roomAfter, Cond.instanceMethod yX0_roomAfter, Cond.selects RX0 yX0_roomAfter yX0_roomAfter, Cond.code yX0_roomAfter cX0_roomAfter 3 (some .int)]
def wsX5_rank_r3 : List Cond := [Cond.selects RX3 ⟨"ColourForests$Kind", "rankOf", "(I)I"⟩ yX3_rankOf, Cond.instanceMethod yX3_rankOf, Cond.initialized RX3, Cond.code yX3_rankOf cX3_rankOf 5 (some .int), Cond.fieldLink RX3 7 "ColourForests$RinglessKind" "graph" "LColourForests$Graph;", Cond.sameField "ColourForests$RinglessKind" "ColourForests$Kind" "graph" "LColourForests$Graph;", Cond.fieldLink RX3 19 "ColourForests$Graph" "edges" "I", Cond.methodLink RX3 13 yX0_loneParts, Cond.instanceMethod yX0_loneParts, Cond.selects RX0 yX0_loneParts yX0_loneParts, Cond.code yX0_loneParts cX0_loneParts 3 (some .int), Cond.fieldLink RX0 27 "ColourForests$Graph" "vertices" "I", Cond.methodLink RX3 29 yX0_joinsTwoParts, Cond.instanceMethod yX0_joinsTwoParts, Cond.selects RX0 yX0_joinsTwoParts yX0_joinsTwoParts, Cond.code yX0_joinsTwoParts cX0_joinsTwoParts 3 (some .boolean), Cond.fieldLink RX0 15 "ColourForests$Graph" "firstEnds" "[I", Cond.fieldLink RX0 18 "ColourForests$Graph" "secondEnds" "[I", Cond.methodLink RX3 32 yX0_partsJoinedBy, Cond.instanceMethod yX0_partsJoinedBy, Cond.selects RX0 yX0_partsJoinedBy yX0_partsJoinedBy, Cond.code yX0_partsJoinedBy cX0_partsJoinedBy 7 (some .int)]
def wsX5_rank : List Cond := .code yX5_rank cX5_rank 4 (some .int) :: ((wsX5_rank_r1 ++ (wsX5_rank_r2 ++ wsX5_rank_r3)) ++ wsX50 ++ wsX00 ++ wsX20 ++ wsX30)
def wsX5_isCommon_r1 : List Cond := [Cond.fieldLink RX5 21 "ColourForests" "ringless" "LColourForests$Kind;", Cond.fieldLink RX5 28 "ColourForests" "withinLimits" "LColourForests$Kind;", Cond.methodLink RX5 126 ⟨"ColourForests$Kind", "allows", "(I)Z"⟩, Cond.sameMethod "ColourForests$Kind" "ColourForests$Kind" "allows" "(I)Z", Cond.selects RX2 ⟨"ColourForests$Kind", "allows", "(I)Z"⟩ yX1_allows, Cond.instanceMethod yX1_allows, Cond.initialized RX1, Cond.code yX1_allows cX1_allows 2 (some .boolean), Cond.methodLink RX1 13 ⟨"ColourForests$Kind", "rankOf", "(I)I"⟩, Cond.sameMethod "ColourForests$Kind" "ColourForests$Kind" "rankOf" "(I)I", Cond.selects RX2 ⟨"ColourForests$Kind", "rankOf", "(I)I"⟩ yX2_rankOf, Cond.instanceMethod yX2_rankOf, Cond.initialized RX2, Cond.code yX2_rankOf cX2_rankOf 5 (some .int), Cond.fieldLink RX2 7 "ColourForests$LimitKind" "graph" "LColourForests$Graph;", Cond.sameField "ColourForests$LimitKind" "ColourForests$Kind" "graph" "LColourForests$Graph;", Cond.fieldLink RX2 19 "ColourForests$Graph" "edges" "I", Cond.methodLink RX2 13 yX0_fullRoom, Cond.instanceMethod yX0_fullRoom, Cond.selects RX0 yX0_fullRoom yX0_fullRoom, Cond.initialized RX0, Cond.code yX0_fullRoom cX0_fullRoom 3 (some .int), Cond.fieldLink RX0 31 "ColourForests$Graph" "colours" "I", Cond.fieldLink RX0 9 "ColourForests$Graph" "limits" "[I"]
def wsX5_isCommon_r2 : List Cond := [Cond.static yX5_withCell, Cond.initialized RX5, Cond.code yX5_withCell cX5_withCell 4 (some .int), Cond.static yX5_hasBit, Cond.code yX5_hasBit cX5_hasBit 2 (some .boolean), Cond.methodLink RX2 29 yX0_hasRoom, Cond.instanceMethod yX0_hasRoom, Cond.selects RX0 yX0_hasRoom yX0_hasRoom, Cond.code yX0_hasRoom cX0_hasRoom 3 (some .boolean), Cond.fieldLink RX0 21 "ColourForests$Graph" "hues" "[I", Cond.static yX5_cell, Cond.code yX5_cell cX5_cell 2 (some .int), Cond.methodLink RX2 32 yX0_roomAfter, Cond.instanceMethod yX0_roomAfter, Cond.selects RX0 yX0_roomAfter yX0_roomAfter, Cond.code yX0_roomAfter cX0_roomAfter 3 (some .int), Cond.selects RX3 ⟨"ColourForests$Kind", "rankOf", "(I)I"⟩ yX3_rankOf, Cond.instanceMethod yX3_rankOf, Cond.initialized RX3, Cond.code yX3_rankOf cX3_rankOf 5 (some .int), Cond.fieldLink RX3 7 "ColourForests$RinglessKind" "graph" "LColourForests$Graph;", Cond.sameField "ColourForests$RinglessKind" "ColourForests$Kind" "graph" "LColourForests$Graph;", Cond.fieldLink RX3 19 "ColourForests$Graph" "edges" "I", Cond.methodLink RX3 13 yX0_loneParts]
def wsX5_isCommon_r3 : List Cond := [Cond.instanceMethod yX0_loneParts, Cond.selects RX0 yX0_loneParts yX0_loneParts, Cond.code yX0_loneParts cX0_loneParts 3 (some .int), Cond.fieldLink RX0 27 "ColourForests$Graph" "vertices" "I", Cond.methodLink RX3 29 yX0_joinsTwoParts, Cond.instanceMethod yX0_joinsTwoParts, Cond.selects RX0 yX0_joinsTwoParts yX0_joinsTwoParts, Cond.code yX0_joinsTwoParts cX0_joinsTwoParts 3 (some .boolean), Cond.fieldLink RX0 15 "ColourForests$Graph" "firstEnds" "[I", Cond.fieldLink RX0 18 "ColourForests$Graph" "secondEnds" "[I", Cond.methodLink RX3 32 yX0_partsJoinedBy, Cond.instanceMethod yX0_partsJoinedBy, Cond.selects RX0 yX0_partsJoinedBy yX0_partsJoinedBy, Cond.code yX0_partsJoinedBy cX0_partsJoinedBy 7 (some .int), Cond.methodLink RX1 17 yJ6_bitCount_0f7a4, Cond.static yJ6_bitCount_0f7a4, Cond.initialized RJ6, Cond.code yJ6_bitCount_0f7a4 cJ6_bitCount_0f7a4 1 (some .int), Cond.constant RJ6 265 (1431655765), Cond.constant RJ6 266 (858993459), Cond.constant RJ6 267 (252645135), Cond.selects RX3 ⟨"ColourForests$Kind", "allows", "(I)Z"⟩ yX1_allows]
def wsX5_isCommon : List Cond := .code yX5_isCommon cX5_isCommon 2 (some .boolean) :: ((wsX5_isCommon_r1 ++ (wsX5_isCommon_r2 ++ wsX5_isCommon_r3)) ++ wsX50 ++ wsX20 ++ wsX30 ++ wsX00)
def wsX5_told : List Cond := .code yX5_told cX5_told 1 (some .int) :: ([])
def wsX5_free_r1 : List Cond := [Cond.fieldLink RX5 10 "ColourForests" "graph" "LColourForests$Graph;", Cond.methodLink RX5 110 yX0_hasSet, Cond.instanceMethod yX0_hasSet, Cond.selects RX0 yX0_hasSet yX0_hasSet, Cond.initialized RX0, Cond.code yX0_hasSet cX0_hasSet 2 (some .boolean), Cond.methodLink RX0 50 yX0_allEdges, Cond.instanceMethod yX0_allEdges, Cond.selects RX0 yX0_allEdges yX0_allEdges, Cond.code yX0_allEdges cX0_allEdges 1 (some .int), Cond.fieldLink RX0 34 "ColourForests$Graph" "edges" "I", Cond.methodLink RX5 119 yX5_isCommon, Cond.instanceMethod yX5_isCommon, Cond.selects RX5 yX5_isCommon yX5_isCommon, Cond.initialized RX5, Cond.code yX5_isCommon cX5_isCommon 2 (some .boolean), Cond.fieldLink RX5 21 "ColourForests" "ringless" "LColourForests$Kind;", Cond.fieldLink RX5 28 "ColourForests" "withinLimits" "LColourForests$Kind;", Cond.methodLink RX5 126 ⟨"ColourForests$Kind", "allows", "(I)Z"⟩, Cond.sameMethod "ColourForests$Kind" "ColourForests$Kind" "allows" "(I)Z", Cond.selects RX2 ⟨"ColourForests$Kind", "allows", "(I)Z"⟩ yX1_allows, Cond.instanceMethod yX1_allows, Cond.initialized RX1, Cond.code yX1_allows cX1_allows 2 (some .boolean)]
def wsX5_free_r2 : List Cond := [Cond.methodLink RX1 13 ⟨"ColourForests$Kind", "rankOf", "(I)I"⟩, Cond.sameMethod "ColourForests$Kind" "ColourForests$Kind" "rankOf" "(I)I", Cond.selects RX2 ⟨"ColourForests$Kind", "rankOf", "(I)I"⟩ yX2_rankOf, Cond.instanceMethod yX2_rankOf, Cond.initialized RX2, Cond.code yX2_rankOf cX2_rankOf 5 (some .int), Cond.fieldLink RX2 7 "ColourForests$LimitKind" "graph" "LColourForests$Graph;", Cond.sameField "ColourForests$LimitKind" "ColourForests$Kind" "graph" "LColourForests$Graph;", Cond.fieldLink RX2 19 "ColourForests$Graph" "edges" "I", Cond.methodLink RX2 13 yX0_fullRoom, Cond.instanceMethod yX0_fullRoom, Cond.selects RX0 yX0_fullRoom yX0_fullRoom, Cond.code yX0_fullRoom cX0_fullRoom 3 (some .int), Cond.fieldLink RX0 31 "ColourForests$Graph" "colours" "I", Cond.fieldLink RX0 9 "ColourForests$Graph" "limits" "[I", Cond.static yX5_withCell, Cond.code yX5_withCell cX5_withCell 4 (some .int), Cond.static yX5_hasBit, Cond.code yX5_hasBit cX5_hasBit 2 (some .boolean), Cond.methodLink RX2 29 yX0_hasRoom, Cond.instanceMethod yX0_hasRoom, Cond.selects RX0 yX0_hasRoom yX0_hasRoom, Cond.code yX0_hasRoom cX0_hasRoom 3 (some .boolean), Cond.fieldLink RX0 21 "ColourForests$Graph" "hues" "[I"]
def wsX5_free_r3 : List Cond := [Cond.static yX5_cell, Cond.code yX5_cell cX5_cell 2 (some .int), Cond.methodLink RX2 32 yX0_roomAfter, Cond.instanceMethod yX0_roomAfter, Cond.selects RX0 yX0_roomAfter yX0_roomAfter, Cond.code yX0_roomAfter cX0_roomAfter 3 (some .int), Cond.selects RX3 ⟨"ColourForests$Kind", "rankOf", "(I)I"⟩ yX3_rankOf, Cond.instanceMethod yX3_rankOf, Cond.initialized RX3, Cond.code yX3_rankOf cX3_rankOf 5 (some .int), Cond.fieldLink RX3 7 "ColourForests$RinglessKind" "graph" "LColourForests$Graph;", Cond.sameField "ColourForests$RinglessKind" "ColourForests$Kind" "graph" "LColourForests$Graph;", Cond.fieldLink RX3 19 "ColourForests$Graph" "edges" "I", Cond.methodLink RX3 13 yX0_loneParts, Cond.instanceMethod yX0_loneParts, Cond.selects RX0 yX0_loneParts yX0_loneParts, Cond.code yX0_loneParts cX0_loneParts 3 (some .int), Cond.fieldLink RX0 27 "ColourForests$Graph" "vertices" "I", Cond.methodLink RX3 29 yX0_joinsTwoParts, Cond.instanceMethod yX0_joinsTwoParts, Cond.selects RX0 yX0_joinsTwoParts yX0_joinsTwoParts, Cond.code yX0_joinsTwoParts cX0_joinsTwoParts 3 (some .boolean), Cond.fieldLink RX0 15 "ColourForests$Graph" "firstEnds" "[I", Cond.fieldLink RX0 18 "ColourForests$Graph" "secondEnds" "[I"]
def wsX5_free_r4 : List Cond := [Cond.methodLink RX3 32 yX0_partsJoinedBy, Cond.instanceMethod yX0_partsJoinedBy, Cond.selects RX0 yX0_partsJoinedBy yX0_partsJoinedBy, Cond.code yX0_partsJoinedBy cX0_partsJoinedBy 7 (some .int), Cond.methodLink RX1 17 yJ6_bitCount_0f7a4, Cond.static yJ6_bitCount_0f7a4, Cond.initialized RJ6, Cond.code yJ6_bitCount_0f7a4 cJ6_bitCount_0f7a4 1 (some .int), Cond.constant RJ6 265 (1431655765), Cond.constant RJ6 266 (858993459), Cond.constant RJ6 267 (252645135), Cond.selects RX3 ⟨"ColourForests$Kind", "allows", "(I)Z"⟩ yX1_allows, Cond.methodLink RX5 122 yX5_told, Cond.static yX5_told, Cond.code yX5_told cX5_told 1 (some .int), Cond.methodLink RX5 106 yX5_judgeOf, Cond.instanceMethod yX5_judgeOf, Cond.selects RX5 yX5_judgeOf yX5_judgeOf, Cond.code yX5_judgeOf cX5_judgeOf 2 (some (.object "ColourForests$Kind"))]
def wsX5_free : List Cond := .code yX5_free cX5_free 4 (some .int) :: ((wsX5_free_r1 ++ (wsX5_free_r2 ++ (wsX5_free_r3 ++ wsX5_free_r4))) ++ wsX50 ++ wsX00 ++ wsX20 ++ wsX30)
def wsX5_circuit_r1 : List Cond := [Cond.fieldLink RX5 10 "ColourForests" "graph" "LColourForests$Graph;", Cond.methodLink RX5 106 yX5_judgeOf, Cond.instanceMethod yX5_judgeOf, Cond.selects RX5 yX5_judgeOf yX5_judgeOf, Cond.initialized RX5, Cond.code yX5_judgeOf cX5_judgeOf 2 (some (.object "ColourForests$Kind")), Cond.fieldLink RX5 21 "ColourForests" "ringless" "LColourForests$Kind;", Cond.fieldLink RX5 28 "ColourForests" "withinLimits" "LColourForests$Kind;", Cond.methodLink RX5 81 yX0_hasEdge, Cond.instanceMethod yX0_hasEdge, Cond.selects RX0 yX0_hasEdge yX0_hasEdge, Cond.initialized RX0, Cond.code yX0_hasEdge cX0_hasEdge 2 (some .boolean), Cond.fieldLink RX0 34 "ColourForests$Graph" "edges" "I", Cond.static yX5_within, Cond.code yX5_within cX5_within 3 (some .boolean), Cond.methodLink RX5 110 yX0_hasSet, Cond.instanceMethod yX0_hasSet, Cond.selects RX0 yX0_hasSet yX0_hasSet, Cond.code yX0_hasSet cX0_hasSet 2 (some .boolean), Cond.methodLink RX0 50 yX0_allEdges, Cond.instanceMethod yX0_allEdges, Cond.selects RX0 yX0_allEdges yX0_allEdges, Cond.code yX0_allEdges cX0_allEdges 1 (some .int)]
def wsX5_circuit_r2 : List Cond := [Cond.methodLink RX5 126 ⟨"ColourForests$Kind", "allows", "(I)Z"⟩, Cond.sameMethod "ColourForests$Kind" "ColourForests$Kind" "allows" "(I)Z", Cond.selects RX2 ⟨"ColourForests$Kind", "allows", "(I)Z"⟩ yX1_allows, Cond.instanceMethod yX1_allows, Cond.initialized RX1, Cond.code yX1_allows cX1_allows 2 (some .boolean), Cond.methodLink RX1 13 ⟨"ColourForests$Kind", "rankOf", "(I)I"⟩, Cond.sameMethod "ColourForests$Kind" "ColourForests$Kind" "rankOf" "(I)I", Cond.selects RX2 ⟨"ColourForests$Kind", "rankOf", "(I)I"⟩ yX2_rankOf, Cond.instanceMethod yX2_rankOf, Cond.initialized RX2, Cond.code yX2_rankOf cX2_rankOf 5 (some .int), Cond.fieldLink RX2 7 "ColourForests$LimitKind" "graph" "LColourForests$Graph;", Cond.sameField "ColourForests$LimitKind" "ColourForests$Kind" "graph" "LColourForests$Graph;", Cond.fieldLink RX2 19 "ColourForests$Graph" "edges" "I", Cond.methodLink RX2 13 yX0_fullRoom, Cond.instanceMethod yX0_fullRoom, Cond.selects RX0 yX0_fullRoom yX0_fullRoom, Cond.code yX0_fullRoom cX0_fullRoom 3 (some .int), Cond.fieldLink RX0 31 "ColourForests$Graph" "colours" "I", Cond.fieldLink RX0 9 "ColourForests$Graph" "limits" "[I", Cond.static yX5_withCell, Cond.code yX5_withCell cX5_withCell 4 (some .int), Cond.static yX5_hasBit]
def wsX5_circuit_r3 : List Cond := [Cond.code yX5_hasBit cX5_hasBit 2 (some .boolean), Cond.methodLink RX2 29 yX0_hasRoom, Cond.instanceMethod yX0_hasRoom, Cond.selects RX0 yX0_hasRoom yX0_hasRoom, Cond.code yX0_hasRoom cX0_hasRoom 3 (some .boolean), Cond.fieldLink RX0 21 "ColourForests$Graph" "hues" "[I", Cond.static yX5_cell, Cond.code yX5_cell cX5_cell 2 (some .int), Cond.methodLink RX2 32 yX0_roomAfter, Cond.instanceMethod yX0_roomAfter, Cond.selects RX0 yX0_roomAfter yX0_roomAfter, Cond.code yX0_roomAfter cX0_roomAfter 3 (some .int), Cond.selects RX3 ⟨"ColourForests$Kind", "rankOf", "(I)I"⟩ yX3_rankOf, Cond.instanceMethod yX3_rankOf, Cond.initialized RX3, Cond.code yX3_rankOf cX3_rankOf 5 (some .int), Cond.fieldLink RX3 7 "ColourForests$RinglessKind" "graph" "LColourForests$Graph;", Cond.sameField "ColourForests$RinglessKind" "ColourForests$Kind" "graph" "LColourForests$Graph;", Cond.fieldLink RX3 19 "ColourForests$Graph" "edges" "I", Cond.methodLink RX3 13 yX0_loneParts, Cond.instanceMethod yX0_loneParts, Cond.selects RX0 yX0_loneParts yX0_loneParts, Cond.code yX0_loneParts cX0_loneParts 3 (some .int), Cond.fieldLink RX0 27 "ColourForests$Graph" "vertices" "I"]
def wsX5_circuit_r4 : List Cond := [Cond.methodLink RX3 29 yX0_joinsTwoParts, Cond.instanceMethod yX0_joinsTwoParts, Cond.selects RX0 yX0_joinsTwoParts yX0_joinsTwoParts, Cond.code yX0_joinsTwoParts cX0_joinsTwoParts 3 (some .boolean), Cond.fieldLink RX0 15 "ColourForests$Graph" "firstEnds" "[I", Cond.fieldLink RX0 18 "ColourForests$Graph" "secondEnds" "[I", Cond.methodLink RX3 32 yX0_partsJoinedBy, Cond.instanceMethod yX0_partsJoinedBy, Cond.selects RX0 yX0_partsJoinedBy yX0_partsJoinedBy, Cond.code yX0_partsJoinedBy cX0_partsJoinedBy 7 (some .int), Cond.methodLink RX1 17 yJ6_bitCount_0f7a4, Cond.static yJ6_bitCount_0f7a4, Cond.initialized RJ6, Cond.code yJ6_bitCount_0f7a4 cJ6_bitCount_0f7a4 1 (some .int), Cond.constant RJ6 265 (1431655765), Cond.constant RJ6 266 (858993459), Cond.constant RJ6 267 (252645135), Cond.selects RX3 ⟨"ColourForests$Kind", "allows", "(I)Z"⟩ yX1_allows, Cond.methodLink RX5 129 yX5_hasBit, Cond.methodLink RX5 133 ⟨"ColourForests$Kind", "circuitWithin", "(I)I"⟩, Cond.sameMethod "ColourForests$Kind" "ColourForests$Kind" "circuitWithin" "(I)I", Cond.selects RX2 ⟨"ColourForests$Kind", "circuitWithin", "(I)I"⟩ yX1_circuitWithin, Cond.instanceMethod yX1_circuitWithin, Cond.code yX1_circuitWithin cX1_circuitWithin 6 (some .int)]
def wsX5_circuit_r5 : List Cond := [Cond.fieldLink RX1 7 "ColourForests$Kind" "graph" "LColourForests$Graph;", Cond.fieldLink RX1 22 "ColourForests$Graph" "edges" "I", Cond.selects RX3 ⟨"ColourForests$Kind", "circuitWithin", "(I)I"⟩ yX1_circuitWithin]
def wsX5_circuit : List Cond := .code yX5_circuit cX5_circuit 5 (some .int) :: ((wsX5_circuit_r1 ++ (wsX5_circuit_r2 ++ (wsX5_circuit_r3 ++ (wsX5_circuit_r4 ++ wsX5_circuit_r5)))) ++ wsX50 ++ wsX00 ++ wsX20 ++ wsX30)
def wsX5_closure_r1 : List Cond := [Cond.fieldLink RX5 10 "ColourForests" "graph" "LColourForests$Graph;", Cond.methodLink RX5 106 yX5_judgeOf, Cond.instanceMethod yX5_judgeOf, Cond.selects RX5 yX5_judgeOf yX5_judgeOf, Cond.initialized RX5, Cond.code yX5_judgeOf cX5_judgeOf 2 (some (.object "ColourForests$Kind")), Cond.fieldLink RX5 21 "ColourForests" "ringless" "LColourForests$Kind;", Cond.fieldLink RX5 28 "ColourForests" "withinLimits" "LColourForests$Kind;", Cond.methodLink RX5 110 yX0_hasSet, Cond.instanceMethod yX0_hasSet, Cond.selects RX0 yX0_hasSet yX0_hasSet, Cond.initialized RX0, Cond.code yX0_hasSet cX0_hasSet 2 (some .boolean), Cond.methodLink RX0 50 yX0_allEdges, Cond.instanceMethod yX0_allEdges, Cond.selects RX0 yX0_allEdges yX0_allEdges, Cond.code yX0_allEdges cX0_allEdges 1 (some .int), Cond.fieldLink RX0 34 "ColourForests$Graph" "edges" "I", Cond.methodLink RX5 136 ⟨"ColourForests$Kind", "closureOf", "(I)I"⟩, Cond.sameMethod "ColourForests$Kind" "ColourForests$Kind" "closureOf" "(I)I", Cond.selects RX2 ⟨"ColourForests$Kind", "closureOf", "(I)I"⟩ yX1_closureOf, Cond.instanceMethod yX1_closureOf, Cond.initialized RX1, Cond.code yX1_closureOf cX1_closureOf 6 (some .int)]
def wsX5_closure_r2 : List Cond := [Cond.fieldLink RX1 7 "ColourForests$Kind" "graph" "LColourForests$Graph;", Cond.fieldLink RX1 22 "ColourForests$Graph" "edges" "I", Cond.methodLink RX1 13 ⟨"ColourForests$Kind", "rankOf", "(I)I"⟩, Cond.sameMethod "ColourForests$Kind" "ColourForests$Kind" "rankOf" "(I)I", Cond.selects RX2 ⟨"ColourForests$Kind", "rankOf", "(I)I"⟩ yX2_rankOf, Cond.instanceMethod yX2_rankOf, Cond.initialized RX2, Cond.code yX2_rankOf cX2_rankOf 5 (some .int), Cond.fieldLink RX2 7 "ColourForests$LimitKind" "graph" "LColourForests$Graph;", Cond.sameField "ColourForests$LimitKind" "ColourForests$Kind" "graph" "LColourForests$Graph;", Cond.fieldLink RX2 19 "ColourForests$Graph" "edges" "I", Cond.methodLink RX2 13 yX0_fullRoom, Cond.instanceMethod yX0_fullRoom, Cond.selects RX0 yX0_fullRoom yX0_fullRoom, Cond.code yX0_fullRoom cX0_fullRoom 3 (some .int), Cond.fieldLink RX0 31 "ColourForests$Graph" "colours" "I", Cond.fieldLink RX0 9 "ColourForests$Graph" "limits" "[I", Cond.static yX5_withCell, Cond.code yX5_withCell cX5_withCell 4 (some .int), Cond.static yX5_hasBit, Cond.code yX5_hasBit cX5_hasBit 2 (some .boolean), Cond.methodLink RX2 29 yX0_hasRoom, Cond.instanceMethod yX0_hasRoom, Cond.selects RX0 yX0_hasRoom yX0_hasRoom]
def wsX5_closure_r3 : List Cond := [Cond.code yX0_hasRoom cX0_hasRoom 3 (some .boolean), Cond.fieldLink RX0 21 "ColourForests$Graph" "hues" "[I", Cond.static yX5_cell, Cond.code yX5_cell cX5_cell 2 (some .int), Cond.methodLink RX2 32 yX0_roomAfter, Cond.instanceMethod yX0_roomAfter, Cond.selects RX0 yX0_roomAfter yX0_roomAfter, Cond.code yX0_roomAfter cX0_roomAfter 3 (some .int), Cond.selects RX3 ⟨"ColourForests$Kind", "rankOf", "(I)I"⟩ yX3_rankOf, Cond.instanceMethod yX3_rankOf, Cond.initialized RX3, Cond.code yX3_rankOf cX3_rankOf 5 (some .int), Cond.fieldLink RX3 7 "ColourForests$RinglessKind" "graph" "LColourForests$Graph;", Cond.sameField "ColourForests$RinglessKind" "ColourForests$Kind" "graph" "LColourForests$Graph;", Cond.fieldLink RX3 19 "ColourForests$Graph" "edges" "I", Cond.methodLink RX3 13 yX0_loneParts, Cond.instanceMethod yX0_loneParts, Cond.selects RX0 yX0_loneParts yX0_loneParts, Cond.code yX0_loneParts cX0_loneParts 3 (some .int), Cond.fieldLink RX0 27 "ColourForests$Graph" "vertices" "I", Cond.methodLink RX3 29 yX0_joinsTwoParts, Cond.instanceMethod yX0_joinsTwoParts, Cond.selects RX0 yX0_joinsTwoParts yX0_joinsTwoParts, Cond.code yX0_joinsTwoParts cX0_joinsTwoParts 3 (some .boolean)]
def wsX5_closure_r4 : List Cond := [Cond.fieldLink RX0 15 "ColourForests$Graph" "firstEnds" "[I", Cond.fieldLink RX0 18 "ColourForests$Graph" "secondEnds" "[I", Cond.methodLink RX3 32 yX0_partsJoinedBy, Cond.instanceMethod yX0_partsJoinedBy, Cond.selects RX0 yX0_partsJoinedBy yX0_partsJoinedBy, Cond.code yX0_partsJoinedBy cX0_partsJoinedBy 7 (some .int), Cond.selects RX3 ⟨"ColourForests$Kind", "closureOf", "(I)I"⟩ yX1_closureOf]
def wsX5_closure : List Cond := .code yX5_closure cX5_closure 4 (some .int) :: ((wsX5_closure_r1 ++ (wsX5_closure_r2 ++ (wsX5_closure_r3 ++ wsX5_closure_r4))) ++ wsX50 ++ wsX00 ++ wsX20 ++ wsX30)
def wsX5_most_r1 : List Cond := [Cond.fieldLink RX5 34 "ColourForests" "survey" "LColourForests$Survey;", Cond.fieldLink RX5 139 "ColourForests$Survey" "most" "I", Cond.methodLink RX5 97 yX4_refresh, Cond.instanceMethod yX4_refresh, Cond.selects RX4 yX4_refresh yX4_refresh, Cond.initialized RX4, Cond.code yX4_refresh cX4_refresh 1 none, Cond.fieldLink RX4 11 "ColourForests$Survey" "changesSeen" "I", Cond.fieldLink RX4 31 "ColourForests$Survey" "graph" "LColourForests$Graph;", Cond.fieldLink RX4 42 "ColourForests$Graph" "changes" "I", Cond.methodLink RX4 47 yX4_walk, Cond.instanceMethod yX4_walk, Cond.selects RX4 yX4_walk yX4_walk, Cond.code yX4_walk cX4_walk 5 none, Cond.fieldLink RX4 53 "ColourForests$Graph" "edges" "I", Cond.methodLink RX4 50 yX4_begin, Cond.instanceMethod yX4_begin, Cond.selects RX4 yX4_begin yX4_begin, Cond.code yX4_begin cX4_begin 1 none, Cond.fieldLink RX4 22 "ColourForests$Survey" "partsFrom" "[I", Cond.fieldLink RX4 25 "ColourForests$Survey" "roomFrom" "[I", Cond.fieldLink RX4 28 "ColourForests$Survey" "weightFrom" "[I", Cond.fieldLink RX4 80 "ColourForests$Survey" "widest" "I", Cond.fieldLink RX4 83 "ColourForests$Survey" "widestForests" "I"]
def wsX5_most_r2 : List Cond := [Cond.fieldLink RX4 86 "ColourForests$Survey" "commonSets" "I", Cond.fieldLink RX4 35 "ColourForests$Survey" "most" "I", Cond.fieldLink RX4 15 "ColourForests$Survey" "dearestSets" "[I", Cond.fieldLink RX4 19 "ColourForests$Survey" "dearestWeights" "[I", Cond.methodLink RX4 73 yX0_loneParts, Cond.instanceMethod yX0_loneParts, Cond.selects RX0 yX0_loneParts yX0_loneParts, Cond.initialized RX0, Cond.code yX0_loneParts cX0_loneParts 3 (some .int), Cond.fieldLink RX0 27 "ColourForests$Graph" "vertices" "I", Cond.static yX5_withCell, Cond.initialized RX5, Cond.code yX5_withCell cX5_withCell 4 (some .int), Cond.methodLink RX4 77 yX0_fullRoom, Cond.instanceMethod yX0_fullRoom, Cond.selects RX0 yX0_fullRoom yX0_fullRoom, Cond.code yX0_fullRoom cX0_fullRoom 3 (some .int), Cond.fieldLink RX0 31 "ColourForests$Graph" "colours" "I", Cond.fieldLink RX0 9 "ColourForests$Graph" "limits" "[I", Cond.methodLink RX4 56 yJ6_numberOfTrailingZeros_0f7a4, Cond.static yJ6_numberOfTrailingZeros_0f7a4, Cond.initialized RJ6, Cond.code yJ6_numberOfTrailingZeros_0f7a4 cJ6_numberOfTrailingZeros_0f7a4 2 (some .int), Cond.constant RJ6 264 (65536)]
def wsX5_most_r3 : List Cond := [Cond.methodLink RX4 62 yX4_placeAbove, Cond.instanceMethod yX4_placeAbove, Cond.selects RX4 yX4_placeAbove yX4_placeAbove, Cond.code yX4_placeAbove cX4_placeAbove 3 (some .int), Cond.methodLink RX4 65 yX4_enter, Cond.instanceMethod yX4_enter, Cond.selects RX4 yX4_enter yX4_enter, Cond.code yX4_enter cX4_enter 5 (some .boolean), Cond.fieldLink RX4 102 "ColourForests$Graph" "weights" "[I", Cond.methodLink RX4 89 yX0_joinsTwoParts, Cond.instanceMethod yX0_joinsTwoParts, Cond.selects RX0 yX0_joinsTwoParts yX0_joinsTwoParts, Cond.code yX0_joinsTwoParts cX0_joinsTwoParts 3 (some .boolean), Cond.fieldLink RX0 15 "ColourForests$Graph" "firstEnds" "[I", Cond.fieldLink RX0 18 "ColourForests$Graph" "secondEnds" "[I", Cond.static yX5_cell, Cond.code yX5_cell cX5_cell 2 (some .int), Cond.methodLink RX4 92 yX0_partsJoinedBy, Cond.instanceMethod yX0_partsJoinedBy, Cond.selects RX0 yX0_partsJoinedBy yX0_partsJoinedBy, Cond.code yX0_partsJoinedBy cX0_partsJoinedBy 7 (some .int), Cond.methodLink RX4 96 yX0_hasRoom, Cond.instanceMethod yX0_hasRoom, Cond.selects RX0 yX0_hasRoom yX0_hasRoom]
def wsX5_most_r4 : List Cond := [Cond.code yX0_hasRoom cX0_hasRoom 3 (some .boolean), Cond.fieldLink RX0 21 "ColourForests$Graph" "hues" "[I", Cond.methodLink RX4 99 yX0_roomAfter, Cond.instanceMethod yX0_roomAfter, Cond.selects RX0 yX0_roomAfter yX0_roomAfter, Cond.code yX0_roomAfter cX0_roomAfter 3 (some .int), Cond.methodLink RX4 69 yX4_note, Cond.instanceMethod yX4_note, Cond.selects RX4 yX4_note yX4_note, Cond.code yX4_note cX4_note 4 none, Cond.methodLink RX4 105 yJ6_bitCount_0f7a4, Cond.static yJ6_bitCount_0f7a4, Cond.code yJ6_bitCount_0f7a4 cJ6_bitCount_0f7a4 1 (some .int), Cond.constant RJ6 265 (1431655765), Cond.constant RJ6 266 (858993459), Cond.constant RJ6 267 (252645135), Cond.methodLink RX4 108 yX4_noteForest, Cond.instanceMethod yX4_noteForest, Cond.selects RX4 yX4_noteForest yX4_noteForest, Cond.code yX4_noteForest cX4_noteForest 2 none, Cond.methodLink RX4 112 yX4_noteCommon, Cond.instanceMethod yX4_noteCommon, Cond.selects RX4 yX4_noteCommon yX4_noteCommon, Cond.code yX4_noteCommon cX4_noteCommon 4 none]
def wsX5_most_r5 : List Cond := [Cond.methodLink RX4 116 Lib.Math.max.name, Cond.static Lib.Math.max.name, Cond.initialized "java/lang/Math", Cond.code Lib.Math.max.name Lib.Math.max.code 2 (some .int)]
def wsX5_most : List Cond := .code yX5_most cX5_most 1 (some .int) :: ((wsX5_most_r1 ++ (wsX5_most_r2 ++ (wsX5_most_r3 ++ (wsX5_most_r4 ++ wsX5_most_r5)))) ++ wsX50 ++ wsX40 ++ wsX00)
def wsX5_dearest_r1 : List Cond := [Cond.fieldLink RX5 34 "ColourForests" "survey" "LColourForests$Survey;", Cond.fieldLink RX5 145 "ColourForests$Survey" "dearestSets" "[I", Cond.methodLink RX5 97 yX4_refresh, Cond.instanceMethod yX4_refresh, Cond.selects RX4 yX4_refresh yX4_refresh, Cond.initialized RX4, Cond.code yX4_refresh cX4_refresh 1 none, Cond.fieldLink RX4 11 "ColourForests$Survey" "changesSeen" "I", Cond.fieldLink RX4 31 "ColourForests$Survey" "graph" "LColourForests$Graph;", Cond.fieldLink RX4 42 "ColourForests$Graph" "changes" "I", Cond.methodLink RX4 47 yX4_walk, Cond.instanceMethod yX4_walk, Cond.selects RX4 yX4_walk yX4_walk, Cond.code yX4_walk cX4_walk 5 none, Cond.fieldLink RX4 53 "ColourForests$Graph" "edges" "I", Cond.methodLink RX4 50 yX4_begin, Cond.instanceMethod yX4_begin, Cond.selects RX4 yX4_begin yX4_begin, Cond.code yX4_begin cX4_begin 1 none, Cond.fieldLink RX4 22 "ColourForests$Survey" "partsFrom" "[I", Cond.fieldLink RX4 25 "ColourForests$Survey" "roomFrom" "[I", Cond.fieldLink RX4 28 "ColourForests$Survey" "weightFrom" "[I", Cond.fieldLink RX4 80 "ColourForests$Survey" "widest" "I", Cond.fieldLink RX4 83 "ColourForests$Survey" "widestForests" "I"]
def wsX5_dearest_r2 : List Cond := [Cond.fieldLink RX4 86 "ColourForests$Survey" "commonSets" "I", Cond.fieldLink RX4 35 "ColourForests$Survey" "most" "I", Cond.fieldLink RX4 15 "ColourForests$Survey" "dearestSets" "[I", Cond.fieldLink RX4 19 "ColourForests$Survey" "dearestWeights" "[I", Cond.methodLink RX4 73 yX0_loneParts, Cond.instanceMethod yX0_loneParts, Cond.selects RX0 yX0_loneParts yX0_loneParts, Cond.initialized RX0, Cond.code yX0_loneParts cX0_loneParts 3 (some .int), Cond.fieldLink RX0 27 "ColourForests$Graph" "vertices" "I", Cond.static yX5_withCell, Cond.initialized RX5, Cond.code yX5_withCell cX5_withCell 4 (some .int), Cond.methodLink RX4 77 yX0_fullRoom, Cond.instanceMethod yX0_fullRoom, Cond.selects RX0 yX0_fullRoom yX0_fullRoom, Cond.code yX0_fullRoom cX0_fullRoom 3 (some .int), Cond.fieldLink RX0 31 "ColourForests$Graph" "colours" "I", Cond.fieldLink RX0 9 "ColourForests$Graph" "limits" "[I", Cond.methodLink RX4 56 yJ6_numberOfTrailingZeros_0f7a4, Cond.static yJ6_numberOfTrailingZeros_0f7a4, Cond.initialized RJ6, Cond.code yJ6_numberOfTrailingZeros_0f7a4 cJ6_numberOfTrailingZeros_0f7a4 2 (some .int), Cond.constant RJ6 264 (65536)]
def wsX5_dearest_r3 : List Cond := [Cond.methodLink RX4 62 yX4_placeAbove, Cond.instanceMethod yX4_placeAbove, Cond.selects RX4 yX4_placeAbove yX4_placeAbove, Cond.code yX4_placeAbove cX4_placeAbove 3 (some .int), Cond.methodLink RX4 65 yX4_enter, Cond.instanceMethod yX4_enter, Cond.selects RX4 yX4_enter yX4_enter, Cond.code yX4_enter cX4_enter 5 (some .boolean), Cond.fieldLink RX4 102 "ColourForests$Graph" "weights" "[I", Cond.methodLink RX4 89 yX0_joinsTwoParts, Cond.instanceMethod yX0_joinsTwoParts, Cond.selects RX0 yX0_joinsTwoParts yX0_joinsTwoParts, Cond.code yX0_joinsTwoParts cX0_joinsTwoParts 3 (some .boolean), Cond.fieldLink RX0 15 "ColourForests$Graph" "firstEnds" "[I", Cond.fieldLink RX0 18 "ColourForests$Graph" "secondEnds" "[I", Cond.static yX5_cell, Cond.code yX5_cell cX5_cell 2 (some .int), Cond.methodLink RX4 92 yX0_partsJoinedBy, Cond.instanceMethod yX0_partsJoinedBy, Cond.selects RX0 yX0_partsJoinedBy yX0_partsJoinedBy, Cond.code yX0_partsJoinedBy cX0_partsJoinedBy 7 (some .int), Cond.methodLink RX4 96 yX0_hasRoom, Cond.instanceMethod yX0_hasRoom, Cond.selects RX0 yX0_hasRoom yX0_hasRoom]
def wsX5_dearest_r4 : List Cond := [Cond.code yX0_hasRoom cX0_hasRoom 3 (some .boolean), Cond.fieldLink RX0 21 "ColourForests$Graph" "hues" "[I", Cond.methodLink RX4 99 yX0_roomAfter, Cond.instanceMethod yX0_roomAfter, Cond.selects RX0 yX0_roomAfter yX0_roomAfter, Cond.code yX0_roomAfter cX0_roomAfter 3 (some .int), Cond.methodLink RX4 69 yX4_note, Cond.instanceMethod yX4_note, Cond.selects RX4 yX4_note yX4_note, Cond.code yX4_note cX4_note 4 none, Cond.methodLink RX4 105 yJ6_bitCount_0f7a4, Cond.static yJ6_bitCount_0f7a4, Cond.code yJ6_bitCount_0f7a4 cJ6_bitCount_0f7a4 1 (some .int), Cond.constant RJ6 265 (1431655765), Cond.constant RJ6 266 (858993459), Cond.constant RJ6 267 (252645135), Cond.methodLink RX4 108 yX4_noteForest, Cond.instanceMethod yX4_noteForest, Cond.selects RX4 yX4_noteForest yX4_noteForest, Cond.code yX4_noteForest cX4_noteForest 2 none, Cond.methodLink RX4 112 yX4_noteCommon, Cond.instanceMethod yX4_noteCommon, Cond.selects RX4 yX4_noteCommon yX4_noteCommon, Cond.code yX4_noteCommon cX4_noteCommon 4 none]
def wsX5_dearest_r5 : List Cond := [Cond.methodLink RX4 116 Lib.Math.max.name, Cond.static Lib.Math.max.name, Cond.initialized "java/lang/Math", Cond.code Lib.Math.max.name Lib.Math.max.code 2 (some .int), Cond.methodLink RX5 142 yX4_hasSize, Cond.instanceMethod yX4_hasSize, Cond.selects RX4 yX4_hasSize yX4_hasSize, Cond.code yX4_hasSize cX4_hasSize 2 (some .boolean), Cond.static yX5_within, Cond.code yX5_within cX5_within 3 (some .boolean)]
def wsX5_dearest : List Cond := .code yX5_dearest cX5_dearest 2 (some .int) :: ((wsX5_dearest_r1 ++ (wsX5_dearest_r2 ++ (wsX5_dearest_r3 ++ (wsX5_dearest_r4 ++ wsX5_dearest_r5)))) ++ wsX50 ++ wsX40 ++ wsX00)
def wsX5_weight_r1 : List Cond := [Cond.classLink RX5 42 "java/lang/IllegalArgumentException", Cond.initialized "java/lang/IllegalArgumentException", Cond.fieldLink RX5 34 "ColourForests" "survey" "LColourForests$Survey;", Cond.fieldLink RX5 151 "ColourForests$Survey" "dearestWeights" "[I", Cond.methodLink RX5 97 yX4_refresh, Cond.instanceMethod yX4_refresh, Cond.selects RX4 yX4_refresh yX4_refresh, Cond.initialized RX4, Cond.code yX4_refresh cX4_refresh 1 none, Cond.fieldLink RX4 11 "ColourForests$Survey" "changesSeen" "I", Cond.fieldLink RX4 31 "ColourForests$Survey" "graph" "LColourForests$Graph;", Cond.fieldLink RX4 42 "ColourForests$Graph" "changes" "I", Cond.methodLink RX4 47 yX4_walk, Cond.instanceMethod yX4_walk, Cond.selects RX4 yX4_walk yX4_walk, Cond.code yX4_walk cX4_walk 5 none, Cond.fieldLink RX4 53 "ColourForests$Graph" "edges" "I", Cond.methodLink RX4 50 yX4_begin, Cond.instanceMethod yX4_begin, Cond.selects RX4 yX4_begin yX4_begin, Cond.code yX4_begin cX4_begin 1 none, Cond.fieldLink RX4 22 "ColourForests$Survey" "partsFrom" "[I", Cond.fieldLink RX4 25 "ColourForests$Survey" "roomFrom" "[I", Cond.fieldLink RX4 28 "ColourForests$Survey" "weightFrom" "[I"]
def wsX5_weight_r2 : List Cond := [Cond.fieldLink RX4 80 "ColourForests$Survey" "widest" "I", Cond.fieldLink RX4 83 "ColourForests$Survey" "widestForests" "I", Cond.fieldLink RX4 86 "ColourForests$Survey" "commonSets" "I", Cond.fieldLink RX4 35 "ColourForests$Survey" "most" "I", Cond.fieldLink RX4 15 "ColourForests$Survey" "dearestSets" "[I", Cond.fieldLink RX4 19 "ColourForests$Survey" "dearestWeights" "[I", Cond.methodLink RX4 73 yX0_loneParts, Cond.instanceMethod yX0_loneParts, Cond.selects RX0 yX0_loneParts yX0_loneParts, Cond.initialized RX0, Cond.code yX0_loneParts cX0_loneParts 3 (some .int), Cond.fieldLink RX0 27 "ColourForests$Graph" "vertices" "I", Cond.static yX5_withCell, Cond.initialized RX5, Cond.code yX5_withCell cX5_withCell 4 (some .int), Cond.methodLink RX4 77 yX0_fullRoom, Cond.instanceMethod yX0_fullRoom, Cond.selects RX0 yX0_fullRoom yX0_fullRoom, Cond.code yX0_fullRoom cX0_fullRoom 3 (some .int), Cond.fieldLink RX0 31 "ColourForests$Graph" "colours" "I", Cond.fieldLink RX0 9 "ColourForests$Graph" "limits" "[I", Cond.methodLink RX4 56 yJ6_numberOfTrailingZeros_0f7a4, Cond.static yJ6_numberOfTrailingZeros_0f7a4, Cond.initialized RJ6]
def wsX5_weight_r3 : List Cond := [Cond.code yJ6_numberOfTrailingZeros_0f7a4 cJ6_numberOfTrailingZeros_0f7a4 2 (some .int), Cond.constant RJ6 264 (65536), Cond.methodLink RX4 62 yX4_placeAbove, Cond.instanceMethod yX4_placeAbove, Cond.selects RX4 yX4_placeAbove yX4_placeAbove, Cond.code yX4_placeAbove cX4_placeAbove 3 (some .int), Cond.methodLink RX4 65 yX4_enter, Cond.instanceMethod yX4_enter, Cond.selects RX4 yX4_enter yX4_enter, Cond.code yX4_enter cX4_enter 5 (some .boolean), Cond.fieldLink RX4 102 "ColourForests$Graph" "weights" "[I", Cond.methodLink RX4 89 yX0_joinsTwoParts, Cond.instanceMethod yX0_joinsTwoParts, Cond.selects RX0 yX0_joinsTwoParts yX0_joinsTwoParts, Cond.code yX0_joinsTwoParts cX0_joinsTwoParts 3 (some .boolean), Cond.fieldLink RX0 15 "ColourForests$Graph" "firstEnds" "[I", Cond.fieldLink RX0 18 "ColourForests$Graph" "secondEnds" "[I", Cond.static yX5_cell, Cond.code yX5_cell cX5_cell 2 (some .int), Cond.methodLink RX4 92 yX0_partsJoinedBy, Cond.instanceMethod yX0_partsJoinedBy, Cond.selects RX0 yX0_partsJoinedBy yX0_partsJoinedBy, Cond.code yX0_partsJoinedBy cX0_partsJoinedBy 7 (some .int), Cond.methodLink RX4 96 yX0_hasRoom]
def wsX5_weight_r4 : List Cond := [Cond.instanceMethod yX0_hasRoom, Cond.selects RX0 yX0_hasRoom yX0_hasRoom, Cond.code yX0_hasRoom cX0_hasRoom 3 (some .boolean), Cond.fieldLink RX0 21 "ColourForests$Graph" "hues" "[I", Cond.methodLink RX4 99 yX0_roomAfter, Cond.instanceMethod yX0_roomAfter, Cond.selects RX0 yX0_roomAfter yX0_roomAfter, Cond.code yX0_roomAfter cX0_roomAfter 3 (some .int), Cond.methodLink RX4 69 yX4_note, Cond.instanceMethod yX4_note, Cond.selects RX4 yX4_note yX4_note, Cond.code yX4_note cX4_note 4 none, Cond.methodLink RX4 105 yJ6_bitCount_0f7a4, Cond.static yJ6_bitCount_0f7a4, Cond.code yJ6_bitCount_0f7a4 cJ6_bitCount_0f7a4 1 (some .int), Cond.constant RJ6 265 (1431655765), Cond.constant RJ6 266 (858993459), Cond.constant RJ6 267 (252645135), Cond.methodLink RX4 108 yX4_noteForest, Cond.instanceMethod yX4_noteForest, Cond.selects RX4 yX4_noteForest yX4_noteForest, Cond.code yX4_noteForest cX4_noteForest 2 none, Cond.methodLink RX4 112 yX4_noteCommon, Cond.instanceMethod yX4_noteCommon]
def wsX5_weight_r5 : List Cond := [Cond.selects RX4 yX4_noteCommon yX4_noteCommon, Cond.code yX4_noteCommon cX4_noteCommon 4 none, Cond.methodLink RX4 116 Lib.Math.max.name, Cond.static Lib.Math.max.name, Cond.initialized "java/lang/Math", Cond.code Lib.Math.max.name Lib.Math.max.code 2 (some .int), Cond.methodLink RX5 142 yX4_hasSize, Cond.instanceMethod yX4_hasSize, Cond.selects RX4 yX4_hasSize yX4_hasSize, Cond.code yX4_hasSize cX4_hasSize 2 (some .boolean), Cond.static yX5_within, Cond.code yX5_within cX5_within 3 (some .boolean)]
def wsX5_weight : List Cond := .code yX5_weight cX5_weight 2 (some .int) :: ((wsX5_weight_r1 ++ (wsX5_weight_r2 ++ (wsX5_weight_r3 ++ (wsX5_weight_r4 ++ wsX5_weight_r5)))) ++ wsX50 ++ wsX40 ++ wsX00 ++ (vx_atS RX5 46 "java/lang/IllegalArgumentException" ["java/lang/RuntimeException", "java/lang/Exception"]).filter goodWord)
def wsX5_heaviest_r1 : List Cond := [Cond.fieldLink RX5 34 "ColourForests" "survey" "LColourForests$Survey;", Cond.fieldLink RX5 139 "ColourForests$Survey" "most" "I", Cond.fieldLink RX5 151 "ColourForests$Survey" "dearestWeights" "[I", Cond.methodLink RX5 97 yX4_refresh, Cond.instanceMethod yX4_refresh, Cond.selects RX4 yX4_refresh yX4_refresh, Cond.initialized RX4, Cond.code yX4_refresh cX4_refresh 1 none, Cond.fieldLink RX4 11 "ColourForests$Survey" "changesSeen" "I", Cond.fieldLink RX4 31 "ColourForests$Survey" "graph" "LColourForests$Graph;", Cond.fieldLink RX4 42 "ColourForests$Graph" "changes" "I", Cond.methodLink RX4 47 yX4_walk, Cond.instanceMethod yX4_walk, Cond.selects RX4 yX4_walk yX4_walk, Cond.code yX4_walk cX4_walk 5 none, Cond.fieldLink RX4 53 "ColourForests$Graph" "edges" "I", Cond.methodLink RX4 50 yX4_begin, Cond.instanceMethod yX4_begin, Cond.selects RX4 yX4_begin yX4_begin, Cond.code yX4_begin cX4_begin 1 none, Cond.fieldLink RX4 22 "ColourForests$Survey" "partsFrom" "[I", Cond.fieldLink RX4 25 "ColourForests$Survey" "roomFrom" "[I", Cond.fieldLink RX4 28 "ColourForests$Survey" "weightFrom" "[I", Cond.fieldLink RX4 80 "ColourForests$Survey" "widest" "I"]
def wsX5_heaviest_r2 : List Cond := [Cond.fieldLink RX4 83 "ColourForests$Survey" "widestForests" "I", Cond.fieldLink RX4 86 "ColourForests$Survey" "commonSets" "I", Cond.fieldLink RX4 35 "ColourForests$Survey" "most" "I", Cond.fieldLink RX4 15 "ColourForests$Survey" "dearestSets" "[I", Cond.fieldLink RX4 19 "ColourForests$Survey" "dearestWeights" "[I", Cond.methodLink RX4 73 yX0_loneParts, Cond.instanceMethod yX0_loneParts, Cond.selects RX0 yX0_loneParts yX0_loneParts, Cond.initialized RX0, Cond.code yX0_loneParts cX0_loneParts 3 (some .int), Cond.fieldLink RX0 27 "ColourForests$Graph" "vertices" "I", Cond.static yX5_withCell, Cond.initialized RX5, Cond.code yX5_withCell cX5_withCell 4 (some .int), Cond.methodLink RX4 77 yX0_fullRoom, Cond.instanceMethod yX0_fullRoom, Cond.selects RX0 yX0_fullRoom yX0_fullRoom, Cond.code yX0_fullRoom cX0_fullRoom 3 (some .int), Cond.fieldLink RX0 31 "ColourForests$Graph" "colours" "I", Cond.fieldLink RX0 9 "ColourForests$Graph" "limits" "[I", Cond.methodLink RX4 56 yJ6_numberOfTrailingZeros_0f7a4, Cond.static yJ6_numberOfTrailingZeros_0f7a4, Cond.initialized RJ6, Cond.code yJ6_numberOfTrailingZeros_0f7a4 cJ6_numberOfTrailingZeros_0f7a4 2 (some .int)]
def wsX5_heaviest_r3 : List Cond := [Cond.constant RJ6 264 (65536), Cond.methodLink RX4 62 yX4_placeAbove, Cond.instanceMethod yX4_placeAbove, Cond.selects RX4 yX4_placeAbove yX4_placeAbove, Cond.code yX4_placeAbove cX4_placeAbove 3 (some .int), Cond.methodLink RX4 65 yX4_enter, Cond.instanceMethod yX4_enter, Cond.selects RX4 yX4_enter yX4_enter, Cond.code yX4_enter cX4_enter 5 (some .boolean), Cond.fieldLink RX4 102 "ColourForests$Graph" "weights" "[I", Cond.methodLink RX4 89 yX0_joinsTwoParts, Cond.instanceMethod yX0_joinsTwoParts, Cond.selects RX0 yX0_joinsTwoParts yX0_joinsTwoParts, Cond.code yX0_joinsTwoParts cX0_joinsTwoParts 3 (some .boolean), Cond.fieldLink RX0 15 "ColourForests$Graph" "firstEnds" "[I", Cond.fieldLink RX0 18 "ColourForests$Graph" "secondEnds" "[I", Cond.static yX5_cell, Cond.code yX5_cell cX5_cell 2 (some .int), Cond.methodLink RX4 92 yX0_partsJoinedBy, Cond.instanceMethod yX0_partsJoinedBy, Cond.selects RX0 yX0_partsJoinedBy yX0_partsJoinedBy, Cond.code yX0_partsJoinedBy cX0_partsJoinedBy 7 (some .int), Cond.methodLink RX4 96 yX0_hasRoom, Cond.instanceMethod yX0_hasRoom]
def wsX5_heaviest_r4 : List Cond := [Cond.selects RX0 yX0_hasRoom yX0_hasRoom, Cond.code yX0_hasRoom cX0_hasRoom 3 (some .boolean), Cond.fieldLink RX0 21 "ColourForests$Graph" "hues" "[I", Cond.methodLink RX4 99 yX0_roomAfter, Cond.instanceMethod yX0_roomAfter, Cond.selects RX0 yX0_roomAfter yX0_roomAfter, Cond.code yX0_roomAfter cX0_roomAfter 3 (some .int), Cond.methodLink RX4 69 yX4_note, Cond.instanceMethod yX4_note, Cond.selects RX4 yX4_note yX4_note, Cond.code yX4_note cX4_note 4 none, Cond.methodLink RX4 105 yJ6_bitCount_0f7a4, Cond.static yJ6_bitCount_0f7a4, Cond.code yJ6_bitCount_0f7a4 cJ6_bitCount_0f7a4 1 (some .int), Cond.constant RJ6 265 (1431655765), Cond.constant RJ6 266 (858993459), Cond.constant RJ6 267 (252645135), Cond.methodLink RX4 108 yX4_noteForest, Cond.instanceMethod yX4_noteForest, Cond.selects RX4 yX4_noteForest yX4_noteForest, Cond.code yX4_noteForest cX4_noteForest 2 none, Cond.methodLink RX4 112 yX4_noteCommon, Cond.instanceMethod yX4_noteCommon, Cond.selects RX4 yX4_noteCommon yX4_noteCommon]
def wsX5_heaviest_r5 : List Cond := [Cond.code yX4_noteCommon cX4_noteCommon 4 none, Cond.methodLink RX4 116 Lib.Math.max.name, Cond.static Lib.Math.max.name, Cond.initialized "java/lang/Math", Cond.code Lib.Math.max.name Lib.Math.max.code 2 (some .int)]
def wsX5_heaviest : List Cond := .code yX5_heaviest cX5_heaviest 3 (some .int) :: ((wsX5_heaviest_r1 ++ (wsX5_heaviest_r2 ++ (wsX5_heaviest_r3 ++ (wsX5_heaviest_r4 ++ wsX5_heaviest_r5)))) ++ wsX50 ++ wsX40 ++ wsX00)
def wsJ6_lowestOneBit_0f7a4 : List Cond := .code yJ6_lowestOneBit_0f7a4 cJ6_lowestOneBit_0f7a4 1 (some .int) :: ([])
def wsX5_leastSplit_r1 : List Cond := [Cond.fieldLink RX5 34 "ColourForests" "survey" "LColourForests$Survey;", Cond.fieldLink RX5 145 "ColourForests$Survey" "dearestSets" "[I", Cond.fieldLink RX5 139 "ColourForests$Survey" "most" "I", Cond.fieldLink RX5 10 "ColourForests" "graph" "LColourForests$Graph;", Cond.fieldLink RX5 63 "ColourForests$Graph" "edges" "I", Cond.methodLink RX5 171 yX0_allEdges, Cond.instanceMethod yX0_allEdges, Cond.selects RX0 yX0_allEdges yX0_allEdges, Cond.initialized RX0, Cond.code yX0_allEdges cX0_allEdges 1 (some .int), Cond.fieldLink RX0 34 "ColourForests$Graph" "edges" "I", Cond.methodLink RX5 136 ⟨"ColourForests$Kind", "closureOf", "(I)I"⟩, Cond.sameMethod "ColourForests$Kind" "ColourForests$Kind" "closureOf" "(I)I", Cond.selects RX2 ⟨"ColourForests$Kind", "closureOf", "(I)I"⟩ yX1_closureOf, Cond.instanceMethod yX1_closureOf, Cond.initialized RX1, Cond.code yX1_closureOf cX1_closureOf 6 (some .int), Cond.fieldLink RX1 7 "ColourForests$Kind" "graph" "LColourForests$Graph;", Cond.fieldLink RX1 22 "ColourForests$Graph" "edges" "I", Cond.methodLink RX1 13 ⟨"ColourForests$Kind", "rankOf", "(I)I"⟩, Cond.sameMethod "ColourForests$Kind" "ColourForests$Kind" "rankOf" "(I)I", Cond.selects RX2 ⟨"ColourForests$Kind", "rankOf", "(I)I"⟩ yX2_rankOf, Cond.instanceMethod yX2_rankOf, Cond.initialized RX2]
def wsX5_leastSplit_r2 : List Cond := [Cond.code yX2_rankOf cX2_rankOf 5 (some .int), Cond.fieldLink RX2 7 "ColourForests$LimitKind" "graph" "LColourForests$Graph;", Cond.sameField "ColourForests$LimitKind" "ColourForests$Kind" "graph" "LColourForests$Graph;", Cond.fieldLink RX2 19 "ColourForests$Graph" "edges" "I", Cond.methodLink RX2 13 yX0_fullRoom, Cond.instanceMethod yX0_fullRoom, Cond.selects RX0 yX0_fullRoom yX0_fullRoom, Cond.code yX0_fullRoom cX0_fullRoom 3 (some .int), Cond.fieldLink RX0 31 "ColourForests$Graph" "colours" "I", Cond.fieldLink RX0 9 "ColourForests$Graph" "limits" "[I", Cond.static yX5_withCell, Cond.initialized RX5, Cond.code yX5_withCell cX5_withCell 4 (some .int), Cond.static yX5_hasBit, Cond.code yX5_hasBit cX5_hasBit 2 (some .boolean), Cond.methodLink RX2 29 yX0_hasRoom, Cond.instanceMethod yX0_hasRoom, Cond.selects RX0 yX0_hasRoom yX0_hasRoom, Cond.code yX0_hasRoom cX0_hasRoom 3 (some .boolean), Cond.fieldLink RX0 21 "ColourForests$Graph" "hues" "[I", Cond.static yX5_cell, Cond.code yX5_cell cX5_cell 2 (some .int), Cond.methodLink RX2 32 yX0_roomAfter, Cond.instanceMethod yX0_roomAfter]
def wsX5_leastSplit_r3 : List Cond := [Cond.selects RX0 yX0_roomAfter yX0_roomAfter, Cond.code yX0_roomAfter cX0_roomAfter 3 (some .int), Cond.selects RX3 ⟨"ColourForests$Kind", "rankOf", "(I)I"⟩ yX3_rankOf, Cond.instanceMethod yX3_rankOf, Cond.initialized RX3, Cond.code yX3_rankOf cX3_rankOf 5 (some .int), Cond.fieldLink RX3 7 "ColourForests$RinglessKind" "graph" "LColourForests$Graph;", Cond.sameField "ColourForests$RinglessKind" "ColourForests$Kind" "graph" "LColourForests$Graph;", Cond.fieldLink RX3 19 "ColourForests$Graph" "edges" "I", Cond.methodLink RX3 13 yX0_loneParts, Cond.instanceMethod yX0_loneParts, Cond.selects RX0 yX0_loneParts yX0_loneParts, Cond.code yX0_loneParts cX0_loneParts 3 (some .int), Cond.fieldLink RX0 27 "ColourForests$Graph" "vertices" "I", Cond.methodLink RX3 29 yX0_joinsTwoParts, Cond.instanceMethod yX0_joinsTwoParts, Cond.selects RX0 yX0_joinsTwoParts yX0_joinsTwoParts, Cond.code yX0_joinsTwoParts cX0_joinsTwoParts 3 (some .boolean), Cond.fieldLink RX0 15 "ColourForests$Graph" "firstEnds" "[I", Cond.fieldLink RX0 18 "ColourForests$Graph" "secondEnds" "[I", Cond.methodLink RX3 32 yX0_partsJoinedBy, Cond.instanceMethod yX0_partsJoinedBy, Cond.selects RX0 yX0_partsJoinedBy yX0_partsJoinedBy, Cond.code yX0_partsJoinedBy cX0_partsJoinedBy 7 (some .int)]
def wsX5_leastSplit_r4 : List Cond := [Cond.selects RX3 ⟨"ColourForests$Kind", "closureOf", "(I)I"⟩ yX1_closureOf, Cond.methodLink RX5 178 yJ6_lowestOneBit_0f7a4, Cond.static yJ6_lowestOneBit_0f7a4, Cond.initialized RJ6, Cond.code yJ6_lowestOneBit_0f7a4 cJ6_lowestOneBit_0f7a4 1 (some .int), Cond.methodLink RX5 133 ⟨"ColourForests$Kind", "circuitWithin", "(I)I"⟩, Cond.sameMethod "ColourForests$Kind" "ColourForests$Kind" "circuitWithin" "(I)I", Cond.selects RX2 ⟨"ColourForests$Kind", "circuitWithin", "(I)I"⟩ yX1_circuitWithin, Cond.instanceMethod yX1_circuitWithin, Cond.code yX1_circuitWithin cX1_circuitWithin 6 (some .int), Cond.selects RX3 ⟨"ColourForests$Kind", "circuitWithin", "(I)I"⟩ yX1_circuitWithin]
def wsX5_leastSplit : List Cond := .code yX5_leastSplit cX5_leastSplit 8 (some .int) :: ((wsX5_leastSplit_r1 ++ (wsX5_leastSplit_r2 ++ (wsX5_leastSplit_r3 ++ wsX5_leastSplit_r4))) ++ wsX50 ++ wsX40 ++ wsX00 ++ wsX20 ++ wsX30)
def wsX5_leastWitness_r1 : List Cond := [Cond.fieldLink RX5 21 "ColourForests" "ringless" "LColourForests$Kind;", Cond.fieldLink RX5 28 "ColourForests" "withinLimits" "LColourForests$Kind;", Cond.methodLink RX5 174 yX5_leastSplit, Cond.instanceMethod yX5_leastSplit, Cond.selects RX5 yX5_leastSplit yX5_leastSplit, Cond.initialized RX5, Cond.code yX5_leastSplit cX5_leastSplit 8 (some .int), Cond.fieldLink RX5 34 "ColourForests" "survey" "LColourForests$Survey;", Cond.fieldLink RX5 145 "ColourForests$Survey" "dearestSets" "[I", Cond.fieldLink RX5 139 "ColourForests$Survey" "most" "I", Cond.fieldLink RX5 10 "ColourForests" "graph" "LColourForests$Graph;", Cond.fieldLink RX5 63 "ColourForests$Graph" "edges" "I", Cond.methodLink RX5 171 yX0_allEdges, Cond.instanceMethod yX0_allEdges, Cond.selects RX0 yX0_allEdges yX0_allEdges, Cond.initialized RX0, Cond.code yX0_allEdges cX0_allEdges 1 (some .int), Cond.fieldLink RX0 34 "ColourForests$Graph" "edges" "I", Cond.methodLink RX5 136 ⟨"ColourForests$Kind", "closureOf", "(I)I"⟩, Cond.sameMethod "ColourForests$Kind" "ColourForests$Kind" "closureOf" "(I)I", Cond.selects RX2 ⟨"ColourForests$Kind", "closureOf", "(I)I"⟩ yX1_closureOf, Cond.instanceMethod yX1_closureOf, Cond.initialized RX1, Cond.code yX1_closureOf cX1_closureOf 6 (some .int)]
def wsX5_leastWitness_r2 : List Cond := [Cond.fieldLink RX1 7 "ColourForests$Kind" "graph" "LColourForests$Graph;", Cond.fieldLink RX1 22 "ColourForests$Graph" "edges" "I", Cond.methodLink RX1 13 ⟨"ColourForests$Kind", "rankOf", "(I)I"⟩, Cond.sameMethod "ColourForests$Kind" "ColourForests$Kind" "rankOf" "(I)I", Cond.selects RX2 ⟨"ColourForests$Kind", "rankOf", "(I)I"⟩ yX2_rankOf, Cond.instanceMethod yX2_rankOf, Cond.initialized RX2, Cond.code yX2_rankOf cX2_rankOf 5 (some .int), Cond.fieldLink RX2 7 "ColourForests$LimitKind" "graph" "LColourForests$Graph;", Cond.sameField "ColourForests$LimitKind" "ColourForests$Kind" "graph" "LColourForests$Graph;", Cond.fieldLink RX2 19 "ColourForests$Graph" "edges" "I", Cond.methodLink RX2 13 yX0_fullRoom, Cond.instanceMethod yX0_fullRoom, Cond.selects RX0 yX0_fullRoom yX0_fullRoom, Cond.code yX0_fullRoom cX0_fullRoom 3 (some .int), Cond.fieldLink RX0 31 "ColourForests$Graph" "colours" "I", Cond.fieldLink RX0 9 "ColourForests$Graph" "limits" "[I", Cond.static yX5_withCell, Cond.code yX5_withCell cX5_withCell 4 (some .int), Cond.static yX5_hasBit, Cond.code yX5_hasBit cX5_hasBit 2 (some .boolean), Cond.methodLink RX2 29 yX0_hasRoom, Cond.instanceMethod yX0_hasRoom, Cond.selects RX0 yX0_hasRoom yX0_hasRoom]
def wsX5_leastWitness_r3 : List Cond := [Cond.code yX0_hasRoom cX0_hasRoom 3 (some .boolean), Cond.fieldLink RX0 21 "ColourForests$Graph" "hues" "[I", Cond.static yX5_cell, Cond.code yX5_cell cX5_cell 2 (some .int), Cond.methodLink RX2 32 yX0_roomAfter, Cond.instanceMethod yX0_roomAfter, Cond.selects RX0 yX0_roomAfter yX0_roomAfter, Cond.code yX0_roomAfter cX0_roomAfter 3 (some .int), Cond.selects RX3 ⟨"ColourForests$Kind", "rankOf", "(I)I"⟩ yX3_rankOf, Cond.instanceMethod yX3_rankOf, Cond.initialized RX3, Cond.code yX3_rankOf cX3_rankOf 5 (some .int), Cond.fieldLink RX3 7 "ColourForests$RinglessKind" "graph" "LColourForests$Graph;", Cond.sameField "ColourForests$RinglessKind" "ColourForests$Kind" "graph" "LColourForests$Graph;", Cond.fieldLink RX3 19 "ColourForests$Graph" "edges" "I", Cond.methodLink RX3 13 yX0_loneParts, Cond.instanceMethod yX0_loneParts, Cond.selects RX0 yX0_loneParts yX0_loneParts, Cond.code yX0_loneParts cX0_loneParts 3 (some .int), Cond.fieldLink RX0 27 "ColourForests$Graph" "vertices" "I", Cond.methodLink RX3 29 yX0_joinsTwoParts, Cond.instanceMethod yX0_joinsTwoParts, Cond.selects RX0 yX0_joinsTwoParts yX0_joinsTwoParts, Cond.code yX0_joinsTwoParts cX0_joinsTwoParts 3 (some .boolean)]
def wsX5_leastWitness_r4 : List Cond := [Cond.fieldLink RX0 15 "ColourForests$Graph" "firstEnds" "[I", Cond.fieldLink RX0 18 "ColourForests$Graph" "secondEnds" "[I", Cond.methodLink RX3 32 yX0_partsJoinedBy, Cond.instanceMethod yX0_partsJoinedBy, Cond.selects RX0 yX0_partsJoinedBy yX0_partsJoinedBy, Cond.code yX0_partsJoinedBy cX0_partsJoinedBy 7 (some .int), Cond.selects RX3 ⟨"ColourForests$Kind", "closureOf", "(I)I"⟩ yX1_closureOf, Cond.methodLink RX5 178 yJ6_lowestOneBit_0f7a4, Cond.static yJ6_lowestOneBit_0f7a4, Cond.initialized RJ6, Cond.code yJ6_lowestOneBit_0f7a4 cJ6_lowestOneBit_0f7a4 1 (some .int), Cond.methodLink RX5 133 ⟨"ColourForests$Kind", "circuitWithin", "(I)I"⟩, Cond.sameMethod "ColourForests$Kind" "ColourForests$Kind" "circuitWithin" "(I)I", Cond.selects RX2 ⟨"ColourForests$Kind", "circuitWithin", "(I)I"⟩ yX1_circuitWithin, Cond.instanceMethod yX1_circuitWithin, Cond.code yX1_circuitWithin cX1_circuitWithin 6 (some .int), Cond.selects RX3 ⟨"ColourForests$Kind", "circuitWithin", "(I)I"⟩ yX1_circuitWithin]
def wsX5_leastWitness : List Cond := .code yX5_leastWitness cX5_leastWitness 1 (some .int) :: ((wsX5_leastWitness_r1 ++ (wsX5_leastWitness_r2 ++ (wsX5_leastWitness_r3 ++ wsX5_leastWitness_r4))) ++ wsX50 ++ wsX40 ++ wsX00 ++ wsX20 ++ wsX30)
def wsX5_greatestWitness_r1 : List Cond := [Cond.fieldLink RX5 10 "ColourForests" "graph" "LColourForests$Graph;", Cond.fieldLink RX5 28 "ColourForests" "withinLimits" "LColourForests$Kind;", Cond.fieldLink RX5 21 "ColourForests" "ringless" "LColourForests$Kind;", Cond.methodLink RX5 171 yX0_allEdges, Cond.instanceMethod yX0_allEdges, Cond.selects RX0 yX0_allEdges yX0_allEdges, Cond.initialized RX0, Cond.code yX0_allEdges cX0_allEdges 1 (some .int), Cond.fieldLink RX0 34 "ColourForests$Graph" "edges" "I", Cond.methodLink RX5 174 yX5_leastSplit, Cond.instanceMethod yX5_leastSplit, Cond.selects RX5 yX5_leastSplit yX5_leastSplit, Cond.initialized RX5, Cond.code yX5_leastSplit cX5_leastSplit 8 (some .int), Cond.fieldLink RX5 34 "ColourForests" "survey" "LColourForests$Survey;", Cond.fieldLink RX5 145 "ColourForests$Survey" "dearestSets" "[I", Cond.fieldLink RX5 139 "ColourForests$Survey" "most" "I", Cond.fieldLink RX5 63 "ColourForests$Graph" "edges" "I", Cond.methodLink RX5 136 ⟨"ColourForests$Kind", "closureOf", "(I)I"⟩, Cond.sameMethod "ColourForests$Kind" "ColourForests$Kind" "closureOf" "(I)I", Cond.selects RX2 ⟨"ColourForests$Kind", "closureOf", "(I)I"⟩ yX1_closureOf, Cond.instanceMethod yX1_closureOf, Cond.initialized RX1, Cond.code yX1_closureOf cX1_closureOf 6 (some .int)]
def wsX5_greatestWitness_r2 : List Cond := [Cond.fieldLink RX1 7 "ColourForests$Kind" "graph" "LColourForests$Graph;", Cond.fieldLink RX1 22 "ColourForests$Graph" "edges" "I", Cond.methodLink RX1 13 ⟨"ColourForests$Kind", "rankOf", "(I)I"⟩, Cond.sameMethod "ColourForests$Kind" "ColourForests$Kind" "rankOf" "(I)I", Cond.selects RX2 ⟨"ColourForests$Kind", "rankOf", "(I)I"⟩ yX2_rankOf, Cond.instanceMethod yX2_rankOf, Cond.initialized RX2, Cond.code yX2_rankOf cX2_rankOf 5 (some .int), Cond.fieldLink RX2 7 "ColourForests$LimitKind" "graph" "LColourForests$Graph;", Cond.sameField "ColourForests$LimitKind" "ColourForests$Kind" "graph" "LColourForests$Graph;", Cond.fieldLink RX2 19 "ColourForests$Graph" "edges" "I", Cond.methodLink RX2 13 yX0_fullRoom, Cond.instanceMethod yX0_fullRoom, Cond.selects RX0 yX0_fullRoom yX0_fullRoom, Cond.code yX0_fullRoom cX0_fullRoom 3 (some .int), Cond.fieldLink RX0 31 "ColourForests$Graph" "colours" "I", Cond.fieldLink RX0 9 "ColourForests$Graph" "limits" "[I", Cond.static yX5_withCell, Cond.code yX5_withCell cX5_withCell 4 (some .int), Cond.static yX5_hasBit, Cond.code yX5_hasBit cX5_hasBit 2 (some .boolean), Cond.methodLink RX2 29 yX0_hasRoom, Cond.instanceMethod yX0_hasRoom, Cond.selects RX0 yX0_hasRoom yX0_hasRoom]
def wsX5_greatestWitness_r3 : List Cond := [Cond.code yX0_hasRoom cX0_hasRoom 3 (some .boolean), Cond.fieldLink RX0 21 "ColourForests$Graph" "hues" "[I", Cond.static yX5_cell, Cond.code yX5_cell cX5_cell 2 (some .int), Cond.methodLink RX2 32 yX0_roomAfter, Cond.instanceMethod yX0_roomAfter, Cond.selects RX0 yX0_roomAfter yX0_roomAfter, Cond.code yX0_roomAfter cX0_roomAfter 3 (some .int), Cond.selects RX3 ⟨"ColourForests$Kind", "rankOf", "(I)I"⟩ yX3_rankOf, Cond.instanceMethod yX3_rankOf, Cond.initialized RX3, Cond.code yX3_rankOf cX3_rankOf 5 (some .int), Cond.fieldLink RX3 7 "ColourForests$RinglessKind" "graph" "LColourForests$Graph;", Cond.sameField "ColourForests$RinglessKind" "ColourForests$Kind" "graph" "LColourForests$Graph;", Cond.fieldLink RX3 19 "ColourForests$Graph" "edges" "I", Cond.methodLink RX3 13 yX0_loneParts, Cond.instanceMethod yX0_loneParts, Cond.selects RX0 yX0_loneParts yX0_loneParts, Cond.code yX0_loneParts cX0_loneParts 3 (some .int), Cond.fieldLink RX0 27 "ColourForests$Graph" "vertices" "I", Cond.methodLink RX3 29 yX0_joinsTwoParts, Cond.instanceMethod yX0_joinsTwoParts, Cond.selects RX0 yX0_joinsTwoParts yX0_joinsTwoParts, Cond.code yX0_joinsTwoParts cX0_joinsTwoParts 3 (some .boolean)]
def wsX5_greatestWitness_r4 : List Cond := [Cond.fieldLink RX0 15 "ColourForests$Graph" "firstEnds" "[I", Cond.fieldLink RX0 18 "ColourForests$Graph" "secondEnds" "[I", Cond.methodLink RX3 32 yX0_partsJoinedBy, Cond.instanceMethod yX0_partsJoinedBy, Cond.selects RX0 yX0_partsJoinedBy yX0_partsJoinedBy, Cond.code yX0_partsJoinedBy cX0_partsJoinedBy 7 (some .int), Cond.selects RX3 ⟨"ColourForests$Kind", "closureOf", "(I)I"⟩ yX1_closureOf, Cond.methodLink RX5 178 yJ6_lowestOneBit_0f7a4, Cond.static yJ6_lowestOneBit_0f7a4, Cond.initialized RJ6, Cond.code yJ6_lowestOneBit_0f7a4 cJ6_lowestOneBit_0f7a4 1 (some .int), Cond.methodLink RX5 133 ⟨"ColourForests$Kind", "circuitWithin", "(I)I"⟩, Cond.sameMethod "ColourForests$Kind" "ColourForests$Kind" "circuitWithin" "(I)I", Cond.selects RX2 ⟨"ColourForests$Kind", "circuitWithin", "(I)I"⟩ yX1_circuitWithin, Cond.instanceMethod yX1_circuitWithin, Cond.code yX1_circuitWithin cX1_circuitWithin 6 (some .int), Cond.selects RX3 ⟨"ColourForests$Kind", "circuitWithin", "(I)I"⟩ yX1_circuitWithin]
def wsX5_greatestWitness : List Cond := .code yX5_greatestWitness cX5_greatestWitness 1 (some .int) :: ((wsX5_greatestWitness_r1 ++ (wsX5_greatestWitness_r2 ++ (wsX5_greatestWitness_r3 ++ wsX5_greatestWitness_r4))) ++ wsX50 ++ wsX00 ++ wsX40 ++ wsX20 ++ wsX30)
def wsX5_witness_r1 : List Cond := [Cond.fieldLink RX5 34 "ColourForests" "survey" "LColourForests$Survey;", Cond.methodLink RX5 97 yX4_refresh, Cond.instanceMethod yX4_refresh, Cond.selects RX4 yX4_refresh yX4_refresh, Cond.initialized RX4, Cond.code yX4_refresh cX4_refresh 1 none, Cond.fieldLink RX4 11 "ColourForests$Survey" "changesSeen" "I", Cond.fieldLink RX4 31 "ColourForests$Survey" "graph" "LColourForests$Graph;", Cond.fieldLink RX4 42 "ColourForests$Graph" "changes" "I", Cond.methodLink RX4 47 yX4_walk, Cond.instanceMethod yX4_walk, Cond.selects RX4 yX4_walk yX4_walk, Cond.code yX4_walk cX4_walk 5 none, Cond.fieldLink RX4 53 "ColourForests$Graph" "edges" "I", Cond.methodLink RX4 50 yX4_begin, Cond.instanceMethod yX4_begin, Cond.selects RX4 yX4_begin yX4_begin, Cond.code yX4_begin cX4_begin 1 none, Cond.fieldLink RX4 22 "ColourForests$Survey" "partsFrom" "[I", Cond.fieldLink RX4 25 "ColourForests$Survey" "roomFrom" "[I", Cond.fieldLink RX4 28 "ColourForests$Survey" "weightFrom" "[I", Cond.fieldLink RX4 80 "ColourForests$Survey" "widest" "I", Cond.fieldLink RX4 83 "ColourForests$Survey" "widestForests" "I", Cond.fieldLink RX4 86 "ColourForests$Survey" "commonSets" "I"]
def wsX5_witness_r2 : List Cond := [Cond.fieldLink RX4 35 "ColourForests$Survey" "most" "I", Cond.fieldLink RX4 15 "ColourForests$Survey" "dearestSets" "[I", Cond.fieldLink RX4 19 "ColourForests$Survey" "dearestWeights" "[I", Cond.methodLink RX4 73 yX0_loneParts, Cond.instanceMethod yX0_loneParts, Cond.selects RX0 yX0_loneParts yX0_loneParts, Cond.initialized RX0, Cond.code yX0_loneParts cX0_loneParts 3 (some .int), Cond.fieldLink RX0 27 "ColourForests$Graph" "vertices" "I", Cond.static yX5_withCell, Cond.initialized RX5, Cond.code yX5_withCell cX5_withCell 4 (some .int), Cond.methodLink RX4 77 yX0_fullRoom, Cond.instanceMethod yX0_fullRoom, Cond.selects RX0 yX0_fullRoom yX0_fullRoom, Cond.code yX0_fullRoom cX0_fullRoom 3 (some .int), Cond.fieldLink RX0 31 "ColourForests$Graph" "colours" "I", Cond.fieldLink RX0 9 "ColourForests$Graph" "limits" "[I", Cond.methodLink RX4 56 yJ6_numberOfTrailingZeros_0f7a4, Cond.static yJ6_numberOfTrailingZeros_0f7a4, Cond.initialized RJ6, Cond.code yJ6_numberOfTrailingZeros_0f7a4 cJ6_numberOfTrailingZeros_0f7a4 2 (some .int), Cond.constant RJ6 264 (65536), Cond.methodLink RX4 62 yX4_placeAbove]
def wsX5_witness_r3 : List Cond := [Cond.instanceMethod yX4_placeAbove, Cond.selects RX4 yX4_placeAbove yX4_placeAbove, Cond.code yX4_placeAbove cX4_placeAbove 3 (some .int), Cond.methodLink RX4 65 yX4_enter, Cond.instanceMethod yX4_enter, Cond.selects RX4 yX4_enter yX4_enter, Cond.code yX4_enter cX4_enter 5 (some .boolean), Cond.fieldLink RX4 102 "ColourForests$Graph" "weights" "[I", Cond.methodLink RX4 89 yX0_joinsTwoParts, Cond.instanceMethod yX0_joinsTwoParts, Cond.selects RX0 yX0_joinsTwoParts yX0_joinsTwoParts, Cond.code yX0_joinsTwoParts cX0_joinsTwoParts 3 (some .boolean), Cond.fieldLink RX0 15 "ColourForests$Graph" "firstEnds" "[I", Cond.fieldLink RX0 18 "ColourForests$Graph" "secondEnds" "[I", Cond.static yX5_cell, Cond.code yX5_cell cX5_cell 2 (some .int), Cond.methodLink RX4 92 yX0_partsJoinedBy, Cond.instanceMethod yX0_partsJoinedBy, Cond.selects RX0 yX0_partsJoinedBy yX0_partsJoinedBy, Cond.code yX0_partsJoinedBy cX0_partsJoinedBy 7 (some .int), Cond.methodLink RX4 96 yX0_hasRoom, Cond.instanceMethod yX0_hasRoom, Cond.selects RX0 yX0_hasRoom yX0_hasRoom, Cond.code yX0_hasRoom cX0_hasRoom 3 (some .boolean)]
def wsX5_witness_r4 : List Cond := [Cond.fieldLink RX0 21 "ColourForests$Graph" "hues" "[I", Cond.methodLink RX4 99 yX0_roomAfter, Cond.instanceMethod yX0_roomAfter, Cond.selects RX0 yX0_roomAfter yX0_roomAfter, Cond.code yX0_roomAfter cX0_roomAfter 3 (some .int), Cond.methodLink RX4 69 yX4_note, Cond.instanceMethod yX4_note, Cond.selects RX4 yX4_note yX4_note, Cond.code yX4_note cX4_note 4 none, Cond.methodLink RX4 105 yJ6_bitCount_0f7a4, Cond.static yJ6_bitCount_0f7a4, Cond.code yJ6_bitCount_0f7a4 cJ6_bitCount_0f7a4 1 (some .int), Cond.constant RJ6 265 (1431655765), Cond.constant RJ6 266 (858993459), Cond.constant RJ6 267 (252645135), Cond.methodLink RX4 108 yX4_noteForest, Cond.instanceMethod yX4_noteForest, Cond.selects RX4 yX4_noteForest yX4_noteForest, Cond.code yX4_noteForest cX4_noteForest 2 none, Cond.methodLink RX4 112 yX4_noteCommon, Cond.instanceMethod yX4_noteCommon, Cond.selects RX4 yX4_noteCommon yX4_noteCommon, Cond.code yX4_noteCommon cX4_noteCommon 4 none, Cond.methodLink RX4 116 Lib.Math.max.name]
def wsX5_witness_r5 : List Cond := [Cond.static Lib.Math.max.name, Cond.initialized "java/lang/Math", Cond.code Lib.Math.max.name Lib.Math.max.code 2 (some .int), Cond.methodLink RX5 154 yX5_leastWitness, Cond.instanceMethod yX5_leastWitness, Cond.selects RX5 yX5_leastWitness yX5_leastWitness, Cond.code yX5_leastWitness cX5_leastWitness 1 (some .int), Cond.fieldLink RX5 21 "ColourForests" "ringless" "LColourForests$Kind;", Cond.fieldLink RX5 28 "ColourForests" "withinLimits" "LColourForests$Kind;", Cond.methodLink RX5 174 yX5_leastSplit, Cond.instanceMethod yX5_leastSplit, Cond.selects RX5 yX5_leastSplit yX5_leastSplit, Cond.code yX5_leastSplit cX5_leastSplit 8 (some .int), Cond.fieldLink RX5 145 "ColourForests$Survey" "dearestSets" "[I", Cond.fieldLink RX5 139 "ColourForests$Survey" "most" "I", Cond.fieldLink RX5 10 "ColourForests" "graph" "LColourForests$Graph;", Cond.fieldLink RX5 63 "ColourForests$Graph" "edges" "I", Cond.methodLink RX5 171 yX0_allEdges, Cond.instanceMethod yX0_allEdges, Cond.selects RX0 yX0_allEdges yX0_allEdges, Cond.code yX0_allEdges cX0_allEdges 1 (some .int), Cond.fieldLink RX0 34 "ColourForests$Graph" "edges" "I", Cond.methodLink RX5 136 ⟨"ColourForests$Kind", "closureOf", "(I)I"⟩, Cond.sameMethod "ColourForests$Kind" "ColourForests$Kind" "closureOf" "(I)I"]
def wsX5_witness_r6 : List Cond := [Cond.selects RX2 ⟨"ColourForests$Kind", "closureOf", "(I)I"⟩ yX1_closureOf, Cond.instanceMethod yX1_closureOf, Cond.initialized RX1, Cond.code yX1_closureOf cX1_closureOf 6 (some .int), Cond.fieldLink RX1 7 "ColourForests$Kind" "graph" "LColourForests$Graph;", Cond.fieldLink RX1 22 "ColourForests$Graph" "edges" "I", Cond.methodLink RX1 13 ⟨"ColourForests$Kind", "rankOf", "(I)I"⟩, Cond.sameMethod "ColourForests$Kind" "ColourForests$Kind" "rankOf" "(I)I", Cond.selects RX2 ⟨"ColourForests$Kind", "rankOf", "(I)I"⟩ yX2_rankOf, Cond.instanceMethod yX2_rankOf, Cond.initialized RX2, Cond.code yX2_rankOf cX2_rankOf 5 (some .int), Cond.fieldLink RX2 7 "ColourForests$LimitKind" "graph" "LColourForests$Graph;", Cond.sameField "ColourForests$LimitKind" "ColourForests$Kind" "graph" "LColourForests$Graph;", Cond.fieldLink RX2 19 "ColourForests$Graph" "edges" "I", Cond.methodLink RX2 13 yX0_fullRoom, Cond.static yX5_hasBit, Cond.code yX5_hasBit cX5_hasBit 2 (some .boolean), Cond.methodLink RX2 29 yX0_hasRoom, Cond.methodLink RX2 32 yX0_roomAfter, Cond.selects RX3 ⟨"ColourForests$Kind", "rankOf", "(I)I"⟩ yX3_rankOf, Cond.instanceMethod yX3_rankOf, Cond.initialized RX3, Cond.code yX3_rankOf cX3_rankOf 5 (some .int)]
def wsX5_witness_r7 : List Cond := [Cond.fieldLink RX3 7 "ColourForests$RinglessKind" "graph" "LColourForests$Graph;", Cond.sameField "ColourForests$RinglessKind" "ColourForests$Kind" "graph" "LColourForests$Graph;", Cond.fieldLink RX3 19 "ColourForests$Graph" "edges" "I", Cond.methodLink RX3 13 yX0_loneParts, Cond.methodLink RX3 29 yX0_joinsTwoParts, Cond.methodLink RX3 32 yX0_partsJoinedBy, Cond.selects RX3 ⟨"ColourForests$Kind", "closureOf", "(I)I"⟩ yX1_closureOf, Cond.methodLink RX5 178 yJ6_lowestOneBit_0f7a4, Cond.static yJ6_lowestOneBit_0f7a4, Cond.code yJ6_lowestOneBit_0f7a4 cJ6_lowestOneBit_0f7a4 1 (some .int), Cond.methodLink RX5 133 ⟨"ColourForests$Kind", "circuitWithin", "(I)I"⟩, Cond.sameMethod "ColourForests$Kind" "ColourForests$Kind" "circuitWithin" "(I)I", Cond.selects RX2 ⟨"ColourForests$Kind", "circuitWithin", "(I)I"⟩ yX1_circuitWithin, Cond.instanceMethod yX1_circuitWithin, Cond.code yX1_circuitWithin cX1_circuitWithin 6 (some .int), Cond.selects RX3 ⟨"ColourForests$Kind", "circuitWithin", "(I)I"⟩ yX1_circuitWithin, Cond.methodLink RX5 158 yX5_greatestWitness, Cond.instanceMethod yX5_greatestWitness, Cond.selects RX5 yX5_greatestWitness yX5_greatestWitness, Cond.code yX5_greatestWitness cX5_greatestWitness 1 (some .int)]
def wsX5_witness : List Cond := .code yX5_witness cX5_witness 2 (some .int) :: ((wsX5_witness_r1 ++ (wsX5_witness_r2 ++ (wsX5_witness_r3 ++ (wsX5_witness_r4 ++ (wsX5_witness_r5 ++ (wsX5_witness_r6 ++ wsX5_witness_r7)))))) ++ wsX50 ++ wsX40 ++ wsX00 ++ wsX20 ++ wsX30)
def wsX5_dearestAreSuch_r1 : List Cond := [Cond.fieldLink RX5 34 "ColourForests" "survey" "LColourForests$Survey;", Cond.fieldLink RX5 139 "ColourForests$Survey" "most" "I", Cond.fieldLink RX5 145 "ColourForests$Survey" "dearestSets" "[I", Cond.methodLink RX5 119 yX5_isCommon, Cond.instanceMethod yX5_isCommon, Cond.selects RX5 yX5_isCommon yX5_isCommon, Cond.initialized RX5, Cond.code yX5_isCommon cX5_isCommon 2 (some .boolean), Cond.fieldLink RX5 21 "ColourForests" "ringless" "LColourForests$Kind;", Cond.fieldLink RX5 28 "ColourForests" "withinLimits" "LColourForests$Kind;", Cond.methodLink RX5 126 ⟨"ColourForests$Kind", "allows", "(I)Z"⟩, Cond.sameMethod "ColourForests$Kind" "ColourForests$Kind" "allows" "(I)Z", Cond.selects RX2 ⟨"ColourForests$Kind", "allows", "(I)Z"⟩ yX1_allows, Cond.instanceMethod yX1_allows, Cond.initialized RX1, Cond.code yX1_allows cX1_allows 2 (some .boolean), Cond.methodLink RX1 13 ⟨"ColourForests$Kind", "rankOf", "(I)I"⟩, Cond.sameMethod "ColourForests$Kind" "ColourForests$Kind" "rankOf" "(I)I", Cond.selects RX2 ⟨"ColourForests$Kind", "rankOf", "(I)I"⟩ yX2_rankOf, Cond.instanceMethod yX2_rankOf, Cond.initialized RX2, Cond.code yX2_rankOf cX2_rankOf 5 (some .int), Cond.fieldLink RX2 7 "ColourForests$LimitKind" "graph" "LColourForests$Graph;", Cond.sameField "ColourForests$LimitKind" "ColourForests$Kind" "graph" "LColourForests$Graph;"]
def wsX5_dearestAreSuch_r2 : List Cond := [Cond.fieldLink RX2 19 "ColourForests$Graph" "edges" "I", Cond.methodLink RX2 13 yX0_fullRoom, Cond.instanceMethod yX0_fullRoom, Cond.selects RX0 yX0_fullRoom yX0_fullRoom, Cond.initialized RX0, Cond.code yX0_fullRoom cX0_fullRoom 3 (some .int), Cond.fieldLink RX0 31 "ColourForests$Graph" "colours" "I", Cond.fieldLink RX0 9 "ColourForests$Graph" "limits" "[I", Cond.static yX5_withCell, Cond.code yX5_withCell cX5_withCell 4 (some .int), Cond.static yX5_hasBit, Cond.code yX5_hasBit cX5_hasBit 2 (some .boolean), Cond.methodLink RX2 29 yX0_hasRoom, Cond.instanceMethod yX0_hasRoom, Cond.selects RX0 yX0_hasRoom yX0_hasRoom, Cond.code yX0_hasRoom cX0_hasRoom 3 (some .boolean), Cond.fieldLink RX0 21 "ColourForests$Graph" "hues" "[I", Cond.static yX5_cell, Cond.code yX5_cell cX5_cell 2 (some .int), Cond.methodLink RX2 32 yX0_roomAfter, Cond.instanceMethod yX0_roomAfter, Cond.selects RX0 yX0_roomAfter yX0_roomAfter, Cond.code yX0_roomAfter cX0_roomAfter 3 (some .int), Cond.selects RX3 ⟨"ColourForests$Kind", "rankOf", "(I)I"⟩ yX3_rankOf]
def wsX5_dearestAreSuch_r3 : List Cond := [Cond.instanceMethod yX3_rankOf, Cond.initialized RX3, Cond.code yX3_rankOf cX3_rankOf 5 (some .int), Cond.fieldLink RX3 7 "ColourForests$RinglessKind" "graph" "LColourForests$Graph;", Cond.sameField "ColourForests$RinglessKind" "ColourForests$Kind" "graph" "LColourForests$Graph;", Cond.fieldLink RX3 19 "ColourForests$Graph" "edges" "I", Cond.methodLink RX3 13 yX0_loneParts, Cond.instanceMethod yX0_loneParts, Cond.selects RX0 yX0_loneParts yX0_loneParts, Cond.code yX0_loneParts cX0_loneParts 3 (some .int), Cond.fieldLink RX0 27 "ColourForests$Graph" "vertices" "I", Cond.methodLink RX3 29 yX0_joinsTwoParts, Cond.instanceMethod yX0_joinsTwoParts, Cond.selects RX0 yX0_joinsTwoParts yX0_joinsTwoParts, Cond.code yX0_joinsTwoParts cX0_joinsTwoParts 3 (some .boolean), Cond.fieldLink RX0 15 "ColourForests$Graph" "firstEnds" "[I", Cond.fieldLink RX0 18 "ColourForests$Graph" "secondEnds" "[I", Cond.methodLink RX3 32 yX0_partsJoinedBy, Cond.instanceMethod yX0_partsJoinedBy, Cond.selects RX0 yX0_partsJoinedBy yX0_partsJoinedBy, Cond.code yX0_partsJoinedBy cX0_partsJoinedBy 7 (some .int), Cond.methodLink RX1 17 yJ6_bitCount_0f7a4, Cond.static yJ6_bitCount_0f7a4, Cond.initialized RJ6]
def wsX5_dearestAreSuch_r4 : List Cond := [Cond.code yJ6_bitCount_0f7a4 cJ6_bitCount_0f7a4 1 (some .int), Cond.constant RJ6 265 (1431655765), Cond.constant RJ6 266 (858993459), Cond.constant RJ6 267 (252645135), Cond.selects RX3 ⟨"ColourForests$Kind", "allows", "(I)Z"⟩ yX1_allows, Cond.methodLink RX5 183 yJ6_bitCount_0f7a4]
def wsX5_dearestAreSuch : List Cond := .code yX5_dearestAreSuch cX5_dearestAreSuch 3 (some .boolean) :: ((wsX5_dearestAreSuch_r1 ++ (wsX5_dearestAreSuch_r2 ++ (wsX5_dearestAreSuch_r3 ++ wsX5_dearestAreSuch_r4))) ++ wsX50 ++ wsX40 ++ wsX20 ++ wsX30 ++ wsX00)
def wsX5_gainsNeverRise : List Cond := .code yX5_gainsNeverRise cX5_gainsNeverRise 4 (some .boolean) :: ([.fieldLink RX5 34 "ColourForests" "survey" "LColourForests$Survey;", .fieldLink RX5 139 "ColourForests$Survey" "most" "I", .fieldLink RX5 151 "ColourForests$Survey" "dearestWeights" "[I"] ++ wsX50 ++ wsX40)
def wsX5_isWitness_r1 : List Cond := [Cond.fieldLink RX5 10 "ColourForests" "graph" "LColourForests$Graph;", Cond.fieldLink RX5 21 "ColourForests" "ringless" "LColourForests$Kind;", Cond.fieldLink RX5 28 "ColourForests" "withinLimits" "LColourForests$Kind;", Cond.fieldLink RX5 34 "ColourForests" "survey" "LColourForests$Survey;", Cond.fieldLink RX5 139 "ColourForests$Survey" "most" "I", Cond.methodLink RX5 171 yX0_allEdges, Cond.instanceMethod yX0_allEdges, Cond.selects RX0 yX0_allEdges yX0_allEdges, Cond.initialized RX0, Cond.code yX0_allEdges cX0_allEdges 1 (some .int), Cond.fieldLink RX0 34 "ColourForests$Graph" "edges" "I", Cond.methodLink RX5 113 ⟨"ColourForests$Kind", "rankOf", "(I)I"⟩, Cond.sameMethod "ColourForests$Kind" "ColourForests$Kind" "rankOf" "(I)I", Cond.selects RX2 ⟨"ColourForests$Kind", "rankOf", "(I)I"⟩ yX2_rankOf, Cond.instanceMethod yX2_rankOf, Cond.initialized RX2, Cond.code yX2_rankOf cX2_rankOf 5 (some .int), Cond.fieldLink RX2 7 "ColourForests$LimitKind" "graph" "LColourForests$Graph;", Cond.sameField "ColourForests$LimitKind" "ColourForests$Kind" "graph" "LColourForests$Graph;", Cond.fieldLink RX2 19 "ColourForests$Graph" "edges" "I", Cond.methodLink RX2 13 yX0_fullRoom, Cond.instanceMethod yX0_fullRoom, Cond.selects RX0 yX0_fullRoom yX0_fullRoom, Cond.code yX0_fullRoom cX0_fullRoom 3 (some .int)]
def wsX5_isWitness_r2 : List Cond := [Cond.fieldLink RX0 31 "ColourForests$Graph" "colours" "I", Cond.fieldLink RX0 9 "ColourForests$Graph" "limits" "[I", Cond.static yX5_withCell, Cond.initialized RX5, Cond.code yX5_withCell cX5_withCell 4 (some .int), Cond.static yX5_hasBit, Cond.code yX5_hasBit cX5_hasBit 2 (some .boolean), Cond.methodLink RX2 29 yX0_hasRoom, Cond.instanceMethod yX0_hasRoom, Cond.selects RX0 yX0_hasRoom yX0_hasRoom, Cond.code yX0_hasRoom cX0_hasRoom 3 (some .boolean), Cond.fieldLink RX0 21 "ColourForests$Graph" "hues" "[I", Cond.static yX5_cell, Cond.code yX5_cell cX5_cell 2 (some .int), Cond.methodLink RX2 32 yX0_roomAfter, Cond.instanceMethod yX0_roomAfter, Cond.selects RX0 yX0_roomAfter yX0_roomAfter, Cond.code yX0_roomAfter cX0_roomAfter 3 (some .int), Cond.selects RX3 ⟨"ColourForests$Kind", "rankOf", "(I)I"⟩ yX3_rankOf, Cond.instanceMethod yX3_rankOf, Cond.initialized RX3, Cond.code yX3_rankOf cX3_rankOf 5 (some .int), Cond.fieldLink RX3 7 "ColourForests$RinglessKind" "graph" "LColourForests$Graph;", Cond.sameField "ColourForests$RinglessKind" "ColourForests$Kind" "graph" "LColourForests$Graph;"]
def wsX5_isWitness_r3 : List Cond := [Cond.fieldLink RX3 19 "ColourForests$Graph" "edges" "I", Cond.methodLink RX3 13 yX0_loneParts, Cond.instanceMethod yX0_loneParts, Cond.selects RX0 yX0_loneParts yX0_loneParts, Cond.code yX0_loneParts cX0_loneParts 3 (some .int), Cond.fieldLink RX0 27 "ColourForests$Graph" "vertices" "I", Cond.methodLink RX3 29 yX0_joinsTwoParts, Cond.instanceMethod yX0_joinsTwoParts, Cond.selects RX0 yX0_joinsTwoParts yX0_joinsTwoParts, Cond.code yX0_joinsTwoParts cX0_joinsTwoParts 3 (some .boolean), Cond.fieldLink RX0 15 "ColourForests$Graph" "firstEnds" "[I", Cond.fieldLink RX0 18 "ColourForests$Graph" "secondEnds" "[I", Cond.methodLink RX3 32 yX0_partsJoinedBy, Cond.instanceMethod yX0_partsJoinedBy, Cond.selects RX0 yX0_partsJoinedBy yX0_partsJoinedBy, Cond.code yX0_partsJoinedBy cX0_partsJoinedBy 7 (some .int)]
def wsX5_isWitness : List Cond := .code yX5_isWitness cX5_isWitness 3 (some .boolean) :: ((wsX5_isWitness_r1 ++ (wsX5_isWitness_r2 ++ wsX5_isWitness_r3)) ++ wsX50 ++ wsX40 ++ wsX00 ++ wsX20 ++ wsX30)
def wsX5_check_r1 : List Cond := [Cond.fieldLink RX5 34 "ColourForests" "survey" "LColourForests$Survey;", Cond.methodLink RX5 97 yX4_refresh, Cond.instanceMethod yX4_refresh, Cond.selects RX4 yX4_refresh yX4_refresh, Cond.initialized RX4, Cond.code yX4_refresh cX4_refresh 1 none, Cond.fieldLink RX4 11 "ColourForests$Survey" "changesSeen" "I", Cond.fieldLink RX4 31 "ColourForests$Survey" "graph" "LColourForests$Graph;", Cond.fieldLink RX4 42 "ColourForests$Graph" "changes" "I", Cond.methodLink RX4 47 yX4_walk, Cond.instanceMethod yX4_walk, Cond.selects RX4 yX4_walk yX4_walk, Cond.code yX4_walk cX4_walk 5 none, Cond.fieldLink RX4 53 "ColourForests$Graph" "edges" "I", Cond.methodLink RX4 50 yX4_begin, Cond.instanceMethod yX4_begin, Cond.selects RX4 yX4_begin yX4_begin, Cond.code yX4_begin cX4_begin 1 none, Cond.fieldLink RX4 22 "ColourForests$Survey" "partsFrom" "[I", Cond.fieldLink RX4 25 "ColourForests$Survey" "roomFrom" "[I", Cond.fieldLink RX4 28 "ColourForests$Survey" "weightFrom" "[I", Cond.fieldLink RX4 80 "ColourForests$Survey" "widest" "I", Cond.fieldLink RX4 83 "ColourForests$Survey" "widestForests" "I", Cond.fieldLink RX4 86 "ColourForests$Survey" "commonSets" "I"]
def wsX5_check_r2 : List Cond := [Cond.fieldLink RX4 35 "ColourForests$Survey" "most" "I", Cond.fieldLink RX4 15 "ColourForests$Survey" "dearestSets" "[I", Cond.fieldLink RX4 19 "ColourForests$Survey" "dearestWeights" "[I", Cond.methodLink RX4 73 yX0_loneParts, Cond.instanceMethod yX0_loneParts, Cond.selects RX0 yX0_loneParts yX0_loneParts, Cond.initialized RX0, Cond.code yX0_loneParts cX0_loneParts 3 (some .int), Cond.fieldLink RX0 27 "ColourForests$Graph" "vertices" "I", Cond.static yX5_withCell, Cond.initialized RX5, Cond.code yX5_withCell cX5_withCell 4 (some .int), Cond.methodLink RX4 77 yX0_fullRoom, Cond.instanceMethod yX0_fullRoom, Cond.selects RX0 yX0_fullRoom yX0_fullRoom, Cond.code yX0_fullRoom cX0_fullRoom 3 (some .int), Cond.fieldLink RX0 31 "ColourForests$Graph" "colours" "I", Cond.fieldLink RX0 9 "ColourForests$Graph" "limits" "[I", Cond.methodLink RX4 56 yJ6_numberOfTrailingZeros_0f7a4, Cond.static yJ6_numberOfTrailingZeros_0f7a4, Cond.initialized RJ6, Cond.code yJ6_numberOfTrailingZeros_0f7a4 cJ6_numberOfTrailingZeros_0f7a4 2 (some .int), Cond.constant RJ6 264 (65536), Cond.methodLink RX4 62 yX4_placeAbove]
def wsX5_check_r3 : List Cond := [Cond.instanceMethod yX4_placeAbove, Cond.selects RX4 yX4_placeAbove yX4_placeAbove, Cond.code yX4_placeAbove cX4_placeAbove 3 (some .int), Cond.methodLink RX4 65 yX4_enter, Cond.instanceMethod yX4_enter, Cond.selects RX4 yX4_enter yX4_enter, Cond.code yX4_enter cX4_enter 5 (some .boolean), Cond.fieldLink RX4 102 "ColourForests$Graph" "weights" "[I", Cond.methodLink RX4 89 yX0_joinsTwoParts, Cond.instanceMethod yX0_joinsTwoParts, Cond.selects RX0 yX0_joinsTwoParts yX0_joinsTwoParts, Cond.code yX0_joinsTwoParts cX0_joinsTwoParts 3 (some .boolean), Cond.fieldLink RX0 15 "ColourForests$Graph" "firstEnds" "[I", Cond.fieldLink RX0 18 "ColourForests$Graph" "secondEnds" "[I", Cond.static yX5_cell, Cond.code yX5_cell cX5_cell 2 (some .int), Cond.methodLink RX4 92 yX0_partsJoinedBy, Cond.instanceMethod yX0_partsJoinedBy, Cond.selects RX0 yX0_partsJoinedBy yX0_partsJoinedBy, Cond.code yX0_partsJoinedBy cX0_partsJoinedBy 7 (some .int), Cond.methodLink RX4 96 yX0_hasRoom, Cond.instanceMethod yX0_hasRoom, Cond.selects RX0 yX0_hasRoom yX0_hasRoom, Cond.code yX0_hasRoom cX0_hasRoom 3 (some .boolean)]
def wsX5_check_r4 : List Cond := [Cond.fieldLink RX0 21 "ColourForests$Graph" "hues" "[I", Cond.methodLink RX4 99 yX0_roomAfter, Cond.instanceMethod yX0_roomAfter, Cond.selects RX0 yX0_roomAfter yX0_roomAfter, Cond.code yX0_roomAfter cX0_roomAfter 3 (some .int), Cond.methodLink RX4 69 yX4_note, Cond.instanceMethod yX4_note, Cond.selects RX4 yX4_note yX4_note, Cond.code yX4_note cX4_note 4 none, Cond.methodLink RX4 105 yJ6_bitCount_0f7a4, Cond.static yJ6_bitCount_0f7a4, Cond.code yJ6_bitCount_0f7a4 cJ6_bitCount_0f7a4 1 (some .int), Cond.constant RJ6 265 (1431655765), Cond.constant RJ6 266 (858993459), Cond.constant RJ6 267 (252645135), Cond.methodLink RX4 108 yX4_noteForest, Cond.instanceMethod yX4_noteForest, Cond.selects RX4 yX4_noteForest yX4_noteForest, Cond.code yX4_noteForest cX4_noteForest 2 none, Cond.methodLink RX4 112 yX4_noteCommon, Cond.instanceMethod yX4_noteCommon, Cond.selects RX4 yX4_noteCommon yX4_noteCommon, Cond.code yX4_noteCommon cX4_noteCommon 4 none, Cond.methodLink RX4 116 Lib.Math.max.name]
def wsX5_check_r5 : List Cond := [Cond.static Lib.Math.max.name, Cond.initialized "java/lang/Math", Cond.code Lib.Math.max.name Lib.Math.max.code 2 (some .int), Cond.methodLink RX5 161 yX5_dearestAreSuch, Cond.instanceMethod yX5_dearestAreSuch, Cond.selects RX5 yX5_dearestAreSuch yX5_dearestAreSuch, Cond.code yX5_dearestAreSuch cX5_dearestAreSuch 3 (some .boolean), Cond.fieldLink RX5 139 "ColourForests$Survey" "most" "I", Cond.fieldLink RX5 145 "ColourForests$Survey" "dearestSets" "[I", Cond.methodLink RX5 119 yX5_isCommon, Cond.instanceMethod yX5_isCommon, Cond.selects RX5 yX5_isCommon yX5_isCommon, Cond.code yX5_isCommon cX5_isCommon 2 (some .boolean), Cond.fieldLink RX5 21 "ColourForests" "ringless" "LColourForests$Kind;", Cond.fieldLink RX5 28 "ColourForests" "withinLimits" "LColourForests$Kind;", Cond.methodLink RX5 126 ⟨"ColourForests$Kind", "allows", "(I)Z"⟩, Cond.sameMethod "ColourForests$Kind" "ColourForests$Kind" "allows" "(I)Z", Cond.selects RX2 ⟨"ColourForests$Kind", "allows", "(I)Z"⟩ yX1_allows, Cond.instanceMethod yX1_allows, Cond.initialized RX1, Cond.code yX1_allows cX1_allows 2 (some .boolean), Cond.methodLink RX1 13 ⟨"ColourForests$Kind", "rankOf", "(I)I"⟩, Cond.sameMethod "ColourForests$Kind" "ColourForests$Kind" "rankOf" "(I)I", Cond.selects RX2 ⟨"ColourForests$Kind", "rankOf", "(I)I"⟩ yX2_rankOf]
def wsX5_check_r6 : List Cond := [Cond.instanceMethod yX2_rankOf, Cond.initialized RX2, Cond.code yX2_rankOf cX2_rankOf 5 (some .int), Cond.fieldLink RX2 7 "ColourForests$LimitKind" "graph" "LColourForests$Graph;", Cond.sameField "ColourForests$LimitKind" "ColourForests$Kind" "graph" "LColourForests$Graph;", Cond.fieldLink RX2 19 "ColourForests$Graph" "edges" "I", Cond.methodLink RX2 13 yX0_fullRoom, Cond.static yX5_hasBit, Cond.code yX5_hasBit cX5_hasBit 2 (some .boolean), Cond.methodLink RX2 29 yX0_hasRoom, Cond.methodLink RX2 32 yX0_roomAfter, Cond.selects RX3 ⟨"ColourForests$Kind", "rankOf", "(I)I"⟩ yX3_rankOf, Cond.instanceMethod yX3_rankOf, Cond.initialized RX3, Cond.code yX3_rankOf cX3_rankOf 5 (some .int), Cond.fieldLink RX3 7 "ColourForests$RinglessKind" "graph" "LColourForests$Graph;", Cond.sameField "ColourForests$RinglessKind" "ColourForests$Kind" "graph" "LColourForests$Graph;", Cond.fieldLink RX3 19 "ColourForests$Graph" "edges" "I", Cond.methodLink RX3 13 yX0_loneParts, Cond.methodLink RX3 29 yX0_joinsTwoParts, Cond.methodLink RX3 32 yX0_partsJoinedBy, Cond.methodLink RX1 17 yJ6_bitCount_0f7a4, Cond.selects RX3 ⟨"ColourForests$Kind", "allows", "(I)Z"⟩ yX1_allows, Cond.methodLink RX5 183 yJ6_bitCount_0f7a4]
def wsX5_check_r7 : List Cond := [Cond.methodLink RX5 165 yX5_gainsNeverRise, Cond.instanceMethod yX5_gainsNeverRise, Cond.selects RX5 yX5_gainsNeverRise yX5_gainsNeverRise, Cond.code yX5_gainsNeverRise cX5_gainsNeverRise 4 (some .boolean), Cond.fieldLink RX5 151 "ColourForests$Survey" "dearestWeights" "[I", Cond.methodLink RX5 154 yX5_leastWitness, Cond.instanceMethod yX5_leastWitness, Cond.selects RX5 yX5_leastWitness yX5_leastWitness, Cond.code yX5_leastWitness cX5_leastWitness 1 (some .int), Cond.methodLink RX5 174 yX5_leastSplit, Cond.instanceMethod yX5_leastSplit, Cond.selects RX5 yX5_leastSplit yX5_leastSplit, Cond.code yX5_leastSplit cX5_leastSplit 8 (some .int), Cond.fieldLink RX5 10 "ColourForests" "graph" "LColourForests$Graph;", Cond.fieldLink RX5 63 "ColourForests$Graph" "edges" "I", Cond.methodLink RX5 171 yX0_allEdges, Cond.instanceMethod yX0_allEdges, Cond.selects RX0 yX0_allEdges yX0_allEdges, Cond.code yX0_allEdges cX0_allEdges 1 (some .int), Cond.fieldLink RX0 34 "ColourForests$Graph" "edges" "I", Cond.methodLink RX5 136 ⟨"ColourForests$Kind", "closureOf", "(I)I"⟩, Cond.sameMethod "ColourForests$Kind" "ColourForests$Kind" "closureOf" "(I)I", Cond.selects RX2 ⟨"ColourForests$Kind", "closureOf", "(I)I"⟩ yX1_closureOf, Cond.instanceMethod yX1_closureOf]
def wsX5_check_r8 : List Cond := [Cond.code yX1_closureOf cX1_closureOf 6 (some .int), Cond.fieldLink RX1 7 "ColourForests$Kind" "graph" "LColourForests$Graph;", Cond.fieldLink RX1 22 "ColourForests$Graph" "edges" "I", Cond.selects RX3 ⟨"ColourForests$Kind", "closureOf", "(I)I"⟩ yX1_closureOf, Cond.methodLink RX5 178 yJ6_lowestOneBit_0f7a4, Cond.static yJ6_lowestOneBit_0f7a4, Cond.code yJ6_lowestOneBit_0f7a4 cJ6_lowestOneBit_0f7a4 1 (some .int), Cond.methodLink RX5 133 ⟨"ColourForests$Kind", "circuitWithin", "(I)I"⟩, Cond.sameMethod "ColourForests$Kind" "ColourForests$Kind" "circuitWithin" "(I)I", Cond.selects RX2 ⟨"ColourForests$Kind", "circuitWithin", "(I)I"⟩ yX1_circuitWithin, Cond.instanceMethod yX1_circuitWithin, Cond.code yX1_circuitWithin cX1_circuitWithin 6 (some .int), Cond.selects RX3 ⟨"ColourForests$Kind", "circuitWithin", "(I)I"⟩ yX1_circuitWithin, Cond.methodLink RX5 168 yX5_isWitness, Cond.instanceMethod yX5_isWitness, Cond.selects RX5 yX5_isWitness yX5_isWitness, Cond.code yX5_isWitness cX5_isWitness 3 (some .boolean), Cond.methodLink RX5 113 ⟨"ColourForests$Kind", "rankOf", "(I)I"⟩, Cond.methodLink RX5 158 yX5_greatestWitness, Cond.instanceMethod yX5_greatestWitness, Cond.selects RX5 yX5_greatestWitness yX5_greatestWitness, Cond.code yX5_greatestWitness cX5_greatestWitness 1 (some .int), Cond.methodLink RX5 122 yX5_told, Cond.static yX5_told]
def wsX5_check_r9 : List Cond := [Cond.code yX5_told cX5_told 1 (some .int)]
def wsX5_check : List Cond := .code yX5_check cX5_check 2 (some .int) :: ((wsX5_check_r1 ++ (wsX5_check_r2 ++ (wsX5_check_r3 ++ (wsX5_check_r4 ++ (wsX5_check_r5 ++ (wsX5_check_r6 ++ (wsX5_check_r7 ++ (wsX5_check_r8 ++ wsX5_check_r9)))))))) ++ wsX50 ++ wsX40 ++ wsX00 ++ wsX20 ++ wsX30)
def wsX6_init : List Cond := .code yX6_init cX6_init 1 none :: ([.methodLink RX6 1 objectInit, .instanceMethod objectInit, .code objectInit ⟨#[0xb1]⟩ 1 none, .fieldLink RX6 7 "ColourForestsModel" "vertices" "I", .fieldLink RX6 13 "ColourForestsModel" "colours" "I", .arrayClass .int, .fieldLink RX6 16 "ColourForestsModel" "limits" "[I", .fieldLink RX6 20 "ColourForestsModel" "firsts" "[I", .fieldLink RX6 23 "ColourForestsModel" "seconds" "[I", .fieldLink RX6 26 "ColourForestsModel" "colourOf" "[I", .fieldLink RX6 29 "ColourForestsModel" "weights" "[I", .constant RX6 32 (32768), .arrayClass .boolean, .fieldLink RX6 33 "ColourForestsModel" "free" "[Z", .fieldLink RX6 37 "ColourForestsModel" "ranks" "[I", .fieldLink RX6 40 "ColourForestsModel" "best" "[I", .fieldLink RX6 43 "ColourForestsModel" "parts" "[I", .fieldLink RX6 46 "ColourForestsModel" "counts" "[I"] ++ wsX60)
def wsX6_thrown : List Cond := .code yX6_thrown cX6_thrown 1 (some .int) :: ([.fieldLink RX6 49 "ColourForestsModel" "thrown" "I"] ++ wsX60)
def wsX6_refuses : List Cond := .code yX6_refuses cX6_refuses 2 (some .boolean) :: ([.fieldLink RX6 49 "ColourForestsModel" "thrown" "I"] ++ wsX60)
def wsX6_make : List Cond := .code yX6_make cX6_make 4 none :: ([.fieldLink RX6 7 "ColourForestsModel" "vertices" "I", .fieldLink RX6 13 "ColourForestsModel" "colours" "I", .fieldLink RX6 56 "ColourForestsModel" "edges" "I", .fieldLink RX6 16 "ColourForestsModel" "limits" "[I", .fieldLink RX6 59 "ColourForestsModel" "known" "Z", .methodLink RX6 52 yX6_refuses, .instanceMethod yX6_refuses, .selects RX6 yX6_refuses yX6_refuses, .initialized RX6, .code yX6_refuses cX6_refuses 2 (some .boolean), .fieldLink RX6 49 "ColourForestsModel" "thrown" "I"] ++ wsX60)
def wsX6_isHeavy : List Cond := .code yX6_isHeavy cX6_isHeavy 1 (some .boolean) :: ([])
def wsX6_edge : List Cond := .code yX6_edge cX6_edge 6 (some .int) :: ([.fieldLink RX6 49 "ColourForestsModel" "thrown" "I", .fieldLink RX6 7 "ColourForestsModel" "vertices" "I", .fieldLink RX6 13 "ColourForestsModel" "colours" "I", .fieldLink RX6 56 "ColourForestsModel" "edges" "I", .fieldLink RX6 20 "ColourForestsModel" "firsts" "[I", .fieldLink RX6 23 "ColourForestsModel" "seconds" "[I", .fieldLink RX6 26 "ColourForestsModel" "colourOf" "[I", .fieldLink RX6 29 "ColourForestsModel" "weights" "[I", .fieldLink RX6 59 "ColourForestsModel" "known" "Z", .methodLink RX6 63 yX6_isHeavy, .static yX6_isHeavy, .initialized RX6, .code yX6_isHeavy cX6_isHeavy 1 (some .boolean)] ++ wsX60)
def wsX6_limit : List Cond := .code yX6_limit cX6_limit 3 none :: ([.fieldLink RX6 13 "ColourForestsModel" "colours" "I", .fieldLink RX6 16 "ColourForestsModel" "limits" "[I", .fieldLink RX6 59 "ColourForestsModel" "known" "Z", .methodLink RX6 52 yX6_refuses, .instanceMethod yX6_refuses, .selects RX6 yX6_refuses yX6_refuses, .initialized RX6, .code yX6_refuses cX6_refuses 2 (some .boolean), .fieldLink RX6 49 "ColourForestsModel" "thrown" "I"] ++ wsX60)
def wsX6_weigh : List Cond := .code yX6_weigh cX6_weigh 3 none :: ([.fieldLink RX6 56 "ColourForestsModel" "edges" "I", .fieldLink RX6 29 "ColourForestsModel" "weights" "[I", .fieldLink RX6 59 "ColourForestsModel" "known" "Z", .methodLink RX6 63 yX6_isHeavy, .static yX6_isHeavy, .initialized RX6, .code yX6_isHeavy cX6_isHeavy 1 (some .boolean), .methodLink RX6 52 yX6_refuses, .instanceMethod yX6_refuses, .selects RX6 yX6_refuses yX6_refuses, .code yX6_refuses cX6_refuses 2 (some .boolean), .fieldLink RX6 49 "ColourForestsModel" "thrown" "I"] ++ wsX60)
def wsX6_has : List Cond := .code yX6_has cX6_has 2 (some .boolean) :: ([])
def wsX6_size : List Cond := .code yX6_size cX6_size 3 (some .int) :: ([])
def wsX6_hasNoRing : List Cond := .code yX6_hasNoRing cX6_hasNoRing 6 (some .boolean) :: ([.fieldLink RX6 7 "ColourForestsModel" "vertices" "I", .fieldLink RX6 43 "ColourForestsModel" "parts" "[I", .fieldLink RX6 56 "ColourForestsModel" "edges" "I", .fieldLink RX6 20 "ColourForestsModel" "firsts" "[I", .fieldLink RX6 23 "ColourForestsModel" "seconds" "[I", .methodLink RX6 66 yX6_has, .static yX6_has, .initialized RX6, .code yX6_has cX6_has 2 (some .boolean)] ++ wsX60)
def wsX6_keepsLimits : List Cond := .code yX6_keepsLimits cX6_keepsLimits 4 (some .boolean) :: ([.fieldLink RX6 13 "ColourForestsModel" "colours" "I", .fieldLink RX6 46 "ColourForestsModel" "counts" "[I", .fieldLink RX6 56 "ColourForestsModel" "edges" "I", .fieldLink RX6 26 "ColourForestsModel" "colourOf" "[I", .fieldLink RX6 16 "ColourForestsModel" "limits" "[I", .methodLink RX6 66 yX6_has, .static yX6_has, .initialized RX6, .code yX6_has cX6_has 2 (some .boolean)] ++ wsX60)
def wsX6_weightOf : List Cond := .code yX6_weightOf cX6_weightOf 4 (some .int) :: ([.fieldLink RX6 56 "ColourForestsModel" "edges" "I", .fieldLink RX6 29 "ColourForestsModel" "weights" "[I", .methodLink RX6 66 yX6_has, .static yX6_has, .initialized RX6, .code yX6_has cX6_has 2 (some .boolean)] ++ wsX60)
def wsX6_learn_r1 : List Cond := [Cond.fieldLink RX6 59 "ColourForestsModel" "known" "Z", Cond.fieldLink RX6 70 "ColourForestsModel" "most" "I", Cond.fieldLink RX6 40 "ColourForestsModel" "best" "[I", Cond.fieldLink RX6 56 "ColourForestsModel" "edges" "I", Cond.fieldLink RX6 33 "ColourForestsModel" "free" "[Z", Cond.fieldLink RX6 37 "ColourForestsModel" "ranks" "[I", Cond.methodLink RX6 73 yX6_hasNoRing, Cond.instanceMethod yX6_hasNoRing, Cond.selects RX6 yX6_hasNoRing yX6_hasNoRing, Cond.initialized RX6, Cond.code yX6_hasNoRing cX6_hasNoRing 6 (some .boolean), Cond.fieldLink RX6 7 "ColourForestsModel" "vertices" "I", Cond.fieldLink RX6 43 "ColourForestsModel" "parts" "[I", Cond.fieldLink RX6 20 "ColourForestsModel" "firsts" "[I", Cond.fieldLink RX6 23 "ColourForestsModel" "seconds" "[I", Cond.methodLink RX6 66 yX6_has, Cond.static yX6_has, Cond.code yX6_has cX6_has 2 (some .boolean), Cond.methodLink RX6 76 yX6_keepsLimits, Cond.instanceMethod yX6_keepsLimits, Cond.selects RX6 yX6_keepsLimits yX6_keepsLimits, Cond.code yX6_keepsLimits cX6_keepsLimits 4 (some .boolean), Cond.fieldLink RX6 13 "ColourForestsModel" "colours" "I", Cond.fieldLink RX6 46 "ColourForestsModel" "counts" "[I"]
def wsX6_learn_r2 : List Cond := [Cond.fieldLink RX6 26 "ColourForestsModel" "colourOf" "[I", Cond.fieldLink RX6 16 "ColourForestsModel" "limits" "[I", Cond.methodLink RX6 79 yX6_size, Cond.static yX6_size, Cond.code yX6_size cX6_size 3 (some .int), Cond.methodLink RX6 83 yX6_weightOf, Cond.instanceMethod yX6_weightOf, Cond.selects RX6 yX6_weightOf yX6_weightOf, Cond.code yX6_weightOf cX6_weightOf 4 (some .int), Cond.fieldLink RX6 29 "ColourForestsModel" "weights" "[I"]
def wsX6_learn : List Cond := .code yX6_learn cX6_learn 6 none :: ((wsX6_learn_r1 ++ wsX6_learn_r2) ++ wsX60)
def wsX6_isSet : List Cond := .code yX6_isSet cX6_isSet 2 (some .boolean) :: ([.fieldLink RX6 56 "ColourForestsModel" "edges" "I"] ++ wsX60)
def wsX6_isKind : List Cond := .code yX6_isKind cX6_isKind 1 (some .boolean) :: ([])
def wsX6_count_r1 : List Cond := [Cond.fieldLink RX6 49 "ColourForestsModel" "thrown" "I", Cond.fieldLink RX6 37 "ColourForestsModel" "ranks" "[I", Cond.fieldLink RX6 56 "ColourForestsModel" "edges" "I", Cond.fieldLink RX6 33 "ColourForestsModel" "free" "[Z", Cond.fieldLink RX6 7 "ColourForestsModel" "vertices" "I", Cond.fieldLink RX6 13 "ColourForestsModel" "colours" "I", Cond.methodLink RX6 86 yX6_learn, Cond.instanceMethod yX6_learn, Cond.selects RX6 yX6_learn yX6_learn, Cond.initialized RX6, Cond.code yX6_learn cX6_learn 6 none, Cond.fieldLink RX6 59 "ColourForestsModel" "known" "Z", Cond.fieldLink RX6 70 "ColourForestsModel" "most" "I", Cond.fieldLink RX6 40 "ColourForestsModel" "best" "[I", Cond.methodLink RX6 73 yX6_hasNoRing, Cond.instanceMethod yX6_hasNoRing, Cond.selects RX6 yX6_hasNoRing yX6_hasNoRing, Cond.code yX6_hasNoRing cX6_hasNoRing 6 (some .boolean), Cond.fieldLink RX6 43 "ColourForestsModel" "parts" "[I", Cond.fieldLink RX6 20 "ColourForestsModel" "firsts" "[I", Cond.fieldLink RX6 23 "ColourForestsModel" "seconds" "[I", Cond.methodLink RX6 66 yX6_has, Cond.static yX6_has, Cond.code yX6_has cX6_has 2 (some .boolean)]
def wsX6_count_r2 : List Cond := [Cond.methodLink RX6 76 yX6_keepsLimits, Cond.instanceMethod yX6_keepsLimits, Cond.selects RX6 yX6_keepsLimits yX6_keepsLimits, Cond.code yX6_keepsLimits cX6_keepsLimits 4 (some .boolean), Cond.fieldLink RX6 46 "ColourForestsModel" "counts" "[I", Cond.fieldLink RX6 26 "ColourForestsModel" "colourOf" "[I", Cond.fieldLink RX6 16 "ColourForestsModel" "limits" "[I", Cond.methodLink RX6 79 yX6_size, Cond.static yX6_size, Cond.code yX6_size cX6_size 3 (some .int), Cond.methodLink RX6 83 yX6_weightOf, Cond.instanceMethod yX6_weightOf, Cond.selects RX6 yX6_weightOf yX6_weightOf, Cond.code yX6_weightOf cX6_weightOf 4 (some .int), Cond.fieldLink RX6 29 "ColourForestsModel" "weights" "[I"]
def wsX6_count : List Cond := .code yX6_count cX6_count 6 (some .int) :: ((wsX6_count_r1 ++ wsX6_count_r2) ++ wsX60)
def wsX6_rank_r1 : List Cond := [Cond.fieldLink RX6 49 "ColourForestsModel" "thrown" "I", Cond.fieldLink RX6 37 "ColourForestsModel" "ranks" "[I", Cond.methodLink RX6 89 yX6_isKind, Cond.static yX6_isKind, Cond.initialized RX6, Cond.code yX6_isKind cX6_isKind 1 (some .boolean), Cond.methodLink RX6 92 yX6_isSet, Cond.instanceMethod yX6_isSet, Cond.selects RX6 yX6_isSet yX6_isSet, Cond.code yX6_isSet cX6_isSet 2 (some .boolean), Cond.fieldLink RX6 56 "ColourForestsModel" "edges" "I", Cond.methodLink RX6 86 yX6_learn, Cond.instanceMethod yX6_learn, Cond.selects RX6 yX6_learn yX6_learn, Cond.code yX6_learn cX6_learn 6 none, Cond.fieldLink RX6 59 "ColourForestsModel" "known" "Z", Cond.fieldLink RX6 70 "ColourForestsModel" "most" "I", Cond.fieldLink RX6 40 "ColourForestsModel" "best" "[I", Cond.fieldLink RX6 33 "ColourForestsModel" "free" "[Z", Cond.methodLink RX6 73 yX6_hasNoRing, Cond.instanceMethod yX6_hasNoRing, Cond.selects RX6 yX6_hasNoRing yX6_hasNoRing, Cond.code yX6_hasNoRing cX6_hasNoRing 6 (some .boolean), Cond.fieldLink RX6 7 "ColourForestsModel" "vertices" "I"]
def wsX6_rank_r2 : List Cond := [Cond.fieldLink RX6 43 "ColourForestsModel" "parts" "[I", Cond.fieldLink RX6 20 "ColourForestsModel" "firsts" "[I", Cond.fieldLink RX6 23 "ColourForestsModel" "seconds" "[I", Cond.methodLink RX6 66 yX6_has, Cond.static yX6_has, Cond.code yX6_has cX6_has 2 (some .boolean), Cond.methodLink RX6 76 yX6_keepsLimits, Cond.instanceMethod yX6_keepsLimits, Cond.selects RX6 yX6_keepsLimits yX6_keepsLimits, Cond.code yX6_keepsLimits cX6_keepsLimits 4 (some .boolean), Cond.fieldLink RX6 13 "ColourForestsModel" "colours" "I", Cond.fieldLink RX6 46 "ColourForestsModel" "counts" "[I", Cond.fieldLink RX6 26 "ColourForestsModel" "colourOf" "[I", Cond.fieldLink RX6 16 "ColourForestsModel" "limits" "[I", Cond.methodLink RX6 79 yX6_size, Cond.static yX6_size, Cond.code yX6_size cX6_size 3 (some .int), Cond.methodLink RX6 83 yX6_weightOf, Cond.instanceMethod yX6_weightOf, Cond.selects RX6 yX6_weightOf yX6_weightOf, Cond.code yX6_weightOf cX6_weightOf 4 (some .int), Cond.fieldLink RX6 29 "ColourForestsModel" "weights" "[I"]
def wsX6_rank : List Cond := .code yX6_rank cX6_rank 3 (some .int) :: ((wsX6_rank_r1 ++ wsX6_rank_r2) ++ wsX60)
def wsX6_free_r1 : List Cond := [Cond.fieldLink RX6 49 "ColourForestsModel" "thrown" "I", Cond.fieldLink RX6 33 "ColourForestsModel" "free" "[Z", Cond.methodLink RX6 89 yX6_isKind, Cond.static yX6_isKind, Cond.initialized RX6, Cond.code yX6_isKind cX6_isKind 1 (some .boolean), Cond.methodLink RX6 92 yX6_isSet, Cond.instanceMethod yX6_isSet, Cond.selects RX6 yX6_isSet yX6_isSet, Cond.code yX6_isSet cX6_isSet 2 (some .boolean), Cond.fieldLink RX6 56 "ColourForestsModel" "edges" "I", Cond.methodLink RX6 86 yX6_learn, Cond.instanceMethod yX6_learn, Cond.selects RX6 yX6_learn yX6_learn, Cond.code yX6_learn cX6_learn 6 none, Cond.fieldLink RX6 59 "ColourForestsModel" "known" "Z", Cond.fieldLink RX6 70 "ColourForestsModel" "most" "I", Cond.fieldLink RX6 40 "ColourForestsModel" "best" "[I", Cond.fieldLink RX6 37 "ColourForestsModel" "ranks" "[I", Cond.methodLink RX6 73 yX6_hasNoRing, Cond.instanceMethod yX6_hasNoRing, Cond.selects RX6 yX6_hasNoRing yX6_hasNoRing, Cond.code yX6_hasNoRing cX6_hasNoRing 6 (some .boolean), Cond.fieldLink RX6 7 "ColourForestsModel" "vertices" "I"]
def wsX6_free_r2 : List Cond := [Cond.fieldLink RX6 43 "ColourForestsModel" "parts" "[I", Cond.fieldLink RX6 20 "ColourForestsModel" "firsts" "[I", Cond.fieldLink RX6 23 "ColourForestsModel" "seconds" "[I", Cond.methodLink RX6 66 yX6_has, Cond.static yX6_has, Cond.code yX6_has cX6_has 2 (some .boolean), Cond.methodLink RX6 76 yX6_keepsLimits, Cond.instanceMethod yX6_keepsLimits, Cond.selects RX6 yX6_keepsLimits yX6_keepsLimits, Cond.code yX6_keepsLimits cX6_keepsLimits 4 (some .boolean), Cond.fieldLink RX6 13 "ColourForestsModel" "colours" "I", Cond.fieldLink RX6 46 "ColourForestsModel" "counts" "[I", Cond.fieldLink RX6 26 "ColourForestsModel" "colourOf" "[I", Cond.fieldLink RX6 16 "ColourForestsModel" "limits" "[I", Cond.methodLink RX6 79 yX6_size, Cond.static yX6_size, Cond.code yX6_size cX6_size 3 (some .int), Cond.methodLink RX6 83 yX6_weightOf, Cond.instanceMethod yX6_weightOf, Cond.selects RX6 yX6_weightOf yX6_weightOf, Cond.code yX6_weightOf cX6_weightOf 4 (some .int), Cond.fieldLink RX6 29 "ColourForestsModel" "weights" "[I"]
def wsX6_free : List Cond := .code yX6_free cX6_free 4 (some .int) :: ((wsX6_free_r1 ++ wsX6_free_r2) ++ wsX60)
def wsX6_circuit_r1 : List Cond := [Cond.fieldLink RX6 49 "ColourForestsModel" "thrown" "I", Cond.fieldLink RX6 56 "ColourForestsModel" "edges" "I", Cond.fieldLink RX6 33 "ColourForestsModel" "free" "[Z", Cond.methodLink RX6 89 yX6_isKind, Cond.static yX6_isKind, Cond.initialized RX6, Cond.code yX6_isKind cX6_isKind 1 (some .boolean), Cond.methodLink RX6 92 yX6_isSet, Cond.instanceMethod yX6_isSet, Cond.selects RX6 yX6_isSet yX6_isSet, Cond.code yX6_isSet cX6_isSet 2 (some .boolean), Cond.methodLink RX6 86 yX6_learn, Cond.instanceMethod yX6_learn, Cond.selects RX6 yX6_learn yX6_learn, Cond.code yX6_learn cX6_learn 6 none, Cond.fieldLink RX6 59 "ColourForestsModel" "known" "Z", Cond.fieldLink RX6 70 "ColourForestsModel" "most" "I", Cond.fieldLink RX6 40 "ColourForestsModel" "best" "[I", Cond.fieldLink RX6 37 "ColourForestsModel" "ranks" "[I", Cond.methodLink RX6 73 yX6_hasNoRing, Cond.instanceMethod yX6_hasNoRing, Cond.selects RX6 yX6_hasNoRing yX6_hasNoRing, Cond.code yX6_hasNoRing cX6_hasNoRing 6 (some .boolean), Cond.fieldLink RX6 7 "ColourForestsModel" "vertices" "I"]
def wsX6_circuit_r2 : List Cond := [Cond.fieldLink RX6 43 "ColourForestsModel" "parts" "[I", Cond.fieldLink RX6 20 "ColourForestsModel" "firsts" "[I", Cond.fieldLink RX6 23 "ColourForestsModel" "seconds" "[I", Cond.methodLink RX6 66 yX6_has, Cond.static yX6_has, Cond.code yX6_has cX6_has 2 (some .boolean), Cond.methodLink RX6 76 yX6_keepsLimits, Cond.instanceMethod yX6_keepsLimits, Cond.selects RX6 yX6_keepsLimits yX6_keepsLimits, Cond.code yX6_keepsLimits cX6_keepsLimits 4 (some .boolean), Cond.fieldLink RX6 13 "ColourForestsModel" "colours" "I", Cond.fieldLink RX6 46 "ColourForestsModel" "counts" "[I", Cond.fieldLink RX6 26 "ColourForestsModel" "colourOf" "[I", Cond.fieldLink RX6 16 "ColourForestsModel" "limits" "[I", Cond.methodLink RX6 79 yX6_size, Cond.static yX6_size, Cond.code yX6_size cX6_size 3 (some .int), Cond.methodLink RX6 83 yX6_weightOf, Cond.instanceMethod yX6_weightOf, Cond.selects RX6 yX6_weightOf yX6_weightOf, Cond.code yX6_weightOf cX6_weightOf 4 (some .int), Cond.fieldLink RX6 29 "ColourForestsModel" "weights" "[I"]
def wsX6_circuit : List Cond := .code yX6_circuit cX6_circuit 8 (some .int) :: ((wsX6_circuit_r1 ++ wsX6_circuit_r2) ++ wsX60)
def wsX6_closure_r1 : List Cond := [Cond.fieldLink RX6 49 "ColourForestsModel" "thrown" "I", Cond.fieldLink RX6 56 "ColourForestsModel" "edges" "I", Cond.fieldLink RX6 37 "ColourForestsModel" "ranks" "[I", Cond.methodLink RX6 89 yX6_isKind, Cond.static yX6_isKind, Cond.initialized RX6, Cond.code yX6_isKind cX6_isKind 1 (some .boolean), Cond.methodLink RX6 92 yX6_isSet, Cond.instanceMethod yX6_isSet, Cond.selects RX6 yX6_isSet yX6_isSet, Cond.code yX6_isSet cX6_isSet 2 (some .boolean), Cond.methodLink RX6 86 yX6_learn, Cond.instanceMethod yX6_learn, Cond.selects RX6 yX6_learn yX6_learn, Cond.code yX6_learn cX6_learn 6 none, Cond.fieldLink RX6 59 "ColourForestsModel" "known" "Z", Cond.fieldLink RX6 70 "ColourForestsModel" "most" "I", Cond.fieldLink RX6 40 "ColourForestsModel" "best" "[I", Cond.fieldLink RX6 33 "ColourForestsModel" "free" "[Z", Cond.methodLink RX6 73 yX6_hasNoRing, Cond.instanceMethod yX6_hasNoRing, Cond.selects RX6 yX6_hasNoRing yX6_hasNoRing, Cond.code yX6_hasNoRing cX6_hasNoRing 6 (some .boolean), Cond.fieldLink RX6 7 "ColourForestsModel" "vertices" "I"]
def wsX6_closure_r2 : List Cond := [Cond.fieldLink RX6 43 "ColourForestsModel" "parts" "[I", Cond.fieldLink RX6 20 "ColourForestsModel" "firsts" "[I", Cond.fieldLink RX6 23 "ColourForestsModel" "seconds" "[I", Cond.methodLink RX6 66 yX6_has, Cond.static yX6_has, Cond.code yX6_has cX6_has 2 (some .boolean), Cond.methodLink RX6 76 yX6_keepsLimits, Cond.instanceMethod yX6_keepsLimits, Cond.selects RX6 yX6_keepsLimits yX6_keepsLimits, Cond.code yX6_keepsLimits cX6_keepsLimits 4 (some .boolean), Cond.fieldLink RX6 13 "ColourForestsModel" "colours" "I", Cond.fieldLink RX6 46 "ColourForestsModel" "counts" "[I", Cond.fieldLink RX6 26 "ColourForestsModel" "colourOf" "[I", Cond.fieldLink RX6 16 "ColourForestsModel" "limits" "[I", Cond.methodLink RX6 79 yX6_size, Cond.static yX6_size, Cond.code yX6_size cX6_size 3 (some .int), Cond.methodLink RX6 83 yX6_weightOf, Cond.instanceMethod yX6_weightOf, Cond.selects RX6 yX6_weightOf yX6_weightOf, Cond.code yX6_weightOf cX6_weightOf 4 (some .int), Cond.fieldLink RX6 29 "ColourForestsModel" "weights" "[I"]
def wsX6_closure : List Cond := .code yX6_closure cX6_closure 6 (some .int) :: ((wsX6_closure_r1 ++ wsX6_closure_r2) ++ wsX60)
def wsX6_most_r1 : List Cond := [Cond.fieldLink RX6 49 "ColourForestsModel" "thrown" "I", Cond.fieldLink RX6 70 "ColourForestsModel" "most" "I", Cond.methodLink RX6 86 yX6_learn, Cond.instanceMethod yX6_learn, Cond.selects RX6 yX6_learn yX6_learn, Cond.initialized RX6, Cond.code yX6_learn cX6_learn 6 none, Cond.fieldLink RX6 59 "ColourForestsModel" "known" "Z", Cond.fieldLink RX6 40 "ColourForestsModel" "best" "[I", Cond.fieldLink RX6 56 "ColourForestsModel" "edges" "I", Cond.fieldLink RX6 33 "ColourForestsModel" "free" "[Z", Cond.fieldLink RX6 37 "ColourForestsModel" "ranks" "[I", Cond.methodLink RX6 73 yX6_hasNoRing, Cond.instanceMethod yX6_hasNoRing, Cond.selects RX6 yX6_hasNoRing yX6_hasNoRing, Cond.code yX6_hasNoRing cX6_hasNoRing 6 (some .boolean), Cond.fieldLink RX6 7 "ColourForestsModel" "vertices" "I", Cond.fieldLink RX6 43 "ColourForestsModel" "parts" "[I", Cond.fieldLink RX6 20 "ColourForestsModel" "firsts" "[I", Cond.fieldLink RX6 23 "ColourForestsModel" "seconds" "[I", Cond.methodLink RX6 66 yX6_has, Cond.static yX6_has, Cond.code yX6_has cX6_has 2 (some .boolean), Cond.methodLink RX6 76 yX6_keepsLimits]
def wsX6_most_r2 : List Cond := [Cond.instanceMethod yX6_keepsLimits, Cond.selects RX6 yX6_keepsLimits yX6_keepsLimits, Cond.code yX6_keepsLimits cX6_keepsLimits 4 (some .boolean), Cond.fieldLink RX6 13 "ColourForestsModel" "colours" "I", Cond.fieldLink RX6 46 "ColourForestsModel" "counts" "[I", Cond.fieldLink RX6 26 "ColourForestsModel" "colourOf" "[I", Cond.fieldLink RX6 16 "ColourForestsModel" "limits" "[I", Cond.methodLink RX6 79 yX6_size, Cond.static yX6_size, Cond.code yX6_size cX6_size 3 (some .int), Cond.methodLink RX6 83 yX6_weightOf, Cond.instanceMethod yX6_weightOf, Cond.selects RX6 yX6_weightOf yX6_weightOf, Cond.code yX6_weightOf cX6_weightOf 4 (some .int), Cond.fieldLink RX6 29 "ColourForestsModel" "weights" "[I"]
def wsX6_most : List Cond := .code yX6_most cX6_most 1 (some .int) :: ((wsX6_most_r1 ++ wsX6_most_r2) ++ wsX60)
def wsX6_dearest_r1 : List Cond := [Cond.fieldLink RX6 49 "ColourForestsModel" "thrown" "I", Cond.fieldLink RX6 70 "ColourForestsModel" "most" "I", Cond.fieldLink RX6 40 "ColourForestsModel" "best" "[I", Cond.methodLink RX6 86 yX6_learn, Cond.instanceMethod yX6_learn, Cond.selects RX6 yX6_learn yX6_learn, Cond.initialized RX6, Cond.code yX6_learn cX6_learn 6 none, Cond.fieldLink RX6 59 "ColourForestsModel" "known" "Z", Cond.fieldLink RX6 56 "ColourForestsModel" "edges" "I", Cond.fieldLink RX6 33 "ColourForestsModel" "free" "[Z", Cond.fieldLink RX6 37 "ColourForestsModel" "ranks" "[I", Cond.methodLink RX6 73 yX6_hasNoRing, Cond.instanceMethod yX6_hasNoRing, Cond.selects RX6 yX6_hasNoRing yX6_hasNoRing, Cond.code yX6_hasNoRing cX6_hasNoRing 6 (some .boolean), Cond.fieldLink RX6 7 "ColourForestsModel" "vertices" "I", Cond.fieldLink RX6 43 "ColourForestsModel" "parts" "[I", Cond.fieldLink RX6 20 "ColourForestsModel" "firsts" "[I", Cond.fieldLink RX6 23 "ColourForestsModel" "seconds" "[I", Cond.methodLink RX6 66 yX6_has, Cond.static yX6_has, Cond.code yX6_has cX6_has 2 (some .boolean), Cond.methodLink RX6 76 yX6_keepsLimits]
def wsX6_dearest_r2 : List Cond := [Cond.instanceMethod yX6_keepsLimits, Cond.selects RX6 yX6_keepsLimits yX6_keepsLimits, Cond.code yX6_keepsLimits cX6_keepsLimits 4 (some .boolean), Cond.fieldLink RX6 13 "ColourForestsModel" "colours" "I", Cond.fieldLink RX6 46 "ColourForestsModel" "counts" "[I", Cond.fieldLink RX6 26 "ColourForestsModel" "colourOf" "[I", Cond.fieldLink RX6 16 "ColourForestsModel" "limits" "[I", Cond.methodLink RX6 79 yX6_size, Cond.static yX6_size, Cond.code yX6_size cX6_size 3 (some .int), Cond.methodLink RX6 83 yX6_weightOf, Cond.instanceMethod yX6_weightOf, Cond.selects RX6 yX6_weightOf yX6_weightOf, Cond.code yX6_weightOf cX6_weightOf 4 (some .int), Cond.fieldLink RX6 29 "ColourForestsModel" "weights" "[I"]
def wsX6_dearest : List Cond := .code yX6_dearest cX6_dearest 2 (some .int) :: ((wsX6_dearest_r1 ++ wsX6_dearest_r2) ++ wsX60)
def wsX6_weight_r1 : List Cond := [Cond.fieldLink RX6 70 "ColourForestsModel" "most" "I", Cond.fieldLink RX6 40 "ColourForestsModel" "best" "[I", Cond.methodLink RX6 86 yX6_learn, Cond.instanceMethod yX6_learn, Cond.selects RX6 yX6_learn yX6_learn, Cond.initialized RX6, Cond.code yX6_learn cX6_learn 6 none, Cond.fieldLink RX6 59 "ColourForestsModel" "known" "Z", Cond.fieldLink RX6 56 "ColourForestsModel" "edges" "I", Cond.fieldLink RX6 33 "ColourForestsModel" "free" "[Z", Cond.fieldLink RX6 37 "ColourForestsModel" "ranks" "[I", Cond.methodLink RX6 73 yX6_hasNoRing, Cond.instanceMethod yX6_hasNoRing, Cond.selects RX6 yX6_hasNoRing yX6_hasNoRing, Cond.code yX6_hasNoRing cX6_hasNoRing 6 (some .boolean), Cond.fieldLink RX6 7 "ColourForestsModel" "vertices" "I", Cond.fieldLink RX6 43 "ColourForestsModel" "parts" "[I", Cond.fieldLink RX6 20 "ColourForestsModel" "firsts" "[I", Cond.fieldLink RX6 23 "ColourForestsModel" "seconds" "[I", Cond.methodLink RX6 66 yX6_has, Cond.static yX6_has, Cond.code yX6_has cX6_has 2 (some .boolean), Cond.methodLink RX6 76 yX6_keepsLimits, Cond.instanceMethod yX6_keepsLimits]
def wsX6_weight_r2 : List Cond := [Cond.selects RX6 yX6_keepsLimits yX6_keepsLimits, Cond.code yX6_keepsLimits cX6_keepsLimits 4 (some .boolean), Cond.fieldLink RX6 13 "ColourForestsModel" "colours" "I", Cond.fieldLink RX6 46 "ColourForestsModel" "counts" "[I", Cond.fieldLink RX6 26 "ColourForestsModel" "colourOf" "[I", Cond.fieldLink RX6 16 "ColourForestsModel" "limits" "[I", Cond.methodLink RX6 79 yX6_size, Cond.static yX6_size, Cond.code yX6_size cX6_size 3 (some .int), Cond.methodLink RX6 83 yX6_weightOf, Cond.instanceMethod yX6_weightOf, Cond.selects RX6 yX6_weightOf yX6_weightOf, Cond.code yX6_weightOf cX6_weightOf 4 (some .int), Cond.fieldLink RX6 29 "ColourForestsModel" "weights" "[I", Cond.methodLink RX6 52 yX6_refuses, Cond.instanceMethod yX6_refuses, Cond.selects RX6 yX6_refuses yX6_refuses, Cond.code yX6_refuses cX6_refuses 2 (some .boolean), Cond.fieldLink RX6 49 "ColourForestsModel" "thrown" "I"]
def wsX6_weight : List Cond := .code yX6_weight cX6_weight 2 (some .int) :: ((wsX6_weight_r1 ++ wsX6_weight_r2) ++ wsX60)
def wsX6_heaviest_r1 : List Cond := [Cond.fieldLink RX6 49 "ColourForestsModel" "thrown" "I", Cond.fieldLink RX6 70 "ColourForestsModel" "most" "I", Cond.fieldLink RX6 40 "ColourForestsModel" "best" "[I", Cond.methodLink RX6 86 yX6_learn, Cond.instanceMethod yX6_learn, Cond.selects RX6 yX6_learn yX6_learn, Cond.initialized RX6, Cond.code yX6_learn cX6_learn 6 none, Cond.fieldLink RX6 59 "ColourForestsModel" "known" "Z", Cond.fieldLink RX6 56 "ColourForestsModel" "edges" "I", Cond.fieldLink RX6 33 "ColourForestsModel" "free" "[Z", Cond.fieldLink RX6 37 "ColourForestsModel" "ranks" "[I", Cond.methodLink RX6 73 yX6_hasNoRing, Cond.instanceMethod yX6_hasNoRing, Cond.selects RX6 yX6_hasNoRing yX6_hasNoRing, Cond.code yX6_hasNoRing cX6_hasNoRing 6 (some .boolean), Cond.fieldLink RX6 7 "ColourForestsModel" "vertices" "I", Cond.fieldLink RX6 43 "ColourForestsModel" "parts" "[I", Cond.fieldLink RX6 20 "ColourForestsModel" "firsts" "[I", Cond.fieldLink RX6 23 "ColourForestsModel" "seconds" "[I", Cond.methodLink RX6 66 yX6_has, Cond.static yX6_has, Cond.code yX6_has cX6_has 2 (some .boolean), Cond.methodLink RX6 76 yX6_keepsLimits]
def wsX6_heaviest_r2 : List Cond := [Cond.instanceMethod yX6_keepsLimits, Cond.selects RX6 yX6_keepsLimits yX6_keepsLimits, Cond.code yX6_keepsLimits cX6_keepsLimits 4 (some .boolean), Cond.fieldLink RX6 13 "ColourForestsModel" "colours" "I", Cond.fieldLink RX6 46 "ColourForestsModel" "counts" "[I", Cond.fieldLink RX6 26 "ColourForestsModel" "colourOf" "[I", Cond.fieldLink RX6 16 "ColourForestsModel" "limits" "[I", Cond.methodLink RX6 79 yX6_size, Cond.static yX6_size, Cond.code yX6_size cX6_size 3 (some .int), Cond.methodLink RX6 83 yX6_weightOf, Cond.instanceMethod yX6_weightOf, Cond.selects RX6 yX6_weightOf yX6_weightOf, Cond.code yX6_weightOf cX6_weightOf 4 (some .int), Cond.fieldLink RX6 29 "ColourForestsModel" "weights" "[I"]
def wsX6_heaviest : List Cond := .code yX6_heaviest cX6_heaviest 3 (some .int) :: ((wsX6_heaviest_r1 ++ wsX6_heaviest_r2) ++ wsX60)
def wsX6_witness_r1 : List Cond := [Cond.fieldLink RX6 49 "ColourForestsModel" "thrown" "I", Cond.fieldLink RX6 56 "ColourForestsModel" "edges" "I", Cond.fieldLink RX6 37 "ColourForestsModel" "ranks" "[I", Cond.fieldLink RX6 70 "ColourForestsModel" "most" "I", Cond.methodLink RX6 86 yX6_learn, Cond.instanceMethod yX6_learn, Cond.selects RX6 yX6_learn yX6_learn, Cond.initialized RX6, Cond.code yX6_learn cX6_learn 6 none, Cond.fieldLink RX6 59 "ColourForestsModel" "known" "Z", Cond.fieldLink RX6 40 "ColourForestsModel" "best" "[I", Cond.fieldLink RX6 33 "ColourForestsModel" "free" "[Z", Cond.methodLink RX6 73 yX6_hasNoRing, Cond.instanceMethod yX6_hasNoRing, Cond.selects RX6 yX6_hasNoRing yX6_hasNoRing, Cond.code yX6_hasNoRing cX6_hasNoRing 6 (some .boolean), Cond.fieldLink RX6 7 "ColourForestsModel" "vertices" "I", Cond.fieldLink RX6 43 "ColourForestsModel" "parts" "[I", Cond.fieldLink RX6 20 "ColourForestsModel" "firsts" "[I", Cond.fieldLink RX6 23 "ColourForestsModel" "seconds" "[I", Cond.methodLink RX6 66 yX6_has, Cond.static yX6_has, Cond.code yX6_has cX6_has 2 (some .boolean), Cond.methodLink RX6 76 yX6_keepsLimits]
def wsX6_witness_r2 : List Cond := [Cond.instanceMethod yX6_keepsLimits, Cond.selects RX6 yX6_keepsLimits yX6_keepsLimits, Cond.code yX6_keepsLimits cX6_keepsLimits 4 (some .boolean), Cond.fieldLink RX6 13 "ColourForestsModel" "colours" "I", Cond.fieldLink RX6 46 "ColourForestsModel" "counts" "[I", Cond.fieldLink RX6 26 "ColourForestsModel" "colourOf" "[I", Cond.fieldLink RX6 16 "ColourForestsModel" "limits" "[I", Cond.methodLink RX6 79 yX6_size, Cond.static yX6_size, Cond.code yX6_size cX6_size 3 (some .int), Cond.methodLink RX6 83 yX6_weightOf, Cond.instanceMethod yX6_weightOf, Cond.selects RX6 yX6_weightOf yX6_weightOf, Cond.code yX6_weightOf cX6_weightOf 4 (some .int), Cond.fieldLink RX6 29 "ColourForestsModel" "weights" "[I"]
def wsX6_witness : List Cond := .code yX6_witness cX6_witness 6 (some .int) :: ((wsX6_witness_r1 ++ wsX6_witness_r2) ++ wsX60)
def wsX6_check : List Cond := .code yX6_check cX6_check 1 (some .int) :: ([.fieldLink RX6 49 "ColourForestsModel" "thrown" "I"] ++ wsX60)
def wsJ9_max_7cf53 : List Cond := .code yJ9_max_7cf53 cJ9_max_7cf53 2 (some .int) :: ([])
def wsL_make_r1 : List Cond := [Cond.classLink RL 13 "java/lang/IllegalArgumentException", Cond.methodLink RL 7 yX5_make, Cond.instanceMethod yX5_make, Cond.selects RX5 yX5_make yX5_make, Cond.initialized RX5, Cond.code yX5_make cX5_make 3 none, Cond.classLink RX5 42 "java/lang/IllegalArgumentException", Cond.initialized "java/lang/IllegalArgumentException", Cond.fieldLink RX5 10 "ColourForests" "graph" "LColourForests$Graph;", Cond.methodLink RX5 38 yX5_within, Cond.static yX5_within, Cond.code yX5_within cX5_within 3 (some .boolean), Cond.methodLink RX5 49 yX0_restart, Cond.instanceMethod yX0_restart, Cond.selects RX0 yX0_restart yX0_restart, Cond.initialized RX0, Cond.code yX0_restart cX0_restart 3 none, Cond.fieldLink RX0 27 "ColourForests$Graph" "vertices" "I", Cond.fieldLink RX0 31 "ColourForests$Graph" "colours" "I", Cond.fieldLink RX0 34 "ColourForests$Graph" "edges" "I", Cond.fieldLink RX0 9 "ColourForests$Graph" "limits" "[I", Cond.fieldLink RX0 43 "ColourForests$Graph" "changes" "I", Cond.methodLink RX0 37 yJ7_fill_53178, Cond.static yJ7_fill_53178]
def wsL_make_r2 : List Cond := [Cond.initialized RJ7, Cond.code yJ7_fill_53178 cJ7_fill_53178 4 none]
def wsL_make : List Cond := .codeWith yL_make cL_make 4 (some .int) [(0, 6, 9, 13)] :: ((wsL_make_r1 ++ wsL_make_r2) ++ wsX50 ++ wsX00 ++ (vx_atS RX5 46 "java/lang/IllegalArgumentException" ["java/lang/RuntimeException", "java/lang/Exception"]).filter goodWord)
def wsL_limit_r1 : List Cond := [Cond.classLink RL 18 "java/lang/IndexOutOfBoundsException", Cond.classLink RL 13 "java/lang/IllegalArgumentException", Cond.methodLink RL 15 yX5_limit, Cond.instanceMethod yX5_limit, Cond.selects RX5 yX5_limit yX5_limit, Cond.initialized RX5, Cond.code yX5_limit cX5_limit 3 none, Cond.classLink RX5 71 "java/lang/IndexOutOfBoundsException", Cond.initialized "java/lang/IndexOutOfBoundsException", Cond.classLink RX5 42 "java/lang/IllegalArgumentException", Cond.initialized "java/lang/IllegalArgumentException", Cond.fieldLink RX5 10 "ColourForests" "graph" "LColourForests$Graph;", Cond.methodLink RX5 57 yX0_hasColour, Cond.instanceMethod yX0_hasColour, Cond.selects RX0 yX0_hasColour yX0_hasColour, Cond.initialized RX0, Cond.code yX0_hasColour cX0_hasColour 2 (some .boolean), Cond.fieldLink RX0 31 "ColourForests$Graph" "colours" "I", Cond.static yX5_within, Cond.code yX5_within cX5_within 3 (some .boolean), Cond.methodLink RX5 38 yX5_within, Cond.methodLink RX5 78 yX0_setLimit, Cond.instanceMethod yX0_setLimit, Cond.selects RX0 yX0_setLimit yX0_setLimit]
def wsL_limit_r2 : List Cond := [Cond.code yX0_setLimit cX0_setLimit 3 none, Cond.fieldLink RX0 9 "ColourForests$Graph" "limits" "[I", Cond.fieldLink RX0 43 "ColourForests$Graph" "changes" "I"]
def wsL_limit : List Cond := .codeWith yL_limit cL_limit 4 (some .int) [(0, 6, 9, 18), (0, 6, 12, 13)] :: ((wsL_limit_r1 ++ wsL_limit_r2) ++ wsX50 ++ wsX00 ++ (vx_atS RX5 75 "java/lang/IndexOutOfBoundsException" ["java/lang/RuntimeException", "java/lang/Exception"]).filter goodWord ++ (vx_atS RX5 46 "java/lang/IllegalArgumentException" ["java/lang/RuntimeException", "java/lang/Exception"]).filter goodWord)
def wsL_weigh_r1 : List Cond := [Cond.classLink RL 18 "java/lang/IndexOutOfBoundsException", Cond.classLink RL 13 "java/lang/IllegalArgumentException", Cond.methodLink RL 20 yX5_weigh, Cond.instanceMethod yX5_weigh, Cond.selects RX5 yX5_weigh yX5_weigh, Cond.initialized RX5, Cond.code yX5_weigh cX5_weigh 3 none, Cond.classLink RX5 71 "java/lang/IndexOutOfBoundsException", Cond.initialized "java/lang/IndexOutOfBoundsException", Cond.classLink RX5 42 "java/lang/IllegalArgumentException", Cond.initialized "java/lang/IllegalArgumentException", Cond.fieldLink RX5 10 "ColourForests" "graph" "LColourForests$Graph;", Cond.methodLink RX5 81 yX0_hasEdge, Cond.instanceMethod yX0_hasEdge, Cond.selects RX0 yX0_hasEdge yX0_hasEdge, Cond.initialized RX0, Cond.code yX0_hasEdge cX0_hasEdge 2 (some .boolean), Cond.fieldLink RX0 34 "ColourForests$Graph" "edges" "I", Cond.static yX5_within, Cond.code yX5_within cX5_within 3 (some .boolean), Cond.methodLink RX5 60 yX5_isWeight, Cond.static yX5_isWeight, Cond.code yX5_isWeight cX5_isWeight 1 (some .boolean), Cond.methodLink RX5 38 yX5_within]
def wsL_weigh_r2 : List Cond := [Cond.methodLink RX5 88 yX0_setWeight, Cond.instanceMethod yX0_setWeight, Cond.selects RX0 yX0_setWeight yX0_setWeight, Cond.code yX0_setWeight cX0_setWeight 3 none, Cond.fieldLink RX0 24 "ColourForests$Graph" "weights" "[I", Cond.fieldLink RX0 43 "ColourForests$Graph" "changes" "I"]
def wsL_weigh : List Cond := .codeWith yL_weigh cL_weigh 4 (some .int) [(0, 6, 9, 18), (0, 6, 12, 13)] :: ((wsL_weigh_r1 ++ wsL_weigh_r2) ++ wsX50 ++ wsX00 ++ (vx_atS RX5 75 "java/lang/IndexOutOfBoundsException" ["java/lang/RuntimeException", "java/lang/Exception"]).filter goodWord ++ (vx_atS RX5 46 "java/lang/IllegalArgumentException" ["java/lang/RuntimeException", "java/lang/Exception"]).filter goodWord)
def wsL_weight_r1 : List Cond := [Cond.classLink RL 13 "java/lang/IllegalArgumentException", Cond.methodLink RL 23 yX5_weight, Cond.instanceMethod yX5_weight, Cond.selects RX5 yX5_weight yX5_weight, Cond.initialized RX5, Cond.code yX5_weight cX5_weight 2 (some .int), Cond.classLink RX5 42 "java/lang/IllegalArgumentException", Cond.initialized "java/lang/IllegalArgumentException", Cond.fieldLink RX5 34 "ColourForests" "survey" "LColourForests$Survey;", Cond.fieldLink RX5 151 "ColourForests$Survey" "dearestWeights" "[I", Cond.methodLink RX5 97 yX4_refresh, Cond.instanceMethod yX4_refresh, Cond.selects RX4 yX4_refresh yX4_refresh, Cond.initialized RX4, Cond.code yX4_refresh cX4_refresh 1 none, Cond.fieldLink RX4 11 "ColourForests$Survey" "changesSeen" "I", Cond.fieldLink RX4 31 "ColourForests$Survey" "graph" "LColourForests$Graph;", Cond.fieldLink RX4 42 "ColourForests$Graph" "changes" "I", Cond.methodLink RX4 47 yX4_walk, Cond.instanceMethod yX4_walk, Cond.selects RX4 yX4_walk yX4_walk, Cond.code yX4_walk cX4_walk 5 none, Cond.fieldLink RX4 53 "ColourForests$Graph" "edges" "I", Cond.methodLink RX4 50 yX4_begin]
def wsL_weight_r2 : List Cond := [Cond.instanceMethod yX4_begin, Cond.selects RX4 yX4_begin yX4_begin, Cond.code yX4_begin cX4_begin 1 none, Cond.fieldLink RX4 22 "ColourForests$Survey" "partsFrom" "[I", Cond.fieldLink RX4 25 "ColourForests$Survey" "roomFrom" "[I", Cond.fieldLink RX4 28 "ColourForests$Survey" "weightFrom" "[I", Cond.fieldLink RX4 80 "ColourForests$Survey" "widest" "I", Cond.fieldLink RX4 83 "ColourForests$Survey" "widestForests" "I", Cond.fieldLink RX4 86 "ColourForests$Survey" "commonSets" "I", Cond.fieldLink RX4 35 "ColourForests$Survey" "most" "I", Cond.fieldLink RX4 15 "ColourForests$Survey" "dearestSets" "[I", Cond.fieldLink RX4 19 "ColourForests$Survey" "dearestWeights" "[I", Cond.methodLink RX4 73 yX0_loneParts, Cond.instanceMethod yX0_loneParts, Cond.selects RX0 yX0_loneParts yX0_loneParts, Cond.initialized RX0, Cond.code yX0_loneParts cX0_loneParts 3 (some .int), Cond.fieldLink RX0 27 "ColourForests$Graph" "vertices" "I", Cond.static yX5_withCell, Cond.code yX5_withCell cX5_withCell 4 (some .int), Cond.methodLink RX4 77 yX0_fullRoom, Cond.instanceMethod yX0_fullRoom, Cond.selects RX0 yX0_fullRoom yX0_fullRoom, Cond.code yX0_fullRoom cX0_fullRoom 3 (some .int)]
def wsL_weight_r3 : List Cond := [Cond.fieldLink RX0 31 "ColourForests$Graph" "colours" "I", Cond.fieldLink RX0 9 "ColourForests$Graph" "limits" "[I", Cond.methodLink RX4 56 yJ6_numberOfTrailingZeros_0f7a4, Cond.static yJ6_numberOfTrailingZeros_0f7a4, Cond.initialized RJ6, Cond.code yJ6_numberOfTrailingZeros_0f7a4 cJ6_numberOfTrailingZeros_0f7a4 2 (some .int), Cond.constant RJ6 264 (65536), Cond.methodLink RX4 62 yX4_placeAbove, Cond.instanceMethod yX4_placeAbove, Cond.selects RX4 yX4_placeAbove yX4_placeAbove, Cond.code yX4_placeAbove cX4_placeAbove 3 (some .int), Cond.methodLink RX4 65 yX4_enter, Cond.instanceMethod yX4_enter, Cond.selects RX4 yX4_enter yX4_enter, Cond.code yX4_enter cX4_enter 5 (some .boolean), Cond.fieldLink RX4 102 "ColourForests$Graph" "weights" "[I", Cond.methodLink RX4 89 yX0_joinsTwoParts, Cond.instanceMethod yX0_joinsTwoParts, Cond.selects RX0 yX0_joinsTwoParts yX0_joinsTwoParts, Cond.code yX0_joinsTwoParts cX0_joinsTwoParts 3 (some .boolean), Cond.fieldLink RX0 15 "ColourForests$Graph" "firstEnds" "[I", Cond.fieldLink RX0 18 "ColourForests$Graph" "secondEnds" "[I", Cond.static yX5_cell, Cond.code yX5_cell cX5_cell 2 (some .int)]
def wsL_weight_r4 : List Cond := [Cond.methodLink RX4 92 yX0_partsJoinedBy, Cond.instanceMethod yX0_partsJoinedBy, Cond.selects RX0 yX0_partsJoinedBy yX0_partsJoinedBy, Cond.code yX0_partsJoinedBy cX0_partsJoinedBy 7 (some .int), Cond.methodLink RX4 96 yX0_hasRoom, Cond.instanceMethod yX0_hasRoom, Cond.selects RX0 yX0_hasRoom yX0_hasRoom, Cond.code yX0_hasRoom cX0_hasRoom 3 (some .boolean), Cond.fieldLink RX0 21 "ColourForests$Graph" "hues" "[I", Cond.methodLink RX4 99 yX0_roomAfter, Cond.instanceMethod yX0_roomAfter, Cond.selects RX0 yX0_roomAfter yX0_roomAfter, Cond.code yX0_roomAfter cX0_roomAfter 3 (some .int), Cond.methodLink RX4 69 yX4_note, Cond.instanceMethod yX4_note, Cond.selects RX4 yX4_note yX4_note, Cond.code yX4_note cX4_note 4 none, Cond.methodLink RX4 105 yJ6_bitCount_0f7a4, Cond.static yJ6_bitCount_0f7a4, Cond.code yJ6_bitCount_0f7a4 cJ6_bitCount_0f7a4 1 (some .int), Cond.constant RJ6 265 (1431655765), Cond.constant RJ6 266 (858993459), Cond.constant RJ6 267 (252645135), Cond.methodLink RX4 108 yX4_noteForest]
def wsL_weight_r5 : List Cond := [Cond.instanceMethod yX4_noteForest, Cond.selects RX4 yX4_noteForest yX4_noteForest, Cond.code yX4_noteForest cX4_noteForest 2 none, Cond.methodLink RX4 112 yX4_noteCommon, Cond.instanceMethod yX4_noteCommon, Cond.selects RX4 yX4_noteCommon yX4_noteCommon, Cond.code yX4_noteCommon cX4_noteCommon 4 none, Cond.methodLink RX4 116 Lib.Math.max.name, Cond.static Lib.Math.max.name, Cond.initialized "java/lang/Math", Cond.code Lib.Math.max.name Lib.Math.max.code 2 (some .int), Cond.methodLink RX5 142 yX4_hasSize, Cond.instanceMethod yX4_hasSize, Cond.selects RX4 yX4_hasSize yX4_hasSize, Cond.code yX4_hasSize cX4_hasSize 2 (some .boolean), Cond.static yX5_within, Cond.code yX5_within cX5_within 3 (some .boolean)]
def wsL_weight : List Cond := .codeWith yL_weight cL_weight 4 (some .int) [(0, 9, 12, 13)] :: ((wsL_weight_r1 ++ (wsL_weight_r2 ++ (wsL_weight_r3 ++ (wsL_weight_r4 ++ wsL_weight_r5)))) ++ wsX50 ++ wsX40 ++ wsX00 ++ (vx_atS RX5 46 "java/lang/IllegalArgumentException" ["java/lang/RuntimeException", "java/lang/Exception"]).filter goodWord)
def wsL_law0_r1 : List Cond := [Cond.classLink RL 8 RX5, Cond.instantiable RX5 4, Cond.initialized RX5, Cond.classLink RL 28 RX6, Cond.instantiable RX6 16, Cond.initialized RX6, Cond.arrayClass .long, Cond.methodLink RL 27 yX5_init, Cond.instanceMethod yX5_init, Cond.code yX5_init cX5_init 1 none, Cond.methodLink RX5 1 objectInit, Cond.instanceMethod objectInit, Cond.code objectInit ⟨#[0xb1]⟩ 1 none, Cond.classLink RX5 7 RX0, Cond.instantiable RX0 9, Cond.initialized RX0, Cond.fieldLink RX5 10 "ColourForests" "graph" "LColourForests$Graph;", Cond.classLink RX5 16 RX3, Cond.instantiable RX3 1, Cond.initialized RX3, Cond.fieldLink RX5 21 "ColourForests" "ringless" "LColourForests$Kind;", Cond.classLink RX5 25 RX2, Cond.instantiable RX2 1, Cond.initialized RX2]
def wsL_law0_r2 : List Cond := [Cond.fieldLink RX5 28 "ColourForests" "withinLimits" "LColourForests$Kind;", Cond.classLink RX5 31 RX4, Cond.instantiable RX4 11, Cond.initialized RX4, Cond.fieldLink RX5 34 "ColourForests" "survey" "LColourForests$Survey;", Cond.methodLink RX5 9 yX0_init, Cond.instanceMethod yX0_init, Cond.code yX0_init cX0_init 1 none, Cond.methodLink RX0 3 objectInit, Cond.arrayClass .int, Cond.fieldLink RX0 9 "ColourForests$Graph" "limits" "[I", Cond.fieldLink RX0 15 "ColourForests$Graph" "firstEnds" "[I", Cond.fieldLink RX0 18 "ColourForests$Graph" "secondEnds" "[I", Cond.fieldLink RX0 21 "ColourForests$Graph" "hues" "[I", Cond.fieldLink RX0 24 "ColourForests$Graph" "weights" "[I", Cond.fieldLink RX0 27 "ColourForests$Graph" "vertices" "I", Cond.fieldLink RX0 31 "ColourForests$Graph" "colours" "I", Cond.methodLink RX5 18 yX3_init, Cond.instanceMethod yX3_init, Cond.code yX3_init cX3_init 2 none, Cond.methodLink RX3 1 yX1_init, Cond.instanceMethod yX1_init, Cond.initialized RX1, Cond.code yX1_init cX1_init 2 none]
def wsL_law0_r3 : List Cond := [Cond.methodLink RX1 1 objectInit, Cond.fieldLink RX1 7 "ColourForests$Kind" "graph" "LColourForests$Graph;", Cond.methodLink RX5 27 yX2_init, Cond.instanceMethod yX2_init, Cond.code yX2_init cX2_init 2 none, Cond.methodLink RX2 1 yX1_init, Cond.methodLink RX5 33 yX4_init, Cond.instanceMethod yX4_init, Cond.code yX4_init cX4_init 2 none, Cond.methodLink RX4 3 objectInit, Cond.fieldLink RX4 11 "ColourForests$Survey" "changesSeen" "I", Cond.fieldLink RX4 15 "ColourForests$Survey" "dearestSets" "[I", Cond.fieldLink RX4 19 "ColourForests$Survey" "dearestWeights" "[I", Cond.fieldLink RX4 22 "ColourForests$Survey" "partsFrom" "[I", Cond.fieldLink RX4 25 "ColourForests$Survey" "roomFrom" "[I", Cond.fieldLink RX4 28 "ColourForests$Survey" "weightFrom" "[I", Cond.fieldLink RX4 31 "ColourForests$Survey" "graph" "LColourForests$Graph;", Cond.methodLink RL 30 yX6_init, Cond.instanceMethod yX6_init, Cond.code yX6_init cX6_init 1 none, Cond.methodLink RX6 1 objectInit, Cond.fieldLink RX6 7 "ColourForestsModel" "vertices" "I", Cond.fieldLink RX6 13 "ColourForestsModel" "colours" "I", Cond.fieldLink RX6 16 "ColourForestsModel" "limits" "[I"]
def wsL_law0_r4 : List Cond := [Cond.fieldLink RX6 20 "ColourForestsModel" "firsts" "[I", Cond.fieldLink RX6 23 "ColourForestsModel" "seconds" "[I", Cond.fieldLink RX6 26 "ColourForestsModel" "colourOf" "[I", Cond.fieldLink RX6 29 "ColourForestsModel" "weights" "[I", Cond.constant RX6 32 (32768), Cond.arrayClass .boolean, Cond.fieldLink RX6 33 "ColourForestsModel" "free" "[Z", Cond.fieldLink RX6 37 "ColourForestsModel" "ranks" "[I", Cond.fieldLink RX6 40 "ColourForestsModel" "best" "[I", Cond.fieldLink RX6 43 "ColourForestsModel" "parts" "[I", Cond.fieldLink RX6 46 "ColourForestsModel" "counts" "[I", Cond.methodLink RL 31 yL_make, Cond.static yL_make, Cond.initialized RL, Cond.codeWith yL_make cL_make 4 (some .int) [(0, 6, 9, 13)], Cond.classLink RL 13 "java/lang/IllegalArgumentException", Cond.methodLink RL 7 yX5_make, Cond.instanceMethod yX5_make, Cond.selects RX5 yX5_make yX5_make, Cond.code yX5_make cX5_make 3 none, Cond.classLink RX5 42 "java/lang/IllegalArgumentException", Cond.initialized "java/lang/IllegalArgumentException", Cond.methodLink RX5 38 yX5_within, Cond.static yX5_within]
def wsL_law0_r5 : List Cond := [Cond.code yX5_within cX5_within 3 (some .boolean), Cond.methodLink RX5 49 yX0_restart, Cond.instanceMethod yX0_restart, Cond.selects RX0 yX0_restart yX0_restart, Cond.code yX0_restart cX0_restart 3 none, Cond.fieldLink RX0 34 "ColourForests$Graph" "edges" "I", Cond.fieldLink RX0 43 "ColourForests$Graph" "changes" "I", Cond.methodLink RX0 37 yJ7_fill_53178, Cond.static yJ7_fill_53178, Cond.initialized RJ7, Cond.code yJ7_fill_53178 cJ7_fill_53178 4 none, Cond.methodLink RL 36 yX6_make, Cond.instanceMethod yX6_make, Cond.selects RX6 yX6_make yX6_make, Cond.code yX6_make cX6_make 4 none, Cond.fieldLink RX6 56 "ColourForestsModel" "edges" "I", Cond.fieldLink RX6 59 "ColourForestsModel" "known" "Z", Cond.methodLink RX6 52 yX6_refuses, Cond.instanceMethod yX6_refuses, Cond.selects RX6 yX6_refuses yX6_refuses, Cond.code yX6_refuses cX6_refuses 2 (some .boolean), Cond.fieldLink RX6 49 "ColourForestsModel" "thrown" "I", Cond.methodLink RL 37 yX6_thrown, Cond.instanceMethod yX6_thrown]
def wsL_law0_r6 : List Cond := [Cond.selects RX6 yX6_thrown yX6_thrown, Cond.code yX6_thrown cX6_thrown 1 (some .int), Cond.methodLink RL 41 yX5_edge, Cond.instanceMethod yX5_edge, Cond.selects RX5 yX5_edge yX5_edge, Cond.code yX5_edge cX5_edge 5 (some .int), Cond.fieldLink RX5 63 "ColourForests$Graph" "edges" "I", Cond.methodLink RX5 53 yX0_hasVertex, Cond.instanceMethod yX0_hasVertex, Cond.selects RX0 yX0_hasVertex yX0_hasVertex, Cond.code yX0_hasVertex cX0_hasVertex 2 (some .boolean), Cond.methodLink RX5 57 yX0_hasColour, Cond.instanceMethod yX0_hasColour, Cond.selects RX0 yX0_hasColour yX0_hasColour, Cond.code yX0_hasColour cX0_hasColour 2 (some .boolean), Cond.methodLink RX5 60 yX5_isWeight, Cond.static yX5_isWeight, Cond.code yX5_isWeight cX5_isWeight 1 (some .boolean), Cond.methodLink RX5 67 yX0_addEdge, Cond.instanceMethod yX0_addEdge, Cond.selects RX0 yX0_addEdge yX0_addEdge, Cond.code yX0_addEdge cX0_addEdge 6 (some .int), Cond.methodLink RL 45 yX6_edge, Cond.instanceMethod yX6_edge]
def wsL_law0_r7 : List Cond := [Cond.selects RX6 yX6_edge yX6_edge, Cond.code yX6_edge cX6_edge 6 (some .int), Cond.methodLink RX6 63 yX6_isHeavy, Cond.static yX6_isHeavy, Cond.code yX6_isHeavy cX6_isHeavy 1 (some .boolean), Cond.methodLink RL 46 yL_limit, Cond.static yL_limit, Cond.codeWith yL_limit cL_limit 4 (some .int) [(0, 6, 9, 18), (0, 6, 12, 13)], Cond.classLink RL 18 "java/lang/IndexOutOfBoundsException", Cond.methodLink RL 15 yX5_limit, Cond.instanceMethod yX5_limit, Cond.selects RX5 yX5_limit yX5_limit, Cond.code yX5_limit cX5_limit 3 none, Cond.classLink RX5 71 "java/lang/IndexOutOfBoundsException", Cond.initialized "java/lang/IndexOutOfBoundsException", Cond.methodLink RX5 78 yX0_setLimit, Cond.instanceMethod yX0_setLimit, Cond.selects RX0 yX0_setLimit yX0_setLimit, Cond.code yX0_setLimit cX0_setLimit 3 none, Cond.methodLink RL 48 yX6_limit, Cond.instanceMethod yX6_limit, Cond.selects RX6 yX6_limit yX6_limit, Cond.code yX6_limit cX6_limit 3 none, Cond.methodLink RL 49 yL_weigh]
def wsL_law0_r8 : List Cond := [Cond.static yL_weigh, Cond.codeWith yL_weigh cL_weigh 4 (some .int) [(0, 6, 9, 18), (0, 6, 12, 13)], Cond.methodLink RL 20 yX5_weigh, Cond.instanceMethod yX5_weigh, Cond.selects RX5 yX5_weigh yX5_weigh, Cond.code yX5_weigh cX5_weigh 3 none, Cond.methodLink RX5 81 yX0_hasEdge, Cond.instanceMethod yX0_hasEdge, Cond.selects RX0 yX0_hasEdge yX0_hasEdge, Cond.code yX0_hasEdge cX0_hasEdge 2 (some .boolean), Cond.methodLink RX5 88 yX0_setWeight, Cond.instanceMethod yX0_setWeight, Cond.selects RX0 yX0_setWeight yX0_setWeight, Cond.code yX0_setWeight cX0_setWeight 3 none, Cond.methodLink RL 51 yX6_weigh, Cond.instanceMethod yX6_weigh, Cond.selects RX6 yX6_weigh yX6_weigh, Cond.code yX6_weigh cX6_weigh 3 none, Cond.methodLink RL 52 yX5_count, Cond.instanceMethod yX5_count, Cond.selects RX5 yX5_count yX5_count, Cond.code yX5_count cX5_count 2 (some .int), Cond.fieldLink RX5 91 "ColourForests$Graph" "vertices" "I", Cond.fieldLink RX5 94 "ColourForests$Graph" "colours" "I"]
def wsL_law0_r9 : List Cond := [Cond.fieldLink RX5 100 "ColourForests$Survey" "widestForests" "I", Cond.fieldLink RX5 103 "ColourForests$Survey" "commonSets" "I", Cond.methodLink RX5 97 yX4_refresh, Cond.instanceMethod yX4_refresh, Cond.selects RX4 yX4_refresh yX4_refresh, Cond.code yX4_refresh cX4_refresh 1 none, Cond.fieldLink RX4 42 "ColourForests$Graph" "changes" "I", Cond.methodLink RX4 47 yX4_walk, Cond.instanceMethod yX4_walk, Cond.selects RX4 yX4_walk yX4_walk, Cond.code yX4_walk cX4_walk 5 none, Cond.fieldLink RX4 53 "ColourForests$Graph" "edges" "I", Cond.methodLink RX4 50 yX4_begin, Cond.instanceMethod yX4_begin, Cond.selects RX4 yX4_begin yX4_begin, Cond.code yX4_begin cX4_begin 1 none, Cond.fieldLink RX4 80 "ColourForests$Survey" "widest" "I", Cond.fieldLink RX4 83 "ColourForests$Survey" "widestForests" "I", Cond.fieldLink RX4 86 "ColourForests$Survey" "commonSets" "I", Cond.fieldLink RX4 35 "ColourForests$Survey" "most" "I", Cond.methodLink RX4 73 yX0_loneParts, Cond.instanceMethod yX0_loneParts, Cond.selects RX0 yX0_loneParts yX0_loneParts, Cond.code yX0_loneParts cX0_loneParts 3 (some .int)]
def wsL_law0_r10 : List Cond := [Cond.static yX5_withCell, Cond.code yX5_withCell cX5_withCell 4 (some .int), Cond.methodLink RX4 77 yX0_fullRoom, Cond.instanceMethod yX0_fullRoom, Cond.selects RX0 yX0_fullRoom yX0_fullRoom, Cond.code yX0_fullRoom cX0_fullRoom 3 (some .int), Cond.methodLink RX4 56 yJ6_numberOfTrailingZeros_0f7a4, Cond.static yJ6_numberOfTrailingZeros_0f7a4, Cond.initialized RJ6, Cond.code yJ6_numberOfTrailingZeros_0f7a4 cJ6_numberOfTrailingZeros_0f7a4 2 (some .int), Cond.constant RJ6 264 (65536), Cond.methodLink RX4 62 yX4_placeAbove, Cond.instanceMethod yX4_placeAbove, Cond.selects RX4 yX4_placeAbove yX4_placeAbove, Cond.code yX4_placeAbove cX4_placeAbove 3 (some .int), Cond.methodLink RX4 65 yX4_enter, Cond.instanceMethod yX4_enter, Cond.selects RX4 yX4_enter yX4_enter, Cond.code yX4_enter cX4_enter 5 (some .boolean), Cond.fieldLink RX4 102 "ColourForests$Graph" "weights" "[I", Cond.methodLink RX4 89 yX0_joinsTwoParts, Cond.instanceMethod yX0_joinsTwoParts, Cond.selects RX0 yX0_joinsTwoParts yX0_joinsTwoParts, Cond.code yX0_joinsTwoParts cX0_joinsTwoParts 3 (some .boolean)]
def wsL_law0_r11 : List Cond := [Cond.static yX5_cell, Cond.code yX5_cell cX5_cell 2 (some .int), Cond.methodLink RX4 92 yX0_partsJoinedBy, Cond.instanceMethod yX0_partsJoinedBy, Cond.selects RX0 yX0_partsJoinedBy yX0_partsJoinedBy, Cond.code yX0_partsJoinedBy cX0_partsJoinedBy 7 (some .int), Cond.methodLink RX4 96 yX0_hasRoom, Cond.instanceMethod yX0_hasRoom, Cond.selects RX0 yX0_hasRoom yX0_hasRoom, Cond.code yX0_hasRoom cX0_hasRoom 3 (some .boolean), Cond.methodLink RX4 99 yX0_roomAfter, Cond.instanceMethod yX0_roomAfter, Cond.selects RX0 yX0_roomAfter yX0_roomAfter, Cond.code yX0_roomAfter cX0_roomAfter 3 (some .int), Cond.methodLink RX4 69 yX4_note, Cond.instanceMethod yX4_note, Cond.selects RX4 yX4_note yX4_note, Cond.code yX4_note cX4_note 4 none, Cond.methodLink RX4 105 yJ6_bitCount_0f7a4, Cond.static yJ6_bitCount_0f7a4, Cond.code yJ6_bitCount_0f7a4 cJ6_bitCount_0f7a4 1 (some .int), Cond.constant RJ6 265 (1431655765), Cond.constant RJ6 266 (858993459), Cond.constant RJ6 267 (252645135)]
def wsL_law0_r12 : List Cond := [Cond.methodLink RX4 108 yX4_noteForest, Cond.instanceMethod yX4_noteForest, Cond.selects RX4 yX4_noteForest yX4_noteForest, Cond.code yX4_noteForest cX4_noteForest 2 none, Cond.methodLink RX4 112 yX4_noteCommon, Cond.instanceMethod yX4_noteCommon, Cond.selects RX4 yX4_noteCommon yX4_noteCommon, Cond.code yX4_noteCommon cX4_noteCommon 4 none, Cond.methodLink RX4 116 Lib.Math.max.name, Cond.static Lib.Math.max.name, Cond.initialized "java/lang/Math", Cond.code Lib.Math.max.name Lib.Math.max.code 2 (some .int), Cond.methodLink RL 55 yX6_count, Cond.instanceMethod yX6_count, Cond.selects RX6 yX6_count yX6_count, Cond.code yX6_count cX6_count 6 (some .int), Cond.methodLink RX6 86 yX6_learn, Cond.instanceMethod yX6_learn, Cond.selects RX6 yX6_learn yX6_learn, Cond.code yX6_learn cX6_learn 6 none, Cond.fieldLink RX6 70 "ColourForestsModel" "most" "I", Cond.methodLink RX6 73 yX6_hasNoRing, Cond.instanceMethod yX6_hasNoRing, Cond.selects RX6 yX6_hasNoRing yX6_hasNoRing]
def wsL_law0_r13 : List Cond := [Cond.code yX6_hasNoRing cX6_hasNoRing 6 (some .boolean), Cond.methodLink RX6 66 yX6_has, Cond.static yX6_has, Cond.code yX6_has cX6_has 2 (some .boolean), Cond.methodLink RX6 76 yX6_keepsLimits, Cond.instanceMethod yX6_keepsLimits, Cond.selects RX6 yX6_keepsLimits yX6_keepsLimits, Cond.code yX6_keepsLimits cX6_keepsLimits 4 (some .boolean), Cond.methodLink RX6 79 yX6_size, Cond.static yX6_size, Cond.code yX6_size cX6_size 3 (some .int), Cond.methodLink RX6 83 yX6_weightOf, Cond.instanceMethod yX6_weightOf, Cond.selects RX6 yX6_weightOf yX6_weightOf, Cond.code yX6_weightOf cX6_weightOf 4 (some .int), Cond.methodLink RL 56 yX5_rank, Cond.instanceMethod yX5_rank, Cond.selects RX5 yX5_rank yX5_rank, Cond.code yX5_rank cX5_rank 4 (some .int), Cond.methodLink RX5 106 yX5_judgeOf, Cond.instanceMethod yX5_judgeOf, Cond.selects RX5 yX5_judgeOf yX5_judgeOf, Cond.code yX5_judgeOf cX5_judgeOf 2 (some (.object "ColourForests$Kind")), Cond.methodLink RX5 110 yX0_hasSet]
def wsL_law0_r14 : List Cond := [Cond.instanceMethod yX0_hasSet, Cond.selects RX0 yX0_hasSet yX0_hasSet, Cond.code yX0_hasSet cX0_hasSet 2 (some .boolean), Cond.methodLink RX0 50 yX0_allEdges, Cond.instanceMethod yX0_allEdges, Cond.selects RX0 yX0_allEdges yX0_allEdges, Cond.code yX0_allEdges cX0_allEdges 1 (some .int), Cond.methodLink RX5 113 ⟨"ColourForests$Kind", "rankOf", "(I)I"⟩, Cond.sameMethod "ColourForests$Kind" "ColourForests$Kind" "rankOf" "(I)I", Cond.selects RX2 ⟨"ColourForests$Kind", "rankOf", "(I)I"⟩ yX2_rankOf, Cond.instanceMethod yX2_rankOf, Cond.code yX2_rankOf cX2_rankOf 5 (some .int), Cond.fieldLink RX2 7 "ColourForests$LimitKind" "graph" "LColourForests$Graph;", Cond.sameField "ColourForests$LimitKind" "ColourForests$Kind" "graph" "LColourForests$Graph;", Cond.fieldLink RX2 19 "ColourForests$Graph" "edges" "I", Cond.methodLink RX2 13 yX0_fullRoom, Cond.static yX5_hasBit, Cond.code yX5_hasBit cX5_hasBit 2 (some .boolean), Cond.methodLink RX2 29 yX0_hasRoom, Cond.methodLink RX2 32 yX0_roomAfter, Cond.selects RX3 ⟨"ColourForests$Kind", "rankOf", "(I)I"⟩ yX3_rankOf, Cond.instanceMethod yX3_rankOf, Cond.code yX3_rankOf cX3_rankOf 5 (some .int), Cond.fieldLink RX3 7 "ColourForests$RinglessKind" "graph" "LColourForests$Graph;"]
def wsL_law0_r15 : List Cond := [Cond.sameField "ColourForests$RinglessKind" "ColourForests$Kind" "graph" "LColourForests$Graph;", Cond.fieldLink RX3 19 "ColourForests$Graph" "edges" "I", Cond.methodLink RX3 13 yX0_loneParts, Cond.methodLink RX3 29 yX0_joinsTwoParts, Cond.methodLink RX3 32 yX0_partsJoinedBy, Cond.methodLink RL 60 yX6_rank, Cond.instanceMethod yX6_rank, Cond.selects RX6 yX6_rank yX6_rank, Cond.code yX6_rank cX6_rank 3 (some .int), Cond.methodLink RX6 89 yX6_isKind, Cond.static yX6_isKind, Cond.code yX6_isKind cX6_isKind 1 (some .boolean), Cond.methodLink RX6 92 yX6_isSet, Cond.instanceMethod yX6_isSet, Cond.selects RX6 yX6_isSet yX6_isSet, Cond.code yX6_isSet cX6_isSet 2 (some .boolean), Cond.methodLink RL 61 yX5_free, Cond.instanceMethod yX5_free, Cond.selects RX5 yX5_free yX5_free, Cond.code yX5_free cX5_free 4 (some .int), Cond.methodLink RX5 119 yX5_isCommon, Cond.instanceMethod yX5_isCommon, Cond.selects RX5 yX5_isCommon yX5_isCommon, Cond.code yX5_isCommon cX5_isCommon 2 (some .boolean)]
def wsL_law0_r16 : List Cond := [Cond.methodLink RX5 126 ⟨"ColourForests$Kind", "allows", "(I)Z"⟩, Cond.sameMethod "ColourForests$Kind" "ColourForests$Kind" "allows" "(I)Z", Cond.selects RX2 ⟨"ColourForests$Kind", "allows", "(I)Z"⟩ yX1_allows, Cond.instanceMethod yX1_allows, Cond.code yX1_allows cX1_allows 2 (some .boolean), Cond.methodLink RX1 13 ⟨"ColourForests$Kind", "rankOf", "(I)I"⟩, Cond.methodLink RX1 17 yJ6_bitCount_0f7a4, Cond.selects RX3 ⟨"ColourForests$Kind", "allows", "(I)Z"⟩ yX1_allows, Cond.methodLink RX5 122 yX5_told, Cond.static yX5_told, Cond.code yX5_told cX5_told 1 (some .int), Cond.methodLink RL 64 yX6_free, Cond.instanceMethod yX6_free, Cond.selects RX6 yX6_free yX6_free, Cond.code yX6_free cX6_free 4 (some .int), Cond.methodLink RL 65 yX5_circuit, Cond.instanceMethod yX5_circuit, Cond.selects RX5 yX5_circuit yX5_circuit, Cond.code yX5_circuit cX5_circuit 5 (some .int), Cond.methodLink RX5 129 yX5_hasBit, Cond.methodLink RX5 133 ⟨"ColourForests$Kind", "circuitWithin", "(I)I"⟩, Cond.sameMethod "ColourForests$Kind" "ColourForests$Kind" "circuitWithin" "(I)I", Cond.selects RX2 ⟨"ColourForests$Kind", "circuitWithin", "(I)I"⟩ yX1_circuitWithin, Cond.instanceMethod yX1_circuitWithin]
def wsL_law0_r17 : List Cond := [Cond.code yX1_circuitWithin cX1_circuitWithin 6 (some .int), Cond.fieldLink RX1 22 "ColourForests$Graph" "edges" "I", Cond.selects RX3 ⟨"ColourForests$Kind", "circuitWithin", "(I)I"⟩ yX1_circuitWithin, Cond.methodLink RL 69 yX6_circuit, Cond.instanceMethod yX6_circuit, Cond.selects RX6 yX6_circuit yX6_circuit, Cond.code yX6_circuit cX6_circuit 8 (some .int), Cond.methodLink RL 70 yX5_closure, Cond.instanceMethod yX5_closure, Cond.selects RX5 yX5_closure yX5_closure, Cond.code yX5_closure cX5_closure 4 (some .int), Cond.methodLink RX5 136 ⟨"ColourForests$Kind", "closureOf", "(I)I"⟩, Cond.sameMethod "ColourForests$Kind" "ColourForests$Kind" "closureOf" "(I)I", Cond.selects RX2 ⟨"ColourForests$Kind", "closureOf", "(I)I"⟩ yX1_closureOf, Cond.instanceMethod yX1_closureOf, Cond.code yX1_closureOf cX1_closureOf 6 (some .int), Cond.selects RX3 ⟨"ColourForests$Kind", "closureOf", "(I)I"⟩ yX1_closureOf, Cond.methodLink RL 73 yX6_closure, Cond.instanceMethod yX6_closure, Cond.selects RX6 yX6_closure yX6_closure, Cond.code yX6_closure cX6_closure 6 (some .int), Cond.methodLink RL 74 yX5_most, Cond.instanceMethod yX5_most, Cond.selects RX5 yX5_most yX5_most]
def wsL_law0_r18 : List Cond := [Cond.code yX5_most cX5_most 1 (some .int), Cond.fieldLink RX5 139 "ColourForests$Survey" "most" "I", Cond.methodLink RL 77 yX6_most, Cond.instanceMethod yX6_most, Cond.selects RX6 yX6_most yX6_most, Cond.code yX6_most cX6_most 1 (some .int), Cond.methodLink RL 78 yX5_dearest, Cond.instanceMethod yX5_dearest, Cond.selects RX5 yX5_dearest yX5_dearest, Cond.code yX5_dearest cX5_dearest 2 (some .int), Cond.fieldLink RX5 145 "ColourForests$Survey" "dearestSets" "[I", Cond.methodLink RX5 142 yX4_hasSize, Cond.instanceMethod yX4_hasSize, Cond.selects RX4 yX4_hasSize yX4_hasSize, Cond.code yX4_hasSize cX4_hasSize 2 (some .boolean), Cond.methodLink RL 81 yX6_dearest, Cond.instanceMethod yX6_dearest, Cond.selects RX6 yX6_dearest yX6_dearest, Cond.code yX6_dearest cX6_dearest 2 (some .int), Cond.methodLink RL 82 yL_weight, Cond.static yL_weight, Cond.codeWith yL_weight cL_weight 4 (some .int) [(0, 9, 12, 13)], Cond.methodLink RL 23 yX5_weight, Cond.instanceMethod yX5_weight]
def wsL_law0_r19 : List Cond := [Cond.selects RX5 yX5_weight yX5_weight, Cond.code yX5_weight cX5_weight 2 (some .int), Cond.fieldLink RX5 151 "ColourForests$Survey" "dearestWeights" "[I", Cond.methodLink RL 85 yX6_weight, Cond.instanceMethod yX6_weight, Cond.selects RX6 yX6_weight yX6_weight, Cond.code yX6_weight cX6_weight 2 (some .int), Cond.methodLink RL 86 yX5_heaviest, Cond.instanceMethod yX5_heaviest, Cond.selects RX5 yX5_heaviest yX5_heaviest, Cond.code yX5_heaviest cX5_heaviest 3 (some .int), Cond.methodLink RL 89 yX6_heaviest, Cond.instanceMethod yX6_heaviest, Cond.selects RX6 yX6_heaviest yX6_heaviest, Cond.code yX6_heaviest cX6_heaviest 3 (some .int), Cond.methodLink RL 90 yX5_witness, Cond.instanceMethod yX5_witness, Cond.selects RX5 yX5_witness yX5_witness, Cond.code yX5_witness cX5_witness 2 (some .int), Cond.methodLink RX5 154 yX5_leastWitness, Cond.instanceMethod yX5_leastWitness, Cond.selects RX5 yX5_leastWitness yX5_leastWitness, Cond.code yX5_leastWitness cX5_leastWitness 1 (some .int), Cond.methodLink RX5 174 yX5_leastSplit]
def wsL_law0_r20 : List Cond := [Cond.instanceMethod yX5_leastSplit, Cond.selects RX5 yX5_leastSplit yX5_leastSplit, Cond.code yX5_leastSplit cX5_leastSplit 8 (some .int), Cond.methodLink RX5 171 yX0_allEdges, Cond.methodLink RX5 178 yJ6_lowestOneBit_0f7a4, Cond.static yJ6_lowestOneBit_0f7a4, Cond.code yJ6_lowestOneBit_0f7a4 cJ6_lowestOneBit_0f7a4 1 (some .int), Cond.methodLink RX5 158 yX5_greatestWitness, Cond.instanceMethod yX5_greatestWitness, Cond.selects RX5 yX5_greatestWitness yX5_greatestWitness, Cond.code yX5_greatestWitness cX5_greatestWitness 1 (some .int), Cond.methodLink RL 93 yX6_witness, Cond.instanceMethod yX6_witness, Cond.selects RX6 yX6_witness yX6_witness, Cond.code yX6_witness cX6_witness 6 (some .int), Cond.methodLink RL 94 yX5_check, Cond.instanceMethod yX5_check, Cond.selects RX5 yX5_check yX5_check, Cond.code yX5_check cX5_check 2 (some .int), Cond.methodLink RX5 161 yX5_dearestAreSuch, Cond.instanceMethod yX5_dearestAreSuch, Cond.selects RX5 yX5_dearestAreSuch yX5_dearestAreSuch, Cond.code yX5_dearestAreSuch cX5_dearestAreSuch 3 (some .boolean), Cond.methodLink RX5 183 yJ6_bitCount_0f7a4]
def wsL_law0_r21 : List Cond := [Cond.methodLink RX5 165 yX5_gainsNeverRise, Cond.instanceMethod yX5_gainsNeverRise, Cond.selects RX5 yX5_gainsNeverRise yX5_gainsNeverRise, Cond.code yX5_gainsNeverRise cX5_gainsNeverRise 4 (some .boolean), Cond.methodLink RX5 168 yX5_isWitness, Cond.instanceMethod yX5_isWitness, Cond.selects RX5 yX5_isWitness yX5_isWitness, Cond.code yX5_isWitness cX5_isWitness 3 (some .boolean), Cond.methodLink RL 97 yX6_check, Cond.instanceMethod yX6_check, Cond.selects RX6 yX6_check yX6_check, Cond.code yX6_check cX6_check 1 (some .int)]
def wsL_law0 : List Cond := (wsL_law0_r1 ++ (wsL_law0_r2 ++ (wsL_law0_r3 ++ (wsL_law0_r4 ++ (wsL_law0_r5 ++ (wsL_law0_r6 ++ (wsL_law0_r7 ++ (wsL_law0_r8 ++ (wsL_law0_r9 ++ (wsL_law0_r10 ++ (wsL_law0_r11 ++ (wsL_law0_r12 ++ (wsL_law0_r13 ++ (wsL_law0_r14 ++ (wsL_law0_r15 ++ (wsL_law0_r16 ++ (wsL_law0_r17 ++ (wsL_law0_r18 ++ (wsL_law0_r19 ++ (wsL_law0_r20 ++ wsL_law0_r21)))))))))))))))))))) ++ wsX50 ++ wsX60 ++ wsX00 ++ wsX30 ++ wsX20 ++ wsX40 ++ ([] : List Cond)
def wsL_law : List Cond := wsL_law0 ++ (vx_atS RX5 46 "java/lang/IllegalArgumentException" ["java/lang/RuntimeException", "java/lang/Exception"]).filter goodWord ++ (vx_atS RX5 75 "java/lang/IndexOutOfBoundsException" ["java/lang/RuntimeException", "java/lang/Exception"]).filter goodWord
end
section
set_option maxRecDepth 20000 in
theorem in_wsL_law0_r1 : ∀ w ∈ wsL_law0_r1, w ∈ lw_tbl := fun w h => (goodIn_p wsL_law0_r1 [42, 45] (by decide +kernel) (by decide +kernel) w h).1
set_option maxRecDepth 20000 in
theorem in_wsL_law0_r2 : ∀ w ∈ wsL_law0_r2, w ∈ lw_tbl := fun w h => (goodIn_p wsL_law0_r2 [50, 94, 97] (by decide +kernel) (by decide +kernel) w h).1
set_option maxRecDepth 20000 in
theorem in_wsL_law0_r3 : ∀ w ∈ wsL_law0_r3, w ∈ lw_tbl := fun w h => (goodIn_p wsL_law0_r3 [111, 119, 544] (by decide +kernel) (by decide +kernel) w h).1
set_option maxRecDepth 20000 in
theorem in_wsL_law0_r4 : ∀ w ∈ wsL_law0_r4, w ∈ lw_tbl := fun w h => (goodIn_p wsL_law0_r4 [415] (by decide +kernel) (by decide +kernel) w h).1
set_option maxRecDepth 20000 in
theorem in_wsL_law0_r5 : ∀ w ∈ wsL_law0_r5, w ∈ lw_tbl := fun w h => (goodIn_p wsL_law0_r5 [183, 486, 489, 604, 608] (by decide +kernel) (by decide +kernel) w h).1
set_option maxRecDepth 20000 in
theorem in_wsL_law0_r6 : ∀ w ∈ wsL_law0_r6, w ∈ lw_tbl := fun w h => (goodIn_p wsL_law0_r6 [600, 176, 180, 187, 190, 195] (by decide +kernel) (by decide +kernel) w h).1
set_option maxRecDepth 20000 in
theorem in_wsL_law0_r7 : ∀ w ∈ wsL_law0_r7, w ∈ lw_tbl := fun w h => (goodIn_p wsL_law0_r7 [612, 615, 497, 518, 619] (by decide +kernel) (by decide +kernel) w h).1
set_option maxRecDepth 20000 in
theorem in_wsL_law0_r8 : ∀ w ∈ wsL_law0_r8, w ∈ lw_tbl := fun w h => (goodIn_p wsL_law0_r8 [525, 336, 531, 623, 199] (by decide +kernel) (by decide +kernel) w h).1
set_option maxRecDepth 20000 in
theorem in_wsL_law0_r9 : ∀ w ∈ wsL_law0_r9, w ∈ lw_tbl := fun w h => (goodIn_p wsL_law0_r9 [203, 207, 211, 215] (by decide +kernel) (by decide +kernel) w h).1
set_option maxRecDepth 20000 in
theorem in_wsL_law0_r10 : ∀ w ∈ wsL_law0_r10, w ∈ lw_tbl := fun w h => (goodIn_p wsL_law0_r10 [218, 222, 225, 230, 234, 238] (by decide +kernel) (by decide +kernel) w h).1
set_option maxRecDepth 20000 in
theorem in_wsL_law0_r11 : ∀ w ∈ wsL_law0_r11, w ∈ lw_tbl := fun w h => (goodIn_p wsL_law0_r11 [241, 245, 249, 253, 257, 260] (by decide +kernel) (by decide +kernel) w h).1
set_option maxRecDepth 20000 in
theorem in_wsL_law0_r12 : ∀ w ∈ wsL_law0_r12, w ∈ lw_tbl := fun w h => (goodIn_p wsL_law0_r12 [267, 271, 274, 627, 631] (by decide +kernel) (by decide +kernel) w h).1
set_option maxRecDepth 20000 in
theorem in_wsL_law0_r13 : ∀ w ∈ wsL_law0_r13, w ∈ lw_tbl := fun w h => (goodIn_p wsL_law0_r13 [635, 638, 642, 645, 649, 278, 282] (by decide +kernel) (by decide +kernel) w h).1
set_option maxRecDepth 20000 in
theorem in_wsL_law0_r14 : ∀ w ∈ wsL_law0_r14, w ∈ lw_tbl := fun w h => (goodIn_p wsL_law0_r14 [286, 290, 296, 300, 305] (by decide +kernel) (by decide +kernel) w h).1
set_option maxRecDepth 20000 in
theorem in_wsL_law0_r15 : ∀ w ∈ wsL_law0_r15, w ∈ lw_tbl := fun w h => (goodIn_p wsL_law0_r15 [653, 656, 660, 313, 317] (by decide +kernel) (by decide +kernel) w h).1
set_option maxRecDepth 20000 in
theorem in_wsL_law0_r16 : ∀ w ∈ wsL_law0_r16, w ∈ lw_tbl := fun w h => (goodIn_p wsL_law0_r16 [323, 328, 664, 332] (by decide +kernel) (by decide +kernel) w h).1
set_option maxRecDepth 20000 in
theorem in_wsL_law0_r17 : ∀ w ∈ wsL_law0_r17, w ∈ lw_tbl := fun w h => (goodIn_p wsL_law0_r17 [343, 668, 347, 353, 672] (by decide +kernel) (by decide +kernel) w h).1
set_option maxRecDepth 20000 in
theorem in_wsL_law0_r18 : ∀ w ∈ wsL_law0_r18, w ∈ lw_tbl := fun w h => (goodIn_p wsL_law0_r18 [357, 676, 361, 365, 680] (by decide +kernel) (by decide +kernel) w h).1
set_option maxRecDepth 20000 in
theorem in_wsL_law0_r19 : ∀ w ∈ wsL_law0_r19, w ∈ lw_tbl := fun w h => (goodIn_p wsL_law0_r19 [538, 684, 370, 688, 374, 378] (by decide +kernel) (by decide +kernel) w h).1
set_option maxRecDepth 20000 in
theorem in_wsL_law0_r20 : ∀ w ∈ wsL_law0_r20, w ∈ lw_tbl := fun w h => (goodIn_p wsL_law0_r20 [382, 386, 390, 692, 394, 398] (by decide +kernel) (by decide +kernel) w h).1
set_option maxRecDepth 20000 in
theorem in_wsL_law0_r21 : ∀ w ∈ wsL_law0_r21, w ∈ lw_tbl := fun w h => (goodIn_p wsL_law0_r21 [403, 407, 696] (by decide +kernel) (by decide +kernel) w h).1
set_option maxRecDepth 20000 in
theorem in_law_wsX50 : ∀ w ∈ wsX50, w ∈ lw_tbl := by decide +kernel
set_option maxRecDepth 20000 in
theorem in_law_wsX60 : ∀ w ∈ wsX60, w ∈ lw_tbl := by decide +kernel
set_option maxRecDepth 20000 in
theorem in_law_wsX00 : ∀ w ∈ wsX00, w ∈ lw_tbl := by decide +kernel
set_option maxRecDepth 20000 in
theorem in_law_wsX30 : ∀ w ∈ wsX30, w ∈ lw_tbl := by decide +kernel
set_option maxRecDepth 20000 in
theorem in_law_wsX20 : ∀ w ∈ wsX20, w ∈ lw_tbl := by decide +kernel
set_option maxRecDepth 20000 in
theorem in_law_wsX40 : ∀ w ∈ wsX40, w ∈ lw_tbl := by decide +kernel
set_option maxRecDepth 20000 in
theorem wsL_law_in0 : ∀ w ∈ wsL_law0, w ∈ lw_tbl := (fun w h => (List.mem_append.mp h).elim ((fun w h => (List.mem_append.mp h).elim ((fun w h => (List.mem_append.mp h).elim ((fun w h => (List.mem_append.mp h).elim ((fun w h => (List.mem_append.mp h).elim ((fun w h => (List.mem_append.mp h).elim ((fun w h => (List.mem_append.mp h).elim ((fun w h => (List.mem_append.mp h).elim (in_wsL_law0_r1 w) ((fun w h => (List.mem_append.mp h).elim (in_wsL_law0_r2 w) ((fun w h => (List.mem_append.mp h).elim (in_wsL_law0_r3 w) ((fun w h => (List.mem_append.mp h).elim (in_wsL_law0_r4 w) ((fun w h => (List.mem_append.mp h).elim (in_wsL_law0_r5 w) ((fun w h => (List.mem_append.mp h).elim (in_wsL_law0_r6 w) ((fun w h => (List.mem_append.mp h).elim (in_wsL_law0_r7 w) ((fun w h => (List.mem_append.mp h).elim (in_wsL_law0_r8 w) ((fun w h => (List.mem_append.mp h).elim (in_wsL_law0_r9 w) ((fun w h => (List.mem_append.mp h).elim (in_wsL_law0_r10 w) ((fun w h => (List.mem_append.mp h).elim (in_wsL_law0_r11 w) ((fun w h => (List.mem_append.mp h).elim (in_wsL_law0_r12 w) ((fun w h => (List.mem_append.mp h).elim (in_wsL_law0_r13 w) ((fun w h => (List.mem_append.mp h).elim (in_wsL_law0_r14 w) ((fun w h => (List.mem_append.mp h).elim (in_wsL_law0_r15 w) ((fun w h => (List.mem_append.mp h).elim (in_wsL_law0_r16 w) ((fun w h => (List.mem_append.mp h).elim (in_wsL_law0_r17 w) ((fun w h => (List.mem_append.mp h).elim (in_wsL_law0_r18 w) ((fun w h => (List.mem_append.mp h).elim (in_wsL_law0_r19 w) ((fun w h => (List.mem_append.mp h).elim (in_wsL_law0_r20 w) (in_wsL_law0_r21 w)) w)) w)) w)) w)) w)) w)) w)) w)) w)) w)) w)) w)) w)) w)) w)) w)) w)) w)) w)) w) (in_law_wsX50 w)) w) (in_law_wsX60 w)) w) (in_law_wsX00 w)) w) (in_law_wsX30 w)) w) (in_law_wsX20 w)) w) (in_law_wsX40 w)) w) (fun h => nomatch h))
theorem wsL_law_x0 : ∀ w ∈ (vx_atS RX5 46 "java/lang/IllegalArgumentException" ["java/lang/RuntimeException", "java/lang/Exception"]).filter goodWord, w ∈ lw_tbl := by decide +kernel
theorem wsL_law_x1 : ∀ w ∈ (vx_atS RX5 75 "java/lang/IndexOutOfBoundsException" ["java/lang/RuntimeException", "java/lang/Exception"]).filter goodWord, w ∈ lw_tbl := by decide +kernel
theorem wsL_law_in : ∀ w ∈ wsL_law, w ∈ lw_tbl := fun w h => (List.mem_append.mp h).elim (fun h => (List.mem_append.mp h).elim (fun h => wsL_law_in0 w h) (fun h => wsL_law_x0 w h)) (fun h => wsL_law_x1 w h)
theorem inlX0 : ∀ w ∈ wsX00, w ∈ wsL_law := fun _ h => List.mem_append_left _ (List.mem_append_left _ (List.mem_append_left _ (List.mem_append_left _ (List.mem_append_left _ (List.mem_append_left _ (List.mem_append_right _ h))))))
theorem inX0 : ∀ w ∈ wsX00, w ∈ lw_tbl := fun w h => wsL_law_in w (inlX0 w h)
theorem inX1 : ∀ w ∈ wsX10, w ∈ lw_tbl := by decide +kernel
theorem inlX2 : ∀ w ∈ wsX20, w ∈ wsL_law := fun _ h => List.mem_append_left _ (List.mem_append_left _ (List.mem_append_left _ (List.mem_append_left _ (List.mem_append_right _ h))))
theorem inX2 : ∀ w ∈ wsX20, w ∈ lw_tbl := fun w h => wsL_law_in w (inlX2 w h)
theorem inlX3 : ∀ w ∈ wsX30, w ∈ wsL_law := fun _ h => List.mem_append_left _ (List.mem_append_left _ (List.mem_append_left _ (List.mem_append_left _ (List.mem_append_left _ (List.mem_append_right _ h)))))
theorem inX3 : ∀ w ∈ wsX30, w ∈ lw_tbl := fun w h => wsL_law_in w (inlX3 w h)
theorem inlX4 : ∀ w ∈ wsX40, w ∈ wsL_law := fun _ h => List.mem_append_left _ (List.mem_append_left _ (List.mem_append_left _ (List.mem_append_right _ h)))
theorem inX4 : ∀ w ∈ wsX40, w ∈ lw_tbl := fun w h => wsL_law_in w (inlX4 w h)
theorem inlX5 : ∀ w ∈ wsX50, w ∈ wsL_law := fun _ h => List.mem_append_left _ (List.mem_append_left _ (List.mem_append_left _ (List.mem_append_left _ (List.mem_append_left _ (List.mem_append_left _ (List.mem_append_left _ (List.mem_append_left _ (List.mem_append_right _ h))))))))
theorem inX5 : ∀ w ∈ wsX50, w ∈ lw_tbl := fun w h => wsL_law_in w (inlX5 w h)
theorem inlX6 : ∀ w ∈ wsX60, w ∈ wsL_law := fun _ h => List.mem_append_left _ (List.mem_append_left _ (List.mem_append_left _ (List.mem_append_left _ (List.mem_append_left _ (List.mem_append_left _ (List.mem_append_left _ (List.mem_append_right _ h)))))))
theorem inX6 : ∀ w ∈ wsX60, w ∈ lw_tbl := fun w h => wsL_law_in w (inlX6 w h)
theorem inJx145de : ∀ w ∈ wsJx145de0, w ∈ lw_tbl := by decide +kernel
theorem inJ6 : ∀ w ∈ wsJ60, w ∈ lw_tbl := by decide +kernel
theorem inJ9 : ∀ w ∈ wsJ90, w ∈ lw_tbl := by decide +kernel
theorem inJ0 : ∀ w ∈ wsJ00, w ∈ lw_tbl := by decide +kernel
theorem inJ7 : ∀ w ∈ wsJ70, w ∈ lw_tbl := by decide +kernel
end
section
theorem dX0_init_0 : decode cX0_init 0 = .ok (.aload_n 0, 1) := by decide +kernel
theorem dX0_init_1 : decode cX0_init 1 = .ok (.invokespecial 3, 3) := by decide +kernel
theorem dX0_init_4 : decode cX0_init 4 = .ok (.aload_n 0, 1) := by decide +kernel
theorem dX0_init_5 : decode cX0_init 5 = .ok (.bipush 6, 2) := by decide +kernel
theorem dX0_init_7 : decode cX0_init 7 = .ok (.newarray .int, 2) := by decide +kernel
theorem dX0_init_9 : decode cX0_init 9 = .ok (.putfield 9, 3) := by decide +kernel
theorem dX0_init_12 : decode cX0_init 12 = .ok (.aload_n 0, 1) := by decide +kernel
theorem dX0_init_13 : decode cX0_init 13 = .ok (.bipush 14, 2) := by decide +kernel
theorem dX0_init_15 : decode cX0_init 15 = .ok (.newarray .int, 2) := by decide +kernel
theorem dX0_init_17 : decode cX0_init 17 = .ok (.putfield 15, 3) := by decide +kernel
theorem dX0_init_20 : decode cX0_init 20 = .ok (.aload_n 0, 1) := by decide +kernel
theorem dX0_init_21 : decode cX0_init 21 = .ok (.bipush 14, 2) := by decide +kernel
theorem dX0_init_23 : decode cX0_init 23 = .ok (.newarray .int, 2) := by decide +kernel
theorem dX0_init_25 : decode cX0_init 25 = .ok (.putfield 18, 3) := by decide +kernel
theorem dX0_init_28 : decode cX0_init 28 = .ok (.aload_n 0, 1) := by decide +kernel
theorem dX0_init_29 : decode cX0_init 29 = .ok (.bipush 14, 2) := by decide +kernel
theorem dX0_init_31 : decode cX0_init 31 = .ok (.newarray .int, 2) := by decide +kernel
theorem dX0_init_33 : decode cX0_init 33 = .ok (.putfield 21, 3) := by decide +kernel
theorem dX0_init_36 : decode cX0_init 36 = .ok (.aload_n 0, 1) := by decide +kernel
theorem dX0_init_37 : decode cX0_init 37 = .ok (.bipush 14, 2) := by decide +kernel
theorem dX0_init_39 : decode cX0_init 39 = .ok (.newarray .int, 2) := by decide +kernel
theorem dX0_init_41 : decode cX0_init 41 = .ok (.putfield 24, 3) := by decide +kernel
theorem dX0_init_44 : decode cX0_init 44 = .ok (.aload_n 0, 1) := by decide +kernel
theorem dX0_init_45 : decode cX0_init 45 = .ok (.iconst 1, 1) := by decide +kernel
theorem dX0_init_46 : decode cX0_init 46 = .ok (.putfield 27, 3) := by decide +kernel
theorem dX0_init_49 : decode cX0_init 49 = .ok (.aload_n 0, 1) := by decide +kernel
theorem dX0_init_50 : decode cX0_init 50 = .ok (.iconst 1, 1) := by decide +kernel
theorem dX0_init_51 : decode cX0_init 51 = .ok (.putfield 31, 3) := by decide +kernel
theorem dX0_init_54 : decode cX0_init 54 = .ok (.aload_n 0, 1) := by decide +kernel
theorem dX0_init_55 : decode cX0_init 55 = .ok (.getfield 9, 3) := by decide +kernel
theorem dX0_init_58 : decode cX0_init 58 = .ok (.iconst 0, 1) := by decide +kernel
theorem dX0_init_59 : decode cX0_init 59 = .ok (.iconst 1, 1) := by decide +kernel
theorem dX0_init_60 : decode cX0_init 60 = .ok (.iastore, 1) := by decide +kernel
theorem dX0_init_61 : decode cX0_init 61 = .ok (.return_, 1) := by decide +kernel
set_option maxRecDepth 20000 in
theorem ggX0_restart_J7_fill_53178 : GoodIn wsX0_restart wsJ7_fill_53178 := goodIn_r _ [9] (by decide +kernel) (by decide +kernel)
set_option maxRecDepth 20000 in
theorem gX0_restart_J7_fill_53178 : GoodIn wsX0_restart (va_wsS RX0 37 yJ7_fill_53178 wsJ7_fill_53178) := goodIn_app (goodIn_of _ (by decide +kernel)) ggX0_restart_J7_fill_53178
theorem dX0_restart_0 : decode cX0_restart 0 = .ok (.aload_n 0, 1) := by decide +kernel
theorem dX0_restart_1 : decode cX0_restart 1 = .ok (.iload_n 1, 1) := by decide +kernel
theorem dX0_restart_2 : decode cX0_restart 2 = .ok (.putfield 27, 3) := by decide +kernel
theorem dX0_restart_5 : decode cX0_restart 5 = .ok (.aload_n 0, 1) := by decide +kernel
theorem dX0_restart_6 : decode cX0_restart 6 = .ok (.iload_n 2, 1) := by decide +kernel
theorem dX0_restart_7 : decode cX0_restart 7 = .ok (.putfield 31, 3) := by decide +kernel
theorem dX0_restart_10 : decode cX0_restart 10 = .ok (.aload_n 0, 1) := by decide +kernel
theorem dX0_restart_11 : decode cX0_restart 11 = .ok (.iconst 0, 1) := by decide +kernel
theorem dX0_restart_12 : decode cX0_restart 12 = .ok (.putfield 34, 3) := by decide +kernel
theorem dX0_restart_15 : decode cX0_restart 15 = .ok (.aload_n 0, 1) := by decide +kernel
theorem dX0_restart_16 : decode cX0_restart 16 = .ok (.getfield 9, 3) := by decide +kernel
theorem dX0_restart_19 : decode cX0_restart 19 = .ok (.iconst 1, 1) := by decide +kernel
theorem dX0_restart_20 : decode cX0_restart 20 = .ok (.invokestatic 37, 3) := by decide +kernel
theorem dX0_restart_23 : decode cX0_restart 23 = .ok (.aload_n 0, 1) := by decide +kernel
theorem dX0_restart_24 : decode cX0_restart 24 = .ok (.dup, 1) := by decide +kernel
theorem dX0_restart_25 : decode cX0_restart 25 = .ok (.getfield 43, 3) := by decide +kernel
theorem dX0_restart_28 : decode cX0_restart 28 = .ok (.iconst 1, 1) := by decide +kernel
theorem dX0_restart_29 : decode cX0_restart 29 = .ok (.iadd, 1) := by decide +kernel
theorem dX0_restart_30 : decode cX0_restart 30 = .ok (.putfield 43, 3) := by decide +kernel
theorem dX0_restart_33 : decode cX0_restart 33 = .ok (.return_, 1) := by decide +kernel
theorem dX0_addEdge_0 : decode cX0_addEdge 0 = .ok (.aload_n 0, 1) := by decide +kernel
theorem dX0_addEdge_1 : decode cX0_addEdge 1 = .ok (.getfield 34, 3) := by decide +kernel
theorem dX0_addEdge_4 : decode cX0_addEdge 4 = .ok (.istore 5, 2) := by decide +kernel
theorem dX0_addEdge_6 : decode cX0_addEdge 6 = .ok (.aload_n 0, 1) := by decide +kernel
theorem dX0_addEdge_7 : decode cX0_addEdge 7 = .ok (.getfield 15, 3) := by decide +kernel
theorem dX0_addEdge_10 : decode cX0_addEdge 10 = .ok (.iload 5, 2) := by decide +kernel
theorem dX0_addEdge_12 : decode cX0_addEdge 12 = .ok (.iload_n 1, 1) := by decide +kernel
theorem dX0_addEdge_13 : decode cX0_addEdge 13 = .ok (.iastore, 1) := by decide +kernel
theorem dX0_addEdge_14 : decode cX0_addEdge 14 = .ok (.aload_n 0, 1) := by decide +kernel
theorem dX0_addEdge_15 : decode cX0_addEdge 15 = .ok (.getfield 18, 3) := by decide +kernel
theorem dX0_addEdge_18 : decode cX0_addEdge 18 = .ok (.iload 5, 2) := by decide +kernel
theorem dX0_addEdge_20 : decode cX0_addEdge 20 = .ok (.iload_n 2, 1) := by decide +kernel
theorem dX0_addEdge_21 : decode cX0_addEdge 21 = .ok (.iastore, 1) := by decide +kernel
theorem dX0_addEdge_22 : decode cX0_addEdge 22 = .ok (.aload_n 0, 1) := by decide +kernel
theorem dX0_addEdge_23 : decode cX0_addEdge 23 = .ok (.getfield 21, 3) := by decide +kernel
theorem dX0_addEdge_26 : decode cX0_addEdge 26 = .ok (.iload 5, 2) := by decide +kernel
theorem dX0_addEdge_28 : decode cX0_addEdge 28 = .ok (.iload_n 3, 1) := by decide +kernel
theorem dX0_addEdge_29 : decode cX0_addEdge 29 = .ok (.iastore, 1) := by decide +kernel
theorem dX0_addEdge_30 : decode cX0_addEdge 30 = .ok (.aload_n 0, 1) := by decide +kernel
theorem dX0_addEdge_31 : decode cX0_addEdge 31 = .ok (.getfield 24, 3) := by decide +kernel
theorem dX0_addEdge_34 : decode cX0_addEdge 34 = .ok (.iload 5, 2) := by decide +kernel
theorem dX0_addEdge_36 : decode cX0_addEdge 36 = .ok (.iload 4, 2) := by decide +kernel
theorem dX0_addEdge_38 : decode cX0_addEdge 38 = .ok (.iastore, 1) := by decide +kernel
theorem dX0_addEdge_39 : decode cX0_addEdge 39 = .ok (.aload_n 0, 1) := by decide +kernel
theorem dX0_addEdge_40 : decode cX0_addEdge 40 = .ok (.dup, 1) := by decide +kernel
theorem dX0_addEdge_41 : decode cX0_addEdge 41 = .ok (.getfield 34, 3) := by decide +kernel
theorem dX0_addEdge_44 : decode cX0_addEdge 44 = .ok (.iconst 1, 1) := by decide +kernel
theorem dX0_addEdge_45 : decode cX0_addEdge 45 = .ok (.iadd, 1) := by decide +kernel
theorem dX0_addEdge_46 : decode cX0_addEdge 46 = .ok (.putfield 34, 3) := by decide +kernel
theorem dX0_addEdge_49 : decode cX0_addEdge 49 = .ok (.aload_n 0, 1) := by decide +kernel
theorem dX0_addEdge_50 : decode cX0_addEdge 50 = .ok (.dup, 1) := by decide +kernel
theorem dX0_addEdge_51 : decode cX0_addEdge 51 = .ok (.getfield 43, 3) := by decide +kernel
theorem dX0_addEdge_54 : decode cX0_addEdge 54 = .ok (.iconst 1, 1) := by decide +kernel
theorem dX0_addEdge_55 : decode cX0_addEdge 55 = .ok (.iadd, 1) := by decide +kernel
theorem dX0_addEdge_56 : decode cX0_addEdge 56 = .ok (.putfield 43, 3) := by decide +kernel
theorem dX0_addEdge_59 : decode cX0_addEdge 59 = .ok (.iload 5, 2) := by decide +kernel
theorem dX0_addEdge_61 : decode cX0_addEdge 61 = .ok (.ireturn, 1) := by decide +kernel
theorem dX0_setLimit_0 : decode cX0_setLimit 0 = .ok (.aload_n 0, 1) := by decide +kernel
theorem dX0_setLimit_1 : decode cX0_setLimit 1 = .ok (.getfield 9, 3) := by decide +kernel
theorem dX0_setLimit_4 : decode cX0_setLimit 4 = .ok (.iload_n 1, 1) := by decide +kernel
theorem dX0_setLimit_5 : decode cX0_setLimit 5 = .ok (.iload_n 2, 1) := by decide +kernel
theorem dX0_setLimit_6 : decode cX0_setLimit 6 = .ok (.iastore, 1) := by decide +kernel
theorem dX0_setLimit_7 : decode cX0_setLimit 7 = .ok (.aload_n 0, 1) := by decide +kernel
theorem dX0_setLimit_8 : decode cX0_setLimit 8 = .ok (.dup, 1) := by decide +kernel
theorem dX0_setLimit_9 : decode cX0_setLimit 9 = .ok (.getfield 43, 3) := by decide +kernel
theorem dX0_setLimit_12 : decode cX0_setLimit 12 = .ok (.iconst 1, 1) := by decide +kernel
theorem dX0_setLimit_13 : decode cX0_setLimit 13 = .ok (.iadd, 1) := by decide +kernel
theorem dX0_setLimit_14 : decode cX0_setLimit 14 = .ok (.putfield 43, 3) := by decide +kernel
theorem dX0_setLimit_17 : decode cX0_setLimit 17 = .ok (.return_, 1) := by decide +kernel
theorem dX0_setWeight_0 : decode cX0_setWeight 0 = .ok (.aload_n 0, 1) := by decide +kernel
theorem dX0_setWeight_1 : decode cX0_setWeight 1 = .ok (.getfield 24, 3) := by decide +kernel
theorem dX0_setWeight_4 : decode cX0_setWeight 4 = .ok (.iload_n 1, 1) := by decide +kernel
theorem dX0_setWeight_5 : decode cX0_setWeight 5 = .ok (.iload_n 2, 1) := by decide +kernel
theorem dX0_setWeight_6 : decode cX0_setWeight 6 = .ok (.iastore, 1) := by decide +kernel
theorem dX0_setWeight_7 : decode cX0_setWeight 7 = .ok (.aload_n 0, 1) := by decide +kernel
theorem dX0_setWeight_8 : decode cX0_setWeight 8 = .ok (.dup, 1) := by decide +kernel
theorem dX0_setWeight_9 : decode cX0_setWeight 9 = .ok (.getfield 43, 3) := by decide +kernel
theorem dX0_setWeight_12 : decode cX0_setWeight 12 = .ok (.iconst 1, 1) := by decide +kernel
theorem dX0_setWeight_13 : decode cX0_setWeight 13 = .ok (.iadd, 1) := by decide +kernel
theorem dX0_setWeight_14 : decode cX0_setWeight 14 = .ok (.putfield 43, 3) := by decide +kernel
theorem dX0_setWeight_17 : decode cX0_setWeight 17 = .ok (.return_, 1) := by decide +kernel
set_option maxRecDepth 20000 in
theorem ggX0_hasVertex_X5_within : GoodIn wsX0_hasVertex wsX5_within := goodIn_r _ [4] (by decide +kernel) (by decide +kernel)
set_option maxRecDepth 20000 in
theorem gX0_hasVertex_X5_within_n46 : GoodIn wsX0_hasVertex (wsX5_within) := ggX0_hasVertex_X5_within
theorem dX0_hasVertex_0 : decode cX0_hasVertex 0 = .ok (.iload_n 1, 1) := by decide +kernel
theorem dX0_hasVertex_1 : decode cX0_hasVertex 1 = .ok (.iconst 0, 1) := by decide +kernel
theorem dX0_hasVertex_2 : decode cX0_hasVertex 2 = .ok (.aload_n 0, 1) := by decide +kernel
theorem dX0_hasVertex_3 : decode cX0_hasVertex 3 = .ok (.getfield 27, 3) := by decide +kernel
theorem dX0_hasVertex_6 : decode cX0_hasVertex 6 = .ok (.iconst 1, 1) := by decide +kernel
theorem dX0_hasVertex_7 : decode cX0_hasVertex 7 = .ok (.isub, 1) := by decide +kernel
theorem dX0_hasVertex_8 : decode cX0_hasVertex 8 = .ok (.invokestatic 46, 3) := by decide +kernel
theorem dX0_hasVertex_11 : decode cX0_hasVertex 11 = .ok (.ireturn, 1) := by decide +kernel
set_option maxRecDepth 20000 in
theorem ggX0_hasColour_X5_within : GoodIn wsX0_hasColour wsX5_within := goodIn_r _ [4] (by decide +kernel) (by decide +kernel)
set_option maxRecDepth 20000 in
theorem gX0_hasColour_X5_within_n46 : GoodIn wsX0_hasColour (wsX5_within) := ggX0_hasColour_X5_within
theorem dX0_hasColour_0 : decode cX0_hasColour 0 = .ok (.iload_n 1, 1) := by decide +kernel
theorem dX0_hasColour_1 : decode cX0_hasColour 1 = .ok (.iconst 0, 1) := by decide +kernel
theorem dX0_hasColour_2 : decode cX0_hasColour 2 = .ok (.aload_n 0, 1) := by decide +kernel
theorem dX0_hasColour_3 : decode cX0_hasColour 3 = .ok (.getfield 31, 3) := by decide +kernel
theorem dX0_hasColour_6 : decode cX0_hasColour 6 = .ok (.iconst 1, 1) := by decide +kernel
theorem dX0_hasColour_7 : decode cX0_hasColour 7 = .ok (.isub, 1) := by decide +kernel
theorem dX0_hasColour_8 : decode cX0_hasColour 8 = .ok (.invokestatic 46, 3) := by decide +kernel
theorem dX0_hasColour_11 : decode cX0_hasColour 11 = .ok (.ireturn, 1) := by decide +kernel
set_option maxRecDepth 20000 in
theorem ggX0_hasEdge_X5_within : GoodIn wsX0_hasEdge wsX5_within := goodIn_r _ [4] (by decide +kernel) (by decide +kernel)
set_option maxRecDepth 20000 in
theorem gX0_hasEdge_X5_within_n46 : GoodIn wsX0_hasEdge (wsX5_within) := ggX0_hasEdge_X5_within
theorem dX0_hasEdge_0 : decode cX0_hasEdge 0 = .ok (.iload_n 1, 1) := by decide +kernel
theorem dX0_hasEdge_1 : decode cX0_hasEdge 1 = .ok (.iconst 0, 1) := by decide +kernel
theorem dX0_hasEdge_2 : decode cX0_hasEdge 2 = .ok (.aload_n 0, 1) := by decide +kernel
theorem dX0_hasEdge_3 : decode cX0_hasEdge 3 = .ok (.getfield 34, 3) := by decide +kernel
theorem dX0_hasEdge_6 : decode cX0_hasEdge 6 = .ok (.iconst 1, 1) := by decide +kernel
theorem dX0_hasEdge_7 : decode cX0_hasEdge 7 = .ok (.isub, 1) := by decide +kernel
theorem dX0_hasEdge_8 : decode cX0_hasEdge 8 = .ok (.invokestatic 46, 3) := by decide +kernel
theorem dX0_hasEdge_11 : decode cX0_hasEdge 11 = .ok (.ireturn, 1) := by decide +kernel
set_option maxRecDepth 20000 in
theorem ggX0_hasSet_X0_allEdges : GoodIn wsX0_hasSet wsX0_allEdges := goodIn_r _ [5, 6, 7, 8, 9, 10, 11, 12, 13, 14, 15] (by decide +kernel) (by decide +kernel)
set_option maxRecDepth 20000 in
theorem gX0_hasSet_X0_allEdges : GoodIn wsX0_hasSet (wsV RX0 50 RX0 yX0_allEdges wsX0_allEdges) := goodIn_app (goodIn_of _ (by decide +kernel)) ggX0_hasSet_X0_allEdges
theorem dX0_hasSet_0 : decode cX0_hasSet 0 = .ok (.iload_n 1, 1) := by decide +kernel
theorem dX0_hasSet_1 : decode cX0_hasSet 1 = .ok (.aload_n 0, 1) := by decide +kernel
theorem dX0_hasSet_2 : decode cX0_hasSet 2 = .ok (.invokevirtual 50, 3) := by decide +kernel
theorem dX0_hasSet_5 : decode cX0_hasSet 5 = .ok (.iconst (-1), 1) := by decide +kernel
theorem dX0_hasSet_6 : decode cX0_hasSet 6 = .ok (.ixor, 1) := by decide +kernel
theorem dX0_hasSet_7 : decode cX0_hasSet 7 = .ok (.iand, 1) := by decide +kernel
theorem dX0_hasSet_8 : decode cX0_hasSet 8 = .ok (.ifCond .ne 7, 3) := by decide +kernel
theorem dX0_hasSet_11 : decode cX0_hasSet 11 = .ok (.iconst 1, 1) := by decide +kernel
theorem dX0_hasSet_12 : decode cX0_hasSet 12 = .ok (.goto 4, 3) := by decide +kernel
theorem dX0_hasSet_15 : decode cX0_hasSet 15 = .ok (.iconst 0, 1) := by decide +kernel
theorem dX0_hasSet_16 : decode cX0_hasSet 16 = .ok (.ireturn, 1) := by decide +kernel
theorem dX0_allEdges_0 : decode cX0_allEdges 0 = .ok (.iconst 1, 1) := by decide +kernel
theorem dX0_allEdges_1 : decode cX0_allEdges 1 = .ok (.aload_n 0, 1) := by decide +kernel
theorem dX0_allEdges_2 : decode cX0_allEdges 2 = .ok (.getfield 34, 3) := by decide +kernel
theorem dX0_allEdges_5 : decode cX0_allEdges 5 = .ok (.ishl, 1) := by decide +kernel
theorem dX0_allEdges_6 : decode cX0_allEdges 6 = .ok (.iconst 1, 1) := by decide +kernel
theorem dX0_allEdges_7 : decode cX0_allEdges 7 = .ok (.isub, 1) := by decide +kernel
theorem dX0_allEdges_8 : decode cX0_allEdges 8 = .ok (.ireturn, 1) := by decide +kernel
set_option maxRecDepth 20000 in
theorem ggX0_loneParts_X5_withCell : GoodIn wsX0_loneParts wsX5_withCell := goodIn_r _ [4] (by decide +kernel) (by decide +kernel)
set_option maxRecDepth 20000 in
theorem gX0_loneParts_X5_withCell_n54 : GoodIn wsX0_loneParts (wsX5_withCell) := ggX0_loneParts_X5_withCell
theorem dX0_loneParts_0 : decode cX0_loneParts 0 = .ok (.iconst 0, 1) := by decide +kernel
theorem dX0_loneParts_1 : decode cX0_loneParts 1 = .ok (.istore_n 1, 1) := by decide +kernel
theorem dX0_loneParts_2 : decode cX0_loneParts 2 = .ok (.iconst 0, 1) := by decide +kernel
theorem dX0_loneParts_3 : decode cX0_loneParts 3 = .ok (.istore_n 2, 1) := by decide +kernel
theorem dX0_loneParts_4 : decode cX0_loneParts 4 = .ok (.iload_n 2, 1) := by decide +kernel
theorem dX0_loneParts_5 : decode cX0_loneParts 5 = .ok (.aload_n 0, 1) := by decide +kernel
theorem dX0_loneParts_6 : decode cX0_loneParts 6 = .ok (.getfield 27, 3) := by decide +kernel
theorem dX0_loneParts_9 : decode cX0_loneParts 9 = .ok (.if_icmp .ge 16, 3) := by decide +kernel
theorem dX0_loneParts_12 : decode cX0_loneParts 12 = .ok (.iload_n 1, 1) := by decide +kernel
theorem dX0_loneParts_13 : decode cX0_loneParts 13 = .ok (.iload_n 2, 1) := by decide +kernel
theorem dX0_loneParts_14 : decode cX0_loneParts 14 = .ok (.iload_n 2, 1) := by decide +kernel
theorem dX0_loneParts_15 : decode cX0_loneParts 15 = .ok (.invokestatic 54, 3) := by decide +kernel
theorem dX0_loneParts_18 : decode cX0_loneParts 18 = .ok (.istore_n 1, 1) := by decide +kernel
theorem dX0_loneParts_19 : decode cX0_loneParts 19 = .ok (.iinc 2 1, 3) := by decide +kernel
theorem dX0_loneParts_22 : decode cX0_loneParts 22 = .ok (.goto (-18), 3) := by decide +kernel
theorem dX0_loneParts_25 : decode cX0_loneParts 25 = .ok (.iload_n 1, 1) := by decide +kernel
theorem dX0_loneParts_26 : decode cX0_loneParts 26 = .ok (.ireturn, 1) := by decide +kernel
set_option maxRecDepth 20000 in
theorem ggX0_joinsTwoParts_X5_cell : GoodIn wsX0_joinsTwoParts wsX5_cell := goodIn_r _ [5] (by decide +kernel) (by decide +kernel)
set_option maxRecDepth 20000 in
theorem gX0_joinsTwoParts_X5_cell_n58 : GoodIn wsX0_joinsTwoParts (wsX5_cell) := ggX0_joinsTwoParts_X5_cell
theorem dX0_joinsTwoParts_0 : decode cX0_joinsTwoParts 0 = .ok (.iload_n 1, 1) := by decide +kernel
theorem dX0_joinsTwoParts_1 : decode cX0_joinsTwoParts 1 = .ok (.aload_n 0, 1) := by decide +kernel
theorem dX0_joinsTwoParts_2 : decode cX0_joinsTwoParts 2 = .ok (.getfield 15, 3) := by decide +kernel
theorem dX0_joinsTwoParts_5 : decode cX0_joinsTwoParts 5 = .ok (.iload_n 2, 1) := by decide +kernel
theorem dX0_joinsTwoParts_6 : decode cX0_joinsTwoParts 6 = .ok (.iaload, 1) := by decide +kernel
theorem dX0_joinsTwoParts_7 : decode cX0_joinsTwoParts 7 = .ok (.invokestatic 58, 3) := by decide +kernel
theorem dX0_joinsTwoParts_10 : decode cX0_joinsTwoParts 10 = .ok (.iload_n 1, 1) := by decide +kernel
theorem dX0_joinsTwoParts_11 : decode cX0_joinsTwoParts 11 = .ok (.aload_n 0, 1) := by decide +kernel
theorem dX0_joinsTwoParts_12 : decode cX0_joinsTwoParts 12 = .ok (.getfield 18, 3) := by decide +kernel
theorem dX0_joinsTwoParts_15 : decode cX0_joinsTwoParts 15 = .ok (.iload_n 2, 1) := by decide +kernel
theorem dX0_joinsTwoParts_16 : decode cX0_joinsTwoParts 16 = .ok (.iaload, 1) := by decide +kernel
theorem dX0_joinsTwoParts_17 : decode cX0_joinsTwoParts 17 = .ok (.invokestatic 58, 3) := by decide +kernel
theorem dX0_joinsTwoParts_20 : decode cX0_joinsTwoParts 20 = .ok (.if_icmp .eq 7, 3) := by decide +kernel
theorem dX0_joinsTwoParts_23 : decode cX0_joinsTwoParts 23 = .ok (.iconst 1, 1) := by decide +kernel
theorem dX0_joinsTwoParts_24 : decode cX0_joinsTwoParts 24 = .ok (.goto 4, 3) := by decide +kernel
theorem dX0_joinsTwoParts_27 : decode cX0_joinsTwoParts 27 = .ok (.iconst 0, 1) := by decide +kernel
theorem dX0_joinsTwoParts_28 : decode cX0_joinsTwoParts 28 = .ok (.ireturn, 1) := by decide +kernel
set_option maxRecDepth 20000 in
theorem ggX0_partsJoinedBy_X5_cell : GoodIn wsX0_partsJoinedBy wsX5_cell := goodIn_r _ [6] (by decide +kernel) (by decide +kernel)
set_option maxRecDepth 20000 in
theorem gX0_partsJoinedBy_X5_cell_n58 : GoodIn wsX0_partsJoinedBy (wsX5_cell) := ggX0_partsJoinedBy_X5_cell
set_option maxRecDepth 20000 in
theorem ggX0_partsJoinedBy_X5_withCell : GoodIn wsX0_partsJoinedBy wsX5_withCell := goodIn_r _ [8] (by decide +kernel) (by decide +kernel)
set_option maxRecDepth 20000 in
theorem gX0_partsJoinedBy_X5_withCell_n54 : GoodIn wsX0_partsJoinedBy (wsX5_withCell) := ggX0_partsJoinedBy_X5_withCell
theorem dX0_partsJoinedBy_0 : decode cX0_partsJoinedBy 0 = .ok (.iload_n 1, 1) := by decide +kernel
theorem dX0_partsJoinedBy_1 : decode cX0_partsJoinedBy 1 = .ok (.aload_n 0, 1) := by decide +kernel
theorem dX0_partsJoinedBy_2 : decode cX0_partsJoinedBy 2 = .ok (.getfield 15, 3) := by decide +kernel
theorem dX0_partsJoinedBy_5 : decode cX0_partsJoinedBy 5 = .ok (.iload_n 2, 1) := by decide +kernel
theorem dX0_partsJoinedBy_6 : decode cX0_partsJoinedBy 6 = .ok (.iaload, 1) := by decide +kernel
theorem dX0_partsJoinedBy_7 : decode cX0_partsJoinedBy 7 = .ok (.invokestatic 58, 3) := by decide +kernel
theorem dX0_partsJoinedBy_10 : decode cX0_partsJoinedBy 10 = .ok (.istore_n 3, 1) := by decide +kernel
theorem dX0_partsJoinedBy_11 : decode cX0_partsJoinedBy 11 = .ok (.iload_n 1, 1) := by decide +kernel
theorem dX0_partsJoinedBy_12 : decode cX0_partsJoinedBy 12 = .ok (.aload_n 0, 1) := by decide +kernel
theorem dX0_partsJoinedBy_13 : decode cX0_partsJoinedBy 13 = .ok (.getfield 18, 3) := by decide +kernel
theorem dX0_partsJoinedBy_16 : decode cX0_partsJoinedBy 16 = .ok (.iload_n 2, 1) := by decide +kernel
theorem dX0_partsJoinedBy_17 : decode cX0_partsJoinedBy 17 = .ok (.iaload, 1) := by decide +kernel
theorem dX0_partsJoinedBy_18 : decode cX0_partsJoinedBy 18 = .ok (.invokestatic 58, 3) := by decide +kernel
theorem dX0_partsJoinedBy_21 : decode cX0_partsJoinedBy 21 = .ok (.istore 4, 2) := by decide +kernel
theorem dX0_partsJoinedBy_23 : decode cX0_partsJoinedBy 23 = .ok (.iload_n 1, 1) := by decide +kernel
theorem dX0_partsJoinedBy_24 : decode cX0_partsJoinedBy 24 = .ok (.istore 5, 2) := by decide +kernel
theorem dX0_partsJoinedBy_26 : decode cX0_partsJoinedBy 26 = .ok (.iconst 0, 1) := by decide +kernel
theorem dX0_partsJoinedBy_27 : decode cX0_partsJoinedBy 27 = .ok (.istore 6, 2) := by decide +kernel
theorem dX0_partsJoinedBy_29 : decode cX0_partsJoinedBy 29 = .ok (.iload 6, 2) := by decide +kernel
theorem dX0_partsJoinedBy_31 : decode cX0_partsJoinedBy 31 = .ok (.aload_n 0, 1) := by decide +kernel
theorem dX0_partsJoinedBy_32 : decode cX0_partsJoinedBy 32 = .ok (.getfield 27, 3) := by decide +kernel
theorem dX0_partsJoinedBy_35 : decode cX0_partsJoinedBy 35 = .ok (.if_icmp .ge 30, 3) := by decide +kernel
theorem dX0_partsJoinedBy_38 : decode cX0_partsJoinedBy 38 = .ok (.iload_n 1, 1) := by decide +kernel
theorem dX0_partsJoinedBy_39 : decode cX0_partsJoinedBy 39 = .ok (.iload 6, 2) := by decide +kernel
theorem dX0_partsJoinedBy_41 : decode cX0_partsJoinedBy 41 = .ok (.invokestatic 58, 3) := by decide +kernel
theorem dX0_partsJoinedBy_44 : decode cX0_partsJoinedBy 44 = .ok (.iload 4, 2) := by decide +kernel
theorem dX0_partsJoinedBy_46 : decode cX0_partsJoinedBy 46 = .ok (.if_icmp .ne 13, 3) := by decide +kernel
theorem dX0_partsJoinedBy_49 : decode cX0_partsJoinedBy 49 = .ok (.iload 5, 2) := by decide +kernel
theorem dX0_partsJoinedBy_51 : decode cX0_partsJoinedBy 51 = .ok (.iload 6, 2) := by decide +kernel
theorem dX0_partsJoinedBy_53 : decode cX0_partsJoinedBy 53 = .ok (.iload_n 3, 1) := by decide +kernel
theorem dX0_partsJoinedBy_54 : decode cX0_partsJoinedBy 54 = .ok (.invokestatic 54, 3) := by decide +kernel
theorem dX0_partsJoinedBy_57 : decode cX0_partsJoinedBy 57 = .ok (.istore 5, 2) := by decide +kernel
theorem dX0_partsJoinedBy_59 : decode cX0_partsJoinedBy 59 = .ok (.iinc 6 1, 3) := by decide +kernel
theorem dX0_partsJoinedBy_62 : decode cX0_partsJoinedBy 62 = .ok (.goto (-33), 3) := by decide +kernel
theorem dX0_partsJoinedBy_65 : decode cX0_partsJoinedBy 65 = .ok (.iload 5, 2) := by decide +kernel
theorem dX0_partsJoinedBy_67 : decode cX0_partsJoinedBy 67 = .ok (.ireturn, 1) := by decide +kernel
set_option maxRecDepth 20000 in
theorem ggX0_fullRoom_X5_withCell : GoodIn wsX0_fullRoom wsX5_withCell := goodIn_r _ [5] (by decide +kernel) (by decide +kernel)
set_option maxRecDepth 20000 in
theorem gX0_fullRoom_X5_withCell_n54 : GoodIn wsX0_fullRoom (wsX5_withCell) := ggX0_fullRoom_X5_withCell
theorem dX0_fullRoom_0 : decode cX0_fullRoom 0 = .ok (.iconst 0, 1) := by decide +kernel
theorem dX0_fullRoom_1 : decode cX0_fullRoom 1 = .ok (.istore_n 1, 1) := by decide +kernel
theorem dX0_fullRoom_2 : decode cX0_fullRoom 2 = .ok (.iconst 0, 1) := by decide +kernel
theorem dX0_fullRoom_3 : decode cX0_fullRoom 3 = .ok (.istore_n 2, 1) := by decide +kernel
theorem dX0_fullRoom_4 : decode cX0_fullRoom 4 = .ok (.iload_n 2, 1) := by decide +kernel
theorem dX0_fullRoom_5 : decode cX0_fullRoom 5 = .ok (.aload_n 0, 1) := by decide +kernel
theorem dX0_fullRoom_6 : decode cX0_fullRoom 6 = .ok (.getfield 31, 3) := by decide +kernel
theorem dX0_fullRoom_9 : decode cX0_fullRoom 9 = .ok (.if_icmp .ge 21, 3) := by decide +kernel
theorem dX0_fullRoom_12 : decode cX0_fullRoom 12 = .ok (.iload_n 1, 1) := by decide +kernel
theorem dX0_fullRoom_13 : decode cX0_fullRoom 13 = .ok (.iload_n 2, 1) := by decide +kernel
theorem dX0_fullRoom_14 : decode cX0_fullRoom 14 = .ok (.aload_n 0, 1) := by decide +kernel
theorem dX0_fullRoom_15 : decode cX0_fullRoom 15 = .ok (.getfield 9, 3) := by decide +kernel
theorem dX0_fullRoom_18 : decode cX0_fullRoom 18 = .ok (.iload_n 2, 1) := by decide +kernel
theorem dX0_fullRoom_19 : decode cX0_fullRoom 19 = .ok (.iaload, 1) := by decide +kernel
theorem dX0_fullRoom_20 : decode cX0_fullRoom 20 = .ok (.invokestatic 54, 3) := by decide +kernel
theorem dX0_fullRoom_23 : decode cX0_fullRoom 23 = .ok (.istore_n 1, 1) := by decide +kernel
theorem dX0_fullRoom_24 : decode cX0_fullRoom 24 = .ok (.iinc 2 1, 3) := by decide +kernel
theorem dX0_fullRoom_27 : decode cX0_fullRoom 27 = .ok (.goto (-23), 3) := by decide +kernel
theorem dX0_fullRoom_30 : decode cX0_fullRoom 30 = .ok (.iload_n 1, 1) := by decide +kernel
theorem dX0_fullRoom_31 : decode cX0_fullRoom 31 = .ok (.ireturn, 1) := by decide +kernel
set_option maxRecDepth 20000 in
theorem ggX0_hasRoom_X5_cell : GoodIn wsX0_hasRoom wsX5_cell := goodIn_r _ [4] (by decide +kernel) (by decide +kernel)
set_option maxRecDepth 20000 in
theorem gX0_hasRoom_X5_cell_n58 : GoodIn wsX0_hasRoom (wsX5_cell) := ggX0_hasRoom_X5_cell
theorem dX0_hasRoom_0 : decode cX0_hasRoom 0 = .ok (.iload_n 1, 1) := by decide +kernel
theorem dX0_hasRoom_1 : decode cX0_hasRoom 1 = .ok (.aload_n 0, 1) := by decide +kernel
theorem dX0_hasRoom_2 : decode cX0_hasRoom 2 = .ok (.getfield 21, 3) := by decide +kernel
theorem dX0_hasRoom_5 : decode cX0_hasRoom 5 = .ok (.iload_n 2, 1) := by decide +kernel
theorem dX0_hasRoom_6 : decode cX0_hasRoom 6 = .ok (.iaload, 1) := by decide +kernel
theorem dX0_hasRoom_7 : decode cX0_hasRoom 7 = .ok (.invokestatic 58, 3) := by decide +kernel
theorem dX0_hasRoom_10 : decode cX0_hasRoom 10 = .ok (.ifCond .le 7, 3) := by decide +kernel
theorem dX0_hasRoom_13 : decode cX0_hasRoom 13 = .ok (.iconst 1, 1) := by decide +kernel
theorem dX0_hasRoom_14 : decode cX0_hasRoom 14 = .ok (.goto 4, 3) := by decide +kernel
theorem dX0_hasRoom_17 : decode cX0_hasRoom 17 = .ok (.iconst 0, 1) := by decide +kernel
theorem dX0_hasRoom_18 : decode cX0_hasRoom 18 = .ok (.ireturn, 1) := by decide +kernel
set_option maxRecDepth 20000 in
theorem ggX0_roomAfter_X5_cell : GoodIn wsX0_roomAfter wsX5_cell := goodIn_r _ [4] (by decide +kernel) (by decide +kernel)
set_option maxRecDepth 20000 in
theorem gX0_roomAfter_X5_cell_n58 : GoodIn wsX0_roomAfter (wsX5_cell) := ggX0_roomAfter_X5_cell
set_option maxRecDepth 20000 in
theorem ggX0_roomAfter_X5_withCell : GoodIn wsX0_roomAfter wsX5_withCell := goodIn_r _ [6] (by decide +kernel) (by decide +kernel)
set_option maxRecDepth 20000 in
theorem gX0_roomAfter_X5_withCell_n54 : GoodIn wsX0_roomAfter (wsX5_withCell) := ggX0_roomAfter_X5_withCell
theorem dX0_roomAfter_0 : decode cX0_roomAfter 0 = .ok (.iload_n 1, 1) := by decide +kernel
theorem dX0_roomAfter_1 : decode cX0_roomAfter 1 = .ok (.aload_n 0, 1) := by decide +kernel
theorem dX0_roomAfter_2 : decode cX0_roomAfter 2 = .ok (.getfield 21, 3) := by decide +kernel
theorem dX0_roomAfter_5 : decode cX0_roomAfter 5 = .ok (.iload_n 2, 1) := by decide +kernel
theorem dX0_roomAfter_6 : decode cX0_roomAfter 6 = .ok (.iaload, 1) := by decide +kernel
theorem dX0_roomAfter_7 : decode cX0_roomAfter 7 = .ok (.iload_n 1, 1) := by decide +kernel
theorem dX0_roomAfter_8 : decode cX0_roomAfter 8 = .ok (.aload_n 0, 1) := by decide +kernel
theorem dX0_roomAfter_9 : decode cX0_roomAfter 9 = .ok (.getfield 21, 3) := by decide +kernel
theorem dX0_roomAfter_12 : decode cX0_roomAfter 12 = .ok (.iload_n 2, 1) := by decide +kernel
theorem dX0_roomAfter_13 : decode cX0_roomAfter 13 = .ok (.iaload, 1) := by decide +kernel
theorem dX0_roomAfter_14 : decode cX0_roomAfter 14 = .ok (.invokestatic 58, 3) := by decide +kernel
theorem dX0_roomAfter_17 : decode cX0_roomAfter 17 = .ok (.iconst 1, 1) := by decide +kernel
theorem dX0_roomAfter_18 : decode cX0_roomAfter 18 = .ok (.isub, 1) := by decide +kernel
theorem dX0_roomAfter_19 : decode cX0_roomAfter 19 = .ok (.invokestatic 54, 3) := by decide +kernel
theorem dX0_roomAfter_22 : decode cX0_roomAfter 22 = .ok (.ireturn, 1) := by decide +kernel
theorem dX1_init_0 : decode cX1_init 0 = .ok (.aload_n 0, 1) := by decide +kernel
theorem dX1_init_1 : decode cX1_init 1 = .ok (.invokespecial 1, 3) := by decide +kernel
theorem dX1_init_4 : decode cX1_init 4 = .ok (.aload_n 0, 1) := by decide +kernel
theorem dX1_init_5 : decode cX1_init 5 = .ok (.aload_n 1, 1) := by decide +kernel
theorem dX1_init_6 : decode cX1_init 6 = .ok (.putfield 7, 3) := by decide +kernel
theorem dX1_init_9 : decode cX1_init 9 = .ok (.return_, 1) := by decide +kernel
set_option maxRecDepth 20000 in
theorem ggX1_allows_X2_rankOf : GoodIn wsX1_allows wsX2_rankOf := goodIn_r _ [6, 7, 8, 9, 10, 11, 12, 13, 14, 15, 16, 17, 18, 19, 20, 21, 22, 23, 24, 25, 26, 27, 28, 29, 30, 31, 32, 62, 63, 64, 65, 66, 67, 68, 69, 70, 71, 72] (by decide +kernel) (by decide +kernel)
set_option maxRecDepth 20000 in
theorem gX1_allows_X2_rankOf_u13X2 : GoodIn wsX1_allows (va_wsU RX1 13 RX2 "ColourForests$Kind" ⟨"ColourForests$Kind", "rankOf", "(I)I"⟩ yX2_rankOf wsX2_rankOf) := goodIn_app (goodIn_of _ (by decide +kernel)) ggX1_allows_X2_rankOf
set_option maxRecDepth 20000 in
theorem ggX1_allows_X3_rankOf : GoodIn wsX1_allows wsX3_rankOf := goodIn_r _ [36, 37, 38, 39, 40, 41, 42, 13, 43, 44, 17, 18, 19, 20, 21, 45, 46, 47, 48, 49, 50, 27, 28, 51, 52, 53, 54, 62, 63, 64, 65, 66, 67, 68, 69, 70, 71, 72] (by decide +kernel) (by decide +kernel)
set_option maxRecDepth 20000 in
theorem gX1_allows_X3_rankOf_u13X3 : GoodIn wsX1_allows (va_wsU RX1 13 RX3 "ColourForests$Kind" ⟨"ColourForests$Kind", "rankOf", "(I)I"⟩ yX3_rankOf wsX3_rankOf) := goodIn_app (goodIn_of _ (by decide +kernel)) ggX1_allows_X3_rankOf
set_option maxRecDepth 20000 in
theorem ggX1_allows_J6_bitCount_0f7a4 : GoodIn wsX1_allows wsJ6_bitCount_0f7a4 := goodIn_r _ [58, 59, 60, 61] (by decide +kernel) (by decide +kernel)
set_option maxRecDepth 20000 in
theorem gX1_allows_J6_bitCount_0f7a4 : GoodIn wsX1_allows (va_wsS RX1 17 yJ6_bitCount_0f7a4 wsJ6_bitCount_0f7a4) := goodIn_app (goodIn_of _ (by decide +kernel)) ggX1_allows_J6_bitCount_0f7a4
theorem dX1_allows_0 : decode cX1_allows 0 = .ok (.aload_n 0, 1) := by decide +kernel
theorem dX1_allows_1 : decode cX1_allows 1 = .ok (.iload_n 1, 1) := by decide +kernel
theorem dX1_allows_2 : decode cX1_allows 2 = .ok (.invokevirtual 13, 3) := by decide +kernel
theorem dX1_allows_5 : decode cX1_allows 5 = .ok (.iload_n 1, 1) := by decide +kernel
theorem dX1_allows_6 : decode cX1_allows 6 = .ok (.invokestatic 17, 3) := by decide +kernel
theorem dX1_allows_9 : decode cX1_allows 9 = .ok (.if_icmp .ne 7, 3) := by decide +kernel
theorem dX1_allows_12 : decode cX1_allows 12 = .ok (.iconst 1, 1) := by decide +kernel
theorem dX1_allows_13 : decode cX1_allows 13 = .ok (.goto 4, 3) := by decide +kernel
theorem dX1_allows_16 : decode cX1_allows 16 = .ok (.iconst 0, 1) := by decide +kernel
theorem dX1_allows_17 : decode cX1_allows 17 = .ok (.ireturn, 1) := by decide +kernel
set_option maxRecDepth 20000 in
theorem ggX1_circuitWithin_X2_rankOf : GoodIn wsX1_circuitWithin wsX2_rankOf := goodIn_r _ [8, 9, 10, 11, 12, 13, 14, 15, 16, 17, 18, 19, 20, 21, 22, 23, 24, 25, 26, 27, 28, 29, 30, 31, 32, 33, 34, 57, 58, 59, 60, 61, 62, 63, 64, 65, 66, 67] (by decide +kernel) (by decide +kernel)
set_option maxRecDepth 20000 in
theorem gX1_circuitWithin_X2_rankOf_u13X2 : GoodIn wsX1_circuitWithin (va_wsU RX1 13 RX2 "ColourForests$Kind" ⟨"ColourForests$Kind", "rankOf", "(I)I"⟩ yX2_rankOf wsX2_rankOf) := goodIn_app (goodIn_of _ (by decide +kernel)) ggX1_circuitWithin_X2_rankOf
set_option maxRecDepth 20000 in
theorem ggX1_circuitWithin_X3_rankOf : GoodIn wsX1_circuitWithin wsX3_rankOf := goodIn_r _ [38, 39, 40, 41, 42, 43, 44, 15, 45, 46, 19, 20, 21, 22, 23, 47, 48, 49, 50, 51, 52, 29, 30, 53, 54, 55, 56, 57, 58, 59, 60, 61, 62, 63, 64, 65, 66, 67] (by decide +kernel) (by decide +kernel)
set_option maxRecDepth 20000 in
theorem gX1_circuitWithin_X3_rankOf_u13X3 : GoodIn wsX1_circuitWithin (va_wsU RX1 13 RX3 "ColourForests$Kind" ⟨"ColourForests$Kind", "rankOf", "(I)I"⟩ yX3_rankOf wsX3_rankOf) := goodIn_app (goodIn_of _ (by decide +kernel)) ggX1_circuitWithin_X3_rankOf
theorem dX1_circuitWithin_0 : decode cX1_circuitWithin 0 = .ok (.aload_n 0, 1) := by decide +kernel
theorem dX1_circuitWithin_1 : decode cX1_circuitWithin 1 = .ok (.iload_n 1, 1) := by decide +kernel
theorem dX1_circuitWithin_2 : decode cX1_circuitWithin 2 = .ok (.invokevirtual 13, 3) := by decide +kernel
theorem dX1_circuitWithin_5 : decode cX1_circuitWithin 5 = .ok (.istore_n 2, 1) := by decide +kernel
theorem dX1_circuitWithin_6 : decode cX1_circuitWithin 6 = .ok (.iconst 0, 1) := by decide +kernel
theorem dX1_circuitWithin_7 : decode cX1_circuitWithin 7 = .ok (.istore_n 3, 1) := by decide +kernel
theorem dX1_circuitWithin_8 : decode cX1_circuitWithin 8 = .ok (.iconst 0, 1) := by decide +kernel
theorem dX1_circuitWithin_9 : decode cX1_circuitWithin 9 = .ok (.istore 4, 2) := by decide +kernel
theorem dX1_circuitWithin_11 : decode cX1_circuitWithin 11 = .ok (.iload 4, 2) := by decide +kernel
theorem dX1_circuitWithin_13 : decode cX1_circuitWithin 13 = .ok (.aload_n 0, 1) := by decide +kernel
theorem dX1_circuitWithin_14 : decode cX1_circuitWithin 14 = .ok (.getfield 7, 3) := by decide +kernel
theorem dX1_circuitWithin_17 : decode cX1_circuitWithin 17 = .ok (.getfield 22, 3) := by decide +kernel
theorem dX1_circuitWithin_20 : decode cX1_circuitWithin 20 = .ok (.if_icmp .ge 41, 3) := by decide +kernel
theorem dX1_circuitWithin_23 : decode cX1_circuitWithin 23 = .ok (.iconst 1, 1) := by decide +kernel
theorem dX1_circuitWithin_24 : decode cX1_circuitWithin 24 = .ok (.iload 4, 2) := by decide +kernel
theorem dX1_circuitWithin_26 : decode cX1_circuitWithin 26 = .ok (.ishl, 1) := by decide +kernel
theorem dX1_circuitWithin_27 : decode cX1_circuitWithin 27 = .ok (.istore 5, 2) := by decide +kernel
theorem dX1_circuitWithin_29 : decode cX1_circuitWithin 29 = .ok (.iload_n 1, 1) := by decide +kernel
theorem dX1_circuitWithin_30 : decode cX1_circuitWithin 30 = .ok (.iload 5, 2) := by decide +kernel
theorem dX1_circuitWithin_32 : decode cX1_circuitWithin 32 = .ok (.iand, 1) := by decide +kernel
theorem dX1_circuitWithin_33 : decode cX1_circuitWithin 33 = .ok (.ifCond .eq 22, 3) := by decide +kernel
theorem dX1_circuitWithin_36 : decode cX1_circuitWithin 36 = .ok (.aload_n 0, 1) := by decide +kernel
theorem dX1_circuitWithin_37 : decode cX1_circuitWithin 37 = .ok (.iload_n 1, 1) := by decide +kernel
theorem dX1_circuitWithin_38 : decode cX1_circuitWithin 38 = .ok (.iload 5, 2) := by decide +kernel
theorem dX1_circuitWithin_40 : decode cX1_circuitWithin 40 = .ok (.iconst (-1), 1) := by decide +kernel
theorem dX1_circuitWithin_41 : decode cX1_circuitWithin 41 = .ok (.ixor, 1) := by decide +kernel
theorem dX1_circuitWithin_42 : decode cX1_circuitWithin 42 = .ok (.iand, 1) := by decide +kernel
theorem dX1_circuitWithin_43 : decode cX1_circuitWithin 43 = .ok (.invokevirtual 13, 3) := by decide +kernel
theorem dX1_circuitWithin_46 : decode cX1_circuitWithin 46 = .ok (.iload_n 2, 1) := by decide +kernel
theorem dX1_circuitWithin_47 : decode cX1_circuitWithin 47 = .ok (.if_icmp .ne 8, 3) := by decide +kernel
theorem dX1_circuitWithin_50 : decode cX1_circuitWithin 50 = .ok (.iload_n 3, 1) := by decide +kernel
theorem dX1_circuitWithin_51 : decode cX1_circuitWithin 51 = .ok (.iload 5, 2) := by decide +kernel
theorem dX1_circuitWithin_53 : decode cX1_circuitWithin 53 = .ok (.ior, 1) := by decide +kernel
theorem dX1_circuitWithin_54 : decode cX1_circuitWithin 54 = .ok (.istore_n 3, 1) := by decide +kernel
theorem dX1_circuitWithin_55 : decode cX1_circuitWithin 55 = .ok (.iinc 4 1, 3) := by decide +kernel
theorem dX1_circuitWithin_58 : decode cX1_circuitWithin 58 = .ok (.goto (-47), 3) := by decide +kernel
theorem dX1_circuitWithin_61 : decode cX1_circuitWithin 61 = .ok (.iload_n 3, 1) := by decide +kernel
theorem dX1_circuitWithin_62 : decode cX1_circuitWithin 62 = .ok (.ireturn, 1) := by decide +kernel
set_option maxRecDepth 20000 in
theorem ggX1_closureOf_X2_rankOf : GoodIn wsX1_closureOf wsX2_rankOf := goodIn_r _ [8, 9, 10, 11, 12, 13, 14, 15, 16, 17, 18, 19, 20, 21, 22, 23, 24, 25, 26, 27, 28, 29, 30, 31, 32, 33, 34, 57, 58, 59, 60, 61, 62, 63, 64, 65, 66, 67] (by decide +kernel) (by decide +kernel)
set_option maxRecDepth 20000 in
theorem gX1_closureOf_X2_rankOf_u13X2 : GoodIn wsX1_closureOf (va_wsU RX1 13 RX2 "ColourForests$Kind" ⟨"ColourForests$Kind", "rankOf", "(I)I"⟩ yX2_rankOf wsX2_rankOf) := goodIn_app (goodIn_of _ (by decide +kernel)) ggX1_closureOf_X2_rankOf
set_option maxRecDepth 20000 in
theorem ggX1_closureOf_X3_rankOf : GoodIn wsX1_closureOf wsX3_rankOf := goodIn_r _ [38, 39, 40, 41, 42, 43, 44, 15, 45, 46, 19, 20, 21, 22, 23, 47, 48, 49, 50, 51, 52, 29, 30, 53, 54, 55, 56, 57, 58, 59, 60, 61, 62, 63, 64, 65, 66, 67] (by decide +kernel) (by decide +kernel)
set_option maxRecDepth 20000 in
theorem gX1_closureOf_X3_rankOf_u13X3 : GoodIn wsX1_closureOf (va_wsU RX1 13 RX3 "ColourForests$Kind" ⟨"ColourForests$Kind", "rankOf", "(I)I"⟩ yX3_rankOf wsX3_rankOf) := goodIn_app (goodIn_of _ (by decide +kernel)) ggX1_closureOf_X3_rankOf
theorem dX1_closureOf_0 : decode cX1_closureOf 0 = .ok (.aload_n 0, 1) := by decide +kernel
theorem dX1_closureOf_1 : decode cX1_closureOf 1 = .ok (.iload_n 1, 1) := by decide +kernel
theorem dX1_closureOf_2 : decode cX1_closureOf 2 = .ok (.invokevirtual 13, 3) := by decide +kernel
theorem dX1_closureOf_5 : decode cX1_closureOf 5 = .ok (.istore_n 2, 1) := by decide +kernel
theorem dX1_closureOf_6 : decode cX1_closureOf 6 = .ok (.iload_n 1, 1) := by decide +kernel
theorem dX1_closureOf_7 : decode cX1_closureOf 7 = .ok (.istore_n 3, 1) := by decide +kernel
theorem dX1_closureOf_8 : decode cX1_closureOf 8 = .ok (.iconst 0, 1) := by decide +kernel
theorem dX1_closureOf_9 : decode cX1_closureOf 9 = .ok (.istore 4, 2) := by decide +kernel
theorem dX1_closureOf_11 : decode cX1_closureOf 11 = .ok (.iload 4, 2) := by decide +kernel
theorem dX1_closureOf_13 : decode cX1_closureOf 13 = .ok (.aload_n 0, 1) := by decide +kernel
theorem dX1_closureOf_14 : decode cX1_closureOf 14 = .ok (.getfield 7, 3) := by decide +kernel
theorem dX1_closureOf_17 : decode cX1_closureOf 17 = .ok (.getfield 22, 3) := by decide +kernel
theorem dX1_closureOf_20 : decode cX1_closureOf 20 = .ok (.if_icmp .ge 32, 3) := by decide +kernel
theorem dX1_closureOf_23 : decode cX1_closureOf 23 = .ok (.iconst 1, 1) := by decide +kernel
theorem dX1_closureOf_24 : decode cX1_closureOf 24 = .ok (.iload 4, 2) := by decide +kernel
theorem dX1_closureOf_26 : decode cX1_closureOf 26 = .ok (.ishl, 1) := by decide +kernel
theorem dX1_closureOf_27 : decode cX1_closureOf 27 = .ok (.istore 5, 2) := by decide +kernel
theorem dX1_closureOf_29 : decode cX1_closureOf 29 = .ok (.aload_n 0, 1) := by decide +kernel
theorem dX1_closureOf_30 : decode cX1_closureOf 30 = .ok (.iload_n 1, 1) := by decide +kernel
theorem dX1_closureOf_31 : decode cX1_closureOf 31 = .ok (.iload 5, 2) := by decide +kernel
theorem dX1_closureOf_33 : decode cX1_closureOf 33 = .ok (.ior, 1) := by decide +kernel
theorem dX1_closureOf_34 : decode cX1_closureOf 34 = .ok (.invokevirtual 13, 3) := by decide +kernel
theorem dX1_closureOf_37 : decode cX1_closureOf 37 = .ok (.iload_n 2, 1) := by decide +kernel
theorem dX1_closureOf_38 : decode cX1_closureOf 38 = .ok (.if_icmp .ne 8, 3) := by decide +kernel
theorem dX1_closureOf_41 : decode cX1_closureOf 41 = .ok (.iload_n 3, 1) := by decide +kernel
theorem dX1_closureOf_42 : decode cX1_closureOf 42 = .ok (.iload 5, 2) := by decide +kernel
theorem dX1_closureOf_44 : decode cX1_closureOf 44 = .ok (.ior, 1) := by decide +kernel
theorem dX1_closureOf_45 : decode cX1_closureOf 45 = .ok (.istore_n 3, 1) := by decide +kernel
theorem dX1_closureOf_46 : decode cX1_closureOf 46 = .ok (.iinc 4 1, 3) := by decide +kernel
theorem dX1_closureOf_49 : decode cX1_closureOf 49 = .ok (.goto (-38), 3) := by decide +kernel
theorem dX1_closureOf_52 : decode cX1_closureOf 52 = .ok (.iload_n 3, 1) := by decide +kernel
theorem dX1_closureOf_53 : decode cX1_closureOf 53 = .ok (.ireturn, 1) := by decide +kernel
set_option maxRecDepth 20000 in
theorem ggX2_init_X1_init : GoodIn wsX2_init wsX1_init := goodIn_r _ [4, 5, 6, 7, 8, 9, 10] (by decide +kernel) (by decide +kernel)
set_option maxRecDepth 20000 in
theorem gX2_init_X1_init : GoodIn wsX2_init (wsX1_init) := ggX2_init_X1_init
theorem dX2_init_0 : decode cX2_init 0 = .ok (.aload_n 0, 1) := by decide +kernel
theorem dX2_init_1 : decode cX2_init 1 = .ok (.aload_n 1, 1) := by decide +kernel
theorem dX2_init_2 : decode cX2_init 2 = .ok (.invokespecial 1, 3) := by decide +kernel
theorem dX2_init_5 : decode cX2_init 5 = .ok (.return_, 1) := by decide +kernel
set_option maxRecDepth 20000 in
theorem ggX2_rankOf_X0_fullRoom : GoodIn wsX2_rankOf wsX0_fullRoom := goodIn_r _ [8, 9, 10, 11, 12, 13, 29, 30, 31, 32, 33, 34, 35, 36, 37] (by decide +kernel) (by decide +kernel)
set_option maxRecDepth 20000 in
theorem gX2_rankOf_X0_fullRoom : GoodIn wsX2_rankOf (wsV RX2 13 RX0 yX0_fullRoom wsX0_fullRoom) := goodIn_app (goodIn_of _ (by decide +kernel)) ggX2_rankOf_X0_fullRoom
set_option maxRecDepth 20000 in
theorem ggX2_rankOf_X5_hasBit : GoodIn wsX2_rankOf wsX5_hasBit := goodIn_r _ [15] (by decide +kernel) (by decide +kernel)
set_option maxRecDepth 20000 in
theorem gX2_rankOf_X5_hasBit_n23 : GoodIn wsX2_rankOf (wsX5_hasBit) := ggX2_rankOf_X5_hasBit
set_option maxRecDepth 20000 in
theorem ggX2_rankOf_X0_hasRoom : GoodIn wsX2_rankOf wsX0_hasRoom := goodIn_r _ [19, 20, 21, 12, 22, 29, 30, 31, 32, 33, 34, 35, 36, 37] (by decide +kernel) (by decide +kernel)
set_option maxRecDepth 20000 in
theorem gX2_rankOf_X0_hasRoom : GoodIn wsX2_rankOf (wsV RX2 29 RX0 yX0_hasRoom wsX0_hasRoom) := goodIn_app (goodIn_of _ (by decide +kernel)) ggX2_rankOf_X0_hasRoom
set_option maxRecDepth 20000 in
theorem ggX2_rankOf_X0_roomAfter : GoodIn wsX2_rankOf wsX0_roomAfter := goodIn_r _ [26, 20, 21, 12, 22, 11, 13, 29, 30, 31, 32, 33, 34, 35, 36, 37] (by decide +kernel) (by decide +kernel)
set_option maxRecDepth 20000 in
theorem gX2_rankOf_X0_roomAfter : GoodIn wsX2_rankOf (wsV RX2 32 RX0 yX0_roomAfter wsX0_roomAfter) := goodIn_app (goodIn_of _ (by decide +kernel)) ggX2_rankOf_X0_roomAfter
theorem dX2_rankOf_0 : decode cX2_rankOf 0 = .ok (.aload_n 0, 1) := by decide +kernel
theorem dX2_rankOf_1 : decode cX2_rankOf 1 = .ok (.getfield 7, 3) := by decide +kernel
theorem dX2_rankOf_4 : decode cX2_rankOf 4 = .ok (.invokevirtual 13, 3) := by decide +kernel
theorem dX2_rankOf_7 : decode cX2_rankOf 7 = .ok (.istore_n 2, 1) := by decide +kernel
theorem dX2_rankOf_8 : decode cX2_rankOf 8 = .ok (.iconst 0, 1) := by decide +kernel
theorem dX2_rankOf_9 : decode cX2_rankOf 9 = .ok (.istore_n 3, 1) := by decide +kernel
theorem dX2_rankOf_10 : decode cX2_rankOf 10 = .ok (.iconst 0, 1) := by decide +kernel
theorem dX2_rankOf_11 : decode cX2_rankOf 11 = .ok (.istore 4, 2) := by decide +kernel
theorem dX2_rankOf_13 : decode cX2_rankOf 13 = .ok (.iload 4, 2) := by decide +kernel
theorem dX2_rankOf_15 : decode cX2_rankOf 15 = .ok (.aload_n 0, 1) := by decide +kernel
theorem dX2_rankOf_16 : decode cX2_rankOf 16 = .ok (.getfield 7, 3) := by decide +kernel
theorem dX2_rankOf_19 : decode cX2_rankOf 19 = .ok (.getfield 19, 3) := by decide +kernel
theorem dX2_rankOf_22 : decode cX2_rankOf 22 = .ok (.if_icmp .ge 45, 3) := by decide +kernel
theorem dX2_rankOf_25 : decode cX2_rankOf 25 = .ok (.iload_n 1, 1) := by decide +kernel
theorem dX2_rankOf_26 : decode cX2_rankOf 26 = .ok (.iload 4, 2) := by decide +kernel
theorem dX2_rankOf_28 : decode cX2_rankOf 28 = .ok (.invokestatic 23, 3) := by decide +kernel
theorem dX2_rankOf_31 : decode cX2_rankOf 31 = .ok (.ifCond .eq 30, 3) := by decide +kernel
theorem dX2_rankOf_34 : decode cX2_rankOf 34 = .ok (.aload_n 0, 1) := by decide +kernel
theorem dX2_rankOf_35 : decode cX2_rankOf 35 = .ok (.getfield 7, 3) := by decide +kernel
theorem dX2_rankOf_38 : decode cX2_rankOf 38 = .ok (.iload_n 2, 1) := by decide +kernel
theorem dX2_rankOf_39 : decode cX2_rankOf 39 = .ok (.iload 4, 2) := by decide +kernel
theorem dX2_rankOf_41 : decode cX2_rankOf 41 = .ok (.invokevirtual 29, 3) := by decide +kernel
theorem dX2_rankOf_44 : decode cX2_rankOf 44 = .ok (.ifCond .eq 17, 3) := by decide +kernel
theorem dX2_rankOf_47 : decode cX2_rankOf 47 = .ok (.aload_n 0, 1) := by decide +kernel
theorem dX2_rankOf_48 : decode cX2_rankOf 48 = .ok (.getfield 7, 3) := by decide +kernel
theorem dX2_rankOf_51 : decode cX2_rankOf 51 = .ok (.iload_n 2, 1) := by decide +kernel
theorem dX2_rankOf_52 : decode cX2_rankOf 52 = .ok (.iload 4, 2) := by decide +kernel
theorem dX2_rankOf_54 : decode cX2_rankOf 54 = .ok (.invokevirtual 32, 3) := by decide +kernel
theorem dX2_rankOf_57 : decode cX2_rankOf 57 = .ok (.istore_n 2, 1) := by decide +kernel
theorem dX2_rankOf_58 : decode cX2_rankOf 58 = .ok (.iinc 3 1, 3) := by decide +kernel
theorem dX2_rankOf_61 : decode cX2_rankOf 61 = .ok (.iinc 4 1, 3) := by decide +kernel
theorem dX2_rankOf_64 : decode cX2_rankOf 64 = .ok (.goto (-51), 3) := by decide +kernel
theorem dX2_rankOf_67 : decode cX2_rankOf 67 = .ok (.iload_n 3, 1) := by decide +kernel
theorem dX2_rankOf_68 : decode cX2_rankOf 68 = .ok (.ireturn, 1) := by decide +kernel
set_option maxRecDepth 20000 in
theorem ggX3_init_X1_init : GoodIn wsX3_init wsX1_init := goodIn_r _ [4, 5, 6, 7, 8, 9, 10] (by decide +kernel) (by decide +kernel)
set_option maxRecDepth 20000 in
theorem gX3_init_X1_init : GoodIn wsX3_init (wsX1_init) := ggX3_init_X1_init
theorem dX3_init_0 : decode cX3_init 0 = .ok (.aload_n 0, 1) := by decide +kernel
theorem dX3_init_1 : decode cX3_init 1 = .ok (.aload_n 1, 1) := by decide +kernel
theorem dX3_init_2 : decode cX3_init 2 = .ok (.invokespecial 1, 3) := by decide +kernel
theorem dX3_init_5 : decode cX3_init 5 = .ok (.return_, 1) := by decide +kernel
set_option maxRecDepth 20000 in
theorem ggX3_rankOf_X0_loneParts : GoodIn wsX3_rankOf wsX0_loneParts := goodIn_r _ [8, 9, 10, 11, 12, 29, 30, 31, 32, 33, 34, 35, 36, 37] (by decide +kernel) (by decide +kernel)
set_option maxRecDepth 20000 in
theorem gX3_rankOf_X0_loneParts : GoodIn wsX3_rankOf (wsV RX3 13 RX0 yX0_loneParts wsX0_loneParts) := goodIn_app (goodIn_of _ (by decide +kernel)) ggX3_rankOf_X0_loneParts
set_option maxRecDepth 20000 in
theorem ggX3_rankOf_X5_hasBit : GoodIn wsX3_rankOf wsX5_hasBit := goodIn_r _ [14] (by decide +kernel) (by decide +kernel)
set_option maxRecDepth 20000 in
theorem gX3_rankOf_X5_hasBit_n23 : GoodIn wsX3_rankOf (wsX5_hasBit) := ggX3_rankOf_X5_hasBit
set_option maxRecDepth 20000 in
theorem ggX3_rankOf_X0_joinsTwoParts : GoodIn wsX3_rankOf wsX0_joinsTwoParts := goodIn_r _ [18, 19, 20, 21, 11, 22, 29, 30, 31, 32, 33, 34, 35, 36, 37] (by decide +kernel) (by decide +kernel)
set_option maxRecDepth 20000 in
theorem gX3_rankOf_X0_joinsTwoParts : GoodIn wsX3_rankOf (wsV RX3 29 RX0 yX0_joinsTwoParts wsX0_joinsTwoParts) := goodIn_app (goodIn_of _ (by decide +kernel)) ggX3_rankOf_X0_joinsTwoParts
set_option maxRecDepth 20000 in
theorem ggX3_rankOf_X0_partsJoinedBy : GoodIn wsX3_rankOf wsX0_partsJoinedBy := goodIn_r _ [26, 19, 20, 9, 21, 11, 22, 10, 12, 29, 30, 31, 32, 33, 34, 35, 36, 37] (by decide +kernel) (by decide +kernel)
set_option maxRecDepth 20000 in
theorem gX3_rankOf_X0_partsJoinedBy : GoodIn wsX3_rankOf (wsV RX3 32 RX0 yX0_partsJoinedBy wsX0_partsJoinedBy) := goodIn_app (goodIn_of _ (by decide +kernel)) ggX3_rankOf_X0_partsJoinedBy
theorem dX3_rankOf_0 : decode cX3_rankOf 0 = .ok (.aload_n 0, 1) := by decide +kernel
theorem dX3_rankOf_1 : decode cX3_rankOf 1 = .ok (.getfield 7, 3) := by decide +kernel
theorem dX3_rankOf_4 : decode cX3_rankOf 4 = .ok (.invokevirtual 13, 3) := by decide +kernel
theorem dX3_rankOf_7 : decode cX3_rankOf 7 = .ok (.istore_n 2, 1) := by decide +kernel
theorem dX3_rankOf_8 : decode cX3_rankOf 8 = .ok (.iconst 0, 1) := by decide +kernel
theorem dX3_rankOf_9 : decode cX3_rankOf 9 = .ok (.istore_n 3, 1) := by decide +kernel
theorem dX3_rankOf_10 : decode cX3_rankOf 10 = .ok (.iconst 0, 1) := by decide +kernel
theorem dX3_rankOf_11 : decode cX3_rankOf 11 = .ok (.istore 4, 2) := by decide +kernel
theorem dX3_rankOf_13 : decode cX3_rankOf 13 = .ok (.iload 4, 2) := by decide +kernel
theorem dX3_rankOf_15 : decode cX3_rankOf 15 = .ok (.aload_n 0, 1) := by decide +kernel
theorem dX3_rankOf_16 : decode cX3_rankOf 16 = .ok (.getfield 7, 3) := by decide +kernel
theorem dX3_rankOf_19 : decode cX3_rankOf 19 = .ok (.getfield 19, 3) := by decide +kernel
theorem dX3_rankOf_22 : decode cX3_rankOf 22 = .ok (.if_icmp .ge 45, 3) := by decide +kernel
theorem dX3_rankOf_25 : decode cX3_rankOf 25 = .ok (.iload_n 1, 1) := by decide +kernel
theorem dX3_rankOf_26 : decode cX3_rankOf 26 = .ok (.iload 4, 2) := by decide +kernel
theorem dX3_rankOf_28 : decode cX3_rankOf 28 = .ok (.invokestatic 23, 3) := by decide +kernel
theorem dX3_rankOf_31 : decode cX3_rankOf 31 = .ok (.ifCond .eq 30, 3) := by decide +kernel
theorem dX3_rankOf_34 : decode cX3_rankOf 34 = .ok (.aload_n 0, 1) := by decide +kernel
theorem dX3_rankOf_35 : decode cX3_rankOf 35 = .ok (.getfield 7, 3) := by decide +kernel
theorem dX3_rankOf_38 : decode cX3_rankOf 38 = .ok (.iload_n 2, 1) := by decide +kernel
theorem dX3_rankOf_39 : decode cX3_rankOf 39 = .ok (.iload 4, 2) := by decide +kernel
theorem dX3_rankOf_41 : decode cX3_rankOf 41 = .ok (.invokevirtual 29, 3) := by decide +kernel
theorem dX3_rankOf_44 : decode cX3_rankOf 44 = .ok (.ifCond .eq 17, 3) := by decide +kernel
theorem dX3_rankOf_47 : decode cX3_rankOf 47 = .ok (.aload_n 0, 1) := by decide +kernel
theorem dX3_rankOf_48 : decode cX3_rankOf 48 = .ok (.getfield 7, 3) := by decide +kernel
theorem dX3_rankOf_51 : decode cX3_rankOf 51 = .ok (.iload_n 2, 1) := by decide +kernel
theorem dX3_rankOf_52 : decode cX3_rankOf 52 = .ok (.iload 4, 2) := by decide +kernel
theorem dX3_rankOf_54 : decode cX3_rankOf 54 = .ok (.invokevirtual 32, 3) := by decide +kernel
theorem dX3_rankOf_57 : decode cX3_rankOf 57 = .ok (.istore_n 2, 1) := by decide +kernel
theorem dX3_rankOf_58 : decode cX3_rankOf 58 = .ok (.iinc 3 1, 3) := by decide +kernel
theorem dX3_rankOf_61 : decode cX3_rankOf 61 = .ok (.iinc 4 1, 3) := by decide +kernel
theorem dX3_rankOf_64 : decode cX3_rankOf 64 = .ok (.goto (-51), 3) := by decide +kernel
theorem dX3_rankOf_67 : decode cX3_rankOf 67 = .ok (.iload_n 3, 1) := by decide +kernel
theorem dX3_rankOf_68 : decode cX3_rankOf 68 = .ok (.ireturn, 1) := by decide +kernel
theorem dX4_init_0 : decode cX4_init 0 = .ok (.aload_n 0, 1) := by decide +kernel
theorem dX4_init_1 : decode cX4_init 1 = .ok (.invokespecial 3, 3) := by decide +kernel
theorem dX4_init_4 : decode cX4_init 4 = .ok (.aload_n 0, 1) := by decide +kernel
theorem dX4_init_5 : decode cX4_init 5 = .ok (.iconst (-1), 1) := by decide +kernel
theorem dX4_init_6 : decode cX4_init 6 = .ok (.putfield 11, 3) := by decide +kernel
theorem dX4_init_9 : decode cX4_init 9 = .ok (.aload_n 0, 1) := by decide +kernel
theorem dX4_init_10 : decode cX4_init 10 = .ok (.bipush 8, 2) := by decide +kernel
theorem dX4_init_12 : decode cX4_init 12 = .ok (.newarray .int, 2) := by decide +kernel
theorem dX4_init_14 : decode cX4_init 14 = .ok (.putfield 15, 3) := by decide +kernel
theorem dX4_init_17 : decode cX4_init 17 = .ok (.aload_n 0, 1) := by decide +kernel
theorem dX4_init_18 : decode cX4_init 18 = .ok (.bipush 8, 2) := by decide +kernel
theorem dX4_init_20 : decode cX4_init 20 = .ok (.newarray .int, 2) := by decide +kernel
theorem dX4_init_22 : decode cX4_init 22 = .ok (.putfield 19, 3) := by decide +kernel
theorem dX4_init_25 : decode cX4_init 25 = .ok (.aload_n 0, 1) := by decide +kernel
theorem dX4_init_26 : decode cX4_init 26 = .ok (.bipush 15, 2) := by decide +kernel
theorem dX4_init_28 : decode cX4_init 28 = .ok (.newarray .int, 2) := by decide +kernel
theorem dX4_init_30 : decode cX4_init 30 = .ok (.putfield 22, 3) := by decide +kernel
theorem dX4_init_33 : decode cX4_init 33 = .ok (.aload_n 0, 1) := by decide +kernel
theorem dX4_init_34 : decode cX4_init 34 = .ok (.bipush 15, 2) := by decide +kernel
theorem dX4_init_36 : decode cX4_init 36 = .ok (.newarray .int, 2) := by decide +kernel
theorem dX4_init_38 : decode cX4_init 38 = .ok (.putfield 25, 3) := by decide +kernel
theorem dX4_init_41 : decode cX4_init 41 = .ok (.aload_n 0, 1) := by decide +kernel
theorem dX4_init_42 : decode cX4_init 42 = .ok (.bipush 15, 2) := by decide +kernel
theorem dX4_init_44 : decode cX4_init 44 = .ok (.newarray .int, 2) := by decide +kernel
theorem dX4_init_46 : decode cX4_init 46 = .ok (.putfield 28, 3) := by decide +kernel
theorem dX4_init_49 : decode cX4_init 49 = .ok (.aload_n 0, 1) := by decide +kernel
theorem dX4_init_50 : decode cX4_init 50 = .ok (.aload_n 1, 1) := by decide +kernel
theorem dX4_init_51 : decode cX4_init 51 = .ok (.putfield 31, 3) := by decide +kernel
theorem dX4_init_54 : decode cX4_init 54 = .ok (.return_, 1) := by decide +kernel
set_option maxRecDepth 20000 in
theorem ggX4_hasSize_X5_within : GoodIn wsX4_hasSize wsX5_within := goodIn_r _ [4] (by decide +kernel) (by decide +kernel)
set_option maxRecDepth 20000 in
theorem gX4_hasSize_X5_within_n38 : GoodIn wsX4_hasSize (wsX5_within) := ggX4_hasSize_X5_within
theorem dX4_hasSize_0 : decode cX4_hasSize 0 = .ok (.iload_n 1, 1) := by decide +kernel
theorem dX4_hasSize_1 : decode cX4_hasSize 1 = .ok (.iconst 0, 1) := by decide +kernel
theorem dX4_hasSize_2 : decode cX4_hasSize 2 = .ok (.aload_n 0, 1) := by decide +kernel
theorem dX4_hasSize_3 : decode cX4_hasSize 3 = .ok (.getfield 35, 3) := by decide +kernel
theorem dX4_hasSize_6 : decode cX4_hasSize 6 = .ok (.invokestatic 38, 3) := by decide +kernel
theorem dX4_hasSize_9 : decode cX4_hasSize 9 = .ok (.ireturn, 1) := by decide +kernel
set_option maxRecDepth 20000 in
theorem ggX4_refresh_X4_walk : GoodIn wsX4_refresh wsX4_walk := goodIn_r _ [8, 2, 9, 10, 11, 12, 7, 13, 14, 15, 16, 17, 18, 19, 20, 21, 22, 23, 24, 25, 26, 27, 28, 29, 30, 31, 32, 33, 34, 35, 36, 37, 38, 39, 40, 41, 42, 43, 44, 45, 46, 47, 48, 49, 50, 51, 52, 53, 54, 55, 56, 57, 58, 59, 60, 61, 62, 63, 64, 65, 66, 67, 68, 69, 70, 71, 72, 73, 74, 75, 76, 77, 78, 79, 80, 81, 82, 83, 84, 85, 86, 87, 88, 89, 90, 91, 92, 93, 94, 95, 96, 97, 98, 99, 100, 101, 102, 103, 104, 105, 106, 107, 108, 109, 110, 111, 112, 113, 114] (by decide +kernel) (by decide +kernel)
set_option maxRecDepth 20000 in
theorem gX4_refresh_X4_walk : GoodIn wsX4_refresh (wsV RX4 47 RX4 yX4_walk wsX4_walk) := goodIn_app (goodIn_of _ (by decide +kernel)) ggX4_refresh_X4_walk
theorem dX4_refresh_0 : decode cX4_refresh 0 = .ok (.aload_n 0, 1) := by decide +kernel
theorem dX4_refresh_1 : decode cX4_refresh 1 = .ok (.getfield 11, 3) := by decide +kernel
theorem dX4_refresh_4 : decode cX4_refresh 4 = .ok (.aload_n 0, 1) := by decide +kernel
theorem dX4_refresh_5 : decode cX4_refresh 5 = .ok (.getfield 31, 3) := by decide +kernel
theorem dX4_refresh_8 : decode cX4_refresh 8 = .ok (.getfield 42, 3) := by decide +kernel
theorem dX4_refresh_11 : decode cX4_refresh 11 = .ok (.if_icmp .eq 18, 3) := by decide +kernel
theorem dX4_refresh_14 : decode cX4_refresh 14 = .ok (.aload_n 0, 1) := by decide +kernel
theorem dX4_refresh_15 : decode cX4_refresh 15 = .ok (.aload_n 0, 1) := by decide +kernel
theorem dX4_refresh_16 : decode cX4_refresh 16 = .ok (.getfield 31, 3) := by decide +kernel
theorem dX4_refresh_19 : decode cX4_refresh 19 = .ok (.getfield 42, 3) := by decide +kernel
theorem dX4_refresh_22 : decode cX4_refresh 22 = .ok (.putfield 11, 3) := by decide +kernel
theorem dX4_refresh_25 : decode cX4_refresh 25 = .ok (.aload_n 0, 1) := by decide +kernel
theorem dX4_refresh_26 : decode cX4_refresh 26 = .ok (.invokevirtual 47, 3) := by decide +kernel
theorem dX4_refresh_29 : decode cX4_refresh 29 = .ok (.return_, 1) := by decide +kernel
set_option maxRecDepth 20000 in
theorem ggX4_walk_X4_begin : GoodIn wsX4_walk wsX4_begin := goodIn_r _ [7, 8, 1, 9, 10, 11, 12, 13, 14, 15, 16, 17, 18, 19, 20, 21, 22, 23, 24, 25, 26, 27, 28, 29, 30, 31, 89, 90, 91, 92, 93, 94, 95, 96, 97, 98, 99, 100, 101, 102, 103, 104, 105, 106, 107, 108] (by decide +kernel) (by decide +kernel)
set_option maxRecDepth 20000 in
theorem gX4_walk_X4_begin : GoodIn wsX4_walk (wsV RX4 50 RX4 yX4_begin wsX4_begin) := goodIn_app (goodIn_of _ (by decide +kernel)) ggX4_walk_X4_begin
set_option maxRecDepth 20000 in
theorem ggX4_walk_J6_numberOfTrailingZeros_0f7a4 : GoodIn wsX4_walk wsJ6_numberOfTrailingZeros_0f7a4 := goodIn_r _ [35, 36] (by decide +kernel) (by decide +kernel)
set_option maxRecDepth 20000 in
theorem gX4_walk_J6_numberOfTrailingZeros_0f7a4 : GoodIn wsX4_walk (va_wsS RX4 56 yJ6_numberOfTrailingZeros_0f7a4 wsJ6_numberOfTrailingZeros_0f7a4) := goodIn_app (goodIn_of _ (by decide +kernel)) ggX4_walk_J6_numberOfTrailingZeros_0f7a4
set_option maxRecDepth 20000 in
theorem ggX4_walk_X4_placeAbove : GoodIn wsX4_walk wsX4_placeAbove := goodIn_r _ [40, 32, 33, 34, 35, 36] (by decide +kernel) (by decide +kernel)
set_option maxRecDepth 20000 in
theorem gX4_walk_X4_placeAbove : GoodIn wsX4_walk (wsV RX4 62 RX4 yX4_placeAbove wsX4_placeAbove) := goodIn_app (goodIn_of _ (by decide +kernel)) ggX4_walk_X4_placeAbove
set_option maxRecDepth 20000 in
theorem ggX4_walk_X4_enter : GoodIn wsX4_walk wsX4_enter := goodIn_r _ [44, 1, 8, 9, 10, 45, 46, 47, 48, 20, 49, 50, 51, 52, 24, 53, 54, 55, 56, 57, 22, 23, 25, 58, 59, 60, 61, 62, 63, 64, 65, 66, 89, 90, 91, 92, 93, 94, 95, 96, 97, 98, 99, 100, 101, 102, 103, 104, 105, 106, 107, 108] (by decide +kernel) (by decide +kernel)
set_option maxRecDepth 20000 in
theorem gX4_walk_X4_enter : GoodIn wsX4_walk (wsV RX4 65 RX4 yX4_enter wsX4_enter) := goodIn_app (goodIn_of _ (by decide +kernel)) ggX4_walk_X4_enter
set_option maxRecDepth 20000 in
theorem ggX4_walk_X4_note : GoodIn wsX4_walk wsX4_note := goodIn_r _ [70, 9, 10, 71, 72, 34, 73, 74, 75, 76, 77, 78, 79, 6, 80, 11, 12, 81, 82, 83, 84, 13, 14, 16, 15, 85, 86, 87, 88, 89, 90, 91, 92, 93, 94, 95, 96, 97, 98, 99] (by decide +kernel) (by decide +kernel)
set_option maxRecDepth 20000 in
theorem gX4_walk_X4_note : GoodIn wsX4_walk (wsV RX4 69 RX4 yX4_note wsX4_note) := goodIn_app (goodIn_of _ (by decide +kernel)) ggX4_walk_X4_note
theorem dX4_walk_0 : decode cX4_walk 0 = .ok (.aload_n 0, 1) := by decide +kernel
theorem dX4_walk_1 : decode cX4_walk 1 = .ok (.invokevirtual 50, 3) := by decide +kernel
theorem dX4_walk_4 : decode cX4_walk 4 = .ok (.iconst 1, 1) := by decide +kernel
theorem dX4_walk_5 : decode cX4_walk 5 = .ok (.aload_n 0, 1) := by decide +kernel
theorem dX4_walk_6 : decode cX4_walk 6 = .ok (.getfield 31, 3) := by decide +kernel
theorem dX4_walk_9 : decode cX4_walk 9 = .ok (.getfield 53, 3) := by decide +kernel
theorem dX4_walk_12 : decode cX4_walk 12 = .ok (.ishl, 1) := by decide +kernel
theorem dX4_walk_13 : decode cX4_walk 13 = .ok (.istore_n 1, 1) := by decide +kernel
theorem dX4_walk_14 : decode cX4_walk 14 = .ok (.iconst 1, 1) := by decide +kernel
theorem dX4_walk_15 : decode cX4_walk 15 = .ok (.istore_n 2, 1) := by decide +kernel
theorem dX4_walk_16 : decode cX4_walk 16 = .ok (.iload_n 2, 1) := by decide +kernel
theorem dX4_walk_17 : decode cX4_walk 17 = .ok (.iload_n 1, 1) := by decide +kernel
theorem dX4_walk_18 : decode cX4_walk 18 = .ok (.if_icmp .ge 49, 3) := by decide +kernel
theorem dX4_walk_21 : decode cX4_walk 21 = .ok (.iload_n 2, 1) := by decide +kernel
theorem dX4_walk_22 : decode cX4_walk 22 = .ok (.invokestatic 56, 3) := by decide +kernel
theorem dX4_walk_25 : decode cX4_walk 25 = .ok (.istore_n 3, 1) := by decide +kernel
theorem dX4_walk_26 : decode cX4_walk 26 = .ok (.aload_n 0, 1) := by decide +kernel
theorem dX4_walk_27 : decode cX4_walk 27 = .ok (.iload_n 3, 1) := by decide +kernel
theorem dX4_walk_28 : decode cX4_walk 28 = .ok (.aload_n 0, 1) := by decide +kernel
theorem dX4_walk_29 : decode cX4_walk 29 = .ok (.iload_n 2, 1) := by decide +kernel
theorem dX4_walk_30 : decode cX4_walk 30 = .ok (.invokevirtual 62, 3) := by decide +kernel
theorem dX4_walk_33 : decode cX4_walk 33 = .ok (.invokevirtual 65, 3) := by decide +kernel
theorem dX4_walk_36 : decode cX4_walk 36 = .ok (.istore 4, 2) := by decide +kernel
theorem dX4_walk_38 : decode cX4_walk 38 = .ok (.iload 4, 2) := by decide +kernel
theorem dX4_walk_40 : decode cX4_walk 40 = .ok (.ifCond .eq 9, 3) := by decide +kernel
theorem dX4_walk_43 : decode cX4_walk 43 = .ok (.aload_n 0, 1) := by decide +kernel
theorem dX4_walk_44 : decode cX4_walk 44 = .ok (.iload_n 2, 1) := by decide +kernel
theorem dX4_walk_45 : decode cX4_walk 45 = .ok (.iload_n 3, 1) := by decide +kernel
theorem dX4_walk_46 : decode cX4_walk 46 = .ok (.invokevirtual 69, 3) := by decide +kernel
theorem dX4_walk_49 : decode cX4_walk 49 = .ok (.iload_n 2, 1) := by decide +kernel
theorem dX4_walk_50 : decode cX4_walk 50 = .ok (.iload 4, 2) := by decide +kernel
theorem dX4_walk_52 : decode cX4_walk 52 = .ok (.ifCond .eq 7, 3) := by decide +kernel
theorem dX4_walk_55 : decode cX4_walk 55 = .ok (.iconst 1, 1) := by decide +kernel
theorem dX4_walk_56 : decode cX4_walk 56 = .ok (.goto 6, 3) := by decide +kernel
theorem dX4_walk_59 : decode cX4_walk 59 = .ok (.iconst 1, 1) := by decide +kernel
theorem dX4_walk_60 : decode cX4_walk 60 = .ok (.iload_n 3, 1) := by decide +kernel
theorem dX4_walk_61 : decode cX4_walk 61 = .ok (.ishl, 1) := by decide +kernel
theorem dX4_walk_62 : decode cX4_walk 62 = .ok (.iadd, 1) := by decide +kernel
theorem dX4_walk_63 : decode cX4_walk 63 = .ok (.istore_n 2, 1) := by decide +kernel
theorem dX4_walk_64 : decode cX4_walk 64 = .ok (.goto (-48), 3) := by decide +kernel
theorem dX4_walk_67 : decode cX4_walk 67 = .ok (.return_, 1) := by decide +kernel
set_option maxRecDepth 20000 in
theorem ggX4_begin_X0_loneParts : GoodIn wsX4_begin wsX0_loneParts := goodIn_r _ [15, 16, 17, 18, 19, 37, 38, 39, 40, 41, 42, 43, 44, 45] (by decide +kernel) (by decide +kernel)
set_option maxRecDepth 20000 in
theorem gX4_begin_X0_loneParts : GoodIn wsX4_begin (wsV RX4 73 RX0 yX0_loneParts wsX0_loneParts) := goodIn_app (goodIn_of _ (by decide +kernel)) ggX4_begin_X0_loneParts
set_option maxRecDepth 20000 in
theorem ggX4_begin_X0_fullRoom : GoodIn wsX4_begin wsX0_fullRoom := goodIn_r _ [23, 24, 25, 17, 18, 19, 37, 38, 39, 40, 41, 42, 43, 44, 45] (by decide +kernel) (by decide +kernel)
set_option maxRecDepth 20000 in
theorem gX4_begin_X0_fullRoom : GoodIn wsX4_begin (wsV RX4 77 RX0 yX0_fullRoom wsX0_fullRoom) := goodIn_app (goodIn_of _ (by decide +kernel)) ggX4_begin_X0_fullRoom
theorem dX4_begin_0 : decode cX4_begin 0 = .ok (.aload_n 0, 1) := by decide +kernel
theorem dX4_begin_1 : decode cX4_begin 1 = .ok (.getfield 22, 3) := by decide +kernel
theorem dX4_begin_4 : decode cX4_begin 4 = .ok (.bipush 14, 2) := by decide +kernel
theorem dX4_begin_6 : decode cX4_begin 6 = .ok (.aload_n 0, 1) := by decide +kernel
theorem dX4_begin_7 : decode cX4_begin 7 = .ok (.getfield 31, 3) := by decide +kernel
theorem dX4_begin_10 : decode cX4_begin 10 = .ok (.invokevirtual 73, 3) := by decide +kernel
theorem dX4_begin_13 : decode cX4_begin 13 = .ok (.iastore, 1) := by decide +kernel
theorem dX4_begin_14 : decode cX4_begin 14 = .ok (.aload_n 0, 1) := by decide +kernel
theorem dX4_begin_15 : decode cX4_begin 15 = .ok (.getfield 25, 3) := by decide +kernel
theorem dX4_begin_18 : decode cX4_begin 18 = .ok (.bipush 14, 2) := by decide +kernel
theorem dX4_begin_20 : decode cX4_begin 20 = .ok (.aload_n 0, 1) := by decide +kernel
theorem dX4_begin_21 : decode cX4_begin 21 = .ok (.getfield 31, 3) := by decide +kernel
theorem dX4_begin_24 : decode cX4_begin 24 = .ok (.invokevirtual 77, 3) := by decide +kernel
theorem dX4_begin_27 : decode cX4_begin 27 = .ok (.iastore, 1) := by decide +kernel
theorem dX4_begin_28 : decode cX4_begin 28 = .ok (.aload_n 0, 1) := by decide +kernel
theorem dX4_begin_29 : decode cX4_begin 29 = .ok (.getfield 28, 3) := by decide +kernel
theorem dX4_begin_32 : decode cX4_begin 32 = .ok (.bipush 14, 2) := by decide +kernel
theorem dX4_begin_34 : decode cX4_begin 34 = .ok (.iconst 0, 1) := by decide +kernel
theorem dX4_begin_35 : decode cX4_begin 35 = .ok (.iastore, 1) := by decide +kernel
theorem dX4_begin_36 : decode cX4_begin 36 = .ok (.aload_n 0, 1) := by decide +kernel
theorem dX4_begin_37 : decode cX4_begin 37 = .ok (.iconst 0, 1) := by decide +kernel
theorem dX4_begin_38 : decode cX4_begin 38 = .ok (.putfield 80, 3) := by decide +kernel
theorem dX4_begin_41 : decode cX4_begin 41 = .ok (.aload_n 0, 1) := by decide +kernel
theorem dX4_begin_42 : decode cX4_begin 42 = .ok (.iconst 1, 1) := by decide +kernel
theorem dX4_begin_43 : decode cX4_begin 43 = .ok (.putfield 83, 3) := by decide +kernel
theorem dX4_begin_46 : decode cX4_begin 46 = .ok (.aload_n 0, 1) := by decide +kernel
theorem dX4_begin_47 : decode cX4_begin 47 = .ok (.iconst 1, 1) := by decide +kernel
theorem dX4_begin_48 : decode cX4_begin 48 = .ok (.putfield 86, 3) := by decide +kernel
theorem dX4_begin_51 : decode cX4_begin 51 = .ok (.aload_n 0, 1) := by decide +kernel
theorem dX4_begin_52 : decode cX4_begin 52 = .ok (.iconst 0, 1) := by decide +kernel
theorem dX4_begin_53 : decode cX4_begin 53 = .ok (.putfield 35, 3) := by decide +kernel
theorem dX4_begin_56 : decode cX4_begin 56 = .ok (.aload_n 0, 1) := by decide +kernel
theorem dX4_begin_57 : decode cX4_begin 57 = .ok (.getfield 15, 3) := by decide +kernel
theorem dX4_begin_60 : decode cX4_begin 60 = .ok (.iconst 0, 1) := by decide +kernel
theorem dX4_begin_61 : decode cX4_begin 61 = .ok (.iconst 0, 1) := by decide +kernel
theorem dX4_begin_62 : decode cX4_begin 62 = .ok (.iastore, 1) := by decide +kernel
theorem dX4_begin_63 : decode cX4_begin 63 = .ok (.aload_n 0, 1) := by decide +kernel
theorem dX4_begin_64 : decode cX4_begin 64 = .ok (.getfield 19, 3) := by decide +kernel
theorem dX4_begin_67 : decode cX4_begin 67 = .ok (.iconst 0, 1) := by decide +kernel
theorem dX4_begin_68 : decode cX4_begin 68 = .ok (.iconst 0, 1) := by decide +kernel
theorem dX4_begin_69 : decode cX4_begin 69 = .ok (.iastore, 1) := by decide +kernel
theorem dX4_begin_70 : decode cX4_begin 70 = .ok (.return_, 1) := by decide +kernel
set_option maxRecDepth 20000 in
theorem ggX4_placeAbove_J6_numberOfTrailingZeros_0f7a4 : GoodIn wsX4_placeAbove wsJ6_numberOfTrailingZeros_0f7a4 := goodIn_r _ [4, 5] (by decide +kernel) (by decide +kernel)
set_option maxRecDepth 20000 in
theorem gX4_placeAbove_J6_numberOfTrailingZeros_0f7a4 : GoodIn wsX4_placeAbove (va_wsS RX4 56 yJ6_numberOfTrailingZeros_0f7a4 wsJ6_numberOfTrailingZeros_0f7a4) := goodIn_app (goodIn_of _ (by decide +kernel)) ggX4_placeAbove_J6_numberOfTrailingZeros_0f7a4
theorem dX4_placeAbove_0 : decode cX4_placeAbove 0 = .ok (.iload_n 1, 1) := by decide +kernel
theorem dX4_placeAbove_1 : decode cX4_placeAbove 1 = .ok (.iload_n 1, 1) := by decide +kernel
theorem dX4_placeAbove_2 : decode cX4_placeAbove 2 = .ok (.iconst 1, 1) := by decide +kernel
theorem dX4_placeAbove_3 : decode cX4_placeAbove 3 = .ok (.isub, 1) := by decide +kernel
theorem dX4_placeAbove_4 : decode cX4_placeAbove 4 = .ok (.iand, 1) := by decide +kernel
theorem dX4_placeAbove_5 : decode cX4_placeAbove 5 = .ok (.istore_n 2, 1) := by decide +kernel
theorem dX4_placeAbove_6 : decode cX4_placeAbove 6 = .ok (.iload_n 2, 1) := by decide +kernel
theorem dX4_placeAbove_7 : decode cX4_placeAbove 7 = .ok (.ifCond .ne 8, 3) := by decide +kernel
theorem dX4_placeAbove_10 : decode cX4_placeAbove 10 = .ok (.bipush 14, 2) := by decide +kernel
theorem dX4_placeAbove_12 : decode cX4_placeAbove 12 = .ok (.goto 7, 3) := by decide +kernel
theorem dX4_placeAbove_15 : decode cX4_placeAbove 15 = .ok (.iload_n 2, 1) := by decide +kernel
theorem dX4_placeAbove_16 : decode cX4_placeAbove 16 = .ok (.invokestatic 56, 3) := by decide +kernel
theorem dX4_placeAbove_19 : decode cX4_placeAbove 19 = .ok (.ireturn, 1) := by decide +kernel
set_option maxRecDepth 20000 in
theorem ggX4_enter_X0_joinsTwoParts : GoodIn wsX4_enter wsX0_joinsTwoParts := goodIn_r _ [10, 11, 12, 13, 14, 15, 43, 44, 45, 46, 47, 48, 49, 50, 51] (by decide +kernel) (by decide +kernel)
set_option maxRecDepth 20000 in
theorem gX4_enter_X0_joinsTwoParts : GoodIn wsX4_enter (wsV RX4 89 RX0 yX0_joinsTwoParts wsX0_joinsTwoParts) := goodIn_app (goodIn_of _ (by decide +kernel)) ggX4_enter_X0_joinsTwoParts
set_option maxRecDepth 20000 in
theorem ggX4_enter_X0_partsJoinedBy : GoodIn wsX4_enter wsX0_partsJoinedBy := goodIn_r _ [19, 11, 12, 20, 13, 14, 15, 21, 22, 43, 44, 45, 46, 47, 48, 49, 50, 51] (by decide +kernel) (by decide +kernel)
set_option maxRecDepth 20000 in
theorem gX4_enter_X0_partsJoinedBy : GoodIn wsX4_enter (wsV RX4 92 RX0 yX0_partsJoinedBy wsX0_partsJoinedBy) := goodIn_app (goodIn_of _ (by decide +kernel)) ggX4_enter_X0_partsJoinedBy
set_option maxRecDepth 20000 in
theorem ggX4_enter_X0_hasRoom : GoodIn wsX4_enter wsX0_hasRoom := goodIn_r _ [26, 27, 13, 14, 15, 43, 44, 45, 46, 47, 48, 49, 50, 51] (by decide +kernel) (by decide +kernel)
set_option maxRecDepth 20000 in
theorem gX4_enter_X0_hasRoom : GoodIn wsX4_enter (wsV RX4 96 RX0 yX0_hasRoom wsX0_hasRoom) := goodIn_app (goodIn_of _ (by decide +kernel)) ggX4_enter_X0_hasRoom
set_option maxRecDepth 20000 in
theorem ggX4_enter_X0_roomAfter : GoodIn wsX4_enter wsX0_roomAfter := goodIn_r _ [31, 27, 13, 14, 15, 21, 22, 43, 44, 45, 46, 47, 48, 49, 50, 51] (by decide +kernel) (by decide +kernel)
set_option maxRecDepth 20000 in
theorem gX4_enter_X0_roomAfter : GoodIn wsX4_enter (wsV RX4 99 RX0 yX0_roomAfter wsX0_roomAfter) := goodIn_app (goodIn_of _ (by decide +kernel)) ggX4_enter_X0_roomAfter
theorem dX4_enter_0 : decode cX4_enter 0 = .ok (.aload_n 0, 1) := by decide +kernel
theorem dX4_enter_1 : decode cX4_enter 1 = .ok (.getfield 31, 3) := by decide +kernel
theorem dX4_enter_4 : decode cX4_enter 4 = .ok (.aload_n 0, 1) := by decide +kernel
theorem dX4_enter_5 : decode cX4_enter 5 = .ok (.getfield 22, 3) := by decide +kernel
theorem dX4_enter_8 : decode cX4_enter 8 = .ok (.iload_n 2, 1) := by decide +kernel
theorem dX4_enter_9 : decode cX4_enter 9 = .ok (.iaload, 1) := by decide +kernel
theorem dX4_enter_10 : decode cX4_enter 10 = .ok (.iload_n 1, 1) := by decide +kernel
theorem dX4_enter_11 : decode cX4_enter 11 = .ok (.invokevirtual 89, 3) := by decide +kernel
theorem dX4_enter_14 : decode cX4_enter 14 = .ok (.ifCond .ne 5, 3) := by decide +kernel
theorem dX4_enter_17 : decode cX4_enter 17 = .ok (.iconst 0, 1) := by decide +kernel
theorem dX4_enter_18 : decode cX4_enter 18 = .ok (.ireturn, 1) := by decide +kernel
theorem dX4_enter_19 : decode cX4_enter 19 = .ok (.aload_n 0, 1) := by decide +kernel
theorem dX4_enter_20 : decode cX4_enter 20 = .ok (.getfield 22, 3) := by decide +kernel
theorem dX4_enter_23 : decode cX4_enter 23 = .ok (.iload_n 1, 1) := by decide +kernel
theorem dX4_enter_24 : decode cX4_enter 24 = .ok (.aload_n 0, 1) := by decide +kernel
theorem dX4_enter_25 : decode cX4_enter 25 = .ok (.getfield 31, 3) := by decide +kernel
theorem dX4_enter_28 : decode cX4_enter 28 = .ok (.aload_n 0, 1) := by decide +kernel
theorem dX4_enter_29 : decode cX4_enter 29 = .ok (.getfield 22, 3) := by decide +kernel
theorem dX4_enter_32 : decode cX4_enter 32 = .ok (.iload_n 2, 1) := by decide +kernel
theorem dX4_enter_33 : decode cX4_enter 33 = .ok (.iaload, 1) := by decide +kernel
theorem dX4_enter_34 : decode cX4_enter 34 = .ok (.iload_n 1, 1) := by decide +kernel
theorem dX4_enter_35 : decode cX4_enter 35 = .ok (.invokevirtual 92, 3) := by decide +kernel
theorem dX4_enter_38 : decode cX4_enter 38 = .ok (.iastore, 1) := by decide +kernel
theorem dX4_enter_39 : decode cX4_enter 39 = .ok (.aload_n 0, 1) := by decide +kernel
theorem dX4_enter_40 : decode cX4_enter 40 = .ok (.getfield 25, 3) := by decide +kernel
theorem dX4_enter_43 : decode cX4_enter 43 = .ok (.iload_n 2, 1) := by decide +kernel
theorem dX4_enter_44 : decode cX4_enter 44 = .ok (.iaload, 1) := by decide +kernel
theorem dX4_enter_45 : decode cX4_enter 45 = .ok (.istore_n 3, 1) := by decide +kernel
theorem dX4_enter_46 : decode cX4_enter 46 = .ok (.iload_n 3, 1) := by decide +kernel
theorem dX4_enter_47 : decode cX4_enter 47 = .ok (.iconst (-1), 1) := by decide +kernel
theorem dX4_enter_48 : decode cX4_enter 48 = .ok (.if_icmp .eq 19, 3) := by decide +kernel
theorem dX4_enter_51 : decode cX4_enter 51 = .ok (.aload_n 0, 1) := by decide +kernel
theorem dX4_enter_52 : decode cX4_enter 52 = .ok (.getfield 31, 3) := by decide +kernel
theorem dX4_enter_55 : decode cX4_enter 55 = .ok (.iload_n 3, 1) := by decide +kernel
theorem dX4_enter_56 : decode cX4_enter 56 = .ok (.iload_n 1, 1) := by decide +kernel
theorem dX4_enter_57 : decode cX4_enter 57 = .ok (.invokevirtual 96, 3) := by decide +kernel
theorem dX4_enter_60 : decode cX4_enter 60 = .ok (.ifCond .eq 7, 3) := by decide +kernel
theorem dX4_enter_63 : decode cX4_enter 63 = .ok (.iconst 1, 1) := by decide +kernel
theorem dX4_enter_64 : decode cX4_enter 64 = .ok (.goto 4, 3) := by decide +kernel
theorem dX4_enter_67 : decode cX4_enter 67 = .ok (.iconst 0, 1) := by decide +kernel
theorem dX4_enter_68 : decode cX4_enter 68 = .ok (.istore 4, 2) := by decide +kernel
theorem dX4_enter_70 : decode cX4_enter 70 = .ok (.aload_n 0, 1) := by decide +kernel
theorem dX4_enter_71 : decode cX4_enter 71 = .ok (.getfield 25, 3) := by decide +kernel
theorem dX4_enter_74 : decode cX4_enter 74 = .ok (.iload_n 1, 1) := by decide +kernel
theorem dX4_enter_75 : decode cX4_enter 75 = .ok (.iload 4, 2) := by decide +kernel
theorem dX4_enter_77 : decode cX4_enter 77 = .ok (.ifCond .eq 15, 3) := by decide +kernel
theorem dX4_enter_80 : decode cX4_enter 80 = .ok (.aload_n 0, 1) := by decide +kernel
theorem dX4_enter_81 : decode cX4_enter 81 = .ok (.getfield 31, 3) := by decide +kernel
theorem dX4_enter_84 : decode cX4_enter 84 = .ok (.iload_n 3, 1) := by decide +kernel
theorem dX4_enter_85 : decode cX4_enter 85 = .ok (.iload_n 1, 1) := by decide +kernel
theorem dX4_enter_86 : decode cX4_enter 86 = .ok (.invokevirtual 99, 3) := by decide +kernel
theorem dX4_enter_89 : decode cX4_enter 89 = .ok (.goto 4, 3) := by decide +kernel
theorem dX4_enter_92 : decode cX4_enter 92 = .ok (.iconst (-1), 1) := by decide +kernel
theorem dX4_enter_93 : decode cX4_enter 93 = .ok (.iastore, 1) := by decide +kernel
theorem dX4_enter_94 : decode cX4_enter 94 = .ok (.aload_n 0, 1) := by decide +kernel
theorem dX4_enter_95 : decode cX4_enter 95 = .ok (.getfield 28, 3) := by decide +kernel
theorem dX4_enter_98 : decode cX4_enter 98 = .ok (.iload_n 1, 1) := by decide +kernel
theorem dX4_enter_99 : decode cX4_enter 99 = .ok (.aload_n 0, 1) := by decide +kernel
theorem dX4_enter_100 : decode cX4_enter 100 = .ok (.getfield 28, 3) := by decide +kernel
theorem dX4_enter_103 : decode cX4_enter 103 = .ok (.iload_n 2, 1) := by decide +kernel
theorem dX4_enter_104 : decode cX4_enter 104 = .ok (.iaload, 1) := by decide +kernel
theorem dX4_enter_105 : decode cX4_enter 105 = .ok (.aload_n 0, 1) := by decide +kernel
theorem dX4_enter_106 : decode cX4_enter 106 = .ok (.getfield 31, 3) := by decide +kernel
theorem dX4_enter_109 : decode cX4_enter 109 = .ok (.getfield 102, 3) := by decide +kernel
theorem dX4_enter_112 : decode cX4_enter 112 = .ok (.iload_n 1, 1) := by decide +kernel
theorem dX4_enter_113 : decode cX4_enter 113 = .ok (.iaload, 1) := by decide +kernel
theorem dX4_enter_114 : decode cX4_enter 114 = .ok (.iadd, 1) := by decide +kernel
theorem dX4_enter_115 : decode cX4_enter 115 = .ok (.iastore, 1) := by decide +kernel
theorem dX4_enter_116 : decode cX4_enter 116 = .ok (.iconst 1, 1) := by decide +kernel
theorem dX4_enter_117 : decode cX4_enter 117 = .ok (.ireturn, 1) := by decide +kernel
set_option maxRecDepth 20000 in
theorem ggX4_note_J6_bitCount_0f7a4 : GoodIn wsX4_note wsJ6_bitCount_0f7a4 := goodIn_r _ [6, 7, 8, 9] (by decide +kernel) (by decide +kernel)
set_option maxRecDepth 20000 in
theorem gX4_note_J6_bitCount_0f7a4 : GoodIn wsX4_note (va_wsS RX4 105 yJ6_bitCount_0f7a4 wsJ6_bitCount_0f7a4) := goodIn_app (goodIn_of _ (by decide +kernel)) ggX4_note_J6_bitCount_0f7a4
set_option maxRecDepth 20000 in
theorem ggX4_note_X4_noteForest : GoodIn wsX4_note wsX4_noteForest := goodIn_r _ [14, 15, 16, 29, 30, 31, 32, 33, 34, 35, 36, 37, 38, 39] (by decide +kernel) (by decide +kernel)
set_option maxRecDepth 20000 in
theorem gX4_note_X4_noteForest : GoodIn wsX4_note (wsV RX4 108 RX4 yX4_noteForest wsX4_noteForest) := goodIn_app (goodIn_of _ (by decide +kernel)) ggX4_note_X4_noteForest
set_option maxRecDepth 20000 in
theorem ggX4_note_X4_noteCommon : GoodIn wsX4_note wsX4_noteCommon := goodIn_r _ [20, 21, 22, 23, 24, 25, 26, 27, 28, 29, 30, 31, 32, 33, 34, 35, 36, 37, 38, 39] (by decide +kernel) (by decide +kernel)
set_option maxRecDepth 20000 in
theorem gX4_note_X4_noteCommon : GoodIn wsX4_note (wsV RX4 112 RX4 yX4_noteCommon wsX4_noteCommon) := goodIn_app (goodIn_of _ (by decide +kernel)) ggX4_note_X4_noteCommon
theorem dX4_note_0 : decode cX4_note 0 = .ok (.iload_n 1, 1) := by decide +kernel
theorem dX4_note_1 : decode cX4_note 1 = .ok (.invokestatic 105, 3) := by decide +kernel
theorem dX4_note_4 : decode cX4_note 4 = .ok (.istore_n 3, 1) := by decide +kernel
theorem dX4_note_5 : decode cX4_note 5 = .ok (.aload_n 0, 1) := by decide +kernel
theorem dX4_note_6 : decode cX4_note 6 = .ok (.iload_n 3, 1) := by decide +kernel
theorem dX4_note_7 : decode cX4_note 7 = .ok (.invokevirtual 108, 3) := by decide +kernel
theorem dX4_note_10 : decode cX4_note 10 = .ok (.aload_n 0, 1) := by decide +kernel
theorem dX4_note_11 : decode cX4_note 11 = .ok (.getfield 25, 3) := by decide +kernel
theorem dX4_note_14 : decode cX4_note 14 = .ok (.iload_n 2, 1) := by decide +kernel
theorem dX4_note_15 : decode cX4_note 15 = .ok (.iaload, 1) := by decide +kernel
theorem dX4_note_16 : decode cX4_note 16 = .ok (.iconst (-1), 1) := by decide +kernel
theorem dX4_note_17 : decode cX4_note 17 = .ok (.if_icmp .eq 15, 3) := by decide +kernel
theorem dX4_note_20 : decode cX4_note 20 = .ok (.aload_n 0, 1) := by decide +kernel
theorem dX4_note_21 : decode cX4_note 21 = .ok (.iload_n 1, 1) := by decide +kernel
theorem dX4_note_22 : decode cX4_note 22 = .ok (.iload_n 3, 1) := by decide +kernel
theorem dX4_note_23 : decode cX4_note 23 = .ok (.aload_n 0, 1) := by decide +kernel
theorem dX4_note_24 : decode cX4_note 24 = .ok (.getfield 28, 3) := by decide +kernel
theorem dX4_note_27 : decode cX4_note 27 = .ok (.iload_n 2, 1) := by decide +kernel
theorem dX4_note_28 : decode cX4_note 28 = .ok (.iaload, 1) := by decide +kernel
theorem dX4_note_29 : decode cX4_note 29 = .ok (.invokevirtual 112, 3) := by decide +kernel
theorem dX4_note_32 : decode cX4_note 32 = .ok (.return_, 1) := by decide +kernel
theorem dX4_noteForest_0 : decode cX4_noteForest 0 = .ok (.iload_n 1, 1) := by decide +kernel
theorem dX4_noteForest_1 : decode cX4_noteForest 1 = .ok (.aload_n 0, 1) := by decide +kernel
theorem dX4_noteForest_2 : decode cX4_noteForest 2 = .ok (.getfield 80, 3) := by decide +kernel
theorem dX4_noteForest_5 : decode cX4_noteForest 5 = .ok (.if_icmp .le 13, 3) := by decide +kernel
theorem dX4_noteForest_8 : decode cX4_noteForest 8 = .ok (.aload_n 0, 1) := by decide +kernel
theorem dX4_noteForest_9 : decode cX4_noteForest 9 = .ok (.iload_n 1, 1) := by decide +kernel
theorem dX4_noteForest_10 : decode cX4_noteForest 10 = .ok (.putfield 80, 3) := by decide +kernel
theorem dX4_noteForest_13 : decode cX4_noteForest 13 = .ok (.aload_n 0, 1) := by decide +kernel
theorem dX4_noteForest_14 : decode cX4_noteForest 14 = .ok (.iconst 0, 1) := by decide +kernel
theorem dX4_noteForest_15 : decode cX4_noteForest 15 = .ok (.putfield 83, 3) := by decide +kernel
theorem dX4_noteForest_18 : decode cX4_noteForest 18 = .ok (.iload_n 1, 1) := by decide +kernel
theorem dX4_noteForest_19 : decode cX4_noteForest 19 = .ok (.aload_n 0, 1) := by decide +kernel
theorem dX4_noteForest_20 : decode cX4_noteForest 20 = .ok (.getfield 80, 3) := by decide +kernel
theorem dX4_noteForest_23 : decode cX4_noteForest 23 = .ok (.if_icmp .ne 13, 3) := by decide +kernel
theorem dX4_noteForest_26 : decode cX4_noteForest 26 = .ok (.aload_n 0, 1) := by decide +kernel
theorem dX4_noteForest_27 : decode cX4_noteForest 27 = .ok (.dup, 1) := by decide +kernel
theorem dX4_noteForest_28 : decode cX4_noteForest 28 = .ok (.getfield 83, 3) := by decide +kernel
theorem dX4_noteForest_31 : decode cX4_noteForest 31 = .ok (.iconst 1, 1) := by decide +kernel
theorem dX4_noteForest_32 : decode cX4_noteForest 32 = .ok (.iadd, 1) := by decide +kernel
theorem dX4_noteForest_33 : decode cX4_noteForest 33 = .ok (.putfield 83, 3) := by decide +kernel
theorem dX4_noteForest_36 : decode cX4_noteForest 36 = .ok (.return_, 1) := by decide +kernel
theorem dX4_noteCommon_0 : decode cX4_noteCommon 0 = .ok (.aload_n 0, 1) := by decide +kernel
theorem dX4_noteCommon_1 : decode cX4_noteCommon 1 = .ok (.dup, 1) := by decide +kernel
theorem dX4_noteCommon_2 : decode cX4_noteCommon 2 = .ok (.getfield 86, 3) := by decide +kernel
theorem dX4_noteCommon_5 : decode cX4_noteCommon 5 = .ok (.iconst 1, 1) := by decide +kernel
theorem dX4_noteCommon_6 : decode cX4_noteCommon 6 = .ok (.iadd, 1) := by decide +kernel
theorem dX4_noteCommon_7 : decode cX4_noteCommon 7 = .ok (.putfield 86, 3) := by decide +kernel
theorem dX4_noteCommon_10 : decode cX4_noteCommon 10 = .ok (.iload_n 2, 1) := by decide +kernel
theorem dX4_noteCommon_11 : decode cX4_noteCommon 11 = .ok (.aload_n 0, 1) := by decide +kernel
theorem dX4_noteCommon_12 : decode cX4_noteCommon 12 = .ok (.getfield 35, 3) := by decide +kernel
theorem dX4_noteCommon_15 : decode cX4_noteCommon 15 = .ok (.if_icmp .gt 13, 3) := by decide +kernel
theorem dX4_noteCommon_18 : decode cX4_noteCommon 18 = .ok (.iload_n 3, 1) := by decide +kernel
theorem dX4_noteCommon_19 : decode cX4_noteCommon 19 = .ok (.aload_n 0, 1) := by decide +kernel
theorem dX4_noteCommon_20 : decode cX4_noteCommon 20 = .ok (.getfield 19, 3) := by decide +kernel
theorem dX4_noteCommon_23 : decode cX4_noteCommon 23 = .ok (.iload_n 2, 1) := by decide +kernel
theorem dX4_noteCommon_24 : decode cX4_noteCommon 24 = .ok (.iaload, 1) := by decide +kernel
theorem dX4_noteCommon_25 : decode cX4_noteCommon 25 = .ok (.if_icmp .le 17, 3) := by decide +kernel
theorem dX4_noteCommon_28 : decode cX4_noteCommon 28 = .ok (.aload_n 0, 1) := by decide +kernel
theorem dX4_noteCommon_29 : decode cX4_noteCommon 29 = .ok (.getfield 15, 3) := by decide +kernel
theorem dX4_noteCommon_32 : decode cX4_noteCommon 32 = .ok (.iload_n 2, 1) := by decide +kernel
theorem dX4_noteCommon_33 : decode cX4_noteCommon 33 = .ok (.iload_n 1, 1) := by decide +kernel
theorem dX4_noteCommon_34 : decode cX4_noteCommon 34 = .ok (.iastore, 1) := by decide +kernel
theorem dX4_noteCommon_35 : decode cX4_noteCommon 35 = .ok (.aload_n 0, 1) := by decide +kernel
theorem dX4_noteCommon_36 : decode cX4_noteCommon 36 = .ok (.getfield 19, 3) := by decide +kernel
theorem dX4_noteCommon_39 : decode cX4_noteCommon 39 = .ok (.iload_n 2, 1) := by decide +kernel
theorem dX4_noteCommon_40 : decode cX4_noteCommon 40 = .ok (.iload_n 3, 1) := by decide +kernel
theorem dX4_noteCommon_41 : decode cX4_noteCommon 41 = .ok (.iastore, 1) := by decide +kernel
theorem dX4_noteCommon_42 : decode cX4_noteCommon 42 = .ok (.aload_n 0, 1) := by decide +kernel
theorem dX4_noteCommon_43 : decode cX4_noteCommon 43 = .ok (.aload_n 0, 1) := by decide +kernel
theorem dX4_noteCommon_44 : decode cX4_noteCommon 44 = .ok (.getfield 35, 3) := by decide +kernel
theorem dX4_noteCommon_47 : decode cX4_noteCommon 47 = .ok (.iload_n 2, 1) := by decide +kernel
theorem dX4_noteCommon_48 : decode cX4_noteCommon 48 = .ok (.invokestatic 116, 3) := by decide +kernel
theorem dX4_noteCommon_51 : decode cX4_noteCommon 51 = .ok (.putfield 35, 3) := by decide +kernel
theorem dX4_noteCommon_54 : decode cX4_noteCommon 54 = .ok (.return_, 1) := by decide +kernel
set_option maxRecDepth 20000 in
theorem ggX5_init_X0_init : GoodIn wsX5_init wsX0_init := goodIn_r _ [22, 23, 2, 3, 24, 25, 26, 27, 28, 29, 30, 31, 56, 57, 58, 59, 60, 61, 62, 63, 64] (by decide +kernel) (by decide +kernel)
set_option maxRecDepth 20000 in
theorem gX5_init_X0_init : GoodIn wsX5_init (wsX0_init) := ggX5_init_X0_init
set_option maxRecDepth 20000 in
theorem ggX5_init_X3_init : GoodIn wsX5_init wsX3_init := goodIn_r _ [34, 35, 36, 37, 38, 39, 2, 3, 40, 70, 69] (by decide +kernel) (by decide +kernel)
set_option maxRecDepth 20000 in
theorem gX5_init_X3_init : GoodIn wsX5_init (wsX3_init) := ggX5_init_X3_init
set_option maxRecDepth 20000 in
theorem ggX5_init_X2_init : GoodIn wsX5_init wsX2_init := goodIn_r _ [43, 44, 36, 37, 38, 39, 2, 3, 40, 70, 69] (by decide +kernel) (by decide +kernel)
set_option maxRecDepth 20000 in
theorem gX5_init_X2_init : GoodIn wsX5_init (wsX2_init) := ggX5_init_X2_init
set_option maxRecDepth 20000 in
theorem ggX5_init_X4_init : GoodIn wsX5_init wsX4_init := goodIn_r _ [47, 48, 2, 3, 49, 24, 50, 51, 52, 53, 54, 55, 71, 72, 73, 74, 75, 76, 77, 78, 79, 80, 81] (by decide +kernel) (by decide +kernel)
set_option maxRecDepth 20000 in
theorem gX5_init_X4_init : GoodIn wsX5_init (wsX4_init) := ggX5_init_X4_init
theorem dX5_init_0 : decode cX5_init 0 = .ok (.aload_n 0, 1) := by decide +kernel
theorem dX5_init_1 : decode cX5_init 1 = .ok (.invokespecial 1, 3) := by decide +kernel
theorem dX5_init_4 : decode cX5_init 4 = .ok (.aload_n 0, 1) := by decide +kernel
theorem dX5_init_5 : decode cX5_init 5 = .ok (.new 7, 3) := by decide +kernel
theorem dX5_init_8 : decode cX5_init 8 = .ok (.dup, 1) := by decide +kernel
theorem dX5_init_9 : decode cX5_init 9 = .ok (.invokespecial 9, 3) := by decide +kernel
theorem dX5_init_12 : decode cX5_init 12 = .ok (.putfield 10, 3) := by decide +kernel
theorem dX5_init_15 : decode cX5_init 15 = .ok (.aload_n 0, 1) := by decide +kernel
theorem dX5_init_16 : decode cX5_init 16 = .ok (.new 16, 3) := by decide +kernel
theorem dX5_init_19 : decode cX5_init 19 = .ok (.dup, 1) := by decide +kernel
theorem dX5_init_20 : decode cX5_init 20 = .ok (.aload_n 0, 1) := by decide +kernel
theorem dX5_init_21 : decode cX5_init 21 = .ok (.getfield 10, 3) := by decide +kernel
theorem dX5_init_24 : decode cX5_init 24 = .ok (.invokespecial 18, 3) := by decide +kernel
theorem dX5_init_27 : decode cX5_init 27 = .ok (.putfield 21, 3) := by decide +kernel
theorem dX5_init_30 : decode cX5_init 30 = .ok (.aload_n 0, 1) := by decide +kernel
theorem dX5_init_31 : decode cX5_init 31 = .ok (.new 25, 3) := by decide +kernel
theorem dX5_init_34 : decode cX5_init 34 = .ok (.dup, 1) := by decide +kernel
theorem dX5_init_35 : decode cX5_init 35 = .ok (.aload_n 0, 1) := by decide +kernel
theorem dX5_init_36 : decode cX5_init 36 = .ok (.getfield 10, 3) := by decide +kernel
theorem dX5_init_39 : decode cX5_init 39 = .ok (.invokespecial 27, 3) := by decide +kernel
theorem dX5_init_42 : decode cX5_init 42 = .ok (.putfield 28, 3) := by decide +kernel
theorem dX5_init_45 : decode cX5_init 45 = .ok (.aload_n 0, 1) := by decide +kernel
theorem dX5_init_46 : decode cX5_init 46 = .ok (.new 31, 3) := by decide +kernel
theorem dX5_init_49 : decode cX5_init 49 = .ok (.dup, 1) := by decide +kernel
theorem dX5_init_50 : decode cX5_init 50 = .ok (.aload_n 0, 1) := by decide +kernel
theorem dX5_init_51 : decode cX5_init 51 = .ok (.getfield 10, 3) := by decide +kernel
theorem dX5_init_54 : decode cX5_init 54 = .ok (.invokespecial 33, 3) := by decide +kernel
theorem dX5_init_57 : decode cX5_init 57 = .ok (.putfield 34, 3) := by decide +kernel
theorem dX5_init_60 : decode cX5_init 60 = .ok (.return_, 1) := by decide +kernel
set_option maxRecDepth 20000 in
theorem ggX5_make_X5_within : GoodIn wsX5_make wsX5_within := goodIn_r _ [7] (by decide +kernel) (by decide +kernel)
set_option maxRecDepth 20000 in
theorem gX5_make_X5_within : GoodIn wsX5_make (va_wsS RX5 38 yX5_within wsX5_within) := goodIn_app (goodIn_of _ (by decide +kernel)) ggX5_make_X5_within
set_option maxRecDepth 20000 in
theorem ggX5_make_X0_restart : GoodIn wsX5_make wsX0_restart := goodIn_r _ [12, 13, 14, 15, 16, 17, 18, 19, 20, 21, 26, 27, 28, 29, 30, 31, 32, 33, 34] (by decide +kernel) (by decide +kernel)
set_option maxRecDepth 20000 in
theorem gX5_make_X0_restart : GoodIn wsX5_make (wsV RX5 49 RX0 yX0_restart wsX0_restart) := goodIn_app (goodIn_of _ (by decide +kernel)) ggX5_make_X0_restart
theorem dX5_make_0 : decode cX5_make 0 = .ok (.iload_n 1, 1) := by decide +kernel
theorem dX5_make_1 : decode cX5_make 1 = .ok (.iconst 1, 1) := by decide +kernel
theorem dX5_make_2 : decode cX5_make 2 = .ok (.bipush 8, 2) := by decide +kernel
theorem dX5_make_4 : decode cX5_make 4 = .ok (.invokestatic 38, 3) := by decide +kernel
theorem dX5_make_7 : decode cX5_make 7 = .ok (.ifCond .eq 13, 3) := by decide +kernel
theorem dX5_make_10 : decode cX5_make 10 = .ok (.iload_n 2, 1) := by decide +kernel
theorem dX5_make_11 : decode cX5_make 11 = .ok (.iconst 1, 1) := by decide +kernel
theorem dX5_make_12 : decode cX5_make 12 = .ok (.bipush 6, 2) := by decide +kernel
theorem dX5_make_14 : decode cX5_make 14 = .ok (.invokestatic 38, 3) := by decide +kernel
theorem dX5_make_17 : decode cX5_make 17 = .ok (.ifCond .ne 13, 3) := by decide +kernel
theorem dX5_make_20 : decode cX5_make 20 = .ok (.new 42, 3) := by decide +kernel
theorem dX5_make_23 : decode cX5_make 23 = .ok (.dup, 1) := by decide +kernel
theorem dX5_make_24 : decode cX5_make 24 = .ok (.ldc 44, 2) := by decide +kernel
theorem dX5_make_26 : decode cX5_make 26 = .ok (.invokespecial 46, 3) := by decide +kernel
theorem dX5_make_29 : decode cX5_make 29 = .ok (.athrow, 1) := by decide +kernel
theorem dX5_make_30 : decode cX5_make 30 = .ok (.aload_n 0, 1) := by decide +kernel
theorem dX5_make_31 : decode cX5_make 31 = .ok (.getfield 10, 3) := by decide +kernel
theorem dX5_make_34 : decode cX5_make 34 = .ok (.iload_n 1, 1) := by decide +kernel
theorem dX5_make_35 : decode cX5_make 35 = .ok (.iload_n 2, 1) := by decide +kernel
theorem dX5_make_36 : decode cX5_make 36 = .ok (.invokevirtual 49, 3) := by decide +kernel
theorem dX5_make_39 : decode cX5_make 39 = .ok (.return_, 1) := by decide +kernel
set_option maxRecDepth 20000 in
theorem ggX5_edge_X0_hasVertex : GoodIn wsX5_edge wsX0_hasVertex := goodIn_r _ [7, 8, 9, 10, 11, 35, 36, 37, 38, 39, 40, 41, 42, 43] (by decide +kernel) (by decide +kernel)
set_option maxRecDepth 20000 in
theorem gX5_edge_X0_hasVertex : GoodIn wsX5_edge (wsV RX5 53 RX0 yX0_hasVertex wsX0_hasVertex) := goodIn_app (goodIn_of _ (by decide +kernel)) ggX5_edge_X0_hasVertex
set_option maxRecDepth 20000 in
theorem ggX5_edge_X0_hasColour : GoodIn wsX5_edge wsX0_hasColour := goodIn_r _ [15, 16, 9, 10, 11, 35, 36, 37, 38, 39, 40, 41, 42, 43] (by decide +kernel) (by decide +kernel)
set_option maxRecDepth 20000 in
theorem gX5_edge_X0_hasColour : GoodIn wsX5_edge (wsV RX5 57 RX0 yX0_hasColour wsX0_hasColour) := goodIn_app (goodIn_of _ (by decide +kernel)) ggX5_edge_X0_hasColour
set_option maxRecDepth 20000 in
theorem ggX5_edge_X5_isWeight : GoodIn wsX5_edge wsX5_isWeight := goodIn_r _ [19, 20, 9, 10, 11] (by decide +kernel) (by decide +kernel)
set_option maxRecDepth 20000 in
theorem gX5_edge_X5_isWeight : GoodIn wsX5_edge (va_wsS RX5 60 yX5_isWeight wsX5_isWeight) := goodIn_app (goodIn_of _ (by decide +kernel)) ggX5_edge_X5_isWeight
set_option maxRecDepth 20000 in
theorem ggX5_edge_X0_addEdge : GoodIn wsX5_edge wsX0_addEdge := goodIn_r _ [24, 25, 26, 27, 28, 29, 30, 35, 36, 37, 38, 39, 40, 41, 42, 43] (by decide +kernel) (by decide +kernel)
set_option maxRecDepth 20000 in
theorem gX5_edge_X0_addEdge : GoodIn wsX5_edge (wsV RX5 67 RX0 yX0_addEdge wsX0_addEdge) := goodIn_app (goodIn_of _ (by decide +kernel)) ggX5_edge_X0_addEdge
theorem dX5_edge_0 : decode cX5_edge 0 = .ok (.aload_n 0, 1) := by decide +kernel
theorem dX5_edge_1 : decode cX5_edge 1 = .ok (.getfield 10, 3) := by decide +kernel
theorem dX5_edge_4 : decode cX5_edge 4 = .ok (.iload_n 1, 1) := by decide +kernel
theorem dX5_edge_5 : decode cX5_edge 5 = .ok (.invokevirtual 53, 3) := by decide +kernel
theorem dX5_edge_8 : decode cX5_edge 8 = .ok (.ifCond .eq 25, 3) := by decide +kernel
theorem dX5_edge_11 : decode cX5_edge 11 = .ok (.aload_n 0, 1) := by decide +kernel
theorem dX5_edge_12 : decode cX5_edge 12 = .ok (.getfield 10, 3) := by decide +kernel
theorem dX5_edge_15 : decode cX5_edge 15 = .ok (.iload_n 2, 1) := by decide +kernel
theorem dX5_edge_16 : decode cX5_edge 16 = .ok (.invokevirtual 53, 3) := by decide +kernel
theorem dX5_edge_19 : decode cX5_edge 19 = .ok (.ifCond .eq 14, 3) := by decide +kernel
theorem dX5_edge_22 : decode cX5_edge 22 = .ok (.aload_n 0, 1) := by decide +kernel
theorem dX5_edge_23 : decode cX5_edge 23 = .ok (.getfield 10, 3) := by decide +kernel
theorem dX5_edge_26 : decode cX5_edge 26 = .ok (.iload_n 3, 1) := by decide +kernel
theorem dX5_edge_27 : decode cX5_edge 27 = .ok (.invokevirtual 57, 3) := by decide +kernel
theorem dX5_edge_30 : decode cX5_edge 30 = .ok (.ifCond .ne 5, 3) := by decide +kernel
theorem dX5_edge_33 : decode cX5_edge 33 = .ok (.iconst (-1), 1) := by decide +kernel
theorem dX5_edge_34 : decode cX5_edge 34 = .ok (.ireturn, 1) := by decide +kernel
theorem dX5_edge_35 : decode cX5_edge 35 = .ok (.iload 4, 2) := by decide +kernel
theorem dX5_edge_37 : decode cX5_edge 37 = .ok (.invokestatic 60, 3) := by decide +kernel
theorem dX5_edge_40 : decode cX5_edge 40 = .ok (.ifCond .eq 15, 3) := by decide +kernel
theorem dX5_edge_43 : decode cX5_edge 43 = .ok (.aload_n 0, 1) := by decide +kernel
theorem dX5_edge_44 : decode cX5_edge 44 = .ok (.getfield 10, 3) := by decide +kernel
theorem dX5_edge_47 : decode cX5_edge 47 = .ok (.getfield 63, 3) := by decide +kernel
theorem dX5_edge_50 : decode cX5_edge 50 = .ok (.bipush 14, 2) := by decide +kernel
theorem dX5_edge_52 : decode cX5_edge 52 = .ok (.if_icmp .ne 5, 3) := by decide +kernel
theorem dX5_edge_55 : decode cX5_edge 55 = .ok (.iconst (-1), 1) := by decide +kernel
theorem dX5_edge_56 : decode cX5_edge 56 = .ok (.ireturn, 1) := by decide +kernel
theorem dX5_edge_57 : decode cX5_edge 57 = .ok (.aload_n 0, 1) := by decide +kernel
theorem dX5_edge_58 : decode cX5_edge 58 = .ok (.getfield 10, 3) := by decide +kernel
theorem dX5_edge_61 : decode cX5_edge 61 = .ok (.iload_n 1, 1) := by decide +kernel
theorem dX5_edge_62 : decode cX5_edge 62 = .ok (.iload_n 2, 1) := by decide +kernel
theorem dX5_edge_63 : decode cX5_edge 63 = .ok (.iload_n 3, 1) := by decide +kernel
theorem dX5_edge_64 : decode cX5_edge 64 = .ok (.iload 4, 2) := by decide +kernel
theorem dX5_edge_66 : decode cX5_edge 66 = .ok (.invokevirtual 67, 3) := by decide +kernel
theorem dX5_edge_69 : decode cX5_edge 69 = .ok (.ireturn, 1) := by decide +kernel
set_option maxRecDepth 20000 in
theorem ggX5_limit_X0_hasColour : GoodIn wsX5_limit wsX0_hasColour := goodIn_r _ [10, 11, 12, 13, 14, 26, 27, 28, 29, 30, 31, 32, 33, 34] (by decide +kernel) (by decide +kernel)
set_option maxRecDepth 20000 in
theorem gX5_limit_X0_hasColour : GoodIn wsX5_limit (wsV RX5 57 RX0 yX0_hasColour wsX0_hasColour) := goodIn_app (goodIn_of _ (by decide +kernel)) ggX5_limit_X0_hasColour
set_option maxRecDepth 20000 in
theorem ggX5_limit_X5_within : GoodIn wsX5_limit wsX5_within := goodIn_r _ [14] (by decide +kernel) (by decide +kernel)
set_option maxRecDepth 20000 in
theorem gX5_limit_X5_within : GoodIn wsX5_limit (va_wsS RX5 38 yX5_within wsX5_within) := goodIn_app (goodIn_of _ (by decide +kernel)) ggX5_limit_X5_within
set_option maxRecDepth 20000 in
theorem ggX5_limit_X0_setLimit : GoodIn wsX5_limit wsX0_setLimit := goodIn_r _ [19, 20, 21, 26, 27, 28, 29, 30, 31, 32, 33, 34] (by decide +kernel) (by decide +kernel)
set_option maxRecDepth 20000 in
theorem gX5_limit_X0_setLimit : GoodIn wsX5_limit (wsV RX5 78 RX0 yX0_setLimit wsX0_setLimit) := goodIn_app (goodIn_of _ (by decide +kernel)) ggX5_limit_X0_setLimit
theorem dX5_limit_0 : decode cX5_limit 0 = .ok (.aload_n 0, 1) := by decide +kernel
theorem dX5_limit_1 : decode cX5_limit 1 = .ok (.getfield 10, 3) := by decide +kernel
theorem dX5_limit_4 : decode cX5_limit 4 = .ok (.iload_n 1, 1) := by decide +kernel
theorem dX5_limit_5 : decode cX5_limit 5 = .ok (.invokevirtual 57, 3) := by decide +kernel
theorem dX5_limit_8 : decode cX5_limit 8 = .ok (.ifCond .ne 13, 3) := by decide +kernel
theorem dX5_limit_11 : decode cX5_limit 11 = .ok (.new 71, 3) := by decide +kernel
theorem dX5_limit_14 : decode cX5_limit 14 = .ok (.dup, 1) := by decide +kernel
theorem dX5_limit_15 : decode cX5_limit 15 = .ok (.ldc 73, 2) := by decide +kernel
theorem dX5_limit_17 : decode cX5_limit 17 = .ok (.invokespecial 75, 3) := by decide +kernel
theorem dX5_limit_20 : decode cX5_limit 20 = .ok (.athrow, 1) := by decide +kernel
theorem dX5_limit_21 : decode cX5_limit 21 = .ok (.iload_n 2, 1) := by decide +kernel
theorem dX5_limit_22 : decode cX5_limit 22 = .ok (.iconst 0, 1) := by decide +kernel
theorem dX5_limit_23 : decode cX5_limit 23 = .ok (.bipush 14, 2) := by decide +kernel
theorem dX5_limit_25 : decode cX5_limit 25 = .ok (.invokestatic 38, 3) := by decide +kernel
theorem dX5_limit_28 : decode cX5_limit 28 = .ok (.ifCond .ne 13, 3) := by decide +kernel
theorem dX5_limit_31 : decode cX5_limit 31 = .ok (.new 42, 3) := by decide +kernel
theorem dX5_limit_34 : decode cX5_limit 34 = .ok (.dup, 1) := by decide +kernel
theorem dX5_limit_35 : decode cX5_limit 35 = .ok (.ldc 76, 2) := by decide +kernel
theorem dX5_limit_37 : decode cX5_limit 37 = .ok (.invokespecial 46, 3) := by decide +kernel
theorem dX5_limit_40 : decode cX5_limit 40 = .ok (.athrow, 1) := by decide +kernel
theorem dX5_limit_41 : decode cX5_limit 41 = .ok (.aload_n 0, 1) := by decide +kernel
theorem dX5_limit_42 : decode cX5_limit 42 = .ok (.getfield 10, 3) := by decide +kernel
theorem dX5_limit_45 : decode cX5_limit 45 = .ok (.iload_n 1, 1) := by decide +kernel
theorem dX5_limit_46 : decode cX5_limit 46 = .ok (.iload_n 2, 1) := by decide +kernel
theorem dX5_limit_47 : decode cX5_limit 47 = .ok (.invokevirtual 78, 3) := by decide +kernel
theorem dX5_limit_50 : decode cX5_limit 50 = .ok (.return_, 1) := by decide +kernel
set_option maxRecDepth 20000 in
theorem ggX5_weigh_X0_hasEdge : GoodIn wsX5_weigh wsX0_hasEdge := goodIn_r _ [10, 11, 12, 13, 14, 29, 30, 31, 32, 33, 34, 35, 36, 37] (by decide +kernel) (by decide +kernel)
set_option maxRecDepth 20000 in
theorem gX5_weigh_X0_hasEdge : GoodIn wsX5_weigh (wsV RX5 81 RX0 yX0_hasEdge wsX0_hasEdge) := goodIn_app (goodIn_of _ (by decide +kernel)) ggX5_weigh_X0_hasEdge
set_option maxRecDepth 20000 in
theorem ggX5_weigh_X5_isWeight : GoodIn wsX5_weigh wsX5_isWeight := goodIn_r _ [17, 18, 12, 13, 14] (by decide +kernel) (by decide +kernel)
set_option maxRecDepth 20000 in
theorem gX5_weigh_X5_isWeight : GoodIn wsX5_weigh (va_wsS RX5 60 yX5_isWeight wsX5_isWeight) := goodIn_app (goodIn_of _ (by decide +kernel)) ggX5_weigh_X5_isWeight
set_option maxRecDepth 20000 in
theorem ggX5_weigh_X0_setWeight : GoodIn wsX5_weigh wsX0_setWeight := goodIn_r _ [22, 23, 24, 29, 30, 31, 32, 33, 34, 35, 36, 37] (by decide +kernel) (by decide +kernel)
set_option maxRecDepth 20000 in
theorem gX5_weigh_X0_setWeight : GoodIn wsX5_weigh (wsV RX5 88 RX0 yX0_setWeight wsX0_setWeight) := goodIn_app (goodIn_of _ (by decide +kernel)) ggX5_weigh_X0_setWeight
end
section
theorem dX5_weigh_0 : decode cX5_weigh 0 = .ok (.aload_n 0, 1) := by decide +kernel
theorem dX5_weigh_1 : decode cX5_weigh 1 = .ok (.getfield 10, 3) := by decide +kernel
theorem dX5_weigh_4 : decode cX5_weigh 4 = .ok (.iload_n 1, 1) := by decide +kernel
theorem dX5_weigh_5 : decode cX5_weigh 5 = .ok (.invokevirtual 81, 3) := by decide +kernel
theorem dX5_weigh_8 : decode cX5_weigh 8 = .ok (.ifCond .ne 13, 3) := by decide +kernel
theorem dX5_weigh_11 : decode cX5_weigh 11 = .ok (.new 71, 3) := by decide +kernel
theorem dX5_weigh_14 : decode cX5_weigh 14 = .ok (.dup, 1) := by decide +kernel
theorem dX5_weigh_15 : decode cX5_weigh 15 = .ok (.ldc 84, 2) := by decide +kernel
theorem dX5_weigh_17 : decode cX5_weigh 17 = .ok (.invokespecial 75, 3) := by decide +kernel
theorem dX5_weigh_20 : decode cX5_weigh 20 = .ok (.athrow, 1) := by decide +kernel
theorem dX5_weigh_21 : decode cX5_weigh 21 = .ok (.iload_n 2, 1) := by decide +kernel
theorem dX5_weigh_22 : decode cX5_weigh 22 = .ok (.invokestatic 60, 3) := by decide +kernel
theorem dX5_weigh_25 : decode cX5_weigh 25 = .ok (.ifCond .ne 13, 3) := by decide +kernel
theorem dX5_weigh_28 : decode cX5_weigh 28 = .ok (.new 42, 3) := by decide +kernel
theorem dX5_weigh_31 : decode cX5_weigh 31 = .ok (.dup, 1) := by decide +kernel
theorem dX5_weigh_32 : decode cX5_weigh 32 = .ok (.ldc 86, 2) := by decide +kernel
theorem dX5_weigh_34 : decode cX5_weigh 34 = .ok (.invokespecial 46, 3) := by decide +kernel
theorem dX5_weigh_37 : decode cX5_weigh 37 = .ok (.athrow, 1) := by decide +kernel
theorem dX5_weigh_38 : decode cX5_weigh 38 = .ok (.aload_n 0, 1) := by decide +kernel
theorem dX5_weigh_39 : decode cX5_weigh 39 = .ok (.getfield 10, 3) := by decide +kernel
theorem dX5_weigh_42 : decode cX5_weigh 42 = .ok (.iload_n 1, 1) := by decide +kernel
theorem dX5_weigh_43 : decode cX5_weigh 43 = .ok (.iload_n 2, 1) := by decide +kernel
theorem dX5_weigh_44 : decode cX5_weigh 44 = .ok (.invokevirtual 88, 3) := by decide +kernel
theorem dX5_weigh_47 : decode cX5_weigh 47 = .ok (.return_, 1) := by decide +kernel
set_option maxRecDepth 20000 in
theorem ggX5_count_X4_refresh : GoodIn wsX5_count wsX4_refresh := goodIn_r _ [12, 13, 14, 15, 16, 17, 18, 11, 19, 20, 21, 22, 23, 24, 25, 26, 27, 28, 29, 30, 31, 32, 33, 34, 35, 36, 37, 38, 39, 40, 41, 42, 43, 44, 45, 46, 47, 48, 49, 50, 51, 52, 53, 54, 55, 56, 57, 58, 59, 60, 61, 62, 63, 64, 65, 66, 67, 68, 69, 70, 71, 72, 73, 74, 75, 76, 77, 78, 79, 80, 81, 82, 83, 84, 85, 86, 87, 88, 89, 90, 91, 92, 93, 94, 95, 96, 97, 98, 99, 100, 101, 102, 103, 104, 105, 119, 120, 121, 122, 123, 124, 125, 126, 127, 128, 129, 110, 111, 112, 113, 114, 115, 116, 117, 118] (by decide +kernel) (by decide +kernel)
set_option maxRecDepth 20000 in
theorem gX5_count_X4_refresh : GoodIn wsX5_count (wsV RX5 97 RX4 yX4_refresh wsX4_refresh) := goodIn_app (goodIn_of _ (by decide +kernel)) ggX5_count_X4_refresh
theorem dX5_count_0 : decode cX5_count 0 = .ok (.iload_n 1, 1) := by decide +kernel
theorem dX5_count_1 : decode cX5_count 1 = .ok (.tableswitch 89 0 4 #[35, 43, 51, 59, 74], 35) := by decide +kernel
theorem dX5_count_36 : decode cX5_count 36 = .ok (.aload_n 0, 1) := by decide +kernel
theorem dX5_count_37 : decode cX5_count 37 = .ok (.getfield 10, 3) := by decide +kernel
theorem dX5_count_40 : decode cX5_count 40 = .ok (.getfield 91, 3) := by decide +kernel
theorem dX5_count_43 : decode cX5_count 43 = .ok (.ireturn, 1) := by decide +kernel
theorem dX5_count_44 : decode cX5_count 44 = .ok (.aload_n 0, 1) := by decide +kernel
theorem dX5_count_45 : decode cX5_count 45 = .ok (.getfield 10, 3) := by decide +kernel
theorem dX5_count_48 : decode cX5_count 48 = .ok (.getfield 94, 3) := by decide +kernel
theorem dX5_count_51 : decode cX5_count 51 = .ok (.ireturn, 1) := by decide +kernel
theorem dX5_count_52 : decode cX5_count 52 = .ok (.aload_n 0, 1) := by decide +kernel
theorem dX5_count_53 : decode cX5_count 53 = .ok (.getfield 10, 3) := by decide +kernel
theorem dX5_count_56 : decode cX5_count 56 = .ok (.getfield 63, 3) := by decide +kernel
theorem dX5_count_59 : decode cX5_count 59 = .ok (.ireturn, 1) := by decide +kernel
theorem dX5_count_60 : decode cX5_count 60 = .ok (.aload_n 0, 1) := by decide +kernel
theorem dX5_count_61 : decode cX5_count 61 = .ok (.getfield 34, 3) := by decide +kernel
theorem dX5_count_64 : decode cX5_count 64 = .ok (.invokevirtual 97, 3) := by decide +kernel
theorem dX5_count_67 : decode cX5_count 67 = .ok (.aload_n 0, 1) := by decide +kernel
theorem dX5_count_68 : decode cX5_count 68 = .ok (.getfield 34, 3) := by decide +kernel
theorem dX5_count_71 : decode cX5_count 71 = .ok (.getfield 100, 3) := by decide +kernel
theorem dX5_count_74 : decode cX5_count 74 = .ok (.ireturn, 1) := by decide +kernel
theorem dX5_count_75 : decode cX5_count 75 = .ok (.aload_n 0, 1) := by decide +kernel
theorem dX5_count_76 : decode cX5_count 76 = .ok (.getfield 34, 3) := by decide +kernel
theorem dX5_count_79 : decode cX5_count 79 = .ok (.invokevirtual 97, 3) := by decide +kernel
theorem dX5_count_82 : decode cX5_count 82 = .ok (.aload_n 0, 1) := by decide +kernel
theorem dX5_count_83 : decode cX5_count 83 = .ok (.getfield 34, 3) := by decide +kernel
theorem dX5_count_86 : decode cX5_count 86 = .ok (.getfield 103, 3) := by decide +kernel
theorem dX5_count_89 : decode cX5_count 89 = .ok (.ireturn, 1) := by decide +kernel
theorem dX5_count_90 : decode cX5_count 90 = .ok (.iconst (-1), 1) := by decide +kernel
theorem dX5_count_91 : decode cX5_count 91 = .ok (.ireturn, 1) := by decide +kernel
set_option maxRecDepth 20000 in
theorem ggX5_rank_X5_judgeOf : GoodIn wsX5_rank wsX5_judgeOf := goodIn_r _ [6, 7, 8, 71, 72, 73, 74] (by decide +kernel) (by decide +kernel)
set_option maxRecDepth 20000 in
theorem gX5_rank_X5_judgeOf : GoodIn wsX5_rank (wsV RX5 106 RX5 yX5_judgeOf wsX5_judgeOf) := goodIn_app (goodIn_of _ (by decide +kernel)) ggX5_rank_X5_judgeOf
set_option maxRecDepth 20000 in
theorem ggX5_rank_X0_hasSet : GoodIn wsX5_rank wsX0_hasSet := goodIn_r _ [13, 14, 15, 16, 12, 17, 18, 75, 76, 77, 78, 79, 80, 81, 82, 83] (by decide +kernel) (by decide +kernel)
set_option maxRecDepth 20000 in
theorem gX5_rank_X0_hasSet : GoodIn wsX5_rank (wsV RX5 110 RX0 yX0_hasSet wsX0_hasSet) := goodIn_app (goodIn_of _ (by decide +kernel)) ggX5_rank_X0_hasSet
set_option maxRecDepth 20000 in
theorem ggX5_rank_X2_rankOf : GoodIn wsX5_rank wsX2_rankOf := goodIn_r _ [24, 25, 26, 27, 28, 29, 30, 12, 31, 32, 33, 34, 5, 35, 36, 37, 38, 39, 40, 41, 42, 43, 44, 45, 46, 47, 48, 84, 85, 75, 76, 77, 78, 79, 80, 81, 82, 83] (by decide +kernel) (by decide +kernel)
set_option maxRecDepth 20000 in
theorem gX5_rank_X2_rankOf_u113X2 : GoodIn wsX5_rank (va_wsU RX5 113 RX2 "ColourForests$Kind" ⟨"ColourForests$Kind", "rankOf", "(I)I"⟩ yX2_rankOf wsX2_rankOf) := goodIn_app (goodIn_of _ (by decide +kernel)) ggX5_rank_X2_rankOf
set_option maxRecDepth 20000 in
theorem ggX5_rank_X3_rankOf : GoodIn wsX5_rank wsX3_rankOf := goodIn_r _ [52, 53, 54, 55, 56, 57, 58, 12, 59, 60, 34, 5, 35, 36, 37, 61, 62, 63, 64, 65, 66, 43, 44, 67, 68, 69, 70, 84, 85, 75, 76, 77, 78, 79, 80, 81, 82, 83] (by decide +kernel) (by decide +kernel)
set_option maxRecDepth 20000 in
theorem gX5_rank_X3_rankOf_u113X3 : GoodIn wsX5_rank (va_wsU RX5 113 RX3 "ColourForests$Kind" ⟨"ColourForests$Kind", "rankOf", "(I)I"⟩ yX3_rankOf wsX3_rankOf) := goodIn_app (goodIn_of _ (by decide +kernel)) ggX5_rank_X3_rankOf
theorem dX5_rank_0 : decode cX5_rank 0 = .ok (.aload_n 0, 1) := by decide +kernel
theorem dX5_rank_1 : decode cX5_rank 1 = .ok (.iload_n 1, 1) := by decide +kernel
theorem dX5_rank_2 : decode cX5_rank 2 = .ok (.invokevirtual 106, 3) := by decide +kernel
theorem dX5_rank_5 : decode cX5_rank 5 = .ok (.astore_n 3, 1) := by decide +kernel
theorem dX5_rank_6 : decode cX5_rank 6 = .ok (.aload_n 3, 1) := by decide +kernel
theorem dX5_rank_7 : decode cX5_rank 7 = .ok (.ifnull 14, 3) := by decide +kernel
theorem dX5_rank_10 : decode cX5_rank 10 = .ok (.aload_n 0, 1) := by decide +kernel
theorem dX5_rank_11 : decode cX5_rank 11 = .ok (.getfield 10, 3) := by decide +kernel
theorem dX5_rank_14 : decode cX5_rank 14 = .ok (.iload_n 2, 1) := by decide +kernel
theorem dX5_rank_15 : decode cX5_rank 15 = .ok (.invokevirtual 110, 3) := by decide +kernel
theorem dX5_rank_18 : decode cX5_rank 18 = .ok (.ifCond .ne 5, 3) := by decide +kernel
theorem dX5_rank_21 : decode cX5_rank 21 = .ok (.iconst (-1), 1) := by decide +kernel
theorem dX5_rank_22 : decode cX5_rank 22 = .ok (.ireturn, 1) := by decide +kernel
theorem dX5_rank_23 : decode cX5_rank 23 = .ok (.aload_n 3, 1) := by decide +kernel
theorem dX5_rank_24 : decode cX5_rank 24 = .ok (.iload_n 2, 1) := by decide +kernel
theorem dX5_rank_25 : decode cX5_rank 25 = .ok (.invokevirtual 113, 3) := by decide +kernel
theorem dX5_rank_28 : decode cX5_rank 28 = .ok (.ireturn, 1) := by decide +kernel
set_option maxRecDepth 20000 in
theorem ggX5_free_X0_hasSet : GoodIn wsX5_free wsX0_hasSet := goodIn_r _ [6, 7, 8, 9, 5, 10, 11, 96, 97, 98, 99, 100, 101, 102, 103, 104] (by decide +kernel) (by decide +kernel)
set_option maxRecDepth 20000 in
theorem gX5_free_X0_hasSet : GoodIn wsX5_free (wsV RX5 110 RX0 yX0_hasSet wsX0_hasSet) := goodIn_app (goodIn_of _ (by decide +kernel)) ggX5_free_X0_hasSet
set_option maxRecDepth 20000 in
theorem ggX5_free_X5_isCommon : GoodIn wsX5_free wsX5_isCommon := goodIn_r _ [16, 17, 18, 19, 20, 21, 22, 23, 24, 25, 26, 27, 28, 29, 30, 31, 32, 33, 34, 35, 36, 5, 37, 38, 39, 40, 15, 41, 42, 43, 44, 45, 46, 47, 48, 49, 50, 51, 52, 53, 54, 55, 56, 57, 58, 59, 60, 61, 62, 63, 64, 65, 66, 67, 68, 69, 70, 71, 72, 73, 74, 75, 76, 77, 78, 79, 80, 81, 82, 83, 84, 92, 93, 94, 95, 105, 106, 96, 97, 98, 99, 100, 101, 102, 103, 104] (by decide +kernel) (by decide +kernel)
set_option maxRecDepth 20000 in
theorem gX5_free_X5_isCommon : GoodIn wsX5_free (wsV RX5 119 RX5 yX5_isCommon wsX5_isCommon) := goodIn_app (goodIn_of _ (by decide +kernel)) ggX5_free_X5_isCommon
set_option maxRecDepth 20000 in
theorem ggX5_free_X5_told : GoodIn wsX5_free wsX5_told := goodIn_r _ [87] (by decide +kernel) (by decide +kernel)
set_option maxRecDepth 20000 in
theorem gX5_free_X5_told : GoodIn wsX5_free (va_wsS RX5 122 yX5_told wsX5_told) := goodIn_app (goodIn_of _ (by decide +kernel)) ggX5_free_X5_told
set_option maxRecDepth 20000 in
theorem ggX5_free_X5_judgeOf : GoodIn wsX5_free wsX5_judgeOf := goodIn_r _ [91, 17, 18, 92, 93, 94, 95] (by decide +kernel) (by decide +kernel)
set_option maxRecDepth 20000 in
theorem gX5_free_X5_judgeOf : GoodIn wsX5_free (wsV RX5 106 RX5 yX5_judgeOf wsX5_judgeOf) := goodIn_app (goodIn_of _ (by decide +kernel)) ggX5_free_X5_judgeOf
set_option maxRecDepth 20000 in
theorem ggX5_free_X1_allows : GoodIn wsX5_free wsX1_allows := goodIn_r _ [24, 25, 26, 27, 28, 29, 30, 31, 32, 33, 34, 35, 36, 5, 37, 38, 39, 40, 15, 41, 42, 43, 44, 45, 46, 47, 48, 49, 50, 51, 52, 53, 54, 55, 56, 57, 58, 59, 60, 61, 62, 63, 64, 65, 66, 67, 68, 69, 70, 71, 72, 73, 74, 75, 76, 77, 78, 79, 80, 81, 82, 83, 105, 106, 96, 97, 98, 99, 100, 101, 102, 103, 104] (by decide +kernel) (by decide +kernel)
set_option maxRecDepth 20000 in
theorem gX5_free_X1_allows_u126X2 : GoodIn wsX5_free (va_wsU RX5 126 RX2 "ColourForests$Kind" ⟨"ColourForests$Kind", "allows", "(I)Z"⟩ yX1_allows wsX1_allows) := goodIn_app (goodIn_of _ (by decide +kernel)) ggX5_free_X1_allows
set_option maxRecDepth 20000 in
theorem gX5_free_X1_allows_u126X3 : GoodIn wsX5_free (va_wsU RX5 126 RX3 "ColourForests$Kind" ⟨"ColourForests$Kind", "allows", "(I)Z"⟩ yX1_allows wsX1_allows) := goodIn_app (goodIn_of _ (by decide +kernel)) ggX5_free_X1_allows
theorem dX5_free_0 : decode cX5_free 0 = .ok (.aload_n 0, 1) := by decide +kernel
theorem dX5_free_1 : decode cX5_free 1 = .ok (.getfield 10, 3) := by decide +kernel
theorem dX5_free_4 : decode cX5_free 4 = .ok (.iload_n 2, 1) := by decide +kernel
theorem dX5_free_5 : decode cX5_free 5 = .ok (.invokevirtual 110, 3) := by decide +kernel
theorem dX5_free_8 : decode cX5_free 8 = .ok (.ifCond .ne 5, 3) := by decide +kernel
theorem dX5_free_11 : decode cX5_free 11 = .ok (.iconst (-1), 1) := by decide +kernel
theorem dX5_free_12 : decode cX5_free 12 = .ok (.ireturn, 1) := by decide +kernel
theorem dX5_free_13 : decode cX5_free 13 = .ok (.iload_n 1, 1) := by decide +kernel
theorem dX5_free_14 : decode cX5_free 14 = .ok (.iconst 2, 1) := by decide +kernel
theorem dX5_free_15 : decode cX5_free 15 = .ok (.if_icmp .ne 12, 3) := by decide +kernel
theorem dX5_free_18 : decode cX5_free 18 = .ok (.aload_n 0, 1) := by decide +kernel
theorem dX5_free_19 : decode cX5_free 19 = .ok (.iload_n 2, 1) := by decide +kernel
theorem dX5_free_20 : decode cX5_free 20 = .ok (.invokevirtual 119, 3) := by decide +kernel
theorem dX5_free_23 : decode cX5_free 23 = .ok (.invokestatic 122, 3) := by decide +kernel
theorem dX5_free_26 : decode cX5_free 26 = .ok (.ireturn, 1) := by decide +kernel
theorem dX5_free_27 : decode cX5_free 27 = .ok (.aload_n 0, 1) := by decide +kernel
theorem dX5_free_28 : decode cX5_free 28 = .ok (.iload_n 1, 1) := by decide +kernel
theorem dX5_free_29 : decode cX5_free 29 = .ok (.invokevirtual 106, 3) := by decide +kernel
theorem dX5_free_32 : decode cX5_free 32 = .ok (.astore_n 3, 1) := by decide +kernel
theorem dX5_free_33 : decode cX5_free 33 = .ok (.aload_n 3, 1) := by decide +kernel
theorem dX5_free_34 : decode cX5_free 34 = .ok (.ifnonnull 5, 3) := by decide +kernel
theorem dX5_free_37 : decode cX5_free 37 = .ok (.iconst (-1), 1) := by decide +kernel
theorem dX5_free_38 : decode cX5_free 38 = .ok (.ireturn, 1) := by decide +kernel
theorem dX5_free_39 : decode cX5_free 39 = .ok (.aload_n 3, 1) := by decide +kernel
theorem dX5_free_40 : decode cX5_free 40 = .ok (.iload_n 2, 1) := by decide +kernel
theorem dX5_free_41 : decode cX5_free 41 = .ok (.invokevirtual 126, 3) := by decide +kernel
theorem dX5_free_44 : decode cX5_free 44 = .ok (.invokestatic 122, 3) := by decide +kernel
theorem dX5_free_47 : decode cX5_free 47 = .ok (.ireturn, 1) := by decide +kernel
set_option maxRecDepth 20000 in
theorem ggX5_circuit_X5_judgeOf : GoodIn wsX5_circuit wsX5_judgeOf := goodIn_r _ [6, 7, 8, 100, 101, 102, 103] (by decide +kernel) (by decide +kernel)
set_option maxRecDepth 20000 in
theorem gX5_circuit_X5_judgeOf : GoodIn wsX5_circuit (wsV RX5 106 RX5 yX5_judgeOf wsX5_judgeOf) := goodIn_app (goodIn_of _ (by decide +kernel)) ggX5_circuit_X5_judgeOf
set_option maxRecDepth 20000 in
theorem ggX5_circuit_X0_hasEdge : GoodIn wsX5_circuit wsX0_hasEdge := goodIn_r _ [13, 14, 15, 5, 16, 104, 105, 106, 107, 108, 109, 110, 111, 112] (by decide +kernel) (by decide +kernel)
set_option maxRecDepth 20000 in
theorem gX5_circuit_X0_hasEdge : GoodIn wsX5_circuit (wsV RX5 81 RX0 yX0_hasEdge wsX0_hasEdge) := goodIn_app (goodIn_of _ (by decide +kernel)) ggX5_circuit_X0_hasEdge
set_option maxRecDepth 20000 in
theorem ggX5_circuit_X0_hasSet : GoodIn wsX5_circuit wsX0_hasSet := goodIn_r _ [20, 21, 22, 23, 12, 24, 14, 104, 105, 106, 107, 108, 109, 110, 111, 112] (by decide +kernel) (by decide +kernel)
set_option maxRecDepth 20000 in
theorem gX5_circuit_X0_hasSet : GoodIn wsX5_circuit (wsV RX5 110 RX0 yX0_hasSet wsX0_hasSet) := goodIn_app (goodIn_of _ (by decide +kernel)) ggX5_circuit_X0_hasSet
set_option maxRecDepth 20000 in
theorem ggX5_circuit_X1_allows : GoodIn wsX5_circuit wsX1_allows := goodIn_r _ [30, 31, 32, 33, 34, 35, 36, 37, 38, 39, 40, 41, 42, 12, 43, 44, 45, 46, 5, 47, 48, 49, 50, 51, 52, 53, 54, 55, 56, 57, 58, 59, 60, 61, 62, 63, 64, 65, 66, 67, 68, 69, 70, 71, 72, 73, 74, 75, 76, 77, 78, 79, 80, 81, 82, 83, 84, 85, 86, 87, 88, 89, 113, 114, 104, 105, 106, 107, 108, 109, 110, 111, 112] (by decide +kernel) (by decide +kernel)
set_option maxRecDepth 20000 in
theorem gX5_circuit_X1_allows_u126X2 : GoodIn wsX5_circuit (va_wsU RX5 126 RX2 "ColourForests$Kind" ⟨"ColourForests$Kind", "allows", "(I)Z"⟩ yX1_allows wsX1_allows) := goodIn_app (goodIn_of _ (by decide +kernel)) ggX5_circuit_X1_allows
set_option maxRecDepth 20000 in
theorem gX5_circuit_X1_allows_u126X3 : GoodIn wsX5_circuit (va_wsU RX5 126 RX3 "ColourForests$Kind" ⟨"ColourForests$Kind", "allows", "(I)Z"⟩ yX1_allows wsX1_allows) := goodIn_app (goodIn_of _ (by decide +kernel)) ggX5_circuit_X1_allows
set_option maxRecDepth 20000 in
theorem ggX5_circuit_X5_hasBit : GoodIn wsX5_circuit wsX5_hasBit := goodIn_r _ [49] (by decide +kernel) (by decide +kernel)
set_option maxRecDepth 20000 in
theorem gX5_circuit_X5_hasBit : GoodIn wsX5_circuit (va_wsS RX5 129 yX5_hasBit wsX5_hasBit) := goodIn_app (goodIn_of _ (by decide +kernel)) ggX5_circuit_X5_hasBit
set_option maxRecDepth 20000 in
theorem ggX5_circuit_X1_circuitWithin : GoodIn wsX5_circuit wsX1_circuitWithin := goodIn_r _ [96, 97, 98, 31, 32, 33, 34, 35, 36, 37, 38, 39, 40, 41, 42, 12, 43, 44, 45, 46, 5, 47, 48, 49, 50, 51, 52, 53, 54, 55, 56, 57, 58, 59, 60, 61, 62, 63, 64, 65, 66, 67, 68, 69, 70, 71, 72, 73, 74, 75, 76, 77, 78, 79, 80, 81, 82, 113, 114, 104, 105, 106, 107, 108, 109, 110, 111, 112] (by decide +kernel) (by decide +kernel)
set_option maxRecDepth 20000 in
theorem gX5_circuit_X1_circuitWithin_u133X2 : GoodIn wsX5_circuit (va_wsU RX5 133 RX2 "ColourForests$Kind" ⟨"ColourForests$Kind", "circuitWithin", "(I)I"⟩ yX1_circuitWithin wsX1_circuitWithin) := goodIn_app (goodIn_of _ (by decide +kernel)) ggX5_circuit_X1_circuitWithin
set_option maxRecDepth 20000 in
theorem gX5_circuit_X1_circuitWithin_u133X3 : GoodIn wsX5_circuit (va_wsU RX5 133 RX3 "ColourForests$Kind" ⟨"ColourForests$Kind", "circuitWithin", "(I)I"⟩ yX1_circuitWithin wsX1_circuitWithin) := goodIn_app (goodIn_of _ (by decide +kernel)) ggX5_circuit_X1_circuitWithin
theorem dX5_circuit_0 : decode cX5_circuit 0 = .ok (.aload_n 0, 1) := by decide +kernel
theorem dX5_circuit_1 : decode cX5_circuit 1 = .ok (.iload_n 1, 1) := by decide +kernel
theorem dX5_circuit_2 : decode cX5_circuit 2 = .ok (.invokevirtual 106, 3) := by decide +kernel
theorem dX5_circuit_5 : decode cX5_circuit 5 = .ok (.astore 4, 2) := by decide +kernel
theorem dX5_circuit_7 : decode cX5_circuit 7 = .ok (.aload 4, 2) := by decide +kernel
theorem dX5_circuit_9 : decode cX5_circuit 9 = .ok (.ifnull 25, 3) := by decide +kernel
theorem dX5_circuit_12 : decode cX5_circuit 12 = .ok (.aload_n 0, 1) := by decide +kernel
theorem dX5_circuit_13 : decode cX5_circuit 13 = .ok (.getfield 10, 3) := by decide +kernel
theorem dX5_circuit_16 : decode cX5_circuit 16 = .ok (.iload_n 3, 1) := by decide +kernel
theorem dX5_circuit_17 : decode cX5_circuit 17 = .ok (.invokevirtual 81, 3) := by decide +kernel
theorem dX5_circuit_20 : decode cX5_circuit 20 = .ok (.ifCond .eq 14, 3) := by decide +kernel
theorem dX5_circuit_23 : decode cX5_circuit 23 = .ok (.aload_n 0, 1) := by decide +kernel
theorem dX5_circuit_24 : decode cX5_circuit 24 = .ok (.getfield 10, 3) := by decide +kernel
theorem dX5_circuit_27 : decode cX5_circuit 27 = .ok (.iload_n 2, 1) := by decide +kernel
theorem dX5_circuit_28 : decode cX5_circuit 28 = .ok (.invokevirtual 110, 3) := by decide +kernel
theorem dX5_circuit_31 : decode cX5_circuit 31 = .ok (.ifCond .ne 5, 3) := by decide +kernel
theorem dX5_circuit_34 : decode cX5_circuit 34 = .ok (.iconst (-1), 1) := by decide +kernel
theorem dX5_circuit_35 : decode cX5_circuit 35 = .ok (.ireturn, 1) := by decide +kernel
theorem dX5_circuit_36 : decode cX5_circuit 36 = .ok (.aload 4, 2) := by decide +kernel
theorem dX5_circuit_38 : decode cX5_circuit 38 = .ok (.iload_n 2, 1) := by decide +kernel
theorem dX5_circuit_39 : decode cX5_circuit 39 = .ok (.invokevirtual 126, 3) := by decide +kernel
theorem dX5_circuit_42 : decode cX5_circuit 42 = .ok (.ifCond .eq 11, 3) := by decide +kernel
theorem dX5_circuit_45 : decode cX5_circuit 45 = .ok (.iload_n 2, 1) := by decide +kernel
theorem dX5_circuit_46 : decode cX5_circuit 46 = .ok (.iload_n 3, 1) := by decide +kernel
theorem dX5_circuit_47 : decode cX5_circuit 47 = .ok (.invokestatic 129, 3) := by decide +kernel
theorem dX5_circuit_50 : decode cX5_circuit 50 = .ok (.ifCond .eq 5, 3) := by decide +kernel
theorem dX5_circuit_53 : decode cX5_circuit 53 = .ok (.iconst (-1), 1) := by decide +kernel
theorem dX5_circuit_54 : decode cX5_circuit 54 = .ok (.ireturn, 1) := by decide +kernel
theorem dX5_circuit_55 : decode cX5_circuit 55 = .ok (.aload 4, 2) := by decide +kernel
theorem dX5_circuit_57 : decode cX5_circuit 57 = .ok (.iload_n 2, 1) := by decide +kernel
theorem dX5_circuit_58 : decode cX5_circuit 58 = .ok (.iconst 1, 1) := by decide +kernel
theorem dX5_circuit_59 : decode cX5_circuit 59 = .ok (.iload_n 3, 1) := by decide +kernel
theorem dX5_circuit_60 : decode cX5_circuit 60 = .ok (.ishl, 1) := by decide +kernel
theorem dX5_circuit_61 : decode cX5_circuit 61 = .ok (.ior, 1) := by decide +kernel
theorem dX5_circuit_62 : decode cX5_circuit 62 = .ok (.invokevirtual 133, 3) := by decide +kernel
theorem dX5_circuit_65 : decode cX5_circuit 65 = .ok (.ireturn, 1) := by decide +kernel
set_option maxRecDepth 20000 in
theorem ggX5_closure_X5_judgeOf : GoodIn wsX5_closure wsX5_judgeOf := goodIn_r _ [6, 7, 8, 80, 81, 82, 83] (by decide +kernel) (by decide +kernel)
set_option maxRecDepth 20000 in
theorem gX5_closure_X5_judgeOf : GoodIn wsX5_closure (wsV RX5 106 RX5 yX5_judgeOf wsX5_judgeOf) := goodIn_app (goodIn_of _ (by decide +kernel)) ggX5_closure_X5_judgeOf
set_option maxRecDepth 20000 in
theorem ggX5_closure_X0_hasSet : GoodIn wsX5_closure wsX0_hasSet := goodIn_r _ [13, 14, 15, 16, 12, 17, 18, 84, 85, 86, 87, 88, 89, 90, 91, 92] (by decide +kernel) (by decide +kernel)
set_option maxRecDepth 20000 in
theorem gX5_closure_X0_hasSet : GoodIn wsX5_closure (wsV RX5 110 RX0 yX0_hasSet wsX0_hasSet) := goodIn_app (goodIn_of _ (by decide +kernel)) ggX5_closure_X0_hasSet
set_option maxRecDepth 20000 in
theorem ggX5_closure_X1_closureOf : GoodIn wsX5_closure wsX1_closureOf := goodIn_r _ [24, 25, 26, 27, 28, 29, 30, 31, 32, 33, 34, 35, 36, 37, 38, 12, 39, 40, 41, 42, 5, 43, 44, 45, 46, 47, 48, 49, 50, 51, 52, 53, 54, 55, 56, 57, 58, 59, 60, 61, 62, 63, 64, 65, 66, 67, 68, 69, 70, 71, 72, 73, 74, 75, 76, 77, 78, 93, 94, 84, 85, 86, 87, 88, 89, 90, 91, 92] (by decide +kernel) (by decide +kernel)
set_option maxRecDepth 20000 in
theorem gX5_closure_X1_closureOf_u136X2 : GoodIn wsX5_closure (va_wsU RX5 136 RX2 "ColourForests$Kind" ⟨"ColourForests$Kind", "closureOf", "(I)I"⟩ yX1_closureOf wsX1_closureOf) := goodIn_app (goodIn_of _ (by decide +kernel)) ggX5_closure_X1_closureOf
set_option maxRecDepth 20000 in
theorem gX5_closure_X1_closureOf_u136X3 : GoodIn wsX5_closure (va_wsU RX5 136 RX3 "ColourForests$Kind" ⟨"ColourForests$Kind", "closureOf", "(I)I"⟩ yX1_closureOf wsX1_closureOf) := goodIn_app (goodIn_of _ (by decide +kernel)) ggX5_closure_X1_closureOf
theorem dX5_closure_0 : decode cX5_closure 0 = .ok (.aload_n 0, 1) := by decide +kernel
theorem dX5_closure_1 : decode cX5_closure 1 = .ok (.iload_n 1, 1) := by decide +kernel
theorem dX5_closure_2 : decode cX5_closure 2 = .ok (.invokevirtual 106, 3) := by decide +kernel
theorem dX5_closure_5 : decode cX5_closure 5 = .ok (.astore_n 3, 1) := by decide +kernel
theorem dX5_closure_6 : decode cX5_closure 6 = .ok (.aload_n 3, 1) := by decide +kernel
theorem dX5_closure_7 : decode cX5_closure 7 = .ok (.ifnull 14, 3) := by decide +kernel
theorem dX5_closure_10 : decode cX5_closure 10 = .ok (.aload_n 0, 1) := by decide +kernel
theorem dX5_closure_11 : decode cX5_closure 11 = .ok (.getfield 10, 3) := by decide +kernel
theorem dX5_closure_14 : decode cX5_closure 14 = .ok (.iload_n 2, 1) := by decide +kernel
theorem dX5_closure_15 : decode cX5_closure 15 = .ok (.invokevirtual 110, 3) := by decide +kernel
theorem dX5_closure_18 : decode cX5_closure 18 = .ok (.ifCond .ne 5, 3) := by decide +kernel
theorem dX5_closure_21 : decode cX5_closure 21 = .ok (.iconst (-1), 1) := by decide +kernel
theorem dX5_closure_22 : decode cX5_closure 22 = .ok (.ireturn, 1) := by decide +kernel
theorem dX5_closure_23 : decode cX5_closure 23 = .ok (.aload_n 3, 1) := by decide +kernel
theorem dX5_closure_24 : decode cX5_closure 24 = .ok (.iload_n 2, 1) := by decide +kernel
theorem dX5_closure_25 : decode cX5_closure 25 = .ok (.invokevirtual 136, 3) := by decide +kernel
theorem dX5_closure_28 : decode cX5_closure 28 = .ok (.ireturn, 1) := by decide +kernel
set_option maxRecDepth 20000 in
theorem ggX5_most_X4_refresh : GoodIn wsX5_most wsX4_refresh := goodIn_r _ [7, 8, 9, 10, 11, 12, 13, 6, 14, 15, 16, 17, 18, 19, 20, 21, 22, 23, 24, 25, 26, 27, 28, 29, 30, 31, 32, 33, 34, 35, 36, 37, 38, 39, 40, 41, 42, 43, 44, 45, 46, 47, 48, 49, 50, 51, 52, 53, 54, 55, 56, 57, 58, 59, 60, 61, 62, 63, 64, 65, 66, 67, 68, 69, 70, 71, 72, 73, 74, 75, 76, 77, 78, 79, 80, 81, 82, 83, 84, 85, 86, 87, 88, 89, 90, 91, 92, 93, 94, 95, 96, 97, 98, 99, 100, 105, 106, 107, 108, 109, 110, 111, 112, 113, 114, 115, 116, 117, 118, 119, 120, 121, 122, 123, 124] (by decide +kernel) (by decide +kernel)
set_option maxRecDepth 20000 in
theorem gX5_most_X4_refresh : GoodIn wsX5_most (wsV RX5 97 RX4 yX4_refresh wsX4_refresh) := goodIn_app (goodIn_of _ (by decide +kernel)) ggX5_most_X4_refresh
theorem dX5_most_0 : decode cX5_most 0 = .ok (.aload_n 0, 1) := by decide +kernel
theorem dX5_most_1 : decode cX5_most 1 = .ok (.getfield 34, 3) := by decide +kernel
theorem dX5_most_4 : decode cX5_most 4 = .ok (.invokevirtual 97, 3) := by decide +kernel
theorem dX5_most_7 : decode cX5_most 7 = .ok (.aload_n 0, 1) := by decide +kernel
theorem dX5_most_8 : decode cX5_most 8 = .ok (.getfield 34, 3) := by decide +kernel
theorem dX5_most_11 : decode cX5_most 11 = .ok (.getfield 139, 3) := by decide +kernel
theorem dX5_most_14 : decode cX5_most 14 = .ok (.ireturn, 1) := by decide +kernel
set_option maxRecDepth 20000 in
theorem ggX5_dearest_X4_refresh : GoodIn wsX5_dearest wsX4_refresh := goodIn_r _ [7, 8, 9, 10, 11, 12, 13, 6, 14, 15, 16, 17, 18, 19, 20, 21, 22, 23, 24, 25, 26, 27, 28, 29, 30, 31, 32, 33, 34, 35, 36, 37, 38, 39, 40, 41, 42, 43, 44, 45, 46, 47, 48, 49, 50, 51, 52, 53, 54, 55, 56, 57, 58, 59, 60, 61, 62, 63, 64, 65, 66, 67, 68, 69, 70, 71, 72, 73, 74, 75, 76, 77, 78, 79, 80, 81, 82, 83, 84, 85, 86, 87, 88, 89, 90, 91, 92, 93, 94, 95, 96, 97, 98, 99, 100, 111, 112, 113, 114, 115, 116, 117, 118, 119, 120, 121, 122, 123, 124, 125, 126, 127, 128, 129, 130] (by decide +kernel) (by decide +kernel)
set_option maxRecDepth 20000 in
theorem gX5_dearest_X4_refresh : GoodIn wsX5_dearest (wsV RX5 97 RX4 yX4_refresh wsX4_refresh) := goodIn_app (goodIn_of _ (by decide +kernel)) ggX5_dearest_X4_refresh
set_option maxRecDepth 20000 in
theorem ggX5_dearest_X4_hasSize : GoodIn wsX5_dearest wsX4_hasSize := goodIn_r _ [104, 26, 105, 36, 106, 111, 112, 113, 114, 115, 116, 117, 118, 119, 120, 121] (by decide +kernel) (by decide +kernel)
set_option maxRecDepth 20000 in
theorem gX5_dearest_X4_hasSize : GoodIn wsX5_dearest (wsV RX5 142 RX4 yX4_hasSize wsX4_hasSize) := goodIn_app (goodIn_of _ (by decide +kernel)) ggX5_dearest_X4_hasSize
theorem dX5_dearest_0 : decode cX5_dearest 0 = .ok (.aload_n 0, 1) := by decide +kernel
theorem dX5_dearest_1 : decode cX5_dearest 1 = .ok (.getfield 34, 3) := by decide +kernel
theorem dX5_dearest_4 : decode cX5_dearest 4 = .ok (.invokevirtual 97, 3) := by decide +kernel
theorem dX5_dearest_7 : decode cX5_dearest 7 = .ok (.aload_n 0, 1) := by decide +kernel
theorem dX5_dearest_8 : decode cX5_dearest 8 = .ok (.getfield 34, 3) := by decide +kernel
theorem dX5_dearest_11 : decode cX5_dearest 11 = .ok (.iload_n 1, 1) := by decide +kernel
theorem dX5_dearest_12 : decode cX5_dearest 12 = .ok (.invokevirtual 142, 3) := by decide +kernel
theorem dX5_dearest_15 : decode cX5_dearest 15 = .ok (.ifCond .eq 15, 3) := by decide +kernel
theorem dX5_dearest_18 : decode cX5_dearest 18 = .ok (.aload_n 0, 1) := by decide +kernel
theorem dX5_dearest_19 : decode cX5_dearest 19 = .ok (.getfield 34, 3) := by decide +kernel
theorem dX5_dearest_22 : decode cX5_dearest 22 = .ok (.getfield 145, 3) := by decide +kernel
theorem dX5_dearest_25 : decode cX5_dearest 25 = .ok (.iload_n 1, 1) := by decide +kernel
theorem dX5_dearest_26 : decode cX5_dearest 26 = .ok (.iaload, 1) := by decide +kernel
theorem dX5_dearest_27 : decode cX5_dearest 27 = .ok (.goto 4, 3) := by decide +kernel
theorem dX5_dearest_30 : decode cX5_dearest 30 = .ok (.iconst (-1), 1) := by decide +kernel
theorem dX5_dearest_31 : decode cX5_dearest 31 = .ok (.ireturn, 1) := by decide +kernel
set_option maxRecDepth 20000 in
theorem ggX5_weight_X4_refresh : GoodIn wsX5_weight wsX4_refresh := goodIn_r _ [9, 10, 11, 12, 13, 14, 15, 8, 16, 17, 18, 19, 20, 21, 22, 23, 24, 25, 26, 27, 28, 29, 30, 31, 32, 33, 34, 35, 36, 37, 38, 39, 40, 41, 42, 43, 44, 45, 46, 47, 48, 49, 50, 51, 52, 53, 54, 55, 56, 57, 58, 59, 60, 61, 62, 63, 64, 65, 66, 67, 68, 69, 70, 71, 72, 73, 74, 75, 76, 77, 78, 79, 80, 81, 82, 83, 84, 85, 86, 87, 88, 89, 90, 91, 92, 93, 94, 95, 96, 97, 98, 99, 100, 101, 102, 113, 114, 115, 116, 117, 118, 119, 120, 121, 122, 123, 124, 125, 126, 127, 128, 129, 130, 131, 132] (by decide +kernel) (by decide +kernel)
set_option maxRecDepth 20000 in
theorem gX5_weight_X4_refresh : GoodIn wsX5_weight (wsV RX5 97 RX4 yX4_refresh wsX4_refresh) := goodIn_app (goodIn_of _ (by decide +kernel)) ggX5_weight_X4_refresh
set_option maxRecDepth 20000 in
theorem ggX5_weight_X4_hasSize : GoodIn wsX5_weight wsX4_hasSize := goodIn_r _ [106, 28, 107, 38, 108, 113, 114, 115, 116, 117, 118, 119, 120, 121, 122, 123] (by decide +kernel) (by decide +kernel)
set_option maxRecDepth 20000 in
theorem gX5_weight_X4_hasSize : GoodIn wsX5_weight (wsV RX5 142 RX4 yX4_hasSize wsX4_hasSize) := goodIn_app (goodIn_of _ (by decide +kernel)) ggX5_weight_X4_hasSize
theorem dX5_weight_0 : decode cX5_weight 0 = .ok (.aload_n 0, 1) := by decide +kernel
theorem dX5_weight_1 : decode cX5_weight 1 = .ok (.getfield 34, 3) := by decide +kernel
theorem dX5_weight_4 : decode cX5_weight 4 = .ok (.invokevirtual 97, 3) := by decide +kernel
theorem dX5_weight_7 : decode cX5_weight 7 = .ok (.aload_n 0, 1) := by decide +kernel
theorem dX5_weight_8 : decode cX5_weight 8 = .ok (.getfield 34, 3) := by decide +kernel
theorem dX5_weight_11 : decode cX5_weight 11 = .ok (.iload_n 1, 1) := by decide +kernel
theorem dX5_weight_12 : decode cX5_weight 12 = .ok (.invokevirtual 142, 3) := by decide +kernel
theorem dX5_weight_15 : decode cX5_weight 15 = .ok (.ifCond .ne 13, 3) := by decide +kernel
theorem dX5_weight_18 : decode cX5_weight 18 = .ok (.new 42, 3) := by decide +kernel
theorem dX5_weight_21 : decode cX5_weight 21 = .ok (.dup, 1) := by decide +kernel
theorem dX5_weight_22 : decode cX5_weight 22 = .ok (.ldc 149, 2) := by decide +kernel
theorem dX5_weight_24 : decode cX5_weight 24 = .ok (.invokespecial 46, 3) := by decide +kernel
theorem dX5_weight_27 : decode cX5_weight 27 = .ok (.athrow, 1) := by decide +kernel
theorem dX5_weight_28 : decode cX5_weight 28 = .ok (.aload_n 0, 1) := by decide +kernel
theorem dX5_weight_29 : decode cX5_weight 29 = .ok (.getfield 34, 3) := by decide +kernel
theorem dX5_weight_32 : decode cX5_weight 32 = .ok (.getfield 151, 3) := by decide +kernel
theorem dX5_weight_35 : decode cX5_weight 35 = .ok (.iload_n 1, 1) := by decide +kernel
theorem dX5_weight_36 : decode cX5_weight 36 = .ok (.iaload, 1) := by decide +kernel
theorem dX5_weight_37 : decode cX5_weight 37 = .ok (.ireturn, 1) := by decide +kernel
set_option maxRecDepth 20000 in
theorem ggX5_heaviest_X4_refresh : GoodIn wsX5_heaviest wsX4_refresh := goodIn_r _ [8, 9, 10, 11, 12, 13, 14, 7, 15, 16, 17, 18, 19, 20, 21, 22, 23, 24, 25, 26, 27, 28, 29, 30, 31, 32, 33, 34, 35, 36, 37, 38, 39, 40, 41, 42, 43, 44, 45, 46, 47, 48, 49, 50, 51, 52, 53, 54, 55, 56, 57, 58, 59, 60, 61, 62, 63, 64, 65, 66, 67, 68, 69, 70, 71, 72, 73, 74, 75, 76, 77, 78, 79, 80, 81, 82, 83, 84, 85, 86, 87, 88, 89, 90, 91, 92, 93, 94, 95, 96, 97, 98, 99, 100, 101, 106, 107, 108, 109, 110, 111, 112, 113, 114, 115, 116, 117, 118, 119, 120, 121, 122, 123, 124, 125] (by decide +kernel) (by decide +kernel)
set_option maxRecDepth 20000 in
theorem gX5_heaviest_X4_refresh : GoodIn wsX5_heaviest (wsV RX5 97 RX4 yX4_refresh wsX4_refresh) := goodIn_app (goodIn_of _ (by decide +kernel)) ggX5_heaviest_X4_refresh
theorem dX5_heaviest_0 : decode cX5_heaviest 0 = .ok (.aload_n 0, 1) := by decide +kernel
theorem dX5_heaviest_1 : decode cX5_heaviest 1 = .ok (.getfield 34, 3) := by decide +kernel
theorem dX5_heaviest_4 : decode cX5_heaviest 4 = .ok (.invokevirtual 97, 3) := by decide +kernel
theorem dX5_heaviest_7 : decode cX5_heaviest 7 = .ok (.iconst 0, 1) := by decide +kernel
theorem dX5_heaviest_8 : decode cX5_heaviest 8 = .ok (.istore_n 1, 1) := by decide +kernel
theorem dX5_heaviest_9 : decode cX5_heaviest 9 = .ok (.iconst 1, 1) := by decide +kernel
theorem dX5_heaviest_10 : decode cX5_heaviest 10 = .ok (.istore_n 2, 1) := by decide +kernel
theorem dX5_heaviest_11 : decode cX5_heaviest 11 = .ok (.iload_n 2, 1) := by decide +kernel
theorem dX5_heaviest_12 : decode cX5_heaviest 12 = .ok (.aload_n 0, 1) := by decide +kernel
theorem dX5_heaviest_13 : decode cX5_heaviest 13 = .ok (.getfield 34, 3) := by decide +kernel
theorem dX5_heaviest_16 : decode cX5_heaviest 16 = .ok (.getfield 139, 3) := by decide +kernel
theorem dX5_heaviest_19 : decode cX5_heaviest 19 = .ok (.if_icmp .gt 32, 3) := by decide +kernel
theorem dX5_heaviest_22 : decode cX5_heaviest 22 = .ok (.aload_n 0, 1) := by decide +kernel
theorem dX5_heaviest_23 : decode cX5_heaviest 23 = .ok (.getfield 34, 3) := by decide +kernel
theorem dX5_heaviest_26 : decode cX5_heaviest 26 = .ok (.getfield 151, 3) := by decide +kernel
theorem dX5_heaviest_29 : decode cX5_heaviest 29 = .ok (.iload_n 2, 1) := by decide +kernel
theorem dX5_heaviest_30 : decode cX5_heaviest 30 = .ok (.iaload, 1) := by decide +kernel
theorem dX5_heaviest_31 : decode cX5_heaviest 31 = .ok (.aload_n 0, 1) := by decide +kernel
theorem dX5_heaviest_32 : decode cX5_heaviest 32 = .ok (.getfield 34, 3) := by decide +kernel
theorem dX5_heaviest_35 : decode cX5_heaviest 35 = .ok (.getfield 151, 3) := by decide +kernel
theorem dX5_heaviest_38 : decode cX5_heaviest 38 = .ok (.iload_n 1, 1) := by decide +kernel
theorem dX5_heaviest_39 : decode cX5_heaviest 39 = .ok (.iaload, 1) := by decide +kernel
theorem dX5_heaviest_40 : decode cX5_heaviest 40 = .ok (.if_icmp .le 5, 3) := by decide +kernel
theorem dX5_heaviest_43 : decode cX5_heaviest 43 = .ok (.iload_n 2, 1) := by decide +kernel
theorem dX5_heaviest_44 : decode cX5_heaviest 44 = .ok (.istore_n 1, 1) := by decide +kernel
theorem dX5_heaviest_45 : decode cX5_heaviest 45 = .ok (.iinc 2 1, 3) := by decide +kernel
theorem dX5_heaviest_48 : decode cX5_heaviest 48 = .ok (.goto (-37), 3) := by decide +kernel
theorem dX5_heaviest_51 : decode cX5_heaviest 51 = .ok (.iload_n 1, 1) := by decide +kernel
theorem dX5_heaviest_52 : decode cX5_heaviest 52 = .ok (.ireturn, 1) := by decide +kernel
set_option maxRecDepth 20000 in
theorem ggX5_witness_X4_refresh : GoodIn wsX5_witness wsX4_refresh := goodIn_r _ [6, 7, 8, 9, 10, 11, 12, 5, 13, 14, 15, 16, 17, 18, 19, 20, 21, 22, 23, 24, 25, 26, 27, 28, 29, 30, 31, 32, 33, 34, 35, 36, 37, 38, 39, 40, 41, 42, 43, 44, 45, 46, 47, 48, 49, 50, 51, 52, 53, 54, 55, 56, 57, 58, 59, 60, 61, 62, 63, 64, 65, 66, 67, 68, 69, 70, 71, 72, 73, 74, 75, 76, 77, 78, 79, 80, 81, 82, 83, 84, 85, 86, 87, 88, 89, 90, 91, 92, 93, 94, 95, 96, 97, 98, 99, 169, 170, 171, 172, 173, 174, 175, 176, 177, 178, 179, 180, 181, 182, 183, 184, 185, 186, 187, 188] (by decide +kernel) (by decide +kernel)
set_option maxRecDepth 20000 in
theorem gX5_witness_X4_refresh : GoodIn wsX5_witness (wsV RX5 97 RX4 yX4_refresh wsX4_refresh) := goodIn_app (goodIn_of _ (by decide +kernel)) ggX5_witness_X4_refresh
set_option maxRecDepth 20000 in
theorem ggX5_witness_X5_leastWitness : GoodIn wsX5_witness wsX5_leastWitness := goodIn_r _ [103, 104, 105, 106, 107, 108, 35, 109, 1, 110, 111, 112, 113, 114, 115, 116, 31, 117, 118, 119, 120, 121, 122, 123, 124, 125, 126, 127, 128, 129, 130, 131, 132, 133, 134, 135, 136, 38, 39, 40, 41, 42, 34, 36, 137, 138, 139, 70, 71, 72, 73, 63, 64, 140, 75, 76, 77, 141, 142, 143, 144, 145, 146, 147, 148, 29, 30, 32, 33, 149, 58, 59, 60, 61, 62, 150, 66, 67, 68, 151, 152, 153, 45, 154, 155, 156, 157, 158, 159, 160, 165, 166, 167, 168, 169, 170, 171, 172, 173, 174, 175, 176, 177, 178, 179, 180, 181, 182, 183, 184, 185, 186, 187, 188, 189, 190] (by decide +kernel) (by decide +kernel)
set_option maxRecDepth 20000 in
theorem gX5_witness_X5_leastWitness : GoodIn wsX5_witness (wsV RX5 154 RX5 yX5_leastWitness wsX5_leastWitness) := goodIn_app (goodIn_of _ (by decide +kernel)) ggX5_witness_X5_leastWitness
set_option maxRecDepth 20000 in
theorem ggX5_witness_X5_greatestWitness : GoodIn wsX5_witness wsX5_greatestWitness := goodIn_r _ [164, 112, 105, 104, 114, 115, 116, 31, 117, 118, 106, 107, 108, 35, 109, 1, 110, 111, 113, 119, 120, 121, 122, 123, 124, 125, 126, 127, 128, 129, 130, 131, 132, 133, 134, 135, 136, 38, 39, 40, 41, 42, 34, 36, 137, 138, 139, 70, 71, 72, 73, 63, 64, 140, 75, 76, 77, 141, 142, 143, 144, 145, 146, 147, 148, 29, 30, 32, 33, 149, 58, 59, 60, 61, 62, 150, 66, 67, 68, 151, 152, 153, 45, 154, 155, 156, 157, 158, 159, 160, 165, 166, 167, 168, 180, 181, 182, 183, 184, 185, 186, 187, 188, 169, 170, 171, 172, 173, 174, 175, 176, 177, 178, 179, 189, 190] (by decide +kernel) (by decide +kernel)
set_option maxRecDepth 20000 in
theorem gX5_witness_X5_greatestWitness : GoodIn wsX5_witness (wsV RX5 158 RX5 yX5_greatestWitness wsX5_greatestWitness) := goodIn_app (goodIn_of _ (by decide +kernel)) ggX5_witness_X5_greatestWitness
theorem dX5_witness_0 : decode cX5_witness 0 = .ok (.aload_n 0, 1) := by decide +kernel
theorem dX5_witness_1 : decode cX5_witness 1 = .ok (.getfield 34, 3) := by decide +kernel
theorem dX5_witness_4 : decode cX5_witness 4 = .ok (.invokevirtual 97, 3) := by decide +kernel
theorem dX5_witness_7 : decode cX5_witness 7 = .ok (.iload_n 1, 1) := by decide +kernel
theorem dX5_witness_8 : decode cX5_witness 8 = .ok (.lookupswitch 38 #[(0, 28), (1, 33)], 28) := by decide +kernel
theorem dX5_witness_36 : decode cX5_witness 36 = .ok (.aload_n 0, 1) := by decide +kernel
theorem dX5_witness_37 : decode cX5_witness 37 = .ok (.invokevirtual 154, 3) := by decide +kernel
theorem dX5_witness_40 : decode cX5_witness 40 = .ok (.ireturn, 1) := by decide +kernel
theorem dX5_witness_41 : decode cX5_witness 41 = .ok (.aload_n 0, 1) := by decide +kernel
theorem dX5_witness_42 : decode cX5_witness 42 = .ok (.invokevirtual 158, 3) := by decide +kernel
theorem dX5_witness_45 : decode cX5_witness 45 = .ok (.ireturn, 1) := by decide +kernel
theorem dX5_witness_46 : decode cX5_witness 46 = .ok (.iconst (-1), 1) := by decide +kernel
theorem dX5_witness_47 : decode cX5_witness 47 = .ok (.ireturn, 1) := by decide +kernel
set_option maxRecDepth 20000 in
theorem ggX5_check_X4_refresh : GoodIn wsX5_check wsX4_refresh := goodIn_r _ [6, 7, 8, 9, 10, 11, 12, 5, 13, 14, 15, 16, 17, 18, 19, 20, 21, 22, 23, 24, 25, 26, 27, 28, 29, 30, 31, 32, 33, 34, 35, 36, 37, 38, 39, 40, 41, 42, 43, 44, 45, 46, 47, 48, 49, 50, 51, 52, 53, 54, 55, 56, 57, 58, 59, 60, 61, 62, 63, 64, 65, 66, 67, 68, 69, 70, 71, 72, 73, 74, 75, 76, 77, 78, 79, 80, 81, 82, 83, 84, 85, 86, 87, 88, 89, 90, 91, 92, 93, 94, 95, 96, 97, 98, 99, 198, 199, 200, 201, 202, 203, 204, 205, 206, 207, 208, 209, 210, 211, 212, 213, 214, 215, 216, 217] (by decide +kernel) (by decide +kernel)
set_option maxRecDepth 20000 in
theorem gX5_check_X4_refresh : GoodIn wsX5_check (wsV RX5 97 RX4 yX4_refresh wsX4_refresh) := goodIn_app (goodIn_of _ (by decide +kernel)) ggX5_check_X4_refresh
set_option maxRecDepth 20000 in
theorem ggX5_check_X5_dearestAreSuch : GoodIn wsX5_check wsX5_dearestAreSuch := goodIn_r _ [103, 1, 104, 105, 106, 107, 108, 35, 109, 110, 111, 112, 113, 114, 115, 116, 117, 118, 119, 120, 121, 122, 123, 124, 125, 126, 127, 38, 39, 31, 40, 41, 42, 34, 36, 128, 129, 130, 70, 71, 72, 73, 63, 64, 131, 75, 76, 77, 132, 133, 134, 135, 136, 137, 138, 139, 29, 30, 32, 33, 140, 58, 59, 60, 61, 62, 141, 66, 67, 68, 142, 83, 45, 84, 85, 86, 87, 143, 144, 194, 195, 196, 197, 198, 199, 200, 201, 202, 203, 204, 205, 206, 207, 208, 218, 219, 209, 210, 211, 212, 213, 214, 215, 216, 217] (by decide +kernel) (by decide +kernel)
set_option maxRecDepth 20000 in
theorem gX5_check_X5_dearestAreSuch : GoodIn wsX5_check (wsV RX5 161 RX5 yX5_dearestAreSuch wsX5_dearestAreSuch) := goodIn_app (goodIn_of _ (by decide +kernel)) ggX5_check_X5_dearestAreSuch
set_option maxRecDepth 20000 in
theorem ggX5_check_X5_gainsNeverRise : GoodIn wsX5_check wsX5_gainsNeverRise := goodIn_r _ [148, 1, 104, 149, 194, 195, 196, 197, 198, 199, 200, 201, 202, 203, 204, 205, 206, 207, 208] (by decide +kernel) (by decide +kernel)
set_option maxRecDepth 20000 in
theorem gX5_check_X5_gainsNeverRise : GoodIn wsX5_check (wsV RX5 165 RX5 yX5_gainsNeverRise wsX5_gainsNeverRise) := goodIn_app (goodIn_of _ (by decide +kernel)) ggX5_check_X5_gainsNeverRise
set_option maxRecDepth 20000 in
theorem ggX5_check_X5_leastWitness : GoodIn wsX5_check wsX5_leastWitness := goodIn_r _ [153, 110, 111, 154, 155, 156, 35, 157, 1, 105, 104, 158, 159, 160, 161, 162, 31, 163, 164, 165, 166, 167, 168, 116, 169, 170, 171, 118, 119, 120, 121, 122, 123, 124, 125, 126, 127, 38, 39, 40, 41, 42, 34, 36, 128, 129, 130, 70, 71, 72, 73, 63, 64, 131, 75, 76, 77, 132, 133, 134, 135, 136, 137, 138, 139, 29, 30, 32, 33, 140, 58, 59, 60, 61, 62, 141, 66, 67, 68, 172, 173, 174, 45, 175, 176, 177, 178, 179, 180, 181, 194, 195, 196, 197, 198, 199, 200, 201, 202, 203, 204, 205, 206, 207, 208, 209, 210, 211, 212, 213, 214, 215, 216, 217, 218, 219] (by decide +kernel) (by decide +kernel)
set_option maxRecDepth 20000 in
theorem gX5_check_X5_leastWitness : GoodIn wsX5_check (wsV RX5 154 RX5 yX5_leastWitness wsX5_leastWitness) := goodIn_app (goodIn_of _ (by decide +kernel)) ggX5_check_X5_leastWitness
set_option maxRecDepth 20000 in
theorem ggX5_check_X5_isWitness : GoodIn wsX5_check wsX5_isWitness := goodIn_r _ [185, 158, 110, 111, 1, 104, 160, 161, 162, 31, 163, 164, 186, 119, 120, 121, 122, 123, 124, 125, 126, 127, 38, 39, 40, 41, 42, 34, 35, 36, 128, 129, 130, 70, 71, 72, 73, 63, 64, 131, 75, 76, 77, 132, 133, 134, 135, 136, 137, 138, 139, 29, 30, 32, 33, 140, 58, 59, 60, 61, 62, 141, 66, 67, 68, 194, 195, 196, 197, 198, 199, 200, 201, 202, 203, 204, 205, 206, 207, 208, 209, 210, 211, 212, 213, 214, 215, 216, 217, 218, 219] (by decide +kernel) (by decide +kernel)
set_option maxRecDepth 20000 in
theorem gX5_check_X5_isWitness : GoodIn wsX5_check (wsV RX5 168 RX5 yX5_isWitness wsX5_isWitness) := goodIn_app (goodIn_of _ (by decide +kernel)) ggX5_check_X5_isWitness
set_option maxRecDepth 20000 in
theorem ggX5_check_X5_greatestWitness : GoodIn wsX5_check wsX5_greatestWitness := goodIn_r _ [190, 158, 111, 110, 160, 161, 162, 31, 163, 164, 154, 155, 156, 35, 157, 1, 105, 104, 159, 165, 166, 167, 168, 116, 169, 170, 171, 118, 119, 120, 121, 122, 123, 124, 125, 126, 127, 38, 39, 40, 41, 42, 34, 36, 128, 129, 130, 70, 71, 72, 73, 63, 64, 131, 75, 76, 77, 132, 133, 134, 135, 136, 137, 138, 139, 29, 30, 32, 33, 140, 58, 59, 60, 61, 62, 141, 66, 67, 68, 172, 173, 174, 45, 175, 176, 177, 178, 179, 180, 181, 194, 195, 196, 197, 209, 210, 211, 212, 213, 214, 215, 216, 217, 198, 199, 200, 201, 202, 203, 204, 205, 206, 207, 208, 218, 219] (by decide +kernel) (by decide +kernel)
set_option maxRecDepth 20000 in
theorem gX5_check_X5_greatestWitness : GoodIn wsX5_check (wsV RX5 158 RX5 yX5_greatestWitness wsX5_greatestWitness) := goodIn_app (goodIn_of _ (by decide +kernel)) ggX5_check_X5_greatestWitness
set_option maxRecDepth 20000 in
theorem ggX5_check_X5_told : GoodIn wsX5_check wsX5_told := goodIn_r _ [193] (by decide +kernel) (by decide +kernel)
set_option maxRecDepth 20000 in
theorem gX5_check_X5_told : GoodIn wsX5_check (va_wsS RX5 122 yX5_told wsX5_told) := goodIn_app (goodIn_of _ (by decide +kernel)) ggX5_check_X5_told
theorem dX5_check_0 : decode cX5_check 0 = .ok (.aload_n 0, 1) := by decide +kernel
theorem dX5_check_1 : decode cX5_check 1 = .ok (.getfield 34, 3) := by decide +kernel
theorem dX5_check_4 : decode cX5_check 4 = .ok (.invokevirtual 97, 3) := by decide +kernel
theorem dX5_check_7 : decode cX5_check 7 = .ok (.aload_n 0, 1) := by decide +kernel
theorem dX5_check_8 : decode cX5_check 8 = .ok (.invokevirtual 161, 3) := by decide +kernel
theorem dX5_check_11 : decode cX5_check 11 = .ok (.ifCond .eq 36, 3) := by decide +kernel
theorem dX5_check_14 : decode cX5_check 14 = .ok (.aload_n 0, 1) := by decide +kernel
theorem dX5_check_15 : decode cX5_check 15 = .ok (.invokevirtual 165, 3) := by decide +kernel
theorem dX5_check_18 : decode cX5_check 18 = .ok (.ifCond .eq 29, 3) := by decide +kernel
theorem dX5_check_21 : decode cX5_check 21 = .ok (.aload_n 0, 1) := by decide +kernel
theorem dX5_check_22 : decode cX5_check 22 = .ok (.aload_n 0, 1) := by decide +kernel
theorem dX5_check_23 : decode cX5_check 23 = .ok (.invokevirtual 154, 3) := by decide +kernel
theorem dX5_check_26 : decode cX5_check 26 = .ok (.invokevirtual 168, 3) := by decide +kernel
theorem dX5_check_29 : decode cX5_check 29 = .ok (.ifCond .eq 18, 3) := by decide +kernel
theorem dX5_check_32 : decode cX5_check 32 = .ok (.aload_n 0, 1) := by decide +kernel
theorem dX5_check_33 : decode cX5_check 33 = .ok (.aload_n 0, 1) := by decide +kernel
theorem dX5_check_34 : decode cX5_check 34 = .ok (.invokevirtual 158, 3) := by decide +kernel
theorem dX5_check_37 : decode cX5_check 37 = .ok (.invokevirtual 168, 3) := by decide +kernel
theorem dX5_check_40 : decode cX5_check 40 = .ok (.ifCond .eq 7, 3) := by decide +kernel
theorem dX5_check_43 : decode cX5_check 43 = .ok (.iconst 1, 1) := by decide +kernel
theorem dX5_check_44 : decode cX5_check 44 = .ok (.goto 4, 3) := by decide +kernel
theorem dX5_check_47 : decode cX5_check 47 = .ok (.iconst 0, 1) := by decide +kernel
theorem dX5_check_48 : decode cX5_check 48 = .ok (.istore_n 1, 1) := by decide +kernel
theorem dX5_check_49 : decode cX5_check 49 = .ok (.iload_n 1, 1) := by decide +kernel
theorem dX5_check_50 : decode cX5_check 50 = .ok (.invokestatic 122, 3) := by decide +kernel
theorem dX5_check_53 : decode cX5_check 53 = .ok (.ireturn, 1) := by decide +kernel
theorem dX5_told_0 : decode cX5_told 0 = .ok (.iload_n 0, 1) := by decide +kernel
theorem dX5_told_1 : decode cX5_told 1 = .ok (.ifCond .eq 7, 3) := by decide +kernel
theorem dX5_told_4 : decode cX5_told 4 = .ok (.iconst 1, 1) := by decide +kernel
theorem dX5_told_5 : decode cX5_told 5 = .ok (.goto 4, 3) := by decide +kernel
theorem dX5_told_8 : decode cX5_told 8 = .ok (.iconst 0, 1) := by decide +kernel
theorem dX5_told_9 : decode cX5_told 9 = .ok (.ireturn, 1) := by decide +kernel
theorem dX5_within_0 : decode cX5_within 0 = .ok (.iload_n 1, 1) := by decide +kernel
theorem dX5_within_1 : decode cX5_within 1 = .ok (.iload_n 0, 1) := by decide +kernel
theorem dX5_within_2 : decode cX5_within 2 = .ok (.if_icmp .gt 12, 3) := by decide +kernel
theorem dX5_within_5 : decode cX5_within 5 = .ok (.iload_n 0, 1) := by decide +kernel
theorem dX5_within_6 : decode cX5_within 6 = .ok (.iload_n 2, 1) := by decide +kernel
theorem dX5_within_7 : decode cX5_within 7 = .ok (.if_icmp .gt 7, 3) := by decide +kernel
theorem dX5_within_10 : decode cX5_within 10 = .ok (.iconst 1, 1) := by decide +kernel
theorem dX5_within_11 : decode cX5_within 11 = .ok (.goto 4, 3) := by decide +kernel
theorem dX5_within_14 : decode cX5_within 14 = .ok (.iconst 0, 1) := by decide +kernel
theorem dX5_within_15 : decode cX5_within 15 = .ok (.ireturn, 1) := by decide +kernel
set_option maxRecDepth 20000 in
theorem ggX5_isWeight_X5_within : GoodIn wsX5_isWeight wsX5_within := goodIn_r _ [4] (by decide +kernel) (by decide +kernel)
set_option maxRecDepth 20000 in
theorem gX5_isWeight_X5_within : GoodIn wsX5_isWeight (va_wsS RX5 38 yX5_within wsX5_within) := goodIn_app (goodIn_of _ (by decide +kernel)) ggX5_isWeight_X5_within
theorem dX5_isWeight_0 : decode cX5_isWeight 0 = .ok (.iload_n 0, 1) := by decide +kernel
theorem dX5_isWeight_1 : decode cX5_isWeight 1 = .ok (.sipush (-9999), 3) := by decide +kernel
theorem dX5_isWeight_4 : decode cX5_isWeight 4 = .ok (.sipush 9999, 3) := by decide +kernel
theorem dX5_isWeight_7 : decode cX5_isWeight 7 = .ok (.invokestatic 38, 3) := by decide +kernel
theorem dX5_isWeight_10 : decode cX5_isWeight 10 = .ok (.ireturn, 1) := by decide +kernel
theorem dX5_hasBit_0 : decode cX5_hasBit 0 = .ok (.iload_n 0, 1) := by decide +kernel
theorem dX5_hasBit_1 : decode cX5_hasBit 1 = .ok (.iload_n 1, 1) := by decide +kernel
theorem dX5_hasBit_2 : decode cX5_hasBit 2 = .ok (.iushr, 1) := by decide +kernel
theorem dX5_hasBit_3 : decode cX5_hasBit 3 = .ok (.iconst 1, 1) := by decide +kernel
theorem dX5_hasBit_4 : decode cX5_hasBit 4 = .ok (.iand, 1) := by decide +kernel
theorem dX5_hasBit_5 : decode cX5_hasBit 5 = .ok (.iconst 1, 1) := by decide +kernel
theorem dX5_hasBit_6 : decode cX5_hasBit 6 = .ok (.if_icmp .ne 7, 3) := by decide +kernel
theorem dX5_hasBit_9 : decode cX5_hasBit 9 = .ok (.iconst 1, 1) := by decide +kernel
theorem dX5_hasBit_10 : decode cX5_hasBit 10 = .ok (.goto 4, 3) := by decide +kernel
theorem dX5_hasBit_13 : decode cX5_hasBit 13 = .ok (.iconst 0, 1) := by decide +kernel
theorem dX5_hasBit_14 : decode cX5_hasBit 14 = .ok (.ireturn, 1) := by decide +kernel
theorem dX5_cell_0 : decode cX5_cell 0 = .ok (.iload_n 0, 1) := by decide +kernel
theorem dX5_cell_1 : decode cX5_cell 1 = .ok (.iconst 4, 1) := by decide +kernel
theorem dX5_cell_2 : decode cX5_cell 2 = .ok (.iload_n 1, 1) := by decide +kernel
theorem dX5_cell_3 : decode cX5_cell 3 = .ok (.imul, 1) := by decide +kernel
theorem dX5_cell_4 : decode cX5_cell 4 = .ok (.iushr, 1) := by decide +kernel
theorem dX5_cell_5 : decode cX5_cell 5 = .ok (.bipush 15, 2) := by decide +kernel
theorem dX5_cell_7 : decode cX5_cell 7 = .ok (.iand, 1) := by decide +kernel
theorem dX5_cell_8 : decode cX5_cell 8 = .ok (.ireturn, 1) := by decide +kernel
theorem dX5_withCell_0 : decode cX5_withCell 0 = .ok (.iconst 4, 1) := by decide +kernel
theorem dX5_withCell_1 : decode cX5_withCell 1 = .ok (.iload_n 1, 1) := by decide +kernel
theorem dX5_withCell_2 : decode cX5_withCell 2 = .ok (.imul, 1) := by decide +kernel
theorem dX5_withCell_3 : decode cX5_withCell 3 = .ok (.istore_n 3, 1) := by decide +kernel
theorem dX5_withCell_4 : decode cX5_withCell 4 = .ok (.iload_n 0, 1) := by decide +kernel
theorem dX5_withCell_5 : decode cX5_withCell 5 = .ok (.bipush 15, 2) := by decide +kernel
theorem dX5_withCell_7 : decode cX5_withCell 7 = .ok (.iload_n 3, 1) := by decide +kernel
theorem dX5_withCell_8 : decode cX5_withCell 8 = .ok (.ishl, 1) := by decide +kernel
theorem dX5_withCell_9 : decode cX5_withCell 9 = .ok (.iconst (-1), 1) := by decide +kernel
theorem dX5_withCell_10 : decode cX5_withCell 10 = .ok (.ixor, 1) := by decide +kernel
theorem dX5_withCell_11 : decode cX5_withCell 11 = .ok (.iand, 1) := by decide +kernel
theorem dX5_withCell_12 : decode cX5_withCell 12 = .ok (.iload_n 2, 1) := by decide +kernel
theorem dX5_withCell_13 : decode cX5_withCell 13 = .ok (.iload_n 3, 1) := by decide +kernel
theorem dX5_withCell_14 : decode cX5_withCell 14 = .ok (.ishl, 1) := by decide +kernel
theorem dX5_withCell_15 : decode cX5_withCell 15 = .ok (.ior, 1) := by decide +kernel
theorem dX5_withCell_16 : decode cX5_withCell 16 = .ok (.ireturn, 1) := by decide +kernel
theorem dX5_judgeOf_0 : decode cX5_judgeOf 0 = .ok (.iload_n 1, 1) := by decide +kernel
theorem dX5_judgeOf_1 : decode cX5_judgeOf 1 = .ok (.lookupswitch 37 #[(0, 27), (1, 32)], 27) := by decide +kernel
theorem dX5_judgeOf_28 : decode cX5_judgeOf 28 = .ok (.aload_n 0, 1) := by decide +kernel
theorem dX5_judgeOf_29 : decode cX5_judgeOf 29 = .ok (.getfield 21, 3) := by decide +kernel
theorem dX5_judgeOf_32 : decode cX5_judgeOf 32 = .ok (.areturn, 1) := by decide +kernel
theorem dX5_judgeOf_33 : decode cX5_judgeOf 33 = .ok (.aload_n 0, 1) := by decide +kernel
theorem dX5_judgeOf_34 : decode cX5_judgeOf 34 = .ok (.getfield 28, 3) := by decide +kernel
theorem dX5_judgeOf_37 : decode cX5_judgeOf 37 = .ok (.areturn, 1) := by decide +kernel
theorem dX5_judgeOf_38 : decode cX5_judgeOf 38 = .ok (.aconst_null, 1) := by decide +kernel
theorem dX5_judgeOf_39 : decode cX5_judgeOf 39 = .ok (.areturn, 1) := by decide +kernel
set_option maxRecDepth 20000 in
theorem ggX5_isCommon_X1_allows : GoodIn wsX5_isCommon wsX1_allows := goodIn_r _ [8, 9, 10, 11, 12, 13, 14, 15, 16, 17, 18, 19, 20, 21, 22, 23, 24, 25, 26, 27, 28, 29, 30, 31, 32, 33, 34, 35, 36, 37, 38, 39, 40, 41, 42, 43, 44, 45, 46, 47, 48, 49, 50, 51, 52, 53, 54, 55, 56, 57, 58, 59, 60, 61, 62, 63, 64, 65, 66, 67, 68, 69, 75, 76, 77, 78, 79, 80, 81, 82, 83, 84, 85] (by decide +kernel) (by decide +kernel)
set_option maxRecDepth 20000 in
theorem gX5_isCommon_X1_allows_u126X2 : GoodIn wsX5_isCommon (va_wsU RX5 126 RX2 "ColourForests$Kind" ⟨"ColourForests$Kind", "allows", "(I)Z"⟩ yX1_allows wsX1_allows) := goodIn_app (goodIn_of _ (by decide +kernel)) ggX5_isCommon_X1_allows
set_option maxRecDepth 20000 in
theorem gX5_isCommon_X1_allows_u126X3 : GoodIn wsX5_isCommon (va_wsU RX5 126 RX3 "ColourForests$Kind" ⟨"ColourForests$Kind", "allows", "(I)Z"⟩ yX1_allows wsX1_allows) := goodIn_app (goodIn_of _ (by decide +kernel)) ggX5_isCommon_X1_allows
theorem dX5_isCommon_0 : decode cX5_isCommon 0 = .ok (.aload_n 0, 1) := by decide +kernel
theorem dX5_isCommon_1 : decode cX5_isCommon 1 = .ok (.getfield 21, 3) := by decide +kernel
theorem dX5_isCommon_4 : decode cX5_isCommon 4 = .ok (.iload_n 1, 1) := by decide +kernel
theorem dX5_isCommon_5 : decode cX5_isCommon 5 = .ok (.invokevirtual 126, 3) := by decide +kernel
theorem dX5_isCommon_8 : decode cX5_isCommon 8 = .ok (.ifCond .eq 18, 3) := by decide +kernel
theorem dX5_isCommon_11 : decode cX5_isCommon 11 = .ok (.aload_n 0, 1) := by decide +kernel
theorem dX5_isCommon_12 : decode cX5_isCommon 12 = .ok (.getfield 28, 3) := by decide +kernel
theorem dX5_isCommon_15 : decode cX5_isCommon 15 = .ok (.iload_n 1, 1) := by decide +kernel
theorem dX5_isCommon_16 : decode cX5_isCommon 16 = .ok (.invokevirtual 126, 3) := by decide +kernel
theorem dX5_isCommon_19 : decode cX5_isCommon 19 = .ok (.ifCond .eq 7, 3) := by decide +kernel
theorem dX5_isCommon_22 : decode cX5_isCommon 22 = .ok (.iconst 1, 1) := by decide +kernel
theorem dX5_isCommon_23 : decode cX5_isCommon 23 = .ok (.goto 4, 3) := by decide +kernel
theorem dX5_isCommon_26 : decode cX5_isCommon 26 = .ok (.iconst 0, 1) := by decide +kernel
theorem dX5_isCommon_27 : decode cX5_isCommon 27 = .ok (.ireturn, 1) := by decide +kernel
set_option maxRecDepth 20000 in
theorem ggX5_isWitness_X0_allEdges : GoodIn wsX5_isWitness wsX0_allEdges := goodIn_r _ [10, 11, 80, 81, 82, 83, 84, 85, 86, 87, 88] (by decide +kernel) (by decide +kernel)
set_option maxRecDepth 20000 in
theorem gX5_isWitness_X0_allEdges : GoodIn wsX5_isWitness (wsV RX5 171 RX0 yX0_allEdges wsX0_allEdges) := goodIn_app (goodIn_of _ (by decide +kernel)) ggX5_isWitness_X0_allEdges
set_option maxRecDepth 20000 in
theorem ggX5_isWitness_X2_rankOf : GoodIn wsX5_isWitness wsX2_rankOf := goodIn_r _ [17, 18, 19, 20, 21, 22, 23, 9, 24, 25, 26, 27, 28, 29, 30, 31, 32, 33, 34, 35, 36, 37, 38, 39, 40, 41, 42, 89, 90, 80, 81, 82, 83, 84, 85, 86, 87, 88] (by decide +kernel) (by decide +kernel)
set_option maxRecDepth 20000 in
theorem gX5_isWitness_X2_rankOf_u113X2 : GoodIn wsX5_isWitness (va_wsU RX5 113 RX2 "ColourForests$Kind" ⟨"ColourForests$Kind", "rankOf", "(I)I"⟩ yX2_rankOf wsX2_rankOf) := goodIn_app (goodIn_of _ (by decide +kernel)) ggX5_isWitness_X2_rankOf
set_option maxRecDepth 20000 in
theorem ggX5_isWitness_X3_rankOf : GoodIn wsX5_isWitness wsX3_rankOf := goodIn_r _ [46, 47, 48, 49, 50, 51, 52, 9, 53, 54, 27, 28, 29, 30, 31, 55, 56, 57, 58, 59, 60, 37, 38, 61, 62, 63, 64, 89, 90, 80, 81, 82, 83, 84, 85, 86, 87, 88] (by decide +kernel) (by decide +kernel)
set_option maxRecDepth 20000 in
theorem gX5_isWitness_X3_rankOf_u113X3 : GoodIn wsX5_isWitness (va_wsU RX5 113 RX3 "ColourForests$Kind" ⟨"ColourForests$Kind", "rankOf", "(I)I"⟩ yX3_rankOf wsX3_rankOf) := goodIn_app (goodIn_of _ (by decide +kernel)) ggX5_isWitness_X3_rankOf
theorem dX5_isWitness_0 : decode cX5_isWitness 0 = .ok (.aload_n 0, 1) := by decide +kernel
theorem dX5_isWitness_1 : decode cX5_isWitness 1 = .ok (.getfield 10, 3) := by decide +kernel
theorem dX5_isWitness_4 : decode cX5_isWitness 4 = .ok (.invokevirtual 171, 3) := by decide +kernel
theorem dX5_isWitness_7 : decode cX5_isWitness 7 = .ok (.iload_n 1, 1) := by decide +kernel
theorem dX5_isWitness_8 : decode cX5_isWitness 8 = .ok (.iconst (-1), 1) := by decide +kernel
theorem dX5_isWitness_9 : decode cX5_isWitness 9 = .ok (.ixor, 1) := by decide +kernel
theorem dX5_isWitness_10 : decode cX5_isWitness 10 = .ok (.iand, 1) := by decide +kernel
theorem dX5_isWitness_11 : decode cX5_isWitness 11 = .ok (.istore_n 2, 1) := by decide +kernel
theorem dX5_isWitness_12 : decode cX5_isWitness 12 = .ok (.aload_n 0, 1) := by decide +kernel
theorem dX5_isWitness_13 : decode cX5_isWitness 13 = .ok (.getfield 21, 3) := by decide +kernel
theorem dX5_isWitness_16 : decode cX5_isWitness 16 = .ok (.iload_n 1, 1) := by decide +kernel
theorem dX5_isWitness_17 : decode cX5_isWitness 17 = .ok (.invokevirtual 113, 3) := by decide +kernel
theorem dX5_isWitness_20 : decode cX5_isWitness 20 = .ok (.aload_n 0, 1) := by decide +kernel
theorem dX5_isWitness_21 : decode cX5_isWitness 21 = .ok (.getfield 28, 3) := by decide +kernel
theorem dX5_isWitness_24 : decode cX5_isWitness 24 = .ok (.iload_n 2, 1) := by decide +kernel
theorem dX5_isWitness_25 : decode cX5_isWitness 25 = .ok (.invokevirtual 113, 3) := by decide +kernel
theorem dX5_isWitness_28 : decode cX5_isWitness 28 = .ok (.iadd, 1) := by decide +kernel
theorem dX5_isWitness_29 : decode cX5_isWitness 29 = .ok (.aload_n 0, 1) := by decide +kernel
theorem dX5_isWitness_30 : decode cX5_isWitness 30 = .ok (.getfield 34, 3) := by decide +kernel
theorem dX5_isWitness_33 : decode cX5_isWitness 33 = .ok (.getfield 139, 3) := by decide +kernel
theorem dX5_isWitness_36 : decode cX5_isWitness 36 = .ok (.if_icmp .ne 7, 3) := by decide +kernel
theorem dX5_isWitness_39 : decode cX5_isWitness 39 = .ok (.iconst 1, 1) := by decide +kernel
theorem dX5_isWitness_40 : decode cX5_isWitness 40 = .ok (.goto 4, 3) := by decide +kernel
theorem dX5_isWitness_43 : decode cX5_isWitness 43 = .ok (.iconst 0, 1) := by decide +kernel
theorem dX5_isWitness_44 : decode cX5_isWitness 44 = .ok (.ireturn, 1) := by decide +kernel
set_option maxRecDepth 20000 in
theorem ggX5_leastWitness_X5_leastSplit : GoodIn wsX5_leastWitness wsX5_leastSplit := goodIn_r _ [7, 8, 9, 10, 11, 12, 13, 14, 15, 16, 17, 18, 19, 20, 21, 22, 23, 24, 25, 26, 27, 28, 29, 30, 31, 32, 33, 34, 35, 36, 37, 38, 39, 40, 41, 42, 6, 43, 44, 45, 46, 47, 48, 49, 50, 51, 52, 53, 54, 55, 56, 57, 58, 59, 60, 61, 62, 63, 64, 65, 66, 67, 68, 69, 70, 71, 72, 73, 74, 75, 76, 77, 78, 79, 80, 81, 82, 83, 84, 85, 86, 87, 88, 89, 90, 91, 92, 93, 94, 95, 96, 97, 98, 99, 100, 101, 102, 103, 104, 105, 106, 107, 108, 109, 110, 111, 112, 113, 114, 115] (by decide +kernel) (by decide +kernel)
set_option maxRecDepth 20000 in
theorem gX5_leastWitness_X5_leastSplit : GoodIn wsX5_leastWitness (wsV RX5 174 RX5 yX5_leastSplit wsX5_leastSplit) := goodIn_app (goodIn_of _ (by decide +kernel)) ggX5_leastWitness_X5_leastSplit
theorem dX5_leastWitness_0 : decode cX5_leastWitness 0 = .ok (.aload_n 0, 1) := by decide +kernel
theorem dX5_leastWitness_1 : decode cX5_leastWitness 1 = .ok (.aload_n 0, 1) := by decide +kernel
theorem dX5_leastWitness_2 : decode cX5_leastWitness 2 = .ok (.getfield 21, 3) := by decide +kernel
theorem dX5_leastWitness_5 : decode cX5_leastWitness 5 = .ok (.aload_n 0, 1) := by decide +kernel
theorem dX5_leastWitness_6 : decode cX5_leastWitness 6 = .ok (.getfield 28, 3) := by decide +kernel
theorem dX5_leastWitness_9 : decode cX5_leastWitness 9 = .ok (.invokevirtual 174, 3) := by decide +kernel
theorem dX5_leastWitness_12 : decode cX5_leastWitness 12 = .ok (.ireturn, 1) := by decide +kernel
set_option maxRecDepth 20000 in
theorem ggX5_greatestWitness_X0_allEdges : GoodIn wsX5_greatestWitness wsX0_allEdges := goodIn_r _ [8, 9, 94, 95, 96, 97, 98, 99, 100, 101, 102] (by decide +kernel) (by decide +kernel)
set_option maxRecDepth 20000 in
theorem gX5_greatestWitness_X0_allEdges : GoodIn wsX5_greatestWitness (wsV RX5 171 RX0 yX0_allEdges wsX0_allEdges) := goodIn_app (goodIn_of _ (by decide +kernel)) ggX5_greatestWitness_X0_allEdges
set_option maxRecDepth 20000 in
theorem ggX5_greatestWitness_X5_leastSplit : GoodIn wsX5_greatestWitness wsX5_leastSplit := goodIn_r _ [14, 15, 16, 17, 1, 18, 4, 5, 6, 7, 8, 9, 19, 20, 21, 22, 23, 24, 25, 26, 27, 28, 29, 30, 31, 32, 33, 34, 35, 36, 37, 38, 39, 40, 41, 42, 13, 43, 44, 45, 46, 47, 48, 49, 50, 51, 52, 53, 54, 55, 56, 57, 58, 59, 60, 61, 62, 63, 64, 65, 66, 67, 68, 69, 70, 71, 72, 73, 74, 75, 76, 77, 78, 79, 80, 81, 82, 83, 84, 85, 86, 87, 88, 89, 90, 91, 92, 93, 103, 104, 105, 106, 107, 108, 109, 110, 111, 112, 113, 94, 95, 96, 97, 98, 99, 100, 101, 102, 114, 115] (by decide +kernel) (by decide +kernel)
set_option maxRecDepth 20000 in
theorem gX5_greatestWitness_X5_leastSplit : GoodIn wsX5_greatestWitness (wsV RX5 174 RX5 yX5_leastSplit wsX5_leastSplit) := goodIn_app (goodIn_of _ (by decide +kernel)) ggX5_greatestWitness_X5_leastSplit
theorem dX5_greatestWitness_0 : decode cX5_greatestWitness 0 = .ok (.aload_n 0, 1) := by decide +kernel
theorem dX5_greatestWitness_1 : decode cX5_greatestWitness 1 = .ok (.getfield 10, 3) := by decide +kernel
theorem dX5_greatestWitness_4 : decode cX5_greatestWitness 4 = .ok (.invokevirtual 171, 3) := by decide +kernel
theorem dX5_greatestWitness_7 : decode cX5_greatestWitness 7 = .ok (.aload_n 0, 1) := by decide +kernel
theorem dX5_greatestWitness_8 : decode cX5_greatestWitness 8 = .ok (.aload_n 0, 1) := by decide +kernel
theorem dX5_greatestWitness_9 : decode cX5_greatestWitness 9 = .ok (.getfield 28, 3) := by decide +kernel
theorem dX5_greatestWitness_12 : decode cX5_greatestWitness 12 = .ok (.aload_n 0, 1) := by decide +kernel
theorem dX5_greatestWitness_13 : decode cX5_greatestWitness 13 = .ok (.getfield 21, 3) := by decide +kernel
theorem dX5_greatestWitness_16 : decode cX5_greatestWitness 16 = .ok (.invokevirtual 174, 3) := by decide +kernel
theorem dX5_greatestWitness_19 : decode cX5_greatestWitness 19 = .ok (.iconst (-1), 1) := by decide +kernel
theorem dX5_greatestWitness_20 : decode cX5_greatestWitness 20 = .ok (.ixor, 1) := by decide +kernel
theorem dX5_greatestWitness_21 : decode cX5_greatestWitness 21 = .ok (.iand, 1) := by decide +kernel
theorem dX5_greatestWitness_22 : decode cX5_greatestWitness 22 = .ok (.ireturn, 1) := by decide +kernel
set_option maxRecDepth 20000 in
theorem ggX5_leastSplit_X0_allEdges : GoodIn wsX5_leastSplit wsX0_allEdges := goodIn_r _ [10, 11, 99, 100, 101, 102, 103, 104, 105, 106, 107] (by decide +kernel) (by decide +kernel)
set_option maxRecDepth 20000 in
theorem gX5_leastSplit_X0_allEdges : GoodIn wsX5_leastSplit (wsV RX5 171 RX0 yX0_allEdges wsX0_allEdges) := goodIn_app (goodIn_of _ (by decide +kernel)) ggX5_leastSplit_X0_allEdges
set_option maxRecDepth 20000 in
theorem ggX5_leastSplit_X1_closureOf : GoodIn wsX5_leastSplit wsX1_closureOf := goodIn_r _ [17, 18, 19, 20, 21, 22, 23, 24, 25, 26, 27, 28, 29, 30, 31, 9, 32, 33, 34, 35, 36, 37, 38, 39, 40, 41, 42, 43, 44, 45, 46, 47, 48, 49, 50, 51, 52, 53, 54, 55, 56, 57, 58, 59, 60, 61, 62, 63, 64, 65, 66, 67, 68, 69, 70, 71, 72, 108, 109, 99, 100, 101, 102, 103, 104, 105, 106, 107] (by decide +kernel) (by decide +kernel)
set_option maxRecDepth 20000 in
theorem gX5_leastSplit_X1_closureOf_u136X2 : GoodIn wsX5_leastSplit (va_wsU RX5 136 RX2 "ColourForests$Kind" ⟨"ColourForests$Kind", "closureOf", "(I)I"⟩ yX1_closureOf wsX1_closureOf) := goodIn_app (goodIn_of _ (by decide +kernel)) ggX5_leastSplit_X1_closureOf
set_option maxRecDepth 20000 in
theorem gX5_leastSplit_X1_closureOf_u136X3 : GoodIn wsX5_leastSplit (va_wsU RX5 136 RX3 "ColourForests$Kind" ⟨"ColourForests$Kind", "closureOf", "(I)I"⟩ yX1_closureOf wsX1_closureOf) := goodIn_app (goodIn_of _ (by decide +kernel)) ggX5_leastSplit_X1_closureOf
set_option maxRecDepth 20000 in
theorem ggX5_leastSplit_J6_lowestOneBit_0f7a4 : GoodIn wsX5_leastSplit wsJ6_lowestOneBit_0f7a4 := goodIn_r _ [77] (by decide +kernel) (by decide +kernel)
set_option maxRecDepth 20000 in
theorem gX5_leastSplit_J6_lowestOneBit_0f7a4 : GoodIn wsX5_leastSplit (va_wsS RX5 178 yJ6_lowestOneBit_0f7a4 wsJ6_lowestOneBit_0f7a4) := goodIn_app (goodIn_of _ (by decide +kernel)) ggX5_leastSplit_J6_lowestOneBit_0f7a4
set_option maxRecDepth 20000 in
theorem ggX5_leastSplit_X1_circuitWithin : GoodIn wsX5_leastSplit wsX1_circuitWithin := goodIn_r _ [82, 18, 19, 20, 21, 22, 23, 24, 25, 26, 27, 28, 29, 30, 31, 9, 32, 33, 34, 35, 36, 37, 38, 39, 40, 41, 42, 43, 44, 45, 46, 47, 48, 49, 50, 51, 52, 53, 54, 55, 56, 57, 58, 59, 60, 61, 62, 63, 64, 65, 66, 67, 68, 69, 70, 71, 72, 108, 109, 99, 100, 101, 102, 103, 104, 105, 106, 107] (by decide +kernel) (by decide +kernel)
set_option maxRecDepth 20000 in
theorem gX5_leastSplit_X1_circuitWithin_u133X2 : GoodIn wsX5_leastSplit (va_wsU RX5 133 RX2 "ColourForests$Kind" ⟨"ColourForests$Kind", "circuitWithin", "(I)I"⟩ yX1_circuitWithin wsX1_circuitWithin) := goodIn_app (goodIn_of _ (by decide +kernel)) ggX5_leastSplit_X1_circuitWithin
set_option maxRecDepth 20000 in
theorem gX5_leastSplit_X1_circuitWithin_u133X3 : GoodIn wsX5_leastSplit (va_wsU RX5 133 RX3 "ColourForests$Kind" ⟨"ColourForests$Kind", "circuitWithin", "(I)I"⟩ yX1_circuitWithin wsX1_circuitWithin) := goodIn_app (goodIn_of _ (by decide +kernel)) ggX5_leastSplit_X1_circuitWithin
theorem dX5_leastSplit_0 : decode cX5_leastSplit 0 = .ok (.aload_n 0, 1) := by decide +kernel
theorem dX5_leastSplit_1 : decode cX5_leastSplit 1 = .ok (.getfield 34, 3) := by decide +kernel
theorem dX5_leastSplit_4 : decode cX5_leastSplit 4 = .ok (.getfield 145, 3) := by decide +kernel
theorem dX5_leastSplit_7 : decode cX5_leastSplit 7 = .ok (.aload_n 0, 1) := by decide +kernel
theorem dX5_leastSplit_8 : decode cX5_leastSplit 8 = .ok (.getfield 34, 3) := by decide +kernel
theorem dX5_leastSplit_11 : decode cX5_leastSplit 11 = .ok (.getfield 139, 3) := by decide +kernel
theorem dX5_leastSplit_14 : decode cX5_leastSplit 14 = .ok (.iaload, 1) := by decide +kernel
theorem dX5_leastSplit_15 : decode cX5_leastSplit 15 = .ok (.istore_n 3, 1) := by decide +kernel
theorem dX5_leastSplit_16 : decode cX5_leastSplit 16 = .ok (.iconst 0, 1) := by decide +kernel
theorem dX5_leastSplit_17 : decode cX5_leastSplit 17 = .ok (.istore 4, 2) := by decide +kernel
theorem dX5_leastSplit_19 : decode cX5_leastSplit 19 = .ok (.iconst 0, 1) := by decide +kernel
theorem dX5_leastSplit_20 : decode cX5_leastSplit 20 = .ok (.istore 5, 2) := by decide +kernel
theorem dX5_leastSplit_22 : decode cX5_leastSplit 22 = .ok (.iload 5, 2) := by decide +kernel
theorem dX5_leastSplit_24 : decode cX5_leastSplit 24 = .ok (.aload_n 0, 1) := by decide +kernel
theorem dX5_leastSplit_25 : decode cX5_leastSplit 25 = .ok (.getfield 10, 3) := by decide +kernel
theorem dX5_leastSplit_28 : decode cX5_leastSplit 28 = .ok (.getfield 63, 3) := by decide +kernel
theorem dX5_leastSplit_31 : decode cX5_leastSplit 31 = .ok (.if_icmp .ge 67, 3) := by decide +kernel
theorem dX5_leastSplit_34 : decode cX5_leastSplit 34 = .ok (.aload_n 0, 1) := by decide +kernel
theorem dX5_leastSplit_35 : decode cX5_leastSplit 35 = .ok (.getfield 10, 3) := by decide +kernel
theorem dX5_leastSplit_38 : decode cX5_leastSplit 38 = .ok (.invokevirtual 171, 3) := by decide +kernel
theorem dX5_leastSplit_41 : decode cX5_leastSplit 41 = .ok (.aload_n 2, 1) := by decide +kernel
theorem dX5_leastSplit_42 : decode cX5_leastSplit 42 = .ok (.iload_n 3, 1) := by decide +kernel
theorem dX5_leastSplit_43 : decode cX5_leastSplit 43 = .ok (.iload 4, 2) := by decide +kernel
theorem dX5_leastSplit_45 : decode cX5_leastSplit 45 = .ok (.iconst (-1), 1) := by decide +kernel
theorem dX5_leastSplit_46 : decode cX5_leastSplit 46 = .ok (.ixor, 1) := by decide +kernel
theorem dX5_leastSplit_47 : decode cX5_leastSplit 47 = .ok (.iand, 1) := by decide +kernel
theorem dX5_leastSplit_48 : decode cX5_leastSplit 48 = .ok (.invokevirtual 136, 3) := by decide +kernel
theorem dX5_leastSplit_51 : decode cX5_leastSplit 51 = .ok (.iconst (-1), 1) := by decide +kernel
theorem dX5_leastSplit_52 : decode cX5_leastSplit 52 = .ok (.ixor, 1) := by decide +kernel
theorem dX5_leastSplit_53 : decode cX5_leastSplit 53 = .ok (.iand, 1) := by decide +kernel
theorem dX5_leastSplit_54 : decode cX5_leastSplit 54 = .ok (.iload 4, 2) := by decide +kernel
theorem dX5_leastSplit_56 : decode cX5_leastSplit 56 = .ok (.iconst (-1), 1) := by decide +kernel
theorem dX5_leastSplit_57 : decode cX5_leastSplit 57 = .ok (.ixor, 1) := by decide +kernel
theorem dX5_leastSplit_58 : decode cX5_leastSplit 58 = .ok (.iand, 1) := by decide +kernel
theorem dX5_leastSplit_59 : decode cX5_leastSplit 59 = .ok (.istore 6, 2) := by decide +kernel
theorem dX5_leastSplit_61 : decode cX5_leastSplit 61 = .ok (.iload 6, 2) := by decide +kernel
theorem dX5_leastSplit_63 : decode cX5_leastSplit 63 = .ok (.invokestatic 178, 3) := by decide +kernel
theorem dX5_leastSplit_66 : decode cX5_leastSplit 66 = .ok (.istore 7, 2) := by decide +kernel
theorem dX5_leastSplit_68 : decode cX5_leastSplit 68 = .ok (.iload 7, 2) := by decide +kernel
theorem dX5_leastSplit_70 : decode cX5_leastSplit 70 = .ok (.ifCond .ne 6, 3) := by decide +kernel
theorem dX5_leastSplit_73 : decode cX5_leastSplit 73 = .ok (.goto 25, 3) := by decide +kernel
theorem dX5_leastSplit_76 : decode cX5_leastSplit 76 = .ok (.iload 4, 2) := by decide +kernel
theorem dX5_leastSplit_78 : decode cX5_leastSplit 78 = .ok (.iload 7, 2) := by decide +kernel
theorem dX5_leastSplit_80 : decode cX5_leastSplit 80 = .ok (.aload_n 1, 1) := by decide +kernel
theorem dX5_leastSplit_81 : decode cX5_leastSplit 81 = .ok (.iload_n 3, 1) := by decide +kernel
theorem dX5_leastSplit_82 : decode cX5_leastSplit 82 = .ok (.iload 7, 2) := by decide +kernel
theorem dX5_leastSplit_84 : decode cX5_leastSplit 84 = .ok (.ior, 1) := by decide +kernel
theorem dX5_leastSplit_85 : decode cX5_leastSplit 85 = .ok (.invokevirtual 133, 3) := by decide +kernel
theorem dX5_leastSplit_88 : decode cX5_leastSplit 88 = .ok (.ior, 1) := by decide +kernel
theorem dX5_leastSplit_89 : decode cX5_leastSplit 89 = .ok (.ior, 1) := by decide +kernel
theorem dX5_leastSplit_90 : decode cX5_leastSplit 90 = .ok (.istore 4, 2) := by decide +kernel
theorem dX5_leastSplit_92 : decode cX5_leastSplit 92 = .ok (.iinc 5 1, 3) := by decide +kernel
theorem dX5_leastSplit_95 : decode cX5_leastSplit 95 = .ok (.goto (-73), 3) := by decide +kernel
theorem dX5_leastSplit_98 : decode cX5_leastSplit 98 = .ok (.iload 4, 2) := by decide +kernel
theorem dX5_leastSplit_100 : decode cX5_leastSplit 100 = .ok (.ireturn, 1) := by decide +kernel
set_option maxRecDepth 20000 in
theorem ggX5_dearestAreSuch_X5_isCommon : GoodIn wsX5_dearestAreSuch wsX5_isCommon := goodIn_r _ [8, 9, 10, 11, 12, 13, 14, 15, 16, 17, 18, 19, 20, 21, 22, 23, 24, 25, 26, 27, 28, 29, 30, 31, 32, 33, 7, 34, 35, 36, 37, 38, 39, 40, 41, 42, 43, 44, 45, 46, 47, 48, 49, 50, 51, 52, 53, 54, 55, 56, 57, 58, 59, 60, 61, 62, 63, 64, 65, 66, 67, 68, 69, 70, 71, 72, 73, 74, 75, 76, 77, 79, 80, 81, 82, 94, 95, 96, 97, 98, 99, 100, 101, 102, 103, 104] (by decide +kernel) (by decide +kernel)
set_option maxRecDepth 20000 in
theorem gX5_dearestAreSuch_X5_isCommon : GoodIn wsX5_dearestAreSuch (wsV RX5 119 RX5 yX5_isCommon wsX5_isCommon) := goodIn_app (goodIn_of _ (by decide +kernel)) ggX5_dearestAreSuch_X5_isCommon
set_option maxRecDepth 20000 in
theorem ggX5_dearestAreSuch_J6_bitCount_0f7a4 : GoodIn wsX5_dearestAreSuch wsJ6_bitCount_0f7a4 := goodIn_r _ [73, 74, 75, 76] (by decide +kernel) (by decide +kernel)
set_option maxRecDepth 20000 in
theorem gX5_dearestAreSuch_J6_bitCount_0f7a4 : GoodIn wsX5_dearestAreSuch (va_wsS RX5 183 yJ6_bitCount_0f7a4 wsJ6_bitCount_0f7a4) := goodIn_app (goodIn_of _ (by decide +kernel)) ggX5_dearestAreSuch_J6_bitCount_0f7a4
theorem dX5_dearestAreSuch_0 : decode cX5_dearestAreSuch 0 = .ok (.iconst 0, 1) := by decide +kernel
theorem dX5_dearestAreSuch_1 : decode cX5_dearestAreSuch 1 = .ok (.istore_n 1, 1) := by decide +kernel
theorem dX5_dearestAreSuch_2 : decode cX5_dearestAreSuch 2 = .ok (.iload_n 1, 1) := by decide +kernel
theorem dX5_dearestAreSuch_3 : decode cX5_dearestAreSuch 3 = .ok (.aload_n 0, 1) := by decide +kernel
theorem dX5_dearestAreSuch_4 : decode cX5_dearestAreSuch 4 = .ok (.getfield 34, 3) := by decide +kernel
theorem dX5_dearestAreSuch_7 : decode cX5_dearestAreSuch 7 = .ok (.getfield 139, 3) := by decide +kernel
theorem dX5_dearestAreSuch_10 : decode cX5_dearestAreSuch 10 = .ok (.if_icmp .gt 37, 3) := by decide +kernel
theorem dX5_dearestAreSuch_13 : decode cX5_dearestAreSuch 13 = .ok (.aload_n 0, 1) := by decide +kernel
theorem dX5_dearestAreSuch_14 : decode cX5_dearestAreSuch 14 = .ok (.getfield 34, 3) := by decide +kernel
theorem dX5_dearestAreSuch_17 : decode cX5_dearestAreSuch 17 = .ok (.getfield 145, 3) := by decide +kernel
theorem dX5_dearestAreSuch_20 : decode cX5_dearestAreSuch 20 = .ok (.iload_n 1, 1) := by decide +kernel
theorem dX5_dearestAreSuch_21 : decode cX5_dearestAreSuch 21 = .ok (.iaload, 1) := by decide +kernel
theorem dX5_dearestAreSuch_22 : decode cX5_dearestAreSuch 22 = .ok (.istore_n 2, 1) := by decide +kernel
theorem dX5_dearestAreSuch_23 : decode cX5_dearestAreSuch 23 = .ok (.aload_n 0, 1) := by decide +kernel
theorem dX5_dearestAreSuch_24 : decode cX5_dearestAreSuch 24 = .ok (.iload_n 2, 1) := by decide +kernel
theorem dX5_dearestAreSuch_25 : decode cX5_dearestAreSuch 25 = .ok (.invokevirtual 119, 3) := by decide +kernel
theorem dX5_dearestAreSuch_28 : decode cX5_dearestAreSuch 28 = .ok (.ifCond .eq 11, 3) := by decide +kernel
theorem dX5_dearestAreSuch_31 : decode cX5_dearestAreSuch 31 = .ok (.iload_n 2, 1) := by decide +kernel
theorem dX5_dearestAreSuch_32 : decode cX5_dearestAreSuch 32 = .ok (.invokestatic 183, 3) := by decide +kernel
theorem dX5_dearestAreSuch_35 : decode cX5_dearestAreSuch 35 = .ok (.iload_n 1, 1) := by decide +kernel
theorem dX5_dearestAreSuch_36 : decode cX5_dearestAreSuch 36 = .ok (.if_icmp .eq 5, 3) := by decide +kernel
theorem dX5_dearestAreSuch_39 : decode cX5_dearestAreSuch 39 = .ok (.iconst 0, 1) := by decide +kernel
theorem dX5_dearestAreSuch_40 : decode cX5_dearestAreSuch 40 = .ok (.ireturn, 1) := by decide +kernel
theorem dX5_dearestAreSuch_41 : decode cX5_dearestAreSuch 41 = .ok (.iinc 1 1, 3) := by decide +kernel
theorem dX5_dearestAreSuch_44 : decode cX5_dearestAreSuch 44 = .ok (.goto (-42), 3) := by decide +kernel
theorem dX5_dearestAreSuch_47 : decode cX5_dearestAreSuch 47 = .ok (.iconst 1, 1) := by decide +kernel
theorem dX5_dearestAreSuch_48 : decode cX5_dearestAreSuch 48 = .ok (.ireturn, 1) := by decide +kernel
theorem dX5_gainsNeverRise_0 : decode cX5_gainsNeverRise 0 = .ok (.iconst 1, 1) := by decide +kernel
theorem dX5_gainsNeverRise_1 : decode cX5_gainsNeverRise 1 = .ok (.istore_n 1, 1) := by decide +kernel
theorem dX5_gainsNeverRise_2 : decode cX5_gainsNeverRise 2 = .ok (.iload_n 1, 1) := by decide +kernel
theorem dX5_gainsNeverRise_3 : decode cX5_gainsNeverRise 3 = .ok (.aload_n 0, 1) := by decide +kernel
theorem dX5_gainsNeverRise_4 : decode cX5_gainsNeverRise 4 = .ok (.getfield 34, 3) := by decide +kernel
theorem dX5_gainsNeverRise_7 : decode cX5_gainsNeverRise 7 = .ok (.getfield 139, 3) := by decide +kernel
theorem dX5_gainsNeverRise_10 : decode cX5_gainsNeverRise 10 = .ok (.if_icmp .ge 60, 3) := by decide +kernel
theorem dX5_gainsNeverRise_13 : decode cX5_gainsNeverRise 13 = .ok (.aload_n 0, 1) := by decide +kernel
theorem dX5_gainsNeverRise_14 : decode cX5_gainsNeverRise 14 = .ok (.getfield 34, 3) := by decide +kernel
theorem dX5_gainsNeverRise_17 : decode cX5_gainsNeverRise 17 = .ok (.getfield 151, 3) := by decide +kernel
theorem dX5_gainsNeverRise_20 : decode cX5_gainsNeverRise 20 = .ok (.iload_n 1, 1) := by decide +kernel
theorem dX5_gainsNeverRise_21 : decode cX5_gainsNeverRise 21 = .ok (.iaload, 1) := by decide +kernel
theorem dX5_gainsNeverRise_22 : decode cX5_gainsNeverRise 22 = .ok (.aload_n 0, 1) := by decide +kernel
theorem dX5_gainsNeverRise_23 : decode cX5_gainsNeverRise 23 = .ok (.getfield 34, 3) := by decide +kernel
theorem dX5_gainsNeverRise_26 : decode cX5_gainsNeverRise 26 = .ok (.getfield 151, 3) := by decide +kernel
theorem dX5_gainsNeverRise_29 : decode cX5_gainsNeverRise 29 = .ok (.iload_n 1, 1) := by decide +kernel
theorem dX5_gainsNeverRise_30 : decode cX5_gainsNeverRise 30 = .ok (.iconst 1, 1) := by decide +kernel
theorem dX5_gainsNeverRise_31 : decode cX5_gainsNeverRise 31 = .ok (.isub, 1) := by decide +kernel
theorem dX5_gainsNeverRise_32 : decode cX5_gainsNeverRise 32 = .ok (.iaload, 1) := by decide +kernel
theorem dX5_gainsNeverRise_33 : decode cX5_gainsNeverRise 33 = .ok (.isub, 1) := by decide +kernel
theorem dX5_gainsNeverRise_34 : decode cX5_gainsNeverRise 34 = .ok (.istore_n 2, 1) := by decide +kernel
theorem dX5_gainsNeverRise_35 : decode cX5_gainsNeverRise 35 = .ok (.aload_n 0, 1) := by decide +kernel
theorem dX5_gainsNeverRise_36 : decode cX5_gainsNeverRise 36 = .ok (.getfield 34, 3) := by decide +kernel
theorem dX5_gainsNeverRise_39 : decode cX5_gainsNeverRise 39 = .ok (.getfield 151, 3) := by decide +kernel
theorem dX5_gainsNeverRise_42 : decode cX5_gainsNeverRise 42 = .ok (.iload_n 1, 1) := by decide +kernel
theorem dX5_gainsNeverRise_43 : decode cX5_gainsNeverRise 43 = .ok (.iconst 1, 1) := by decide +kernel
theorem dX5_gainsNeverRise_44 : decode cX5_gainsNeverRise 44 = .ok (.iadd, 1) := by decide +kernel
theorem dX5_gainsNeverRise_45 : decode cX5_gainsNeverRise 45 = .ok (.iaload, 1) := by decide +kernel
theorem dX5_gainsNeverRise_46 : decode cX5_gainsNeverRise 46 = .ok (.aload_n 0, 1) := by decide +kernel
theorem dX5_gainsNeverRise_47 : decode cX5_gainsNeverRise 47 = .ok (.getfield 34, 3) := by decide +kernel
theorem dX5_gainsNeverRise_50 : decode cX5_gainsNeverRise 50 = .ok (.getfield 151, 3) := by decide +kernel
theorem dX5_gainsNeverRise_53 : decode cX5_gainsNeverRise 53 = .ok (.iload_n 1, 1) := by decide +kernel
theorem dX5_gainsNeverRise_54 : decode cX5_gainsNeverRise 54 = .ok (.iaload, 1) := by decide +kernel
theorem dX5_gainsNeverRise_55 : decode cX5_gainsNeverRise 55 = .ok (.isub, 1) := by decide +kernel
theorem dX5_gainsNeverRise_56 : decode cX5_gainsNeverRise 56 = .ok (.istore_n 3, 1) := by decide +kernel
theorem dX5_gainsNeverRise_57 : decode cX5_gainsNeverRise 57 = .ok (.iload_n 3, 1) := by decide +kernel
theorem dX5_gainsNeverRise_58 : decode cX5_gainsNeverRise 58 = .ok (.iload_n 2, 1) := by decide +kernel
theorem dX5_gainsNeverRise_59 : decode cX5_gainsNeverRise 59 = .ok (.if_icmp .le 5, 3) := by decide +kernel
theorem dX5_gainsNeverRise_62 : decode cX5_gainsNeverRise 62 = .ok (.iconst 0, 1) := by decide +kernel
theorem dX5_gainsNeverRise_63 : decode cX5_gainsNeverRise 63 = .ok (.ireturn, 1) := by decide +kernel
theorem dX5_gainsNeverRise_64 : decode cX5_gainsNeverRise 64 = .ok (.iinc 1 1, 3) := by decide +kernel
theorem dX5_gainsNeverRise_67 : decode cX5_gainsNeverRise 67 = .ok (.goto (-65), 3) := by decide +kernel
theorem dX5_gainsNeverRise_70 : decode cX5_gainsNeverRise 70 = .ok (.iconst 1, 1) := by decide +kernel
theorem dX5_gainsNeverRise_71 : decode cX5_gainsNeverRise 71 = .ok (.ireturn, 1) := by decide +kernel
theorem dX6_init_0 : decode cX6_init 0 = .ok (.aload_n 0, 1) := by decide +kernel
theorem dX6_init_1 : decode cX6_init 1 = .ok (.invokespecial 1, 3) := by decide +kernel
theorem dX6_init_4 : decode cX6_init 4 = .ok (.aload_n 0, 1) := by decide +kernel
theorem dX6_init_5 : decode cX6_init 5 = .ok (.iconst 1, 1) := by decide +kernel
theorem dX6_init_6 : decode cX6_init 6 = .ok (.putfield 7, 3) := by decide +kernel
theorem dX6_init_9 : decode cX6_init 9 = .ok (.aload_n 0, 1) := by decide +kernel
theorem dX6_init_10 : decode cX6_init 10 = .ok (.iconst 1, 1) := by decide +kernel
theorem dX6_init_11 : decode cX6_init 11 = .ok (.putfield 13, 3) := by decide +kernel
theorem dX6_init_14 : decode cX6_init 14 = .ok (.aload_n 0, 1) := by decide +kernel
theorem dX6_init_15 : decode cX6_init 15 = .ok (.bipush 6, 2) := by decide +kernel
theorem dX6_init_17 : decode cX6_init 17 = .ok (.newarray .int, 2) := by decide +kernel
theorem dX6_init_19 : decode cX6_init 19 = .ok (.putfield 16, 3) := by decide +kernel
theorem dX6_init_22 : decode cX6_init 22 = .ok (.aload_n 0, 1) := by decide +kernel
theorem dX6_init_23 : decode cX6_init 23 = .ok (.bipush 14, 2) := by decide +kernel
theorem dX6_init_25 : decode cX6_init 25 = .ok (.newarray .int, 2) := by decide +kernel
theorem dX6_init_27 : decode cX6_init 27 = .ok (.putfield 20, 3) := by decide +kernel
theorem dX6_init_30 : decode cX6_init 30 = .ok (.aload_n 0, 1) := by decide +kernel
theorem dX6_init_31 : decode cX6_init 31 = .ok (.bipush 14, 2) := by decide +kernel
theorem dX6_init_33 : decode cX6_init 33 = .ok (.newarray .int, 2) := by decide +kernel
theorem dX6_init_35 : decode cX6_init 35 = .ok (.putfield 23, 3) := by decide +kernel
theorem dX6_init_38 : decode cX6_init 38 = .ok (.aload_n 0, 1) := by decide +kernel
theorem dX6_init_39 : decode cX6_init 39 = .ok (.bipush 14, 2) := by decide +kernel
theorem dX6_init_41 : decode cX6_init 41 = .ok (.newarray .int, 2) := by decide +kernel
theorem dX6_init_43 : decode cX6_init 43 = .ok (.putfield 26, 3) := by decide +kernel
theorem dX6_init_46 : decode cX6_init 46 = .ok (.aload_n 0, 1) := by decide +kernel
theorem dX6_init_47 : decode cX6_init 47 = .ok (.bipush 14, 2) := by decide +kernel
theorem dX6_init_49 : decode cX6_init 49 = .ok (.newarray .int, 2) := by decide +kernel
theorem dX6_init_51 : decode cX6_init 51 = .ok (.putfield 29, 3) := by decide +kernel
theorem dX6_init_54 : decode cX6_init 54 = .ok (.aload_n 0, 1) := by decide +kernel
theorem dX6_init_55 : decode cX6_init 55 = .ok (.ldc 32, 2) := by decide +kernel
theorem dX6_init_57 : decode cX6_init 57 = .ok (.newarray .boolean, 2) := by decide +kernel
theorem dX6_init_59 : decode cX6_init 59 = .ok (.putfield 33, 3) := by decide +kernel
theorem dX6_init_62 : decode cX6_init 62 = .ok (.aload_n 0, 1) := by decide +kernel
theorem dX6_init_63 : decode cX6_init 63 = .ok (.ldc 32, 2) := by decide +kernel
theorem dX6_init_65 : decode cX6_init 65 = .ok (.newarray .int, 2) := by decide +kernel
theorem dX6_init_67 : decode cX6_init 67 = .ok (.putfield 37, 3) := by decide +kernel
theorem dX6_init_70 : decode cX6_init 70 = .ok (.aload_n 0, 1) := by decide +kernel
theorem dX6_init_71 : decode cX6_init 71 = .ok (.bipush 15, 2) := by decide +kernel
theorem dX6_init_73 : decode cX6_init 73 = .ok (.newarray .int, 2) := by decide +kernel
theorem dX6_init_75 : decode cX6_init 75 = .ok (.putfield 40, 3) := by decide +kernel
theorem dX6_init_78 : decode cX6_init 78 = .ok (.aload_n 0, 1) := by decide +kernel
theorem dX6_init_79 : decode cX6_init 79 = .ok (.bipush 8, 2) := by decide +kernel
theorem dX6_init_81 : decode cX6_init 81 = .ok (.newarray .int, 2) := by decide +kernel
theorem dX6_init_83 : decode cX6_init 83 = .ok (.putfield 43, 3) := by decide +kernel
theorem dX6_init_86 : decode cX6_init 86 = .ok (.aload_n 0, 1) := by decide +kernel
theorem dX6_init_87 : decode cX6_init 87 = .ok (.bipush 6, 2) := by decide +kernel
theorem dX6_init_89 : decode cX6_init 89 = .ok (.newarray .int, 2) := by decide +kernel
theorem dX6_init_91 : decode cX6_init 91 = .ok (.putfield 46, 3) := by decide +kernel
theorem dX6_init_94 : decode cX6_init 94 = .ok (.aload_n 0, 1) := by decide +kernel
theorem dX6_init_95 : decode cX6_init 95 = .ok (.getfield 16, 3) := by decide +kernel
theorem dX6_init_98 : decode cX6_init 98 = .ok (.iconst 0, 1) := by decide +kernel
theorem dX6_init_99 : decode cX6_init 99 = .ok (.iconst 1, 1) := by decide +kernel
theorem dX6_init_100 : decode cX6_init 100 = .ok (.iastore, 1) := by decide +kernel
theorem dX6_init_101 : decode cX6_init 101 = .ok (.return_, 1) := by decide +kernel
theorem dX6_thrown_0 : decode cX6_thrown 0 = .ok (.aload_n 0, 1) := by decide +kernel
theorem dX6_thrown_1 : decode cX6_thrown 1 = .ok (.getfield 49, 3) := by decide +kernel
theorem dX6_thrown_4 : decode cX6_thrown 4 = .ok (.ireturn, 1) := by decide +kernel
theorem dX6_refuses_0 : decode cX6_refuses 0 = .ok (.aload_n 0, 1) := by decide +kernel
theorem dX6_refuses_1 : decode cX6_refuses 1 = .ok (.iload_n 1, 1) := by decide +kernel
theorem dX6_refuses_2 : decode cX6_refuses 2 = .ok (.putfield 49, 3) := by decide +kernel
theorem dX6_refuses_5 : decode cX6_refuses 5 = .ok (.iload_n 1, 1) := by decide +kernel
theorem dX6_refuses_6 : decode cX6_refuses 6 = .ok (.ifCond .le 7, 3) := by decide +kernel
theorem dX6_refuses_9 : decode cX6_refuses 9 = .ok (.iconst 1, 1) := by decide +kernel
theorem dX6_refuses_10 : decode cX6_refuses 10 = .ok (.goto 4, 3) := by decide +kernel
theorem dX6_refuses_13 : decode cX6_refuses 13 = .ok (.iconst 0, 1) := by decide +kernel
theorem dX6_refuses_14 : decode cX6_refuses 14 = .ok (.ireturn, 1) := by decide +kernel
set_option maxRecDepth 20000 in
theorem ggX6_make_X6_refuses : GoodIn wsX6_make wsX6_refuses := goodIn_r _ [10, 11, 12, 13, 14, 15, 16, 17, 18, 19, 20, 21, 22, 23, 24, 25, 26, 27] (by decide +kernel) (by decide +kernel)
set_option maxRecDepth 20000 in
theorem gX6_make_X6_refuses : GoodIn wsX6_make (wsV RX6 52 RX6 yX6_refuses wsX6_refuses) := goodIn_app (goodIn_of _ (by decide +kernel)) ggX6_make_X6_refuses
theorem dX6_make_0 : decode cX6_make 0 = .ok (.aload_n 0, 1) := by decide +kernel
theorem dX6_make_1 : decode cX6_make 1 = .ok (.iload_n 1, 1) := by decide +kernel
theorem dX6_make_2 : decode cX6_make 2 = .ok (.iconst 1, 1) := by decide +kernel
theorem dX6_make_3 : decode cX6_make 3 = .ok (.if_icmp .lt 20, 3) := by decide +kernel
theorem dX6_make_6 : decode cX6_make 6 = .ok (.iload_n 1, 1) := by decide +kernel
theorem dX6_make_7 : decode cX6_make 7 = .ok (.bipush 8, 2) := by decide +kernel
theorem dX6_make_9 : decode cX6_make 9 = .ok (.if_icmp .gt 14, 3) := by decide +kernel
theorem dX6_make_12 : decode cX6_make 12 = .ok (.iload_n 2, 1) := by decide +kernel
theorem dX6_make_13 : decode cX6_make 13 = .ok (.iconst 1, 1) := by decide +kernel
theorem dX6_make_14 : decode cX6_make 14 = .ok (.if_icmp .lt 9, 3) := by decide +kernel
theorem dX6_make_17 : decode cX6_make 17 = .ok (.iload_n 2, 1) := by decide +kernel
theorem dX6_make_18 : decode cX6_make 18 = .ok (.bipush 6, 2) := by decide +kernel
theorem dX6_make_20 : decode cX6_make 20 = .ok (.if_icmp .le 7, 3) := by decide +kernel
theorem dX6_make_23 : decode cX6_make 23 = .ok (.iconst 1, 1) := by decide +kernel
theorem dX6_make_24 : decode cX6_make 24 = .ok (.goto 4, 3) := by decide +kernel
theorem dX6_make_27 : decode cX6_make 27 = .ok (.iconst 0, 1) := by decide +kernel
theorem dX6_make_28 : decode cX6_make 28 = .ok (.invokevirtual 52, 3) := by decide +kernel
theorem dX6_make_31 : decode cX6_make 31 = .ok (.ifCond .eq 4, 3) := by decide +kernel
theorem dX6_make_34 : decode cX6_make 34 = .ok (.return_, 1) := by decide +kernel
theorem dX6_make_35 : decode cX6_make 35 = .ok (.aload_n 0, 1) := by decide +kernel
theorem dX6_make_36 : decode cX6_make 36 = .ok (.iload_n 1, 1) := by decide +kernel
theorem dX6_make_37 : decode cX6_make 37 = .ok (.putfield 7, 3) := by decide +kernel
theorem dX6_make_40 : decode cX6_make 40 = .ok (.aload_n 0, 1) := by decide +kernel
theorem dX6_make_41 : decode cX6_make 41 = .ok (.iload_n 2, 1) := by decide +kernel
theorem dX6_make_42 : decode cX6_make 42 = .ok (.putfield 13, 3) := by decide +kernel
theorem dX6_make_45 : decode cX6_make 45 = .ok (.aload_n 0, 1) := by decide +kernel
theorem dX6_make_46 : decode cX6_make 46 = .ok (.iconst 0, 1) := by decide +kernel
theorem dX6_make_47 : decode cX6_make 47 = .ok (.putfield 56, 3) := by decide +kernel
theorem dX6_make_50 : decode cX6_make 50 = .ok (.iconst 0, 1) := by decide +kernel
theorem dX6_make_51 : decode cX6_make 51 = .ok (.istore_n 3, 1) := by decide +kernel
theorem dX6_make_52 : decode cX6_make 52 = .ok (.iload_n 3, 1) := by decide +kernel
theorem dX6_make_53 : decode cX6_make 53 = .ok (.bipush 6, 2) := by decide +kernel
theorem dX6_make_55 : decode cX6_make 55 = .ok (.if_icmp .ge 16, 3) := by decide +kernel
theorem dX6_make_58 : decode cX6_make 58 = .ok (.aload_n 0, 1) := by decide +kernel
theorem dX6_make_59 : decode cX6_make 59 = .ok (.getfield 16, 3) := by decide +kernel
theorem dX6_make_62 : decode cX6_make 62 = .ok (.iload_n 3, 1) := by decide +kernel
theorem dX6_make_63 : decode cX6_make 63 = .ok (.iconst 1, 1) := by decide +kernel
theorem dX6_make_64 : decode cX6_make 64 = .ok (.iastore, 1) := by decide +kernel
theorem dX6_make_65 : decode cX6_make 65 = .ok (.iinc 3 1, 3) := by decide +kernel
theorem dX6_make_68 : decode cX6_make 68 = .ok (.goto (-16), 3) := by decide +kernel
theorem dX6_make_71 : decode cX6_make 71 = .ok (.aload_n 0, 1) := by decide +kernel
theorem dX6_make_72 : decode cX6_make 72 = .ok (.iconst 0, 1) := by decide +kernel
theorem dX6_make_73 : decode cX6_make 73 = .ok (.putfield 59, 3) := by decide +kernel
theorem dX6_make_76 : decode cX6_make 76 = .ok (.return_, 1) := by decide +kernel
theorem dX6_isHeavy_0 : decode cX6_isHeavy 0 = .ok (.iload_n 0, 1) := by decide +kernel
theorem dX6_isHeavy_1 : decode cX6_isHeavy 1 = .ok (.sipush (-9999), 3) := by decide +kernel
theorem dX6_isHeavy_4 : decode cX6_isHeavy 4 = .ok (.if_icmp .lt 10, 3) := by decide +kernel
theorem dX6_isHeavy_7 : decode cX6_isHeavy 7 = .ok (.iload_n 0, 1) := by decide +kernel
theorem dX6_isHeavy_8 : decode cX6_isHeavy 8 = .ok (.sipush 9999, 3) := by decide +kernel
theorem dX6_isHeavy_11 : decode cX6_isHeavy 11 = .ok (.if_icmp .le 7, 3) := by decide +kernel
theorem dX6_isHeavy_14 : decode cX6_isHeavy 14 = .ok (.iconst 1, 1) := by decide +kernel
theorem dX6_isHeavy_15 : decode cX6_isHeavy 15 = .ok (.goto 4, 3) := by decide +kernel
theorem dX6_isHeavy_18 : decode cX6_isHeavy 18 = .ok (.iconst 0, 1) := by decide +kernel
theorem dX6_isHeavy_19 : decode cX6_isHeavy 19 = .ok (.ireturn, 1) := by decide +kernel
set_option maxRecDepth 20000 in
theorem ggX6_edge_X6_isHeavy : GoodIn wsX6_edge wsX6_isHeavy := goodIn_r _ [13] (by decide +kernel) (by decide +kernel)
set_option maxRecDepth 20000 in
theorem gX6_edge_X6_isHeavy : GoodIn wsX6_edge (va_wsS RX6 63 yX6_isHeavy wsX6_isHeavy) := goodIn_app (goodIn_of _ (by decide +kernel)) ggX6_edge_X6_isHeavy
theorem dX6_edge_0 : decode cX6_edge 0 = .ok (.aload_n 0, 1) := by decide +kernel
theorem dX6_edge_1 : decode cX6_edge 1 = .ok (.iconst 0, 1) := by decide +kernel
theorem dX6_edge_2 : decode cX6_edge 2 = .ok (.putfield 49, 3) := by decide +kernel
theorem dX6_edge_5 : decode cX6_edge 5 = .ok (.iload_n 1, 1) := by decide +kernel
theorem dX6_edge_6 : decode cX6_edge 6 = .ok (.ifCond .lt 39, 3) := by decide +kernel
theorem dX6_edge_9 : decode cX6_edge 9 = .ok (.iload_n 1, 1) := by decide +kernel
theorem dX6_edge_10 : decode cX6_edge 10 = .ok (.aload_n 0, 1) := by decide +kernel
theorem dX6_edge_11 : decode cX6_edge 11 = .ok (.getfield 7, 3) := by decide +kernel
theorem dX6_edge_14 : decode cX6_edge 14 = .ok (.if_icmp .ge 31, 3) := by decide +kernel
theorem dX6_edge_17 : decode cX6_edge 17 = .ok (.iload_n 2, 1) := by decide +kernel
theorem dX6_edge_18 : decode cX6_edge 18 = .ok (.ifCond .lt 27, 3) := by decide +kernel
theorem dX6_edge_21 : decode cX6_edge 21 = .ok (.iload_n 2, 1) := by decide +kernel
theorem dX6_edge_22 : decode cX6_edge 22 = .ok (.aload_n 0, 1) := by decide +kernel
theorem dX6_edge_23 : decode cX6_edge 23 = .ok (.getfield 7, 3) := by decide +kernel
theorem dX6_edge_26 : decode cX6_edge 26 = .ok (.if_icmp .ge 19, 3) := by decide +kernel
theorem dX6_edge_29 : decode cX6_edge 29 = .ok (.iload_n 3, 1) := by decide +kernel
theorem dX6_edge_30 : decode cX6_edge 30 = .ok (.ifCond .lt 15, 3) := by decide +kernel
theorem dX6_edge_33 : decode cX6_edge 33 = .ok (.iload_n 3, 1) := by decide +kernel
theorem dX6_edge_34 : decode cX6_edge 34 = .ok (.aload_n 0, 1) := by decide +kernel
theorem dX6_edge_35 : decode cX6_edge 35 = .ok (.getfield 13, 3) := by decide +kernel
theorem dX6_edge_38 : decode cX6_edge 38 = .ok (.if_icmp .ge 7, 3) := by decide +kernel
theorem dX6_edge_41 : decode cX6_edge 41 = .ok (.iconst 1, 1) := by decide +kernel
theorem dX6_edge_42 : decode cX6_edge 42 = .ok (.goto 4, 3) := by decide +kernel
theorem dX6_edge_45 : decode cX6_edge 45 = .ok (.iconst 0, 1) := by decide +kernel
theorem dX6_edge_46 : decode cX6_edge 46 = .ok (.istore 5, 2) := by decide +kernel
theorem dX6_edge_48 : decode cX6_edge 48 = .ok (.iload 5, 2) := by decide +kernel
theorem dX6_edge_50 : decode cX6_edge 50 = .ok (.ifCond .eq 20, 3) := by decide +kernel
theorem dX6_edge_53 : decode cX6_edge 53 = .ok (.iload 4, 2) := by decide +kernel
theorem dX6_edge_55 : decode cX6_edge 55 = .ok (.invokestatic 63, 3) := by decide +kernel
theorem dX6_edge_58 : decode cX6_edge 58 = .ok (.ifCond .ne 12, 3) := by decide +kernel
theorem dX6_edge_61 : decode cX6_edge 61 = .ok (.aload_n 0, 1) := by decide +kernel
theorem dX6_edge_62 : decode cX6_edge 62 = .ok (.getfield 56, 3) := by decide +kernel
theorem dX6_edge_65 : decode cX6_edge 65 = .ok (.bipush 14, 2) := by decide +kernel
theorem dX6_edge_67 : decode cX6_edge 67 = .ok (.if_icmp .ne 5, 3) := by decide +kernel
theorem dX6_edge_70 : decode cX6_edge 70 = .ok (.iconst (-1), 1) := by decide +kernel
theorem dX6_edge_71 : decode cX6_edge 71 = .ok (.ireturn, 1) := by decide +kernel
theorem dX6_edge_72 : decode cX6_edge 72 = .ok (.aload_n 0, 1) := by decide +kernel
theorem dX6_edge_73 : decode cX6_edge 73 = .ok (.getfield 20, 3) := by decide +kernel
theorem dX6_edge_76 : decode cX6_edge 76 = .ok (.aload_n 0, 1) := by decide +kernel
theorem dX6_edge_77 : decode cX6_edge 77 = .ok (.getfield 56, 3) := by decide +kernel
theorem dX6_edge_80 : decode cX6_edge 80 = .ok (.iload_n 1, 1) := by decide +kernel
theorem dX6_edge_81 : decode cX6_edge 81 = .ok (.iastore, 1) := by decide +kernel
theorem dX6_edge_82 : decode cX6_edge 82 = .ok (.aload_n 0, 1) := by decide +kernel
theorem dX6_edge_83 : decode cX6_edge 83 = .ok (.getfield 23, 3) := by decide +kernel
theorem dX6_edge_86 : decode cX6_edge 86 = .ok (.aload_n 0, 1) := by decide +kernel
theorem dX6_edge_87 : decode cX6_edge 87 = .ok (.getfield 56, 3) := by decide +kernel
theorem dX6_edge_90 : decode cX6_edge 90 = .ok (.iload_n 2, 1) := by decide +kernel
theorem dX6_edge_91 : decode cX6_edge 91 = .ok (.iastore, 1) := by decide +kernel
theorem dX6_edge_92 : decode cX6_edge 92 = .ok (.aload_n 0, 1) := by decide +kernel
theorem dX6_edge_93 : decode cX6_edge 93 = .ok (.getfield 26, 3) := by decide +kernel
theorem dX6_edge_96 : decode cX6_edge 96 = .ok (.aload_n 0, 1) := by decide +kernel
theorem dX6_edge_97 : decode cX6_edge 97 = .ok (.getfield 56, 3) := by decide +kernel
theorem dX6_edge_100 : decode cX6_edge 100 = .ok (.iload_n 3, 1) := by decide +kernel
theorem dX6_edge_101 : decode cX6_edge 101 = .ok (.iastore, 1) := by decide +kernel
theorem dX6_edge_102 : decode cX6_edge 102 = .ok (.aload_n 0, 1) := by decide +kernel
theorem dX6_edge_103 : decode cX6_edge 103 = .ok (.getfield 29, 3) := by decide +kernel
theorem dX6_edge_106 : decode cX6_edge 106 = .ok (.aload_n 0, 1) := by decide +kernel
theorem dX6_edge_107 : decode cX6_edge 107 = .ok (.getfield 56, 3) := by decide +kernel
theorem dX6_edge_110 : decode cX6_edge 110 = .ok (.iload 4, 2) := by decide +kernel
theorem dX6_edge_112 : decode cX6_edge 112 = .ok (.iastore, 1) := by decide +kernel
theorem dX6_edge_113 : decode cX6_edge 113 = .ok (.aload_n 0, 1) := by decide +kernel
theorem dX6_edge_114 : decode cX6_edge 114 = .ok (.dup, 1) := by decide +kernel
theorem dX6_edge_115 : decode cX6_edge 115 = .ok (.getfield 56, 3) := by decide +kernel
theorem dX6_edge_118 : decode cX6_edge 118 = .ok (.iconst 1, 1) := by decide +kernel
theorem dX6_edge_119 : decode cX6_edge 119 = .ok (.iadd, 1) := by decide +kernel
theorem dX6_edge_120 : decode cX6_edge 120 = .ok (.putfield 56, 3) := by decide +kernel
theorem dX6_edge_123 : decode cX6_edge 123 = .ok (.aload_n 0, 1) := by decide +kernel
theorem dX6_edge_124 : decode cX6_edge 124 = .ok (.iconst 0, 1) := by decide +kernel
theorem dX6_edge_125 : decode cX6_edge 125 = .ok (.putfield 59, 3) := by decide +kernel
theorem dX6_edge_128 : decode cX6_edge 128 = .ok (.aload_n 0, 1) := by decide +kernel
theorem dX6_edge_129 : decode cX6_edge 129 = .ok (.getfield 56, 3) := by decide +kernel
theorem dX6_edge_132 : decode cX6_edge 132 = .ok (.iconst 1, 1) := by decide +kernel
theorem dX6_edge_133 : decode cX6_edge 133 = .ok (.isub, 1) := by decide +kernel
theorem dX6_edge_134 : decode cX6_edge 134 = .ok (.ireturn, 1) := by decide +kernel
set_option maxRecDepth 20000 in
theorem ggX6_limit_X6_refuses : GoodIn wsX6_limit wsX6_refuses := goodIn_r _ [8, 9, 10, 11, 12, 13, 14, 15, 16, 17, 18, 19, 20, 21, 22, 23, 24, 25] (by decide +kernel) (by decide +kernel)
set_option maxRecDepth 20000 in
theorem gX6_limit_X6_refuses : GoodIn wsX6_limit (wsV RX6 52 RX6 yX6_refuses wsX6_refuses) := goodIn_app (goodIn_of _ (by decide +kernel)) ggX6_limit_X6_refuses
theorem dX6_limit_0 : decode cX6_limit 0 = .ok (.aload_n 0, 1) := by decide +kernel
theorem dX6_limit_1 : decode cX6_limit 1 = .ok (.iload_n 1, 1) := by decide +kernel
theorem dX6_limit_2 : decode cX6_limit 2 = .ok (.ifCond .lt 11, 3) := by decide +kernel
theorem dX6_limit_5 : decode cX6_limit 5 = .ok (.iload_n 1, 1) := by decide +kernel
theorem dX6_limit_6 : decode cX6_limit 6 = .ok (.aload_n 0, 1) := by decide +kernel
theorem dX6_limit_7 : decode cX6_limit 7 = .ok (.getfield 13, 3) := by decide +kernel
theorem dX6_limit_10 : decode cX6_limit 10 = .ok (.if_icmp .lt 7, 3) := by decide +kernel
theorem dX6_limit_13 : decode cX6_limit 13 = .ok (.iconst 1, 1) := by decide +kernel
theorem dX6_limit_14 : decode cX6_limit 14 = .ok (.goto 18, 3) := by decide +kernel
theorem dX6_limit_17 : decode cX6_limit 17 = .ok (.iload_n 2, 1) := by decide +kernel
theorem dX6_limit_18 : decode cX6_limit 18 = .ok (.ifCond .lt 9, 3) := by decide +kernel
theorem dX6_limit_21 : decode cX6_limit 21 = .ok (.iload_n 2, 1) := by decide +kernel
theorem dX6_limit_22 : decode cX6_limit 22 = .ok (.bipush 14, 2) := by decide +kernel
theorem dX6_limit_24 : decode cX6_limit 24 = .ok (.if_icmp .le 7, 3) := by decide +kernel
theorem dX6_limit_27 : decode cX6_limit 27 = .ok (.iconst 2, 1) := by decide +kernel
theorem dX6_limit_28 : decode cX6_limit 28 = .ok (.goto 4, 3) := by decide +kernel
theorem dX6_limit_31 : decode cX6_limit 31 = .ok (.iconst 0, 1) := by decide +kernel
theorem dX6_limit_32 : decode cX6_limit 32 = .ok (.invokevirtual 52, 3) := by decide +kernel
theorem dX6_limit_35 : decode cX6_limit 35 = .ok (.ifCond .ne 15, 3) := by decide +kernel
theorem dX6_limit_38 : decode cX6_limit 38 = .ok (.aload_n 0, 1) := by decide +kernel
theorem dX6_limit_39 : decode cX6_limit 39 = .ok (.getfield 16, 3) := by decide +kernel
theorem dX6_limit_42 : decode cX6_limit 42 = .ok (.iload_n 1, 1) := by decide +kernel
theorem dX6_limit_43 : decode cX6_limit 43 = .ok (.iload_n 2, 1) := by decide +kernel
theorem dX6_limit_44 : decode cX6_limit 44 = .ok (.iastore, 1) := by decide +kernel
theorem dX6_limit_45 : decode cX6_limit 45 = .ok (.aload_n 0, 1) := by decide +kernel
theorem dX6_limit_46 : decode cX6_limit 46 = .ok (.iconst 0, 1) := by decide +kernel
theorem dX6_limit_47 : decode cX6_limit 47 = .ok (.putfield 59, 3) := by decide +kernel
theorem dX6_limit_50 : decode cX6_limit 50 = .ok (.return_, 1) := by decide +kernel
set_option maxRecDepth 20000 in
theorem ggX6_weigh_X6_isHeavy : GoodIn wsX6_weigh wsX6_isHeavy := goodIn_r _ [7] (by decide +kernel) (by decide +kernel)
set_option maxRecDepth 20000 in
theorem gX6_weigh_X6_isHeavy : GoodIn wsX6_weigh (va_wsS RX6 63 yX6_isHeavy wsX6_isHeavy) := goodIn_app (goodIn_of _ (by decide +kernel)) ggX6_weigh_X6_isHeavy
set_option maxRecDepth 20000 in
theorem ggX6_weigh_X6_refuses : GoodIn wsX6_weigh wsX6_refuses := goodIn_r _ [11, 12, 13, 14, 15, 16, 17, 18, 19, 20, 21, 22, 23, 24, 25, 26, 27, 28] (by decide +kernel) (by decide +kernel)
set_option maxRecDepth 20000 in
theorem gX6_weigh_X6_refuses : GoodIn wsX6_weigh (wsV RX6 52 RX6 yX6_refuses wsX6_refuses) := goodIn_app (goodIn_of _ (by decide +kernel)) ggX6_weigh_X6_refuses
end
section
theorem dX6_weigh_0 : decode cX6_weigh 0 = .ok (.aload_n 0, 1) := by decide +kernel
theorem dX6_weigh_1 : decode cX6_weigh 1 = .ok (.iload_n 1, 1) := by decide +kernel
theorem dX6_weigh_2 : decode cX6_weigh 2 = .ok (.ifCond .lt 11, 3) := by decide +kernel
theorem dX6_weigh_5 : decode cX6_weigh 5 = .ok (.iload_n 1, 1) := by decide +kernel
theorem dX6_weigh_6 : decode cX6_weigh 6 = .ok (.aload_n 0, 1) := by decide +kernel
theorem dX6_weigh_7 : decode cX6_weigh 7 = .ok (.getfield 56, 3) := by decide +kernel
theorem dX6_weigh_10 : decode cX6_weigh 10 = .ok (.if_icmp .lt 7, 3) := by decide +kernel
theorem dX6_weigh_13 : decode cX6_weigh 13 = .ok (.iconst 1, 1) := by decide +kernel
theorem dX6_weigh_14 : decode cX6_weigh 14 = .ok (.goto 15, 3) := by decide +kernel
theorem dX6_weigh_17 : decode cX6_weigh 17 = .ok (.iload_n 2, 1) := by decide +kernel
theorem dX6_weigh_18 : decode cX6_weigh 18 = .ok (.invokestatic 63, 3) := by decide +kernel
theorem dX6_weigh_21 : decode cX6_weigh 21 = .ok (.ifCond .eq 7, 3) := by decide +kernel
theorem dX6_weigh_24 : decode cX6_weigh 24 = .ok (.iconst 2, 1) := by decide +kernel
theorem dX6_weigh_25 : decode cX6_weigh 25 = .ok (.goto 4, 3) := by decide +kernel
theorem dX6_weigh_28 : decode cX6_weigh 28 = .ok (.iconst 0, 1) := by decide +kernel
theorem dX6_weigh_29 : decode cX6_weigh 29 = .ok (.invokevirtual 52, 3) := by decide +kernel
theorem dX6_weigh_32 : decode cX6_weigh 32 = .ok (.ifCond .ne 15, 3) := by decide +kernel
theorem dX6_weigh_35 : decode cX6_weigh 35 = .ok (.aload_n 0, 1) := by decide +kernel
theorem dX6_weigh_36 : decode cX6_weigh 36 = .ok (.getfield 29, 3) := by decide +kernel
theorem dX6_weigh_39 : decode cX6_weigh 39 = .ok (.iload_n 1, 1) := by decide +kernel
theorem dX6_weigh_40 : decode cX6_weigh 40 = .ok (.iload_n 2, 1) := by decide +kernel
theorem dX6_weigh_41 : decode cX6_weigh 41 = .ok (.iastore, 1) := by decide +kernel
theorem dX6_weigh_42 : decode cX6_weigh 42 = .ok (.aload_n 0, 1) := by decide +kernel
theorem dX6_weigh_43 : decode cX6_weigh 43 = .ok (.iconst 0, 1) := by decide +kernel
theorem dX6_weigh_44 : decode cX6_weigh 44 = .ok (.putfield 59, 3) := by decide +kernel
theorem dX6_weigh_47 : decode cX6_weigh 47 = .ok (.return_, 1) := by decide +kernel
theorem dX6_has_0 : decode cX6_has 0 = .ok (.iload_n 0, 1) := by decide +kernel
theorem dX6_has_1 : decode cX6_has 1 = .ok (.iload_n 1, 1) := by decide +kernel
theorem dX6_has_2 : decode cX6_has 2 = .ok (.ishr, 1) := by decide +kernel
theorem dX6_has_3 : decode cX6_has 3 = .ok (.iconst 1, 1) := by decide +kernel
theorem dX6_has_4 : decode cX6_has 4 = .ok (.iand, 1) := by decide +kernel
theorem dX6_has_5 : decode cX6_has 5 = .ok (.iconst 1, 1) := by decide +kernel
theorem dX6_has_6 : decode cX6_has 6 = .ok (.if_icmp .ne 7, 3) := by decide +kernel
theorem dX6_has_9 : decode cX6_has 9 = .ok (.iconst 1, 1) := by decide +kernel
theorem dX6_has_10 : decode cX6_has 10 = .ok (.goto 4, 3) := by decide +kernel
theorem dX6_has_13 : decode cX6_has 13 = .ok (.iconst 0, 1) := by decide +kernel
theorem dX6_has_14 : decode cX6_has 14 = .ok (.ireturn, 1) := by decide +kernel
theorem dX6_size_0 : decode cX6_size 0 = .ok (.iconst 0, 1) := by decide +kernel
theorem dX6_size_1 : decode cX6_size 1 = .ok (.istore_n 1, 1) := by decide +kernel
theorem dX6_size_2 : decode cX6_size 2 = .ok (.iconst 0, 1) := by decide +kernel
theorem dX6_size_3 : decode cX6_size 3 = .ok (.istore_n 2, 1) := by decide +kernel
theorem dX6_size_4 : decode cX6_size 4 = .ok (.iload_n 2, 1) := by decide +kernel
theorem dX6_size_5 : decode cX6_size 5 = .ok (.bipush 14, 2) := by decide +kernel
theorem dX6_size_7 : decode cX6_size 7 = .ok (.if_icmp .ge 17, 3) := by decide +kernel
theorem dX6_size_10 : decode cX6_size 10 = .ok (.iload_n 1, 1) := by decide +kernel
theorem dX6_size_11 : decode cX6_size 11 = .ok (.iload_n 0, 1) := by decide +kernel
theorem dX6_size_12 : decode cX6_size 12 = .ok (.iload_n 2, 1) := by decide +kernel
theorem dX6_size_13 : decode cX6_size 13 = .ok (.ishr, 1) := by decide +kernel
theorem dX6_size_14 : decode cX6_size 14 = .ok (.iconst 1, 1) := by decide +kernel
theorem dX6_size_15 : decode cX6_size 15 = .ok (.iand, 1) := by decide +kernel
theorem dX6_size_16 : decode cX6_size 16 = .ok (.iadd, 1) := by decide +kernel
theorem dX6_size_17 : decode cX6_size 17 = .ok (.istore_n 1, 1) := by decide +kernel
theorem dX6_size_18 : decode cX6_size 18 = .ok (.iinc 2 1, 3) := by decide +kernel
theorem dX6_size_21 : decode cX6_size 21 = .ok (.goto (-17), 3) := by decide +kernel
theorem dX6_size_24 : decode cX6_size 24 = .ok (.iload_n 1, 1) := by decide +kernel
theorem dX6_size_25 : decode cX6_size 25 = .ok (.ireturn, 1) := by decide +kernel
set_option maxRecDepth 20000 in
theorem ggX6_hasNoRing_X6_has : GoodIn wsX6_hasNoRing wsX6_has := goodIn_r _ [9] (by decide +kernel) (by decide +kernel)
set_option maxRecDepth 20000 in
theorem gX6_hasNoRing_X6_has : GoodIn wsX6_hasNoRing (va_wsS RX6 66 yX6_has wsX6_has) := goodIn_app (goodIn_of _ (by decide +kernel)) ggX6_hasNoRing_X6_has
theorem dX6_hasNoRing_0 : decode cX6_hasNoRing 0 = .ok (.iconst 0, 1) := by decide +kernel
theorem dX6_hasNoRing_1 : decode cX6_hasNoRing 1 = .ok (.istore_n 2, 1) := by decide +kernel
theorem dX6_hasNoRing_2 : decode cX6_hasNoRing 2 = .ok (.iload_n 2, 1) := by decide +kernel
theorem dX6_hasNoRing_3 : decode cX6_hasNoRing 3 = .ok (.aload_n 0, 1) := by decide +kernel
theorem dX6_hasNoRing_4 : decode cX6_hasNoRing 4 = .ok (.getfield 7, 3) := by decide +kernel
theorem dX6_hasNoRing_7 : decode cX6_hasNoRing 7 = .ok (.if_icmp .ge 16, 3) := by decide +kernel
theorem dX6_hasNoRing_10 : decode cX6_hasNoRing 10 = .ok (.aload_n 0, 1) := by decide +kernel
theorem dX6_hasNoRing_11 : decode cX6_hasNoRing 11 = .ok (.getfield 43, 3) := by decide +kernel
theorem dX6_hasNoRing_14 : decode cX6_hasNoRing 14 = .ok (.iload_n 2, 1) := by decide +kernel
theorem dX6_hasNoRing_15 : decode cX6_hasNoRing 15 = .ok (.iload_n 2, 1) := by decide +kernel
theorem dX6_hasNoRing_16 : decode cX6_hasNoRing 16 = .ok (.iastore, 1) := by decide +kernel
theorem dX6_hasNoRing_17 : decode cX6_hasNoRing 17 = .ok (.iinc 2 1, 3) := by decide +kernel
theorem dX6_hasNoRing_20 : decode cX6_hasNoRing 20 = .ok (.goto (-18), 3) := by decide +kernel
theorem dX6_hasNoRing_23 : decode cX6_hasNoRing 23 = .ok (.iconst 0, 1) := by decide +kernel
theorem dX6_hasNoRing_24 : decode cX6_hasNoRing 24 = .ok (.istore_n 2, 1) := by decide +kernel
theorem dX6_hasNoRing_25 : decode cX6_hasNoRing 25 = .ok (.iload_n 2, 1) := by decide +kernel
theorem dX6_hasNoRing_26 : decode cX6_hasNoRing 26 = .ok (.aload_n 0, 1) := by decide +kernel
theorem dX6_hasNoRing_27 : decode cX6_hasNoRing 27 = .ok (.getfield 56, 3) := by decide +kernel
theorem dX6_hasNoRing_30 : decode cX6_hasNoRing 30 = .ok (.if_icmp .ge 98, 3) := by decide +kernel
theorem dX6_hasNoRing_33 : decode cX6_hasNoRing 33 = .ok (.iload_n 1, 1) := by decide +kernel
theorem dX6_hasNoRing_34 : decode cX6_hasNoRing 34 = .ok (.iload_n 2, 1) := by decide +kernel
theorem dX6_hasNoRing_35 : decode cX6_hasNoRing 35 = .ok (.invokestatic 66, 3) := by decide +kernel
theorem dX6_hasNoRing_38 : decode cX6_hasNoRing 38 = .ok (.ifCond .eq 84, 3) := by decide +kernel
theorem dX6_hasNoRing_41 : decode cX6_hasNoRing 41 = .ok (.aload_n 0, 1) := by decide +kernel
theorem dX6_hasNoRing_42 : decode cX6_hasNoRing 42 = .ok (.getfield 43, 3) := by decide +kernel
theorem dX6_hasNoRing_45 : decode cX6_hasNoRing 45 = .ok (.aload_n 0, 1) := by decide +kernel
theorem dX6_hasNoRing_46 : decode cX6_hasNoRing 46 = .ok (.getfield 20, 3) := by decide +kernel
theorem dX6_hasNoRing_49 : decode cX6_hasNoRing 49 = .ok (.iload_n 2, 1) := by decide +kernel
theorem dX6_hasNoRing_50 : decode cX6_hasNoRing 50 = .ok (.iaload, 1) := by decide +kernel
theorem dX6_hasNoRing_51 : decode cX6_hasNoRing 51 = .ok (.iaload, 1) := by decide +kernel
theorem dX6_hasNoRing_52 : decode cX6_hasNoRing 52 = .ok (.istore_n 3, 1) := by decide +kernel
theorem dX6_hasNoRing_53 : decode cX6_hasNoRing 53 = .ok (.aload_n 0, 1) := by decide +kernel
theorem dX6_hasNoRing_54 : decode cX6_hasNoRing 54 = .ok (.getfield 43, 3) := by decide +kernel
theorem dX6_hasNoRing_57 : decode cX6_hasNoRing 57 = .ok (.aload_n 0, 1) := by decide +kernel
theorem dX6_hasNoRing_58 : decode cX6_hasNoRing 58 = .ok (.getfield 23, 3) := by decide +kernel
theorem dX6_hasNoRing_61 : decode cX6_hasNoRing 61 = .ok (.iload_n 2, 1) := by decide +kernel
theorem dX6_hasNoRing_62 : decode cX6_hasNoRing 62 = .ok (.iaload, 1) := by decide +kernel
theorem dX6_hasNoRing_63 : decode cX6_hasNoRing 63 = .ok (.iaload, 1) := by decide +kernel
theorem dX6_hasNoRing_64 : decode cX6_hasNoRing 64 = .ok (.istore 4, 2) := by decide +kernel
theorem dX6_hasNoRing_66 : decode cX6_hasNoRing 66 = .ok (.iload_n 3, 1) := by decide +kernel
theorem dX6_hasNoRing_67 : decode cX6_hasNoRing 67 = .ok (.iload 4, 2) := by decide +kernel
theorem dX6_hasNoRing_69 : decode cX6_hasNoRing 69 = .ok (.if_icmp .ne 5, 3) := by decide +kernel
theorem dX6_hasNoRing_72 : decode cX6_hasNoRing 72 = .ok (.iconst 0, 1) := by decide +kernel
theorem dX6_hasNoRing_73 : decode cX6_hasNoRing 73 = .ok (.ireturn, 1) := by decide +kernel
theorem dX6_hasNoRing_74 : decode cX6_hasNoRing 74 = .ok (.iconst 0, 1) := by decide +kernel
theorem dX6_hasNoRing_75 : decode cX6_hasNoRing 75 = .ok (.istore 5, 2) := by decide +kernel
theorem dX6_hasNoRing_77 : decode cX6_hasNoRing 77 = .ok (.iload 5, 2) := by decide +kernel
theorem dX6_hasNoRing_79 : decode cX6_hasNoRing 79 = .ok (.aload_n 0, 1) := by decide +kernel
theorem dX6_hasNoRing_80 : decode cX6_hasNoRing 80 = .ok (.getfield 7, 3) := by decide +kernel
theorem dX6_hasNoRing_83 : decode cX6_hasNoRing 83 = .ok (.if_icmp .ge 39, 3) := by decide +kernel
theorem dX6_hasNoRing_86 : decode cX6_hasNoRing 86 = .ok (.aload_n 0, 1) := by decide +kernel
theorem dX6_hasNoRing_87 : decode cX6_hasNoRing 87 = .ok (.getfield 43, 3) := by decide +kernel
theorem dX6_hasNoRing_90 : decode cX6_hasNoRing 90 = .ok (.iload 5, 2) := by decide +kernel
theorem dX6_hasNoRing_92 : decode cX6_hasNoRing 92 = .ok (.aload_n 0, 1) := by decide +kernel
theorem dX6_hasNoRing_93 : decode cX6_hasNoRing 93 = .ok (.getfield 43, 3) := by decide +kernel
theorem dX6_hasNoRing_96 : decode cX6_hasNoRing 96 = .ok (.iload 5, 2) := by decide +kernel
theorem dX6_hasNoRing_98 : decode cX6_hasNoRing 98 = .ok (.iaload, 1) := by decide +kernel
theorem dX6_hasNoRing_99 : decode cX6_hasNoRing 99 = .ok (.iload_n 3, 1) := by decide +kernel
theorem dX6_hasNoRing_100 : decode cX6_hasNoRing 100 = .ok (.if_icmp .ne 8, 3) := by decide +kernel
theorem dX6_hasNoRing_103 : decode cX6_hasNoRing 103 = .ok (.iload 4, 2) := by decide +kernel
theorem dX6_hasNoRing_105 : decode cX6_hasNoRing 105 = .ok (.goto 10, 3) := by decide +kernel
theorem dX6_hasNoRing_108 : decode cX6_hasNoRing 108 = .ok (.aload_n 0, 1) := by decide +kernel
theorem dX6_hasNoRing_109 : decode cX6_hasNoRing 109 = .ok (.getfield 43, 3) := by decide +kernel
theorem dX6_hasNoRing_112 : decode cX6_hasNoRing 112 = .ok (.iload 5, 2) := by decide +kernel
theorem dX6_hasNoRing_114 : decode cX6_hasNoRing 114 = .ok (.iaload, 1) := by decide +kernel
theorem dX6_hasNoRing_115 : decode cX6_hasNoRing 115 = .ok (.iastore, 1) := by decide +kernel
theorem dX6_hasNoRing_116 : decode cX6_hasNoRing 116 = .ok (.iinc 5 1, 3) := by decide +kernel
theorem dX6_hasNoRing_119 : decode cX6_hasNoRing 119 = .ok (.goto (-42), 3) := by decide +kernel
theorem dX6_hasNoRing_122 : decode cX6_hasNoRing 122 = .ok (.iinc 2 1, 3) := by decide +kernel
theorem dX6_hasNoRing_125 : decode cX6_hasNoRing 125 = .ok (.goto (-100), 3) := by decide +kernel
theorem dX6_hasNoRing_128 : decode cX6_hasNoRing 128 = .ok (.iconst 1, 1) := by decide +kernel
theorem dX6_hasNoRing_129 : decode cX6_hasNoRing 129 = .ok (.ireturn, 1) := by decide +kernel
set_option maxRecDepth 20000 in
theorem ggX6_keepsLimits_X6_has : GoodIn wsX6_keepsLimits wsX6_has := goodIn_r _ [9] (by decide +kernel) (by decide +kernel)
set_option maxRecDepth 20000 in
theorem gX6_keepsLimits_X6_has : GoodIn wsX6_keepsLimits (va_wsS RX6 66 yX6_has wsX6_has) := goodIn_app (goodIn_of _ (by decide +kernel)) ggX6_keepsLimits_X6_has
theorem dX6_keepsLimits_0 : decode cX6_keepsLimits 0 = .ok (.iconst 0, 1) := by decide +kernel
theorem dX6_keepsLimits_1 : decode cX6_keepsLimits 1 = .ok (.istore_n 2, 1) := by decide +kernel
theorem dX6_keepsLimits_2 : decode cX6_keepsLimits 2 = .ok (.iload_n 2, 1) := by decide +kernel
theorem dX6_keepsLimits_3 : decode cX6_keepsLimits 3 = .ok (.aload_n 0, 1) := by decide +kernel
theorem dX6_keepsLimits_4 : decode cX6_keepsLimits 4 = .ok (.getfield 13, 3) := by decide +kernel
theorem dX6_keepsLimits_7 : decode cX6_keepsLimits 7 = .ok (.if_icmp .ge 16, 3) := by decide +kernel
theorem dX6_keepsLimits_10 : decode cX6_keepsLimits 10 = .ok (.aload_n 0, 1) := by decide +kernel
theorem dX6_keepsLimits_11 : decode cX6_keepsLimits 11 = .ok (.getfield 46, 3) := by decide +kernel
theorem dX6_keepsLimits_14 : decode cX6_keepsLimits 14 = .ok (.iload_n 2, 1) := by decide +kernel
theorem dX6_keepsLimits_15 : decode cX6_keepsLimits 15 = .ok (.iconst 0, 1) := by decide +kernel
theorem dX6_keepsLimits_16 : decode cX6_keepsLimits 16 = .ok (.iastore, 1) := by decide +kernel
theorem dX6_keepsLimits_17 : decode cX6_keepsLimits 17 = .ok (.iinc 2 1, 3) := by decide +kernel
theorem dX6_keepsLimits_20 : decode cX6_keepsLimits 20 = .ok (.goto (-18), 3) := by decide +kernel
theorem dX6_keepsLimits_23 : decode cX6_keepsLimits 23 = .ok (.iconst 1, 1) := by decide +kernel
theorem dX6_keepsLimits_24 : decode cX6_keepsLimits 24 = .ok (.istore_n 2, 1) := by decide +kernel
theorem dX6_keepsLimits_25 : decode cX6_keepsLimits 25 = .ok (.iconst 0, 1) := by decide +kernel
theorem dX6_keepsLimits_26 : decode cX6_keepsLimits 26 = .ok (.istore_n 3, 1) := by decide +kernel
theorem dX6_keepsLimits_27 : decode cX6_keepsLimits 27 = .ok (.iload_n 3, 1) := by decide +kernel
theorem dX6_keepsLimits_28 : decode cX6_keepsLimits 28 = .ok (.aload_n 0, 1) := by decide +kernel
theorem dX6_keepsLimits_29 : decode cX6_keepsLimits 29 = .ok (.getfield 56, 3) := by decide +kernel
theorem dX6_keepsLimits_32 : decode cX6_keepsLimits 32 = .ok (.if_icmp .ge 67, 3) := by decide +kernel
theorem dX6_keepsLimits_35 : decode cX6_keepsLimits 35 = .ok (.iload_n 1, 1) := by decide +kernel
theorem dX6_keepsLimits_36 : decode cX6_keepsLimits 36 = .ok (.iload_n 3, 1) := by decide +kernel
theorem dX6_keepsLimits_37 : decode cX6_keepsLimits 37 = .ok (.invokestatic 66, 3) := by decide +kernel
theorem dX6_keepsLimits_40 : decode cX6_keepsLimits 40 = .ok (.ifCond .eq 53, 3) := by decide +kernel
theorem dX6_keepsLimits_43 : decode cX6_keepsLimits 43 = .ok (.aload_n 0, 1) := by decide +kernel
theorem dX6_keepsLimits_44 : decode cX6_keepsLimits 44 = .ok (.getfield 46, 3) := by decide +kernel
theorem dX6_keepsLimits_47 : decode cX6_keepsLimits 47 = .ok (.aload_n 0, 1) := by decide +kernel
theorem dX6_keepsLimits_48 : decode cX6_keepsLimits 48 = .ok (.getfield 26, 3) := by decide +kernel
theorem dX6_keepsLimits_51 : decode cX6_keepsLimits 51 = .ok (.iload_n 3, 1) := by decide +kernel
theorem dX6_keepsLimits_52 : decode cX6_keepsLimits 52 = .ok (.iaload, 1) := by decide +kernel
theorem dX6_keepsLimits_53 : decode cX6_keepsLimits 53 = .ok (.dup2, 1) := by decide +kernel
theorem dX6_keepsLimits_54 : decode cX6_keepsLimits 54 = .ok (.iaload, 1) := by decide +kernel
theorem dX6_keepsLimits_55 : decode cX6_keepsLimits 55 = .ok (.iconst 1, 1) := by decide +kernel
theorem dX6_keepsLimits_56 : decode cX6_keepsLimits 56 = .ok (.iadd, 1) := by decide +kernel
theorem dX6_keepsLimits_57 : decode cX6_keepsLimits 57 = .ok (.iastore, 1) := by decide +kernel
theorem dX6_keepsLimits_58 : decode cX6_keepsLimits 58 = .ok (.iload_n 2, 1) := by decide +kernel
theorem dX6_keepsLimits_59 : decode cX6_keepsLimits 59 = .ok (.ifCond .eq 32, 3) := by decide +kernel
theorem dX6_keepsLimits_62 : decode cX6_keepsLimits 62 = .ok (.aload_n 0, 1) := by decide +kernel
theorem dX6_keepsLimits_63 : decode cX6_keepsLimits 63 = .ok (.getfield 46, 3) := by decide +kernel
theorem dX6_keepsLimits_66 : decode cX6_keepsLimits 66 = .ok (.aload_n 0, 1) := by decide +kernel
theorem dX6_keepsLimits_67 : decode cX6_keepsLimits 67 = .ok (.getfield 26, 3) := by decide +kernel
theorem dX6_keepsLimits_70 : decode cX6_keepsLimits 70 = .ok (.iload_n 3, 1) := by decide +kernel
theorem dX6_keepsLimits_71 : decode cX6_keepsLimits 71 = .ok (.iaload, 1) := by decide +kernel
theorem dX6_keepsLimits_72 : decode cX6_keepsLimits 72 = .ok (.iaload, 1) := by decide +kernel
theorem dX6_keepsLimits_73 : decode cX6_keepsLimits 73 = .ok (.aload_n 0, 1) := by decide +kernel
theorem dX6_keepsLimits_74 : decode cX6_keepsLimits 74 = .ok (.getfield 16, 3) := by decide +kernel
theorem dX6_keepsLimits_77 : decode cX6_keepsLimits 77 = .ok (.aload_n 0, 1) := by decide +kernel
theorem dX6_keepsLimits_78 : decode cX6_keepsLimits 78 = .ok (.getfield 26, 3) := by decide +kernel
theorem dX6_keepsLimits_81 : decode cX6_keepsLimits 81 = .ok (.iload_n 3, 1) := by decide +kernel
theorem dX6_keepsLimits_82 : decode cX6_keepsLimits 82 = .ok (.iaload, 1) := by decide +kernel
theorem dX6_keepsLimits_83 : decode cX6_keepsLimits 83 = .ok (.iaload, 1) := by decide +kernel
theorem dX6_keepsLimits_84 : decode cX6_keepsLimits 84 = .ok (.if_icmp .gt 7, 3) := by decide +kernel
theorem dX6_keepsLimits_87 : decode cX6_keepsLimits 87 = .ok (.iconst 1, 1) := by decide +kernel
theorem dX6_keepsLimits_88 : decode cX6_keepsLimits 88 = .ok (.goto 4, 3) := by decide +kernel
theorem dX6_keepsLimits_91 : decode cX6_keepsLimits 91 = .ok (.iconst 0, 1) := by decide +kernel
theorem dX6_keepsLimits_92 : decode cX6_keepsLimits 92 = .ok (.istore_n 2, 1) := by decide +kernel
theorem dX6_keepsLimits_93 : decode cX6_keepsLimits 93 = .ok (.iinc 3 1, 3) := by decide +kernel
theorem dX6_keepsLimits_96 : decode cX6_keepsLimits 96 = .ok (.goto (-69), 3) := by decide +kernel
theorem dX6_keepsLimits_99 : decode cX6_keepsLimits 99 = .ok (.iload_n 2, 1) := by decide +kernel
theorem dX6_keepsLimits_100 : decode cX6_keepsLimits 100 = .ok (.ireturn, 1) := by decide +kernel
set_option maxRecDepth 20000 in
theorem ggX6_weightOf_X6_has : GoodIn wsX6_weightOf wsX6_has := goodIn_r _ [6] (by decide +kernel) (by decide +kernel)
set_option maxRecDepth 20000 in
theorem gX6_weightOf_X6_has : GoodIn wsX6_weightOf (va_wsS RX6 66 yX6_has wsX6_has) := goodIn_app (goodIn_of _ (by decide +kernel)) ggX6_weightOf_X6_has
theorem dX6_weightOf_0 : decode cX6_weightOf 0 = .ok (.iconst 0, 1) := by decide +kernel
theorem dX6_weightOf_1 : decode cX6_weightOf 1 = .ok (.istore_n 2, 1) := by decide +kernel
theorem dX6_weightOf_2 : decode cX6_weightOf 2 = .ok (.iconst 0, 1) := by decide +kernel
theorem dX6_weightOf_3 : decode cX6_weightOf 3 = .ok (.istore_n 3, 1) := by decide +kernel
theorem dX6_weightOf_4 : decode cX6_weightOf 4 = .ok (.iload_n 3, 1) := by decide +kernel
theorem dX6_weightOf_5 : decode cX6_weightOf 5 = .ok (.aload_n 0, 1) := by decide +kernel
theorem dX6_weightOf_6 : decode cX6_weightOf 6 = .ok (.getfield 56, 3) := by decide +kernel
theorem dX6_weightOf_9 : decode cX6_weightOf 9 = .ok (.if_icmp .ge 30, 3) := by decide +kernel
theorem dX6_weightOf_12 : decode cX6_weightOf 12 = .ok (.iload_n 2, 1) := by decide +kernel
theorem dX6_weightOf_13 : decode cX6_weightOf 13 = .ok (.iload_n 1, 1) := by decide +kernel
theorem dX6_weightOf_14 : decode cX6_weightOf 14 = .ok (.iload_n 3, 1) := by decide +kernel
theorem dX6_weightOf_15 : decode cX6_weightOf 15 = .ok (.invokestatic 66, 3) := by decide +kernel
theorem dX6_weightOf_18 : decode cX6_weightOf 18 = .ok (.ifCond .eq 12, 3) := by decide +kernel
theorem dX6_weightOf_21 : decode cX6_weightOf 21 = .ok (.aload_n 0, 1) := by decide +kernel
theorem dX6_weightOf_22 : decode cX6_weightOf 22 = .ok (.getfield 29, 3) := by decide +kernel
theorem dX6_weightOf_25 : decode cX6_weightOf 25 = .ok (.iload_n 3, 1) := by decide +kernel
theorem dX6_weightOf_26 : decode cX6_weightOf 26 = .ok (.iaload, 1) := by decide +kernel
theorem dX6_weightOf_27 : decode cX6_weightOf 27 = .ok (.goto 4, 3) := by decide +kernel
theorem dX6_weightOf_30 : decode cX6_weightOf 30 = .ok (.iconst 0, 1) := by decide +kernel
theorem dX6_weightOf_31 : decode cX6_weightOf 31 = .ok (.iadd, 1) := by decide +kernel
theorem dX6_weightOf_32 : decode cX6_weightOf 32 = .ok (.istore_n 2, 1) := by decide +kernel
theorem dX6_weightOf_33 : decode cX6_weightOf 33 = .ok (.iinc 3 1, 3) := by decide +kernel
theorem dX6_weightOf_36 : decode cX6_weightOf 36 = .ok (.goto (-32), 3) := by decide +kernel
theorem dX6_weightOf_39 : decode cX6_weightOf 39 = .ok (.iload_n 2, 1) := by decide +kernel
theorem dX6_weightOf_40 : decode cX6_weightOf 40 = .ok (.ireturn, 1) := by decide +kernel
set_option maxRecDepth 20000 in
theorem ggX6_learn_X6_hasNoRing : GoodIn wsX6_learn wsX6_hasNoRing := goodIn_r _ [11, 12, 13, 4, 14, 15, 16, 17, 10, 18, 35, 36, 37, 38, 39, 40, 41, 42, 43, 44, 45, 46, 47, 48, 49, 50] (by decide +kernel) (by decide +kernel)
set_option maxRecDepth 20000 in
theorem gX6_learn_X6_hasNoRing : GoodIn wsX6_learn (wsV RX6 73 RX6 yX6_hasNoRing wsX6_hasNoRing) := goodIn_app (goodIn_of _ (by decide +kernel)) ggX6_learn_X6_hasNoRing
set_option maxRecDepth 20000 in
theorem ggX6_learn_X6_keepsLimits : GoodIn wsX6_learn wsX6_keepsLimits := goodIn_r _ [22, 23, 24, 4, 25, 26, 16, 17, 10, 18, 35, 36, 37, 38, 39, 40, 41, 42, 43, 44, 45, 46, 47, 48, 49, 50] (by decide +kernel) (by decide +kernel)
set_option maxRecDepth 20000 in
theorem gX6_learn_X6_keepsLimits : GoodIn wsX6_learn (wsV RX6 76 RX6 yX6_keepsLimits wsX6_keepsLimits) := goodIn_app (goodIn_of _ (by decide +kernel)) ggX6_learn_X6_keepsLimits
set_option maxRecDepth 20000 in
theorem ggX6_learn_X6_size : GoodIn wsX6_learn wsX6_size := goodIn_r _ [29] (by decide +kernel) (by decide +kernel)
set_option maxRecDepth 20000 in
theorem gX6_learn_X6_size : GoodIn wsX6_learn (va_wsS RX6 79 yX6_size wsX6_size) := goodIn_app (goodIn_of _ (by decide +kernel)) ggX6_learn_X6_size
set_option maxRecDepth 20000 in
theorem ggX6_learn_X6_has : GoodIn wsX6_learn wsX6_has := goodIn_r _ [18] (by decide +kernel) (by decide +kernel)
set_option maxRecDepth 20000 in
theorem gX6_learn_X6_has : GoodIn wsX6_learn (va_wsS RX6 66 yX6_has wsX6_has) := goodIn_app (goodIn_of _ (by decide +kernel)) ggX6_learn_X6_has
set_option maxRecDepth 20000 in
theorem ggX6_learn_X6_weightOf : GoodIn wsX6_learn wsX6_weightOf := goodIn_r _ [33, 4, 34, 16, 17, 10, 18, 35, 36, 37, 38, 39, 40, 41, 42, 43, 44, 45, 46, 47, 48, 49, 50] (by decide +kernel) (by decide +kernel)
set_option maxRecDepth 20000 in
theorem gX6_learn_X6_weightOf : GoodIn wsX6_learn (wsV RX6 83 RX6 yX6_weightOf wsX6_weightOf) := goodIn_app (goodIn_of _ (by decide +kernel)) ggX6_learn_X6_weightOf
theorem dX6_learn_0 : decode cX6_learn 0 = .ok (.aload_n 0, 1) := by decide +kernel
theorem dX6_learn_1 : decode cX6_learn 1 = .ok (.getfield 59, 3) := by decide +kernel
theorem dX6_learn_4 : decode cX6_learn 4 = .ok (.ifCond .eq 4, 3) := by decide +kernel
theorem dX6_learn_7 : decode cX6_learn 7 = .ok (.return_, 1) := by decide +kernel
theorem dX6_learn_8 : decode cX6_learn 8 = .ok (.aload_n 0, 1) := by decide +kernel
theorem dX6_learn_9 : decode cX6_learn 9 = .ok (.iconst 1, 1) := by decide +kernel
theorem dX6_learn_10 : decode cX6_learn 10 = .ok (.putfield 59, 3) := by decide +kernel
theorem dX6_learn_13 : decode cX6_learn 13 = .ok (.aload_n 0, 1) := by decide +kernel
theorem dX6_learn_14 : decode cX6_learn 14 = .ok (.iconst 0, 1) := by decide +kernel
theorem dX6_learn_15 : decode cX6_learn 15 = .ok (.putfield 70, 3) := by decide +kernel
theorem dX6_learn_18 : decode cX6_learn 18 = .ok (.iconst 0, 1) := by decide +kernel
theorem dX6_learn_19 : decode cX6_learn 19 = .ok (.istore_n 1, 1) := by decide +kernel
theorem dX6_learn_20 : decode cX6_learn 20 = .ok (.iload_n 1, 1) := by decide +kernel
theorem dX6_learn_21 : decode cX6_learn 21 = .ok (.bipush 15, 2) := by decide +kernel
theorem dX6_learn_23 : decode cX6_learn 23 = .ok (.if_icmp .ge 16, 3) := by decide +kernel
theorem dX6_learn_26 : decode cX6_learn 26 = .ok (.aload_n 0, 1) := by decide +kernel
theorem dX6_learn_27 : decode cX6_learn 27 = .ok (.getfield 40, 3) := by decide +kernel
theorem dX6_learn_30 : decode cX6_learn 30 = .ok (.iload_n 1, 1) := by decide +kernel
theorem dX6_learn_31 : decode cX6_learn 31 = .ok (.iconst (-1), 1) := by decide +kernel
theorem dX6_learn_32 : decode cX6_learn 32 = .ok (.iastore, 1) := by decide +kernel
theorem dX6_learn_33 : decode cX6_learn 33 = .ok (.iinc 1 1, 3) := by decide +kernel
theorem dX6_learn_36 : decode cX6_learn 36 = .ok (.goto (-16), 3) := by decide +kernel
theorem dX6_learn_39 : decode cX6_learn 39 = .ok (.iconst 0, 1) := by decide +kernel
theorem dX6_learn_40 : decode cX6_learn 40 = .ok (.istore_n 1, 1) := by decide +kernel
theorem dX6_learn_41 : decode cX6_learn 41 = .ok (.iload_n 1, 1) := by decide +kernel
theorem dX6_learn_42 : decode cX6_learn 42 = .ok (.iconst 1, 1) := by decide +kernel
theorem dX6_learn_43 : decode cX6_learn 43 = .ok (.aload_n 0, 1) := by decide +kernel
theorem dX6_learn_44 : decode cX6_learn 44 = .ok (.getfield 56, 3) := by decide +kernel
theorem dX6_learn_47 : decode cX6_learn 47 = .ok (.ishl, 1) := by decide +kernel
theorem dX6_learn_48 : decode cX6_learn 48 = .ok (.if_icmp .ge 253, 3) := by decide +kernel
theorem dX6_learn_51 : decode cX6_learn 51 = .ok (.aload_n 0, 1) := by decide +kernel
theorem dX6_learn_52 : decode cX6_learn 52 = .ok (.getfield 33, 3) := by decide +kernel
theorem dX6_learn_55 : decode cX6_learn 55 = .ok (.iload_n 1, 1) := by decide +kernel
theorem dX6_learn_56 : decode cX6_learn 56 = .ok (.aload_n 0, 1) := by decide +kernel
theorem dX6_learn_57 : decode cX6_learn 57 = .ok (.iload_n 1, 1) := by decide +kernel
theorem dX6_learn_58 : decode cX6_learn 58 = .ok (.invokevirtual 73, 3) := by decide +kernel
theorem dX6_learn_61 : decode cX6_learn 61 = .ok (.bastore, 1) := by decide +kernel
theorem dX6_learn_62 : decode cX6_learn 62 = .ok (.aload_n 0, 1) := by decide +kernel
theorem dX6_learn_63 : decode cX6_learn 63 = .ok (.getfield 33, 3) := by decide +kernel
theorem dX6_learn_66 : decode cX6_learn 66 = .ok (.sipush 16384, 3) := by decide +kernel
theorem dX6_learn_69 : decode cX6_learn 69 = .ok (.iload_n 1, 1) := by decide +kernel
theorem dX6_learn_70 : decode cX6_learn 70 = .ok (.iadd, 1) := by decide +kernel
theorem dX6_learn_71 : decode cX6_learn 71 = .ok (.aload_n 0, 1) := by decide +kernel
theorem dX6_learn_72 : decode cX6_learn 72 = .ok (.iload_n 1, 1) := by decide +kernel
theorem dX6_learn_73 : decode cX6_learn 73 = .ok (.invokevirtual 76, 3) := by decide +kernel
theorem dX6_learn_76 : decode cX6_learn 76 = .ok (.bastore, 1) := by decide +kernel
theorem dX6_learn_77 : decode cX6_learn 77 = .ok (.iconst 0, 1) := by decide +kernel
theorem dX6_learn_78 : decode cX6_learn 78 = .ok (.istore_n 2, 1) := by decide +kernel
theorem dX6_learn_79 : decode cX6_learn 79 = .ok (.iload_n 2, 1) := by decide +kernel
theorem dX6_learn_80 : decode cX6_learn 80 = .ok (.iconst 2, 1) := by decide +kernel
theorem dX6_learn_81 : decode cX6_learn 81 = .ok (.if_icmp .ge 133, 3) := by decide +kernel
theorem dX6_learn_84 : decode cX6_learn 84 = .ok (.sipush 16384, 3) := by decide +kernel
theorem dX6_learn_87 : decode cX6_learn 87 = .ok (.iload_n 2, 1) := by decide +kernel
theorem dX6_learn_88 : decode cX6_learn 88 = .ok (.imul, 1) := by decide +kernel
theorem dX6_learn_89 : decode cX6_learn 89 = .ok (.istore_n 3, 1) := by decide +kernel
theorem dX6_learn_90 : decode cX6_learn 90 = .ok (.aload_n 0, 1) := by decide +kernel
theorem dX6_learn_91 : decode cX6_learn 91 = .ok (.getfield 37, 3) := by decide +kernel
theorem dX6_learn_94 : decode cX6_learn 94 = .ok (.iload_n 3, 1) := by decide +kernel
theorem dX6_learn_95 : decode cX6_learn 95 = .ok (.iload_n 1, 1) := by decide +kernel
theorem dX6_learn_96 : decode cX6_learn 96 = .ok (.iadd, 1) := by decide +kernel
theorem dX6_learn_97 : decode cX6_learn 97 = .ok (.aload_n 0, 1) := by decide +kernel
theorem dX6_learn_98 : decode cX6_learn 98 = .ok (.getfield 33, 3) := by decide +kernel
theorem dX6_learn_101 : decode cX6_learn 101 = .ok (.iload_n 3, 1) := by decide +kernel
theorem dX6_learn_102 : decode cX6_learn 102 = .ok (.iload_n 1, 1) := by decide +kernel
theorem dX6_learn_103 : decode cX6_learn 103 = .ok (.iadd, 1) := by decide +kernel
theorem dX6_learn_104 : decode cX6_learn 104 = .ok (.baload, 1) := by decide +kernel
theorem dX6_learn_105 : decode cX6_learn 105 = .ok (.ifCond .eq 10, 3) := by decide +kernel
theorem dX6_learn_108 : decode cX6_learn 108 = .ok (.iload_n 1, 1) := by decide +kernel
theorem dX6_learn_109 : decode cX6_learn 109 = .ok (.invokestatic 79, 3) := by decide +kernel
theorem dX6_learn_112 : decode cX6_learn 112 = .ok (.goto 4, 3) := by decide +kernel
theorem dX6_learn_115 : decode cX6_learn 115 = .ok (.iconst 0, 1) := by decide +kernel
theorem dX6_learn_116 : decode cX6_learn 116 = .ok (.iastore, 1) := by decide +kernel
theorem dX6_learn_117 : decode cX6_learn 117 = .ok (.iconst 0, 1) := by decide +kernel
theorem dX6_learn_118 : decode cX6_learn 118 = .ok (.istore 4, 2) := by decide +kernel
theorem dX6_learn_120 : decode cX6_learn 120 = .ok (.iload 4, 2) := by decide +kernel
theorem dX6_learn_122 : decode cX6_learn 122 = .ok (.aload_n 0, 1) := by decide +kernel
theorem dX6_learn_123 : decode cX6_learn 123 = .ok (.getfield 56, 3) := by decide +kernel
theorem dX6_learn_126 : decode cX6_learn 126 = .ok (.if_icmp .ge 82, 3) := by decide +kernel
theorem dX6_learn_129 : decode cX6_learn 129 = .ok (.aload_n 0, 1) := by decide +kernel
theorem dX6_learn_130 : decode cX6_learn 130 = .ok (.getfield 33, 3) := by decide +kernel
theorem dX6_learn_133 : decode cX6_learn 133 = .ok (.iload_n 3, 1) := by decide +kernel
theorem dX6_learn_134 : decode cX6_learn 134 = .ok (.iload_n 1, 1) := by decide +kernel
theorem dX6_learn_135 : decode cX6_learn 135 = .ok (.iadd, 1) := by decide +kernel
theorem dX6_learn_136 : decode cX6_learn 136 = .ok (.baload, 1) := by decide +kernel
theorem dX6_learn_137 : decode cX6_learn 137 = .ok (.ifCond .ne 71, 3) := by decide +kernel
theorem dX6_learn_140 : decode cX6_learn 140 = .ok (.iload_n 1, 1) := by decide +kernel
theorem dX6_learn_141 : decode cX6_learn 141 = .ok (.iload 4, 2) := by decide +kernel
theorem dX6_learn_143 : decode cX6_learn 143 = .ok (.invokestatic 66, 3) := by decide +kernel
theorem dX6_learn_146 : decode cX6_learn 146 = .ok (.ifCond .eq 19, 3) := by decide +kernel
theorem dX6_learn_149 : decode cX6_learn 149 = .ok (.aload_n 0, 1) := by decide +kernel
theorem dX6_learn_150 : decode cX6_learn 150 = .ok (.getfield 37, 3) := by decide +kernel
theorem dX6_learn_153 : decode cX6_learn 153 = .ok (.iload_n 3, 1) := by decide +kernel
theorem dX6_learn_154 : decode cX6_learn 154 = .ok (.iload_n 1, 1) := by decide +kernel
theorem dX6_learn_155 : decode cX6_learn 155 = .ok (.iconst 1, 1) := by decide +kernel
theorem dX6_learn_156 : decode cX6_learn 156 = .ok (.iload 4, 2) := by decide +kernel
theorem dX6_learn_158 : decode cX6_learn 158 = .ok (.ishl, 1) := by decide +kernel
theorem dX6_learn_159 : decode cX6_learn 159 = .ok (.ixor, 1) := by decide +kernel
theorem dX6_learn_160 : decode cX6_learn 160 = .ok (.iadd, 1) := by decide +kernel
theorem dX6_learn_161 : decode cX6_learn 161 = .ok (.iaload, 1) := by decide +kernel
theorem dX6_learn_162 : decode cX6_learn 162 = .ok (.goto 4, 3) := by decide +kernel
theorem dX6_learn_165 : decode cX6_learn 165 = .ok (.iconst 0, 1) := by decide +kernel
theorem dX6_learn_166 : decode cX6_learn 166 = .ok (.istore 5, 2) := by decide +kernel
theorem dX6_learn_168 : decode cX6_learn 168 = .ok (.aload_n 0, 1) := by decide +kernel
theorem dX6_learn_169 : decode cX6_learn 169 = .ok (.getfield 37, 3) := by decide +kernel
theorem dX6_learn_172 : decode cX6_learn 172 = .ok (.iload_n 3, 1) := by decide +kernel
theorem dX6_learn_173 : decode cX6_learn 173 = .ok (.iload_n 1, 1) := by decide +kernel
theorem dX6_learn_174 : decode cX6_learn 174 = .ok (.iadd, 1) := by decide +kernel
theorem dX6_learn_175 : decode cX6_learn 175 = .ok (.iload 5, 2) := by decide +kernel
theorem dX6_learn_177 : decode cX6_learn 177 = .ok (.aload_n 0, 1) := by decide +kernel
theorem dX6_learn_178 : decode cX6_learn 178 = .ok (.getfield 37, 3) := by decide +kernel
theorem dX6_learn_181 : decode cX6_learn 181 = .ok (.iload_n 3, 1) := by decide +kernel
theorem dX6_learn_182 : decode cX6_learn 182 = .ok (.iload_n 1, 1) := by decide +kernel
theorem dX6_learn_183 : decode cX6_learn 183 = .ok (.iadd, 1) := by decide +kernel
theorem dX6_learn_184 : decode cX6_learn 184 = .ok (.iaload, 1) := by decide +kernel
theorem dX6_learn_185 : decode cX6_learn 185 = .ok (.if_icmp .le 8, 3) := by decide +kernel
theorem dX6_learn_188 : decode cX6_learn 188 = .ok (.iload 5, 2) := by decide +kernel
theorem dX6_learn_190 : decode cX6_learn 190 = .ok (.goto 11, 3) := by decide +kernel
theorem dX6_learn_193 : decode cX6_learn 193 = .ok (.aload_n 0, 1) := by decide +kernel
theorem dX6_learn_194 : decode cX6_learn 194 = .ok (.getfield 37, 3) := by decide +kernel
theorem dX6_learn_197 : decode cX6_learn 197 = .ok (.iload_n 3, 1) := by decide +kernel
theorem dX6_learn_198 : decode cX6_learn 198 = .ok (.iload_n 1, 1) := by decide +kernel
theorem dX6_learn_199 : decode cX6_learn 199 = .ok (.iadd, 1) := by decide +kernel
theorem dX6_learn_200 : decode cX6_learn 200 = .ok (.iaload, 1) := by decide +kernel
theorem dX6_learn_201 : decode cX6_learn 201 = .ok (.iastore, 1) := by decide +kernel
theorem dX6_learn_202 : decode cX6_learn 202 = .ok (.iinc 4 1, 3) := by decide +kernel
theorem dX6_learn_205 : decode cX6_learn 205 = .ok (.goto (-85), 3) := by decide +kernel
theorem dX6_learn_208 : decode cX6_learn 208 = .ok (.iinc 2 1, 3) := by decide +kernel
theorem dX6_learn_211 : decode cX6_learn 211 = .ok (.goto (-132), 3) := by decide +kernel
theorem dX6_learn_214 : decode cX6_learn 214 = .ok (.iload_n 1, 1) := by decide +kernel
theorem dX6_learn_215 : decode cX6_learn 215 = .ok (.invokestatic 79, 3) := by decide +kernel
theorem dX6_learn_218 : decode cX6_learn 218 = .ok (.istore_n 2, 1) := by decide +kernel
theorem dX6_learn_219 : decode cX6_learn 219 = .ok (.aload_n 0, 1) := by decide +kernel
theorem dX6_learn_220 : decode cX6_learn 220 = .ok (.getfield 33, 3) := by decide +kernel
theorem dX6_learn_223 : decode cX6_learn 223 = .ok (.iload_n 1, 1) := by decide +kernel
theorem dX6_learn_224 : decode cX6_learn 224 = .ok (.baload, 1) := by decide +kernel
theorem dX6_learn_225 : decode cX6_learn 225 = .ok (.ifCond .eq 70, 3) := by decide +kernel
theorem dX6_learn_228 : decode cX6_learn 228 = .ok (.aload_n 0, 1) := by decide +kernel
theorem dX6_learn_229 : decode cX6_learn 229 = .ok (.getfield 33, 3) := by decide +kernel
theorem dX6_learn_232 : decode cX6_learn 232 = .ok (.sipush 16384, 3) := by decide +kernel
theorem dX6_learn_235 : decode cX6_learn 235 = .ok (.iload_n 1, 1) := by decide +kernel
theorem dX6_learn_236 : decode cX6_learn 236 = .ok (.iadd, 1) := by decide +kernel
theorem dX6_learn_237 : decode cX6_learn 237 = .ok (.baload, 1) := by decide +kernel
theorem dX6_learn_238 : decode cX6_learn 238 = .ok (.ifCond .eq 57, 3) := by decide +kernel
theorem dX6_learn_241 : decode cX6_learn 241 = .ok (.aload_n 0, 1) := by decide +kernel
theorem dX6_learn_242 : decode cX6_learn 242 = .ok (.getfield 40, 3) := by decide +kernel
theorem dX6_learn_245 : decode cX6_learn 245 = .ok (.iload_n 2, 1) := by decide +kernel
theorem dX6_learn_246 : decode cX6_learn 246 = .ok (.iaload, 1) := by decide +kernel
theorem dX6_learn_247 : decode cX6_learn 247 = .ok (.ifCond .lt 21, 3) := by decide +kernel
theorem dX6_learn_250 : decode cX6_learn 250 = .ok (.aload_n 0, 1) := by decide +kernel
theorem dX6_learn_251 : decode cX6_learn 251 = .ok (.iload_n 1, 1) := by decide +kernel
theorem dX6_learn_252 : decode cX6_learn 252 = .ok (.invokevirtual 83, 3) := by decide +kernel
theorem dX6_learn_255 : decode cX6_learn 255 = .ok (.aload_n 0, 1) := by decide +kernel
theorem dX6_learn_256 : decode cX6_learn 256 = .ok (.aload_n 0, 1) := by decide +kernel
theorem dX6_learn_257 : decode cX6_learn 257 = .ok (.getfield 40, 3) := by decide +kernel
theorem dX6_learn_260 : decode cX6_learn 260 = .ok (.iload_n 2, 1) := by decide +kernel
theorem dX6_learn_261 : decode cX6_learn 261 = .ok (.iaload, 1) := by decide +kernel
theorem dX6_learn_262 : decode cX6_learn 262 = .ok (.invokevirtual 83, 3) := by decide +kernel
theorem dX6_learn_265 : decode cX6_learn 265 = .ok (.if_icmp .le 30, 3) := by decide +kernel
theorem dX6_learn_268 : decode cX6_learn 268 = .ok (.aload_n 0, 1) := by decide +kernel
theorem dX6_learn_269 : decode cX6_learn 269 = .ok (.getfield 40, 3) := by decide +kernel
theorem dX6_learn_272 : decode cX6_learn 272 = .ok (.iload_n 2, 1) := by decide +kernel
theorem dX6_learn_273 : decode cX6_learn 273 = .ok (.iload_n 1, 1) := by decide +kernel
theorem dX6_learn_274 : decode cX6_learn 274 = .ok (.iastore, 1) := by decide +kernel
theorem dX6_learn_275 : decode cX6_learn 275 = .ok (.aload_n 0, 1) := by decide +kernel
theorem dX6_learn_276 : decode cX6_learn 276 = .ok (.iload_n 2, 1) := by decide +kernel
theorem dX6_learn_277 : decode cX6_learn 277 = .ok (.aload_n 0, 1) := by decide +kernel
theorem dX6_learn_278 : decode cX6_learn 278 = .ok (.getfield 70, 3) := by decide +kernel
theorem dX6_learn_281 : decode cX6_learn 281 = .ok (.if_icmp .le 7, 3) := by decide +kernel
theorem dX6_learn_284 : decode cX6_learn 284 = .ok (.iload_n 2, 1) := by decide +kernel
theorem dX6_learn_285 : decode cX6_learn 285 = .ok (.goto 7, 3) := by decide +kernel
theorem dX6_learn_288 : decode cX6_learn 288 = .ok (.aload_n 0, 1) := by decide +kernel
theorem dX6_learn_289 : decode cX6_learn 289 = .ok (.getfield 70, 3) := by decide +kernel
theorem dX6_learn_292 : decode cX6_learn 292 = .ok (.putfield 70, 3) := by decide +kernel
theorem dX6_learn_295 : decode cX6_learn 295 = .ok (.iinc 1 1, 3) := by decide +kernel
theorem dX6_learn_298 : decode cX6_learn 298 = .ok (.goto (-257), 3) := by decide +kernel
theorem dX6_learn_301 : decode cX6_learn 301 = .ok (.return_, 1) := by decide +kernel
theorem dX6_isSet_0 : decode cX6_isSet 0 = .ok (.iload_n 1, 1) := by decide +kernel
theorem dX6_isSet_1 : decode cX6_isSet 1 = .ok (.ifCond .lt 17, 3) := by decide +kernel
theorem dX6_isSet_4 : decode cX6_isSet 4 = .ok (.iload_n 1, 1) := by decide +kernel
theorem dX6_isSet_5 : decode cX6_isSet 5 = .ok (.iconst 1, 1) := by decide +kernel
theorem dX6_isSet_6 : decode cX6_isSet 6 = .ok (.aload_n 0, 1) := by decide +kernel
theorem dX6_isSet_7 : decode cX6_isSet 7 = .ok (.getfield 56, 3) := by decide +kernel
theorem dX6_isSet_10 : decode cX6_isSet 10 = .ok (.ishl, 1) := by decide +kernel
theorem dX6_isSet_11 : decode cX6_isSet 11 = .ok (.if_icmp .ge 7, 3) := by decide +kernel
theorem dX6_isSet_14 : decode cX6_isSet 14 = .ok (.iconst 1, 1) := by decide +kernel
theorem dX6_isSet_15 : decode cX6_isSet 15 = .ok (.goto 4, 3) := by decide +kernel
theorem dX6_isSet_18 : decode cX6_isSet 18 = .ok (.iconst 0, 1) := by decide +kernel
theorem dX6_isSet_19 : decode cX6_isSet 19 = .ok (.ireturn, 1) := by decide +kernel
theorem dX6_isKind_0 : decode cX6_isKind 0 = .ok (.iload_n 0, 1) := by decide +kernel
theorem dX6_isKind_1 : decode cX6_isKind 1 = .ok (.ifCond .eq 8, 3) := by decide +kernel
theorem dX6_isKind_4 : decode cX6_isKind 4 = .ok (.iload_n 0, 1) := by decide +kernel
theorem dX6_isKind_5 : decode cX6_isKind 5 = .ok (.iconst 1, 1) := by decide +kernel
theorem dX6_isKind_6 : decode cX6_isKind 6 = .ok (.if_icmp .ne 7, 3) := by decide +kernel
theorem dX6_isKind_9 : decode cX6_isKind 9 = .ok (.iconst 1, 1) := by decide +kernel
theorem dX6_isKind_10 : decode cX6_isKind 10 = .ok (.goto 4, 3) := by decide +kernel
theorem dX6_isKind_13 : decode cX6_isKind 13 = .ok (.iconst 0, 1) := by decide +kernel
theorem dX6_isKind_14 : decode cX6_isKind 14 = .ok (.ireturn, 1) := by decide +kernel
set_option maxRecDepth 20000 in
theorem ggX6_count_X6_learn : GoodIn wsX6_count wsX6_learn := goodIn_r _ [11, 12, 13, 14, 3, 4, 2, 15, 16, 17, 10, 18, 5, 19, 20, 21, 22, 23, 24, 25, 26, 27, 28, 6, 29, 30, 31, 32, 33, 34, 35, 36, 37, 38, 39, 40, 41, 42, 43, 44, 45, 46, 47, 48, 49, 50, 51, 52, 53, 54, 55] (by decide +kernel) (by decide +kernel)
set_option maxRecDepth 20000 in
theorem gX6_count_X6_learn : GoodIn wsX6_count (wsV RX6 86 RX6 yX6_learn wsX6_learn) := goodIn_app (goodIn_of _ (by decide +kernel)) ggX6_count_X6_learn
set_option maxRecDepth 20000 in
theorem ggX6_count_X6_size : GoodIn wsX6_count wsX6_size := goodIn_r _ [34] (by decide +kernel) (by decide +kernel)
set_option maxRecDepth 20000 in
theorem gX6_count_X6_size : GoodIn wsX6_count (va_wsS RX6 79 yX6_size wsX6_size) := goodIn_app (goodIn_of _ (by decide +kernel)) ggX6_count_X6_size
theorem dX6_count_0 : decode cX6_count 0 = .ok (.aload_n 0, 1) := by decide +kernel
theorem dX6_count_1 : decode cX6_count 1 = .ok (.iconst 0, 1) := by decide +kernel
theorem dX6_count_2 : decode cX6_count 2 = .ok (.putfield 49, 3) := by decide +kernel
theorem dX6_count_5 : decode cX6_count 5 = .ok (.aload_n 0, 1) := by decide +kernel
theorem dX6_count_6 : decode cX6_count 6 = .ok (.invokevirtual 86, 3) := by decide +kernel
theorem dX6_count_9 : decode cX6_count 9 = .ok (.iconst 0, 1) := by decide +kernel
theorem dX6_count_10 : decode cX6_count 10 = .ok (.istore_n 2, 1) := by decide +kernel
theorem dX6_count_11 : decode cX6_count 11 = .ok (.aload_n 0, 1) := by decide +kernel
theorem dX6_count_12 : decode cX6_count 12 = .ok (.getfield 37, 3) := by decide +kernel
theorem dX6_count_15 : decode cX6_count 15 = .ok (.iconst 1, 1) := by decide +kernel
theorem dX6_count_16 : decode cX6_count 16 = .ok (.aload_n 0, 1) := by decide +kernel
theorem dX6_count_17 : decode cX6_count 17 = .ok (.getfield 56, 3) := by decide +kernel
theorem dX6_count_20 : decode cX6_count 20 = .ok (.ishl, 1) := by decide +kernel
theorem dX6_count_21 : decode cX6_count 21 = .ok (.iconst 1, 1) := by decide +kernel
theorem dX6_count_22 : decode cX6_count 22 = .ok (.isub, 1) := by decide +kernel
theorem dX6_count_23 : decode cX6_count 23 = .ok (.iaload, 1) := by decide +kernel
theorem dX6_count_24 : decode cX6_count 24 = .ok (.istore_n 3, 1) := by decide +kernel
theorem dX6_count_25 : decode cX6_count 25 = .ok (.iconst 0, 1) := by decide +kernel
theorem dX6_count_26 : decode cX6_count 26 = .ok (.istore 4, 2) := by decide +kernel
theorem dX6_count_28 : decode cX6_count 28 = .ok (.iload 4, 2) := by decide +kernel
theorem dX6_count_30 : decode cX6_count 30 = .ok (.iconst 1, 1) := by decide +kernel
theorem dX6_count_31 : decode cX6_count 31 = .ok (.aload_n 0, 1) := by decide +kernel
theorem dX6_count_32 : decode cX6_count 32 = .ok (.getfield 56, 3) := by decide +kernel
theorem dX6_count_35 : decode cX6_count 35 = .ok (.ishl, 1) := by decide +kernel
theorem dX6_count_36 : decode cX6_count 36 = .ok (.if_icmp .ge 85, 3) := by decide +kernel
theorem dX6_count_39 : decode cX6_count 39 = .ok (.iload_n 1, 1) := by decide +kernel
theorem dX6_count_40 : decode cX6_count 40 = .ok (.iconst 3, 1) := by decide +kernel
theorem dX6_count_41 : decode cX6_count 41 = .ok (.if_icmp .ne 30, 3) := by decide +kernel
theorem dX6_count_44 : decode cX6_count 44 = .ok (.aload_n 0, 1) := by decide +kernel
theorem dX6_count_45 : decode cX6_count 45 = .ok (.getfield 33, 3) := by decide +kernel
theorem dX6_count_48 : decode cX6_count 48 = .ok (.iload 4, 2) := by decide +kernel
theorem dX6_count_50 : decode cX6_count 50 = .ok (.baload, 1) := by decide +kernel
theorem dX6_count_51 : decode cX6_count 51 = .ok (.ifCond .eq 16, 3) := by decide +kernel
theorem dX6_count_54 : decode cX6_count 54 = .ok (.iload 4, 2) := by decide +kernel
theorem dX6_count_56 : decode cX6_count 56 = .ok (.invokestatic 79, 3) := by decide +kernel
theorem dX6_count_59 : decode cX6_count 59 = .ok (.iload_n 3, 1) := by decide +kernel
theorem dX6_count_60 : decode cX6_count 60 = .ok (.if_icmp .ne 7, 3) := by decide +kernel
theorem dX6_count_63 : decode cX6_count 63 = .ok (.iconst 1, 1) := by decide +kernel
theorem dX6_count_64 : decode cX6_count 64 = .ok (.goto 36, 3) := by decide +kernel
theorem dX6_count_67 : decode cX6_count 67 = .ok (.iconst 0, 1) := by decide +kernel
theorem dX6_count_68 : decode cX6_count 68 = .ok (.goto 32, 3) := by decide +kernel
theorem dX6_count_71 : decode cX6_count 71 = .ok (.aload_n 0, 1) := by decide +kernel
theorem dX6_count_72 : decode cX6_count 72 = .ok (.getfield 33, 3) := by decide +kernel
theorem dX6_count_75 : decode cX6_count 75 = .ok (.iload 4, 2) := by decide +kernel
theorem dX6_count_77 : decode cX6_count 77 = .ok (.baload, 1) := by decide +kernel
theorem dX6_count_78 : decode cX6_count 78 = .ok (.ifCond .eq 21, 3) := by decide +kernel
theorem dX6_count_81 : decode cX6_count 81 = .ok (.aload_n 0, 1) := by decide +kernel
theorem dX6_count_82 : decode cX6_count 82 = .ok (.getfield 33, 3) := by decide +kernel
theorem dX6_count_85 : decode cX6_count 85 = .ok (.sipush 16384, 3) := by decide +kernel
theorem dX6_count_88 : decode cX6_count 88 = .ok (.iload 4, 2) := by decide +kernel
theorem dX6_count_90 : decode cX6_count 90 = .ok (.iadd, 1) := by decide +kernel
theorem dX6_count_91 : decode cX6_count 91 = .ok (.baload, 1) := by decide +kernel
theorem dX6_count_92 : decode cX6_count 92 = .ok (.ifCond .eq 7, 3) := by decide +kernel
theorem dX6_count_95 : decode cX6_count 95 = .ok (.iconst 1, 1) := by decide +kernel
theorem dX6_count_96 : decode cX6_count 96 = .ok (.goto 4, 3) := by decide +kernel
theorem dX6_count_99 : decode cX6_count 99 = .ok (.iconst 0, 1) := by decide +kernel
theorem dX6_count_100 : decode cX6_count 100 = .ok (.istore 5, 2) := by decide +kernel
theorem dX6_count_102 : decode cX6_count 102 = .ok (.iload_n 2, 1) := by decide +kernel
theorem dX6_count_103 : decode cX6_count 103 = .ok (.iload 5, 2) := by decide +kernel
theorem dX6_count_105 : decode cX6_count 105 = .ok (.ifCond .eq 7, 3) := by decide +kernel
theorem dX6_count_108 : decode cX6_count 108 = .ok (.iconst 1, 1) := by decide +kernel
theorem dX6_count_109 : decode cX6_count 109 = .ok (.goto 4, 3) := by decide +kernel
theorem dX6_count_112 : decode cX6_count 112 = .ok (.iconst 0, 1) := by decide +kernel
theorem dX6_count_113 : decode cX6_count 113 = .ok (.iadd, 1) := by decide +kernel
theorem dX6_count_114 : decode cX6_count 114 = .ok (.istore_n 2, 1) := by decide +kernel
theorem dX6_count_115 : decode cX6_count 115 = .ok (.iinc 4 1, 3) := by decide +kernel
theorem dX6_count_118 : decode cX6_count 118 = .ok (.goto (-90), 3) := by decide +kernel
theorem dX6_count_121 : decode cX6_count 121 = .ok (.iload_n 1, 1) := by decide +kernel
theorem dX6_count_122 : decode cX6_count 122 = .ok (.tableswitch 51 0 4 #[34, 39, 44, 49, 49], 34) := by decide +kernel
theorem dX6_count_156 : decode cX6_count 156 = .ok (.aload_n 0, 1) := by decide +kernel
theorem dX6_count_157 : decode cX6_count 157 = .ok (.getfield 7, 3) := by decide +kernel
theorem dX6_count_160 : decode cX6_count 160 = .ok (.ireturn, 1) := by decide +kernel
theorem dX6_count_161 : decode cX6_count 161 = .ok (.aload_n 0, 1) := by decide +kernel
theorem dX6_count_162 : decode cX6_count 162 = .ok (.getfield 13, 3) := by decide +kernel
theorem dX6_count_165 : decode cX6_count 165 = .ok (.ireturn, 1) := by decide +kernel
theorem dX6_count_166 : decode cX6_count 166 = .ok (.aload_n 0, 1) := by decide +kernel
theorem dX6_count_167 : decode cX6_count 167 = .ok (.getfield 56, 3) := by decide +kernel
theorem dX6_count_170 : decode cX6_count 170 = .ok (.ireturn, 1) := by decide +kernel
theorem dX6_count_171 : decode cX6_count 171 = .ok (.iload_n 2, 1) := by decide +kernel
theorem dX6_count_172 : decode cX6_count 172 = .ok (.ireturn, 1) := by decide +kernel
theorem dX6_count_173 : decode cX6_count 173 = .ok (.iconst (-1), 1) := by decide +kernel
theorem dX6_count_174 : decode cX6_count 174 = .ok (.ireturn, 1) := by decide +kernel
set_option maxRecDepth 20000 in
theorem ggX6_rank_X6_isKind : GoodIn wsX6_rank wsX6_isKind := goodIn_r _ [6] (by decide +kernel) (by decide +kernel)
set_option maxRecDepth 20000 in
theorem gX6_rank_X6_isKind : GoodIn wsX6_rank (va_wsS RX6 89 yX6_isKind wsX6_isKind) := goodIn_app (goodIn_of _ (by decide +kernel)) ggX6_rank_X6_isKind
set_option maxRecDepth 20000 in
theorem ggX6_rank_X6_isSet : GoodIn wsX6_rank wsX6_isSet := goodIn_r _ [10, 11, 47, 48, 49, 50, 51, 52, 53, 54, 55, 56, 57, 58, 59, 60, 61, 62] (by decide +kernel) (by decide +kernel)
set_option maxRecDepth 20000 in
theorem gX6_rank_X6_isSet : GoodIn wsX6_rank (wsV RX6 92 RX6 yX6_isSet wsX6_isSet) := goodIn_app (goodIn_of _ (by decide +kernel)) ggX6_rank_X6_isSet
set_option maxRecDepth 20000 in
theorem ggX6_rank_X6_learn : GoodIn wsX6_rank wsX6_learn := goodIn_r _ [15, 16, 17, 18, 11, 19, 2, 20, 21, 22, 5, 23, 24, 25, 26, 27, 28, 29, 30, 31, 32, 33, 34, 35, 36, 37, 38, 39, 40, 41, 42, 43, 44, 45, 46, 47, 48, 49, 50, 51, 52, 53, 54, 55, 56, 57, 58, 59, 60, 61, 62] (by decide +kernel) (by decide +kernel)
set_option maxRecDepth 20000 in
theorem gX6_rank_X6_learn : GoodIn wsX6_rank (wsV RX6 86 RX6 yX6_learn wsX6_learn) := goodIn_app (goodIn_of _ (by decide +kernel)) ggX6_rank_X6_learn
theorem dX6_rank_0 : decode cX6_rank 0 = .ok (.aload_n 0, 1) := by decide +kernel
theorem dX6_rank_1 : decode cX6_rank 1 = .ok (.iconst 0, 1) := by decide +kernel
theorem dX6_rank_2 : decode cX6_rank 2 = .ok (.putfield 49, 3) := by decide +kernel
theorem dX6_rank_5 : decode cX6_rank 5 = .ok (.iload_n 1, 1) := by decide +kernel
theorem dX6_rank_6 : decode cX6_rank 6 = .ok (.invokestatic 89, 3) := by decide +kernel
theorem dX6_rank_9 : decode cX6_rank 9 = .ok (.ifCond .eq 11, 3) := by decide +kernel
theorem dX6_rank_12 : decode cX6_rank 12 = .ok (.aload_n 0, 1) := by decide +kernel
theorem dX6_rank_13 : decode cX6_rank 13 = .ok (.iload_n 2, 1) := by decide +kernel
theorem dX6_rank_14 : decode cX6_rank 14 = .ok (.invokevirtual 92, 3) := by decide +kernel
theorem dX6_rank_17 : decode cX6_rank 17 = .ok (.ifCond .ne 5, 3) := by decide +kernel
theorem dX6_rank_20 : decode cX6_rank 20 = .ok (.iconst (-1), 1) := by decide +kernel
theorem dX6_rank_21 : decode cX6_rank 21 = .ok (.ireturn, 1) := by decide +kernel
theorem dX6_rank_22 : decode cX6_rank 22 = .ok (.aload_n 0, 1) := by decide +kernel
theorem dX6_rank_23 : decode cX6_rank 23 = .ok (.invokevirtual 86, 3) := by decide +kernel
theorem dX6_rank_26 : decode cX6_rank 26 = .ok (.aload_n 0, 1) := by decide +kernel
theorem dX6_rank_27 : decode cX6_rank 27 = .ok (.getfield 37, 3) := by decide +kernel
theorem dX6_rank_30 : decode cX6_rank 30 = .ok (.sipush 16384, 3) := by decide +kernel
theorem dX6_rank_33 : decode cX6_rank 33 = .ok (.iload_n 1, 1) := by decide +kernel
theorem dX6_rank_34 : decode cX6_rank 34 = .ok (.imul, 1) := by decide +kernel
theorem dX6_rank_35 : decode cX6_rank 35 = .ok (.iload_n 2, 1) := by decide +kernel
theorem dX6_rank_36 : decode cX6_rank 36 = .ok (.iadd, 1) := by decide +kernel
theorem dX6_rank_37 : decode cX6_rank 37 = .ok (.iaload, 1) := by decide +kernel
theorem dX6_rank_38 : decode cX6_rank 38 = .ok (.ireturn, 1) := by decide +kernel
set_option maxRecDepth 20000 in
theorem ggX6_free_X6_isKind : GoodIn wsX6_free wsX6_isKind := goodIn_r _ [6] (by decide +kernel) (by decide +kernel)
set_option maxRecDepth 20000 in
theorem gX6_free_X6_isKind : GoodIn wsX6_free (va_wsS RX6 89 yX6_isKind wsX6_isKind) := goodIn_app (goodIn_of _ (by decide +kernel)) ggX6_free_X6_isKind
set_option maxRecDepth 20000 in
theorem ggX6_free_X6_isSet : GoodIn wsX6_free wsX6_isSet := goodIn_r _ [10, 11, 47, 48, 49, 50, 51, 52, 53, 54, 55, 56, 57, 58, 59, 60, 61, 62] (by decide +kernel) (by decide +kernel)
set_option maxRecDepth 20000 in
theorem gX6_free_X6_isSet : GoodIn wsX6_free (wsV RX6 92 RX6 yX6_isSet wsX6_isSet) := goodIn_app (goodIn_of _ (by decide +kernel)) ggX6_free_X6_isSet
set_option maxRecDepth 20000 in
theorem ggX6_free_X6_learn : GoodIn wsX6_free wsX6_learn := goodIn_r _ [15, 16, 17, 18, 11, 2, 19, 20, 21, 22, 5, 23, 24, 25, 26, 27, 28, 29, 30, 31, 32, 33, 34, 35, 36, 37, 38, 39, 40, 41, 42, 43, 44, 45, 46, 47, 48, 49, 50, 51, 52, 53, 54, 55, 56, 57, 58, 59, 60, 61, 62] (by decide +kernel) (by decide +kernel)
set_option maxRecDepth 20000 in
theorem gX6_free_X6_learn : GoodIn wsX6_free (wsV RX6 86 RX6 yX6_learn wsX6_learn) := goodIn_app (goodIn_of _ (by decide +kernel)) ggX6_free_X6_learn
theorem dX6_free_0 : decode cX6_free 0 = .ok (.aload_n 0, 1) := by decide +kernel
theorem dX6_free_1 : decode cX6_free 1 = .ok (.iconst 0, 1) := by decide +kernel
theorem dX6_free_2 : decode cX6_free 2 = .ok (.putfield 49, 3) := by decide +kernel
theorem dX6_free_5 : decode cX6_free 5 = .ok (.iload_n 1, 1) := by decide +kernel
theorem dX6_free_6 : decode cX6_free 6 = .ok (.invokestatic 89, 3) := by decide +kernel
theorem dX6_free_9 : decode cX6_free 9 = .ok (.ifCond .ne 8, 3) := by decide +kernel
theorem dX6_free_12 : decode cX6_free 12 = .ok (.iload_n 1, 1) := by decide +kernel
theorem dX6_free_13 : decode cX6_free 13 = .ok (.iconst 2, 1) := by decide +kernel
theorem dX6_free_14 : decode cX6_free 14 = .ok (.if_icmp .ne 11, 3) := by decide +kernel
theorem dX6_free_17 : decode cX6_free 17 = .ok (.aload_n 0, 1) := by decide +kernel
theorem dX6_free_18 : decode cX6_free 18 = .ok (.iload_n 2, 1) := by decide +kernel
theorem dX6_free_19 : decode cX6_free 19 = .ok (.invokevirtual 92, 3) := by decide +kernel
theorem dX6_free_22 : decode cX6_free 22 = .ok (.ifCond .ne 5, 3) := by decide +kernel
theorem dX6_free_25 : decode cX6_free 25 = .ok (.iconst (-1), 1) := by decide +kernel
theorem dX6_free_26 : decode cX6_free 26 = .ok (.ireturn, 1) := by decide +kernel
theorem dX6_free_27 : decode cX6_free 27 = .ok (.aload_n 0, 1) := by decide +kernel
theorem dX6_free_28 : decode cX6_free 28 = .ok (.invokevirtual 86, 3) := by decide +kernel
theorem dX6_free_31 : decode cX6_free 31 = .ok (.iload_n 1, 1) := by decide +kernel
theorem dX6_free_32 : decode cX6_free 32 = .ok (.iconst 2, 1) := by decide +kernel
theorem dX6_free_33 : decode cX6_free 33 = .ok (.if_icmp .ne 33, 3) := by decide +kernel
theorem dX6_free_36 : decode cX6_free 36 = .ok (.aload_n 0, 1) := by decide +kernel
theorem dX6_free_37 : decode cX6_free 37 = .ok (.getfield 33, 3) := by decide +kernel
theorem dX6_free_40 : decode cX6_free 40 = .ok (.iload_n 2, 1) := by decide +kernel
theorem dX6_free_41 : decode cX6_free 41 = .ok (.baload, 1) := by decide +kernel
theorem dX6_free_42 : decode cX6_free 42 = .ok (.ifCond .eq 20, 3) := by decide +kernel
theorem dX6_free_45 : decode cX6_free 45 = .ok (.aload_n 0, 1) := by decide +kernel
theorem dX6_free_46 : decode cX6_free 46 = .ok (.getfield 33, 3) := by decide +kernel
theorem dX6_free_49 : decode cX6_free 49 = .ok (.sipush 16384, 3) := by decide +kernel
theorem dX6_free_52 : decode cX6_free 52 = .ok (.iload_n 2, 1) := by decide +kernel
theorem dX6_free_53 : decode cX6_free 53 = .ok (.iadd, 1) := by decide +kernel
theorem dX6_free_54 : decode cX6_free 54 = .ok (.baload, 1) := by decide +kernel
theorem dX6_free_55 : decode cX6_free 55 = .ok (.ifCond .eq 7, 3) := by decide +kernel
theorem dX6_free_58 : decode cX6_free 58 = .ok (.iconst 1, 1) := by decide +kernel
theorem dX6_free_59 : decode cX6_free 59 = .ok (.goto 19, 3) := by decide +kernel
theorem dX6_free_62 : decode cX6_free 62 = .ok (.iconst 0, 1) := by decide +kernel
theorem dX6_free_63 : decode cX6_free 63 = .ok (.goto 15, 3) := by decide +kernel
theorem dX6_free_66 : decode cX6_free 66 = .ok (.aload_n 0, 1) := by decide +kernel
theorem dX6_free_67 : decode cX6_free 67 = .ok (.getfield 33, 3) := by decide +kernel
theorem dX6_free_70 : decode cX6_free 70 = .ok (.sipush 16384, 3) := by decide +kernel
theorem dX6_free_73 : decode cX6_free 73 = .ok (.iload_n 1, 1) := by decide +kernel
theorem dX6_free_74 : decode cX6_free 74 = .ok (.imul, 1) := by decide +kernel
theorem dX6_free_75 : decode cX6_free 75 = .ok (.iload_n 2, 1) := by decide +kernel
theorem dX6_free_76 : decode cX6_free 76 = .ok (.iadd, 1) := by decide +kernel
theorem dX6_free_77 : decode cX6_free 77 = .ok (.baload, 1) := by decide +kernel
theorem dX6_free_78 : decode cX6_free 78 = .ok (.istore_n 3, 1) := by decide +kernel
theorem dX6_free_79 : decode cX6_free 79 = .ok (.iload_n 3, 1) := by decide +kernel
theorem dX6_free_80 : decode cX6_free 80 = .ok (.ifCond .eq 7, 3) := by decide +kernel
theorem dX6_free_83 : decode cX6_free 83 = .ok (.iconst 1, 1) := by decide +kernel
theorem dX6_free_84 : decode cX6_free 84 = .ok (.goto 4, 3) := by decide +kernel
theorem dX6_free_87 : decode cX6_free 87 = .ok (.iconst 0, 1) := by decide +kernel
theorem dX6_free_88 : decode cX6_free 88 = .ok (.ireturn, 1) := by decide +kernel
set_option maxRecDepth 20000 in
theorem ggX6_circuit_X6_isKind : GoodIn wsX6_circuit wsX6_isKind := goodIn_r _ [7] (by decide +kernel) (by decide +kernel)
set_option maxRecDepth 20000 in
theorem gX6_circuit_X6_isKind : GoodIn wsX6_circuit (va_wsS RX6 89 yX6_isKind wsX6_isKind) := goodIn_app (goodIn_of _ (by decide +kernel)) ggX6_circuit_X6_isKind
set_option maxRecDepth 20000 in
theorem ggX6_circuit_X6_isSet : GoodIn wsX6_circuit wsX6_isSet := goodIn_r _ [11, 2, 47, 48, 49, 50, 51, 52, 53, 54, 55, 56, 57, 58, 59, 60, 61, 62] (by decide +kernel) (by decide +kernel)
set_option maxRecDepth 20000 in
theorem gX6_circuit_X6_isSet : GoodIn wsX6_circuit (wsV RX6 92 RX6 yX6_isSet wsX6_isSet) := goodIn_app (goodIn_of _ (by decide +kernel)) ggX6_circuit_X6_isSet
set_option maxRecDepth 20000 in
theorem ggX6_circuit_X6_learn : GoodIn wsX6_circuit wsX6_learn := goodIn_r _ [15, 16, 17, 18, 2, 3, 19, 20, 21, 22, 6, 23, 24, 25, 26, 27, 28, 29, 30, 31, 32, 33, 34, 35, 36, 37, 38, 39, 40, 41, 42, 43, 44, 45, 46, 47, 48, 49, 50, 51, 52, 53, 54, 55, 56, 57, 58, 59, 60, 61, 62] (by decide +kernel) (by decide +kernel)
set_option maxRecDepth 20000 in
theorem gX6_circuit_X6_learn : GoodIn wsX6_circuit (wsV RX6 86 RX6 yX6_learn wsX6_learn) := goodIn_app (goodIn_of _ (by decide +kernel)) ggX6_circuit_X6_learn
set_option maxRecDepth 20000 in
theorem ggX6_circuit_X6_has : GoodIn wsX6_circuit wsX6_has := goodIn_r _ [30] (by decide +kernel) (by decide +kernel)
set_option maxRecDepth 20000 in
theorem gX6_circuit_X6_has : GoodIn wsX6_circuit (va_wsS RX6 66 yX6_has wsX6_has) := goodIn_app (goodIn_of _ (by decide +kernel)) ggX6_circuit_X6_has
theorem dX6_circuit_0 : decode cX6_circuit 0 = .ok (.aload_n 0, 1) := by decide +kernel
theorem dX6_circuit_1 : decode cX6_circuit 1 = .ok (.iconst 0, 1) := by decide +kernel
theorem dX6_circuit_2 : decode cX6_circuit 2 = .ok (.putfield 49, 3) := by decide +kernel
theorem dX6_circuit_5 : decode cX6_circuit 5 = .ok (.iload_n 1, 1) := by decide +kernel
theorem dX6_circuit_6 : decode cX6_circuit 6 = .ok (.invokestatic 89, 3) := by decide +kernel
theorem dX6_circuit_9 : decode cX6_circuit 9 = .ok (.ifCond .eq 23, 3) := by decide +kernel
theorem dX6_circuit_12 : decode cX6_circuit 12 = .ok (.aload_n 0, 1) := by decide +kernel
theorem dX6_circuit_13 : decode cX6_circuit 13 = .ok (.iload_n 2, 1) := by decide +kernel
theorem dX6_circuit_14 : decode cX6_circuit 14 = .ok (.invokevirtual 92, 3) := by decide +kernel
theorem dX6_circuit_17 : decode cX6_circuit 17 = .ok (.ifCond .eq 15, 3) := by decide +kernel
theorem dX6_circuit_20 : decode cX6_circuit 20 = .ok (.iload_n 3, 1) := by decide +kernel
theorem dX6_circuit_21 : decode cX6_circuit 21 = .ok (.ifCond .lt 11, 3) := by decide +kernel
theorem dX6_circuit_24 : decode cX6_circuit 24 = .ok (.iload_n 3, 1) := by decide +kernel
theorem dX6_circuit_25 : decode cX6_circuit 25 = .ok (.aload_n 0, 1) := by decide +kernel
theorem dX6_circuit_26 : decode cX6_circuit 26 = .ok (.getfield 56, 3) := by decide +kernel
theorem dX6_circuit_29 : decode cX6_circuit 29 = .ok (.if_icmp .lt 5, 3) := by decide +kernel
theorem dX6_circuit_32 : decode cX6_circuit 32 = .ok (.iconst (-1), 1) := by decide +kernel
theorem dX6_circuit_33 : decode cX6_circuit 33 = .ok (.ireturn, 1) := by decide +kernel
theorem dX6_circuit_34 : decode cX6_circuit 34 = .ok (.aload_n 0, 1) := by decide +kernel
theorem dX6_circuit_35 : decode cX6_circuit 35 = .ok (.invokevirtual 86, 3) := by decide +kernel
theorem dX6_circuit_38 : decode cX6_circuit 38 = .ok (.sipush 16384, 3) := by decide +kernel
theorem dX6_circuit_41 : decode cX6_circuit 41 = .ok (.iload_n 1, 1) := by decide +kernel
theorem dX6_circuit_42 : decode cX6_circuit 42 = .ok (.imul, 1) := by decide +kernel
theorem dX6_circuit_43 : decode cX6_circuit 43 = .ok (.istore 4, 2) := by decide +kernel
theorem dX6_circuit_45 : decode cX6_circuit 45 = .ok (.aload_n 0, 1) := by decide +kernel
theorem dX6_circuit_46 : decode cX6_circuit 46 = .ok (.getfield 33, 3) := by decide +kernel
theorem dX6_circuit_49 : decode cX6_circuit 49 = .ok (.iload 4, 2) := by decide +kernel
theorem dX6_circuit_51 : decode cX6_circuit 51 = .ok (.iload_n 2, 1) := by decide +kernel
theorem dX6_circuit_52 : decode cX6_circuit 52 = .ok (.iadd, 1) := by decide +kernel
theorem dX6_circuit_53 : decode cX6_circuit 53 = .ok (.baload, 1) := by decide +kernel
theorem dX6_circuit_54 : decode cX6_circuit 54 = .ok (.ifCond .eq 11, 3) := by decide +kernel
theorem dX6_circuit_57 : decode cX6_circuit 57 = .ok (.iload_n 2, 1) := by decide +kernel
theorem dX6_circuit_58 : decode cX6_circuit 58 = .ok (.iload_n 3, 1) := by decide +kernel
theorem dX6_circuit_59 : decode cX6_circuit 59 = .ok (.invokestatic 66, 3) := by decide +kernel
theorem dX6_circuit_62 : decode cX6_circuit 62 = .ok (.ifCond .eq 5, 3) := by decide +kernel
theorem dX6_circuit_65 : decode cX6_circuit 65 = .ok (.iconst (-1), 1) := by decide +kernel
theorem dX6_circuit_66 : decode cX6_circuit 66 = .ok (.ireturn, 1) := by decide +kernel
theorem dX6_circuit_67 : decode cX6_circuit 67 = .ok (.iload_n 2, 1) := by decide +kernel
theorem dX6_circuit_68 : decode cX6_circuit 68 = .ok (.iconst 1, 1) := by decide +kernel
theorem dX6_circuit_69 : decode cX6_circuit 69 = .ok (.iload_n 3, 1) := by decide +kernel
theorem dX6_circuit_70 : decode cX6_circuit 70 = .ok (.ishl, 1) := by decide +kernel
theorem dX6_circuit_71 : decode cX6_circuit 71 = .ok (.ior, 1) := by decide +kernel
theorem dX6_circuit_72 : decode cX6_circuit 72 = .ok (.istore 5, 2) := by decide +kernel
theorem dX6_circuit_74 : decode cX6_circuit 74 = .ok (.aload_n 0, 1) := by decide +kernel
theorem dX6_circuit_75 : decode cX6_circuit 75 = .ok (.getfield 33, 3) := by decide +kernel
theorem dX6_circuit_78 : decode cX6_circuit 78 = .ok (.iload 4, 2) := by decide +kernel
theorem dX6_circuit_80 : decode cX6_circuit 80 = .ok (.iload 5, 2) := by decide +kernel
theorem dX6_circuit_82 : decode cX6_circuit 82 = .ok (.iadd, 1) := by decide +kernel
theorem dX6_circuit_83 : decode cX6_circuit 83 = .ok (.baload, 1) := by decide +kernel
theorem dX6_circuit_84 : decode cX6_circuit 84 = .ok (.ifCond .eq 5, 3) := by decide +kernel
theorem dX6_circuit_87 : decode cX6_circuit 87 = .ok (.iconst 0, 1) := by decide +kernel
theorem dX6_circuit_88 : decode cX6_circuit 88 = .ok (.ireturn, 1) := by decide +kernel
theorem dX6_circuit_89 : decode cX6_circuit 89 = .ok (.iconst 0, 1) := by decide +kernel
theorem dX6_circuit_90 : decode cX6_circuit 90 = .ok (.istore 6, 2) := by decide +kernel
theorem dX6_circuit_92 : decode cX6_circuit 92 = .ok (.iconst 0, 1) := by decide +kernel
theorem dX6_circuit_93 : decode cX6_circuit 93 = .ok (.istore 7, 2) := by decide +kernel
theorem dX6_circuit_95 : decode cX6_circuit 95 = .ok (.iload 7, 2) := by decide +kernel
theorem dX6_circuit_97 : decode cX6_circuit 97 = .ok (.aload_n 0, 1) := by decide +kernel
theorem dX6_circuit_98 : decode cX6_circuit 98 = .ok (.getfield 56, 3) := by decide +kernel
theorem dX6_circuit_101 : decode cX6_circuit 101 = .ok (.if_icmp .ge 50, 3) := by decide +kernel
theorem dX6_circuit_104 : decode cX6_circuit 104 = .ok (.iload 6, 2) := by decide +kernel
theorem dX6_circuit_106 : decode cX6_circuit 106 = .ok (.iload 5, 2) := by decide +kernel
theorem dX6_circuit_108 : decode cX6_circuit 108 = .ok (.iload 7, 2) := by decide +kernel
theorem dX6_circuit_110 : decode cX6_circuit 110 = .ok (.invokestatic 66, 3) := by decide +kernel
theorem dX6_circuit_113 : decode cX6_circuit 113 = .ok (.ifCond .eq 28, 3) := by decide +kernel
theorem dX6_circuit_116 : decode cX6_circuit 116 = .ok (.aload_n 0, 1) := by decide +kernel
theorem dX6_circuit_117 : decode cX6_circuit 117 = .ok (.getfield 33, 3) := by decide +kernel
theorem dX6_circuit_120 : decode cX6_circuit 120 = .ok (.iload 4, 2) := by decide +kernel
theorem dX6_circuit_122 : decode cX6_circuit 122 = .ok (.iload 5, 2) := by decide +kernel
theorem dX6_circuit_124 : decode cX6_circuit 124 = .ok (.iconst 1, 1) := by decide +kernel
theorem dX6_circuit_125 : decode cX6_circuit 125 = .ok (.iload 7, 2) := by decide +kernel
theorem dX6_circuit_127 : decode cX6_circuit 127 = .ok (.ishl, 1) := by decide +kernel
theorem dX6_circuit_128 : decode cX6_circuit 128 = .ok (.ixor, 1) := by decide +kernel
theorem dX6_circuit_129 : decode cX6_circuit 129 = .ok (.iadd, 1) := by decide +kernel
theorem dX6_circuit_130 : decode cX6_circuit 130 = .ok (.baload, 1) := by decide +kernel
theorem dX6_circuit_131 : decode cX6_circuit 131 = .ok (.ifCond .eq 10, 3) := by decide +kernel
theorem dX6_circuit_134 : decode cX6_circuit 134 = .ok (.iconst 1, 1) := by decide +kernel
theorem dX6_circuit_135 : decode cX6_circuit 135 = .ok (.iload 7, 2) := by decide +kernel
theorem dX6_circuit_137 : decode cX6_circuit 137 = .ok (.ishl, 1) := by decide +kernel
theorem dX6_circuit_138 : decode cX6_circuit 138 = .ok (.goto 4, 3) := by decide +kernel
theorem dX6_circuit_141 : decode cX6_circuit 141 = .ok (.iconst 0, 1) := by decide +kernel
theorem dX6_circuit_142 : decode cX6_circuit 142 = .ok (.ior, 1) := by decide +kernel
theorem dX6_circuit_143 : decode cX6_circuit 143 = .ok (.istore 6, 2) := by decide +kernel
theorem dX6_circuit_145 : decode cX6_circuit 145 = .ok (.iinc 7 1, 3) := by decide +kernel
theorem dX6_circuit_148 : decode cX6_circuit 148 = .ok (.goto (-53), 3) := by decide +kernel
theorem dX6_circuit_151 : decode cX6_circuit 151 = .ok (.iload 6, 2) := by decide +kernel
theorem dX6_circuit_153 : decode cX6_circuit 153 = .ok (.ireturn, 1) := by decide +kernel
set_option maxRecDepth 20000 in
theorem ggX6_closure_X6_isKind : GoodIn wsX6_closure wsX6_isKind := goodIn_r _ [7] (by decide +kernel) (by decide +kernel)
set_option maxRecDepth 20000 in
theorem gX6_closure_X6_isKind : GoodIn wsX6_closure (va_wsS RX6 89 yX6_isKind wsX6_isKind) := goodIn_app (goodIn_of _ (by decide +kernel)) ggX6_closure_X6_isKind
set_option maxRecDepth 20000 in
theorem ggX6_closure_X6_isSet : GoodIn wsX6_closure wsX6_isSet := goodIn_r _ [11, 2, 47, 48, 49, 50, 51, 52, 53, 54, 55, 56, 57, 58, 59, 60, 61, 62] (by decide +kernel) (by decide +kernel)
set_option maxRecDepth 20000 in
theorem gX6_closure_X6_isSet : GoodIn wsX6_closure (wsV RX6 92 RX6 yX6_isSet wsX6_isSet) := goodIn_app (goodIn_of _ (by decide +kernel)) ggX6_closure_X6_isSet
set_option maxRecDepth 20000 in
theorem ggX6_closure_X6_learn : GoodIn wsX6_closure wsX6_learn := goodIn_r _ [15, 16, 17, 18, 2, 19, 3, 20, 21, 22, 6, 23, 24, 25, 26, 27, 28, 29, 30, 31, 32, 33, 34, 35, 36, 37, 38, 39, 40, 41, 42, 43, 44, 45, 46, 47, 48, 49, 50, 51, 52, 53, 54, 55, 56, 57, 58, 59, 60, 61, 62] (by decide +kernel) (by decide +kernel)
set_option maxRecDepth 20000 in
theorem gX6_closure_X6_learn : GoodIn wsX6_closure (wsV RX6 86 RX6 yX6_learn wsX6_learn) := goodIn_app (goodIn_of _ (by decide +kernel)) ggX6_closure_X6_learn
theorem dX6_closure_0 : decode cX6_closure 0 = .ok (.aload_n 0, 1) := by decide +kernel
theorem dX6_closure_1 : decode cX6_closure 1 = .ok (.iconst 0, 1) := by decide +kernel
theorem dX6_closure_2 : decode cX6_closure 2 = .ok (.putfield 49, 3) := by decide +kernel
theorem dX6_closure_5 : decode cX6_closure 5 = .ok (.iload_n 1, 1) := by decide +kernel
theorem dX6_closure_6 : decode cX6_closure 6 = .ok (.invokestatic 89, 3) := by decide +kernel
theorem dX6_closure_9 : decode cX6_closure 9 = .ok (.ifCond .eq 11, 3) := by decide +kernel
theorem dX6_closure_12 : decode cX6_closure 12 = .ok (.aload_n 0, 1) := by decide +kernel
theorem dX6_closure_13 : decode cX6_closure 13 = .ok (.iload_n 2, 1) := by decide +kernel
theorem dX6_closure_14 : decode cX6_closure 14 = .ok (.invokevirtual 92, 3) := by decide +kernel
theorem dX6_closure_17 : decode cX6_closure 17 = .ok (.ifCond .ne 5, 3) := by decide +kernel
theorem dX6_closure_20 : decode cX6_closure 20 = .ok (.iconst (-1), 1) := by decide +kernel
theorem dX6_closure_21 : decode cX6_closure 21 = .ok (.ireturn, 1) := by decide +kernel
theorem dX6_closure_22 : decode cX6_closure 22 = .ok (.aload_n 0, 1) := by decide +kernel
theorem dX6_closure_23 : decode cX6_closure 23 = .ok (.invokevirtual 86, 3) := by decide +kernel
theorem dX6_closure_26 : decode cX6_closure 26 = .ok (.sipush 16384, 3) := by decide +kernel
theorem dX6_closure_29 : decode cX6_closure 29 = .ok (.iload_n 1, 1) := by decide +kernel
theorem dX6_closure_30 : decode cX6_closure 30 = .ok (.imul, 1) := by decide +kernel
theorem dX6_closure_31 : decode cX6_closure 31 = .ok (.istore_n 3, 1) := by decide +kernel
theorem dX6_closure_32 : decode cX6_closure 32 = .ok (.iload_n 2, 1) := by decide +kernel
theorem dX6_closure_33 : decode cX6_closure 33 = .ok (.istore 4, 2) := by decide +kernel
theorem dX6_closure_35 : decode cX6_closure 35 = .ok (.iconst 0, 1) := by decide +kernel
theorem dX6_closure_36 : decode cX6_closure 36 = .ok (.istore 5, 2) := by decide +kernel
theorem dX6_closure_38 : decode cX6_closure 38 = .ok (.iload 5, 2) := by decide +kernel
theorem dX6_closure_40 : decode cX6_closure 40 = .ok (.aload_n 0, 1) := by decide +kernel
theorem dX6_closure_41 : decode cX6_closure 41 = .ok (.getfield 56, 3) := by decide +kernel
theorem dX6_closure_44 : decode cX6_closure 44 = .ok (.if_icmp .ge 46, 3) := by decide +kernel
theorem dX6_closure_47 : decode cX6_closure 47 = .ok (.iload 4, 2) := by decide +kernel
theorem dX6_closure_49 : decode cX6_closure 49 = .ok (.aload_n 0, 1) := by decide +kernel
theorem dX6_closure_50 : decode cX6_closure 50 = .ok (.getfield 37, 3) := by decide +kernel
theorem dX6_closure_53 : decode cX6_closure 53 = .ok (.iload_n 3, 1) := by decide +kernel
theorem dX6_closure_54 : decode cX6_closure 54 = .ok (.iload_n 2, 1) := by decide +kernel
theorem dX6_closure_55 : decode cX6_closure 55 = .ok (.iconst 1, 1) := by decide +kernel
theorem dX6_closure_56 : decode cX6_closure 56 = .ok (.iload 5, 2) := by decide +kernel
theorem dX6_closure_58 : decode cX6_closure 58 = .ok (.ishl, 1) := by decide +kernel
theorem dX6_closure_59 : decode cX6_closure 59 = .ok (.ior, 1) := by decide +kernel
theorem dX6_closure_60 : decode cX6_closure 60 = .ok (.iadd, 1) := by decide +kernel
theorem dX6_closure_61 : decode cX6_closure 61 = .ok (.iaload, 1) := by decide +kernel
theorem dX6_closure_62 : decode cX6_closure 62 = .ok (.aload_n 0, 1) := by decide +kernel
theorem dX6_closure_63 : decode cX6_closure 63 = .ok (.getfield 37, 3) := by decide +kernel
theorem dX6_closure_66 : decode cX6_closure 66 = .ok (.iload_n 3, 1) := by decide +kernel
theorem dX6_closure_67 : decode cX6_closure 67 = .ok (.iload_n 2, 1) := by decide +kernel
theorem dX6_closure_68 : decode cX6_closure 68 = .ok (.iadd, 1) := by decide +kernel
theorem dX6_closure_69 : decode cX6_closure 69 = .ok (.iaload, 1) := by decide +kernel
theorem dX6_closure_70 : decode cX6_closure 70 = .ok (.if_icmp .ne 10, 3) := by decide +kernel
theorem dX6_closure_73 : decode cX6_closure 73 = .ok (.iconst 1, 1) := by decide +kernel
theorem dX6_closure_74 : decode cX6_closure 74 = .ok (.iload 5, 2) := by decide +kernel
theorem dX6_closure_76 : decode cX6_closure 76 = .ok (.ishl, 1) := by decide +kernel
theorem dX6_closure_77 : decode cX6_closure 77 = .ok (.goto 4, 3) := by decide +kernel
theorem dX6_closure_80 : decode cX6_closure 80 = .ok (.iconst 0, 1) := by decide +kernel
theorem dX6_closure_81 : decode cX6_closure 81 = .ok (.ior, 1) := by decide +kernel
theorem dX6_closure_82 : decode cX6_closure 82 = .ok (.istore 4, 2) := by decide +kernel
theorem dX6_closure_84 : decode cX6_closure 84 = .ok (.iinc 5 1, 3) := by decide +kernel
theorem dX6_closure_87 : decode cX6_closure 87 = .ok (.goto (-49), 3) := by decide +kernel
theorem dX6_closure_90 : decode cX6_closure 90 = .ok (.iload 4, 2) := by decide +kernel
theorem dX6_closure_92 : decode cX6_closure 92 = .ok (.ireturn, 1) := by decide +kernel
set_option maxRecDepth 20000 in
theorem ggX6_most_X6_learn : GoodIn wsX6_most wsX6_learn := goodIn_r _ [7, 8, 2, 9, 10, 11, 12, 13, 14, 15, 6, 16, 17, 18, 19, 20, 21, 22, 23, 24, 25, 26, 27, 28, 29, 30, 31, 32, 33, 34, 35, 36, 37, 38, 39, 40, 41, 42, 43, 44, 45, 46, 47, 48, 49, 50, 51, 52, 53, 54, 55] (by decide +kernel) (by decide +kernel)
set_option maxRecDepth 20000 in
theorem gX6_most_X6_learn : GoodIn wsX6_most (wsV RX6 86 RX6 yX6_learn wsX6_learn) := goodIn_app (goodIn_of _ (by decide +kernel)) ggX6_most_X6_learn
theorem dX6_most_0 : decode cX6_most 0 = .ok (.aload_n 0, 1) := by decide +kernel
theorem dX6_most_1 : decode cX6_most 1 = .ok (.iconst 0, 1) := by decide +kernel
theorem dX6_most_2 : decode cX6_most 2 = .ok (.putfield 49, 3) := by decide +kernel
theorem dX6_most_5 : decode cX6_most 5 = .ok (.aload_n 0, 1) := by decide +kernel
theorem dX6_most_6 : decode cX6_most 6 = .ok (.invokevirtual 86, 3) := by decide +kernel
theorem dX6_most_9 : decode cX6_most 9 = .ok (.aload_n 0, 1) := by decide +kernel
theorem dX6_most_10 : decode cX6_most 10 = .ok (.getfield 70, 3) := by decide +kernel
theorem dX6_most_13 : decode cX6_most 13 = .ok (.ireturn, 1) := by decide +kernel
set_option maxRecDepth 20000 in
theorem ggX6_dearest_X6_learn : GoodIn wsX6_dearest wsX6_learn := goodIn_r _ [8, 9, 2, 3, 10, 11, 12, 13, 14, 15, 7, 16, 17, 18, 19, 20, 21, 22, 23, 24, 25, 26, 27, 28, 29, 30, 31, 32, 33, 34, 35, 36, 37, 38, 39, 40, 41, 42, 43, 44, 45, 46, 47, 48, 49, 50, 51, 52, 53, 54, 55] (by decide +kernel) (by decide +kernel)
set_option maxRecDepth 20000 in
theorem gX6_dearest_X6_learn : GoodIn wsX6_dearest (wsV RX6 86 RX6 yX6_learn wsX6_learn) := goodIn_app (goodIn_of _ (by decide +kernel)) ggX6_dearest_X6_learn
theorem dX6_dearest_0 : decode cX6_dearest 0 = .ok (.aload_n 0, 1) := by decide +kernel
theorem dX6_dearest_1 : decode cX6_dearest 1 = .ok (.iconst 0, 1) := by decide +kernel
theorem dX6_dearest_2 : decode cX6_dearest 2 = .ok (.putfield 49, 3) := by decide +kernel
theorem dX6_dearest_5 : decode cX6_dearest 5 = .ok (.aload_n 0, 1) := by decide +kernel
theorem dX6_dearest_6 : decode cX6_dearest 6 = .ok (.invokevirtual 86, 3) := by decide +kernel
theorem dX6_dearest_9 : decode cX6_dearest 9 = .ok (.iload_n 1, 1) := by decide +kernel
theorem dX6_dearest_10 : decode cX6_dearest 10 = .ok (.ifCond .lt 11, 3) := by decide +kernel
theorem dX6_dearest_13 : decode cX6_dearest 13 = .ok (.iload_n 1, 1) := by decide +kernel
theorem dX6_dearest_14 : decode cX6_dearest 14 = .ok (.aload_n 0, 1) := by decide +kernel
theorem dX6_dearest_15 : decode cX6_dearest 15 = .ok (.getfield 70, 3) := by decide +kernel
theorem dX6_dearest_18 : decode cX6_dearest 18 = .ok (.if_icmp .le 7, 3) := by decide +kernel
theorem dX6_dearest_21 : decode cX6_dearest 21 = .ok (.iconst (-1), 1) := by decide +kernel
theorem dX6_dearest_22 : decode cX6_dearest 22 = .ok (.goto 9, 3) := by decide +kernel
theorem dX6_dearest_25 : decode cX6_dearest 25 = .ok (.aload_n 0, 1) := by decide +kernel
theorem dX6_dearest_26 : decode cX6_dearest 26 = .ok (.getfield 40, 3) := by decide +kernel
theorem dX6_dearest_29 : decode cX6_dearest 29 = .ok (.iload_n 1, 1) := by decide +kernel
theorem dX6_dearest_30 : decode cX6_dearest 30 = .ok (.iaload, 1) := by decide +kernel
theorem dX6_dearest_31 : decode cX6_dearest 31 = .ok (.ireturn, 1) := by decide +kernel
set_option maxRecDepth 20000 in
theorem ggX6_weight_X6_learn : GoodIn wsX6_weight wsX6_learn := goodIn_r _ [7, 8, 1, 2, 9, 10, 11, 12, 13, 14, 6, 15, 16, 17, 18, 19, 20, 21, 22, 23, 24, 25, 26, 27, 28, 29, 30, 31, 32, 33, 34, 35, 36, 37, 38, 44, 45, 46, 47, 48, 49, 50, 51, 52, 53, 54, 55, 56, 57, 58, 59] (by decide +kernel) (by decide +kernel)
set_option maxRecDepth 20000 in
theorem gX6_weight_X6_learn : GoodIn wsX6_weight (wsV RX6 86 RX6 yX6_learn wsX6_learn) := goodIn_app (goodIn_of _ (by decide +kernel)) ggX6_weight_X6_learn
set_option maxRecDepth 20000 in
theorem ggX6_weight_X6_refuses : GoodIn wsX6_weight wsX6_refuses := goodIn_r _ [42, 43, 44, 45, 46, 47, 48, 49, 50, 51, 52, 53, 54, 55, 56, 57, 58, 59] (by decide +kernel) (by decide +kernel)
set_option maxRecDepth 20000 in
theorem gX6_weight_X6_refuses : GoodIn wsX6_weight (wsV RX6 52 RX6 yX6_refuses wsX6_refuses) := goodIn_app (goodIn_of _ (by decide +kernel)) ggX6_weight_X6_refuses
set_option maxRecDepth 20000 in
theorem ggX6_weight_X6_weightOf : GoodIn wsX6_weight wsX6_weightOf := goodIn_r _ [37, 9, 38, 20, 21, 6, 22, 44, 45, 46, 47, 48, 49, 50, 51, 52, 53, 54, 55, 56, 57, 58, 59] (by decide +kernel) (by decide +kernel)
set_option maxRecDepth 20000 in
theorem gX6_weight_X6_weightOf : GoodIn wsX6_weight (wsV RX6 83 RX6 yX6_weightOf wsX6_weightOf) := goodIn_app (goodIn_of _ (by decide +kernel)) ggX6_weight_X6_weightOf
theorem dX6_weight_0 : decode cX6_weight 0 = .ok (.aload_n 0, 1) := by decide +kernel
theorem dX6_weight_1 : decode cX6_weight 1 = .ok (.invokevirtual 86, 3) := by decide +kernel
theorem dX6_weight_4 : decode cX6_weight 4 = .ok (.aload_n 0, 1) := by decide +kernel
theorem dX6_weight_5 : decode cX6_weight 5 = .ok (.iload_n 1, 1) := by decide +kernel
theorem dX6_weight_6 : decode cX6_weight 6 = .ok (.ifCond .lt 11, 3) := by decide +kernel
theorem dX6_weight_9 : decode cX6_weight 9 = .ok (.iload_n 1, 1) := by decide +kernel
theorem dX6_weight_10 : decode cX6_weight 10 = .ok (.aload_n 0, 1) := by decide +kernel
theorem dX6_weight_11 : decode cX6_weight 11 = .ok (.getfield 70, 3) := by decide +kernel
theorem dX6_weight_14 : decode cX6_weight 14 = .ok (.if_icmp .le 7, 3) := by decide +kernel
theorem dX6_weight_17 : decode cX6_weight 17 = .ok (.iconst 1, 1) := by decide +kernel
theorem dX6_weight_18 : decode cX6_weight 18 = .ok (.goto 4, 3) := by decide +kernel
theorem dX6_weight_21 : decode cX6_weight 21 = .ok (.iconst 0, 1) := by decide +kernel
theorem dX6_weight_22 : decode cX6_weight 22 = .ok (.invokevirtual 52, 3) := by decide +kernel
theorem dX6_weight_25 : decode cX6_weight 25 = .ok (.ifCond .eq 7, 3) := by decide +kernel
theorem dX6_weight_28 : decode cX6_weight 28 = .ok (.iconst 0, 1) := by decide +kernel
theorem dX6_weight_29 : decode cX6_weight 29 = .ok (.goto 13, 3) := by decide +kernel
theorem dX6_weight_32 : decode cX6_weight 32 = .ok (.aload_n 0, 1) := by decide +kernel
theorem dX6_weight_33 : decode cX6_weight 33 = .ok (.aload_n 0, 1) := by decide +kernel
theorem dX6_weight_34 : decode cX6_weight 34 = .ok (.getfield 40, 3) := by decide +kernel
theorem dX6_weight_37 : decode cX6_weight 37 = .ok (.iload_n 1, 1) := by decide +kernel
theorem dX6_weight_38 : decode cX6_weight 38 = .ok (.iaload, 1) := by decide +kernel
theorem dX6_weight_39 : decode cX6_weight 39 = .ok (.invokevirtual 83, 3) := by decide +kernel
theorem dX6_weight_42 : decode cX6_weight 42 = .ok (.ireturn, 1) := by decide +kernel
set_option maxRecDepth 20000 in
theorem ggX6_heaviest_X6_learn : GoodIn wsX6_heaviest wsX6_learn := goodIn_r _ [8, 9, 2, 3, 10, 11, 12, 13, 14, 15, 7, 16, 17, 18, 19, 20, 21, 22, 23, 24, 25, 26, 27, 28, 29, 30, 31, 32, 33, 34, 35, 36, 37, 38, 39, 40, 41, 42, 43, 44, 45, 46, 47, 48, 49, 50, 51, 52, 53, 54, 55] (by decide +kernel) (by decide +kernel)
set_option maxRecDepth 20000 in
theorem gX6_heaviest_X6_learn : GoodIn wsX6_heaviest (wsV RX6 86 RX6 yX6_learn wsX6_learn) := goodIn_app (goodIn_of _ (by decide +kernel)) ggX6_heaviest_X6_learn
set_option maxRecDepth 20000 in
theorem ggX6_heaviest_X6_weightOf : GoodIn wsX6_heaviest wsX6_weightOf := goodIn_r _ [38, 10, 39, 21, 22, 7, 23, 40, 41, 42, 43, 44, 45, 46, 47, 48, 49, 50, 51, 52, 53, 54, 55] (by decide +kernel) (by decide +kernel)
set_option maxRecDepth 20000 in
theorem gX6_heaviest_X6_weightOf : GoodIn wsX6_heaviest (wsV RX6 83 RX6 yX6_weightOf wsX6_weightOf) := goodIn_app (goodIn_of _ (by decide +kernel)) ggX6_heaviest_X6_weightOf
theorem dX6_heaviest_0 : decode cX6_heaviest 0 = .ok (.aload_n 0, 1) := by decide +kernel
theorem dX6_heaviest_1 : decode cX6_heaviest 1 = .ok (.iconst 0, 1) := by decide +kernel
theorem dX6_heaviest_2 : decode cX6_heaviest 2 = .ok (.putfield 49, 3) := by decide +kernel
theorem dX6_heaviest_5 : decode cX6_heaviest 5 = .ok (.aload_n 0, 1) := by decide +kernel
theorem dX6_heaviest_6 : decode cX6_heaviest 6 = .ok (.invokevirtual 86, 3) := by decide +kernel
theorem dX6_heaviest_9 : decode cX6_heaviest 9 = .ok (.iconst 0, 1) := by decide +kernel
theorem dX6_heaviest_10 : decode cX6_heaviest 10 = .ok (.istore_n 1, 1) := by decide +kernel
theorem dX6_heaviest_11 : decode cX6_heaviest 11 = .ok (.iconst 1, 1) := by decide +kernel
theorem dX6_heaviest_12 : decode cX6_heaviest 12 = .ok (.istore_n 2, 1) := by decide +kernel
theorem dX6_heaviest_13 : decode cX6_heaviest 13 = .ok (.iload_n 2, 1) := by decide +kernel
theorem dX6_heaviest_14 : decode cX6_heaviest 14 = .ok (.aload_n 0, 1) := by decide +kernel
theorem dX6_heaviest_15 : decode cX6_heaviest 15 = .ok (.getfield 70, 3) := by decide +kernel
theorem dX6_heaviest_18 : decode cX6_heaviest 18 = .ok (.if_icmp .gt 38, 3) := by decide +kernel
theorem dX6_heaviest_21 : decode cX6_heaviest 21 = .ok (.aload_n 0, 1) := by decide +kernel
theorem dX6_heaviest_22 : decode cX6_heaviest 22 = .ok (.aload_n 0, 1) := by decide +kernel
theorem dX6_heaviest_23 : decode cX6_heaviest 23 = .ok (.getfield 40, 3) := by decide +kernel
theorem dX6_heaviest_26 : decode cX6_heaviest 26 = .ok (.iload_n 2, 1) := by decide +kernel
theorem dX6_heaviest_27 : decode cX6_heaviest 27 = .ok (.iaload, 1) := by decide +kernel
theorem dX6_heaviest_28 : decode cX6_heaviest 28 = .ok (.invokevirtual 83, 3) := by decide +kernel
theorem dX6_heaviest_31 : decode cX6_heaviest 31 = .ok (.aload_n 0, 1) := by decide +kernel
theorem dX6_heaviest_32 : decode cX6_heaviest 32 = .ok (.aload_n 0, 1) := by decide +kernel
theorem dX6_heaviest_33 : decode cX6_heaviest 33 = .ok (.getfield 40, 3) := by decide +kernel
theorem dX6_heaviest_36 : decode cX6_heaviest 36 = .ok (.iload_n 1, 1) := by decide +kernel
theorem dX6_heaviest_37 : decode cX6_heaviest 37 = .ok (.iaload, 1) := by decide +kernel
theorem dX6_heaviest_38 : decode cX6_heaviest 38 = .ok (.invokevirtual 83, 3) := by decide +kernel
theorem dX6_heaviest_41 : decode cX6_heaviest 41 = .ok (.if_icmp .le 7, 3) := by decide +kernel
theorem dX6_heaviest_44 : decode cX6_heaviest 44 = .ok (.iload_n 2, 1) := by decide +kernel
theorem dX6_heaviest_45 : decode cX6_heaviest 45 = .ok (.goto 4, 3) := by decide +kernel
theorem dX6_heaviest_48 : decode cX6_heaviest 48 = .ok (.iload_n 1, 1) := by decide +kernel
theorem dX6_heaviest_49 : decode cX6_heaviest 49 = .ok (.istore_n 1, 1) := by decide +kernel
theorem dX6_heaviest_50 : decode cX6_heaviest 50 = .ok (.iinc 2 1, 3) := by decide +kernel
theorem dX6_heaviest_53 : decode cX6_heaviest 53 = .ok (.goto (-40), 3) := by decide +kernel
theorem dX6_heaviest_56 : decode cX6_heaviest 56 = .ok (.iload_n 1, 1) := by decide +kernel
theorem dX6_heaviest_57 : decode cX6_heaviest 57 = .ok (.ireturn, 1) := by decide +kernel
set_option maxRecDepth 20000 in
theorem ggX6_witness_X6_learn : GoodIn wsX6_witness wsX6_learn := goodIn_r _ [9, 10, 4, 11, 2, 12, 3, 13, 14, 15, 8, 16, 17, 18, 19, 20, 21, 22, 23, 24, 25, 26, 27, 28, 29, 30, 31, 32, 33, 34, 35, 36, 37, 38, 39, 40, 41, 42, 43, 44, 45, 46, 47, 48, 49, 50, 51, 52, 53, 54, 55] (by decide +kernel) (by decide +kernel)
set_option maxRecDepth 20000 in
theorem gX6_witness_X6_learn : GoodIn wsX6_witness (wsV RX6 86 RX6 yX6_learn wsX6_learn) := goodIn_app (goodIn_of _ (by decide +kernel)) ggX6_witness_X6_learn
end
section
theorem dX6_witness_0 : decode cX6_witness 0 = .ok (.aload_n 0, 1) := by decide +kernel
theorem dX6_witness_1 : decode cX6_witness 1 = .ok (.iconst 0, 1) := by decide +kernel
theorem dX6_witness_2 : decode cX6_witness 2 = .ok (.putfield 49, 3) := by decide +kernel
theorem dX6_witness_5 : decode cX6_witness 5 = .ok (.iload_n 1, 1) := by decide +kernel
theorem dX6_witness_6 : decode cX6_witness 6 = .ok (.ifCond .lt 8, 3) := by decide +kernel
theorem dX6_witness_9 : decode cX6_witness 9 = .ok (.iload_n 1, 1) := by decide +kernel
theorem dX6_witness_10 : decode cX6_witness 10 = .ok (.iconst 1, 1) := by decide +kernel
theorem dX6_witness_11 : decode cX6_witness 11 = .ok (.if_icmp .le 5, 3) := by decide +kernel
theorem dX6_witness_14 : decode cX6_witness 14 = .ok (.iconst (-1), 1) := by decide +kernel
theorem dX6_witness_15 : decode cX6_witness 15 = .ok (.ireturn, 1) := by decide +kernel
theorem dX6_witness_16 : decode cX6_witness 16 = .ok (.aload_n 0, 1) := by decide +kernel
theorem dX6_witness_17 : decode cX6_witness 17 = .ok (.invokevirtual 86, 3) := by decide +kernel
theorem dX6_witness_20 : decode cX6_witness 20 = .ok (.iconst 1, 1) := by decide +kernel
theorem dX6_witness_21 : decode cX6_witness 21 = .ok (.aload_n 0, 1) := by decide +kernel
theorem dX6_witness_22 : decode cX6_witness 22 = .ok (.getfield 56, 3) := by decide +kernel
theorem dX6_witness_25 : decode cX6_witness 25 = .ok (.ishl, 1) := by decide +kernel
theorem dX6_witness_26 : decode cX6_witness 26 = .ok (.iconst 1, 1) := by decide +kernel
theorem dX6_witness_27 : decode cX6_witness 27 = .ok (.isub, 1) := by decide +kernel
theorem dX6_witness_28 : decode cX6_witness 28 = .ok (.istore_n 2, 1) := by decide +kernel
theorem dX6_witness_29 : decode cX6_witness 29 = .ok (.iload_n 2, 1) := by decide +kernel
theorem dX6_witness_30 : decode cX6_witness 30 = .ok (.istore_n 3, 1) := by decide +kernel
theorem dX6_witness_31 : decode cX6_witness 31 = .ok (.iconst 0, 1) := by decide +kernel
theorem dX6_witness_32 : decode cX6_witness 32 = .ok (.istore 4, 2) := by decide +kernel
theorem dX6_witness_34 : decode cX6_witness 34 = .ok (.iconst 0, 1) := by decide +kernel
theorem dX6_witness_35 : decode cX6_witness 35 = .ok (.istore 5, 2) := by decide +kernel
theorem dX6_witness_37 : decode cX6_witness 37 = .ok (.iload 5, 2) := by decide +kernel
theorem dX6_witness_39 : decode cX6_witness 39 = .ok (.iload_n 2, 1) := by decide +kernel
theorem dX6_witness_40 : decode cX6_witness 40 = .ok (.if_icmp .gt 49, 3) := by decide +kernel
theorem dX6_witness_43 : decode cX6_witness 43 = .ok (.aload_n 0, 1) := by decide +kernel
theorem dX6_witness_44 : decode cX6_witness 44 = .ok (.getfield 37, 3) := by decide +kernel
theorem dX6_witness_47 : decode cX6_witness 47 = .ok (.iload 5, 2) := by decide +kernel
theorem dX6_witness_49 : decode cX6_witness 49 = .ok (.iaload, 1) := by decide +kernel
theorem dX6_witness_50 : decode cX6_witness 50 = .ok (.aload_n 0, 1) := by decide +kernel
theorem dX6_witness_51 : decode cX6_witness 51 = .ok (.getfield 37, 3) := by decide +kernel
theorem dX6_witness_54 : decode cX6_witness 54 = .ok (.sipush 16384, 3) := by decide +kernel
theorem dX6_witness_57 : decode cX6_witness 57 = .ok (.iload_n 2, 1) := by decide +kernel
theorem dX6_witness_58 : decode cX6_witness 58 = .ok (.iload 5, 2) := by decide +kernel
theorem dX6_witness_60 : decode cX6_witness 60 = .ok (.ixor, 1) := by decide +kernel
theorem dX6_witness_61 : decode cX6_witness 61 = .ok (.iadd, 1) := by decide +kernel
theorem dX6_witness_62 : decode cX6_witness 62 = .ok (.iaload, 1) := by decide +kernel
theorem dX6_witness_63 : decode cX6_witness 63 = .ok (.iadd, 1) := by decide +kernel
theorem dX6_witness_64 : decode cX6_witness 64 = .ok (.aload_n 0, 1) := by decide +kernel
theorem dX6_witness_65 : decode cX6_witness 65 = .ok (.getfield 70, 3) := by decide +kernel
theorem dX6_witness_68 : decode cX6_witness 68 = .ok (.if_icmp .ne 15, 3) := by decide +kernel
theorem dX6_witness_71 : decode cX6_witness 71 = .ok (.iload_n 3, 1) := by decide +kernel
theorem dX6_witness_72 : decode cX6_witness 72 = .ok (.iload 5, 2) := by decide +kernel
theorem dX6_witness_74 : decode cX6_witness 74 = .ok (.iand, 1) := by decide +kernel
theorem dX6_witness_75 : decode cX6_witness 75 = .ok (.istore_n 3, 1) := by decide +kernel
theorem dX6_witness_76 : decode cX6_witness 76 = .ok (.iload 4, 2) := by decide +kernel
theorem dX6_witness_78 : decode cX6_witness 78 = .ok (.iload 5, 2) := by decide +kernel
theorem dX6_witness_80 : decode cX6_witness 80 = .ok (.ior, 1) := by decide +kernel
theorem dX6_witness_81 : decode cX6_witness 81 = .ok (.istore 4, 2) := by decide +kernel
theorem dX6_witness_83 : decode cX6_witness 83 = .ok (.iinc 5 1, 3) := by decide +kernel
theorem dX6_witness_86 : decode cX6_witness 86 = .ok (.goto (-49), 3) := by decide +kernel
theorem dX6_witness_89 : decode cX6_witness 89 = .ok (.iload_n 1, 1) := by decide +kernel
theorem dX6_witness_90 : decode cX6_witness 90 = .ok (.ifCond .ne 7, 3) := by decide +kernel
theorem dX6_witness_93 : decode cX6_witness 93 = .ok (.iload_n 3, 1) := by decide +kernel
theorem dX6_witness_94 : decode cX6_witness 94 = .ok (.goto 5, 3) := by decide +kernel
theorem dX6_witness_97 : decode cX6_witness 97 = .ok (.iload 4, 2) := by decide +kernel
theorem dX6_witness_99 : decode cX6_witness 99 = .ok (.ireturn, 1) := by decide +kernel
theorem dX6_check_0 : decode cX6_check 0 = .ok (.aload_n 0, 1) := by decide +kernel
theorem dX6_check_1 : decode cX6_check 1 = .ok (.iconst 0, 1) := by decide +kernel
theorem dX6_check_2 : decode cX6_check 2 = .ok (.putfield 49, 3) := by decide +kernel
theorem dX6_check_5 : decode cX6_check 5 = .ok (.iconst 1, 1) := by decide +kernel
theorem dX6_check_6 : decode cX6_check 6 = .ok (.ireturn, 1) := by decide +kernel
theorem dJ6_lowestOneBit_0f7a4_0 : decode cJ6_lowestOneBit_0f7a4 0 = .ok (.iload_n 0, 1) := by decide +kernel
theorem dJ6_lowestOneBit_0f7a4_1 : decode cJ6_lowestOneBit_0f7a4 1 = .ok (.iload_n 0, 1) := by decide +kernel
theorem dJ6_lowestOneBit_0f7a4_2 : decode cJ6_lowestOneBit_0f7a4 2 = .ok (.ineg, 1) := by decide +kernel
theorem dJ6_lowestOneBit_0f7a4_3 : decode cJ6_lowestOneBit_0f7a4 3 = .ok (.iand, 1) := by decide +kernel
theorem dJ6_lowestOneBit_0f7a4_4 : decode cJ6_lowestOneBit_0f7a4 4 = .ok (.ireturn, 1) := by decide +kernel
theorem dJ6_numberOfTrailingZeros_0f7a4_0 : decode cJ6_numberOfTrailingZeros_0f7a4 0 = .ok (.iload_n 0, 1) := by decide +kernel
theorem dJ6_numberOfTrailingZeros_0f7a4_1 : decode cJ6_numberOfTrailingZeros_0f7a4 1 = .ok (.iconst (-1), 1) := by decide +kernel
theorem dJ6_numberOfTrailingZeros_0f7a4_2 : decode cJ6_numberOfTrailingZeros_0f7a4 2 = .ok (.ixor, 1) := by decide +kernel
theorem dJ6_numberOfTrailingZeros_0f7a4_3 : decode cJ6_numberOfTrailingZeros_0f7a4 3 = .ok (.iload_n 0, 1) := by decide +kernel
theorem dJ6_numberOfTrailingZeros_0f7a4_4 : decode cJ6_numberOfTrailingZeros_0f7a4 4 = .ok (.iconst 1, 1) := by decide +kernel
theorem dJ6_numberOfTrailingZeros_0f7a4_5 : decode cJ6_numberOfTrailingZeros_0f7a4 5 = .ok (.isub, 1) := by decide +kernel
theorem dJ6_numberOfTrailingZeros_0f7a4_6 : decode cJ6_numberOfTrailingZeros_0f7a4 6 = .ok (.iand, 1) := by decide +kernel
theorem dJ6_numberOfTrailingZeros_0f7a4_7 : decode cJ6_numberOfTrailingZeros_0f7a4 7 = .ok (.istore_n 0, 1) := by decide +kernel
theorem dJ6_numberOfTrailingZeros_0f7a4_8 : decode cJ6_numberOfTrailingZeros_0f7a4 8 = .ok (.iload_n 0, 1) := by decide +kernel
theorem dJ6_numberOfTrailingZeros_0f7a4_9 : decode cJ6_numberOfTrailingZeros_0f7a4 9 = .ok (.ifCond .gt 8, 3) := by decide +kernel
theorem dJ6_numberOfTrailingZeros_0f7a4_12 : decode cJ6_numberOfTrailingZeros_0f7a4 12 = .ok (.iload_n 0, 1) := by decide +kernel
theorem dJ6_numberOfTrailingZeros_0f7a4_13 : decode cJ6_numberOfTrailingZeros_0f7a4 13 = .ok (.bipush 32, 2) := by decide +kernel
theorem dJ6_numberOfTrailingZeros_0f7a4_15 : decode cJ6_numberOfTrailingZeros_0f7a4 15 = .ok (.iand, 1) := by decide +kernel
theorem dJ6_numberOfTrailingZeros_0f7a4_16 : decode cJ6_numberOfTrailingZeros_0f7a4 16 = .ok (.ireturn, 1) := by decide +kernel
theorem dJ6_numberOfTrailingZeros_0f7a4_17 : decode cJ6_numberOfTrailingZeros_0f7a4 17 = .ok (.iconst 1, 1) := by decide +kernel
theorem dJ6_numberOfTrailingZeros_0f7a4_18 : decode cJ6_numberOfTrailingZeros_0f7a4 18 = .ok (.istore_n 1, 1) := by decide +kernel
theorem dJ6_numberOfTrailingZeros_0f7a4_19 : decode cJ6_numberOfTrailingZeros_0f7a4 19 = .ok (.iload_n 0, 1) := by decide +kernel
theorem dJ6_numberOfTrailingZeros_0f7a4_20 : decode cJ6_numberOfTrailingZeros_0f7a4 20 = .ok (.ldc_w 264, 3) := by decide +kernel
theorem dJ6_numberOfTrailingZeros_0f7a4_23 : decode cJ6_numberOfTrailingZeros_0f7a4 23 = .ok (.if_icmp .le 11, 3) := by decide +kernel
theorem dJ6_numberOfTrailingZeros_0f7a4_26 : decode cJ6_numberOfTrailingZeros_0f7a4 26 = .ok (.iinc 1 16, 3) := by decide +kernel
theorem dJ6_numberOfTrailingZeros_0f7a4_29 : decode cJ6_numberOfTrailingZeros_0f7a4 29 = .ok (.iload_n 0, 1) := by decide +kernel
theorem dJ6_numberOfTrailingZeros_0f7a4_30 : decode cJ6_numberOfTrailingZeros_0f7a4 30 = .ok (.bipush 16, 2) := by decide +kernel
theorem dJ6_numberOfTrailingZeros_0f7a4_32 : decode cJ6_numberOfTrailingZeros_0f7a4 32 = .ok (.iushr, 1) := by decide +kernel
theorem dJ6_numberOfTrailingZeros_0f7a4_33 : decode cJ6_numberOfTrailingZeros_0f7a4 33 = .ok (.istore_n 0, 1) := by decide +kernel
theorem dJ6_numberOfTrailingZeros_0f7a4_34 : decode cJ6_numberOfTrailingZeros_0f7a4 34 = .ok (.iload_n 0, 1) := by decide +kernel
theorem dJ6_numberOfTrailingZeros_0f7a4_35 : decode cJ6_numberOfTrailingZeros_0f7a4 35 = .ok (.sipush 256, 3) := by decide +kernel
theorem dJ6_numberOfTrailingZeros_0f7a4_38 : decode cJ6_numberOfTrailingZeros_0f7a4 38 = .ok (.if_icmp .le 11, 3) := by decide +kernel
theorem dJ6_numberOfTrailingZeros_0f7a4_41 : decode cJ6_numberOfTrailingZeros_0f7a4 41 = .ok (.iinc 1 8, 3) := by decide +kernel
theorem dJ6_numberOfTrailingZeros_0f7a4_44 : decode cJ6_numberOfTrailingZeros_0f7a4 44 = .ok (.iload_n 0, 1) := by decide +kernel
theorem dJ6_numberOfTrailingZeros_0f7a4_45 : decode cJ6_numberOfTrailingZeros_0f7a4 45 = .ok (.bipush 8, 2) := by decide +kernel
theorem dJ6_numberOfTrailingZeros_0f7a4_47 : decode cJ6_numberOfTrailingZeros_0f7a4 47 = .ok (.iushr, 1) := by decide +kernel
theorem dJ6_numberOfTrailingZeros_0f7a4_48 : decode cJ6_numberOfTrailingZeros_0f7a4 48 = .ok (.istore_n 0, 1) := by decide +kernel
theorem dJ6_numberOfTrailingZeros_0f7a4_49 : decode cJ6_numberOfTrailingZeros_0f7a4 49 = .ok (.iload_n 0, 1) := by decide +kernel
theorem dJ6_numberOfTrailingZeros_0f7a4_50 : decode cJ6_numberOfTrailingZeros_0f7a4 50 = .ok (.bipush 16, 2) := by decide +kernel
theorem dJ6_numberOfTrailingZeros_0f7a4_52 : decode cJ6_numberOfTrailingZeros_0f7a4 52 = .ok (.if_icmp .le 10, 3) := by decide +kernel
theorem dJ6_numberOfTrailingZeros_0f7a4_55 : decode cJ6_numberOfTrailingZeros_0f7a4 55 = .ok (.iinc 1 4, 3) := by decide +kernel
theorem dJ6_numberOfTrailingZeros_0f7a4_58 : decode cJ6_numberOfTrailingZeros_0f7a4 58 = .ok (.iload_n 0, 1) := by decide +kernel
theorem dJ6_numberOfTrailingZeros_0f7a4_59 : decode cJ6_numberOfTrailingZeros_0f7a4 59 = .ok (.iconst 4, 1) := by decide +kernel
theorem dJ6_numberOfTrailingZeros_0f7a4_60 : decode cJ6_numberOfTrailingZeros_0f7a4 60 = .ok (.iushr, 1) := by decide +kernel
theorem dJ6_numberOfTrailingZeros_0f7a4_61 : decode cJ6_numberOfTrailingZeros_0f7a4 61 = .ok (.istore_n 0, 1) := by decide +kernel
theorem dJ6_numberOfTrailingZeros_0f7a4_62 : decode cJ6_numberOfTrailingZeros_0f7a4 62 = .ok (.iload_n 0, 1) := by decide +kernel
theorem dJ6_numberOfTrailingZeros_0f7a4_63 : decode cJ6_numberOfTrailingZeros_0f7a4 63 = .ok (.iconst 4, 1) := by decide +kernel
theorem dJ6_numberOfTrailingZeros_0f7a4_64 : decode cJ6_numberOfTrailingZeros_0f7a4 64 = .ok (.if_icmp .le 10, 3) := by decide +kernel
theorem dJ6_numberOfTrailingZeros_0f7a4_67 : decode cJ6_numberOfTrailingZeros_0f7a4 67 = .ok (.iinc 1 2, 3) := by decide +kernel
theorem dJ6_numberOfTrailingZeros_0f7a4_70 : decode cJ6_numberOfTrailingZeros_0f7a4 70 = .ok (.iload_n 0, 1) := by decide +kernel
theorem dJ6_numberOfTrailingZeros_0f7a4_71 : decode cJ6_numberOfTrailingZeros_0f7a4 71 = .ok (.iconst 2, 1) := by decide +kernel
theorem dJ6_numberOfTrailingZeros_0f7a4_72 : decode cJ6_numberOfTrailingZeros_0f7a4 72 = .ok (.iushr, 1) := by decide +kernel
theorem dJ6_numberOfTrailingZeros_0f7a4_73 : decode cJ6_numberOfTrailingZeros_0f7a4 73 = .ok (.istore_n 0, 1) := by decide +kernel
theorem dJ6_numberOfTrailingZeros_0f7a4_74 : decode cJ6_numberOfTrailingZeros_0f7a4 74 = .ok (.iload_n 1, 1) := by decide +kernel
theorem dJ6_numberOfTrailingZeros_0f7a4_75 : decode cJ6_numberOfTrailingZeros_0f7a4 75 = .ok (.iload_n 0, 1) := by decide +kernel
theorem dJ6_numberOfTrailingZeros_0f7a4_76 : decode cJ6_numberOfTrailingZeros_0f7a4 76 = .ok (.iconst 1, 1) := by decide +kernel
theorem dJ6_numberOfTrailingZeros_0f7a4_77 : decode cJ6_numberOfTrailingZeros_0f7a4 77 = .ok (.iushr, 1) := by decide +kernel
theorem dJ6_numberOfTrailingZeros_0f7a4_78 : decode cJ6_numberOfTrailingZeros_0f7a4 78 = .ok (.iadd, 1) := by decide +kernel
theorem dJ6_numberOfTrailingZeros_0f7a4_79 : decode cJ6_numberOfTrailingZeros_0f7a4 79 = .ok (.ireturn, 1) := by decide +kernel
theorem dJ6_bitCount_0f7a4_0 : decode cJ6_bitCount_0f7a4 0 = .ok (.iload_n 0, 1) := by decide +kernel
theorem dJ6_bitCount_0f7a4_1 : decode cJ6_bitCount_0f7a4 1 = .ok (.iload_n 0, 1) := by decide +kernel
theorem dJ6_bitCount_0f7a4_2 : decode cJ6_bitCount_0f7a4 2 = .ok (.iconst 1, 1) := by decide +kernel
theorem dJ6_bitCount_0f7a4_3 : decode cJ6_bitCount_0f7a4 3 = .ok (.iushr, 1) := by decide +kernel
theorem dJ6_bitCount_0f7a4_4 : decode cJ6_bitCount_0f7a4 4 = .ok (.ldc_w 265, 3) := by decide +kernel
theorem dJ6_bitCount_0f7a4_7 : decode cJ6_bitCount_0f7a4 7 = .ok (.iand, 1) := by decide +kernel
theorem dJ6_bitCount_0f7a4_8 : decode cJ6_bitCount_0f7a4 8 = .ok (.isub, 1) := by decide +kernel
theorem dJ6_bitCount_0f7a4_9 : decode cJ6_bitCount_0f7a4 9 = .ok (.istore_n 0, 1) := by decide +kernel
theorem dJ6_bitCount_0f7a4_10 : decode cJ6_bitCount_0f7a4 10 = .ok (.iload_n 0, 1) := by decide +kernel
theorem dJ6_bitCount_0f7a4_11 : decode cJ6_bitCount_0f7a4 11 = .ok (.ldc_w 266, 3) := by decide +kernel
theorem dJ6_bitCount_0f7a4_14 : decode cJ6_bitCount_0f7a4 14 = .ok (.iand, 1) := by decide +kernel
theorem dJ6_bitCount_0f7a4_15 : decode cJ6_bitCount_0f7a4 15 = .ok (.iload_n 0, 1) := by decide +kernel
theorem dJ6_bitCount_0f7a4_16 : decode cJ6_bitCount_0f7a4 16 = .ok (.iconst 2, 1) := by decide +kernel
theorem dJ6_bitCount_0f7a4_17 : decode cJ6_bitCount_0f7a4 17 = .ok (.iushr, 1) := by decide +kernel
theorem dJ6_bitCount_0f7a4_18 : decode cJ6_bitCount_0f7a4 18 = .ok (.ldc_w 266, 3) := by decide +kernel
theorem dJ6_bitCount_0f7a4_21 : decode cJ6_bitCount_0f7a4 21 = .ok (.iand, 1) := by decide +kernel
theorem dJ6_bitCount_0f7a4_22 : decode cJ6_bitCount_0f7a4 22 = .ok (.iadd, 1) := by decide +kernel
theorem dJ6_bitCount_0f7a4_23 : decode cJ6_bitCount_0f7a4 23 = .ok (.istore_n 0, 1) := by decide +kernel
theorem dJ6_bitCount_0f7a4_24 : decode cJ6_bitCount_0f7a4 24 = .ok (.iload_n 0, 1) := by decide +kernel
theorem dJ6_bitCount_0f7a4_25 : decode cJ6_bitCount_0f7a4 25 = .ok (.iload_n 0, 1) := by decide +kernel
theorem dJ6_bitCount_0f7a4_26 : decode cJ6_bitCount_0f7a4 26 = .ok (.iconst 4, 1) := by decide +kernel
theorem dJ6_bitCount_0f7a4_27 : decode cJ6_bitCount_0f7a4 27 = .ok (.iushr, 1) := by decide +kernel
theorem dJ6_bitCount_0f7a4_28 : decode cJ6_bitCount_0f7a4 28 = .ok (.iadd, 1) := by decide +kernel
theorem dJ6_bitCount_0f7a4_29 : decode cJ6_bitCount_0f7a4 29 = .ok (.ldc_w 267, 3) := by decide +kernel
theorem dJ6_bitCount_0f7a4_32 : decode cJ6_bitCount_0f7a4 32 = .ok (.iand, 1) := by decide +kernel
theorem dJ6_bitCount_0f7a4_33 : decode cJ6_bitCount_0f7a4 33 = .ok (.istore_n 0, 1) := by decide +kernel
theorem dJ6_bitCount_0f7a4_34 : decode cJ6_bitCount_0f7a4 34 = .ok (.iload_n 0, 1) := by decide +kernel
theorem dJ6_bitCount_0f7a4_35 : decode cJ6_bitCount_0f7a4 35 = .ok (.iload_n 0, 1) := by decide +kernel
theorem dJ6_bitCount_0f7a4_36 : decode cJ6_bitCount_0f7a4 36 = .ok (.bipush 8, 2) := by decide +kernel
theorem dJ6_bitCount_0f7a4_38 : decode cJ6_bitCount_0f7a4 38 = .ok (.iushr, 1) := by decide +kernel
theorem dJ6_bitCount_0f7a4_39 : decode cJ6_bitCount_0f7a4 39 = .ok (.iadd, 1) := by decide +kernel
theorem dJ6_bitCount_0f7a4_40 : decode cJ6_bitCount_0f7a4 40 = .ok (.istore_n 0, 1) := by decide +kernel
theorem dJ6_bitCount_0f7a4_41 : decode cJ6_bitCount_0f7a4 41 = .ok (.iload_n 0, 1) := by decide +kernel
theorem dJ6_bitCount_0f7a4_42 : decode cJ6_bitCount_0f7a4 42 = .ok (.iload_n 0, 1) := by decide +kernel
theorem dJ6_bitCount_0f7a4_43 : decode cJ6_bitCount_0f7a4 43 = .ok (.bipush 16, 2) := by decide +kernel
theorem dJ6_bitCount_0f7a4_45 : decode cJ6_bitCount_0f7a4 45 = .ok (.iushr, 1) := by decide +kernel
theorem dJ6_bitCount_0f7a4_46 : decode cJ6_bitCount_0f7a4 46 = .ok (.iadd, 1) := by decide +kernel
theorem dJ6_bitCount_0f7a4_47 : decode cJ6_bitCount_0f7a4 47 = .ok (.istore_n 0, 1) := by decide +kernel
theorem dJ6_bitCount_0f7a4_48 : decode cJ6_bitCount_0f7a4 48 = .ok (.iload_n 0, 1) := by decide +kernel
theorem dJ6_bitCount_0f7a4_49 : decode cJ6_bitCount_0f7a4 49 = .ok (.bipush 63, 2) := by decide +kernel
theorem dJ6_bitCount_0f7a4_51 : decode cJ6_bitCount_0f7a4 51 = .ok (.iand, 1) := by decide +kernel
theorem dJ6_bitCount_0f7a4_52 : decode cJ6_bitCount_0f7a4 52 = .ok (.ireturn, 1) := by decide +kernel
theorem dJ9_max_7cf53_0 : decode cJ9_max_7cf53 0 = .ok (.iload_n 0, 1) := by decide +kernel
theorem dJ9_max_7cf53_1 : decode cJ9_max_7cf53 1 = .ok (.iload_n 1, 1) := by decide +kernel
theorem dJ9_max_7cf53_2 : decode cJ9_max_7cf53 2 = .ok (.if_icmp .lt 7, 3) := by decide +kernel
theorem dJ9_max_7cf53_5 : decode cJ9_max_7cf53 5 = .ok (.iload_n 0, 1) := by decide +kernel
theorem dJ9_max_7cf53_6 : decode cJ9_max_7cf53 6 = .ok (.goto 4, 3) := by decide +kernel
theorem dJ9_max_7cf53_9 : decode cJ9_max_7cf53 9 = .ok (.iload_n 1, 1) := by decide +kernel
theorem dJ9_max_7cf53_10 : decode cJ9_max_7cf53 10 = .ok (.ireturn, 1) := by decide +kernel
theorem dJ7_fill_53178_0 : decode cJ7_fill_53178 0 = .ok (.iconst 0, 1) := by decide +kernel
theorem dJ7_fill_53178_1 : decode cJ7_fill_53178 1 = .ok (.istore_n 2, 1) := by decide +kernel
theorem dJ7_fill_53178_2 : decode cJ7_fill_53178 2 = .ok (.aload_n 0, 1) := by decide +kernel
theorem dJ7_fill_53178_3 : decode cJ7_fill_53178 3 = .ok (.arraylength, 1) := by decide +kernel
theorem dJ7_fill_53178_4 : decode cJ7_fill_53178 4 = .ok (.istore_n 3, 1) := by decide +kernel
theorem dJ7_fill_53178_5 : decode cJ7_fill_53178 5 = .ok (.iload_n 2, 1) := by decide +kernel
theorem dJ7_fill_53178_6 : decode cJ7_fill_53178 6 = .ok (.iload_n 3, 1) := by decide +kernel
theorem dJ7_fill_53178_7 : decode cJ7_fill_53178 7 = .ok (.if_icmp .ge 13, 3) := by decide +kernel
theorem dJ7_fill_53178_10 : decode cJ7_fill_53178 10 = .ok (.aload_n 0, 1) := by decide +kernel
theorem dJ7_fill_53178_11 : decode cJ7_fill_53178 11 = .ok (.iload_n 2, 1) := by decide +kernel
theorem dJ7_fill_53178_12 : decode cJ7_fill_53178 12 = .ok (.iload_n 1, 1) := by decide +kernel
theorem dJ7_fill_53178_13 : decode cJ7_fill_53178 13 = .ok (.iastore, 1) := by decide +kernel
theorem dJ7_fill_53178_14 : decode cJ7_fill_53178 14 = .ok (.iinc 2 1, 3) := by decide +kernel
theorem dJ7_fill_53178_17 : decode cJ7_fill_53178 17 = .ok (.goto (-12), 3) := by decide +kernel
theorem dJ7_fill_53178_20 : decode cJ7_fill_53178 20 = .ok (.return_, 1) := by decide +kernel
set_option maxRecDepth 20000 in
theorem ggL_make_X5_make : GoodIn wsL_make wsX5_make := goodIn_ca (goodIn_r _ [6, 7, 8, 9, 10, 11, 5, 12, 13, 14, 15, 16, 17, 18, 19, 20, 21, 22, 23, 24, 25, 26, 27, 28, 29, 30, 31, 32, 33, 34, 35, 36, 37, 38, 39] (by decide +kernel) (by decide +kernel)) (goodIn_sub (fun _ h => List.mem_cons_of_mem _ (List.mem_append_right _ h)) (by decide +kernel))
set_option maxRecDepth 20000 in
theorem gL_make_X5_make : GoodIn wsL_make (wsV RL 7 RX5 yX5_make wsX5_make) := goodIn_app (goodIn_of _ (by decide +kernel)) ggL_make_X5_make
theorem dL_make_0 : decode cL_make 0 = .ok (.aload_n 0, 1) := by decide +kernel
theorem dL_make_1 : decode cL_make 1 = .ok (.iload_n 1, 1) := by decide +kernel
theorem dL_make_2 : decode cL_make 2 = .ok (.iload_n 2, 1) := by decide +kernel
theorem dL_make_3 : decode cL_make 3 = .ok (.invokevirtual 7, 3) := by decide +kernel
theorem dL_make_6 : decode cL_make 6 = .ok (.goto 6, 3) := by decide +kernel
theorem dL_make_9 : decode cL_make 9 = .ok (.astore_n 3, 1) := by decide +kernel
theorem dL_make_10 : decode cL_make 10 = .ok (.iconst 1, 1) := by decide +kernel
theorem dL_make_11 : decode cL_make 11 = .ok (.ireturn, 1) := by decide +kernel
theorem dL_make_12 : decode cL_make 12 = .ok (.iconst 0, 1) := by decide +kernel
theorem dL_make_13 : decode cL_make 13 = .ok (.ireturn, 1) := by decide +kernel
set_option maxRecDepth 20000 in
theorem ggL_limit_X5_limit : GoodIn wsL_limit wsX5_limit := goodIn_ca (goodIn_ca (goodIn_r _ [7, 8, 9, 10, 11, 12, 13, 14, 15, 16, 17, 18, 19, 6, 20, 21, 22, 23, 24, 25, 26, 27, 28, 29, 30, 31, 32, 33, 34, 35, 36, 37, 38, 39, 40] (by decide +kernel) (by decide +kernel)) (goodIn_sub (fun _ h => List.mem_cons_of_mem _ (List.mem_append_left _ (List.mem_append_right _ h))) (by decide +kernel))) (goodIn_sub (fun _ h => List.mem_cons_of_mem _ (List.mem_append_right _ h)) (by decide +kernel))
set_option maxRecDepth 20000 in
theorem gL_limit_X5_limit : GoodIn wsL_limit (wsV RL 15 RX5 yX5_limit wsX5_limit) := goodIn_app (goodIn_of _ (by decide +kernel)) ggL_limit_X5_limit
theorem dL_limit_0 : decode cL_limit 0 = .ok (.aload_n 0, 1) := by decide +kernel
theorem dL_limit_1 : decode cL_limit 1 = .ok (.iload_n 1, 1) := by decide +kernel
theorem dL_limit_2 : decode cL_limit 2 = .ok (.iload_n 2, 1) := by decide +kernel
theorem dL_limit_3 : decode cL_limit 3 = .ok (.invokevirtual 15, 3) := by decide +kernel
theorem dL_limit_6 : decode cL_limit 6 = .ok (.goto 9, 3) := by decide +kernel
theorem dL_limit_9 : decode cL_limit 9 = .ok (.astore_n 3, 1) := by decide +kernel
theorem dL_limit_10 : decode cL_limit 10 = .ok (.iconst 1, 1) := by decide +kernel
theorem dL_limit_11 : decode cL_limit 11 = .ok (.ireturn, 1) := by decide +kernel
theorem dL_limit_12 : decode cL_limit 12 = .ok (.astore_n 3, 1) := by decide +kernel
theorem dL_limit_13 : decode cL_limit 13 = .ok (.iconst 2, 1) := by decide +kernel
theorem dL_limit_14 : decode cL_limit 14 = .ok (.ireturn, 1) := by decide +kernel
theorem dL_limit_15 : decode cL_limit 15 = .ok (.iconst 0, 1) := by decide +kernel
theorem dL_limit_16 : decode cL_limit 16 = .ok (.ireturn, 1) := by decide +kernel
set_option maxRecDepth 20000 in
theorem ggL_weigh_X5_weigh : GoodIn wsL_weigh wsX5_weigh := goodIn_ca (goodIn_ca (goodIn_r _ [7, 8, 9, 10, 11, 12, 13, 14, 15, 16, 17, 18, 19, 6, 20, 21, 22, 23, 24, 25, 26, 27, 28, 29, 30, 31, 32, 33, 34, 35, 36, 37, 38, 39, 40, 41, 42, 43] (by decide +kernel) (by decide +kernel)) (goodIn_sub (fun _ h => List.mem_cons_of_mem _ (List.mem_append_left _ (List.mem_append_right _ h))) (by decide +kernel))) (goodIn_sub (fun _ h => List.mem_cons_of_mem _ (List.mem_append_right _ h)) (by decide +kernel))
set_option maxRecDepth 20000 in
theorem gL_weigh_X5_weigh : GoodIn wsL_weigh (wsV RL 20 RX5 yX5_weigh wsX5_weigh) := goodIn_app (goodIn_of _ (by decide +kernel)) ggL_weigh_X5_weigh
theorem dL_weigh_0 : decode cL_weigh 0 = .ok (.aload_n 0, 1) := by decide +kernel
theorem dL_weigh_1 : decode cL_weigh 1 = .ok (.iload_n 1, 1) := by decide +kernel
theorem dL_weigh_2 : decode cL_weigh 2 = .ok (.iload_n 2, 1) := by decide +kernel
theorem dL_weigh_3 : decode cL_weigh 3 = .ok (.invokevirtual 20, 3) := by decide +kernel
theorem dL_weigh_6 : decode cL_weigh 6 = .ok (.goto 9, 3) := by decide +kernel
theorem dL_weigh_9 : decode cL_weigh 9 = .ok (.astore_n 3, 1) := by decide +kernel
theorem dL_weigh_10 : decode cL_weigh 10 = .ok (.iconst 1, 1) := by decide +kernel
theorem dL_weigh_11 : decode cL_weigh 11 = .ok (.ireturn, 1) := by decide +kernel
theorem dL_weigh_12 : decode cL_weigh 12 = .ok (.astore_n 3, 1) := by decide +kernel
theorem dL_weigh_13 : decode cL_weigh 13 = .ok (.iconst 2, 1) := by decide +kernel
theorem dL_weigh_14 : decode cL_weigh 14 = .ok (.ireturn, 1) := by decide +kernel
theorem dL_weigh_15 : decode cL_weigh 15 = .ok (.iconst 0, 1) := by decide +kernel
theorem dL_weigh_16 : decode cL_weigh 16 = .ok (.ireturn, 1) := by decide +kernel
set_option maxRecDepth 20000 in
theorem ggL_weight_X5_weight : GoodIn wsL_weight wsX5_weight := goodIn_ca (goodIn_r _ [6, 7, 8, 9, 10, 11, 12, 13, 14, 15, 16, 17, 18, 19, 20, 21, 22, 23, 24, 25, 26, 27, 28, 29, 30, 31, 32, 33, 34, 35, 36, 37, 38, 39, 40, 41, 42, 43, 5, 44, 45, 46, 47, 48, 49, 50, 51, 52, 53, 54, 55, 56, 57, 58, 59, 60, 61, 62, 63, 64, 65, 66, 67, 68, 69, 70, 71, 72, 73, 74, 75, 76, 77, 78, 79, 80, 81, 82, 83, 84, 85, 86, 87, 88, 89, 90, 91, 92, 93, 94, 95, 96, 97, 98, 99, 100, 101, 102, 103, 104, 105, 106, 107, 108, 109, 110, 111, 112, 113, 114, 115, 116, 117, 118, 119, 120, 121, 122, 123, 124, 125, 126, 127, 128, 129, 130, 131, 132, 133, 134, 135, 136, 137] (by decide +kernel) (by decide +kernel)) (goodIn_sub (fun _ h => List.mem_cons_of_mem _ (List.mem_append_right _ h)) (by decide +kernel))
set_option maxRecDepth 20000 in
theorem gL_weight_X5_weight : GoodIn wsL_weight (wsV RL 23 RX5 yX5_weight wsX5_weight) := goodIn_app (goodIn_of _ (by decide +kernel)) ggL_weight_X5_weight
theorem dL_weight_0 : decode cL_weight 0 = .ok (.aload_n 2, 1) := by decide +kernel
theorem dL_weight_1 : decode cL_weight 1 = .ok (.iconst 0, 1) := by decide +kernel
theorem dL_weight_2 : decode cL_weight 2 = .ok (.aload_n 0, 1) := by decide +kernel
theorem dL_weight_3 : decode cL_weight 3 = .ok (.iload_n 1, 1) := by decide +kernel
theorem dL_weight_4 : decode cL_weight 4 = .ok (.invokevirtual 23, 3) := by decide +kernel
theorem dL_weight_7 : decode cL_weight 7 = .ok (.i2l, 1) := by decide +kernel
theorem dL_weight_8 : decode cL_weight 8 = .ok (.lastore, 1) := by decide +kernel
theorem dL_weight_9 : decode cL_weight 9 = .ok (.goto 6, 3) := by decide +kernel
theorem dL_weight_12 : decode cL_weight 12 = .ok (.astore_n 3, 1) := by decide +kernel
theorem dL_weight_13 : decode cL_weight 13 = .ok (.iconst 1, 1) := by decide +kernel
theorem dL_weight_14 : decode cL_weight 14 = .ok (.ireturn, 1) := by decide +kernel
theorem dL_weight_15 : decode cL_weight 15 = .ok (.iconst 0, 1) := by decide +kernel
theorem dL_weight_16 : decode cL_weight 16 = .ok (.ireturn, 1) := by decide +kernel
set_option maxRecDepth 20000 in
theorem ggL_law_X5_init : GoodIn wsL_law wsX5_init := goodIn_r _ [9, 10, 11, 12, 13, 14, 15, 16, 17, 18, 19, 20, 21, 22, 23, 24, 25, 26, 27, 28, 29, 30, 31, 32, 33, 34, 35, 36, 37, 38, 39, 40, 41, 42, 43, 44, 45, 46, 47, 48, 49, 50, 51, 52, 53, 54, 55, 56, 57, 58, 59, 60, 61, 62, 63, 64, 512, 513, 514, 515, 516, 517, 518, 519, 520, 492, 493, 494, 495, 521, 522, 523, 524, 525, 526, 527, 528, 529, 530, 531, 532, 533] (by decide +kernel) (by decide +kernel)
set_option maxRecDepth 20000 in
theorem gL_law_X5_init : GoodIn wsL_law (wsX5_init) := ggL_law_X5_init
set_option maxRecDepth 20000 in
theorem ggL_law_X6_init : GoodIn wsL_law wsX6_init := goodIn_r _ [67, 68, 11, 12, 69, 70, 33, 71, 72, 73, 74, 75, 76, 77, 78, 79, 80, 81, 82, 496, 497, 498, 499, 500, 501, 502, 503, 504, 505, 506, 507, 508, 509, 510, 511] (by decide +kernel) (by decide +kernel)
set_option maxRecDepth 20000 in
theorem gL_law_X6_init : GoodIn wsL_law (wsX6_init) := ggL_law_X6_init
set_option maxRecDepth 20000 in
theorem ggL_law_L_make : GoodIn wsL_law wsL_make := goodIn_ca (goodIn_r _ [86, 87, 88, 89, 90, 2, 91, 92, 93, 16, 94, 95, 96, 97, 98, 99, 15, 100, 39, 40, 101, 34, 102, 103, 104, 105, 106, 492, 493, 494, 495, 512, 513, 514, 515, 516, 517, 518, 519, 520] (by decide +kernel) (by decide +kernel)) (goodIn_sub (fun _ h => List.mem_append_left _ (List.mem_append_right _ h)) (by decide +kernel))
set_option maxRecDepth 20000 in
theorem gL_law_L_make : GoodIn wsL_law (va_wsS RL 31 yL_make wsL_make) := goodIn_app (goodIn_of _ (by decide +kernel)) ggL_law_L_make
set_option maxRecDepth 20000 in
theorem ggL_law_X6_make : GoodIn wsL_law wsX6_make := goodIn_r _ [110, 69, 70, 111, 71, 112, 113, 114, 115, 5, 116, 117, 496, 497, 498, 499, 500, 501, 502, 503, 504, 505, 506, 507, 508, 509, 510, 511] (by decide +kernel) (by decide +kernel)
set_option maxRecDepth 20000 in
theorem gL_law_X6_make : GoodIn wsL_law (wsV RL 36 RX6 yX6_make wsX6_make) := goodIn_app (goodIn_of _ (by decide +kernel)) ggL_law_X6_make
set_option maxRecDepth 20000 in
theorem ggL_law_X6_thrown : GoodIn wsL_law wsX6_thrown := goodIn_r _ [121, 117, 496, 497, 498, 499, 500, 501, 502, 503, 504, 505, 506, 507, 508, 509, 510, 511] (by decide +kernel) (by decide +kernel)
set_option maxRecDepth 20000 in
theorem gL_law_X6_thrown : GoodIn wsL_law (wsV RL 37 RX6 yX6_thrown wsX6_thrown) := goodIn_app (goodIn_of _ (by decide +kernel)) ggL_law_X6_thrown
set_option maxRecDepth 20000 in
theorem ggL_law_X5_edge : GoodIn wsL_law wsX5_edge := goodIn_r _ [125, 16, 126, 127, 128, 129, 15, 130, 39, 95, 2, 96, 131, 132, 133, 134, 40, 135, 136, 137, 94, 138, 139, 140, 141, 101, 35, 36, 37, 38, 102, 492, 493, 494, 495, 512, 513, 514, 515, 516, 517, 518, 519, 520] (by decide +kernel) (by decide +kernel)
set_option maxRecDepth 20000 in
theorem gL_law_X5_edge : GoodIn wsL_law (wsV RL 41 RX5 yX5_edge wsX5_edge) := goodIn_app (goodIn_of _ (by decide +kernel)) ggL_law_X5_edge
set_option maxRecDepth 20000 in
theorem ggL_law_X6_edge : GoodIn wsL_law wsX6_edge := goodIn_r _ [145, 117, 69, 70, 111, 72, 73, 74, 75, 112, 146, 147, 5, 148, 496, 497, 498, 499, 500, 501, 502, 503, 504, 505, 506, 507, 508, 509, 510, 511] (by decide +kernel) (by decide +kernel)
set_option maxRecDepth 20000 in
theorem gL_law_X6_edge : GoodIn wsL_law (wsV RL 45 RX6 yX6_edge wsX6_edge) := goodIn_app (goodIn_of _ (by decide +kernel)) ggL_law_X6_edge
set_option maxRecDepth 20000 in
theorem ggL_law_L_limit : GoodIn wsL_law wsL_limit := goodIn_ca (goodIn_ca (goodIn_r _ [151, 152, 87, 153, 154, 155, 2, 156, 157, 158, 92, 93, 16, 131, 132, 133, 15, 134, 40, 95, 96, 94, 159, 160, 161, 162, 34, 102, 492, 493, 494, 495, 512, 513, 514, 515, 516, 517, 518, 519, 520] (by decide +kernel) (by decide +kernel)) (goodIn_sub (fun _ h => List.mem_append_right _ h) (by decide +kernel))) (goodIn_sub (fun _ h => List.mem_append_left _ (List.mem_append_right _ h)) (by decide +kernel))
set_option maxRecDepth 20000 in
theorem gL_law_L_limit : GoodIn wsL_law (va_wsS RL 46 yL_limit wsL_limit) := goodIn_app (goodIn_of _ (by decide +kernel)) ggL_law_L_limit
set_option maxRecDepth 20000 in
theorem ggL_law_X6_limit : GoodIn wsL_law wsX6_limit := goodIn_r _ [166, 70, 71, 112, 113, 114, 115, 5, 116, 117, 496, 497, 498, 499, 500, 501, 502, 503, 504, 505, 506, 507, 508, 509, 510, 511] (by decide +kernel) (by decide +kernel)
set_option maxRecDepth 20000 in
theorem gL_law_X6_limit : GoodIn wsL_law (wsV RL 48 RX6 yX6_limit wsX6_limit) := goodIn_app (goodIn_of _ (by decide +kernel)) ggL_law_X6_limit
set_option maxRecDepth 20000 in
theorem ggL_law_L_weigh : GoodIn wsL_law wsL_weigh := goodIn_ca (goodIn_ca (goodIn_r _ [169, 152, 87, 170, 171, 172, 2, 173, 157, 158, 92, 93, 16, 174, 175, 176, 15, 177, 101, 95, 96, 135, 136, 137, 94, 178, 179, 180, 181, 38, 102, 492, 493, 494, 495, 512, 513, 514, 515, 516, 517, 518, 519, 520] (by decide +kernel) (by decide +kernel)) (goodIn_sub (fun _ h => List.mem_append_right _ h) (by decide +kernel))) (goodIn_sub (fun _ h => List.mem_append_left _ (List.mem_append_right _ h)) (by decide +kernel))
set_option maxRecDepth 20000 in
theorem gL_law_L_weigh : GoodIn wsL_law (va_wsS RL 49 yL_weigh wsL_weigh) := goodIn_app (goodIn_of _ (by decide +kernel)) ggL_law_L_weigh
set_option maxRecDepth 20000 in
theorem ggL_law_X6_weigh : GoodIn wsL_law wsX6_weigh := goodIn_r _ [185, 111, 75, 112, 146, 147, 5, 148, 113, 114, 115, 116, 117, 496, 497, 498, 499, 500, 501, 502, 503, 504, 505, 506, 507, 508, 509, 510, 511] (by decide +kernel) (by decide +kernel)
set_option maxRecDepth 20000 in
theorem gL_law_X6_weigh : GoodIn wsL_law (wsV RL 51 RX6 yX6_weigh wsX6_weigh) := goodIn_app (goodIn_of _ (by decide +kernel)) ggL_law_X6_weigh
set_option maxRecDepth 20000 in
theorem ggL_law_X5_count : GoodIn wsL_law wsX5_count := goodIn_r _ [189, 16, 190, 191, 126, 28, 192, 193, 194, 195, 196, 27, 197, 58, 64, 198, 199, 200, 201, 202, 203, 204, 205, 206, 207, 61, 62, 63, 208, 209, 210, 211, 59, 60, 212, 213, 214, 15, 215, 39, 216, 2, 217, 218, 219, 220, 221, 40, 34, 222, 223, 224, 225, 226, 227, 228, 229, 230, 231, 232, 233, 234, 235, 236, 237, 238, 239, 35, 36, 240, 241, 242, 243, 244, 245, 246, 247, 248, 249, 37, 250, 251, 252, 253, 254, 255, 256, 257, 258, 259, 260, 261, 262, 263, 264, 265, 266, 267, 268, 269, 270, 271, 272, 273, 274, 275, 492, 493, 494, 495, 512, 513, 514, 515, 516, 517, 518, 519, 520, 523, 524, 525, 526, 527, 528, 529, 530, 531, 532, 533] (by decide +kernel) (by decide +kernel)
set_option maxRecDepth 20000 in
theorem gL_law_X5_count : GoodIn wsL_law (wsV RL 52 RX5 yX5_count wsX5_count) := goodIn_app (goodIn_of _ (by decide +kernel)) ggL_law_X5_count
set_option maxRecDepth 20000 in
theorem ggL_law_X6_count : GoodIn wsL_law wsX6_count := goodIn_r _ [279, 117, 79, 111, 78, 69, 70, 280, 281, 282, 5, 283, 112, 284, 80, 285, 286, 287, 288, 81, 72, 73, 289, 290, 291, 292, 293, 294, 295, 82, 74, 71, 296, 297, 298, 299, 300, 301, 302, 75, 496, 497, 498, 499, 500, 501, 502, 503, 504, 505, 506, 507, 508, 509, 510, 511] (by decide +kernel) (by decide +kernel)
set_option maxRecDepth 20000 in
theorem gL_law_X6_count : GoodIn wsL_law (wsV RL 55 RX6 yX6_count wsX6_count) := goodIn_app (goodIn_of _ (by decide +kernel)) ggL_law_X6_count
set_option maxRecDepth 20000 in
theorem ggL_law_X5_rank : GoodIn wsL_law wsX5_rank := goodIn_r _ [306, 16, 307, 308, 309, 2, 310, 20, 24, 311, 312, 313, 15, 314, 315, 316, 317, 318, 101, 319, 320, 321, 322, 23, 323, 324, 325, 326, 327, 219, 220, 221, 40, 34, 216, 217, 328, 329, 330, 247, 248, 249, 37, 240, 241, 331, 251, 252, 253, 332, 333, 19, 334, 335, 336, 337, 338, 213, 214, 215, 39, 339, 237, 238, 239, 35, 36, 340, 243, 244, 245, 492, 493, 494, 495, 512, 513, 514, 515, 516, 517, 518, 519, 520, 522, 521] (by decide +kernel) (by decide +kernel)
set_option maxRecDepth 20000 in
theorem gL_law_X5_rank : GoodIn wsL_law (wsV RL 56 RX5 yX5_rank wsX5_rank) := goodIn_app (goodIn_of _ (by decide +kernel)) ggL_law_X5_rank
set_option maxRecDepth 20000 in
theorem ggL_law_X6_rank : GoodIn wsL_law wsX6_rank := goodIn_r _ [344, 117, 79, 345, 346, 5, 347, 348, 349, 350, 351, 111, 280, 281, 282, 283, 112, 284, 80, 78, 285, 286, 287, 288, 69, 81, 72, 73, 289, 290, 291, 292, 293, 294, 295, 70, 82, 74, 71, 296, 297, 298, 299, 300, 301, 302, 75, 496, 497, 498, 499, 500, 501, 502, 503, 504, 505, 506, 507, 508, 509, 510, 511] (by decide +kernel) (by decide +kernel)
set_option maxRecDepth 20000 in
theorem gL_law_X6_rank : GoodIn wsL_law (wsV RL 60 RX6 yX6_rank wsX6_rank) := goodIn_app (goodIn_of _ (by decide +kernel)) ggL_law_X6_rank
set_option maxRecDepth 20000 in
theorem ggL_law_X5_free : GoodIn wsL_law wsX5_free := goodIn_r _ [355, 16, 311, 312, 313, 15, 314, 315, 316, 317, 318, 101, 356, 357, 358, 2, 359, 20, 24, 360, 361, 362, 363, 46, 364, 365, 320, 321, 322, 23, 323, 324, 325, 326, 327, 219, 220, 221, 40, 34, 216, 217, 328, 329, 330, 247, 248, 249, 37, 240, 241, 331, 251, 252, 253, 332, 333, 19, 334, 335, 336, 337, 338, 213, 214, 215, 39, 339, 237, 238, 239, 35, 36, 340, 243, 244, 245, 366, 259, 224, 260, 261, 262, 263, 367, 368, 369, 370, 307, 308, 309, 310, 492, 493, 494, 495, 512, 513, 514, 515, 516, 517, 518, 519, 520, 522, 521] (by decide +kernel) (by decide +kernel)
set_option maxRecDepth 20000 in
theorem gL_law_X5_free : GoodIn wsL_law (wsV RL 61 RX5 yX5_free wsX5_free) := goodIn_app (goodIn_of _ (by decide +kernel)) ggL_law_X5_free
set_option maxRecDepth 20000 in
theorem ggL_law_X6_free : GoodIn wsL_law wsX6_free := goodIn_r _ [374, 117, 78, 345, 346, 5, 347, 348, 349, 350, 351, 111, 280, 281, 282, 283, 112, 284, 80, 79, 285, 286, 287, 288, 69, 81, 72, 73, 289, 290, 291, 292, 293, 294, 295, 70, 82, 74, 71, 296, 297, 298, 299, 300, 301, 302, 75, 496, 497, 498, 499, 500, 501, 502, 503, 504, 505, 506, 507, 508, 509, 510, 511] (by decide +kernel) (by decide +kernel)
set_option maxRecDepth 20000 in
theorem gL_law_X6_free : GoodIn wsL_law (wsV RL 64 RX6 yX6_free wsX6_free) := goodIn_app (goodIn_of _ (by decide +kernel)) ggL_law_X6_free
set_option maxRecDepth 20000 in
theorem ggL_law_X5_circuit : GoodIn wsL_law wsX5_circuit := goodIn_r _ [378, 16, 307, 308, 309, 2, 310, 20, 24, 174, 175, 176, 15, 177, 101, 95, 96, 311, 312, 313, 314, 315, 316, 317, 318, 360, 361, 362, 363, 46, 364, 365, 320, 321, 322, 23, 323, 324, 325, 326, 327, 219, 220, 221, 40, 34, 216, 217, 328, 329, 330, 247, 248, 249, 37, 240, 241, 331, 251, 252, 253, 332, 333, 19, 334, 335, 336, 337, 338, 213, 214, 215, 39, 339, 237, 238, 239, 35, 36, 340, 243, 244, 245, 366, 259, 224, 260, 261, 262, 263, 367, 379, 380, 381, 382, 383, 384, 49, 385, 386, 492, 493, 494, 495, 512, 513, 514, 515, 516, 517, 518, 519, 520, 522, 521] (by decide +kernel) (by decide +kernel)
set_option maxRecDepth 20000 in
theorem gL_law_X5_circuit : GoodIn wsL_law (wsV RL 65 RX5 yX5_circuit wsX5_circuit) := goodIn_app (goodIn_of _ (by decide +kernel)) ggL_law_X5_circuit
set_option maxRecDepth 20000 in
theorem ggL_law_X6_circuit : GoodIn wsL_law wsX6_circuit := goodIn_r _ [390, 117, 111, 78, 345, 346, 5, 347, 348, 349, 350, 351, 280, 281, 282, 283, 112, 284, 80, 79, 285, 286, 287, 288, 69, 81, 72, 73, 289, 290, 291, 292, 293, 294, 295, 70, 82, 74, 71, 296, 297, 298, 299, 300, 301, 302, 75, 496, 497, 498, 499, 500, 501, 502, 503, 504, 505, 506, 507, 508, 509, 510, 511] (by decide +kernel) (by decide +kernel)
set_option maxRecDepth 20000 in
theorem gL_law_X6_circuit : GoodIn wsL_law (wsV RL 69 RX6 yX6_circuit wsX6_circuit) := goodIn_app (goodIn_of _ (by decide +kernel)) ggL_law_X6_circuit
set_option maxRecDepth 20000 in
theorem ggL_law_X5_closure : GoodIn wsL_law wsX5_closure := goodIn_r _ [394, 16, 307, 308, 309, 2, 310, 20, 24, 311, 312, 313, 15, 314, 315, 316, 317, 318, 101, 395, 396, 397, 398, 46, 399, 49, 385, 365, 320, 321, 322, 23, 323, 324, 325, 326, 327, 219, 220, 221, 40, 34, 216, 217, 328, 329, 330, 247, 248, 249, 37, 240, 241, 331, 251, 252, 253, 332, 333, 19, 334, 335, 336, 337, 338, 213, 214, 215, 39, 339, 237, 238, 239, 35, 36, 340, 243, 244, 245, 400, 492, 493, 494, 495, 512, 513, 514, 515, 516, 517, 518, 519, 520, 522, 521] (by decide +kernel) (by decide +kernel)
set_option maxRecDepth 20000 in
theorem gL_law_X5_closure : GoodIn wsL_law (wsV RL 70 RX5 yX5_closure wsX5_closure) := goodIn_app (goodIn_of _ (by decide +kernel)) ggL_law_X5_closure
set_option maxRecDepth 20000 in
theorem ggL_law_X6_closure : GoodIn wsL_law wsX6_closure := goodIn_r _ [404, 117, 111, 79, 345, 346, 5, 347, 348, 349, 350, 351, 280, 281, 282, 283, 112, 284, 80, 78, 285, 286, 287, 288, 69, 81, 72, 73, 289, 290, 291, 292, 293, 294, 295, 70, 82, 74, 71, 296, 297, 298, 299, 300, 301, 302, 75, 496, 497, 498, 499, 500, 501, 502, 503, 504, 505, 506, 507, 508, 509, 510, 511] (by decide +kernel) (by decide +kernel)
set_option maxRecDepth 20000 in
theorem gL_law_X6_closure : GoodIn wsL_law (wsV RL 73 RX6 yX6_closure wsX6_closure) := goodIn_app (goodIn_of _ (by decide +kernel)) ggL_law_X6_closure
set_option maxRecDepth 20000 in
theorem ggL_law_X5_most : GoodIn wsL_law wsX5_most := goodIn_r _ [408, 28, 409, 194, 195, 196, 27, 197, 58, 64, 198, 199, 200, 201, 202, 203, 204, 205, 206, 207, 61, 62, 63, 208, 209, 210, 211, 59, 60, 212, 213, 214, 15, 215, 39, 216, 2, 217, 218, 219, 220, 221, 40, 34, 222, 223, 224, 225, 226, 227, 228, 229, 230, 231, 232, 233, 234, 235, 236, 237, 238, 239, 35, 36, 240, 241, 242, 243, 244, 245, 246, 247, 248, 249, 37, 250, 251, 252, 253, 254, 255, 256, 257, 258, 259, 260, 261, 262, 263, 264, 265, 266, 267, 268, 269, 270, 271, 272, 273, 274, 275, 492, 493, 494, 495, 523, 524, 525, 526, 527, 528, 529, 530, 531, 532, 533, 512, 513, 514, 515, 516, 517, 518, 519, 520] (by decide +kernel) (by decide +kernel)
set_option maxRecDepth 20000 in
theorem gL_law_X5_most : GoodIn wsL_law (wsV RL 74 RX5 yX5_most wsX5_most) := goodIn_app (goodIn_of _ (by decide +kernel)) ggL_law_X5_most
set_option maxRecDepth 20000 in
theorem ggL_law_X6_most : GoodIn wsL_law wsX6_most := goodIn_r _ [413, 117, 284, 280, 281, 282, 5, 283, 112, 80, 111, 78, 79, 285, 286, 287, 288, 69, 81, 72, 73, 289, 290, 291, 292, 293, 294, 295, 70, 82, 74, 71, 296, 297, 298, 299, 300, 301, 302, 75, 496, 497, 498, 499, 500, 501, 502, 503, 504, 505, 506, 507, 508, 509, 510, 511] (by decide +kernel) (by decide +kernel)
set_option maxRecDepth 20000 in
theorem gL_law_X6_most : GoodIn wsL_law (wsV RL 77 RX6 yX6_most wsX6_most) := goodIn_app (goodIn_of _ (by decide +kernel)) ggL_law_X6_most
set_option maxRecDepth 20000 in
theorem ggL_law_X5_dearest : GoodIn wsL_law wsX5_dearest := goodIn_r _ [417, 28, 418, 194, 195, 196, 27, 197, 58, 64, 198, 199, 200, 201, 202, 203, 204, 205, 206, 207, 61, 62, 63, 208, 209, 210, 211, 59, 60, 212, 213, 214, 15, 215, 39, 216, 2, 217, 218, 219, 220, 221, 40, 34, 222, 223, 224, 225, 226, 227, 228, 229, 230, 231, 232, 233, 234, 235, 236, 237, 238, 239, 35, 36, 240, 241, 242, 243, 244, 245, 246, 247, 248, 249, 37, 250, 251, 252, 253, 254, 255, 256, 257, 258, 259, 260, 261, 262, 263, 264, 265, 266, 267, 268, 269, 270, 271, 272, 273, 274, 275, 419, 420, 421, 422, 95, 96, 492, 493, 494, 495, 523, 524, 525, 526, 527, 528, 529, 530, 531, 532, 533, 512, 513, 514, 515, 516, 517, 518, 519, 520] (by decide +kernel) (by decide +kernel)
set_option maxRecDepth 20000 in
theorem gL_law_X5_dearest : GoodIn wsL_law (wsV RL 78 RX5 yX5_dearest wsX5_dearest) := goodIn_app (goodIn_of _ (by decide +kernel)) ggL_law_X5_dearest
set_option maxRecDepth 20000 in
theorem ggL_law_X6_dearest : GoodIn wsL_law wsX6_dearest := goodIn_r _ [426, 117, 284, 80, 280, 281, 282, 5, 283, 112, 111, 78, 79, 285, 286, 287, 288, 69, 81, 72, 73, 289, 290, 291, 292, 293, 294, 295, 70, 82, 74, 71, 296, 297, 298, 299, 300, 301, 302, 75, 496, 497, 498, 499, 500, 501, 502, 503, 504, 505, 506, 507, 508, 509, 510, 511] (by decide +kernel) (by decide +kernel)
set_option maxRecDepth 20000 in
theorem gL_law_X6_dearest : GoodIn wsL_law (wsV RL 81 RX6 yX6_dearest wsX6_dearest) := goodIn_app (goodIn_of _ (by decide +kernel)) ggL_law_X6_dearest
set_option maxRecDepth 20000 in
theorem ggL_law_L_weight : GoodIn wsL_law wsL_weight := goodIn_ca (goodIn_r _ [429, 87, 430, 431, 432, 2, 433, 92, 93, 28, 434, 194, 195, 196, 27, 197, 58, 64, 198, 199, 200, 201, 202, 203, 204, 205, 206, 207, 61, 62, 63, 208, 209, 210, 211, 59, 60, 212, 213, 214, 15, 215, 39, 216, 217, 218, 219, 220, 221, 40, 34, 222, 223, 224, 225, 226, 227, 228, 229, 230, 231, 232, 233, 234, 235, 236, 237, 238, 239, 35, 36, 240, 241, 242, 243, 244, 245, 246, 247, 248, 249, 37, 250, 251, 252, 253, 254, 255, 256, 257, 258, 259, 260, 261, 262, 263, 264, 265, 266, 267, 268, 269, 270, 271, 272, 273, 274, 275, 419, 420, 421, 422, 95, 96, 492, 493, 494, 495, 523, 524, 525, 526, 527, 528, 529, 530, 531, 532, 533, 512, 513, 514, 515, 516, 517, 518, 519, 520] (by decide +kernel) (by decide +kernel)) (goodIn_sub (fun _ h => List.mem_append_left _ (List.mem_append_right _ h)) (by decide +kernel))
set_option maxRecDepth 20000 in
theorem gL_law_L_weight : GoodIn wsL_law (va_wsS RL 82 yL_weight wsL_weight) := goodIn_app (goodIn_of _ (by decide +kernel)) ggL_law_L_weight
set_option maxRecDepth 20000 in
theorem ggL_law_X6_weight : GoodIn wsL_law wsX6_weight := goodIn_r _ [438, 284, 80, 280, 281, 282, 5, 283, 112, 111, 78, 79, 285, 286, 287, 288, 69, 81, 72, 73, 289, 290, 291, 292, 293, 294, 295, 70, 82, 74, 71, 296, 297, 298, 299, 300, 301, 302, 75, 113, 114, 115, 116, 117, 496, 497, 498, 499, 500, 501, 502, 503, 504, 505, 506, 507, 508, 509, 510, 511] (by decide +kernel) (by decide +kernel)
set_option maxRecDepth 20000 in
theorem gL_law_X6_weight : GoodIn wsL_law (wsV RL 85 RX6 yX6_weight wsX6_weight) := goodIn_app (goodIn_of _ (by decide +kernel)) ggL_law_X6_weight
set_option maxRecDepth 20000 in
theorem ggL_law_X5_heaviest : GoodIn wsL_law wsX5_heaviest := goodIn_r _ [442, 28, 409, 434, 194, 195, 196, 27, 197, 58, 64, 198, 199, 200, 201, 202, 203, 204, 205, 206, 207, 61, 62, 63, 208, 209, 210, 211, 59, 60, 212, 213, 214, 15, 215, 39, 216, 2, 217, 218, 219, 220, 221, 40, 34, 222, 223, 224, 225, 226, 227, 228, 229, 230, 231, 232, 233, 234, 235, 236, 237, 238, 239, 35, 36, 240, 241, 242, 243, 244, 245, 246, 247, 248, 249, 37, 250, 251, 252, 253, 254, 255, 256, 257, 258, 259, 260, 261, 262, 263, 264, 265, 266, 267, 268, 269, 270, 271, 272, 273, 274, 275, 492, 493, 494, 495, 523, 524, 525, 526, 527, 528, 529, 530, 531, 532, 533, 512, 513, 514, 515, 516, 517, 518, 519, 520] (by decide +kernel) (by decide +kernel)
set_option maxRecDepth 20000 in
theorem gL_law_X5_heaviest : GoodIn wsL_law (wsV RL 86 RX5 yX5_heaviest wsX5_heaviest) := goodIn_app (goodIn_of _ (by decide +kernel)) ggL_law_X5_heaviest
set_option maxRecDepth 20000 in
theorem ggL_law_X6_heaviest : GoodIn wsL_law wsX6_heaviest := goodIn_r _ [446, 117, 284, 80, 280, 281, 282, 5, 283, 112, 111, 78, 79, 285, 286, 287, 288, 69, 81, 72, 73, 289, 290, 291, 292, 293, 294, 295, 70, 82, 74, 71, 296, 297, 298, 299, 300, 301, 302, 75, 496, 497, 498, 499, 500, 501, 502, 503, 504, 505, 506, 507, 508, 509, 510, 511] (by decide +kernel) (by decide +kernel)
set_option maxRecDepth 20000 in
theorem gL_law_X6_heaviest : GoodIn wsL_law (wsV RL 89 RX6 yX6_heaviest wsX6_heaviest) := goodIn_app (goodIn_of _ (by decide +kernel)) ggL_law_X6_heaviest
set_option maxRecDepth 20000 in
theorem ggL_law_X5_witness : GoodIn wsL_law wsX5_witness := goodIn_r _ [450, 28, 194, 195, 196, 27, 197, 58, 64, 198, 199, 200, 201, 202, 203, 204, 205, 206, 207, 61, 62, 63, 208, 209, 210, 211, 59, 60, 212, 213, 214, 15, 215, 39, 216, 2, 217, 218, 219, 220, 221, 40, 34, 222, 223, 224, 225, 226, 227, 228, 229, 230, 231, 232, 233, 234, 235, 236, 237, 238, 239, 35, 36, 240, 241, 242, 243, 244, 245, 246, 247, 248, 249, 37, 250, 251, 252, 253, 254, 255, 256, 257, 258, 259, 260, 261, 262, 263, 264, 265, 266, 267, 268, 269, 270, 271, 272, 273, 274, 275, 451, 452, 453, 454, 20, 24, 455, 456, 457, 458, 418, 409, 16, 126, 459, 316, 317, 318, 101, 395, 396, 397, 398, 46, 399, 49, 385, 365, 320, 321, 322, 23, 323, 324, 325, 326, 327, 328, 329, 330, 331, 332, 333, 19, 334, 335, 336, 337, 338, 339, 340, 400, 460, 461, 462, 380, 381, 382, 383, 384, 386, 463, 464, 465, 466, 492, 493, 494, 495, 523, 524, 525, 526, 527, 528, 529, 530, 531, 532, 533, 512, 513, 514, 515, 516, 517, 518, 519, 520, 522, 521] (by decide +kernel) (by decide +kernel)
set_option maxRecDepth 20000 in
theorem gL_law_X5_witness : GoodIn wsL_law (wsV RL 90 RX5 yX5_witness wsX5_witness) := goodIn_app (goodIn_of _ (by decide +kernel)) ggL_law_X5_witness
set_option maxRecDepth 20000 in
theorem ggL_law_X6_witness : GoodIn wsL_law wsX6_witness := goodIn_r _ [470, 117, 111, 79, 284, 280, 281, 282, 5, 283, 112, 80, 78, 285, 286, 287, 288, 69, 81, 72, 73, 289, 290, 291, 292, 293, 294, 295, 70, 82, 74, 71, 296, 297, 298, 299, 300, 301, 302, 75, 496, 497, 498, 499, 500, 501, 502, 503, 504, 505, 506, 507, 508, 509, 510, 511] (by decide +kernel) (by decide +kernel)
set_option maxRecDepth 20000 in
theorem gL_law_X6_witness : GoodIn wsL_law (wsV RL 93 RX6 yX6_witness wsX6_witness) := goodIn_app (goodIn_of _ (by decide +kernel)) ggL_law_X6_witness
set_option maxRecDepth 20000 in
theorem ggL_law_X5_check : GoodIn wsL_law wsX5_check := goodIn_r _ [474, 28, 194, 195, 196, 27, 197, 58, 64, 198, 199, 200, 201, 202, 203, 204, 205, 206, 207, 61, 62, 63, 208, 209, 210, 211, 59, 60, 212, 213, 214, 15, 215, 39, 216, 2, 217, 218, 219, 220, 221, 40, 34, 222, 223, 224, 225, 226, 227, 228, 229, 230, 231, 232, 233, 234, 235, 236, 237, 238, 239, 35, 36, 240, 241, 242, 243, 244, 245, 246, 247, 248, 249, 37, 250, 251, 252, 253, 254, 255, 256, 257, 258, 259, 260, 261, 262, 263, 264, 265, 266, 267, 268, 269, 270, 271, 272, 273, 274, 275, 475, 476, 477, 478, 409, 418, 356, 357, 358, 359, 20, 24, 360, 361, 362, 363, 46, 364, 365, 320, 321, 322, 23, 323, 324, 325, 326, 327, 328, 329, 330, 331, 332, 333, 19, 334, 335, 336, 337, 338, 339, 340, 366, 367, 479, 480, 481, 482, 483, 434, 451, 452, 453, 454, 455, 456, 457, 458, 16, 126, 459, 316, 317, 318, 101, 395, 396, 397, 398, 399, 49, 385, 400, 460, 461, 462, 380, 381, 382, 383, 384, 386, 484, 485, 486, 487, 319, 463, 464, 465, 466, 368, 369, 370, 492, 493, 494, 495, 523, 524, 525, 526, 527, 528, 529, 530, 531, 532, 533, 512, 513, 514, 515, 516, 517, 518, 519, 520, 522, 521] (by decide +kernel) (by decide +kernel)
set_option maxRecDepth 20000 in
theorem gL_law_X5_check : GoodIn wsL_law (wsV RL 94 RX5 yX5_check wsX5_check) := goodIn_app (goodIn_of _ (by decide +kernel)) ggL_law_X5_check
set_option maxRecDepth 20000 in
theorem ggL_law_X6_check : GoodIn wsL_law wsX6_check := goodIn_r _ [491, 117, 496, 497, 498, 499, 500, 501, 502, 503, 504, 505, 506, 507, 508, 509, 510, 511] (by decide +kernel) (by decide +kernel)
set_option maxRecDepth 20000 in
theorem gL_law_X6_check : GoodIn wsL_law (wsV RL 97 RX6 yX6_check wsX6_check) := goodIn_app (goodIn_of _ (by decide +kernel)) ggL_law_X6_check
theorem dL_law_0 : decode cL_law 0 = .ok (.new 8, 3) := by decide +kernel
theorem dL_law_3 : decode cL_law 3 = .ok (.dup, 1) := by decide +kernel
theorem dL_law_4 : decode cL_law 4 = .ok (.invokespecial 27, 3) := by decide +kernel
theorem dL_law_7 : decode cL_law 7 = .ok (.astore_n 1, 1) := by decide +kernel
theorem dL_law_8 : decode cL_law 8 = .ok (.new 28, 3) := by decide +kernel
theorem dL_law_11 : decode cL_law 11 = .ok (.dup, 1) := by decide +kernel
theorem dL_law_12 : decode cL_law 12 = .ok (.invokespecial 30, 3) := by decide +kernel
theorem dL_law_15 : decode cL_law 15 = .ok (.astore_n 2, 1) := by decide +kernel
theorem dL_law_16 : decode cL_law 16 = .ok (.iconst 1, 1) := by decide +kernel
theorem dL_law_17 : decode cL_law 17 = .ok (.newarray .long, 2) := by decide +kernel
theorem dL_law_19 : decode cL_law 19 = .ok (.astore_n 3, 1) := by decide +kernel
theorem dL_law_20 : decode cL_law 20 = .ok (.iconst 0, 1) := by decide +kernel
theorem dL_law_21 : decode cL_law 21 = .ok (.istore 4, 2) := by decide +kernel
theorem dL_law_23 : decode cL_law 23 = .ok (.iload 4, 2) := by decide +kernel
theorem dL_law_25 : decode cL_law 25 = .ok (.aload_n 0, 1) := by decide +kernel
theorem dL_law_26 : decode cL_law 26 = .ok (.arraylength, 1) := by decide +kernel
theorem dL_law_27 : decode cL_law 27 = .ok (.iconst 5, 1) := by decide +kernel
theorem dL_law_28 : decode cL_law 28 = .ok (.isub, 1) := by decide +kernel
theorem dL_law_29 : decode cL_law 29 = .ok (.if_icmp .gt 624, 3) := by decide +kernel
theorem dL_law_32 : decode cL_law 32 = .ok (.aload_n 0, 1) := by decide +kernel
theorem dL_law_33 : decode cL_law 33 = .ok (.iload 4, 2) := by decide +kernel
theorem dL_law_35 : decode cL_law 35 = .ok (.iaload, 1) := by decide +kernel
theorem dL_law_36 : decode cL_law 36 = .ok (.bipush 15, 2) := by decide +kernel
theorem dL_law_38 : decode cL_law 38 = .ok (.iand, 1) := by decide +kernel
theorem dL_law_39 : decode cL_law 39 = .ok (.tableswitch 608 0 14 #[73, 121, 182, 230, 278, 303, 340, 377, 426, 463, 476, 501, 557, 570, 595], 73) := by decide +kernel
theorem dL_law_112 : decode cL_law 112 = .ok (.aload_n 1, 1) := by decide +kernel
theorem dL_law_113 : decode cL_law 113 = .ok (.aload_n 0, 1) := by decide +kernel
theorem dL_law_114 : decode cL_law 114 = .ok (.iload 4, 2) := by decide +kernel
theorem dL_law_116 : decode cL_law 116 = .ok (.iconst 1, 1) := by decide +kernel
theorem dL_law_117 : decode cL_law 117 = .ok (.iadd, 1) := by decide +kernel
theorem dL_law_118 : decode cL_law 118 = .ok (.iaload, 1) := by decide +kernel
theorem dL_law_119 : decode cL_law 119 = .ok (.aload_n 0, 1) := by decide +kernel
theorem dL_law_120 : decode cL_law 120 = .ok (.iload 4, 2) := by decide +kernel
theorem dL_law_122 : decode cL_law 122 = .ok (.iconst 2, 1) := by decide +kernel
theorem dL_law_123 : decode cL_law 123 = .ok (.iadd, 1) := by decide +kernel
theorem dL_law_124 : decode cL_law 124 = .ok (.iaload, 1) := by decide +kernel
theorem dL_law_125 : decode cL_law 125 = .ok (.invokestatic 31, 3) := by decide +kernel
theorem dL_law_128 : decode cL_law 128 = .ok (.istore 5, 2) := by decide +kernel
theorem dL_law_130 : decode cL_law 130 = .ok (.aload_n 2, 1) := by decide +kernel
theorem dL_law_131 : decode cL_law 131 = .ok (.aload_n 0, 1) := by decide +kernel
theorem dL_law_132 : decode cL_law 132 = .ok (.iload 4, 2) := by decide +kernel
theorem dL_law_134 : decode cL_law 134 = .ok (.iconst 1, 1) := by decide +kernel
theorem dL_law_135 : decode cL_law 135 = .ok (.iadd, 1) := by decide +kernel
theorem dL_law_136 : decode cL_law 136 = .ok (.iaload, 1) := by decide +kernel
theorem dL_law_137 : decode cL_law 137 = .ok (.aload_n 0, 1) := by decide +kernel
theorem dL_law_138 : decode cL_law 138 = .ok (.iload 4, 2) := by decide +kernel
theorem dL_law_140 : decode cL_law 140 = .ok (.iconst 2, 1) := by decide +kernel
theorem dL_law_141 : decode cL_law 141 = .ok (.iadd, 1) := by decide +kernel
theorem dL_law_142 : decode cL_law 142 = .ok (.iaload, 1) := by decide +kernel
theorem dL_law_143 : decode cL_law 143 = .ok (.invokevirtual 36, 3) := by decide +kernel
theorem dL_law_146 : decode cL_law 146 = .ok (.aload_n 2, 1) := by decide +kernel
theorem dL_law_147 : decode cL_law 147 = .ok (.invokevirtual 37, 3) := by decide +kernel
theorem dL_law_150 : decode cL_law 150 = .ok (.iload 5, 2) := by decide +kernel
theorem dL_law_152 : decode cL_law 152 = .ok (.if_icmp .eq 5, 3) := by decide +kernel
theorem dL_law_155 : decode cL_law 155 = .ok (.iconst 0, 1) := by decide +kernel
theorem dL_law_156 : decode cL_law 156 = .ok (.ireturn, 1) := by decide +kernel
theorem dL_law_157 : decode cL_law 157 = .ok (.goto 490, 3) := by decide +kernel
theorem dL_law_160 : decode cL_law 160 = .ok (.aload_n 1, 1) := by decide +kernel
theorem dL_law_161 : decode cL_law 161 = .ok (.aload_n 0, 1) := by decide +kernel
theorem dL_law_162 : decode cL_law 162 = .ok (.iload 4, 2) := by decide +kernel
theorem dL_law_164 : decode cL_law 164 = .ok (.iconst 1, 1) := by decide +kernel
theorem dL_law_165 : decode cL_law 165 = .ok (.iadd, 1) := by decide +kernel
theorem dL_law_166 : decode cL_law 166 = .ok (.iaload, 1) := by decide +kernel
theorem dL_law_167 : decode cL_law 167 = .ok (.aload_n 0, 1) := by decide +kernel
theorem dL_law_168 : decode cL_law 168 = .ok (.iload 4, 2) := by decide +kernel
theorem dL_law_170 : decode cL_law 170 = .ok (.iconst 2, 1) := by decide +kernel
theorem dL_law_171 : decode cL_law 171 = .ok (.iadd, 1) := by decide +kernel
theorem dL_law_172 : decode cL_law 172 = .ok (.iaload, 1) := by decide +kernel
theorem dL_law_173 : decode cL_law 173 = .ok (.aload_n 0, 1) := by decide +kernel
theorem dL_law_174 : decode cL_law 174 = .ok (.iload 4, 2) := by decide +kernel
theorem dL_law_176 : decode cL_law 176 = .ok (.iconst 3, 1) := by decide +kernel
theorem dL_law_177 : decode cL_law 177 = .ok (.iadd, 1) := by decide +kernel
theorem dL_law_178 : decode cL_law 178 = .ok (.iaload, 1) := by decide +kernel
theorem dL_law_179 : decode cL_law 179 = .ok (.aload_n 0, 1) := by decide +kernel
theorem dL_law_180 : decode cL_law 180 = .ok (.iload 4, 2) := by decide +kernel
theorem dL_law_182 : decode cL_law 182 = .ok (.iconst 4, 1) := by decide +kernel
theorem dL_law_183 : decode cL_law 183 = .ok (.iadd, 1) := by decide +kernel
theorem dL_law_184 : decode cL_law 184 = .ok (.iaload, 1) := by decide +kernel
theorem dL_law_185 : decode cL_law 185 = .ok (.invokevirtual 41, 3) := by decide +kernel
theorem dL_law_188 : decode cL_law 188 = .ok (.aload_n 2, 1) := by decide +kernel
theorem dL_law_189 : decode cL_law 189 = .ok (.aload_n 0, 1) := by decide +kernel
theorem dL_law_190 : decode cL_law 190 = .ok (.iload 4, 2) := by decide +kernel
theorem dL_law_192 : decode cL_law 192 = .ok (.iconst 1, 1) := by decide +kernel
theorem dL_law_193 : decode cL_law 193 = .ok (.iadd, 1) := by decide +kernel
theorem dL_law_194 : decode cL_law 194 = .ok (.iaload, 1) := by decide +kernel
theorem dL_law_195 : decode cL_law 195 = .ok (.aload_n 0, 1) := by decide +kernel
theorem dL_law_196 : decode cL_law 196 = .ok (.iload 4, 2) := by decide +kernel
theorem dL_law_198 : decode cL_law 198 = .ok (.iconst 2, 1) := by decide +kernel
theorem dL_law_199 : decode cL_law 199 = .ok (.iadd, 1) := by decide +kernel
theorem dL_law_200 : decode cL_law 200 = .ok (.iaload, 1) := by decide +kernel
theorem dL_law_201 : decode cL_law 201 = .ok (.aload_n 0, 1) := by decide +kernel
theorem dL_law_202 : decode cL_law 202 = .ok (.iload 4, 2) := by decide +kernel
theorem dL_law_204 : decode cL_law 204 = .ok (.iconst 3, 1) := by decide +kernel
theorem dL_law_205 : decode cL_law 205 = .ok (.iadd, 1) := by decide +kernel
theorem dL_law_206 : decode cL_law 206 = .ok (.iaload, 1) := by decide +kernel
theorem dL_law_207 : decode cL_law 207 = .ok (.aload_n 0, 1) := by decide +kernel
theorem dL_law_208 : decode cL_law 208 = .ok (.iload 4, 2) := by decide +kernel
theorem dL_law_210 : decode cL_law 210 = .ok (.iconst 4, 1) := by decide +kernel
theorem dL_law_211 : decode cL_law 211 = .ok (.iadd, 1) := by decide +kernel
theorem dL_law_212 : decode cL_law 212 = .ok (.iaload, 1) := by decide +kernel
theorem dL_law_213 : decode cL_law 213 = .ok (.invokevirtual 45, 3) := by decide +kernel
theorem dL_law_216 : decode cL_law 216 = .ok (.if_icmp .eq 431, 3) := by decide +kernel
theorem dL_law_219 : decode cL_law 219 = .ok (.iconst 0, 1) := by decide +kernel
theorem dL_law_220 : decode cL_law 220 = .ok (.ireturn, 1) := by decide +kernel
theorem dL_law_221 : decode cL_law 221 = .ok (.aload_n 1, 1) := by decide +kernel
theorem dL_law_222 : decode cL_law 222 = .ok (.aload_n 0, 1) := by decide +kernel
theorem dL_law_223 : decode cL_law 223 = .ok (.iload 4, 2) := by decide +kernel
theorem dL_law_225 : decode cL_law 225 = .ok (.iconst 1, 1) := by decide +kernel
theorem dL_law_226 : decode cL_law 226 = .ok (.iadd, 1) := by decide +kernel
theorem dL_law_227 : decode cL_law 227 = .ok (.iaload, 1) := by decide +kernel
theorem dL_law_228 : decode cL_law 228 = .ok (.aload_n 0, 1) := by decide +kernel
theorem dL_law_229 : decode cL_law 229 = .ok (.iload 4, 2) := by decide +kernel
theorem dL_law_231 : decode cL_law 231 = .ok (.iconst 2, 1) := by decide +kernel
theorem dL_law_232 : decode cL_law 232 = .ok (.iadd, 1) := by decide +kernel
theorem dL_law_233 : decode cL_law 233 = .ok (.iaload, 1) := by decide +kernel
theorem dL_law_234 : decode cL_law 234 = .ok (.invokestatic 46, 3) := by decide +kernel
theorem dL_law_237 : decode cL_law 237 = .ok (.istore 5, 2) := by decide +kernel
theorem dL_law_239 : decode cL_law 239 = .ok (.aload_n 2, 1) := by decide +kernel
theorem dL_law_240 : decode cL_law 240 = .ok (.aload_n 0, 1) := by decide +kernel
theorem dL_law_241 : decode cL_law 241 = .ok (.iload 4, 2) := by decide +kernel
theorem dL_law_243 : decode cL_law 243 = .ok (.iconst 1, 1) := by decide +kernel
theorem dL_law_244 : decode cL_law 244 = .ok (.iadd, 1) := by decide +kernel
theorem dL_law_245 : decode cL_law 245 = .ok (.iaload, 1) := by decide +kernel
theorem dL_law_246 : decode cL_law 246 = .ok (.aload_n 0, 1) := by decide +kernel
theorem dL_law_247 : decode cL_law 247 = .ok (.iload 4, 2) := by decide +kernel
theorem dL_law_249 : decode cL_law 249 = .ok (.iconst 2, 1) := by decide +kernel
theorem dL_law_250 : decode cL_law 250 = .ok (.iadd, 1) := by decide +kernel
theorem dL_law_251 : decode cL_law 251 = .ok (.iaload, 1) := by decide +kernel
theorem dL_law_252 : decode cL_law 252 = .ok (.invokevirtual 48, 3) := by decide +kernel
theorem dL_law_255 : decode cL_law 255 = .ok (.aload_n 2, 1) := by decide +kernel
theorem dL_law_256 : decode cL_law 256 = .ok (.invokevirtual 37, 3) := by decide +kernel
theorem dL_law_259 : decode cL_law 259 = .ok (.iload 5, 2) := by decide +kernel
theorem dL_law_261 : decode cL_law 261 = .ok (.if_icmp .eq 5, 3) := by decide +kernel
theorem dL_law_264 : decode cL_law 264 = .ok (.iconst 0, 1) := by decide +kernel
theorem dL_law_265 : decode cL_law 265 = .ok (.ireturn, 1) := by decide +kernel
theorem dL_law_266 : decode cL_law 266 = .ok (.goto 381, 3) := by decide +kernel
theorem dL_law_269 : decode cL_law 269 = .ok (.aload_n 1, 1) := by decide +kernel
theorem dL_law_270 : decode cL_law 270 = .ok (.aload_n 0, 1) := by decide +kernel
theorem dL_law_271 : decode cL_law 271 = .ok (.iload 4, 2) := by decide +kernel
theorem dL_law_273 : decode cL_law 273 = .ok (.iconst 1, 1) := by decide +kernel
theorem dL_law_274 : decode cL_law 274 = .ok (.iadd, 1) := by decide +kernel
theorem dL_law_275 : decode cL_law 275 = .ok (.iaload, 1) := by decide +kernel
theorem dL_law_276 : decode cL_law 276 = .ok (.aload_n 0, 1) := by decide +kernel
theorem dL_law_277 : decode cL_law 277 = .ok (.iload 4, 2) := by decide +kernel
theorem dL_law_279 : decode cL_law 279 = .ok (.iconst 2, 1) := by decide +kernel
theorem dL_law_280 : decode cL_law 280 = .ok (.iadd, 1) := by decide +kernel
theorem dL_law_281 : decode cL_law 281 = .ok (.iaload, 1) := by decide +kernel
theorem dL_law_282 : decode cL_law 282 = .ok (.invokestatic 49, 3) := by decide +kernel
theorem dL_law_285 : decode cL_law 285 = .ok (.istore 5, 2) := by decide +kernel
theorem dL_law_287 : decode cL_law 287 = .ok (.aload_n 2, 1) := by decide +kernel
theorem dL_law_288 : decode cL_law 288 = .ok (.aload_n 0, 1) := by decide +kernel
theorem dL_law_289 : decode cL_law 289 = .ok (.iload 4, 2) := by decide +kernel
theorem dL_law_291 : decode cL_law 291 = .ok (.iconst 1, 1) := by decide +kernel
theorem dL_law_292 : decode cL_law 292 = .ok (.iadd, 1) := by decide +kernel
theorem dL_law_293 : decode cL_law 293 = .ok (.iaload, 1) := by decide +kernel
theorem dL_law_294 : decode cL_law 294 = .ok (.aload_n 0, 1) := by decide +kernel
theorem dL_law_295 : decode cL_law 295 = .ok (.iload 4, 2) := by decide +kernel
theorem dL_law_297 : decode cL_law 297 = .ok (.iconst 2, 1) := by decide +kernel
theorem dL_law_298 : decode cL_law 298 = .ok (.iadd, 1) := by decide +kernel
theorem dL_law_299 : decode cL_law 299 = .ok (.iaload, 1) := by decide +kernel
theorem dL_law_300 : decode cL_law 300 = .ok (.invokevirtual 51, 3) := by decide +kernel
theorem dL_law_303 : decode cL_law 303 = .ok (.aload_n 2, 1) := by decide +kernel
theorem dL_law_304 : decode cL_law 304 = .ok (.invokevirtual 37, 3) := by decide +kernel
theorem dL_law_307 : decode cL_law 307 = .ok (.iload 5, 2) := by decide +kernel
theorem dL_law_309 : decode cL_law 309 = .ok (.if_icmp .eq 5, 3) := by decide +kernel
theorem dL_law_312 : decode cL_law 312 = .ok (.iconst 0, 1) := by decide +kernel
theorem dL_law_313 : decode cL_law 313 = .ok (.ireturn, 1) := by decide +kernel
theorem dL_law_314 : decode cL_law 314 = .ok (.goto 333, 3) := by decide +kernel
theorem dL_law_317 : decode cL_law 317 = .ok (.aload_n 1, 1) := by decide +kernel
theorem dL_law_318 : decode cL_law 318 = .ok (.aload_n 0, 1) := by decide +kernel
theorem dL_law_319 : decode cL_law 319 = .ok (.iload 4, 2) := by decide +kernel
theorem dL_law_321 : decode cL_law 321 = .ok (.iconst 1, 1) := by decide +kernel
theorem dL_law_322 : decode cL_law 322 = .ok (.iadd, 1) := by decide +kernel
theorem dL_law_323 : decode cL_law 323 = .ok (.iaload, 1) := by decide +kernel
theorem dL_law_324 : decode cL_law 324 = .ok (.invokevirtual 52, 3) := by decide +kernel
theorem dL_law_327 : decode cL_law 327 = .ok (.aload_n 2, 1) := by decide +kernel
theorem dL_law_328 : decode cL_law 328 = .ok (.aload_n 0, 1) := by decide +kernel
theorem dL_law_329 : decode cL_law 329 = .ok (.iload 4, 2) := by decide +kernel
theorem dL_law_331 : decode cL_law 331 = .ok (.iconst 1, 1) := by decide +kernel
theorem dL_law_332 : decode cL_law 332 = .ok (.iadd, 1) := by decide +kernel
theorem dL_law_333 : decode cL_law 333 = .ok (.iaload, 1) := by decide +kernel
theorem dL_law_334 : decode cL_law 334 = .ok (.invokevirtual 55, 3) := by decide +kernel
theorem dL_law_337 : decode cL_law 337 = .ok (.if_icmp .eq 310, 3) := by decide +kernel
theorem dL_law_340 : decode cL_law 340 = .ok (.iconst 0, 1) := by decide +kernel
theorem dL_law_341 : decode cL_law 341 = .ok (.ireturn, 1) := by decide +kernel
theorem dL_law_342 : decode cL_law 342 = .ok (.aload_n 1, 1) := by decide +kernel
theorem dL_law_343 : decode cL_law 343 = .ok (.aload_n 0, 1) := by decide +kernel
theorem dL_law_344 : decode cL_law 344 = .ok (.iload 4, 2) := by decide +kernel
theorem dL_law_346 : decode cL_law 346 = .ok (.iconst 1, 1) := by decide +kernel
theorem dL_law_347 : decode cL_law 347 = .ok (.iadd, 1) := by decide +kernel
theorem dL_law_348 : decode cL_law 348 = .ok (.iaload, 1) := by decide +kernel
theorem dL_law_349 : decode cL_law 349 = .ok (.aload_n 0, 1) := by decide +kernel
theorem dL_law_350 : decode cL_law 350 = .ok (.iload 4, 2) := by decide +kernel
theorem dL_law_352 : decode cL_law 352 = .ok (.iconst 2, 1) := by decide +kernel
theorem dL_law_353 : decode cL_law 353 = .ok (.iadd, 1) := by decide +kernel
theorem dL_law_354 : decode cL_law 354 = .ok (.iaload, 1) := by decide +kernel
theorem dL_law_355 : decode cL_law 355 = .ok (.invokevirtual 56, 3) := by decide +kernel
theorem dL_law_358 : decode cL_law 358 = .ok (.aload_n 2, 1) := by decide +kernel
theorem dL_law_359 : decode cL_law 359 = .ok (.aload_n 0, 1) := by decide +kernel
theorem dL_law_360 : decode cL_law 360 = .ok (.iload 4, 2) := by decide +kernel
theorem dL_law_362 : decode cL_law 362 = .ok (.iconst 1, 1) := by decide +kernel
theorem dL_law_363 : decode cL_law 363 = .ok (.iadd, 1) := by decide +kernel
theorem dL_law_364 : decode cL_law 364 = .ok (.iaload, 1) := by decide +kernel
theorem dL_law_365 : decode cL_law 365 = .ok (.aload_n 0, 1) := by decide +kernel
theorem dL_law_366 : decode cL_law 366 = .ok (.iload 4, 2) := by decide +kernel
theorem dL_law_368 : decode cL_law 368 = .ok (.iconst 2, 1) := by decide +kernel
theorem dL_law_369 : decode cL_law 369 = .ok (.iadd, 1) := by decide +kernel
theorem dL_law_370 : decode cL_law 370 = .ok (.iaload, 1) := by decide +kernel
theorem dL_law_371 : decode cL_law 371 = .ok (.invokevirtual 60, 3) := by decide +kernel
theorem dL_law_374 : decode cL_law 374 = .ok (.if_icmp .eq 273, 3) := by decide +kernel
theorem dL_law_377 : decode cL_law 377 = .ok (.iconst 0, 1) := by decide +kernel
theorem dL_law_378 : decode cL_law 378 = .ok (.ireturn, 1) := by decide +kernel
theorem dL_law_379 : decode cL_law 379 = .ok (.aload_n 1, 1) := by decide +kernel
theorem dL_law_380 : decode cL_law 380 = .ok (.aload_n 0, 1) := by decide +kernel
theorem dL_law_381 : decode cL_law 381 = .ok (.iload 4, 2) := by decide +kernel
theorem dL_law_383 : decode cL_law 383 = .ok (.iconst 1, 1) := by decide +kernel
theorem dL_law_384 : decode cL_law 384 = .ok (.iadd, 1) := by decide +kernel
theorem dL_law_385 : decode cL_law 385 = .ok (.iaload, 1) := by decide +kernel
theorem dL_law_386 : decode cL_law 386 = .ok (.aload_n 0, 1) := by decide +kernel
theorem dL_law_387 : decode cL_law 387 = .ok (.iload 4, 2) := by decide +kernel
theorem dL_law_389 : decode cL_law 389 = .ok (.iconst 2, 1) := by decide +kernel
theorem dL_law_390 : decode cL_law 390 = .ok (.iadd, 1) := by decide +kernel
theorem dL_law_391 : decode cL_law 391 = .ok (.iaload, 1) := by decide +kernel
theorem dL_law_392 : decode cL_law 392 = .ok (.invokevirtual 61, 3) := by decide +kernel
theorem dL_law_395 : decode cL_law 395 = .ok (.aload_n 2, 1) := by decide +kernel
theorem dL_law_396 : decode cL_law 396 = .ok (.aload_n 0, 1) := by decide +kernel
theorem dL_law_397 : decode cL_law 397 = .ok (.iload 4, 2) := by decide +kernel
theorem dL_law_399 : decode cL_law 399 = .ok (.iconst 1, 1) := by decide +kernel
theorem dL_law_400 : decode cL_law 400 = .ok (.iadd, 1) := by decide +kernel
theorem dL_law_401 : decode cL_law 401 = .ok (.iaload, 1) := by decide +kernel
theorem dL_law_402 : decode cL_law 402 = .ok (.aload_n 0, 1) := by decide +kernel
theorem dL_law_403 : decode cL_law 403 = .ok (.iload 4, 2) := by decide +kernel
theorem dL_law_405 : decode cL_law 405 = .ok (.iconst 2, 1) := by decide +kernel
theorem dL_law_406 : decode cL_law 406 = .ok (.iadd, 1) := by decide +kernel
theorem dL_law_407 : decode cL_law 407 = .ok (.iaload, 1) := by decide +kernel
theorem dL_law_408 : decode cL_law 408 = .ok (.invokevirtual 64, 3) := by decide +kernel
theorem dL_law_411 : decode cL_law 411 = .ok (.if_icmp .eq 236, 3) := by decide +kernel
theorem dL_law_414 : decode cL_law 414 = .ok (.iconst 0, 1) := by decide +kernel
theorem dL_law_415 : decode cL_law 415 = .ok (.ireturn, 1) := by decide +kernel
theorem dL_law_416 : decode cL_law 416 = .ok (.aload_n 1, 1) := by decide +kernel
theorem dL_law_417 : decode cL_law 417 = .ok (.aload_n 0, 1) := by decide +kernel
theorem dL_law_418 : decode cL_law 418 = .ok (.iload 4, 2) := by decide +kernel
theorem dL_law_420 : decode cL_law 420 = .ok (.iconst 1, 1) := by decide +kernel
theorem dL_law_421 : decode cL_law 421 = .ok (.iadd, 1) := by decide +kernel
theorem dL_law_422 : decode cL_law 422 = .ok (.iaload, 1) := by decide +kernel
theorem dL_law_423 : decode cL_law 423 = .ok (.aload_n 0, 1) := by decide +kernel
theorem dL_law_424 : decode cL_law 424 = .ok (.iload 4, 2) := by decide +kernel
theorem dL_law_426 : decode cL_law 426 = .ok (.iconst 2, 1) := by decide +kernel
theorem dL_law_427 : decode cL_law 427 = .ok (.iadd, 1) := by decide +kernel
theorem dL_law_428 : decode cL_law 428 = .ok (.iaload, 1) := by decide +kernel
theorem dL_law_429 : decode cL_law 429 = .ok (.aload_n 0, 1) := by decide +kernel
theorem dL_law_430 : decode cL_law 430 = .ok (.iload 4, 2) := by decide +kernel
theorem dL_law_432 : decode cL_law 432 = .ok (.iconst 3, 1) := by decide +kernel
theorem dL_law_433 : decode cL_law 433 = .ok (.iadd, 1) := by decide +kernel
theorem dL_law_434 : decode cL_law 434 = .ok (.iaload, 1) := by decide +kernel
theorem dL_law_435 : decode cL_law 435 = .ok (.invokevirtual 65, 3) := by decide +kernel
theorem dL_law_438 : decode cL_law 438 = .ok (.aload_n 2, 1) := by decide +kernel
theorem dL_law_439 : decode cL_law 439 = .ok (.aload_n 0, 1) := by decide +kernel
theorem dL_law_440 : decode cL_law 440 = .ok (.iload 4, 2) := by decide +kernel
theorem dL_law_442 : decode cL_law 442 = .ok (.iconst 1, 1) := by decide +kernel
theorem dL_law_443 : decode cL_law 443 = .ok (.iadd, 1) := by decide +kernel
theorem dL_law_444 : decode cL_law 444 = .ok (.iaload, 1) := by decide +kernel
theorem dL_law_445 : decode cL_law 445 = .ok (.aload_n 0, 1) := by decide +kernel
theorem dL_law_446 : decode cL_law 446 = .ok (.iload 4, 2) := by decide +kernel
theorem dL_law_448 : decode cL_law 448 = .ok (.iconst 2, 1) := by decide +kernel
theorem dL_law_449 : decode cL_law 449 = .ok (.iadd, 1) := by decide +kernel
theorem dL_law_450 : decode cL_law 450 = .ok (.iaload, 1) := by decide +kernel
theorem dL_law_451 : decode cL_law 451 = .ok (.aload_n 0, 1) := by decide +kernel
theorem dL_law_452 : decode cL_law 452 = .ok (.iload 4, 2) := by decide +kernel
theorem dL_law_454 : decode cL_law 454 = .ok (.iconst 3, 1) := by decide +kernel
theorem dL_law_455 : decode cL_law 455 = .ok (.iadd, 1) := by decide +kernel
theorem dL_law_456 : decode cL_law 456 = .ok (.iaload, 1) := by decide +kernel
theorem dL_law_457 : decode cL_law 457 = .ok (.invokevirtual 69, 3) := by decide +kernel
theorem dL_law_460 : decode cL_law 460 = .ok (.if_icmp .eq 187, 3) := by decide +kernel
theorem dL_law_463 : decode cL_law 463 = .ok (.iconst 0, 1) := by decide +kernel
theorem dL_law_464 : decode cL_law 464 = .ok (.ireturn, 1) := by decide +kernel
theorem dL_law_465 : decode cL_law 465 = .ok (.aload_n 1, 1) := by decide +kernel
theorem dL_law_466 : decode cL_law 466 = .ok (.aload_n 0, 1) := by decide +kernel
theorem dL_law_467 : decode cL_law 467 = .ok (.iload 4, 2) := by decide +kernel
theorem dL_law_469 : decode cL_law 469 = .ok (.iconst 1, 1) := by decide +kernel
theorem dL_law_470 : decode cL_law 470 = .ok (.iadd, 1) := by decide +kernel
theorem dL_law_471 : decode cL_law 471 = .ok (.iaload, 1) := by decide +kernel
theorem dL_law_472 : decode cL_law 472 = .ok (.aload_n 0, 1) := by decide +kernel
theorem dL_law_473 : decode cL_law 473 = .ok (.iload 4, 2) := by decide +kernel
theorem dL_law_475 : decode cL_law 475 = .ok (.iconst 2, 1) := by decide +kernel
theorem dL_law_476 : decode cL_law 476 = .ok (.iadd, 1) := by decide +kernel
theorem dL_law_477 : decode cL_law 477 = .ok (.iaload, 1) := by decide +kernel
theorem dL_law_478 : decode cL_law 478 = .ok (.invokevirtual 70, 3) := by decide +kernel
theorem dL_law_481 : decode cL_law 481 = .ok (.aload_n 2, 1) := by decide +kernel
theorem dL_law_482 : decode cL_law 482 = .ok (.aload_n 0, 1) := by decide +kernel
theorem dL_law_483 : decode cL_law 483 = .ok (.iload 4, 2) := by decide +kernel
theorem dL_law_485 : decode cL_law 485 = .ok (.iconst 1, 1) := by decide +kernel
theorem dL_law_486 : decode cL_law 486 = .ok (.iadd, 1) := by decide +kernel
theorem dL_law_487 : decode cL_law 487 = .ok (.iaload, 1) := by decide +kernel
theorem dL_law_488 : decode cL_law 488 = .ok (.aload_n 0, 1) := by decide +kernel
theorem dL_law_489 : decode cL_law 489 = .ok (.iload 4, 2) := by decide +kernel
theorem dL_law_491 : decode cL_law 491 = .ok (.iconst 2, 1) := by decide +kernel
theorem dL_law_492 : decode cL_law 492 = .ok (.iadd, 1) := by decide +kernel
theorem dL_law_493 : decode cL_law 493 = .ok (.iaload, 1) := by decide +kernel
theorem dL_law_494 : decode cL_law 494 = .ok (.invokevirtual 73, 3) := by decide +kernel
theorem dL_law_497 : decode cL_law 497 = .ok (.if_icmp .eq 150, 3) := by decide +kernel
theorem dL_law_500 : decode cL_law 500 = .ok (.iconst 0, 1) := by decide +kernel
theorem dL_law_501 : decode cL_law 501 = .ok (.ireturn, 1) := by decide +kernel
theorem dL_law_502 : decode cL_law 502 = .ok (.aload_n 1, 1) := by decide +kernel
theorem dL_law_503 : decode cL_law 503 = .ok (.invokevirtual 74, 3) := by decide +kernel
theorem dL_law_506 : decode cL_law 506 = .ok (.aload_n 2, 1) := by decide +kernel
theorem dL_law_507 : decode cL_law 507 = .ok (.invokevirtual 77, 3) := by decide +kernel
theorem dL_law_510 : decode cL_law 510 = .ok (.if_icmp .eq 137, 3) := by decide +kernel
theorem dL_law_513 : decode cL_law 513 = .ok (.iconst 0, 1) := by decide +kernel
theorem dL_law_514 : decode cL_law 514 = .ok (.ireturn, 1) := by decide +kernel
theorem dL_law_515 : decode cL_law 515 = .ok (.aload_n 1, 1) := by decide +kernel
theorem dL_law_516 : decode cL_law 516 = .ok (.aload_n 0, 1) := by decide +kernel
theorem dL_law_517 : decode cL_law 517 = .ok (.iload 4, 2) := by decide +kernel
theorem dL_law_519 : decode cL_law 519 = .ok (.iconst 1, 1) := by decide +kernel
theorem dL_law_520 : decode cL_law 520 = .ok (.iadd, 1) := by decide +kernel
theorem dL_law_521 : decode cL_law 521 = .ok (.iaload, 1) := by decide +kernel
theorem dL_law_522 : decode cL_law 522 = .ok (.invokevirtual 78, 3) := by decide +kernel
theorem dL_law_525 : decode cL_law 525 = .ok (.aload_n 2, 1) := by decide +kernel
theorem dL_law_526 : decode cL_law 526 = .ok (.aload_n 0, 1) := by decide +kernel
theorem dL_law_527 : decode cL_law 527 = .ok (.iload 4, 2) := by decide +kernel
theorem dL_law_529 : decode cL_law 529 = .ok (.iconst 1, 1) := by decide +kernel
theorem dL_law_530 : decode cL_law 530 = .ok (.iadd, 1) := by decide +kernel
theorem dL_law_531 : decode cL_law 531 = .ok (.iaload, 1) := by decide +kernel
theorem dL_law_532 : decode cL_law 532 = .ok (.invokevirtual 81, 3) := by decide +kernel
theorem dL_law_535 : decode cL_law 535 = .ok (.if_icmp .eq 112, 3) := by decide +kernel
theorem dL_law_538 : decode cL_law 538 = .ok (.iconst 0, 1) := by decide +kernel
theorem dL_law_539 : decode cL_law 539 = .ok (.ireturn, 1) := by decide +kernel
theorem dL_law_540 : decode cL_law 540 = .ok (.aload_n 1, 1) := by decide +kernel
theorem dL_law_541 : decode cL_law 541 = .ok (.aload_n 0, 1) := by decide +kernel
theorem dL_law_542 : decode cL_law 542 = .ok (.iload 4, 2) := by decide +kernel
theorem dL_law_544 : decode cL_law 544 = .ok (.iconst 1, 1) := by decide +kernel
theorem dL_law_545 : decode cL_law 545 = .ok (.iadd, 1) := by decide +kernel
theorem dL_law_546 : decode cL_law 546 = .ok (.iaload, 1) := by decide +kernel
theorem dL_law_547 : decode cL_law 547 = .ok (.aload_n 3, 1) := by decide +kernel
theorem dL_law_548 : decode cL_law 548 = .ok (.invokestatic 82, 3) := by decide +kernel
theorem dL_law_551 : decode cL_law 551 = .ok (.istore 5, 2) := by decide +kernel
theorem dL_law_553 : decode cL_law 553 = .ok (.aload_n 2, 1) := by decide +kernel
theorem dL_law_554 : decode cL_law 554 = .ok (.aload_n 0, 1) := by decide +kernel
theorem dL_law_555 : decode cL_law 555 = .ok (.iload 4, 2) := by decide +kernel
theorem dL_law_557 : decode cL_law 557 = .ok (.iconst 1, 1) := by decide +kernel
theorem dL_law_558 : decode cL_law 558 = .ok (.iadd, 1) := by decide +kernel
theorem dL_law_559 : decode cL_law 559 = .ok (.iaload, 1) := by decide +kernel
theorem dL_law_560 : decode cL_law 560 = .ok (.invokevirtual 85, 3) := by decide +kernel
theorem dL_law_563 : decode cL_law 563 = .ok (.istore 6, 2) := by decide +kernel
theorem dL_law_565 : decode cL_law 565 = .ok (.aload_n 2, 1) := by decide +kernel
theorem dL_law_566 : decode cL_law 566 = .ok (.invokevirtual 37, 3) := by decide +kernel
theorem dL_law_569 : decode cL_law 569 = .ok (.iload 5, 2) := by decide +kernel
theorem dL_law_571 : decode cL_law 571 = .ok (.if_icmp .eq 5, 3) := by decide +kernel
theorem dL_law_574 : decode cL_law 574 = .ok (.iconst 0, 1) := by decide +kernel
theorem dL_law_575 : decode cL_law 575 = .ok (.ireturn, 1) := by decide +kernel
theorem dL_law_576 : decode cL_law 576 = .ok (.iload 5, 2) := by decide +kernel
theorem dL_law_578 : decode cL_law 578 = .ok (.ifCond .ne 15, 3) := by decide +kernel
theorem dL_law_581 : decode cL_law 581 = .ok (.aload_n 3, 1) := by decide +kernel
theorem dL_law_582 : decode cL_law 582 = .ok (.iconst 0, 1) := by decide +kernel
theorem dL_law_583 : decode cL_law 583 = .ok (.laload, 1) := by decide +kernel
theorem dL_law_584 : decode cL_law 584 = .ok (.iload 6, 2) := by decide +kernel
theorem dL_law_586 : decode cL_law 586 = .ok (.i2l, 1) := by decide +kernel
theorem dL_law_587 : decode cL_law 587 = .ok (.lcmp, 1) := by decide +kernel
theorem dL_law_588 : decode cL_law 588 = .ok (.ifCond .eq 5, 3) := by decide +kernel
theorem dL_law_591 : decode cL_law 591 = .ok (.iconst 0, 1) := by decide +kernel
theorem dL_law_592 : decode cL_law 592 = .ok (.ireturn, 1) := by decide +kernel
theorem dL_law_593 : decode cL_law 593 = .ok (.goto 54, 3) := by decide +kernel
theorem dL_law_596 : decode cL_law 596 = .ok (.aload_n 1, 1) := by decide +kernel
theorem dL_law_597 : decode cL_law 597 = .ok (.invokevirtual 86, 3) := by decide +kernel
theorem dL_law_600 : decode cL_law 600 = .ok (.aload_n 2, 1) := by decide +kernel
theorem dL_law_601 : decode cL_law 601 = .ok (.invokevirtual 89, 3) := by decide +kernel
theorem dL_law_604 : decode cL_law 604 = .ok (.if_icmp .eq 43, 3) := by decide +kernel
theorem dL_law_607 : decode cL_law 607 = .ok (.iconst 0, 1) := by decide +kernel
theorem dL_law_608 : decode cL_law 608 = .ok (.ireturn, 1) := by decide +kernel
theorem dL_law_609 : decode cL_law 609 = .ok (.aload_n 1, 1) := by decide +kernel
theorem dL_law_610 : decode cL_law 610 = .ok (.aload_n 0, 1) := by decide +kernel
theorem dL_law_611 : decode cL_law 611 = .ok (.iload 4, 2) := by decide +kernel
theorem dL_law_613 : decode cL_law 613 = .ok (.iconst 1, 1) := by decide +kernel
theorem dL_law_614 : decode cL_law 614 = .ok (.iadd, 1) := by decide +kernel
theorem dL_law_615 : decode cL_law 615 = .ok (.iaload, 1) := by decide +kernel
theorem dL_law_616 : decode cL_law 616 = .ok (.invokevirtual 90, 3) := by decide +kernel
theorem dL_law_619 : decode cL_law 619 = .ok (.aload_n 2, 1) := by decide +kernel
theorem dL_law_620 : decode cL_law 620 = .ok (.aload_n 0, 1) := by decide +kernel
theorem dL_law_621 : decode cL_law 621 = .ok (.iload 4, 2) := by decide +kernel
theorem dL_law_623 : decode cL_law 623 = .ok (.iconst 1, 1) := by decide +kernel
theorem dL_law_624 : decode cL_law 624 = .ok (.iadd, 1) := by decide +kernel
theorem dL_law_625 : decode cL_law 625 = .ok (.iaload, 1) := by decide +kernel
theorem dL_law_626 : decode cL_law 626 = .ok (.invokevirtual 93, 3) := by decide +kernel
theorem dL_law_629 : decode cL_law 629 = .ok (.if_icmp .eq 18, 3) := by decide +kernel
theorem dL_law_632 : decode cL_law 632 = .ok (.iconst 0, 1) := by decide +kernel
theorem dL_law_633 : decode cL_law 633 = .ok (.ireturn, 1) := by decide +kernel
theorem dL_law_634 : decode cL_law 634 = .ok (.aload_n 1, 1) := by decide +kernel
theorem dL_law_635 : decode cL_law 635 = .ok (.invokevirtual 94, 3) := by decide +kernel
theorem dL_law_638 : decode cL_law 638 = .ok (.aload_n 2, 1) := by decide +kernel
theorem dL_law_639 : decode cL_law 639 = .ok (.invokevirtual 97, 3) := by decide +kernel
theorem dL_law_642 : decode cL_law 642 = .ok (.if_icmp .eq 5, 3) := by decide +kernel
theorem dL_law_645 : decode cL_law 645 = .ok (.iconst 0, 1) := by decide +kernel
theorem dL_law_646 : decode cL_law 646 = .ok (.ireturn, 1) := by decide +kernel
theorem dL_law_647 : decode cL_law 647 = .ok (.iinc 4 5, 3) := by decide +kernel
theorem dL_law_650 : decode cL_law 650 = .ok (.goto (-627), 3) := by decide +kernel
theorem dL_law_653 : decode cL_law 653 = .ok (.iconst 1, 1) := by decide +kernel
theorem dL_law_654 : decode cL_law 654 = .ok (.ireturn, 1) := by decide +kernel
abbrev vwCl : List vw_C := [(RX0, TX0, 9), (RX2, TX2, 1), (RX3, TX3, 1), (RX4, TX4, 11), (RX5, TX5, 4), (RX6, TX6, 16)]
end
section
/-! sets of edges as numbers: bit i is 1 for each i that is in -/
def ms_sub (S T : Nat) : Prop := ∀ i, S.testBit i = true → T.testBit i = true
def ms_sd (a b : Nat) : Nat := a ^^^ (a &&& b)
theorem ms_sd_bit (a b i : Nat) : (ms_sd a b).testBit i = (a.testBit i && !b.testBit i) := by
  unfold ms_sd
  rw [Nat.testBit_xor, Nat.testBit_and]
  cases a.testBit i <;> cases b.testBit i <;> rfl
theorem ms_ins_bit (S e i : Nat) : (S ||| 2 ^ e).testBit i = (S.testBit i || decide (e = i)) := by
  rw [Nat.testBit_or, Nat.testBit_two_pow]
theorem ms_lt {x n : Nat} (h : ∀ i, x.testBit i = true → i < n) : x < 2 ^ n := by
  apply Nat.lt_pow_two_of_testBit
  intro i hi
  cases hb : x.testBit i
  · rfl
  · have := h i hb
    omega
theorem ms_bit_lt {x n i : Nat} (h : x < 2 ^ n) (hb : x.testBit i = true) : i < n := by
  rcases Nat.lt_or_ge i n with q | q
  · exact q
  · have := Nat.testBit_lt_two_pow (Nat.lt_of_lt_of_le h (Nat.pow_le_pow_right (by decide) q))
    rw [this] at hb
    cases hb
theorem ms_bit_ge {x n i : Nat} (h : x < 2 ^ n) (hi : n ≤ i) : x.testBit i = false := by
  cases hb : x.testBit i
  · rfl
  · have := ms_bit_lt h hb
    omega
theorem ms_up {x n k : Nat} (h : x < 2 ^ n) (hk : n ≤ k) : x < 2 ^ k := Nat.lt_of_lt_of_le h (Nat.pow_le_pow_right (by decide) hk)
theorem ms_pow_lt {e n : Nat} (h : e < n) : 2 ^ e < 2 ^ n := Nat.pow_lt_pow_right (by decide) h
theorem ms_ins_lt {S e n : Nat} (h : S < 2 ^ n) (he : e < n) : S ||| 2 ^ e < 2 ^ n := Nat.or_lt_two_pow h (ms_pow_lt he)
theorem ms_sd_lt {a b n : Nat} (h : a < 2 ^ n) : ms_sd a b < 2 ^ n := by
  apply ms_lt
  intro i hi
  rw [ms_sd_bit, Bool.and_eq_true] at hi
  exact ms_bit_lt h hi.1
theorem ms_lo_in {S j : Nat} (h : S.testBit j = true) : S % 2 ^ (j + 1) = S % 2 ^ j ||| 2 ^ j := by
  apply Nat.eq_of_testBit_eq
  intro i
  rw [ms_ins_bit, Nat.testBit_mod_two_pow, Nat.testBit_mod_two_pow]
  by_cases hij : j = i
  · subst hij
    simp [h]
  · have : decide (i < j + 1) = decide (i < j) := decide_eq_decide.mpr (by omega)
    rw [this]
    simp [hij]
theorem ms_lo_out {S j : Nat} (h : S.testBit j = false) : S % 2 ^ (j + 1) = S % 2 ^ j := by
  apply Nat.eq_of_testBit_eq
  intro i
  rw [Nat.testBit_mod_two_pow, Nat.testBit_mod_two_pow]
  by_cases hij : j = i
  · subst hij
    simp [h]
  · have : decide (i < j + 1) = decide (i < j) := decide_eq_decide.mpr (by omega)
    rw [this]
theorem ms_sub_rf (S : Nat) : ms_sub S S := fun _ h => h
theorem ms_sub_tr {S T U : Nat} (h : ms_sub S T) (k : ms_sub T U) : ms_sub S U := fun i q => k i (h i q)
theorem ms_sub_0 (S : Nat) : ms_sub 0 S := fun i h => by rw [Nat.zero_testBit] at h; cases h
theorem ms_sub_ins (S e : Nat) : ms_sub S (S ||| 2 ^ e) := fun i h => by rw [ms_ins_bit, h, Bool.true_or]
theorem ms_sub_orl (S T : Nat) : ms_sub S (S ||| T) := fun i h => by rw [Nat.testBit_or, h, Bool.true_or]
theorem ms_sub_orr (S T : Nat) : ms_sub T (S ||| T) := fun i h => by rw [Nat.testBit_or, h, Bool.or_true]
theorem ms_sub_andl (S T : Nat) : ms_sub (S &&& T) S := fun i h => by
  rw [Nat.testBit_and, Bool.and_eq_true] at h
  exact h.1
theorem ms_sub_andr (S T : Nat) : ms_sub (S &&& T) T := fun i h => by
  rw [Nat.testBit_and, Bool.and_eq_true] at h
  exact h.2
theorem ms_sub_sd (S T : Nat) : ms_sub (ms_sd S T) S := fun i h => by
  rw [ms_sd_bit, Bool.and_eq_true] at h
  exact h.1
theorem ms_sub_lt {S T n : Nat} (h : ms_sub S T) (hT : T < 2 ^ n) : S < 2 ^ n := ms_lt fun i q => ms_bit_lt hT (h i q)
theorem ms_sub_eq {S T : Nat} (h : ms_sub S T) (k : ms_sub T S) : S = T := by
  apply Nat.eq_of_testBit_eq
  intro i
  cases hs : S.testBit i
  · cases ht : T.testBit i
    · rfl
    · rw [k i ht] at hs
      cases hs
  · exact (h i hs).symm
theorem ms_sub_or {S T : Nat} (h : ms_sub S T) : S ||| T = T := by
  apply Nat.eq_of_testBit_eq
  intro i
  rw [Nat.testBit_or]
  cases hs : S.testBit i
  · rfl
  · rw [h i hs]
    rfl
theorem ms_sub_ins2 {S T : Nat} (h : ms_sub S T) (e : Nat) : ms_sub (S ||| 2 ^ e) (T ||| 2 ^ e) := fun i q => by
  rw [ms_ins_bit, Bool.or_eq_true] at q ⊢
  exact q.imp (h i) id
theorem ms_sub_or2 {S T X : Nat} (h : ms_sub S T) : ms_sub (S ||| X) (T ||| X) := fun i q => by
  rw [Nat.testBit_or, Bool.or_eq_true] at q ⊢
  exact q.imp (h i) id
theorem ms_ins_in {S e : Nat} (h : S.testBit e = true) : S ||| 2 ^ e = S := by
  apply Nat.eq_of_testBit_eq
  intro i
  rw [ms_ins_bit]
  by_cases q : e = i
  · subst q
    rw [h, Bool.true_or]
  · rw [decide_eq_false q, Bool.or_false]
theorem ms_del_ins {S e : Nat} (h : S.testBit e = true) : ms_sd S (2 ^ e) ||| 2 ^ e = S := by
  apply Nat.eq_of_testBit_eq
  intro i
  rw [ms_ins_bit, ms_sd_bit, Nat.testBit_two_pow]
  by_cases q : e = i
  · subst q
    rw [h]
    simp
  · simp [q]
theorem ms_del_bit (S e : Nat) : (ms_sd S (2 ^ e)).testBit e = false := by
  rw [ms_sd_bit, Nat.testBit_two_pow]
  simp
theorem ms_or_r (a b c : Nat) : a ||| b ||| c = a ||| c ||| b := by
  rw [Nat.or_assoc, Nat.or_comm b c, ← Nat.or_assoc]
/-- how many of the numbers below n are in -/
def ms_card : Nat → Nat → Nat
  | 0, _ => 0
  | n + 1, S => ms_card n S + (S.testBit n).toNat
theorem ms_card_congr {n S T : Nat} (h : ∀ i, i < n → S.testBit i = T.testBit i) : ms_card n S = ms_card n T := by
  induction n with
  | zero => rfl
  | succ n ih =>
    simp only [ms_card]
    rw [ih (fun i hi => h i (by omega)), h n (by omega)]
theorem ms_card_ins {n S e : Nat} (he : e < n) (h : S.testBit e = false) : ms_card n (S ||| 2 ^ e) = ms_card n S + 1 := by
  induction n with
  | zero => omega
  | succ n ih =>
    simp only [ms_card]
    rcases Nat.lt_or_ge e n with q | q
    · rw [ih q, ms_ins_bit, decide_eq_false (by omega), Bool.or_false]
      omega
    · have hen : e = n := by omega
      subst hen
      rw [ms_card_congr (T := S) (fun i hi => by rw [ms_ins_bit, decide_eq_false (by omega), Bool.or_false]), ms_ins_bit, decide_eq_true rfl, Bool.or_true, h]
      rfl
theorem ms_card_0 (n : Nat) : ms_card n 0 = 0 := by
  induction n with
  | zero => rfl
  | succ n ih =>
    simp only [ms_card]
    rw [ih, Nat.zero_testBit]
    rfl
theorem ms_card_up {n S : Nat} (h : S < 2 ^ n) : ms_card (n + 1) S = ms_card n S := by
  simp only [ms_card]
  rw [ms_bit_ge h (Nat.le_refl n)]
  rfl
theorem ms_card_ge {n k S : Nat} (h : S < 2 ^ n) (hk : n ≤ k) : ms_card k S = ms_card n S := by
  induction k with
  | zero =>
    have : n = 0 := by omega
    subst this
    rfl
  | succ k ih =>
    rcases Nat.lt_or_ge n (k + 1) with q | q
    · rw [ms_card_up (ms_up h (by omega)), ih (by omega)]
    · have : n = k + 1 := by omega
      subst this
      rfl
theorem ms_card_mono {n S T : Nat} (h : ms_sub S T) : ms_card n S ≤ ms_card n T := by
  induction n with
  | zero => exact Nat.le_refl _
  | succ n ih =>
    simp only [ms_card]
    cases hs : S.testBit n
    · simp only [Bool.toNat_false]
      omega
    · rw [h n hs]
      omega
theorem ms_card_le (n S : Nat) : ms_card n S ≤ n := by
  induction n with
  | zero => exact Nat.le_refl _
  | succ n ih =>
    simp only [ms_card]
    have : (S.testBit n).toNat ≤ 1 := Bool.toNat_le _
    omega
theorem ms_card_del {n S e : Nat} (he : e < n) (h : S.testBit e = true) : ms_card n S = ms_card n (ms_sd S (2 ^ e)) + 1 := by
  have := ms_card_ins (S := ms_sd S (2 ^ e)) he (ms_del_bit S e)
  rw [ms_del_ins h] at this
  exact this
theorem ms_card_pos {n S : Nat} (hS : S < 2 ^ n) (h : ms_card n S = 0) : S = 0 := by
  apply ms_sub_eq _ (ms_sub_0 S)
  intro i hi
  have := ms_card_del (ms_bit_lt hS hi) hi
  omega
theorem ms_card_eq {n S T : Nat} (hT : T < 2 ^ n) (h : ms_sub S T) (hc : ms_card n T ≤ ms_card n S) : S = T := by
  apply ms_sub_eq h
  intro i hi
  cases hs : S.testBit i
  · have h1 := ms_card_del (ms_bit_lt hT hi) hi
    have h2 : ms_card n S ≤ ms_card n (ms_sd T (2 ^ i)) := ms_card_mono fun j hj => by
      rw [ms_sd_bit, Nat.testBit_two_pow, h j hj]
      have : ¬ i = j := fun q => by rw [q, hj] at hs; cases hs
      simp [this]
    omega
  · rfl
/-! matroids by their ranks -/
def mt_ok (n : Nat) (r : Nat → Nat) : Prop := r 0 = 0 ∧ (∀ S e, S < 2 ^ n → e < n → r (S ||| 2 ^ e) = r S ∨ r (S ||| 2 ^ e) = r S + 1) ∧ (∀ S T e, T < 2 ^ n → e < n → ms_sub S T → r (S ||| 2 ^ e) = r S → r (T ||| 2 ^ e) = r T)
/-- from S to S with X, one at a time -/
theorem mt_grow {P : Nat → Prop} {S X n : Nat} (hX : X < 2 ^ n) (h0 : P S) (hs : ∀ Y e, e < n → X.testBit e = true → ms_sub S Y → ms_sub Y (S ||| X) → (Y.testBit e = S.testBit e) → P Y → P (Y ||| 2 ^ e)) : P (S ||| X) := by
  have key : ∀ j, j ≤ n → P (S ||| X % 2 ^ j) := by
    intro j
    induction j with
    | zero =>
      intro _
      rw [Nat.pow_zero, Nat.mod_one, Nat.or_zero]
      exact h0
    | succ j ih =>
      intro hj
      cases hb : X.testBit j
      · rw [ms_lo_out hb]
        exact ih (by omega)
      · rw [ms_lo_in hb, ← Nat.or_assoc]
        refine hs _ j (by omega) hb (ms_sub_orl _ _) (fun i hi => ?_) ?_ (ih (by omega))
        · rw [Nat.testBit_or, Nat.testBit_mod_two_pow] at hi
          rw [Nat.testBit_or]
          cases h1 : S.testBit i
          · rw [h1] at hi
            simp at hi
            rw [hi.2]
            rfl
          · rfl
        · rw [Nat.testBit_or, Nat.testBit_mod_two_pow]
          simp
  have := key n (Nat.le_refl n)
  rw [Nat.mod_eq_of_lt hX] at this
  exact this
theorem mt_mono {n : Nat} {r : Nat → Nat} (h : mt_ok n r) {S T : Nat} (hT : T < 2 ^ n) (hs : ms_sub S T) : r S ≤ r T := by
  have := mt_grow (P := fun Y => r S ≤ r Y) hT (Nat.le_refl (r S)) (fun Y e he hb h1 h2 h3 hp => by
    have hY : Y < 2 ^ n := ms_sub_lt h2 (by rw [ms_sub_or hs]; exact hT)
    have := h.2.1 Y e hY he
    omega)
  rw [ms_sub_or hs] at this
  exact this
theorem mt_card {n : Nat} {r : Nat → Nat} (h : mt_ok n r) {S : Nat} (hS : S < 2 ^ n) : r S ≤ ms_card n S := by
  have := mt_grow (P := fun Y => r Y ≤ ms_card n Y) (S := 0) hS (by rw [h.1]; exact Nat.zero_le _) (fun Y e he hb h1 h2 h3 hp => by
    rw [Nat.zero_or] at h2
    rw [Nat.zero_testBit] at h3
    have := h.2.1 Y e (ms_sub_lt h2 hS) he
    rw [ms_card_ins he h3]
    omega)
  rw [Nat.zero_or] at this
  exact this
theorem mt_diff {n : Nat} {r : Nat → Nat} (h : mt_ok n r) {A B X : Nat} (hB : B < 2 ^ n) (hX : X < 2 ^ n) (hs : ms_sub A B) : r (B ||| X) + r A ≤ r (A ||| X) + r B := by
  have key : ∀ j, j ≤ n → r (B ||| X % 2 ^ j) + r A ≤ r (A ||| X % 2 ^ j) + r B := by
    intro j
    induction j with
    | zero =>
      intro _
      rw [Nat.pow_zero, Nat.mod_one, Nat.or_zero, Nat.or_zero]
      omega
    | succ j ih =>
      intro hj
      cases hb : X.testBit j
      · rw [ms_lo_out hb]
        exact ih (by omega)
      · rw [ms_lo_in hb, ← Nat.or_assoc, ← Nat.or_assoc]
        have hlo : X % 2 ^ j < 2 ^ n := Nat.lt_of_le_of_lt (Nat.mod_le _ _) hX
        have hBl : B ||| X % 2 ^ j < 2 ^ n := Nat.or_lt_two_pow hB hlo
        have hAl : A ||| X % 2 ^ j < 2 ^ n := Nat.or_lt_two_pow (ms_sub_lt hs hB) hlo
        have h1 := h.2.1 _ j hBl (by omega)
        have h2 := h.2.1 _ j hAl (by omega)
        have h3 := h.2.2 (A ||| X % 2 ^ j) (B ||| X % 2 ^ j) j hBl (by omega) (ms_sub_or2 hs)
        have := ih (by omega)
        omega
  have := key n (Nat.le_refl n)
  rw [Nat.mod_eq_of_lt hX] at this
  exact this
theorem mt_submod {n : Nat} {r : Nat → Nat} (h : mt_ok n r) {P Q : Nat} (hP : P < 2 ^ n) (hQ : Q < 2 ^ n) : r (P ||| Q) + r (P &&& Q) ≤ r P + r Q := by
  have := mt_diff h (A := P &&& Q) (B := Q) (X := P) hQ hP (ms_sub_andr P Q)
  rw [ms_sub_or (ms_sub_andl P Q), Nat.or_comm Q P] at this
  exact this
theorem mt_less {n : Nat} {r : Nat → Nat} (h : mt_ok (n + 1) r) : mt_ok n r :=
  ⟨h.1, fun S e hS he => h.2.1 S e (ms_up hS (by omega)) (by omega), fun S T e hT he => h.2.2 S T e (ms_up hT (by omega)) (by omega)⟩
theorem mt_contr {n : Nat} {r : Nat → Nat} (h : mt_ok (n + 1) r) : mt_ok n (fun S => r (S ||| 2 ^ n) - r (2 ^ n)) := by
  have hN : 2 ^ n < 2 ^ (n + 1) := ms_pow_lt (by omega)
  have hge : ∀ S, S < 2 ^ n → r (2 ^ n) ≤ r (S ||| 2 ^ n) := fun S hS => mt_mono h (ms_ins_lt (ms_up hS (by omega)) (by omega)) (ms_sub_orr S (2 ^ n))
  refine ⟨?_, fun S e hS he => ?_, fun S T e hT he hs hr => ?_⟩
  · show r (0 ||| 2 ^ n) - r (2 ^ n) = 0
    rw [Nat.zero_or]
    omega
  · show r (S ||| 2 ^ e ||| 2 ^ n) - r (2 ^ n) = r (S ||| 2 ^ n) - r (2 ^ n) ∨ r (S ||| 2 ^ e ||| 2 ^ n) - r (2 ^ n) = r (S ||| 2 ^ n) - r (2 ^ n) + 1
    rw [ms_or_r S]
    have h1 := h.2.1 (S ||| 2 ^ n) e (ms_ins_lt (ms_up hS (by omega)) (by omega)) (by omega)
    have h2 := hge S hS
    omega
  · have hr : r (S ||| 2 ^ e ||| 2 ^ n) - r (2 ^ n) = r (S ||| 2 ^ n) - r (2 ^ n) := hr
    show r (T ||| 2 ^ e ||| 2 ^ n) - r (2 ^ n) = r (T ||| 2 ^ n) - r (2 ^ n)
    have hS := ms_sub_lt hs hT
    have h2 := hge S hS
    have h3 := hge _ (ms_ins_lt hS he)
    have h4 : r (S ||| 2 ^ n ||| 2 ^ e) = r (S ||| 2 ^ n) := by
      rw [ms_or_r S (2 ^ n)]
      omega
    rw [ms_or_r T, h.2.2 (S ||| 2 ^ n) (T ||| 2 ^ n) e (ms_ins_lt (ms_up hT (by omega)) (by omega)) (by omega) (ms_sub_ins2 hs n) h4]
theorem ms_full (n i : Nat) : (2 ^ n - 1).testBit i = decide (i < n) := Nat.testBit_two_pow_sub_one n i
theorem ms_full_lt (n : Nat) : 2 ^ n - 1 < 2 ^ n := by
  have := Nat.two_pow_pos n
  omega
set_option maxHeartbeats 1000000 in
/-- the largest set that is free by both, and what shows that there is no larger one -/
theorem mt_inter : ∀ (n : Nat) (a b : Nat → Nat), mt_ok n a → mt_ok n b → ∃ I U, I < 2 ^ n ∧ U < 2 ^ n ∧ a I = ms_card n I ∧ b I = ms_card n I ∧ a U + b (ms_sd (2 ^ n - 1) U) ≤ ms_card n I := by
  intro n
  induction n with
  | zero =>
    intro a b ha hb
    refine ⟨0, 0, by decide, by decide, ha.1, hb.1, ?_⟩
    have : ms_sd (2 ^ 0 - 1) 0 = 0 := rfl
    rw [this, ha.1, hb.1]
    exact Nat.le_refl _
  | succ n ih =>
    intro a b ha hb
    obtain ⟨I1, U1, hI1, hU1, a1, b1, k1⟩ := ih a b (mt_less ha) (mt_less hb)
    have hN : 2 ^ n < 2 ^ (n + 1) := ms_pow_lt (by omega)
    have cI1 := ms_card_up hI1
    have bU1 : ∀ i, U1.testBit i = true → i < n := fun i h => ms_bit_lt hU1 h
    have a0 := ha.2.1 0 n (Nat.two_pow_pos _) (by omega)
    have b0 := hb.2.1 0 n (Nat.two_pow_pos _) (by omega)
    rw [Nat.zero_or] at a0 b0
    rw [ha.1] at a0
    rw [hb.1] at b0
    by_cases za : a (2 ^ n) = 0
    · refine ⟨I1, U1 ||| 2 ^ n, ms_up hI1 (by omega), ms_ins_lt (ms_up hU1 (by omega)) (by omega), by rw [cI1]; exact a1, by rw [cI1]; exact b1, ?_⟩
      have e1 : ms_sd (2 ^ (n + 1) - 1) (U1 ||| 2 ^ n) = ms_sd (2 ^ n - 1) U1 := by
        apply Nat.eq_of_testBit_eq
        intro i
        have := bU1 i
        rw [ms_sd_bit, ms_sd_bit, ms_full, ms_full, ms_ins_bit]
        grind
      have e2 : a (U1 ||| 2 ^ n) = a U1 := ha.2.2 0 U1 n (ms_up hU1 (by omega)) (by omega) (ms_sub_0 U1) (by rw [Nat.zero_or, ha.1]; exact za)
      rw [e1, e2, cI1]
      exact k1
    · by_cases zb : b (2 ^ n) = 0
      · refine ⟨I1, U1, ms_up hI1 (by omega), ms_up hU1 (by omega), by rw [cI1]; exact a1, by rw [cI1]; exact b1, ?_⟩
        have e1 : ms_sd (2 ^ (n + 1) - 1) U1 = ms_sd (2 ^ n - 1) U1 ||| 2 ^ n := by
          apply Nat.eq_of_testBit_eq
          intro i
          have := bU1 i
          rw [ms_ins_bit, ms_sd_bit, ms_sd_bit, ms_full, ms_full]
          grind
        have e2 : b (ms_sd (2 ^ n - 1) U1 ||| 2 ^ n) = b (ms_sd (2 ^ n - 1) U1) := hb.2.2 0 _ n (ms_up (ms_sd_lt (ms_full_lt n)) (by omega)) (by omega) (ms_sub_0 _) (by rw [Nat.zero_or, hb.1]; exact zb)
        rw [e1, e2, cI1]
        exact k1
      · obtain ⟨I2, U2, hI2, hU2, a2, b2, k2⟩ := ih _ _ (mt_contr ha) (mt_contr hb)
        have a2 : a (I2 ||| 2 ^ n) - a (2 ^ n) = ms_card n I2 := a2
        have b2 : b (I2 ||| 2 ^ n) - b (2 ^ n) = ms_card n I2 := b2
        have k2 : a (U2 ||| 2 ^ n) - a (2 ^ n) + (b (ms_sd (2 ^ n - 1) U2 ||| 2 ^ n) - b (2 ^ n)) ≤ ms_card n I2 := k2
        have bU2 : ∀ i, U2.testBit i = true → i < n := fun i h => ms_bit_lt hU2 h
        have hF1 : ms_sd (2 ^ n - 1) U1 < 2 ^ (n + 1) := ms_up (ms_sd_lt (ms_full_lt n)) (by omega)
        have hF2 : ms_sd (2 ^ n - 1) U2 < 2 ^ (n + 1) := ms_up (ms_sd_lt (ms_full_lt n)) (by omega)
        have hF2' := ms_ins_lt hF2 (Nat.lt_succ_self n)
        have hU1' : U1 < 2 ^ (n + 1) := ms_up hU1 (by omega)
        have hU2' : U2 ||| 2 ^ n < 2 ^ (n + 1) := ms_ins_lt (ms_up hU2 (by omega)) (by omega)
        have s1 := mt_submod ha hU1' hU2'
        have s2 := mt_submod hb hF1 hF2'
        have g1 : a (2 ^ n) ≤ a (I2 ||| 2 ^ n) := mt_mono ha (ms_ins_lt (ms_up hI2 (by omega)) (by omega)) (ms_sub_orr _ _)
        have g2 : b (2 ^ n) ≤ b (I2 ||| 2 ^ n) := mt_mono hb (ms_ins_lt (ms_up hI2 (by omega)) (by omega)) (ms_sub_orr _ _)
        have g3 : a (2 ^ n) ≤ a (U2 ||| 2 ^ n) := mt_mono ha hU2' (ms_sub_orr _ _)
        have g4 : b (2 ^ n) ≤ b (ms_sd (2 ^ n - 1) U2 ||| 2 ^ n) := mt_mono hb hF2' (ms_sub_orr _ _)
        have e1 : U1 &&& (U2 ||| 2 ^ n) = U1 &&& U2 := by
          apply Nat.eq_of_testBit_eq
          intro i
          have := bU1 i
          rw [Nat.testBit_and, Nat.testBit_and, ms_ins_bit]
          grind
        have e2 : ms_sd (2 ^ n - 1) U1 ||| (ms_sd (2 ^ n - 1) U2 ||| 2 ^ n) = ms_sd (2 ^ (n + 1) - 1) (U1 &&& U2) := by
          apply Nat.eq_of_testBit_eq
          intro i
          have := bU1 i
          have := bU2 i
          rw [Nat.testBit_or, ms_ins_bit, ms_sd_bit, ms_sd_bit, ms_sd_bit, Nat.testBit_and, ms_full, ms_full]
          grind
        have e3 : ms_sd (2 ^ n - 1) U1 &&& (ms_sd (2 ^ n - 1) U2 ||| 2 ^ n) = ms_sd (2 ^ (n + 1) - 1) (U1 ||| (U2 ||| 2 ^ n)) := by
          apply Nat.eq_of_testBit_eq
          intro i
          have := bU1 i
          have := bU2 i
          rw [Nat.testBit_and, ms_ins_bit, ms_sd_bit, ms_sd_bit, ms_sd_bit, Nat.testBit_or, ms_ins_bit, ms_full, ms_full]
          grind
        rw [e1] at s1
        rw [e2, e3] at s2
        have cI2 : ms_card (n + 1) (I2 ||| 2 ^ n) = ms_card n I2 + 1 := by
          rw [ms_card_ins (Nat.lt_succ_self n) (ms_bit_ge hI2 (Nat.le_refl n)), ms_card_up hI2]
        have hP : U1 &&& U2 < 2 ^ (n + 1) := ms_sub_lt (ms_sub_andl U1 U2) hU1'
        have hQ : U1 ||| (U2 ||| 2 ^ n) < 2 ^ (n + 1) := Nat.or_lt_two_pow hU1' hU2'
        have fin : ∀ I, I < 2 ^ (n + 1) → a I = ms_card (n + 1) I → b I = ms_card (n + 1) I → ms_card n I1 ≤ ms_card (n + 1) I → ms_card n I2 + 1 ≤ ms_card (n + 1) I → ∃ I U, I < 2 ^ (n + 1) ∧ U < 2 ^ (n + 1) ∧ a I = ms_card (n + 1) I ∧ b I = ms_card (n + 1) I ∧ a U + b (ms_sd (2 ^ (n + 1) - 1) U) ≤ ms_card (n + 1) I := by
          intro I hI h1 h2 h3 h4
          by_cases q : a (U1 &&& U2) + b (ms_sd (2 ^ (n + 1) - 1) (U1 &&& U2)) ≤ ms_card (n + 1) I
          · exact ⟨I, _, hI, hP, h1, h2, q⟩
          · exact ⟨I, _, hI, hQ, h1, h2, by omega⟩
        rcases Nat.lt_or_ge (ms_card n I2) (ms_card n I1) with q | q
        · exact fin I1 (ms_up hI1 (by omega)) (by rw [cI1]; exact a1) (by rw [cI1]; exact b1) (by rw [cI1]; exact Nat.le_refl _) (by rw [cI1]; exact q)
        · exact fin (I2 ||| 2 ^ n) (ms_ins_lt (ms_up hI2 (by omega)) (by omega)) (by rw [cI2]; omega) (by rw [cI2]; omega) (by rw [cI2]; omega) (by rw [cI2]; omega)
end
section
/-! sums below a number, sets by a property, weights -/
def ms_sum (f : Nat → Nat) : Nat → Nat
  | 0 => 0
  | n + 1 => ms_sum f n + f n
theorem ms_sum_congr {f g : Nat → Nat} {n : Nat} (h : ∀ j, j < n → f j = g j) : ms_sum f n = ms_sum g n := by
  induction n with
  | zero => rfl
  | succ n ih =>
    simp only [ms_sum]
    rw [ih (fun j hj => h j (by omega)), h n (by omega)]
theorem ms_sum_le {f g : Nat → Nat} {n : Nat} (h : ∀ j, j < n → f j ≤ g j) : ms_sum f n ≤ ms_sum g n := by
  induction n with
  | zero => exact Nat.le_refl _
  | succ n ih =>
    simp only [ms_sum]
    have h1 := ih (fun j hj => h j (by omega))
    have h2 := h n (by omega)
    omega
theorem ms_sum_add (f g : Nat → Nat) (n : Nat) : ms_sum (fun j => f j + g j) n = ms_sum f n + ms_sum g n := by
  induction n with
  | zero => rfl
  | succ n ih =>
    simp only [ms_sum]
    rw [ih]
    omega
/-- two sums that differ at one place -/
theorem ms_sum_one {f g : Nat → Nat} {n k : Nat} (hk : k < n) (h : ∀ j, j < n → j ≠ k → f j = g j) : ms_sum f n + g k = ms_sum g n + f k := by
  induction n with
  | zero => omega
  | succ n ih =>
    simp only [ms_sum]
    rcases Nat.lt_or_ge k n with q | q
    · have h1 := ih q (fun j hj hne => h j (by omega) hne)
      have h2 := h n (by omega) (by omega)
      omega
    · have : k = n := by omega
      subst this
      have h1 := ms_sum_congr (f := f) (g := g) (n := k) (fun j hj => h j (by omega) (by omega))
      omega
theorem ms_sum_sub {f g : Nat → Nat} {n : Nat} (h : ∀ j, j < n → g j ≤ f j) : ms_sum (fun j => f j - g j) n + ms_sum g n = ms_sum f n := by
  induction n with
  | zero => rfl
  | succ n ih =>
    simp only [ms_sum]
    have h1 := ih (fun j hj => h j (by omega))
    have h2 := h n (by omega)
    omega
/-- the set of those below n that a test takes -/
def ms_mk : Nat → (Nat → Bool) → Nat
  | 0, _ => 0
  | n + 1, p => ms_mk n p ||| (if p n = true then 2 ^ n else 0)
theorem ms_mk_bit (n : Nat) (p : Nat → Bool) (i : Nat) : (ms_mk n p).testBit i = (decide (i < n) && p i) := by
  induction n with
  | zero =>
    simp [ms_mk]
  | succ n ih =>
    simp only [ms_mk]
    rw [Nat.testBit_or, ih]
    by_cases hp : p n = true
    · rw [if_pos hp, Nat.testBit_two_pow]
      by_cases hi : n = i
      · subst hi
        simp [hp]
      · have : decide (i < n + 1) = decide (i < n) := decide_eq_decide.mpr (by omega)
        rw [this, decide_eq_false hi, Bool.or_false]
    · rw [if_neg hp, Nat.zero_testBit, Bool.or_false]
      by_cases hi : n = i
      · subst hi
        simp at hp
        simp [hp]
      · have : decide (i < n + 1) = decide (i < n) := decide_eq_decide.mpr (by omega)
        rw [this]
theorem ms_mk_lt (n : Nat) (p : Nat → Bool) : ms_mk n p < 2 ^ n := ms_lt fun i h => by
  rw [ms_mk_bit, Bool.and_eq_true] at h
  exact of_decide_eq_true h.1
/-- the weight of a set -/
def ms_w (u : Nat → Nat) : Nat → Nat → Nat
  | 0, _ => 0
  | n + 1, S => ms_w u n S + (if S.testBit n = true then u n else 0)
theorem ms_w_add (u v : Nat → Nat) (n S : Nat) : ms_w (fun e => u e + v e) n S = ms_w u n S + ms_w v n S := by
  induction n with
  | zero => rfl
  | succ n ih =>
    simp only [ms_w]
    rw [ih]
    split <;> omega
theorem ms_w_congr {u v : Nat → Nat} {n : Nat} (S : Nat) (h : ∀ e, e < n → u e = v e) : ms_w u n S = ms_w v n S := by
  induction n with
  | zero => rfl
  | succ n ih =>
    simp only [ms_w]
    rw [ih (fun e he => h e (by omega)), h n (by omega)]
theorem ms_w_const (c n S : Nat) : ms_w (fun _ => c) n S = c * ms_card n S := by
  induction n with
  | zero => rfl
  | succ n ih =>
    simp only [ms_w, ms_card]
    rw [ih, Nat.mul_add]
    cases S.testBit n <;> simp
/-- those whose weight is at least m -/
def ms_ge (n : Nat) (u : Nat → Nat) (m : Nat) : Nat := ms_mk n (fun e => decide (m ≤ u e))
theorem ms_ge_bit (n : Nat) (u : Nat → Nat) (m i : Nat) : (ms_ge n u m).testBit i = (decide (i < n) && decide (m ≤ u i)) := ms_mk_bit n _ i
theorem ms_ge_lt (n : Nat) (u : Nat → Nat) (m : Nat) : ms_ge n u m < 2 ^ n := ms_mk_lt n _
theorem ms_ge_sub {n : Nat} {u : Nat → Nat} {m k : Nat} (h : m ≤ k) : ms_sub (ms_ge n u k) (ms_ge n u m) := fun i q => by
  rw [ms_ge_bit, Bool.and_eq_true, decide_eq_true_eq, decide_eq_true_eq] at q ⊢
  exact ⟨q.1, by omega⟩
theorem ms_ge_none {n : Nat} {u : Nat → Nat} {m : Nat} (h : ∀ e, e < n → u e < m) : ms_ge n u m = 0 := by
  apply Nat.eq_of_testBit_eq
  intro i
  rw [ms_ge_bit, Nat.zero_testBit]
  by_cases hi : i < n
  · have := h i hi
    rw [decide_eq_false (show ¬ m ≤ u i by omega), Bool.and_false]
  · rw [decide_eq_false hi, Bool.false_and]
theorem ms_ge_0 (n : Nat) (u : Nat → Nat) : ms_ge n u 0 = 2 ^ n - 1 := by
  apply Nat.eq_of_testBit_eq
  intro i
  rw [ms_ge_bit, ms_full]
  simp
theorem ms_steps (b x : Nat) (h : x ≤ b) : ms_sum (fun j => (decide (j + 1 ≤ x)).toNat) b = x := by
  have key : ∀ m, ms_sum (fun j => (decide (j + 1 ≤ x)).toNat) m = min m x := by
    intro m
    induction m with
    | zero => simp [ms_sum]
    | succ m ih =>
      simp only [ms_sum]
      rw [ih]
      by_cases q : m + 1 ≤ x
      · rw [decide_eq_true q]
        simp only [Bool.toNat_true]
        omega
      · rw [decide_eq_false q]
        simp only [Bool.toNat_false]
        omega
  rw [key b]
  omega
/-- a weight is a sum over levels -/
theorem ms_w_levels {N : Nat} {u : Nat → Nat} {b : Nat} (h : ∀ e, e < N → u e ≤ b) (A : Nat) : ms_w u N A = ms_sum (fun j => ms_card N (A &&& ms_ge N u (j + 1))) b := by
  have key : ∀ n, n ≤ N → ms_w u n A = ms_sum (fun j => ms_card n (A &&& ms_ge N u (j + 1))) b := by
    intro n
    induction n with
    | zero =>
      intro _
      show 0 = ms_sum (fun j => 0) b
      have : ∀ m, ms_sum (fun _ => 0) m = 0 := by
        intro m
        induction m with
        | zero => rfl
        | succ m ih => simp only [ms_sum]; omega
      rw [this]
    | succ n ih =>
      intro hn
      simp only [ms_w, ms_card]
      rw [ms_sum_add, ih (by omega)]
      congr 1
      cases hb : A.testBit n
      · rw [if_neg (by decide)]
        rw [ms_sum_congr (g := fun _ => 0) (fun j _ => by rw [Nat.testBit_and, hb]; rfl)]
        have : ∀ m, ms_sum (fun _ => 0) m = 0 := by
          intro m
          induction m with
          | zero => rfl
          | succ m ih => simp only [ms_sum]; omega
        rw [this]
      · rw [if_pos rfl]
        rw [ms_sum_congr (g := fun j => (decide (j + 1 ≤ u n)).toNat) (fun j _ => by rw [Nat.testBit_and, hb, ms_ge_bit, decide_eq_true (show n < N by omega), Bool.true_and, Bool.true_and])]
        exact (ms_steps b (u n) (h n (by omega))).symm
  exact key N (Nat.le_refl N)
theorem mt_trunc {n : Nat} {r : Nat → Nat} (h : mt_ok n r) (k : Nat) : mt_ok n (fun S => min (r S) k) := by
  refine ⟨?_, fun S e hS he => ?_, fun S T e hT he hs hr => ?_⟩
  · show min (r 0) k = 0
    rw [h.1]
    omega
  · show min (r (S ||| 2 ^ e)) k = min (r S) k ∨ min (r (S ||| 2 ^ e)) k = min (r S) k + 1
    have := h.2.1 S e hS he
    omega
  · have hr : min (r (S ||| 2 ^ e)) k = min (r S) k := hr
    show min (r (T ||| 2 ^ e)) k = min (r T) k
    have hS := ms_sub_lt hs hT
    rcases h.2.1 S e hS he with q | q
    · rw [h.2.2 S T e hT he hs q]
    · have h1 := mt_mono h hT hs
      have h2 := h.2.1 T e hT he
      omega
theorem mt_card_diff {n : Nat} {r : Nat → Nat} (h : mt_ok n r) {A X : Nat} (hX : X < 2 ^ n) (hs : ms_sub A X) : r X + ms_card n A ≤ r A + ms_card n X := by
  have := mt_grow (P := fun Y => r Y + ms_card n A ≤ r A + ms_card n Y) (S := A) hX (Nat.le_refl _) (fun Y e he hb h1 h2 h3 hp => by
    have hY : Y < 2 ^ n := ms_sub_lt h2 (by rw [ms_sub_or hs]; exact hX)
    cases hy : Y.testBit e
    · have := h.2.1 Y e hY he
      rw [ms_card_ins he hy]
      omega
    · rw [ms_ins_in hy]
      exact hp)
  rw [ms_sub_or hs] at this
  exact this
/-! a weight's levels, one of them raised on a set -/
def mt_lv (n : Nat) (u : Nat → Nat) (S j : Nat) : Nat := ms_ge n u (j + 1) ||| (S &&& ms_ge n u j)
def mt_F (n : Nat) (q : Nat → Nat) (u : Nat → Nat) (b S : Nat) : Nat := ms_sum (fun j => q (mt_lv n u S j)) b
def mt_Phi (n : Nat) (q : Nat → Nat) (u : Nat → Nat) (b : Nat) : Nat := ms_sum (fun j => q (ms_ge n u (j + 1))) b
def mt_rho (n : Nat) (q : Nat → Nat) (u : Nat → Nat) (b S : Nat) : Nat := mt_F n q u b S - mt_F n q u b 0
theorem mt_lv_bit (n : Nat) (u : Nat → Nat) (S j i : Nat) : (mt_lv n u S j).testBit i = (decide (i < n) && (decide (j + 1 ≤ u i) || (S.testBit i && decide (j ≤ u i)))) := by
  unfold mt_lv
  rw [Nat.testBit_or, Nat.testBit_and, ms_ge_bit, ms_ge_bit]
  cases decide (i < n) <;> cases decide (j + 1 ≤ u i) <;> cases S.testBit i <;> cases decide (j ≤ u i) <;> rfl
theorem mt_lv_lt (n : Nat) (u : Nat → Nat) (S j : Nat) : mt_lv n u S j < 2 ^ n := ms_lt fun i h => by
  rw [mt_lv_bit, Bool.and_eq_true] at h
  exact of_decide_eq_true h.1
theorem mt_lv_0 (n : Nat) (u : Nat → Nat) (j : Nat) : mt_lv n u 0 j = ms_ge n u (j + 1) := by
  unfold mt_lv
  rw [Nat.zero_and, Nat.or_zero]
theorem mt_lv_sub {n : Nat} {u : Nat → Nat} {S T : Nat} (h : ms_sub S T) (j : Nat) : ms_sub (mt_lv n u S j) (mt_lv n u T j) := fun i q => by
  rw [mt_lv_bit] at q ⊢
  have := h i
  grind
theorem mt_lv_same {n : Nat} {u : Nat → Nat} {S e j : Nat} (h : j ≠ u e) : mt_lv n u (S ||| 2 ^ e) j = mt_lv n u S j := by
  apply Nat.eq_of_testBit_eq
  intro i
  rw [mt_lv_bit, mt_lv_bit, ms_ins_bit]
  by_cases hi : e = i
  · subst hi
    by_cases h1 : j + 1 ≤ u e
    · rw [decide_eq_true h1]
      simp
    · rw [decide_eq_false h1, decide_eq_false (show ¬ j ≤ u e by omega)]
      simp
  · rw [decide_eq_false hi, Bool.or_false]
theorem mt_lv_new {n : Nat} {u : Nat → Nat} {S e : Nat} (he : e < n) : mt_lv n u (S ||| 2 ^ e) (u e) = mt_lv n u S (u e) ||| 2 ^ e := by
  apply Nat.eq_of_testBit_eq
  intro i
  rw [ms_ins_bit, mt_lv_bit, mt_lv_bit, ms_ins_bit]
  by_cases hi : e = i
  · subst hi
    rw [decide_eq_true he]
    simp
  · rw [decide_eq_false hi, Bool.or_false, Bool.or_false]
theorem mt_F_le {n : Nat} {q : Nat → Nat} (h : mt_ok n q) (u : Nat → Nat) (b : Nat) {S T : Nat} (hs : ms_sub S T) : mt_F n q u b S ≤ mt_F n q u b T :=
  ms_sum_le fun j _ => mt_mono h (mt_lv_lt n u T j) (mt_lv_sub hs j)
theorem mt_rho_ok {n : Nat} {q : Nat → Nat} (h : mt_ok n q) {u : Nat → Nat} {b : Nat} (hb : ∀ e, e < n → u e < b) : mt_ok n (mt_rho n q u b) := by
  have one : ∀ S e, e < n → mt_F n q u b (S ||| 2 ^ e) + q (mt_lv n u S (u e)) = mt_F n q u b S + q (mt_lv n u S (u e) ||| 2 ^ e) := by
    intro S e he
    have := ms_sum_one (f := fun j => q (mt_lv n u (S ||| 2 ^ e) j)) (g := fun j => q (mt_lv n u S j)) (hb e he) (fun j _ hj => by
      show q (mt_lv n u (S ||| 2 ^ e) j) = q (mt_lv n u S j)
      rw [mt_lv_same hj])
    rw [mt_lv_new he] at this
    exact this
  have low : ∀ S, mt_F n q u b 0 ≤ mt_F n q u b S := fun S => mt_F_le h u b (ms_sub_0 S)
  refine ⟨Nat.sub_self _, fun S e hS he => ?_, fun S T e hT he hs hr => ?_⟩
  · have h1 := one S e he
    have h2 := h.2.1 (mt_lv n u S (u e)) e (mt_lv_lt n u S (u e)) he
    have h3 := low S
    have h4 := low (S ||| 2 ^ e)
    unfold mt_rho
    omega
  · have h1 := one S e he
    have h2 := one T e he
    have h3 := low S
    have h4 := low (S ||| 2 ^ e)
    have h5 := low T
    unfold mt_rho at hr ⊢
    have h6 := h.2.2 (mt_lv n u S (u e)) (mt_lv n u T (u e)) e (mt_lv_lt n u T (u e)) he (mt_lv_sub hs _) (by omega)
    omega
theorem mt_F_0 (n : Nat) (q : Nat → Nat) (u : Nat → Nat) (b : Nat) : mt_F n q u b 0 = mt_Phi n q u b :=
  ms_sum_congr fun j _ => by rw [mt_lv_0]
/-- what a raised level adds, at least what it adds within I -/
theorem mt_step {n : Nat} {q : Nat → Nat} (h : mt_ok n q) (u : Nat → Nat) {I : Nat} (hI : I < 2 ^ n) (m : Nat) : (q (mt_lv n u I m) - q (ms_ge n u (m + 1))) + q (I &&& ms_ge n u (m + 1)) ≤ q (I &&& ms_ge n u m) := by
  have hlt : I &&& ms_ge n u m < 2 ^ n := ms_sub_lt (ms_sub_andl _ _) hI
  have h1 := mt_diff h (A := I &&& ms_ge n u (m + 1)) (B := ms_ge n u (m + 1)) (X := I &&& ms_ge n u m) (ms_ge_lt n u (m + 1)) hlt (ms_sub_andr _ _)
  have h2 : I &&& ms_ge n u (m + 1) ||| I &&& ms_ge n u m = I &&& ms_ge n u m := ms_sub_or fun i hi => by
    rw [Nat.testBit_and, Bool.and_eq_true] at hi ⊢
    exact ⟨hi.1, ms_ge_sub (Nat.le_succ m) i hi.2⟩
  rw [h2] at h1
  have h3 : q (I &&& ms_ge n u (m + 1)) ≤ q (I &&& ms_ge n u m) := mt_mono h hlt (by rw [← h2]; exact ms_sub_orl _ _)
  show (q (ms_ge n u (m + 1) ||| (I &&& ms_ge n u m)) - q (ms_ge n u (m + 1))) + q (I &&& ms_ge n u (m + 1)) ≤ q (I &&& ms_ge n u m)
  omega
theorem mt_rho_sum {n : Nat} {q : Nat → Nat} (h : mt_ok n q) (u : Nat → Nat) (b I : Nat) : mt_rho n q u b I = ms_sum (fun m => q (mt_lv n u I m) - q (ms_ge n u (m + 1))) b := by
  have h1 := ms_sum_sub (f := fun m => q (mt_lv n u I m)) (g := fun m => q (ms_ge n u (m + 1))) (n := b) (fun j _ => mt_mono h (mt_lv_lt n u I j) (ms_sub_orl _ _))
  have h2 := mt_F_0 n q u b
  unfold mt_rho
  rw [h2]
  unfold mt_Phi mt_F
  omega
/-- a set that is free by rho is free by q, and of the greatest weight -/
theorem mt_rho_rank {n : Nat} {q : Nat → Nat} (h : mt_ok n q) {u : Nat → Nat} {b : Nat} (hb : ∀ e, e < n → u e < b) {I : Nat} (hI : I < 2 ^ n) : mt_rho n q u b I ≤ q I := by
  have key : ∀ m, ms_sum (fun m => q (mt_lv n u I m) - q (ms_ge n u (m + 1))) m + q (I &&& ms_ge n u m) ≤ q I := by
    intro m
    induction m with
    | zero =>
      simp only [ms_sum]
      rw [Nat.zero_add]
      exact mt_mono h hI (ms_sub_andl _ _)
    | succ m ih =>
      simp only [ms_sum]
      have := mt_step h u hI m
      omega
  rw [mt_rho_sum h]
  have := key b
  omega
theorem mt_rho_all {n : Nat} {q : Nat → Nat} (h : mt_ok n q) (u : Nat → Nat) (I m : Nat) : ms_sum (fun m => q (mt_lv n u I m) - q (ms_ge n u (m + 1))) m + q (ms_ge n u m) ≤ q (2 ^ n - 1) := by
  induction m with
  | zero =>
    simp only [ms_sum]
    rw [ms_ge_0, Nat.zero_add]
    exact Nat.le_refl _
  | succ m ih =>
    simp only [ms_sum]
    have h1 : q (mt_lv n u I m) ≤ q (ms_ge n u m) := mt_mono h (ms_ge_lt n u m) fun i hi => by
      rw [mt_lv_bit] at hi
      rw [ms_ge_bit]
      grind
    have h2 : q (ms_ge n u (m + 1)) ≤ q (mt_lv n u I m) := mt_mono h (mt_lv_lt n u I m) (ms_sub_orl _ _)
    omega
theorem mt_rho_best {n : Nat} {q : Nat → Nat} (h : mt_ok n q) {u : Nat → Nat} {b : Nat} (hb : ∀ e, e < n → u e < b) {I : Nat} (hI : I < 2 ^ n) (hk : q (2 ^ n - 1) ≤ mt_rho n q u b I) : mt_Phi n q u b ≤ ms_w u n I := by
  have down : ∀ d m, m + d = b → ms_sum (fun m => q (mt_lv n u I m) - q (ms_ge n u (m + 1))) b ≤ ms_sum (fun m => q (mt_lv n u I m) - q (ms_ge n u (m + 1))) m + ms_card n (I &&& ms_ge n u m) := by
    intro d
    induction d with
    | zero =>
      intro m hm
      have : m = b := by omega
      subst this
      omega
    | succ d ih =>
      intro m hm
      have h1 := ih (m + 1) (by omega)
      have h2 := mt_step h u hI m
      have h3 : ms_sub (I &&& ms_ge n u (m + 1)) (I &&& ms_ge n u m) := fun i hi => by
        rw [Nat.testBit_and, Bool.and_eq_true] at hi ⊢
        exact ⟨hi.1, ms_ge_sub (Nat.le_succ m) i hi.2⟩
      have h4 := mt_card_diff h (ms_sub_lt (ms_sub_andl _ _) hI) h3
      simp only [ms_sum] at h1
      omega
  rw [mt_rho_sum h] at hk
  rw [ms_w_levels (fun e he => Nat.le_of_lt (hb e he)) I]
  refine ms_sum_le fun j hj => ?_
  have h1 := down (b - (j + 1)) (j + 1) (by omega)
  have h2 := mt_rho_all h u I (j + 1)
  omega
theorem mt_rho_le {n : Nat} {q : Nat → Nat} (h : mt_ok n q) (u : Nat → Nat) (b I : Nat) : mt_rho n q u b I ≤ q (2 ^ n - 1) := by
  rw [mt_rho_sum h]
  have := mt_rho_all h u I b
  omega
/-- the weight raised on U -/
theorem mt_raise {n : Nat} {q : Nat → Nat} (h : mt_ok n q) {u : Nat → Nat} {b : Nat} (hb : ∀ e, e < n → u e < b) (U : Nat) : mt_Phi n q (fun e => u e + (U.testBit e).toNat) (b + 1) = mt_Phi n q u b + mt_rho n q u b U := by
  have e1 : ∀ j, ms_ge n (fun e => u e + (U.testBit e).toNat) (j + 1) = mt_lv n u U j := by
    intro j
    apply Nat.eq_of_testBit_eq
    intro i
    rw [ms_ge_bit, mt_lv_bit]
    congr 1
    cases hu : U.testBit i
    · simp
    · by_cases h1 : j ≤ u i
      · simp [h1]
      · simp [h1]
        omega
  have e2 : mt_lv n u U b = 0 := by
    unfold mt_lv
    rw [ms_ge_none (fun e he => by have := hb e he; omega), ms_ge_none hb, Nat.and_zero, Nat.or_zero]
  have e3 : mt_Phi n q (fun e => u e + (U.testBit e).toNat) (b + 1) = mt_F n q u b U := by
    unfold mt_Phi
    simp only [ms_sum]
    rw [e1, e2, h.1, Nat.add_zero]
    exact ms_sum_congr fun j _ => by rw [e1]
  have e4 := mt_F_le h u b (ms_sub_0 U)
  rw [e3]
  have e5 := mt_F_0 n q u b
  unfold mt_rho
  omega
theorem mt_phi_up {n : Nat} {r : Nat → Nat} (h : mt_ok n r) {k : Nat} {u : Nat → Nat} {b : Nat} (hb : ∀ e, e < n → u e < b) {A : Nat} (hA : A < 2 ^ n) (fA : r A = ms_card n A) (cA : ms_card n A ≤ k) : ms_w u n A ≤ mt_Phi n (fun S => min (r S) k) u b := by
  rw [ms_w_levels (fun e he => Nat.le_of_lt (hb e he)) A]
  refine ms_sum_le fun j _ => ?_
  have h1 := mt_card_diff h hA (ms_sub_andl A (ms_ge n u (j + 1)))
  have h2 := mt_mono h (ms_ge_lt n u (j + 1)) (ms_sub_andr A (ms_ge n u (j + 1)))
  have h3 := ms_card_mono (n := n) (ms_sub_andl A (ms_ge n u (j + 1)))
  show ms_card n (A &&& ms_ge n u (j + 1)) ≤ min (r (ms_ge n u (j + 1))) k
  omega
theorem mt_phi_two {n : Nat} {r : Nat → Nat} (h : mt_ok n r) {k : Nat} {u : Nat → Nat} {b : Nat} (hb : ∀ e, e < n → u e < b) {A B : Nat} (hA : A < 2 ^ n) (hB : B < 2 ^ n) (fA : r A = ms_card n A) (fB : r B = ms_card n B) (cA : ms_card n A + 1 = k) (cB : ms_card n B = k + 1) :
    ms_w u n A + ms_w u n B ≤ 2 * mt_Phi n (fun S => min (r S) k) u b := by
  rw [ms_w_levels (fun e he => Nat.le_of_lt (hb e he)) A, ms_w_levels (fun e he => Nat.le_of_lt (hb e he)) B, ← ms_sum_add, Nat.two_mul]
  unfold mt_Phi
  rw [← ms_sum_add]
  refine ms_sum_le fun j _ => ?_
  have a1 := mt_card_diff h hA (ms_sub_andl A (ms_ge n u (j + 1)))
  have a2 := mt_mono h (ms_ge_lt n u (j + 1)) (ms_sub_andr A (ms_ge n u (j + 1)))
  have a3 := ms_card_mono (n := n) (ms_sub_andl A (ms_ge n u (j + 1)))
  have b1 := mt_card_diff h hB (ms_sub_andl B (ms_ge n u (j + 1)))
  have b2 := mt_mono h (ms_ge_lt n u (j + 1)) (ms_sub_andr B (ms_ge n u (j + 1)))
  have b3 := ms_card_mono (n := n) (ms_sub_andl B (ms_ge n u (j + 1)))
  show ms_card n (A &&& ms_ge n u (j + 1)) + ms_card n (B &&& ms_ge n u (j + 1)) ≤ min (r (ms_ge n u (j + 1))) k + min (r (ms_ge n u (j + 1))) k
  omega
set_option maxHeartbeats 1000000 in
/-- the greatest weights of common sets: no more is gained from k to k + 1 than from k - 1 to k -/
theorem mt_concave {n : Nat} {r1 r2 : Nat → Nat} (h1 : mt_ok n r1) (h2 : mt_ok n r2) {w : Nat → Nat} {k A B I0 : Nat} (hA : A < 2 ^ n) (hB : B < 2 ^ n) (hI0 : I0 < 2 ^ n)
    (fA1 : r1 A = ms_card n A) (fA2 : r2 A = ms_card n A) (fB1 : r1 B = ms_card n B) (fB2 : r2 B = ms_card n B) (f01 : r1 I0 = ms_card n I0) (f02 : r2 I0 = ms_card n I0) (cA : ms_card n A + 1 = k) (cB : ms_card n B = k + 1) (c0 : ms_card n I0 = k) :
    ∀ (d b : Nat) (w1 w2 : Nat → Nat) (c : Nat), (∀ e, e < n → w1 e < b) → (∀ e, e < n → w2 e < b) → (∀ e, e < n → w1 e + w2 e = w e + c) →
      mt_Phi n (fun S => min (r1 S) k) w1 b + mt_Phi n (fun S => min (r2 S) k) w2 b ≤ ms_w w n I0 + c * k + d →
      ∃ I, I < 2 ^ n ∧ r1 I = ms_card n I ∧ r2 I = ms_card n I ∧ ms_card n I = k ∧ ms_w w n A + ms_w w n B ≤ 2 * ms_w w n I := by
  have split : ∀ (w1 w2 : Nat → Nat) (c S : Nat), (∀ e, e < n → w1 e + w2 e = w e + c) → ms_w w1 n S + ms_w w2 n S = ms_w w n S + c * ms_card n S := by
    intro w1 w2 c S hs
    rw [← ms_w_add, ms_w_congr S hs, ms_w_add, ms_w_const]
  have t1 := mt_trunc h1 k
  have t2 := mt_trunc h2 k
  intro d
  induction d with
  | zero =>
    intro b w1 w2 c hb1 hb2 hs hd
    obtain ⟨I, U, hI, hU, i1, i2, hU2⟩ := mt_inter n _ _ (mt_rho_ok t1 hb1) (mt_rho_ok t2 hb2)
    have r1' := mt_rho_rank t1 hb1 hI
    have r2' := mt_rho_rank t2 hb2 hI
    have k1 := mt_card h1 hI
    have k2 := mt_card h2 hI
    have hr1 : mt_rho n (fun S => min (r1 S) k) w1 b I ≤ min (r1 I) k := r1'
    have hr2 : mt_rho n (fun S => min (r2 S) k) w2 b I ≤ min (r2 I) k := r2'
    rcases Nat.lt_or_ge (ms_card n I) k with q | q
    · have u1 := mt_raise t1 hb1 U
      have u2 := mt_raise t2 hb2 (ms_sd (2 ^ n - 1) U)
      have hs' : ∀ e, e < n → (w1 e + (U.testBit e).toNat) + (w2 e + ((ms_sd (2 ^ n - 1) U).testBit e).toNat) = w e + (c + 1) := by
        intro e he
        have := hs e he
        rw [ms_sd_bit, ms_full, decide_eq_true he, Bool.true_and]
        cases U.testBit e <;> simp <;> omega
      have lo := split _ _ (c + 1) I0 hs'
      have hb1' : ∀ e, e < n → w1 e + (U.testBit e).toNat < b + 1 := fun e he => by
        have := hb1 e he
        have := Bool.toNat_le (U.testBit e)
        omega
      have hb2' : ∀ e, e < n → w2 e + ((ms_sd (2 ^ n - 1) U).testBit e).toNat < b + 1 := fun e he => by
        have := hb2 e he
        have := Bool.toNat_le ((ms_sd (2 ^ n - 1) U).testBit e)
        omega
      have p1 := mt_phi_up h1 (k := k) hb1' hI0 f01 (by omega)
      have p2 := mt_phi_up h2 (k := k) hb2' hI0 f02 (by omega)
      rw [c0, Nat.add_mul, Nat.one_mul] at lo
      omega
    · have hm1 : (fun S => min (r1 S) k) (2 ^ n - 1) ≤ mt_rho n (fun S => min (r1 S) k) w1 b I := by
        show min (r1 (2 ^ n - 1)) k ≤ _
        omega
      have hm2 : (fun S => min (r2 S) k) (2 ^ n - 1) ≤ mt_rho n (fun S => min (r2 S) k) w2 b I := by
        show min (r2 (2 ^ n - 1)) k ≤ _
        omega
      have b1 := mt_rho_best t1 hb1 hI hm1
      have b2 := mt_rho_best t2 hb2 hI hm2
      have a1 := mt_phi_two h1 hb1 hA hB fA1 fB1 cA cB
      have a2 := mt_phi_two h2 hb2 hA hB fA2 fB2 cA cB
      have sA := split w1 w2 c A hs
      have sB := split w1 w2 c B hs
      have sI := split w1 w2 c I hs
      have cI : ms_card n I = k := by omega
      refine ⟨I, hI, by omega, by omega, cI, ?_⟩
      rw [cI] at sI
      rw [cB, Nat.mul_add, Nat.mul_one] at sB
      have e3 : c * k = c * ms_card n A + c := by rw [← cA, Nat.mul_add, Nat.mul_one]
      omega
  | succ d ih =>
    intro b w1 w2 c hb1 hb2 hs hd
    obtain ⟨I, U, hI, hU, i1, i2, hU2⟩ := mt_inter n _ _ (mt_rho_ok t1 hb1) (mt_rho_ok t2 hb2)
    have r1' := mt_rho_rank t1 hb1 hI
    have r2' := mt_rho_rank t2 hb2 hI
    have k1 := mt_card h1 hI
    have k2 := mt_card h2 hI
    have hr1 : mt_rho n (fun S => min (r1 S) k) w1 b I ≤ min (r1 I) k := r1'
    have hr2 : mt_rho n (fun S => min (r2 S) k) w2 b I ≤ min (r2 I) k := r2'
    rcases Nat.lt_or_ge (ms_card n I) k with q | q
    · have u1 := mt_raise t1 hb1 U
      have u2 := mt_raise t2 hb2 (ms_sd (2 ^ n - 1) U)
      have hs' : ∀ e, e < n → (w1 e + (U.testBit e).toNat) + (w2 e + ((ms_sd (2 ^ n - 1) U).testBit e).toNat) = w e + (c + 1) := by
        intro e he
        have := hs e he
        rw [ms_sd_bit, ms_full, decide_eq_true he, Bool.true_and]
        cases U.testBit e <;> simp <;> omega
      have hb1' : ∀ e, e < n → w1 e + (U.testBit e).toNat < b + 1 := fun e he => by
        have := hb1 e he
        have := Bool.toNat_le (U.testBit e)
        omega
      have hb2' : ∀ e, e < n → w2 e + ((ms_sd (2 ^ n - 1) U).testBit e).toNat < b + 1 := fun e he => by
        have := hb2 e he
        have := Bool.toNat_le ((ms_sd (2 ^ n - 1) U).testBit e)
        omega
      refine ih (b + 1) _ _ (c + 1) hb1' hb2' hs' ?_
      rw [u1, u2, Nat.add_mul, Nat.one_mul]
      omega
    · have hm1 : (fun S => min (r1 S) k) (2 ^ n - 1) ≤ mt_rho n (fun S => min (r1 S) k) w1 b I := by
        show min (r1 (2 ^ n - 1)) k ≤ _
        omega
      have hm2 : (fun S => min (r2 S) k) (2 ^ n - 1) ≤ mt_rho n (fun S => min (r2 S) k) w2 b I := by
        show min (r2 (2 ^ n - 1)) k ≤ _
        omega
      have b1 := mt_rho_best t1 hb1 hI hm1
      have b2 := mt_rho_best t2 hb2 hI hm2
      have a1 := mt_phi_two h1 hb1 hA hB fA1 fB1 cA cB
      have a2 := mt_phi_two h2 hb2 hA hB fA2 fB2 cA cB
      have sA := split w1 w2 c A hs
      have sB := split w1 w2 c B hs
      have sI := split w1 w2 c I hs
      have cI : ms_card n I = k := by omega
      refine ⟨I, hI, by omega, by omega, cI, ?_⟩
      rw [cI] at sI
      rw [cB, Nat.mul_add, Nat.mul_one] at sB
      have e3 : c * k = c * ms_card n A + c := by rw [← cA, Nat.mul_add, Nat.mul_one]
      omega
end
section
/-! ===== Int32 by its bits: bt x i ===== -/
def bt (x : Int32) (i : Nat) : Bool := x.toBitVec.getLsbD i
theorem b_ext {x y : Int32} (h : ∀ i, i < 32 → bt x i = bt y i) : x = y := Int32.toBitVec_inj.mp (BitVec.eq_of_getLsbD_eq (fun i hi => h i hi))
theorem b_or (x y : Int32) (i : Nat) : bt (x ||| y) i = (bt x i || bt y i) := by unfold bt; rw [Int32.toBitVec_or, BitVec.getLsbD_or]
theorem b_and (x y : Int32) (i : Nat) : bt (x &&& y) i = (bt x i && bt y i) := by unfold bt; rw [Int32.toBitVec_and, BitVec.getLsbD_and]
theorem b_xor (x y : Int32) (i : Nat) : bt (x ^^^ y) i = (bt x i ^^ bt y i) := by unfold bt; rw [Int32.toBitVec_xor, BitVec.getLsbD_xor]
theorem b_big {x : Int32} {i : Nat} (h : 32 ≤ i) : bt x i = false := BitVec.getLsbD_of_ge _ _ h
theorem b_255 (i : Nat) : bt 255 i = decide (i < 8) := by
  rcases Nat.lt_or_ge i 32 with h | h
  · exact (by decide +kernel : ∀ i, i < 32 → bt 255 i = decide (i < 8)) i h
  · rw [b_big h, decide_eq_false (by omega)]
theorem b_65535 (i : Nat) : bt 65535 i = decide (i < 16) := by
  rcases Nat.lt_or_ge i 32 with h | h
  · exact (by decide +kernel : ∀ i, i < 32 → bt 65535 i = decide (i < 16)) i h
  · rw [b_big h, decide_eq_false (by omega)]
theorem b_m1 : ∀ i, i < 32 → bt (-1) i = true := by decide +kernel
theorem b_0 (i : Nat) : bt 0 i = false := BitVec.getLsbD_zero
theorem s_l : ∀ n, n < 32 → ((nI n &&& 31).toBitVec.smod 32).toNat = n := by decide +kernel
theorem s_u : ∀ n, n < 32 → (((nI n).toUInt32 &&& Int32.toUInt32 31).toBitVec % 32).toNat = n := by decide +kernel
theorem b_shl (n : Nat) (hn : n < 32) (x : Int32) {i : Nat} (hi : i < 32) : bt (x <<< (nI n &&& 31)) i = (decide (n ≤ i) && bt x (i - n)) := by
  unfold bt
  rw [Int32.toBitVec_shiftLeft]
  show (x.toBitVec <<< ((nI n &&& 31).toBitVec.smod 32).toNat).getLsbD i = _
  rw [s_l n hn, BitVec.getLsbD_shiftLeft]
  rcases Nat.lt_or_ge i n with h | h
  · simp [h, Nat.not_le.mpr h]
  · simp [hi, h, Nat.not_lt.mpr h]
theorem b_ushr (n : Nat) (hn : n < 32) (x : Int32) (i : Nat) : bt ((x.toUInt32 >>> ((nI n).toUInt32 &&& Int32.toUInt32 31)).toInt32) i = bt x (n + i) := by
  show (x.toUInt32 >>> ((nI n).toUInt32 &&& Int32.toUInt32 31)).toBitVec.getLsbD i = x.toUInt32.toBitVec.getLsbD (n + i)
  rw [UInt32.toBitVec_shiftRight]
  show (x.toUInt32.toBitVec >>> (((nI n).toUInt32 &&& Int32.toUInt32 31).toBitVec % 32).toNat).getLsbD i = _
  rw [s_u n hn, BitVec.getLsbD_ushiftRight]
theorem b_sshr (n : Nat) (hn : n < 32) (x : Int32) {i : Nat} (hi : i < 32) : bt (x >>> (nI n &&& 31)) i = if n + i < 32 then bt x (n + i) else bt x 31 := by
  unfold bt
  rw [Int32.toBitVec_shiftRight]
  show (x.toBitVec.sshiftRight ((nI n &&& 31).toBitVec.smod 32).toNat).getLsbD i = _
  rw [s_l n hn, BitVec.getLsbD_sshiftRight, BitVec.msb_eq_getLsbD_last]
  simp [hi]
theorem b_shl8 (x : Int32) {i : Nat} (hi : i < 32) : bt (x <<< ((8 : Int32) &&& 31)) i = (decide (8 ≤ i) && bt x (i - 8)) := b_shl 8 (by omega) x hi
theorem b_shl16 (x : Int32) {i : Nat} (hi : i < 32) : bt (x <<< ((16 : Int32) &&& 31)) i = (decide (16 ≤ i) && bt x (i - 16)) := b_shl 16 (by omega) x hi
theorem b_shl24 (x : Int32) {i : Nat} (hi : i < 32) : bt (x <<< ((24 : Int32) &&& 31)) i = (decide (24 ≤ i) && bt x (i - 24)) := b_shl 24 (by omega) x hi
theorem b_sshr8 (x : Int32) {i : Nat} (hi : i < 32) : bt (x >>> ((8 : Int32) &&& 31)) i = if 8 + i < 32 then bt x (8 + i) else bt x 31 := b_sshr 8 (by omega) x hi
theorem fb_rng (x : Int32) : -2147483648 ≤ x.toInt ∧ x.toInt < 2147483648 := by
  have h1 := Int32.le_toInt x
  have h2 := Int32.toInt_lt x
  omega
theorem fb_bmod {z : Int} (h1 : -2147483648 ≤ z) (h2 : z < 2147483648) : z.bmod (2 ^ 32) = z := by
  rw [Int.bmod_eq_of_le (by omega) (by omega)]
theorem fb_addI {x y : Int32} (h1 : -2147483648 ≤ x.toInt + y.toInt) (h2 : x.toInt + y.toInt < 2147483648) : (x + y).toInt = x.toInt + y.toInt := by
  rw [Int32.toInt_add, fb_bmod h1 h2]
theorem fb_subI {x y : Int32} (h1 : -2147483648 ≤ x.toInt - y.toInt) (h2 : x.toInt - y.toInt < 2147483648) : (x - y).toInt = x.toInt - y.toInt := by
  rw [Int32.toInt_sub, fb_bmod h1 h2]
theorem fb_mulI {x y : Int32} (h1 : -2147483648 ≤ x.toInt * y.toInt) (h2 : x.toInt * y.toInt < 2147483648) : (x * y).toInt = x.toInt * y.toInt := by
  rw [Int32.toInt_mul, fb_bmod h1 h2]
theorem fb_negI {x : Int32} (h : x.toInt ≠ -2147483648) : (-x).toInt = -x.toInt := by
  have := fb_rng x
  rw [Int32.toInt_neg, fb_bmod (by omega) (by omega)]
theorem fb_ofI {z : Int} (h1 : -2147483648 ≤ z) (h2 : z < 2147483648) : (Int32.ofInt z).toInt = z := by
  rw [Int32.toInt_ofInt, fb_bmod h1 h2]
theorem fb_asI (x : Int32) : Int32.ofInt x.toInt = x := Int32.ofInt_toInt x
/-! ===== ours: ints as numbers ===== -/
def bI (b : Bool) : Int32 := if b = true then 1 else 0
theorem bI_t : bI true = nI 1 := rfl
theorem bI_f : bI false = nI 0 := rfl
theorem bI_nar (b : Bool) : narrow .boolean (.int (bI b)) = .int (bI b) := by cases b <;> rfl
theorem bI_0 {b : Bool} : bI b = 0 ↔ b = false := by cases b <;> decide
def zI (z : Int) : Int32 := Int32.ofInt z
theorem zI_n (n : Nat) : zI (n : Int) = nI n := Int32.ofInt_eq_ofNat
theorem zI_toInt {z : Int} (h1 : -2147483648 ≤ z) (h2 : z < 2147483648) : (zI z).toInt = z := fb_ofI h1 h2
theorem zI_as (x : Int32) : zI x.toInt = x := Int32.ofInt_toInt x
theorem zI_add (a b : Int) : zI a + zI b = zI (a + b) := (Int32.ofInt_add a b).symm
theorem zI_sub (a b : Int) : zI a - zI b = zI (a - b) := (Int32.ofInt_sub a b).symm
theorem bt_nI (n : Nat) {i : Nat} (hi : i < 32) : bt (nI n) i = n.testBit i := by
  unfold bt nI
  rw [show (Int32.ofNat n).toBitVec = BitVec.ofNat 32 n from rfl, BitVec.getLsbD_ofNat, decide_eq_true hi, Bool.true_and]
theorem ni_and (a b : Nat) : nI a &&& nI b = nI (a &&& b) := b_ext fun i hi => by rw [b_and, bt_nI _ hi, bt_nI _ hi, bt_nI _ hi, Nat.testBit_and]
theorem ni_or (a b : Nat) : nI a ||| nI b = nI (a ||| b) := b_ext fun i hi => by rw [b_or, bt_nI _ hi, bt_nI _ hi, bt_nI _ hi, Nat.testBit_or]
theorem ni_xor (a b : Nat) : nI a ^^^ nI b = nI (a ^^^ b) := b_ext fun i hi => by rw [b_xor, bt_nI _ hi, bt_nI _ hi, bt_nI _ hi, Nat.testBit_xor]
theorem ni_sd (a b : Nat) : nI a &&& (nI b ^^^ (-1)) = nI (ms_sd a b) := b_ext fun i hi => by rw [b_and, b_xor, b_m1 i hi, bt_nI _ hi, bt_nI _ hi, bt_nI _ hi, ms_sd_bit, Bool.xor_true]
theorem ni_shl (a : Nat) {k : Nat} (hk : k < 32) : nI a <<< (nI k &&& 31) = nI (a * 2 ^ k) := b_ext fun i hi => by
  rw [b_shl k hk _ hi, bt_nI _ hi, bt_nI _ (show i - k < 32 by omega), Nat.testBit_mul_two_pow]
theorem ni_bit {k : Nat} (hk : k < 32) : nI 1 <<< (nI k &&& 31) = nI (2 ^ k) := by rw [ni_shl 1 hk, Nat.one_mul]
theorem ni_ushr {a k : Nat} (ha : a < 2 ^ 32) (hk : k < 32) : ((nI a).toUInt32 >>> ((nI k).toUInt32 &&& Int32.toUInt32 31)).toInt32 = nI (a / 2 ^ k) := b_ext fun i hi => by
  rw [b_ushr k hk, bt_nI _ hi, Nat.testBit_div_two_pow]
  rcases Nat.lt_or_ge (k + i) 32 with h | h
  · rw [bt_nI _ h, Nat.add_comm]
  · rw [b_big h, Nat.add_comm, Nat.testBit_lt_two_pow (Nat.lt_of_lt_of_le ha (Nat.pow_le_pow_right (by decide) h))]
theorem ni_sshr {a k : Nat} (ha : a < 2 ^ 31) (hk : k < 32) : nI a >>> (nI k &&& 31) = nI (a / 2 ^ k) := b_ext fun i hi => by
  rw [b_sshr k hk _ hi, bt_nI _ hi, Nat.testBit_div_two_pow]
  rcases Nat.lt_or_ge (k + i) 32 with h | h
  · rw [if_pos h, bt_nI _ h, Nat.add_comm]
  · rw [if_neg (by omega), bt_nI _ (by decide), Nat.add_comm, Nat.testBit_lt_two_pow ha, Nat.testBit_lt_two_pow (Nat.lt_of_lt_of_le ha (Nat.pow_le_pow_right (by decide) (by omega)))]
theorem ni_in (s e : Nat) : nI (s / 2 ^ e &&& 1) = bI (s.testBit e) := by
  rw [Nat.testBit_eq_decide_div_mod_eq, show s / 2 ^ e &&& 1 = s / 2 ^ e % 2 from Nat.and_two_pow_sub_one_eq_mod _ 1]
  rcases Nat.mod_two_eq_zero_or_one (s / 2 ^ e) with h | h <;> rw [h] <;> decide
theorem ni_inc (k : Nat) : nI k + Int32.ofInt 1 = nI (k + 1) := nI_1 k
theorem ni_sub {a b : Nat} (h : b ≤ a) : nI a - nI b = nI (a - b) := (Int32.ofNat_sub a b h).symm
theorem ni_mul (a b : Nat) : nI a * nI b = nI (a * b) := (Int32.ofNat_mul a b).symm
theorem ni_subz (a b : Nat) : nI a - nI b = zI ((a : Int) - (b : Int)) := by rw [← zI_n, ← zI_n, zI_sub]
/-- an int that is one of the first n numbers -/
def isN (x : Int32) (n : Nat) : Bool := decide (0 ≤ x.toInt ∧ x.toInt < (n : Int))
theorem isN_of {x : Int32} {n : Nat} (h : isN x n = true) : ∃ k : Nat, k < n ∧ x = nI k := by
  obtain ⟨h1, h2⟩ := of_decide_eq_true h
  refine ⟨x.toInt.toNat, by omega, ?_⟩
  rw [← zI_n, Int.toNat_of_nonneg h1, zI_as]
theorem isN_nI {k n : Nat} (hk : k < 2 ^ 31) : isN (nI k) n = decide (k < n) := by
  unfold isN
  rw [nI_toInt hk]
  apply decide_eq_decide.mpr
  omega
def isW (x : Int32) : Bool := decide (-9999 ≤ x.toInt ∧ x.toInt ≤ 9999)
theorem isW_of {x : Int32} (h : isW x = true) : ∃ z : Int, -9999 ≤ z ∧ z ≤ 9999 ∧ x = zI z := by
  obtain ⟨h1, h2⟩ := of_decide_eq_true h
  exact ⟨x.toInt, h1, h2, (zI_as x).symm⟩
theorem zI_le {a b : Int} (a1 : -2147483648 ≤ a) (a2 : a < 2147483648) (b1 : -2147483648 ≤ b) (b2 : b < 2147483648) : zI a ≤ zI b ↔ a ≤ b := by
  rw [Int32.le_iff_toInt_le, zI_toInt a1 a2, zI_toInt b1 b2]
theorem zI_lt {a b : Int} (a1 : -2147483648 ≤ a) (a2 : a < 2147483648) (b1 : -2147483648 ≤ b) (b2 : b < 2147483648) : zI a < zI b ↔ a < b := by
  rw [Int32.lt_iff_toInt_lt, zI_toInt a1 a2, zI_toInt b1 b2]
theorem zI_eq {a b : Int} (a1 : -2147483648 ≤ a) (a2 : a < 2147483648) (b1 : -2147483648 ≤ b) (b2 : b < 2147483648) : zI a = zI b ↔ a = b :=
  ⟨fun h => by rw [← zI_toInt a1 a2, h, zI_toInt b1 b2], fun h => by rw [h]⟩
/-! rows of eight small numbers in one int -/
def upN (f : Nat → Nat) (p x : Nat) : Nat → Nat := fun v => if v = p then x else f v
def pkN : Nat → (Nat → Nat) → Nat
  | 0, _ => 0
  | n + 1, f => 2 ^ (4 * n) * f n + pkN n f
def pk (f : Nat → Nat) : Nat := pkN 8 f
theorem pkN_lt {n : Nat} {f : Nat → Nat} (h : ∀ v, v < n → f v < 16) : pkN n f < 2 ^ (4 * n) := by
  induction n with
  | zero => exact Nat.zero_lt_one
  | succ n ih =>
    have h1 := ih (fun v hv => h v (by omega))
    have h2 := h n (by omega)
    have h3 : 2 ^ (4 * (n + 1)) = 2 ^ (4 * n) * 16 := by rw [show 4 * (n + 1) = 4 * n + 4 by omega, Nat.pow_add]
    simp only [pkN]
    rw [h3]
    have h4 : 2 ^ (4 * n) * f n ≤ 2 ^ (4 * n) * 15 := Nat.mul_le_mul_left _ (by omega)
    omega
theorem pkN_bit {n : Nat} {f : Nat → Nat} (h : ∀ v, v < n → f v < 16) (j : Nat) : (pkN n f).testBit j = (decide (j < 4 * n) && (f (j / 4)).testBit (j % 4)) := by
  induction n with
  | zero => simp [pkN]
  | succ n ih =>
    simp only [pkN]
    rw [Nat.testBit_two_pow_mul_add _ (pkN_lt (fun v hv => h v (by omega))), ih (fun v hv => h v (by omega))]
    by_cases hj : j < 4 * n
    · rw [if_pos hj, decide_eq_true hj, decide_eq_true (show j < 4 * (n + 1) by omega)]
    · rw [if_neg hj]
      by_cases hj2 : j < 4 * (n + 1)
      · rw [decide_eq_true hj2, show j / 4 = n by omega, show j % 4 = j - 4 * n by omega, Bool.true_and]
      · rw [decide_eq_false hj2, Bool.false_and]
        have h2 := h n (by omega)
        exact Nat.testBit_lt_two_pow (Nat.lt_of_lt_of_le h2 (Nat.pow_le_pow_right (n := 2) (i := 4) (by decide) (by omega)))
theorem pkr_lt {f : Nat → Nat} (h : ∀ v, v < 8 → f v < 16) : pk f < 2 ^ 32 := pkN_lt h
theorem pk_cell {f : Nat → Nat} (h : ∀ v, v < 8 → f v < 16) {p : Nat} (hp : p < 8) : pk f / 2 ^ (4 * p) &&& 15 = f p := by
  apply Nat.eq_of_testBit_eq
  intro i
  rw [Nat.testBit_and, Nat.testBit_div_two_pow, show (15 : Nat) = 2 ^ 4 - 1 from rfl, Nat.testBit_two_pow_sub_one]
  unfold pk
  rw [pkN_bit h]
  by_cases hi : i < 4
  · rw [decide_eq_true hi, decide_eq_true (show i + 4 * p < 4 * 8 by omega), show (i + 4 * p) / 4 = p by omega, show (i + 4 * p) % 4 = i by omega, Bool.true_and, Bool.and_true]
  · rw [decide_eq_false hi, Bool.and_false]
    exact (Nat.testBit_lt_two_pow (Nat.lt_of_lt_of_le (h p hp) (Nat.pow_le_pow_right (n := 2) (i := 4) (by decide) (by omega)))).symm
theorem upN_lt {f : Nat → Nat} {p x n b : Nat} (h : ∀ v, v < n → f v < b) (hx : x < b) : ∀ v, v < n → upN f p x v < b := fun v hv => by
  unfold upN
  split
  · exact hx
  · exact h v hv
theorem pk_with {f : Nat → Nat} (h : ∀ v, v < 8 → f v < 16) {p x : Nat} (hp : p < 8) (hx : x < 16) : ms_sd (pk f) (15 * 2 ^ (4 * p)) ||| x * 2 ^ (4 * p) = pk (upN f p x) := by
  apply Nat.eq_of_testBit_eq
  intro j
  unfold pk
  rw [Nat.testBit_or, ms_sd_bit, Nat.testBit_mul_two_pow, Nat.testBit_mul_two_pow, show (15 : Nat) = 2 ^ 4 - 1 from rfl, Nat.testBit_two_pow_sub_one, pkN_bit h, pkN_bit (upN_lt h hx)]
  unfold upN
  by_cases hj : j / 4 = p
  · rw [if_pos hj, decide_eq_true (show 4 * p ≤ j by omega), decide_eq_true (show j - 4 * p < 4 by omega), decide_eq_true (show j < 4 * 8 by omega), show j % 4 = j - 4 * p by omega]
    simp
  · rw [if_neg hj]
    by_cases h1 : 4 * p ≤ j
    · rw [decide_eq_true h1, decide_eq_false (show ¬ j - 4 * p < 4 by omega)]
      have h2 : x.testBit (j - 4 * p) = false := Nat.testBit_lt_two_pow (Nat.lt_of_lt_of_le hx (Nat.pow_le_pow_right (n := 2) (i := 4) (by decide) (by omega)))
      rw [h2]
      simp
    · rw [decide_eq_false h1]
      simp
theorem pk_congr {f g : Nat → Nat} (h : ∀ v, v < 8 → f v = g v) : pk f = pk g := by
  unfold pk
  have key : ∀ n, n ≤ 8 → pkN n f = pkN n g := by
    intro n
    induction n with
    | zero => intro _; rfl
    | succ n ih =>
      intro hn
      simp only [pkN]
      rw [ih (by omega), h n (by omega)]
  exact key 8 (Nat.le_refl 8)
theorem ni_cell {f : Nat → Nat} (h : ∀ v, v < 8 → f v < 16) {p : Nat} (hp : p < 8) : ((nI (pk f)).toUInt32 >>> ((nI (4 * p)).toUInt32 &&& Int32.toUInt32 31)).toInt32 &&& nI 15 = nI (f p) := by
  rw [ni_ushr (pkr_lt h) (by omega), ni_and, pk_cell h hp]
theorem ni_with {f : Nat → Nat} (h : ∀ v, v < 8 → f v < 16) {p x : Nat} (hp : p < 8) (hx : x < 16) : (nI (pk f) &&& ((nI 15 <<< (nI (4 * p) &&& 31)) ^^^ (-1))) ||| (nI x <<< (nI (4 * p) &&& 31)) = nI (pk (upN f p x)) := by
  rw [ni_shl 15 (by omega), ni_shl x (by omega), ni_sd, ni_or, pk_with h hp hx]
end
section
/-! what the tables say at any state of a run -/
def nw_ws : List Cond := [.methodLinkNest RX0 46 yX5_within RX5, .methodLinkNest RX0 54 yX5_withCell RX5, .methodLinkNest RX0 58 yX5_cell RX5, .methodLinkNest RX2 23 yX5_hasBit RX5, .methodLinkNest RX3 23 yX5_hasBit RX5, .methodLinkNest RX4 38 yX5_within RX5, .declares ⟨"ColourForests$Kind", "rankOf", "(I)I"⟩]
def NW (U : State) : Prop := ∀ w ∈ nw_ws, va_Nw w U
theorem NW_warm {s U : State} (hW : s.WarmedH U.vm) (h : NW s) : NW U := by
  intro w hw
  have h9 := h w hw
  simp only [nw_ws, List.mem_cons, List.not_mem_nil, or_false] at hw
  rcases hw with rfl | rfl | rfl | rfl | rfl | rfl | rfl <;> first | exact va_Nw.warmM hW h9 | exact va_Nw.warmD hW h9
theorem NW_same {u U : State} (hvm : u.vm = U.vm) (h : NW u) : NW U := by
  intro w hw
  have h9 := h w hw
  simp only [nw_ws, List.mem_cons, List.not_mem_nil, or_false] at hw
  rcases hw with rfl | rfl | rfl | rfl | rfl | rfl | rfl <;> exact va_Nw.same rfl hvm h9
abbrev TY (cy : Nat → ClassId) : List (ClassId × FieldType) := [(cy 0, .int), (cy 1, .boolean), (cy 2, .long)]
def KN (D : va_G) (cy : Nat → ClassId) (U : State) : Prop := va_K D vwCl (TY cy) U ∧ NW U
theorem KN_warm {D : va_G} {cy : Nat → ClassId} {s U : State} (hW : s.WarmedH U.vm) (h : KN D cy s) : KN D cy U := ⟨va_K.moved hW.alike h.1, NW_warm hW h.2⟩
theorem KN_call {D : va_G} {cy : Nat → ClassId} {U : State} {g : JFrame} {mk : MethodId} {a : Array Value} (h : KN D cy U) : KN D cy (U.calling g mk a) := ⟨va_K.moved (u := U) (U := U.calling g mk a) (Vm.Alike.refl U.vm) h.1, NW_same (u := U) (U := U.calling g mk a) rfl h.2⟩
/-! contracts: a method that only reads; a method that writes in its world -/
def PU (l : Launch) (y : MethodName) (ws : List Cond) (rm : Room) (D : va_G) (cy : Nat → ClassId) (av : List Value) (w0 : va_W) (r : Int32) : Prop :=
  Met l y ws rm (va_Pc av (fun U => KN D cy U ∧ va_P D vwCl w0 U.heap)) (va_Qi (fun (x : Int32) (_ : Unit) => x = r) (fun _ _ => True) (fun _ => False)) 0 0 (fun _ => False)
def inW (w : va_W) (q : Nat) : Prop := q ∈ w.map Prod.fst
def WV {S : Type} (l : Launch) (y : MethodName) (ws : List Cond) (rm : Room) (D : va_G) (cy : Nat → ClassId) (av : List Value) (w0 : va_W) (post : S → Prop) (w1 : S → va_W) : Prop :=
  Met l y ws rm (va_Pc av (fun U => (KN D cy U ∧ va_P D vwCl w0 U.heap) ∧ va_D (fun _ => True) w0)) (va_Qv post (fun u t => va_P D vwCl (w1 u) t.heap) (inW w0)) 0 0 (inW w0)
def WI {S : Type} (l : Launch) (y : MethodName) (ws : List Cond) (rm : Room) (D : va_G) (cy : Nat → ClassId) (av : List Value) (w0 : va_W) (post : Int32 → S → Prop) (w1 : S → va_W) : Prop :=
  Met l y ws rm (va_Pc av (fun U => (KN D cy U ∧ va_P D vwCl w0 U.heap) ∧ va_D (fun _ => True) w0)) (va_Qi post (fun u t => va_P D vwCl (w1 u) t.heap) (inW w0)) 0 0 (inW w0)
theorem PU_blind {D : va_G} {cy : Nat → ClassId} {av : List Value} {w0 : va_W} : FrameBlind (va_Pc av (fun U => KN D cy U ∧ va_P D vwCl w0 U.heap)) := fun _ _ _ _ q => ⟨q.1, KN_call q.2.1, q.2.2⟩
theorem PU_preV {D : va_G} {cy : Nat → ClassId} {s : State} {H : Heap} {b : Addr} {As : List Value} {ws w0 : va_W} {ci q0 : Nat} {q : vw_C} {fs : List Value} (hK : KN D cy s) (hP : va_P D vwCl ws H) (q0' : Nat := q0) (hc : vwCl[ci]? = some q) (he : ws[q0]? = some (b, .inr (ci, fs))) (is : List Nat) (hs : is.filterMap (fun i => ws[i]?) = w0) :
    PreV s H q.1 b (va_Pc (.ref b :: As) (fun U => KN D cy U ∧ va_P D vwCl w0 U.heap)) As :=
  ⟨PU_blind, va_recv hK.1 hP hc he, fun _ hU hW => ⟨rfl, KN_warm hW hK, by rw [hU]; exact hP.sub is hs⟩⟩
theorem PU_preS {D : va_G} {cy : Nat → ClassId} {s : State} {H : Heap} {As : List Value} {ws w0 : va_W} (hK : KN D cy s) (hP : va_P D vwCl ws H) (is : List Nat) (hs : is.filterMap (fun i => ws[i]?) = w0) :
    PreS s H (va_Pc As (fun U => KN D cy U ∧ va_P D vwCl w0 U.heap)) As :=
  ⟨PU_blind, fun _ hU hW => ⟨rfl, KN_warm hW hK, by rw [hU]; exact hP.sub is hs⟩⟩
theorem WR_blind {D : va_G} {cy : Nat → ClassId} {av : List Value} {w0 : va_W} : FrameBlind (va_Pc av (fun U => (KN D cy U ∧ va_P D vwCl w0 U.heap) ∧ va_D (fun _ => True) w0)) := fun _ _ _ _ q => ⟨q.1, ⟨KN_call q.2.1.1, q.2.1.2⟩, q.2.2⟩
theorem WR_preV {D : va_G} {cy : Nat → ClassId} {s : State} {H : Heap} {A : Nat → Prop} {b : Addr} {As : List Value} {ws w0 : va_W} {ci q0 : Nat} {q : vw_C} {fs : List Value} (hK : KN D cy s) (hP : va_P D vwCl ws H) (hD : va_D A ws) (hc : vwCl[ci]? = some q) (he : ws[q0]? = some (b, .inr (ci, fs))) (is : List Nat) (hn : va_nd is = true) (hs : is.map (fun i => ws[i]?) = w0.map some) (hs' : is.filterMap (fun i => ws[i]?) = w0) :
    PreV s H q.1 b (va_Pc (.ref b :: As) (fun U => (KN D cy U ∧ va_P D vwCl w0 U.heap) ∧ va_D (fun _ => True) w0)) As :=
  ⟨WR_blind, va_recv hK.1 hP hc he, fun _ hU hW => ⟨rfl, ⟨KN_warm hW hK, by rw [hU]; exact hP.sub is hs'⟩, (hD.sub is hn hs).weaken (fun _ _ _ _ => trivial)⟩⟩
theorem WR_preS {D : va_G} {cy : Nat → ClassId} {s : State} {H : Heap} {A : Nat → Prop} {As : List Value} {ws w0 : va_W} (hK : KN D cy s) (hP : va_P D vwCl ws H) (hD : va_D A ws) (is : List Nat) (hn : va_nd is = true) (hs : is.map (fun i => ws[i]?) = w0.map some) (hs' : is.filterMap (fun i => ws[i]?) = w0) :
    PreS s H (va_Pc As (fun U => (KN D cy U ∧ va_P D vwCl w0 U.heap) ∧ va_D (fun _ => True) w0)) As :=
  ⟨WR_blind, fun _ hU hW => ⟨rfl, ⟨KN_warm hW hK, by rw [hU]; exact hP.sub is hs'⟩, (hD.sub is hn hs).weaken (fun _ _ _ _ => trivial)⟩⟩
/-! what a callee changed, put back into the caller's world -/
def putW : va_W → List Nat → va_W → va_W
  | ws, i :: is, x :: xs => putW (ws.set i x) is xs
  | ws, _, _ => ws
theorem putW_at {D : va_G} {cl : List vw_C} {H1 : Heap} : ∀ (is : List Nat) (ws w1 : va_W), is.length = w1.length → (∀ q ∈ w1, va_at D cl q H1) → (∀ (k : Nat) (q : Nat × va_E), ws[k]? = some q → k ∈ is ∨ va_at D cl q H1) → va_P D cl (putW ws is w1) H1 := by
  intro is
  induction is with
  | nil =>
    intro ws w1 _ _ h3 k q hq
    have hq' : ws[k]? = some q := by cases w1 <;> exact hq
    rcases h3 k q hq' with h | h
    · cases h
    · exact h
  | cons i is ih =>
    intro ws w1 h1 h2 h3
    cases w1 with
    | nil => simp at h1
    | cons x xs =>
      refine ih (ws.set i x) xs (by simpa using h1) (fun q hq => h2 q (List.mem_cons_of_mem _ hq)) (fun k q hq => ?_)
      by_cases hk : i = k
      · subst hk
        rw [List.getElem?_set] at hq
        split at hq
        · split at hq
          · cases hq
            exact Or.inr (h2 x List.mem_cons_self)
          · cases hq
        · rename_i hne
          exact absurd rfl hne
      · rw [List.getElem?_set_ne hk] at hq
        rcases h3 k q hq with h | h
        · rcases List.mem_cons.mp h with e | e
          · exact absurd e.symm hk
          · exact Or.inl e
        · exact Or.inr h
theorem va_D_same {A : Nat → Prop} {ws ws' : va_W} (h : ws'.map Prod.fst = ws.map Prod.fst) (hD : va_D A ws) : va_D A ws' := by
  have key : ∀ (k : Nat) (q : Nat × va_E), ws'[k]? = some q → ∃ e, ws[k]? = some (q.1, e) := by
    intro k q hq
    have h1 : (ws'.map Prod.fst)[k]? = some q.1 := by rw [List.getElem?_map, hq]; rfl
    rw [h, List.getElem?_map] at h1
    cases hw : ws[k]? with
    | none => rw [hw] at h1; cases h1
    | some x =>
      rw [hw] at h1
      have h2 : x.1 = q.1 := Option.some.inj h1
      exact ⟨x.2, by rw [← h2]⟩
  refine ⟨fun i j a b ha hb hab => ?_, fun k q hk => ?_⟩
  · obtain ⟨e1, h1⟩ := key i a ha
    obtain ⟨e2, h2⟩ := key j b hb
    exact hD.1 i j _ _ h1 h2 hab
  · obtain ⟨e1, h1⟩ := key k q hk
    exact hD.2 k (q.1, e1) h1
theorem inW_of {w : va_W} {k : Nat} {q : Nat × va_E} (h : w[k]? = some q) : inW w q.1 := List.mem_map.mpr ⟨q, List.mem_of_getElem? h, rfl⟩
theorem inW_self {A : Nat → Prop} {w : va_W} (h : va_D A w) : va_D (inW w) w := ⟨h.1, fun _ _ hk => inW_of hk⟩
theorem inW_up {A0 : Nat → Prop} {ws w0 : va_W} (hD : va_D A0 ws) (is : List Nat) (hi : is.map (fun i => ws[i]?) = w0.map some) : ∀ q, inW w0 q → A0 q := by
  intro q hq
  obtain ⟨x, hx, rfl⟩ := List.mem_map.mp hq
  obtain ⟨k, hk, hk2⟩ := List.mem_iff_getElem.mp hx
  have h1 : (is.map (fun i => ws[i]?))[k]? = some (some x) := by rw [hi, List.getElem?_map, List.getElem?_eq_getElem hk, hk2]; rfl
  rw [List.getElem?_map] at h1
  cases hj : is[k]? with
  | none => rw [hj] at h1; cases h1
  | some i =>
    rw [hj] at h1
    exact hD.2 i x (Option.some.inj h1)
theorem putW_join {D : va_G} {A0 : Nat → Prop} {ws w0 w1 : va_W} {H H1 : Heap} (hP : va_P D vwCl ws H) (hD : va_D A0 ws) (is : List Nat) (hi : is.map (fun i => ws[i]?) = w0.map some) (hlen : is.length = w1.length) (hk : ∀ q : Nat, q < H.size → ¬ inW w0 q → H1[q]? = H[q]?) (hP1 : va_P D vwCl w1 H1) : va_P D vwCl (putW ws is w1) H1 := by
  refine putW_at is ws w1 hlen (fun q hq => ?_) (fun k q hq => ?_)
  · obtain ⟨j, hj, hj2⟩ := List.mem_iff_getElem.mp hq
    exact hP1 j q (by rw [List.getElem?_eq_getElem hj, hj2])
  · by_cases hm : k ∈ is
    · exact Or.inl hm
    · refine Or.inr ((hP k q hq).kept (hk q.1 (hP k q hq).lt fun hin => hm ?_))
      obtain ⟨x, hx, hx2⟩ := List.mem_map.mp hin
      obtain ⟨j, hj, hj2⟩ := List.mem_iff_getElem.mp hx
      have h1 : (is.map (fun i => ws[i]?))[j]? = some (some x) := by rw [hi, List.getElem?_map, List.getElem?_eq_getElem hj, hj2]; rfl
      rw [List.getElem?_map] at h1
      cases hz : is[j]? with
      | none => rw [hz] at h1; cases h1
      | some i =>
        rw [hz] at h1
        have h2 : ws[i]? = some x := Option.some.inj h1
        have h3 := hD.1 i k x q h2 hq hx2
        rw [← h3]
        exact List.mem_of_getElem? hz
section RW
variable {p : Program} {l : Launch} {e : Env} {R : Room} {s : State} {m : MethodId} {args : Array Value} {below : List Frame} {meth : Method} {c : Code} {H : Heap} {locs : List Loc} {cells slots : Nat} {Q : State → Prop} {cc : ByteArray} {pc : Nat} {ls : Array Slot} {rest st0 : List Value} {D : va_G} {cy : Nat → ClassId} {ws w0 : va_W} {A0 : Nat → Prop} {H0 : Heap} {av : Array Value}
theorem pu_call {r : Int32} (hr : va_Run p l e R s m args below meth c H locs cells slots 0 0 (F0 m pc ls st0) rest (va_Qi (fun (x : Int32) (_ : Unit) => x = r) (fun _ _ => True) (fun _ => False) av) (fun _ => False)) (hS : va_S A0 H0 H locs) (hP : va_P D vwCl ws H)
    (kk : ∀ (H1 : Heap) (locs1 : List Loc), va_P D vwCl ws H1 → va_S A0 H0 H1 locs1 → W p l e R s m args below meth c H1 locs1 cells slots Q (F0 m (pc + 3) ls (.int r :: rest))) : W p l e R s m args below meth c H locs cells slots Q (F0 m pc ls st0) :=
  va_calli hr hS (fun _ _ h => h.elim) (fun _ h => h.elim) (fun x _ _ H1 locs1 _ _ hw _ _ hk hS1 => by
    subst hw
    exact kk H1 locs1 (hP.kept fun k q hq => hk q.1 (hP k q hq).lt (fun h => h)) hS1)
theorem wr_callv {S : Type} {post : S → Prop} {w1 : S → va_W} (is : List Nat) (hr : va_Run p l e R s m args below meth c H locs cells slots 0 0 (F0 m pc ls st0) rest (va_Qv post (fun u t => va_P D vwCl (w1 u) t.heap) (inW w0) av) (inW w0)) (hS : va_S A0 H0 H locs) (hP : va_P D vwCl ws H) (hD : va_D A0 ws) (hi : is.map (fun i => ws[i]?) = w0.map some) (hlen : ∀ u, is.length = (w1 u).length) (hsame : ∀ u, (putW ws is (w1 u)).map Prod.fst = ws.map Prod.fst)
    (kk : ∀ (u : S) (H1 : Heap) (locs1 : List Loc), post u → va_P D vwCl (putW ws is (w1 u)) H1 → va_D A0 (putW ws is (w1 u)) → va_S A0 H0 H1 locs1 → W p l e R s m args below meth c H1 locs1 cells slots Q (F0 m (pc + 3) ls rest)) : W p l e R s m args below meth c H locs cells slots Q (F0 m pc ls st0) :=
  va_callv hr hS (fun q _ h => inW_up hD is hi q h) (inW_up hD is hi) (fun u t H1 locs1 ht _ hw hB _ hk hS1 => by
    rw [ht] at hB
    exact kk u H1 locs1 hw (putW_join hP hD is hi (hlen u) hk hB) (va_D_same (hsame u) hD) hS1)
theorem wr_calli {S : Type} {post : Int32 → S → Prop} {w1 : S → va_W} (is : List Nat) (hr : va_Run p l e R s m args below meth c H locs cells slots 0 0 (F0 m pc ls st0) rest (va_Qi post (fun u t => va_P D vwCl (w1 u) t.heap) (inW w0) av) (inW w0)) (hS : va_S A0 H0 H locs) (hP : va_P D vwCl ws H) (hD : va_D A0 ws) (hi : is.map (fun i => ws[i]?) = w0.map some) (hlen : ∀ u, is.length = (w1 u).length) (hsame : ∀ u, (putW ws is (w1 u)).map Prod.fst = ws.map Prod.fst)
    (kk : ∀ (r : Int32) (u : S) (H1 : Heap) (locs1 : List Loc), post r u → va_P D vwCl (putW ws is (w1 u)) H1 → va_D A0 (putW ws is (w1 u)) → va_S A0 H0 H1 locs1 → W p l e R s m args below meth c H1 locs1 cells slots Q (F0 m (pc + 3) ls (.int r :: rest))) : W p l e R s m args below meth c H locs cells slots Q (F0 m pc ls st0) :=
  va_calli hr hS (fun q _ h => inW_up hD is hi q h) (inW_up hD is hi) (fun r u t H1 locs1 ht _ hw hB _ hk hS1 => by
    rw [ht] at hB
    exact kk r u H1 locs1 hw (putW_join hP hD is hi (hlen u) hk hB) (va_D_same (hsame u) hD) hS1)
theorem lv_as {x y : Int32} (h : x = y) (k : W p l e R s m args below meth c H locs cells slots Q (F0 m pc ls (.int y :: rest))) : W p l e R s m args below meth c H locs cells slots Q (F0 m pc ls (.int x :: rest)) := by
  rw [h]
  exact k
theorem n_ge (hexec : p.tables.exec = Jvm.exec) (hb : c.code = cc) {a b : Nat} {off : Int} {tgt : Nat} (hdg : decode cc pc = .ok (.if_icmp .ge off, 3)) (ht : (pc : Int) + off = (tgt : Int)) (ha : a < 2 ^ 31) (hb2 : b < 2 ^ 31)
    (kt : b ≤ a → W p l e R s m args below meth c H locs cells slots Q (F0 m tgt ls rest)) (kf : a < b → W p l e R s m args below meth c H locs cells slots Q (F0 m (pc + 3) ls rest)) : W p l e R s m args below meth c H locs cells slots Q (F0 m pc ls (.int (nI b) :: .int (nI a) :: rest)) :=
  lv_icmp_ge hexec hb hdg ht (fun h => kt ((nI_leI hb2 ha).mp h)) (fun h => kf (Nat.lt_of_not_le fun q => h ((nI_leI hb2 ha).mpr q)))
theorem n_gt (hexec : p.tables.exec = Jvm.exec) (hb : c.code = cc) {a b : Nat} {off : Int} {tgt : Nat} (hdg : decode cc pc = .ok (.if_icmp .gt off, 3)) (ht : (pc : Int) + off = (tgt : Int)) (ha : a < 2 ^ 31) (hb2 : b < 2 ^ 31)
    (kt : b < a → W p l e R s m args below meth c H locs cells slots Q (F0 m tgt ls rest)) (kf : a ≤ b → W p l e R s m args below meth c H locs cells slots Q (F0 m (pc + 3) ls rest)) : W p l e R s m args below meth c H locs cells slots Q (F0 m pc ls (.int (nI b) :: .int (nI a) :: rest)) :=
  lv_icmp_gt hexec hb hdg ht (fun h => kt ((nI_ltI hb2 ha).mp h)) (fun h => kf (Nat.le_of_not_lt fun q => h ((nI_ltI hb2 ha).mpr q)))
theorem n_lt (hexec : p.tables.exec = Jvm.exec) (hb : c.code = cc) {a b : Nat} {off : Int} {tgt : Nat} (hdg : decode cc pc = .ok (.if_icmp .lt off, 3)) (ht : (pc : Int) + off = (tgt : Int)) (ha : a < 2 ^ 31) (hb2 : b < 2 ^ 31)
    (kt : a < b → W p l e R s m args below meth c H locs cells slots Q (F0 m tgt ls rest)) (kf : b ≤ a → W p l e R s m args below meth c H locs cells slots Q (F0 m (pc + 3) ls rest)) : W p l e R s m args below meth c H locs cells slots Q (F0 m pc ls (.int (nI b) :: .int (nI a) :: rest)) :=
  lv_icmp_lt hexec hb hdg ht (fun h => kt ((nI_ltI ha hb2).mp h)) (fun h => kf (Nat.le_of_not_lt fun q => h ((nI_ltI ha hb2).mpr q)))
theorem n_le (hexec : p.tables.exec = Jvm.exec) (hb : c.code = cc) {a b : Nat} {off : Int} {tgt : Nat} (hdg : decode cc pc = .ok (.if_icmp .le off, 3)) (ht : (pc : Int) + off = (tgt : Int)) (ha : a < 2 ^ 31) (hb2 : b < 2 ^ 31)
    (kt : a ≤ b → W p l e R s m args below meth c H locs cells slots Q (F0 m tgt ls rest)) (kf : b < a → W p l e R s m args below meth c H locs cells slots Q (F0 m (pc + 3) ls rest)) : W p l e R s m args below meth c H locs cells slots Q (F0 m pc ls (.int (nI b) :: .int (nI a) :: rest)) :=
  lv_icmp_le hexec hb hdg ht (fun h => kt ((nI_leI ha hb2).mp h)) (fun h => kf (Nat.lt_of_not_le fun q => h ((nI_leI ha hb2).mpr q)))
theorem n_eq (hexec : p.tables.exec = Jvm.exec) (hb : c.code = cc) {a b : Nat} {off : Int} {tgt : Nat} (hdg : decode cc pc = .ok (.if_icmp .eq off, 3)) (ht : (pc : Int) + off = (tgt : Int)) (ha : a < 2 ^ 31) (hb2 : b < 2 ^ 31)
    (kt : a = b → W p l e R s m args below meth c H locs cells slots Q (F0 m tgt ls rest)) (kf : ¬ a = b → W p l e R s m args below meth c H locs cells slots Q (F0 m (pc + 3) ls rest)) : W p l e R s m args below meth c H locs cells slots Q (F0 m pc ls (.int (nI b) :: .int (nI a) :: rest)) :=
  lv_icmp_eq hexec hb hdg ht (fun h => kt ((nI_eq ha hb2).mp h)) (fun h => kf (fun q => h ((nI_eq ha hb2).mpr q)))
theorem n_ne (hexec : p.tables.exec = Jvm.exec) (hb : c.code = cc) {a b : Nat} {off : Int} {tgt : Nat} (hdg : decode cc pc = .ok (.if_icmp .ne off, 3)) (ht : (pc : Int) + off = (tgt : Int)) (ha : a < 2 ^ 31) (hb2 : b < 2 ^ 31)
    (kt : ¬ a = b → W p l e R s m args below meth c H locs cells slots Q (F0 m tgt ls rest)) (kf : a = b → W p l e R s m args below meth c H locs cells slots Q (F0 m (pc + 3) ls rest)) : W p l e R s m args below meth c H locs cells slots Q (F0 m pc ls (.int (nI b) :: .int (nI a) :: rest)) :=
  lv_icmp_ne hexec hb hdg ht (fun h => kt (fun q => h ((nI_eq ha hb2).mpr q))) (fun h => kf ((nI_eq ha hb2).mp h))
def zOK (z : Int) : Prop := -2147483648 ≤ z ∧ z < 2147483648
theorem z_ge (hexec : p.tables.exec = Jvm.exec) (hb : c.code = cc) {a b : Int} {off : Int} {tgt : Nat} (hdg : decode cc pc = .ok (.if_icmp .ge off, 3)) (ht : (pc : Int) + off = (tgt : Int)) (ha : zOK a) (hb2 : zOK b)
    (kt : b ≤ a → W p l e R s m args below meth c H locs cells slots Q (F0 m tgt ls rest)) (kf : a < b → W p l e R s m args below meth c H locs cells slots Q (F0 m (pc + 3) ls rest)) : W p l e R s m args below meth c H locs cells slots Q (F0 m pc ls (.int (zI b) :: .int (zI a) :: rest)) :=
  lv_icmp_ge hexec hb hdg ht (fun h => kt ((zI_le hb2.1 hb2.2 ha.1 ha.2).mp h)) (fun h => kf (Int.not_le.mp fun q => h ((zI_le hb2.1 hb2.2 ha.1 ha.2).mpr q)))
theorem z_gt (hexec : p.tables.exec = Jvm.exec) (hb : c.code = cc) {a b : Int} {off : Int} {tgt : Nat} (hdg : decode cc pc = .ok (.if_icmp .gt off, 3)) (ht : (pc : Int) + off = (tgt : Int)) (ha : zOK a) (hb2 : zOK b)
    (kt : b < a → W p l e R s m args below meth c H locs cells slots Q (F0 m tgt ls rest)) (kf : a ≤ b → W p l e R s m args below meth c H locs cells slots Q (F0 m (pc + 3) ls rest)) : W p l e R s m args below meth c H locs cells slots Q (F0 m pc ls (.int (zI b) :: .int (zI a) :: rest)) :=
  lv_icmp_gt hexec hb hdg ht (fun h => kt ((zI_lt hb2.1 hb2.2 ha.1 ha.2).mp h)) (fun h => kf (Int.not_lt.mp fun q => h ((zI_lt hb2.1 hb2.2 ha.1 ha.2).mpr q)))
theorem z_lt (hexec : p.tables.exec = Jvm.exec) (hb : c.code = cc) {a b : Int} {off : Int} {tgt : Nat} (hdg : decode cc pc = .ok (.if_icmp .lt off, 3)) (ht : (pc : Int) + off = (tgt : Int)) (ha : zOK a) (hb2 : zOK b)
    (kt : a < b → W p l e R s m args below meth c H locs cells slots Q (F0 m tgt ls rest)) (kf : b ≤ a → W p l e R s m args below meth c H locs cells slots Q (F0 m (pc + 3) ls rest)) : W p l e R s m args below meth c H locs cells slots Q (F0 m pc ls (.int (zI b) :: .int (zI a) :: rest)) :=
  lv_icmp_lt hexec hb hdg ht (fun h => kt ((zI_lt ha.1 ha.2 hb2.1 hb2.2).mp h)) (fun h => kf (Int.not_lt.mp fun q => h ((zI_lt ha.1 ha.2 hb2.1 hb2.2).mpr q)))
theorem z_le (hexec : p.tables.exec = Jvm.exec) (hb : c.code = cc) {a b : Int} {off : Int} {tgt : Nat} (hdg : decode cc pc = .ok (.if_icmp .le off, 3)) (ht : (pc : Int) + off = (tgt : Int)) (ha : zOK a) (hb2 : zOK b)
    (kt : a ≤ b → W p l e R s m args below meth c H locs cells slots Q (F0 m tgt ls rest)) (kf : b < a → W p l e R s m args below meth c H locs cells slots Q (F0 m (pc + 3) ls rest)) : W p l e R s m args below meth c H locs cells slots Q (F0 m pc ls (.int (zI b) :: .int (zI a) :: rest)) :=
  lv_icmp_le hexec hb hdg ht (fun h => kt ((zI_le ha.1 ha.2 hb2.1 hb2.2).mp h)) (fun h => kf (Int.not_le.mp fun q => h ((zI_le ha.1 ha.2 hb2.1 hb2.2).mpr q)))
theorem b_eq (hexec : p.tables.exec = Jvm.exec) (hb : c.code = cc) {b : Bool} {off : Int} {tgt : Nat} (hdg : decode cc pc = .ok (.ifCond .eq off, 3)) (ht : (pc : Int) + off = (tgt : Int))
    (kt : b = false → W p l e R s m args below meth c H locs cells slots Q (F0 m tgt ls rest)) (kf : b = true → W p l e R s m args below meth c H locs cells slots Q (F0 m (pc + 3) ls rest)) : W p l e R s m args below meth c H locs cells slots Q (F0 m pc ls (.int (bI b) :: rest)) :=
  lv_if_eq hexec hb hdg ht (fun h => kt (bI_0.mp h)) (fun h => kf (by cases b; exact absurd rfl h; rfl))
theorem b_ne (hexec : p.tables.exec = Jvm.exec) (hb : c.code = cc) {b : Bool} {off : Int} {tgt : Nat} (hdg : decode cc pc = .ok (.ifCond .ne off, 3)) (ht : (pc : Int) + off = (tgt : Int))
    (kt : b = true → W p l e R s m args below meth c H locs cells slots Q (F0 m tgt ls rest)) (kf : b = false → W p l e R s m args below meth c H locs cells slots Q (F0 m (pc + 3) ls rest)) : W p l e R s m args below meth c H locs cells slots Q (F0 m pc ls (.int (bI b) :: rest)) :=
  lv_if_ne hexec hb hdg ht (fun h => kt (by cases b; exact absurd rfl h; rfl)) (fun h => kf (bI_0.mp h))
theorem rd_i {a : Addr} (hexec : p.tables.exec = Jvm.exec) (hb : c.code = cc) (hK : KN D cy s) (hP : va_P D vwCl ws H) (q0 : Nat) {n : Nat} {f : Nat → Int32} (ha : ws[q0]? = some (a, .inl (cy 0, n, .inl f))) {k : Nat} {v : Int32} (hk : k < n) (hn : n < 2 ^ 31) (hv : f k = v) (hdg : decode cc pc = .ok (.iaload, 1))
    (kk : W p l e R s m args below meth c H locs cells slots Q (F0 m (pc + 1) ls (.int v :: rest))) : W p l e R s m args below meth c H locs cells slots Q (F0 m pc ls (.int (nI k) :: .ref a :: rest)) :=
  va_iald hexec hb hK.1 hP q0 0 ha rfl (vp_in_nI hk hn) hdg (by rw [nI_clamp (Nat.lt_trans hk hn), hv]; exact kk)
theorem rd_z {a : Addr} (hexec : p.tables.exec = Jvm.exec) (hb : c.code = cc) (hK : KN D cy s) (hP : va_P D vwCl ws H) (q0 : Nat) {n : Nat} {f : Nat → Int32} (ha : ws[q0]? = some (a, .inl (cy 1, n, .inl f))) {k : Nat} {v : Int32} (hk : k < n) (hn : n < 2 ^ 31) (hv : f k = v) (hdg : decode cc pc = .ok (.baload, 1))
    (kk : W p l e R s m args below meth c H locs cells slots Q (F0 m (pc + 1) ls (.int v :: rest))) : W p l e R s m args below meth c H locs cells slots Q (F0 m pc ls (.int (nI k) :: .ref a :: rest)) :=
  va_zald hexec hb hK.1 hP q0 1 ha rfl (vp_in_nI hk hn) hdg (by rw [nI_clamp (Nat.lt_trans hk hn), hv]; exact kk)
theorem st_i {a : Addr} (hexec : p.tables.exec = Jvm.exec) (hb : c.code = cc) (hK : KN D cy s) (hP : va_P D vwCl ws H) (hD : va_D A0 ws) (hS : va_S A0 H0 H locs) (q0 : Nat) {n : Nat} {f g : Nat → Int32} (ha : ws[q0]? = some (a, .inl (cy 0, n, .inl f))) {k : Nat} {x : Int32} (hk : k < n) (hn : n < 2 ^ 31) (hg : upd f k x = g) (hdg : decode cc pc = .ok (.iastore, 1))
    (kk : ∀ (H1 : Heap) (locs1 : List Loc), va_P D vwCl (ws.set q0 (a, .inl (cy 0, n, .inl g))) H1 → va_D A0 (ws.set q0 (a, .inl (cy 0, n, .inl g))) → va_S A0 H0 H1 locs1 → W p l e R s m args below meth c H1 locs1 cells slots Q (F0 m (pc + 1) ls rest)) : W p l e R s m args below meth c H locs cells slots Q (F0 m pc ls (.int x :: .int (nI k) :: .ref a :: rest)) :=
  va_iast hexec hb hK.1 hP hD hS q0 0 ha rfl (vp_in_nI hk hn) hdg (by rw [nI_clamp (Nat.lt_trans hk hn), hg]; exact kk)
theorem st_z {a : Addr} (hexec : p.tables.exec = Jvm.exec) (hb : c.code = cc) (hK : KN D cy s) (hP : va_P D vwCl ws H) (hD : va_D A0 ws) (hS : va_S A0 H0 H locs) (q0 : Nat) {n : Nat} {f g : Nat → Int32} (ha : ws[q0]? = some (a, .inl (cy 1, n, .inl f))) {k : Nat} {b : Bool} (hk : k < n) (hn : n < 2 ^ 31) (hg : upd f k (bI b) = g) (hdg : decode cc pc = .ok (.bastore, 1))
    (kk : ∀ (H1 : Heap) (locs1 : List Loc), va_P D vwCl (ws.set q0 (a, .inl (cy 1, n, .inl g))) H1 → va_D A0 (ws.set q0 (a, .inl (cy 1, n, .inl g))) → va_S A0 H0 H1 locs1 → W p l e R s m args below meth c H1 locs1 cells slots Q (F0 m (pc + 1) ls rest)) : W p l e R s m args below meth c H locs cells slots Q (F0 m pc ls (.int (bI b) :: .int (nI k) :: .ref a :: rest)) :=
  va_zast hexec hb hK.1 hP hD hS q0 1 ha rfl (vp_in_nI hk hn) hdg (by rw [nI_clamp (Nat.lt_trans hk hn), show vp_nar .boolean (bI b) = bI b by cases b <;> decide, hg]; exact kk)
/-! ends -/
theorem pu_iret {y : MethodName} {r v : Int32} (hexec : p.tables.exec = Jvm.exec) (hb : c.code = cc) (hr : meth.sig.returnType = some .int) (hlocks : meth.locks = false) (hS : va_S (fun _ => False) s.heap H locs) (hv : v = r) (hdg : decode cc pc = .ok (.ireturn, 1)) :
    W p l e R s m args below meth c H locs cells slots (MQ below (va_Qi (fun (x : Int32) (_ : Unit) => x = r) (fun _ _ => True) (fun _ => False)) args s cells slots (fun _ => False)) (F0 m pc ls [.int v]) :=
  W.iret hexec hb hr (fun t ht _ => ⟨⟨v, (), rfl, hv, trivial⟩, hS.F ht⟩) hS.2.2 hdg hlocks
theorem pu_zret {b : Bool} {v : Int32} (hexec : p.tables.exec = Jvm.exec) (hb : c.code = cc) (hr : meth.sig.returnType = some .boolean) (hlocks : meth.locks = false) (hS : va_S (fun _ => False) s.heap H locs) (hv : v = bI b) (hdg : decode cc pc = .ok (.ireturn, 1)) :
    W p l e R s m args below meth c H locs cells slots (MQ below (va_Qi (fun (x : Int32) (_ : Unit) => x = bI b) (fun _ _ => True) (fun _ => False)) args s cells slots (fun _ => False)) (F0 m pc ls [.int v]) :=
  W.zret hexec hb hr (by rw [hv]; exact bI_nar b) (fun t ht _ => ⟨⟨v, (), rfl, hv, trivial⟩, hS.F ht⟩) hS.2.2 hdg hlocks
theorem wv_ret {S : Type} {post : S → Prop} {w1 : S → va_W} (u : S) (hexec : p.tables.exec = Jvm.exec) (hb : c.code = cc) (hr : meth.sig.returnType = none) (hlocks : meth.locks = false) (hS : va_S (inW w0) s.heap H locs) (hP : va_P D vwCl (w1 u) H) (hpost : post u) (hdg : decode cc pc = .ok (.return_, 1)) :
    W p l e R s m args below meth c H locs cells slots (MQ below (va_Qv post (fun u t => va_P D vwCl (w1 u) t.heap) (inW w0)) args s cells slots (inW w0)) (F0 m pc ls []) :=
  W.vret hexec hb hr (fun t ht _ => ⟨⟨u, rfl, hpost, by show va_P D vwCl (w1 u) t.heap; rw [ht]; exact hP⟩, hS.F ht⟩) hS.2.2 hdg hlocks
theorem wi_ret {S : Type} {post : Int32 → S → Prop} {w1 : S → va_W} (u : S) {v : Int32} (hexec : p.tables.exec = Jvm.exec) (hb : c.code = cc) (hr : meth.sig.returnType = some .int) (hlocks : meth.locks = false) (hS : va_S (inW w0) s.heap H locs) (hP : va_P D vwCl (w1 u) H) (hpost : post v u) (hdg : decode cc pc = .ok (.ireturn, 1)) :
    W p l e R s m args below meth c H locs cells slots (MQ below (va_Qi post (fun u t => va_P D vwCl (w1 u) t.heap) (inW w0)) args s cells slots (inW w0)) (F0 m pc ls [.int v]) :=
  W.iret hexec hb hr (fun t ht _ => ⟨⟨v, u, rfl, hpost, by show va_P D vwCl (w1 u) t.heap; rw [ht]; exact hP⟩, hS.F ht⟩) hS.2.2 hdg hlocks
theorem wz_ret {S : Type} {post : Int32 → S → Prop} {w1 : S → va_W} (u : S) {b : Bool} {v : Int32} (hexec : p.tables.exec = Jvm.exec) (hb : c.code = cc) (hr : meth.sig.returnType = some .boolean) (hlocks : meth.locks = false) (hS : va_S (inW w0) s.heap H locs) (hP : va_P D vwCl (w1 u) H) (hv : v = bI b) (hpost : post v u) (hdg : decode cc pc = .ok (.ireturn, 1)) :
    W p l e R s m args below meth c H locs cells slots (MQ below (va_Qi post (fun u t => va_P D vwCl (w1 u) t.heap) (inW w0)) args s cells slots (inW w0)) (F0 m pc ls [.int v]) :=
  W.zret hexec hb hr (by rw [hv]; exact bI_nar b) (fun t ht _ => ⟨⟨v, u, rfl, hpost, by show va_P D vwCl (w1 u) t.heap; rw [ht]; exact hP⟩, hS.F ht⟩) hS.2.2 hdg hlocks
end RW
end
section
/-! a graph: vertices, colours, edges; limits, the two ends, colours and weights of edges -/
abbrev GT : Type := Nat × Nat × Nat × (Nat → Nat) × (Nat → Nat) × (Nat → Nat) × (Nat → Nat) × (Nat → Int)
def gV (g : GT) : Nat := g.1
def gC (g : GT) : Nat := g.2.1
def gE (g : GT) : Nat := g.2.2.1
def gL (g : GT) : Nat → Nat := g.2.2.2.1
def gF (g : GT) : Nat → Nat := g.2.2.2.2.1
def gS (g : GT) : Nat → Nat := g.2.2.2.2.2.1
def gH (g : GT) : Nat → Nat := g.2.2.2.2.2.2.1
def gW (g : GT) : Nat → Int := g.2.2.2.2.2.2.2
def gOK (g : GT) : Prop := (1 ≤ gV g ∧ gV g ≤ 8) ∧ (1 ≤ gC g ∧ gC g ≤ 6) ∧ gE g ≤ 14 ∧ (∀ c, gL g c ≤ 14) ∧ ∀ e, e < gE g → gF g e < gV g ∧ gS g e < gV g ∧ gH g e < gC g ∧ -9999 ≤ gW g e ∧ gW g e ≤ 9999
/-- its cells -/
abbrev wG (cy : Nat → ClassId) (ad : Nat → Nat) (ch : Int32) (g : GT) : va_W := [(ad 1, .inr (0, [.int (nI (gV g)), .int (nI (gC g)), .int (nI (gE g)), .int ch, .ref (ad 2), .ref (ad 3), .ref (ad 4), .ref (ad 5), .ref (ad 6)])), (ad 2, .inl (cy 0, 6, .inl (fun i => nI (gL g i)))), (ad 3, .inl (cy 0, 14, .inl (fun i => nI (gF g i)))), (ad 4, .inl (cy 0, 14, .inl (fun i => nI (gS g i)))), (ad 5, .inl (cy 0, 14, .inl (fun i => nI (gH g i)))), (ad 6, .inl (cy 0, 14, .inl (fun i => zI (gW g i))))]
abbrev wK3 (cy : Nat → ClassId) (ad : Nat → Nat) (ch : Int32) (g : GT) : va_W := (ad 7, .inr (2, [.ref (ad 1)])) :: wG cy ad ch g
abbrev wK2 (cy : Nat → ClassId) (ad : Nat → Nat) (ch : Int32) (g : GT) : va_W := (ad 8, .inr (1, [.ref (ad 1)])) :: wG cy ad ch g
/-! parts: each vertex has a label; edges join them -/
def lone (n : Nat) : Nat → Nat := fun v => if v < n then v else 0
def jn (n : Nat) (f : Nat → Nat) (a b : Nat) : Nat → Nat := fun v => if v < n ∧ f v = b then a else f v
def labA (g : GT) (S : Nat) : Nat → Nat → Nat
  | 0 => lone (gV g)
  | e + 1 => if S.testBit e = true ∧ labA g S e (gF g e) ≠ labA g S e (gS g e) then jn (gV g) (labA g S e) (labA g S e (gF g e)) (labA g S e (gS g e)) else labA g S e
def cntA (g : GT) (S : Nat) : Nat → Nat
  | 0 => 0
  | e + 1 => if S.testBit e = true ∧ labA g S e (gF g e) ≠ labA g S e (gS g e) then cntA g S e + 1 else cntA g S e
def fulR (g : GT) : Nat → Nat := fun c => if c < gC g then gL g c else 0
def romB (g : GT) (S : Nat) : Nat → Nat → Nat
  | 0 => fulR g
  | e + 1 => if S.testBit e = true ∧ 0 < romB g S e (gH g e) then upN (romB g S e) (gH g e) (romB g S e (gH g e) - 1) else romB g S e
def cntB (g : GT) (S : Nat) : Nat → Nat
  | 0 => 0
  | e + 1 => if S.testBit e = true ∧ 0 < romB g S e (gH g e) then cntB g S e + 1 else cntB g S e
theorem lone_lt {n : Nat} (hn : n ≤ 8) : ∀ v, v < 8 → lone n v < 8 := fun v hv => by
  unfold lone
  split <;> omega
theorem jn_lt {n b : Nat} {f : Nat → Nat} {x y : Nat} (h : ∀ v, v < 8 → f v < b) (hx : x < b) : ∀ v, v < 8 → jn n f x y v < b := fun v hv => by
  unfold jn
  split
  · exact hx
  · exact h v hv
theorem labA_lt {g : GT} (hg : gOK g) (S : Nat) : ∀ e, e ≤ gE g → ∀ v, v < 8 → labA g S e v < 8 := by
  intro e
  induction e with
  | zero => exact fun _ => lone_lt hg.1.2
  | succ e ih =>
    intro he
    have h1 := ih (by omega)
    have h2 := (hg.2.2.2.2 e (by omega)).1
    have h3 := hg.1.2
    simp only [labA]
    split
    · exact jn_lt h1 (h1 _ (by omega))
    · exact h1
theorem fulR_lt {g : GT} (hg : gOK g) : ∀ v, v < 8 → fulR g v < 16 := fun v _ => by
  unfold fulR
  have := hg.2.2.2.1 v
  split <;> omega
theorem romB_lt {g : GT} (hg : gOK g) (S : Nat) : ∀ e, e ≤ gE g → ∀ v, v < 8 → romB g S e v < 16 := by
  intro e
  induction e with
  | zero => exact fun _ => fulR_lt hg
  | succ e ih =>
    intro he
    have h1 := ih (by omega)
    have h2 := (hg.2.2.2.2 e (by omega)).2.2.1
    have h3 := hg.2.1.2
    simp only [romB]
    split
    · have := h1 (gH g e) (by omega)
      exact upN_lt h1 (by omega)
    · exact h1
theorem labA_y {g : GT} {S e : Nat} (h : S.testBit e = true) (k : labA g S e (gF g e) ≠ labA g S e (gS g e)) : labA g S (e + 1) = jn (gV g) (labA g S e) (labA g S e (gF g e)) (labA g S e (gS g e)) := by
  simp only [labA]
  rw [if_pos ⟨h, k⟩]
theorem labA_n {g : GT} {S e : Nat} (h : S.testBit e = false ∨ labA g S e (gF g e) = labA g S e (gS g e)) : labA g S (e + 1) = labA g S e := by
  simp only [labA]
  rw [if_neg]
  intro q
  rcases h with h | h
  · rw [h] at q
    exact absurd q.1 (by decide)
  · exact q.2 h
theorem cntA_y {g : GT} {S e : Nat} (h : S.testBit e = true) (k : labA g S e (gF g e) ≠ labA g S e (gS g e)) : cntA g S (e + 1) = cntA g S e + 1 := by
  simp only [cntA]
  rw [if_pos ⟨h, k⟩]
theorem cntA_n {g : GT} {S e : Nat} (h : S.testBit e = false ∨ labA g S e (gF g e) = labA g S e (gS g e)) : cntA g S (e + 1) = cntA g S e := by
  simp only [cntA]
  rw [if_neg]
  intro q
  rcases h with h | h
  · rw [h] at q
    exact absurd q.1 (by decide)
  · exact q.2 h
theorem romB_y {g : GT} {S e : Nat} (h : S.testBit e = true) (k : 0 < romB g S e (gH g e)) : romB g S (e + 1) = upN (romB g S e) (gH g e) (romB g S e (gH g e) - 1) := by
  simp only [romB]
  rw [if_pos ⟨h, k⟩]
theorem romB_n {g : GT} {S e : Nat} (h : S.testBit e = false ∨ ¬ 0 < romB g S e (gH g e)) : romB g S (e + 1) = romB g S e := by
  simp only [romB]
  rw [if_neg]
  intro q
  rcases h with h | h
  · rw [h] at q
    exact absurd q.1 (by decide)
  · exact h q.2
theorem cntB_y {g : GT} {S e : Nat} (h : S.testBit e = true) (k : 0 < romB g S e (gH g e)) : cntB g S (e + 1) = cntB g S e + 1 := by
  simp only [cntB]
  rw [if_pos ⟨h, k⟩]
theorem cntB_n {g : GT} {S e : Nat} (h : S.testBit e = false ∨ ¬ 0 < romB g S e (gH g e)) : cntB g S (e + 1) = cntB g S e := by
  simp only [cntB]
  rw [if_neg]
  intro q
  rcases h with h | h
  · rw [h] at q
    exact absurd q.1 (by decide)
  · exact h q.2
theorem cntA_le (g : GT) (S : Nat) : ∀ e, cntA g S e ≤ e
  | 0 => Nat.le_refl 0
  | e + 1 => by
    have := cntA_le g S e
    simp only [cntA]
    split <;> omega
theorem cntB_le (g : GT) (S : Nat) : ∀ e, cntB g S e ≤ e
  | 0 => Nat.le_refl 0
  | e + 1 => by
    have := cntB_le g S e
    simp only [cntB]
    split <;> omega
/-- row by row: the first k vertices of a row made new -/
def mixN (k : Nat) (f h : Nat → Nat) : Nat → Nat := fun v => if v < k then f v else h v
theorem mixN_0 (f h : Nat → Nat) : mixN 0 f h = h := by
  funext v
  unfold mixN
  rw [if_neg (by omega)]
theorem mixN_s (k : Nat) (f h : Nat → Nat) : mixN (k + 1) f h = upN (mixN k f h) k (f k) := by
  funext v
  show (if v < k + 1 then f v else h v) = (if v = k then f k else (if v < k then f v else h v))
  by_cases h1 : v = k
  · subst h1
    rw [if_pos (by omega), if_pos rfl]
  · rw [if_neg h1]
    by_cases h2 : v < k
    · rw [if_pos (by omega), if_pos h2]
    · rw [if_neg (by omega), if_neg h2]
theorem mixN_i {k : Nat} {f h : Nat → Nat} (e : f k = mixN k f h k) : mixN (k + 1) f h = mixN k f h := by
  rw [mixN_s]
  funext v
  unfold upN
  by_cases h1 : v = k
  · subst h1
    rw [if_pos rfl, e]
  · rw [if_neg h1]
theorem mixN_at {k : Nat} {f h : Nat → Nat} {v : Nat} (hv : k ≤ v) : mixN k f h v = h v := by
  unfold mixN
  rw [if_neg (by omega)]
theorem mixN_lt {k b : Nat} {f h : Nat → Nat} (h1 : ∀ v, v < 8 → f v < b) (h2 : ∀ v, v < 8 → h v < b) : ∀ v, v < 8 → mixN k f h v < b := fun v hv => by
  unfold mixN
  split
  · exact h1 v hv
  · exact h2 v hv
theorem mixN_lone {n : Nat} : mixN n (fun v => v) (fun _ => 0) = lone n := rfl
theorem mixN_room (g : GT) : mixN (gC g) (gL g) (fun _ => 0) = fulR g := rfl
theorem mixN_jn (n : Nat) (f : Nat → Nat) (a b : Nat) : mixN n (fun v => if f v = b then a else f v) f = jn n f a b := by
  funext v
  show (if v < n then (if f v = b then a else f v) else f v) = (if v < n ∧ f v = b then a else f v)
  by_cases h1 : v < n
  · by_cases h2 : f v = b
    · rw [if_pos h1, if_pos h2, if_pos ⟨h1, h2⟩]
    · rw [if_pos h1, if_neg h2, if_neg (fun q => h2 q.2)]
  · rw [if_neg h1, if_neg (fun q => h1 q.1)]
theorem pk_0 : pk (fun _ => 0) = 0 := by decide
theorem b8_16 {f : Nat → Nat} (h : ∀ v, v < 8 → f v < 8) : ∀ v, v < 8 → f v < 16 := fun v hv => Nat.lt_trans (h v hv) (by decide)
theorem hb_of {s e : Nat} (hs : s < 2 ^ 31) (he : e < 32) : ((nI s).toUInt32 >>> ((nI e).toUInt32 &&& Int32.toUInt32 31)).toInt32 &&& nI 1 = bI (s.testBit e) := by
  rw [ni_ushr (by omega) he, ni_and, ni_in]
theorem hb_of2 {s e : Nat} (hs : s < 2 ^ 31) (he : e < 32) : nI s >>> (nI e &&& 31) &&& nI 1 = bI (s.testBit e) := by
  rw [ni_sshr hs he, ni_and, ni_in]
theorem hasSet_of (x : Int32) {n : Nat} (hn : n < 31) : (x &&& (nI (2 ^ n - 1) ^^^ zI (-1)) = 0) ↔ isN x (2 ^ n) = true := by
  have hp : 2 ^ n < 2 ^ 31 := ms_pow_lt hn
  have hz : zI (-1) = (-1 : Int32) := by decide
  rw [hz]
  constructor
  · intro h
    have hb : ∀ i, i < 32 → n ≤ i → bt x i = false := by
      intro i hi hni
      have h1 : bt (x &&& (nI (2 ^ n - 1) ^^^ (-1))) i = false := by rw [h]; exact b_0 i
      rw [b_and, b_xor, b_m1 i hi, bt_nI _ hi, ms_full, decide_eq_false (by omega)] at h1
      simpa using h1
    have hx : x = nI (x.toBitVec.toNat) := by
      apply b_ext
      intro i hi
      rw [bt_nI _ hi]
      rfl
    have hlt : x.toBitVec.toNat < 2 ^ n := ms_lt fun i hi => by
      rcases Nat.lt_or_ge i 32 with q | q
      · rcases Nat.lt_or_ge i n with q2 | q2
        · exact q2
        · have h2 := hb i q q2
          have h3 : x.toBitVec.toNat.testBit i = false := h2
          rw [h3] at hi
          cases hi
      · have h3 : x.toBitVec.toNat.testBit i = false := Nat.testBit_lt_two_pow (Nat.lt_of_lt_of_le x.toBitVec.isLt (Nat.pow_le_pow_right (by decide) q))
        rw [h3] at hi
        cases hi
    rw [hx, isN_nI (by omega), decide_eq_true hlt]
  · intro h
    obtain ⟨k, hk, rfl⟩ := isN_of h
    rw [ni_sd]
    have : ms_sd k (2 ^ n - 1) = 0 := by
      apply Nat.eq_of_testBit_eq
      intro i
      rw [ms_sd_bit, ms_full, Nat.zero_testBit]
      cases hi : k.testBit i
      · rfl
      · rw [decide_eq_true (ms_bit_lt hk hi)]
        rfl
    rw [this]
    exact nI_0
theorem isN_within (x : Int32) {n : Nat} (hn : n < 2 ^ 31) : decide (nI 0 ≤ x ∧ x ≤ nI n - nI 1) = isN x n := by
  unfold isN
  apply decide_eq_decide.mpr
  rw [ni_subz n 1, Int32.le_iff_toInt_le, Int32.le_iff_toInt_le, nI_toInt (by decide), zI_toInt (by omega) (by omega)]
  omega
end
section
/-! counts, lowest bits of sets of fourteen -/
theorem zI_m1 : zI (-1) = (-1 : Int32) := by decide
theorem ni_sdz (a b : Nat) : nI a &&& (nI b ^^^ zI (-1)) = nI (ms_sd a b) := by rw [zI_m1]; exact ni_sd a b
theorem ni_incn (k n : Nat) : nI k + Int32.ofInt (n : Int) = nI (k + n) := by rw [show Int32.ofInt (n : Int) = nI n from zI_n n]; exact nI_add k n
theorem ni_dec {k : Nat} (h : 0 < k) : nI k + Int32.ofInt (-1) = nI (k - 1) := by
  rw [show Int32.ofInt (-1) = zI (-1) from rfl, ← zI_n, zI_add, ← zI_n]
  congr 1
  omega
/-- the least number that is in, or n -/
def tzN : Nat → Nat → Nat
  | 0, _ => 0
  | n + 1, S => if tzN n S < n then tzN n S else if S.testBit n = true then n else n + 1
theorem tzN_le (n S : Nat) : tzN n S ≤ n := by
  induction n with
  | zero => exact Nat.le_refl 0
  | succ n ih =>
    simp only [tzN]
    split
    · omega
    · split <;> omega
theorem tzN_lo {n S i : Nat} (h : i < tzN n S) : S.testBit i = false := by
  induction n with
  | zero => simp [tzN] at h
  | succ n ih =>
    simp only [tzN] at h
    split at h
    · exact ih h
    · rename_i h1
      have h2 : tzN n S = n := by have := tzN_le n S; omega
      split at h
      · exact ih (by omega)
      · rename_i h3
        rcases Nat.lt_or_ge i n with q | q
        · exact ih (by omega)
        · have : i = n := by omega
          subst this
          cases hb : S.testBit i
          · rfl
          · exact absurd hb h3
theorem tzN_in {n S : Nat} (h : tzN n S < n) : S.testBit (tzN n S) = true := by
  induction n with
  | zero => omega
  | succ n ih =>
    simp only [tzN] at h ⊢
    split
    · rename_i h1
      exact ih h1
    · rename_i h1
      split
      · rename_i h2
        exact h2
      · rename_i h2
        rw [if_neg h1, if_neg h2] at h
        omega
theorem tzN_lt {n S : Nat} (hS : S < 2 ^ n) (h : S ≠ 0) : tzN n S < n := by
  rcases Nat.lt_or_ge (tzN n S) n with q | q
  · exact q
  · exfalso
    apply h
    apply Nat.eq_of_testBit_eq
    intro i
    rw [Nat.zero_testBit]
    rcases Nat.lt_or_ge i n with q2 | q2
    · exact tzN_lo (n := n) (by omega)
    · exact ms_bit_ge hS q2
def ushI (x y : Int32) : Int32 := (x.toUInt32 >>> (y.toUInt32 &&& Int32.toUInt32 31)).toInt32
def bcA (i : Int32) : Int32 := i - (ushI i (nI 1) &&& 1431655765)
def bcB (i : Int32) : Int32 := (i &&& 858993459) + (ushI i (nI 2) &&& 858993459)
def bcC (i : Int32) : Int32 := (i + ushI i (nI 4)) &&& 252645135
def bcD (i : Int32) : Int32 := i + ushI i (nI 8)
def bcE (i : Int32) : Int32 := i + ushI i (nI 16)
theorem all128 {P : Nat → Prop} (h : ∀ a, a < 128 → ∀ b, b < 128 → P (128 * a + b)) {n : Nat} (hn : n < 16384) : P n := by
  have := h (n / 128) (by omega) (n % 128) (by omega)
  rw [Nat.div_add_mod] at this
  exact this
theorem bc_ok {n : Nat} (hn : n < 16384) : bcE (bcD (bcC (bcB (bcA (nI n))))) &&& nI 63 = nI (ms_card 14 n) :=
  all128 (P := fun n => bcE (bcD (bcC (bcB (bcA (nI n))))) &&& nI 63 = nI (ms_card 14 n)) (by decide +kernel) hn
theorem tz_mask {n : Nat} (h0 : n ≠ 0) (hn : n < 16384) : (nI n ^^^ zI (-1)) &&& nI (n - 1) = nI (2 ^ tzN 14 n - 1) :=
  all128 (P := fun n => n ≠ 0 → (nI n ^^^ zI (-1)) &&& nI (n - 1) = nI (2 ^ tzN 14 n - 1)) (by decide +kernel) hn h0
def loN (n : Nat) : Nat := if n = 0 then 0 else 2 ^ tzN 14 n
theorem lo_ok {n : Nat} (hn : n < 16384) : nI n &&& (-nI n) = nI (loN n) :=
  all128 (P := fun n => nI n &&& (-nI n) = nI (loN n)) (by decide +kernel) hn
theorem and_bit {S e : Nat} (hS : S < 2 ^ 31) : nI (S &&& 2 ^ e) = 0 ↔ S.testBit e = false := by
  have h1 : S &&& 2 ^ e < 2 ^ 31 := Nat.lt_of_le_of_lt Nat.and_le_left hS
  rw [show (0 : Int32) = nI 0 from rfl, nI_eq h1 (by decide)]
  constructor
  · intro h
    cases hb : S.testBit e
    · rfl
    · have h2 : (S &&& 2 ^ e).testBit e = true := by rw [Nat.testBit_and, hb, Nat.testBit_two_pow]; simp
      rw [h, Nat.zero_testBit] at h2
      cases h2
  · intro h
    apply Nat.eq_of_testBit_eq
    intro i
    rw [Nat.testBit_and, Nat.testBit_two_pow, Nat.zero_testBit]
    by_cases q : e = i
    · subst q
      rw [h]
      rfl
    · rw [decide_eq_false q, Bool.and_false]
theorem and_bit_t {S e : Nat} (hS : S < 2 ^ 31) (h : ¬ nI (S &&& 2 ^ e) = 0) : S.testBit e = true := by
  cases hb : S.testBit e
  · exact absurd ((and_bit hS).mpr hb) h
  · rfl
/-- what follows from ranks -/
def rA (g : GT) (S : Nat) : Nat := cntA g S (gE g)
def rB (g : GT) (S : Nat) : Nat := cntB g S (gE g)
def rk (k : Bool) (g : GT) : Nat → Nat := if k then rB g else rA g
def cirP (r : Nat → Nat) (S : Nat) : Nat → Bool := fun e => S.testBit e && (r (ms_sd S (2 ^ e)) == r S)
def cirN (r : Nat → Nat) (n S : Nat) : Nat := ms_mk n (cirP r S)
def cloP (r : Nat → Nat) (S : Nat) : Nat → Bool := fun e => r (S ||| 2 ^ e) == r S
def cloN (r : Nat → Nat) (n S : Nat) : Nat := S ||| ms_mk n (cloP r S)
theorem ms_mk_y {n : Nat} {p : Nat → Bool} (h : p n = true) : ms_mk (n + 1) p = ms_mk n p ||| 2 ^ n := by
  simp only [ms_mk]
  rw [if_pos h]
theorem ms_mk_n {n : Nat} {p : Nat → Bool} (h : p n = false) : ms_mk (n + 1) p = ms_mk n p := by
  simp only [ms_mk]
  rw [if_neg (by rw [h]; decide), Nat.or_zero]
theorem cirP_t {r : Nat → Nat} {S e : Nat} (h : S.testBit e = true) (k : r (ms_sd S (2 ^ e)) = r S) : cirP r S e = true := by
  unfold cirP
  rw [h, k]
  simp
theorem cirP_f {r : Nat → Nat} {S e : Nat} (h : S.testBit e = false ∨ ¬ r (ms_sd S (2 ^ e)) = r S) : cirP r S e = false := by
  unfold cirP
  rcases h with h | h
  · rw [h]
    rfl
  · rw [show (r (ms_sd S (2 ^ e)) == r S) = false from by simp [h], Bool.and_false]
theorem cloP_t {r : Nat → Nat} {S e : Nat} (k : r (S ||| 2 ^ e) = r S) : cloP r S e = true := by
  unfold cloP
  rw [k]
  simp
theorem cloP_f {r : Nat → Nat} {S e : Nat} (k : ¬ r (S ||| 2 ^ e) = r S) : cloP r S e = false := by
  unfold cloP
  simp [k]
theorem cir_lt (r : Nat → Nat) (n S : Nat) : cirN r n S < 2 ^ n := ms_mk_lt n _
theorem clo_lt (r : Nat → Nat) {n S : Nat} (h : S < 2 ^ n) : cloN r n S < 2 ^ n := Nat.or_lt_two_pow h (ms_mk_lt n _)
theorem rA_le (g : GT) (S : Nat) : rA g S ≤ gE g := cntA_le g S _
theorem rB_le (g : GT) (S : Nat) : rB g S ≤ gE g := cntB_le g S _
theorem tz14 {t : Nat} (h : t < 14) : t = 0 ∨ t = 1 ∨ t = 2 ∨ t = 3 ∨ t = 4 ∨ t = 5 ∨ t = 6 ∨ t = 7 ∨ t = 8 ∨ t = 9 ∨ t = 10 ∨ t = 11 ∨ t = 12 ∨ t = 13 := by omega
end
section
set_option maxHeartbeats 4000000 in
set_option maxRecDepth 100000 in
/-- within(n, low, high) -/
theorem c_X5_within (l : Launch) (D : va_G) (cy : Nat → ClassId) (x lo hi : Int32) : PU l yX5_within wsX5_within ({ frames := 0, cells := 0, slots := 0, locals := 0 }) D cy [.int x, .int lo, .int hi] [] ((bI (decide (lo ≤ x ∧ x ≤ hi)))) := by
  refine Met.ofW (cc := cX5_within) (maxL := 3) (ret := (some .boolean)) (by decide) rfl ?_
  intro p ev s m args below meth c s₁ B hml hv
  obtain ⟨rfl, hK, hP⟩ := hv
  have hx := B.exec
  have hb := B.bytes
  have hr := B.returns
  have hts := atoms_spec (ws := wsX5_within) B.pre
  have hown : s.vm.findClass RX5 = some m.cls := findClass_of_methodNamed B.named
  have hlocks := B.notSynchronized
  have hS : va_S (fun _ => False) s.heap s.heap [] := va_S.rf
  have hP : va_P D vwCl [] s.heap := hP
  have hl := lv_entry ([.int x, .int lo, .int hi]) (n := 3) (Nat.le_of_ble_eq_true rfl)
  rw [lg_entry_eq]
  generalize (lg_sl ([.int x, .int lo, .int hi]) ++ List.replicate (3 - (lg_sl ([.int x, .int lo, .int hi])).length) Slot.unset).toArray = ls at hl ⊢
  have hl : lv_has ls 3 [(0, .int x), (1, .int lo), (2, .int hi)] := hl
  have hgen := True.intro
  refine lv_iload_n hx hb dX5_within_0 rfl (lv_at hl 1 rfl) ?_
  refine lv_iload_n hx hb dX5_within_1 rfl (lv_at hl 0 rfl) ?_
  refine lv_icmp_gt (tgt := 14) hx hb dX5_within_2 (by decide) (fun c2 => ?_) (fun c2 => ?_)
  · refine lv_iconst (v := nI 0) hx hb dX5_within_14 (by decide) ?_
    exact pu_zret hx hb hr hlocks hS (by first | (rw [decide_eq_true ⟨Int32.not_lt.mp c2, Int32.not_lt.mp c7⟩]; rfl) | (rw [decide_eq_false (fun q => absurd (Int32.not_le.mpr c2) (fun z => z q.1))]; rfl) | (rw [decide_eq_false (fun q => absurd (Int32.not_le.mpr c7) (fun z => z q.2))]; rfl)) dX5_within_15
  · refine lv_iload_n hx hb dX5_within_5 rfl (lv_at hl 0 rfl) ?_
    refine lv_iload_n hx hb dX5_within_6 rfl (lv_at hl 2 rfl) ?_
    refine lv_icmp_gt (tgt := 14) hx hb dX5_within_7 (by decide) (fun c7 => ?_) (fun c7 => ?_)
    · refine lv_iconst (v := nI 0) hx hb dX5_within_14 (by decide) ?_
      exact pu_zret hx hb hr hlocks hS (by first | (rw [decide_eq_true ⟨Int32.not_lt.mp c2, Int32.not_lt.mp c7⟩]; rfl) | (rw [decide_eq_false (fun q => absurd (Int32.not_le.mpr c2) (fun z => z q.1))]; rfl) | (rw [decide_eq_false (fun q => absurd (Int32.not_le.mpr c7) (fun z => z q.2))]; rfl)) dX5_within_15
    · refine lv_iconst (v := nI 1) hx hb dX5_within_10 (by decide) ?_
      refine lv_goto (tgt := 15) hx hb dX5_within_11 (by decide) ?_
      exact pu_zret hx hb hr hlocks hS (by first | (rw [decide_eq_true ⟨Int32.not_lt.mp c2, Int32.not_lt.mp c7⟩]; rfl) | (rw [decide_eq_false (fun q => absurd (Int32.not_le.mpr c2) (fun z => z q.1))]; rfl) | (rw [decide_eq_false (fun q => absurd (Int32.not_le.mpr c7) (fun z => z q.2))]; rfl)) dX5_within_15

set_option maxHeartbeats 4000000 in
set_option maxRecDepth 100000 in
theorem c_X5_isWeight (l : Launch) (D : va_G) (cy : Nat → ClassId) (x : Int32) : PU l yX5_isWeight wsX5_isWeight ({ frames := 1, cells := 0, slots := 0, locals := 22 }) D cy [.int x] [] ((bI (isW x))) := by
  refine Met.ofW (cc := cX5_isWeight) (maxL := 1) (ret := (some .boolean)) (by decide) rfl ?_
  intro p ev s m args below meth c s₁ B hml hv
  obtain ⟨rfl, hK, hP⟩ := hv
  have hx := B.exec
  have hb := B.bytes
  have hr := B.returns
  have hts := atoms_spec (ws := wsX5_isWeight) B.pre
  have hown : s.vm.findClass RX5 = some m.cls := findClass_of_methodNamed B.named
  have hlocks := B.notSynchronized
  have hS : va_S (fun _ => False) s.heap s.heap [] := va_S.rf
  have hP : va_P D vwCl [] s.heap := hP
  have hl := lv_entry ([.int x]) (n := 1) (Nat.le_of_ble_eq_true rfl)
  rw [lg_entry_eq]
  generalize (lg_sl ([.int x]) ++ List.replicate (1 - (lg_sl ([.int x])).length) Slot.unset).toArray = ls at hl ⊢
  have hl : lv_has ls 1 [(0, .int x)] := hl
  have hgen := True.intro
  refine lv_iload_n hx hb dX5_isWeight_0 rfl (lv_at hl 0 rfl) ?_
  refine lv_sipush (v := zI (-9999)) hx hb dX5_isWeight_1 (by decide) ?_
  refine lv_sipush (v := nI 9999) hx hb dX5_isWeight_4 (by decide) ?_
  refine pu_call (va_runS (As := [.int x, .int (zI (-9999)), .int (nI 9999)]) (rest := []) ⟨hx, hb, hml, hown, hts⟩ (c_X5_within l D cy x (zI (-9999)) (nI 9999)) (va_cwS 3 hts gX5_isWeight_X5_within rfl rfl rfl (by decide +kernel) ⟨Nat.le_of_ble_eq_true rfl, Nat.le_of_ble_eq_true rfl⟩) (PU_preS hK hP [] rfl) rfl rfl hl.1 rfl (lv_room (Nat.le_of_ble_eq_true rfl)) dX5_isWeight_7 ⟨(Nat.zero_le _), (Nat.zero_le _)⟩) hS hP (fun H locs hP hS => ?_)
  exact pu_zret hx hb hr hlocks hS (congrArg bI (decide_eq_decide.mpr (by rw [Int32.le_iff_toInt_le, Int32.le_iff_toInt_le, zI_toInt (by decide) (by decide), nI_toInt (by decide)]; omega))) dX5_isWeight_10

set_option maxHeartbeats 4000000 in
set_option maxRecDepth 100000 in
theorem c_X5_hasBit (l : Launch) (D : va_G) (cy : Nat → ClassId) {S e : Nat} (hS9 : S < 2 ^ 31) (he9 : e < 32) : PU l yX5_hasBit wsX5_hasBit ({ frames := 0, cells := 0, slots := 0, locals := 0 }) D cy [.int (nI S), .int (nI e)] [] ((bI (S.testBit e))) := by
  refine Met.ofW (cc := cX5_hasBit) (maxL := 2) (ret := (some .boolean)) (by decide) rfl ?_
  intro p ev s m args below meth c s₁ B hml hv
  obtain ⟨rfl, hK, hP⟩ := hv
  have hx := B.exec
  have hb := B.bytes
  have hr := B.returns
  have hts := atoms_spec (ws := wsX5_hasBit) B.pre
  have hown : s.vm.findClass RX5 = some m.cls := findClass_of_methodNamed B.named
  have hlocks := B.notSynchronized
  have hS : va_S (fun _ => False) s.heap s.heap [] := va_S.rf
  have hP : va_P D vwCl [] s.heap := hP
  have hl := lv_entry ([.int (nI S), .int (nI e)]) (n := 2) (Nat.le_of_ble_eq_true rfl)
  rw [lg_entry_eq]
  generalize (lg_sl ([.int (nI S), .int (nI e)]) ++ List.replicate (2 - (lg_sl ([.int (nI S), .int (nI e)])).length) Slot.unset).toArray = ls at hl ⊢
  have hl : lv_has ls 2 [(0, .int (nI S)), (1, .int (nI e))] := hl
  have hgen := True.intro
  refine lv_iload_n hx hb dX5_hasBit_0 rfl (lv_at hl 0 rfl) ?_
  refine lv_iload_n hx hb dX5_hasBit_1 rfl (lv_at hl 1 rfl) ?_
  refine lv_iushr hx hb dX5_hasBit_2 rfl ?_
  refine lv_as (y := (((nI S).toUInt32 >>> ((nI e).toUInt32 &&& Int32.toUInt32 31)).toInt32)) rfl ?_
  refine lv_iconst (v := nI 1) hx hb dX5_hasBit_3 (by decide) ?_
  refine lv_iand hx hb dX5_hasBit_4 ?_
  refine lv_as (y := (bI (S.testBit e))) (hb_of hS9 he9) ?_
  refine lv_iconst (v := nI 1) hx hb dX5_hasBit_5 (by decide) ?_
  refine lv_icmp_ne (tgt := 13) hx hb dX5_hasBit_6 (by decide) (fun c6 => ?_) (fun c6 => ?_)
  · have c6 : S.testBit e = false := by cases h : S.testBit e; rfl; exact absurd (by rw [h]; rfl) c6
    refine lv_iconst (v := nI 0) hx hb dX5_hasBit_13 (by decide) ?_
    exact pu_zret hx hb hr hlocks hS (by rw [c6]; rfl) dX5_hasBit_14
  · have c6 : S.testBit e = true := by cases h : S.testBit e; (rw [h] at c6; exact absurd c6 (by decide)); rfl
    refine lv_iconst (v := nI 1) hx hb dX5_hasBit_9 (by decide) ?_
    refine lv_goto (tgt := 14) hx hb dX5_hasBit_10 (by decide) ?_
    exact pu_zret hx hb hr hlocks hS (by rw [c6]; rfl) dX5_hasBit_14

set_option maxHeartbeats 4000000 in
set_option maxRecDepth 100000 in
theorem c_X5_cell (l : Launch) (D : va_G) (cy : Nat → ClassId) {f : Nat → Nat} (hf : ∀ v, v < 8 → f v < 16) {p9 : Nat} (hp9 : p9 < 8) : PU l yX5_cell wsX5_cell ({ frames := 0, cells := 0, slots := 0, locals := 0 }) D cy [.int (nI (pk f)), .int (nI p9)] [] ((nI (f p9))) := by
  refine Met.ofW (cc := cX5_cell) (maxL := 2) (ret := (some .int)) (by decide) rfl ?_
  intro p ev s m args below meth c s₁ B hml hv
  obtain ⟨rfl, hK, hP⟩ := hv
  have hx := B.exec
  have hb := B.bytes
  have hr := B.returns
  have hts := atoms_spec (ws := wsX5_cell) B.pre
  have hown : s.vm.findClass RX5 = some m.cls := findClass_of_methodNamed B.named
  have hlocks := B.notSynchronized
  have hS : va_S (fun _ => False) s.heap s.heap [] := va_S.rf
  have hP : va_P D vwCl [] s.heap := hP
  have hl := lv_entry ([.int (nI (pk f)), .int (nI p9)]) (n := 2) (Nat.le_of_ble_eq_true rfl)
  rw [lg_entry_eq]
  generalize (lg_sl ([.int (nI (pk f)), .int (nI p9)]) ++ List.replicate (2 - (lg_sl ([.int (nI (pk f)), .int (nI p9)])).length) Slot.unset).toArray = ls at hl ⊢
  have hl : lv_has ls 2 [(0, .int (nI (pk f))), (1, .int (nI p9))] := hl
  have hgen := True.intro
  refine lv_iload_n hx hb dX5_cell_0 rfl (lv_at hl 0 rfl) ?_
  refine lv_iconst (v := nI 4) hx hb dX5_cell_1 (by decide) ?_
  refine lv_iload_n hx hb dX5_cell_2 rfl (lv_at hl 1 rfl) ?_
  refine lv_imul hx hb dX5_cell_3 ?_
  refine lv_as (y := (nI (4 * p9))) (ni_mul _ _) ?_
  refine lv_iushr hx hb dX5_cell_4 rfl ?_
  refine lv_as (y := (((nI (pk f)).toUInt32 >>> ((nI (4 * p9)).toUInt32 &&& Int32.toUInt32 31)).toInt32)) rfl ?_
  refine lv_bipush (v := nI 15) hx hb dX5_cell_5 (by decide) ?_
  refine lv_iand hx hb dX5_cell_7 ?_
  refine lv_as (y := (nI (f p9))) (ni_cell hf hp9) ?_
  exact pu_iret (y := yX5_cell) hx hb hr hlocks hS (by first | rfl | (simp [bI, *]; done) | (simp_all [bI]; done)) dX5_cell_8

set_option maxHeartbeats 4000000 in
set_option maxRecDepth 100000 in
theorem c_X5_withCell (l : Launch) (D : va_G) (cy : Nat → ClassId) {f : Nat → Nat} (hf : ∀ v, v < 8 → f v < 16) {p9 x9 : Nat} (hp9 : p9 < 8) (hx9 : x9 < 16) : PU l yX5_withCell wsX5_withCell ({ frames := 0, cells := 0, slots := 0, locals := 0 }) D cy [.int (nI (pk f)), .int (nI p9), .int (nI x9)] [] ((nI (pk (upN f p9 x9)))) := by
  refine Met.ofW (cc := cX5_withCell) (maxL := 4) (ret := (some .int)) (by decide) rfl ?_
  intro p ev s m args below meth c s₁ B hml hv
  obtain ⟨rfl, hK, hP⟩ := hv
  have hx := B.exec
  have hb := B.bytes
  have hr := B.returns
  have hts := atoms_spec (ws := wsX5_withCell) B.pre
  have hown : s.vm.findClass RX5 = some m.cls := findClass_of_methodNamed B.named
  have hlocks := B.notSynchronized
  have hS : va_S (fun _ => False) s.heap s.heap [] := va_S.rf
  have hP : va_P D vwCl [] s.heap := hP
  have hl := lv_entry ([.int (nI (pk f)), .int (nI p9), .int (nI x9)]) (n := 4) (Nat.le_of_ble_eq_true rfl)
  rw [lg_entry_eq]
  generalize (lg_sl ([.int (nI (pk f)), .int (nI p9), .int (nI x9)]) ++ List.replicate (4 - (lg_sl ([.int (nI (pk f)), .int (nI p9), .int (nI x9)])).length) Slot.unset).toArray = ls at hl ⊢
  have hl : lv_has ls 4 [(0, .int (nI (pk f))), (1, .int (nI p9)), (2, .int (nI x9))] := hl
  have hgen := True.intro
  refine lv_iconst (v := nI 4) hx hb dX5_withCell_0 (by decide) ?_
  refine lv_iload_n hx hb dX5_withCell_1 rfl (lv_at hl 1 rfl) ?_
  refine lv_imul hx hb dX5_withCell_2 ?_
  refine lv_as (y := (nI (4 * p9))) (ni_mul _ _) ?_
  refine lv_istore_n (lv' := [(3, .int (nI (4 * p9))), (0, .int (nI (pk f))), (1, .int (nI p9)), (2, .int (nI x9))]) hx hb dX5_withCell_3 rfl hl (by decide) rfl (fun ls hl => ?_)
  refine lv_iload_n hx hb dX5_withCell_4 rfl (lv_at hl 1 rfl) ?_
  refine lv_bipush (v := nI 15) hx hb dX5_withCell_5 (by decide) ?_
  refine lv_iload_n hx hb dX5_withCell_7 rfl (lv_at hl 0 rfl) ?_
  refine lv_ishl hx hb dX5_withCell_8 ?_
  refine lv_as (y := (nI 15 <<< (nI (4 * p9) &&& 31))) rfl ?_
  refine lv_iconst (v := zI (-1)) hx hb dX5_withCell_9 (by decide) ?_
  refine lv_ixor hx hb dX5_withCell_10 ?_
  refine lv_as (y := ((nI 15 <<< (nI (4 * p9) &&& 31)) ^^^ (-1))) rfl ?_
  refine lv_iand hx hb dX5_withCell_11 ?_
  refine lv_as (y := (nI (pk f) &&& ((nI 15 <<< (nI (4 * p9) &&& 31)) ^^^ (-1)))) rfl ?_
  refine lv_iload_n hx hb dX5_withCell_12 rfl (lv_at hl 3 rfl) ?_
  refine lv_iload_n hx hb dX5_withCell_13 rfl (lv_at hl 0 rfl) ?_
  refine lv_ishl hx hb dX5_withCell_14 ?_
  refine lv_as (y := (nI x9 <<< (nI (4 * p9) &&& 31))) rfl ?_
  refine lv_ior hx hb dX5_withCell_15 ?_
  refine lv_as (y := (nI (pk (upN f p9 x9)))) (ni_with hf hp9 hx9) ?_
  exact pu_iret (y := yX5_withCell) hx hb hr hlocks hS (by first | rfl | (simp [bI, *]; done) | (simp_all [bI]; done)) dX5_withCell_16

set_option maxHeartbeats 4000000 in
set_option maxRecDepth 100000 in
theorem c_X5_told (l : Launch) (D : va_G) (cy : Nat → ClassId) (b : Bool) : PU l yX5_told wsX5_told ({ frames := 0, cells := 0, slots := 0, locals := 0 }) D cy [.int (bI b)] [] ((bI b)) := by
  refine Met.ofW (cc := cX5_told) (maxL := 1) (ret := (some .int)) (by decide) rfl ?_
  intro p ev s m args below meth c s₁ B hml hv
  obtain ⟨rfl, hK, hP⟩ := hv
  have hx := B.exec
  have hb := B.bytes
  have hr := B.returns
  have hts := atoms_spec (ws := wsX5_told) B.pre
  have hown : s.vm.findClass RX5 = some m.cls := findClass_of_methodNamed B.named
  have hlocks := B.notSynchronized
  have hS : va_S (fun _ => False) s.heap s.heap [] := va_S.rf
  have hP : va_P D vwCl [] s.heap := hP
  have hl := lv_entry ([.int (bI b)]) (n := 1) (Nat.le_of_ble_eq_true rfl)
  rw [lg_entry_eq]
  generalize (lg_sl ([.int (bI b)]) ++ List.replicate (1 - (lg_sl ([.int (bI b)])).length) Slot.unset).toArray = ls at hl ⊢
  have hl : lv_has ls 1 [(0, .int (bI b))] := hl
  have hgen := True.intro
  refine lv_iload_n hx hb dX5_told_0 rfl (lv_at hl 0 rfl) ?_
  refine b_eq (b := b) (tgt := 8) hx hb dX5_told_1 (by decide) (fun c1 => ?_) (fun c1 => ?_)
  · refine lv_iconst (v := nI 0) hx hb dX5_told_8 (by decide) ?_
    exact pu_iret (y := yX5_told) hx hb hr hlocks hS (by rw [c1]; rfl) dX5_told_9
  · refine lv_iconst (v := nI 1) hx hb dX5_told_4 (by decide) ?_
    refine lv_goto (tgt := 9) hx hb dX5_told_5 (by decide) ?_
    exact pu_iret (y := yX5_told) hx hb hr hlocks hS (by rw [c1]; rfl) dX5_told_9

set_option maxHeartbeats 4000000 in
set_option maxRecDepth 100000 in
theorem c_X0_allEdges (l : Launch) (D : va_G) (cy : Nat → ClassId) (ad : Nat → Nat) (ch : Int32) {g : GT} (hg : gOK g) : PU l yX0_allEdges wsX0_allEdges ({ frames := 0, cells := 0, slots := 0, locals := 0 }) D cy [.ref (ad 1)] (wG cy ad ch g) ((nI (2 ^ gE g - 1))) := by
  refine Met.ofW (cc := cX0_allEdges) (maxL := 1) (ret := (some .int)) (by decide) rfl ?_
  intro p ev s m args below meth c s₁ B hml hv
  obtain ⟨rfl, hK, hP⟩ := hv
  have hx := B.exec
  have hb := B.bytes
  have hr := B.returns
  have hts := atoms_spec (ws := wsX0_allEdges) B.pre
  have hown : s.vm.findClass RX0 = some m.cls := findClass_of_methodNamed B.named
  have hlocks := B.notSynchronized
  have hS : va_S (fun _ => False) s.heap s.heap [] := va_S.rf
  have hP : va_P D vwCl (wG cy ad ch g) s.heap := hP
  have inX0 : ∀ w ∈ wsX00, w ∈ wsX0_allEdges := by decide +kernel
  have hl := lv_entry ([.ref (ad 1)]) (n := 1) (Nat.le_of_ble_eq_true rfl)
  rw [lg_entry_eq]
  generalize (lg_sl ([.ref (ad 1)]) ++ List.replicate (1 - (lg_sl ([.ref (ad 1)])).length) Slot.unset).toArray = ls at hl ⊢
  have hl : lv_has ls 1 [(0, .ref (ad 1))] := hl
  have hgen := True.intro
  have hE := hg.2.2.1
  have hV := hg.1
  have hC := hg.2.1
  refine lv_iconst (v := nI 1) hx hb dX0_allEdges_0 (by decide) ?_
  refine lv_aload_n hx hb dX0_allEdges_1 rfl (lv_at hl 0 rfl) ?_
  refine va_get (D := D) (ci := 0) (v := .int (nI (gE g))) (C := RX0) (T := TX0) (N := 9) hx hb hts inX0 hown hK.1 hP 0 rfl rfl 2 (by decide) (hts (.fieldLink RX0 34 "ColourForests$Graph" "edges" "I") (List.mem_of_getElem? (i := 1) rfl)) (fun _ h9 => h9) rfl dX0_allEdges_2 ?_
  refine lv_ishl hx hb dX0_allEdges_5 ?_
  refine lv_as (y := (nI (2 ^ (gE g)))) (ni_bit (by omega)) ?_
  refine lv_iconst (v := nI 1) hx hb dX0_allEdges_6 (by decide) ?_
  refine lv_isub hx hb dX0_allEdges_7 ?_
  refine lv_as (y := (nI (2 ^ gE g - 1))) (ni_sub (Nat.two_pow_pos _)) ?_
  exact pu_iret (y := yX0_allEdges) hx hb hr hlocks hS (by first | rfl | (simp [bI, *]; done) | (simp_all [bI]; done)) dX0_allEdges_8

set_option maxHeartbeats 4000000 in
set_option maxRecDepth 100000 in
theorem c_X0_hasVertex (l : Launch) (D : va_G) (cy : Nat → ClassId) (ad : Nat → Nat) (ch : Int32) {g : GT} (hg : gOK g) (x : Int32) : PU l yX0_hasVertex wsX0_hasVertex ({ frames := 1, cells := 0, slots := 0, locals := 22 }) D cy [.ref (ad 1), .int x] (wG cy ad ch g) ((bI (isN x (gV g)))) := by
  refine Met.ofW (cc := cX0_hasVertex) (maxL := 2) (ret := (some .boolean)) (by decide) rfl ?_
  intro p ev s m args below meth c s₁ B hml hv
  obtain ⟨rfl, hK, hP⟩ := hv
  have hx := B.exec
  have hb := B.bytes
  have hr := B.returns
  have hts := atoms_spec (ws := wsX0_hasVertex) B.pre
  have hown : s.vm.findClass RX0 = some m.cls := findClass_of_methodNamed B.named
  have hlocks := B.notSynchronized
  have hS : va_S (fun _ => False) s.heap s.heap [] := va_S.rf
  have hP : va_P D vwCl (wG cy ad ch g) s.heap := hP
  have inX0 : ∀ w ∈ wsX00, w ∈ wsX0_hasVertex := by decide +kernel
  have hl := lv_entry ([.ref (ad 1), .int x]) (n := 2) (Nat.le_of_ble_eq_true rfl)
  rw [lg_entry_eq]
  generalize (lg_sl ([.ref (ad 1), .int x]) ++ List.replicate (2 - (lg_sl ([.ref (ad 1), .int x])).length) Slot.unset).toArray = ls at hl ⊢
  have hl : lv_has ls 2 [(0, .ref (ad 1)), (1, .int x)] := hl
  have hgen := True.intro
  have hE := hg.2.2.1
  have hV := hg.1
  have hC := hg.2.1
  refine lv_iload_n hx hb dX0_hasVertex_0 rfl (lv_at hl 1 rfl) ?_
  refine lv_iconst (v := nI 0) hx hb dX0_hasVertex_1 (by decide) ?_
  refine lv_aload_n hx hb dX0_hasVertex_2 rfl (lv_at hl 0 rfl) ?_
  refine va_get (D := D) (ci := 0) (v := .int (nI (gV g))) (C := RX0) (T := TX0) (N := 9) hx hb hts inX0 hown hK.1 hP 0 rfl rfl 0 (by decide) (hts (.fieldLink RX0 27 "ColourForests$Graph" "vertices" "I") (List.mem_of_getElem? (i := 1) rfl)) (fun _ h9 => h9) rfl dX0_hasVertex_3 ?_
  refine lv_iconst (v := nI 1) hx hb dX0_hasVertex_6 (by decide) ?_
  refine lv_isub hx hb dX0_hasVertex_7 ?_
  refine lv_as (y := (nI (gV g) - nI 1)) rfl ?_
  refine pu_call (va_runSN (As := [.int x, .int (nI 0), .int (nI (gV g) - nI 1)]) (rest := []) ⟨hx, hb, hml, hown, hts⟩ (c_X5_within l D cy x (nI 0) (nI (gV g) - nI 1)) ⟨va_cnB 3 hts gX0_hasVertex_X5_within_n46 rfl rfl rfl (hK.2 _ (List.mem_of_getElem? (i := 0) rfl)) (hts (.initialized RX5) (List.mem_of_getElem? (i := 3) rfl)) (by decide +kernel) ⟨Nat.le_of_ble_eq_true rfl, Nat.le_of_ble_eq_true rfl⟩, (hts (.static yX5_within) (List.mem_of_getElem? (i := 2) rfl)), trivial⟩ (PU_preS hK hP [] rfl) rfl rfl hl.1 rfl (lv_room (Nat.le_of_ble_eq_true rfl)) dX0_hasVertex_8 ⟨(Nat.zero_le _), (Nat.zero_le _)⟩) hS hP (fun H locs hP hS => ?_)
  exact pu_zret hx hb hr hlocks hS (congrArg bI (isN_within x (by omega))) dX0_hasVertex_11

set_option maxHeartbeats 4000000 in
set_option maxRecDepth 100000 in
theorem c_X0_hasColour (l : Launch) (D : va_G) (cy : Nat → ClassId) (ad : Nat → Nat) (ch : Int32) {g : GT} (hg : gOK g) (x : Int32) : PU l yX0_hasColour wsX0_hasColour ({ frames := 1, cells := 0, slots := 0, locals := 22 }) D cy [.ref (ad 1), .int x] (wG cy ad ch g) ((bI (isN x (gC g)))) := by
  refine Met.ofW (cc := cX0_hasColour) (maxL := 2) (ret := (some .boolean)) (by decide) rfl ?_
  intro p ev s m args below meth c s₁ B hml hv
  obtain ⟨rfl, hK, hP⟩ := hv
  have hx := B.exec
  have hb := B.bytes
  have hr := B.returns
  have hts := atoms_spec (ws := wsX0_hasColour) B.pre
  have hown : s.vm.findClass RX0 = some m.cls := findClass_of_methodNamed B.named
  have hlocks := B.notSynchronized
  have hS : va_S (fun _ => False) s.heap s.heap [] := va_S.rf
  have hP : va_P D vwCl (wG cy ad ch g) s.heap := hP
  have inX0 : ∀ w ∈ wsX00, w ∈ wsX0_hasColour := by decide +kernel
  have hl := lv_entry ([.ref (ad 1), .int x]) (n := 2) (Nat.le_of_ble_eq_true rfl)
  rw [lg_entry_eq]
  generalize (lg_sl ([.ref (ad 1), .int x]) ++ List.replicate (2 - (lg_sl ([.ref (ad 1), .int x])).length) Slot.unset).toArray = ls at hl ⊢
  have hl : lv_has ls 2 [(0, .ref (ad 1)), (1, .int x)] := hl
  have hgen := True.intro
  have hE := hg.2.2.1
  have hV := hg.1
  have hC := hg.2.1
  refine lv_iload_n hx hb dX0_hasColour_0 rfl (lv_at hl 1 rfl) ?_
  refine lv_iconst (v := nI 0) hx hb dX0_hasColour_1 (by decide) ?_
  refine lv_aload_n hx hb dX0_hasColour_2 rfl (lv_at hl 0 rfl) ?_
  refine va_get (D := D) (ci := 0) (v := .int (nI (gC g))) (C := RX0) (T := TX0) (N := 9) hx hb hts inX0 hown hK.1 hP 0 rfl rfl 1 (by decide) (hts (.fieldLink RX0 31 "ColourForests$Graph" "colours" "I") (List.mem_of_getElem? (i := 1) rfl)) (fun _ h9 => h9) rfl dX0_hasColour_3 ?_
  refine lv_iconst (v := nI 1) hx hb dX0_hasColour_6 (by decide) ?_
  refine lv_isub hx hb dX0_hasColour_7 ?_
  refine lv_as (y := (nI (gC g) - nI 1)) rfl ?_
  refine pu_call (va_runSN (As := [.int x, .int (nI 0), .int (nI (gC g) - nI 1)]) (rest := []) ⟨hx, hb, hml, hown, hts⟩ (c_X5_within l D cy x (nI 0) (nI (gC g) - nI 1)) ⟨va_cnB 3 hts gX0_hasColour_X5_within_n46 rfl rfl rfl (hK.2 _ (List.mem_of_getElem? (i := 0) rfl)) (hts (.initialized RX5) (List.mem_of_getElem? (i := 3) rfl)) (by decide +kernel) ⟨Nat.le_of_ble_eq_true rfl, Nat.le_of_ble_eq_true rfl⟩, (hts (.static yX5_within) (List.mem_of_getElem? (i := 2) rfl)), trivial⟩ (PU_preS hK hP [] rfl) rfl rfl hl.1 rfl (lv_room (Nat.le_of_ble_eq_true rfl)) dX0_hasColour_8 ⟨(Nat.zero_le _), (Nat.zero_le _)⟩) hS hP (fun H locs hP hS => ?_)
  exact pu_zret hx hb hr hlocks hS (congrArg bI (isN_within x (by omega))) dX0_hasColour_11

set_option maxHeartbeats 4000000 in
set_option maxRecDepth 100000 in
theorem c_X0_hasEdge (l : Launch) (D : va_G) (cy : Nat → ClassId) (ad : Nat → Nat) (ch : Int32) {g : GT} (hg : gOK g) (x : Int32) : PU l yX0_hasEdge wsX0_hasEdge ({ frames := 1, cells := 0, slots := 0, locals := 22 }) D cy [.ref (ad 1), .int x] (wG cy ad ch g) ((bI (isN x (gE g)))) := by
  refine Met.ofW (cc := cX0_hasEdge) (maxL := 2) (ret := (some .boolean)) (by decide) rfl ?_
  intro p ev s m args below meth c s₁ B hml hv
  obtain ⟨rfl, hK, hP⟩ := hv
  have hx := B.exec
  have hb := B.bytes
  have hr := B.returns
  have hts := atoms_spec (ws := wsX0_hasEdge) B.pre
  have hown : s.vm.findClass RX0 = some m.cls := findClass_of_methodNamed B.named
  have hlocks := B.notSynchronized
  have hS : va_S (fun _ => False) s.heap s.heap [] := va_S.rf
  have hP : va_P D vwCl (wG cy ad ch g) s.heap := hP
  have inX0 : ∀ w ∈ wsX00, w ∈ wsX0_hasEdge := by decide +kernel
  have hl := lv_entry ([.ref (ad 1), .int x]) (n := 2) (Nat.le_of_ble_eq_true rfl)
  rw [lg_entry_eq]
  generalize (lg_sl ([.ref (ad 1), .int x]) ++ List.replicate (2 - (lg_sl ([.ref (ad 1), .int x])).length) Slot.unset).toArray = ls at hl ⊢
  have hl : lv_has ls 2 [(0, .ref (ad 1)), (1, .int x)] := hl
  have hgen := True.intro
  have hE := hg.2.2.1
  have hV := hg.1
  have hC := hg.2.1
  refine lv_iload_n hx hb dX0_hasEdge_0 rfl (lv_at hl 1 rfl) ?_
  refine lv_iconst (v := nI 0) hx hb dX0_hasEdge_1 (by decide) ?_
  refine lv_aload_n hx hb dX0_hasEdge_2 rfl (lv_at hl 0 rfl) ?_
  refine va_get (D := D) (ci := 0) (v := .int (nI (gE g))) (C := RX0) (T := TX0) (N := 9) hx hb hts inX0 hown hK.1 hP 0 rfl rfl 2 (by decide) (hts (.fieldLink RX0 34 "ColourForests$Graph" "edges" "I") (List.mem_of_getElem? (i := 1) rfl)) (fun _ h9 => h9) rfl dX0_hasEdge_3 ?_
  refine lv_iconst (v := nI 1) hx hb dX0_hasEdge_6 (by decide) ?_
  refine lv_isub hx hb dX0_hasEdge_7 ?_
  refine lv_as (y := (nI (gE g) - nI 1)) rfl ?_
  refine pu_call (va_runSN (As := [.int x, .int (nI 0), .int (nI (gE g) - nI 1)]) (rest := []) ⟨hx, hb, hml, hown, hts⟩ (c_X5_within l D cy x (nI 0) (nI (gE g) - nI 1)) ⟨va_cnB 3 hts gX0_hasEdge_X5_within_n46 rfl rfl rfl (hK.2 _ (List.mem_of_getElem? (i := 0) rfl)) (hts (.initialized RX5) (List.mem_of_getElem? (i := 3) rfl)) (by decide +kernel) ⟨Nat.le_of_ble_eq_true rfl, Nat.le_of_ble_eq_true rfl⟩, (hts (.static yX5_within) (List.mem_of_getElem? (i := 2) rfl)), trivial⟩ (PU_preS hK hP [] rfl) rfl rfl hl.1 rfl (lv_room (Nat.le_of_ble_eq_true rfl)) dX0_hasEdge_8 ⟨(Nat.zero_le _), (Nat.zero_le _)⟩) hS hP (fun H locs hP hS => ?_)
  exact pu_zret hx hb hr hlocks hS (congrArg bI (isN_within x (by omega))) dX0_hasEdge_11

set_option maxHeartbeats 4000000 in
set_option maxRecDepth 100000 in
theorem c_X0_hasSet (l : Launch) (D : va_G) (cy : Nat → ClassId) (ad : Nat → Nat) (ch : Int32) {g : GT} (hg : gOK g) (x : Int32) : PU l yX0_hasSet wsX0_hasSet ({ frames := 1, cells := 0, slots := 0, locals := 20 }) D cy [.ref (ad 1), .int x] (wG cy ad ch g) ((bI (isN x (2 ^ gE g)))) := by
  refine Met.ofW (cc := cX0_hasSet) (maxL := 2) (ret := (some .boolean)) (by decide) rfl ?_
  intro p ev s m args below meth c s₁ B hml hv
  obtain ⟨rfl, hK, hP⟩ := hv
  have hx := B.exec
  have hb := B.bytes
  have hr := B.returns
  have hts := atoms_spec (ws := wsX0_hasSet) B.pre
  have hown : s.vm.findClass RX0 = some m.cls := findClass_of_methodNamed B.named
  have hlocks := B.notSynchronized
  have hS : va_S (fun _ => False) s.heap s.heap [] := va_S.rf
  have hP : va_P D vwCl (wG cy ad ch g) s.heap := hP
  have inX0 : ∀ w ∈ wsX00, w ∈ wsX0_hasSet := by decide +kernel
  have hl := lv_entry ([.ref (ad 1), .int x]) (n := 2) (Nat.le_of_ble_eq_true rfl)
  rw [lg_entry_eq]
  generalize (lg_sl ([.ref (ad 1), .int x]) ++ List.replicate (2 - (lg_sl ([.ref (ad 1), .int x])).length) Slot.unset).toArray = ls at hl ⊢
  have hl : lv_has ls 2 [(0, .ref (ad 1)), (1, .int x)] := hl
  have hgen := True.intro
  have hE := hg.2.2.1
  have hV := hg.1
  have hC := hg.2.1
  refine lv_iload_n hx hb dX0_hasSet_0 rfl (lv_at hl 1 rfl) ?_
  refine lv_aload_n hx hb dX0_hasSet_1 rfl (lv_at hl 0 rfl) ?_
  refine pu_call (va_runV (As := []) (rest := [.int x]) ⟨hx, hb, hml, hown, hts⟩ (c_X0_allEdges l D cy ad ch hg) (cwV 0 hts gX0_hasSet_X0_allEdges rfl rfl rfl (by decide +kernel) ⟨Nat.le_of_ble_eq_true rfl, Nat.le_of_ble_eq_true rfl⟩) (PU_preV (ci := 0) (q0 := 0) hK hP 0 rfl rfl [0, 1, 2, 3, 4, 5] rfl) rfl rfl hl.1 rfl (lv_room (Nat.le_of_ble_eq_true rfl)) dX0_hasSet_2 ⟨(Nat.zero_le _), (Nat.zero_le _)⟩) hS hP (fun H locs hP hS => ?_)
  refine lv_iconst (v := zI (-1)) hx hb dX0_hasSet_5 (by decide) ?_
  refine lv_ixor hx hb dX0_hasSet_6 ?_
  refine lv_as (y := (nI (2 ^ gE g - 1) ^^^ zI (-1))) rfl ?_
  refine lv_iand hx hb dX0_hasSet_7 ?_
  refine lv_as (y := (x &&& (nI (2 ^ gE g - 1) ^^^ zI (-1)))) rfl ?_
  refine lv_if_ne (tgt := 15) hx hb dX0_hasSet_8 (by decide) (fun c8 => ?_) (fun c8 => ?_)
  · have c8 : isN x (2 ^ gE g) = false := by cases h : isN x (2 ^ gE g); rfl; exact absurd ((hasSet_of x (by omega)).mpr h) c8
    refine lv_iconst (v := nI 0) hx hb dX0_hasSet_15 (by decide) ?_
    exact pu_zret hx hb hr hlocks hS (by rw [c8]; rfl) dX0_hasSet_16
  · have c8 : isN x (2 ^ gE g) = true := (hasSet_of x (by omega)).mp c8
    refine lv_iconst (v := nI 1) hx hb dX0_hasSet_11 (by decide) ?_
    refine lv_goto (tgt := 16) hx hb dX0_hasSet_12 (by decide) ?_
    exact pu_zret hx hb hr hlocks hS (by rw [c8]; rfl) dX0_hasSet_16

set_option maxHeartbeats 4000000 in
set_option maxRecDepth 100000 in
theorem c_X0_joinsTwoParts (l : Launch) (D : va_G) (cy : Nat → ClassId) (ad : Nat → Nat) (ch : Int32) {g : GT} (hg : gOK g) {f : Nat → Nat} (hf : ∀ v, v < 8 → f v < 8) {e : Nat} (he : e < gE g) : PU l yX0_joinsTwoParts wsX0_joinsTwoParts ({ frames := 1, cells := 0, slots := 0, locals := 21 }) D cy [.ref (ad 1), .int (nI (pk f)), .int (nI e)] (wG cy ad ch g) ((bI (decide (f (gF g e) ≠ f (gS g e))))) := by
  refine Met.ofW (cc := cX0_joinsTwoParts) (maxL := 3) (ret := (some .boolean)) (by decide) rfl ?_
  intro p ev s m args below meth c s₁ B hml hv
  obtain ⟨rfl, hK, hP⟩ := hv
  have hx := B.exec
  have hb := B.bytes
  have hr := B.returns
  have hts := atoms_spec (ws := wsX0_joinsTwoParts) B.pre
  have hown : s.vm.findClass RX0 = some m.cls := findClass_of_methodNamed B.named
  have hlocks := B.notSynchronized
  have hS : va_S (fun _ => False) s.heap s.heap [] := va_S.rf
  have hP : va_P D vwCl (wG cy ad ch g) s.heap := hP
  have inX0 : ∀ w ∈ wsX00, w ∈ wsX0_joinsTwoParts := by decide +kernel
  have hl := lv_entry ([.ref (ad 1), .int (nI (pk f)), .int (nI e)]) (n := 3) (Nat.le_of_ble_eq_true rfl)
  rw [lg_entry_eq]
  generalize (lg_sl ([.ref (ad 1), .int (nI (pk f)), .int (nI e)]) ++ List.replicate (3 - (lg_sl ([.ref (ad 1), .int (nI (pk f)), .int (nI e)])).length) Slot.unset).toArray = ls at hl ⊢
  have hl : lv_has ls 3 [(0, .ref (ad 1)), (1, .int (nI (pk f))), (2, .int (nI e))] := hl
  have hgen := True.intro
  have hE := hg.2.2.1
  have hV := hg.1
  have hC := hg.2.1
  obtain ⟨he1, he2, he3, he4, he5⟩ := hg.2.2.2.2 e he
  have hf1 := hf (gF g e) (by omega)
  have hf2 := hf (gS g e) (by omega)
  refine lv_iload_n hx hb dX0_joinsTwoParts_0 rfl (lv_at hl 1 rfl) ?_
  refine lv_aload_n hx hb dX0_joinsTwoParts_1 rfl (lv_at hl 0 rfl) ?_
  refine va_get (D := D) (ci := 0) (v := .ref (ad 3)) (C := RX0) (T := TX0) (N := 9) hx hb hts inX0 hown hK.1 hP 0 rfl rfl 5 (by decide) (hts (.fieldLink RX0 15 "ColourForests$Graph" "firstEnds" "[I") (List.mem_of_getElem? (i := 1) rfl)) (fun _ h9 => h9) rfl dX0_joinsTwoParts_2 ?_
  refine lv_iload_n hx hb dX0_joinsTwoParts_5 rfl (lv_at hl 2 rfl) ?_
  refine rd_i (k := e) (v := (nI (gF g e))) hx hb hK hP 2 rfl (by omega) (by decide) rfl dX0_joinsTwoParts_6 ?_
  refine pu_call (va_runSN (As := [.int (nI (pk f)), .int (nI (gF g e))]) (rest := []) ⟨hx, hb, hml, hown, hts⟩ (c_X5_cell l D cy (f := f) (b8_16 hf) (p9 := gF g e) (by omega)) ⟨va_cnB 2 hts gX0_joinsTwoParts_X5_cell_n58 rfl rfl rfl (hK.2 _ (List.mem_of_getElem? (i := 2) rfl)) (hts (.initialized RX5) (List.mem_of_getElem? (i := 4) rfl)) (by decide +kernel) ⟨Nat.le_of_ble_eq_true rfl, Nat.le_of_ble_eq_true rfl⟩, (hts (.static yX5_cell) (List.mem_of_getElem? (i := 3) rfl)), trivial⟩ (PU_preS hK hP [] rfl) rfl rfl hl.1 rfl (lv_room (Nat.le_of_ble_eq_true rfl)) dX0_joinsTwoParts_7 ⟨(Nat.zero_le _), (Nat.zero_le _)⟩) hS hP (fun H locs hP hS => ?_)
  refine lv_iload_n hx hb dX0_joinsTwoParts_10 rfl (lv_at hl 1 rfl) ?_
  refine lv_aload_n hx hb dX0_joinsTwoParts_11 rfl (lv_at hl 0 rfl) ?_
  refine va_get (D := D) (ci := 0) (v := .ref (ad 4)) (C := RX0) (T := TX0) (N := 9) hx hb hts inX0 hown hK.1 hP 0 rfl rfl 6 (by decide) (hts (.fieldLink RX0 18 "ColourForests$Graph" "secondEnds" "[I") (List.mem_of_getElem? (i := 2) rfl)) (fun _ h9 => h9) rfl dX0_joinsTwoParts_12 ?_
  refine lv_iload_n hx hb dX0_joinsTwoParts_15 rfl (lv_at hl 2 rfl) ?_
  refine rd_i (k := e) (v := (nI (gS g e))) hx hb hK hP 3 rfl (by omega) (by decide) rfl dX0_joinsTwoParts_16 ?_
  refine pu_call (va_runSN (As := [.int (nI (pk f)), .int (nI (gS g e))]) (rest := [.int (nI (f (gF g e)))]) ⟨hx, hb, hml, hown, hts⟩ (c_X5_cell l D cy (f := f) (b8_16 hf) (p9 := gS g e) (by omega)) ⟨va_cnB 2 hts gX0_joinsTwoParts_X5_cell_n58 rfl rfl rfl (hK.2 _ (List.mem_of_getElem? (i := 2) rfl)) (hts (.initialized RX5) (List.mem_of_getElem? (i := 4) rfl)) (by decide +kernel) ⟨Nat.le_of_ble_eq_true rfl, Nat.le_of_ble_eq_true rfl⟩, (hts (.static yX5_cell) (List.mem_of_getElem? (i := 3) rfl)), trivial⟩ (PU_preS hK hP [] rfl) rfl rfl hl.1 rfl (lv_room (Nat.le_of_ble_eq_true rfl)) dX0_joinsTwoParts_17 ⟨(Nat.zero_le _), (Nat.zero_le _)⟩) hS hP (fun H locs hP hS => ?_)
  refine n_eq (a := (f (gF g e))) (b := (f (gS g e))) (tgt := 27) hx hb dX0_joinsTwoParts_20 (by decide) (by omega) (by omega) (fun c20 => ?_) (fun c20 => ?_)
  · refine lv_iconst (v := nI 0) hx hb dX0_joinsTwoParts_27 (by decide) ?_
    exact pu_zret hx hb hr hlocks hS (by first | (rw [decide_eq_true c20]; rfl) | (rw [decide_eq_false (fun q => q c20)]; rfl)) dX0_joinsTwoParts_28
  · refine lv_iconst (v := nI 1) hx hb dX0_joinsTwoParts_23 (by decide) ?_
    refine lv_goto (tgt := 28) hx hb dX0_joinsTwoParts_24 (by decide) ?_
    exact pu_zret hx hb hr hlocks hS (by first | (rw [decide_eq_true c20]; rfl) | (rw [decide_eq_false (fun q => q c20)]; rfl)) dX0_joinsTwoParts_28

set_option maxHeartbeats 4000000 in
set_option maxRecDepth 100000 in
theorem c_X0_hasRoom (l : Launch) (D : va_G) (cy : Nat → ClassId) (ad : Nat → Nat) (ch : Int32) {g : GT} (hg : gOK g) {f : Nat → Nat} (hf : ∀ v, v < 8 → f v < 16) {e : Nat} (he : e < gE g) : PU l yX0_hasRoom wsX0_hasRoom ({ frames := 1, cells := 0, slots := 0, locals := 21 }) D cy [.ref (ad 1), .int (nI (pk f)), .int (nI e)] (wG cy ad ch g) ((bI (decide (0 < f (gH g e))))) := by
  refine Met.ofW (cc := cX0_hasRoom) (maxL := 3) (ret := (some .boolean)) (by decide) rfl ?_
  intro p ev s m args below meth c s₁ B hml hv
  obtain ⟨rfl, hK, hP⟩ := hv
  have hx := B.exec
  have hb := B.bytes
  have hr := B.returns
  have hts := atoms_spec (ws := wsX0_hasRoom) B.pre
  have hown : s.vm.findClass RX0 = some m.cls := findClass_of_methodNamed B.named
  have hlocks := B.notSynchronized
  have hS : va_S (fun _ => False) s.heap s.heap [] := va_S.rf
  have hP : va_P D vwCl (wG cy ad ch g) s.heap := hP
  have inX0 : ∀ w ∈ wsX00, w ∈ wsX0_hasRoom := by decide +kernel
  have hl := lv_entry ([.ref (ad 1), .int (nI (pk f)), .int (nI e)]) (n := 3) (Nat.le_of_ble_eq_true rfl)
  rw [lg_entry_eq]
  generalize (lg_sl ([.ref (ad 1), .int (nI (pk f)), .int (nI e)]) ++ List.replicate (3 - (lg_sl ([.ref (ad 1), .int (nI (pk f)), .int (nI e)])).length) Slot.unset).toArray = ls at hl ⊢
  have hl : lv_has ls 3 [(0, .ref (ad 1)), (1, .int (nI (pk f))), (2, .int (nI e))] := hl
  have hgen := True.intro
  have hE := hg.2.2.1
  have hV := hg.1
  have hC := hg.2.1
  obtain ⟨he1, he2, he3, he4, he5⟩ := hg.2.2.2.2 e he
  have hf1 := hf (gH g e) (by omega)
  refine lv_iload_n hx hb dX0_hasRoom_0 rfl (lv_at hl 1 rfl) ?_
  refine lv_aload_n hx hb dX0_hasRoom_1 rfl (lv_at hl 0 rfl) ?_
  refine va_get (D := D) (ci := 0) (v := .ref (ad 5)) (C := RX0) (T := TX0) (N := 9) hx hb hts inX0 hown hK.1 hP 0 rfl rfl 7 (by decide) (hts (.fieldLink RX0 21 "ColourForests$Graph" "hues" "[I") (List.mem_of_getElem? (i := 1) rfl)) (fun _ h9 => h9) rfl dX0_hasRoom_2 ?_
  refine lv_iload_n hx hb dX0_hasRoom_5 rfl (lv_at hl 2 rfl) ?_
  refine rd_i (k := e) (v := (nI (gH g e))) hx hb hK hP 4 rfl (by omega) (by decide) rfl dX0_hasRoom_6 ?_
  refine pu_call (va_runSN (As := [.int (nI (pk f)), .int (nI (gH g e))]) (rest := []) ⟨hx, hb, hml, hown, hts⟩ (c_X5_cell l D cy (f := f) hf (p9 := gH g e) (by omega)) ⟨va_cnB 2 hts gX0_hasRoom_X5_cell_n58 rfl rfl rfl (hK.2 _ (List.mem_of_getElem? (i := 2) rfl)) (hts (.initialized RX5) (List.mem_of_getElem? (i := 3) rfl)) (by decide +kernel) ⟨Nat.le_of_ble_eq_true rfl, Nat.le_of_ble_eq_true rfl⟩, (hts (.static yX5_cell) (List.mem_of_getElem? (i := 2) rfl)), trivial⟩ (PU_preS hK hP [] rfl) rfl rfl hl.1 rfl (lv_room (Nat.le_of_ble_eq_true rfl)) dX0_hasRoom_7 ⟨(Nat.zero_le _), (Nat.zero_le _)⟩) hS hP (fun H locs hP hS => ?_)
  refine lv_if_le (tgt := 17) hx hb dX0_hasRoom_10 (by decide) (fun c10 => ?_) (fun c10 => ?_)
  · have c10 := (nI_leI (a := f (gH g e)) (b := 0) (by omega) (by omega)).mp (by rw [nI_0]; exact c10)
    have c10 : ¬ 0 < f (gH g e) := by omega
    refine lv_iconst (v := nI 0) hx hb dX0_hasRoom_17 (by decide) ?_
    exact pu_zret hx hb hr hlocks hS (by first | (rw [decide_eq_true c10]; rfl) | (rw [decide_eq_false c10]; rfl)) dX0_hasRoom_18
  · have c10 : 0 < f (gH g e) := Nat.pos_of_ne_zero (fun q => c10 (by rw [q]; decide))
    refine lv_iconst (v := nI 1) hx hb dX0_hasRoom_13 (by decide) ?_
    refine lv_goto (tgt := 18) hx hb dX0_hasRoom_14 (by decide) ?_
    exact pu_zret hx hb hr hlocks hS (by first | (rw [decide_eq_true c10]; rfl) | (rw [decide_eq_false c10]; rfl)) dX0_hasRoom_18

set_option maxHeartbeats 4000000 in
set_option maxRecDepth 100000 in
theorem c_X0_roomAfter (l : Launch) (D : va_G) (cy : Nat → ClassId) (ad : Nat → Nat) (ch : Int32) {g : GT} (hg : gOK g) {f : Nat → Nat} (hf : ∀ v, v < 8 → f v < 16) {e : Nat} (he : e < gE g) (hpos : 0 < f (gH g e)) : PU l yX0_roomAfter wsX0_roomAfter ({ frames := 1, cells := 0, slots := 0, locals := 23 }) D cy [.ref (ad 1), .int (nI (pk f)), .int (nI e)] (wG cy ad ch g) ((nI (pk (upN f (gH g e) (f (gH g e) - 1))))) := by
  refine Met.ofW (cc := cX0_roomAfter) (maxL := 3) (ret := (some .int)) (by decide) rfl ?_
  intro p ev s m args below meth c s₁ B hml hv
  obtain ⟨rfl, hK, hP⟩ := hv
  have hx := B.exec
  have hb := B.bytes
  have hr := B.returns
  have hts := atoms_spec (ws := wsX0_roomAfter) B.pre
  have hown : s.vm.findClass RX0 = some m.cls := findClass_of_methodNamed B.named
  have hlocks := B.notSynchronized
  have hS : va_S (fun _ => False) s.heap s.heap [] := va_S.rf
  have hP : va_P D vwCl (wG cy ad ch g) s.heap := hP
  have inX0 : ∀ w ∈ wsX00, w ∈ wsX0_roomAfter := by decide +kernel
  have hl := lv_entry ([.ref (ad 1), .int (nI (pk f)), .int (nI e)]) (n := 3) (Nat.le_of_ble_eq_true rfl)
  rw [lg_entry_eq]
  generalize (lg_sl ([.ref (ad 1), .int (nI (pk f)), .int (nI e)]) ++ List.replicate (3 - (lg_sl ([.ref (ad 1), .int (nI (pk f)), .int (nI e)])).length) Slot.unset).toArray = ls at hl ⊢
  have hl : lv_has ls 3 [(0, .ref (ad 1)), (1, .int (nI (pk f))), (2, .int (nI e))] := hl
  have hgen := True.intro
  have hE := hg.2.2.1
  have hV := hg.1
  have hC := hg.2.1
  obtain ⟨he1, he2, he3, he4, he5⟩ := hg.2.2.2.2 e he
  have hf1 := hf (gH g e) (by omega)
  refine lv_iload_n hx hb dX0_roomAfter_0 rfl (lv_at hl 1 rfl) ?_
  refine lv_aload_n hx hb dX0_roomAfter_1 rfl (lv_at hl 0 rfl) ?_
  refine va_get (D := D) (ci := 0) (v := .ref (ad 5)) (C := RX0) (T := TX0) (N := 9) hx hb hts inX0 hown hK.1 hP 0 rfl rfl 7 (by decide) (hts (.fieldLink RX0 21 "ColourForests$Graph" "hues" "[I") (List.mem_of_getElem? (i := 1) rfl)) (fun _ h9 => h9) rfl dX0_roomAfter_2 ?_
  refine lv_iload_n hx hb dX0_roomAfter_5 rfl (lv_at hl 2 rfl) ?_
  refine rd_i (k := e) (v := (nI (gH g e))) hx hb hK hP 4 rfl (by omega) (by decide) rfl dX0_roomAfter_6 ?_
  refine lv_iload_n hx hb dX0_roomAfter_7 rfl (lv_at hl 1 rfl) ?_
  refine lv_aload_n hx hb dX0_roomAfter_8 rfl (lv_at hl 0 rfl) ?_
  refine va_get (D := D) (ci := 0) (v := .ref (ad 5)) (C := RX0) (T := TX0) (N := 9) hx hb hts inX0 hown hK.1 hP 0 rfl rfl 7 (by decide) (hts (.fieldLink RX0 21 "ColourForests$Graph" "hues" "[I") (List.mem_of_getElem? (i := 1) rfl)) (fun _ h9 => h9) rfl dX0_roomAfter_9 ?_
  refine lv_iload_n hx hb dX0_roomAfter_12 rfl (lv_at hl 2 rfl) ?_
  refine rd_i (k := e) (v := (nI (gH g e))) hx hb hK hP 4 rfl (by omega) (by decide) rfl dX0_roomAfter_13 ?_
  refine pu_call (va_runSN (As := [.int (nI (pk f)), .int (nI (gH g e))]) (rest := [.int (nI (gH g e)), .int (nI (pk f))]) ⟨hx, hb, hml, hown, hts⟩ (c_X5_cell l D cy (f := f) hf (p9 := gH g e) (by omega)) ⟨va_cnB 2 hts gX0_roomAfter_X5_cell_n58 rfl rfl rfl (hK.2 _ (List.mem_of_getElem? (i := 2) rfl)) (hts (.initialized RX5) (List.mem_of_getElem? (i := 3) rfl)) (by decide +kernel) ⟨Nat.le_of_ble_eq_true rfl, Nat.le_of_ble_eq_true rfl⟩, (hts (.static yX5_cell) (List.mem_of_getElem? (i := 2) rfl)), trivial⟩ (PU_preS hK hP [] rfl) rfl rfl hl.1 rfl (lv_room (Nat.le_of_ble_eq_true rfl)) dX0_roomAfter_14 ⟨(Nat.zero_le _), (Nat.zero_le _)⟩) hS hP (fun H locs hP hS => ?_)
  refine lv_iconst (v := nI 1) hx hb dX0_roomAfter_17 (by decide) ?_
  refine lv_isub hx hb dX0_roomAfter_18 ?_
  refine lv_as (y := (nI ((f (gH g e)) - 1))) (ni_sub (by omega)) ?_
  refine pu_call (va_runSN (As := [.int (nI (pk f)), .int (nI (gH g e)), .int (nI ((f (gH g e)) - 1))]) (rest := []) ⟨hx, hb, hml, hown, hts⟩ (c_X5_withCell l D cy (f := f) hf (p9 := gH g e) (x9 := (f (gH g e)) - 1) (by omega) (by omega)) ⟨va_cnB 3 hts gX0_roomAfter_X5_withCell_n54 rfl rfl rfl (hK.2 _ (List.mem_of_getElem? (i := 1) rfl)) (hts (.initialized RX5) (List.mem_of_getElem? (i := 3) rfl)) (by decide +kernel) ⟨Nat.le_of_ble_eq_true rfl, Nat.le_of_ble_eq_true rfl⟩, (hts (.static yX5_withCell) (List.mem_of_getElem? (i := 5) rfl)), trivial⟩ (PU_preS hK hP [] rfl) rfl rfl hl.1 rfl (lv_room (Nat.le_of_ble_eq_true rfl)) dX0_roomAfter_19 ⟨(Nat.zero_le _), (Nat.zero_le _)⟩) hS hP (fun H locs hP hS => ?_)
  exact pu_iret (y := yX0_roomAfter) hx hb hr hlocks hS (by first | rfl | (simp [bI, *]; done) | (simp_all [bI]; done)) dX0_roomAfter_22

set_option maxHeartbeats 4000000 in
set_option maxRecDepth 100000 in
theorem c_X0_loneParts (l : Launch) (D : va_G) (cy : Nat → ClassId) (ad : Nat → Nat) (ch : Int32) {g : GT} (hg : gOK g) : PU l yX0_loneParts wsX0_loneParts ({ frames := 1, cells := 0, slots := 0, locals := 23 }) D cy [.ref (ad 1)] (wG cy ad ch g) ((nI (pk (lone (gV g))))) := by
  refine Met.ofW (cc := cX0_loneParts) (maxL := 3) (ret := (some .int)) (by decide) rfl ?_
  intro p ev s m args below meth c s₁ B hml hv
  obtain ⟨rfl, hK, hP⟩ := hv
  have hx := B.exec
  have hb := B.bytes
  have hr := B.returns
  have hts := atoms_spec (ws := wsX0_loneParts) B.pre
  have hown : s.vm.findClass RX0 = some m.cls := findClass_of_methodNamed B.named
  have hlocks := B.notSynchronized
  have hS : va_S (fun _ => False) s.heap s.heap [] := va_S.rf
  have hP : va_P D vwCl (wG cy ad ch g) s.heap := hP
  have inX0 : ∀ w ∈ wsX00, w ∈ wsX0_loneParts := by decide +kernel
  have hl := lv_entry ([.ref (ad 1)]) (n := 3) (Nat.le_of_ble_eq_true rfl)
  rw [lg_entry_eq]
  generalize (lg_sl ([.ref (ad 1)]) ++ List.replicate (3 - (lg_sl ([.ref (ad 1)])).length) Slot.unset).toArray = ls at hl ⊢
  have hl : lv_has ls 3 [(0, .ref (ad 1))] := hl
  have hgen := True.intro
  have hE := hg.2.2.1
  have hV := hg.1
  have hC := hg.2.1
  refine lv_iconst (v := nI 0) hx hb dX0_loneParts_0 (by decide) ?_
  refine lv_istore_n (lv' := [(1, .int (nI 0)), (0, .ref (ad 1))]) hx hb dX0_loneParts_1 rfl hl (by decide) rfl (fun ls hl => ?_)
  refine lv_iconst (v := nI 0) hx hb dX0_loneParts_2 (by decide) ?_
  refine lv_istore_n (lv' := [(2, .int (nI 0)), (1, .int (nI 0)), (0, .ref (ad 1))]) hx hb dX0_loneParts_3 rfl hl (by decide) rfl (fun ls hl => ?_)
  have L4 : ∀ (n : Nat) (v : Nat), v ≤ gV g ∧ gV g + 1 ≤ v + n → ∀ (H : Heap) (locs : List Loc), va_P D vwCl (wG cy ad ch g) H → va_S (fun _ => False) s.heap H locs → ∀ (ls : Array Slot), lv_has ls 3 [(0, .ref (ad 1)), (1, .int (nI (pk (mixN v (fun v => v) (fun _ => 0))))), (2, .int (nI v))] → W p l ev (headSpec wsX0_loneParts ({ frames := 1, cells := 0, slots := 0, locals := 23 })).room s m [.ref (ad 1)].toArray below meth c H locs 0 0 (MQ below (va_Qi (fun (x : Int32) (_ : Unit) => x = (nI (pk (lone (gV g))))) (fun _ _ => True) (fun _ => False)) [.ref (ad 1)].toArray s 0 0 (fun _ => False)) (F0 m 4 ls []) := by
    intro n
    induction n with
    | zero =>
      intro v hfuel  H locs hP hS ls hl
      exact absurd hfuel.2 (by have := hfuel.1; omega)
    | succ n ih4 =>
      intro v hfuel  H locs hP hS ls hl
      obtain ⟨hfu1, hfu2⟩ := hfuel
      have hm : ∀ u, u < 8 → mixN v (fun v => v) (fun _ => 0) u < 16 := mixN_lt (fun v hv => by omega) (fun v hv => by omega)
      refine lv_iload_n hx hb dX0_loneParts_4 rfl (lv_at hl 2 rfl) ?_
      refine lv_aload_n hx hb dX0_loneParts_5 rfl (lv_at hl 0 rfl) ?_
      refine va_get (D := D) (ci := 0) (v := .int (nI (gV g))) (C := RX0) (T := TX0) (N := 9) hx hb hts inX0 hown hK.1 hP 0 rfl rfl 0 (by decide) (hts (.fieldLink RX0 27 "ColourForests$Graph" "vertices" "I") (List.mem_of_getElem? (i := 1) rfl)) (fun _ h9 => h9) rfl dX0_loneParts_6 ?_
      refine n_ge (a := v) (b := (gV g)) (tgt := 25) hx hb dX0_loneParts_9 (by decide) (by omega) (by omega) (fun c9 => ?_) (fun c9 => ?_)
      · refine lv_iload_n hx hb dX0_loneParts_25 rfl (lv_at hl 1 rfl) ?_
        exact pu_iret (y := yX0_loneParts) hx hb hr hlocks hS (by rw [show v = gV g by omega, mixN_lone]) dX0_loneParts_26
      · refine lv_iload_n hx hb dX0_loneParts_12 rfl (lv_at hl 1 rfl) ?_
        refine lv_iload_n hx hb dX0_loneParts_13 rfl (lv_at hl 2 rfl) ?_
        refine lv_iload_n hx hb dX0_loneParts_14 rfl (lv_at hl 2 rfl) ?_
        refine pu_call (va_runSN (As := [.int (nI (pk (mixN v (fun v => v) (fun _ => 0)))), .int (nI v), .int (nI v)]) (rest := []) ⟨hx, hb, hml, hown, hts⟩ (c_X5_withCell l D cy (f := mixN v (fun v => v) (fun _ => 0)) hm (p9 := v) (x9 := v) (by omega) (by omega)) ⟨va_cnB 3 hts gX0_loneParts_X5_withCell_n54 rfl rfl rfl (hK.2 _ (List.mem_of_getElem? (i := 1) rfl)) (hts (.initialized RX5) (List.mem_of_getElem? (i := 3) rfl)) (by decide +kernel) ⟨Nat.le_of_ble_eq_true rfl, Nat.le_of_ble_eq_true rfl⟩, (hts (.static yX5_withCell) (List.mem_of_getElem? (i := 2) rfl)), trivial⟩ (PU_preS hK hP [] rfl) rfl rfl hl.1 rfl (lv_room (Nat.le_of_ble_eq_true rfl)) dX0_loneParts_15 ⟨(Nat.zero_le _), (Nat.zero_le _)⟩) hS hP (fun H locs hP hS => ?_)
        refine lv_istore_n (lv' := [(1, .int (nI (pk (upN (mixN v (fun v => v) (fun _ => 0)) v v)))), (0, .ref (ad 1)), (2, .int (nI v))]) hx hb dX0_loneParts_18 rfl hl (by decide) rfl (fun ls hl => ?_)
        refine lv_iinc (v := (nI (v + 1))) (lv' := [(2, .int (nI (v + 1))), (1, .int (nI (pk (upN (mixN v (fun v => v) (fun _ => 0)) v v)))), (0, .ref (ad 1))]) hx hb dX0_loneParts_19 hl (k := 2) rfl (ni_inc _) (by decide) rfl (fun ls hl => ?_)
        refine lv_goto (tgt := 4) hx hb dX0_loneParts_22 (by decide) ?_
        exact ih4 (v + 1) ⟨by omega, by omega⟩  _ _ hP hS _ (by rw [mixN_s]; exact lv_sub hl [2, 1, 0] rfl)
  exact L4 (gV g + 1) 0 ⟨by omega, by omega⟩  _ _ hP hS _ (by rw [mixN_0, pk_0]; exact lv_sub hl [2, 1, 0] rfl)

set_option maxHeartbeats 4000000 in
set_option maxRecDepth 100000 in
theorem c_X0_fullRoom (l : Launch) (D : va_G) (cy : Nat → ClassId) (ad : Nat → Nat) (ch : Int32) {g : GT} (hg : gOK g) : PU l yX0_fullRoom wsX0_fullRoom ({ frames := 1, cells := 0, slots := 0, locals := 23 }) D cy [.ref (ad 1)] (wG cy ad ch g) ((nI (pk (fulR g)))) := by
  refine Met.ofW (cc := cX0_fullRoom) (maxL := 3) (ret := (some .int)) (by decide) rfl ?_
  intro p ev s m args below meth c s₁ B hml hv
  obtain ⟨rfl, hK, hP⟩ := hv
  have hx := B.exec
  have hb := B.bytes
  have hr := B.returns
  have hts := atoms_spec (ws := wsX0_fullRoom) B.pre
  have hown : s.vm.findClass RX0 = some m.cls := findClass_of_methodNamed B.named
  have hlocks := B.notSynchronized
  have hS : va_S (fun _ => False) s.heap s.heap [] := va_S.rf
  have hP : va_P D vwCl (wG cy ad ch g) s.heap := hP
  have inX0 : ∀ w ∈ wsX00, w ∈ wsX0_fullRoom := by decide +kernel
  have hl := lv_entry ([.ref (ad 1)]) (n := 3) (Nat.le_of_ble_eq_true rfl)
  rw [lg_entry_eq]
  generalize (lg_sl ([.ref (ad 1)]) ++ List.replicate (3 - (lg_sl ([.ref (ad 1)])).length) Slot.unset).toArray = ls at hl ⊢
  have hl : lv_has ls 3 [(0, .ref (ad 1))] := hl
  have hgen := True.intro
  have hE := hg.2.2.1
  have hV := hg.1
  have hC := hg.2.1
  have hLim := hg.2.2.2.1
  refine lv_iconst (v := nI 0) hx hb dX0_fullRoom_0 (by decide) ?_
  refine lv_istore_n (lv' := [(1, .int (nI 0)), (0, .ref (ad 1))]) hx hb dX0_fullRoom_1 rfl hl (by decide) rfl (fun ls hl => ?_)
  refine lv_iconst (v := nI 0) hx hb dX0_fullRoom_2 (by decide) ?_
  refine lv_istore_n (lv' := [(2, .int (nI 0)), (1, .int (nI 0)), (0, .ref (ad 1))]) hx hb dX0_fullRoom_3 rfl hl (by decide) rfl (fun ls hl => ?_)
  have L4 : ∀ (n : Nat) (v : Nat), v ≤ gC g ∧ gC g + 1 ≤ v + n → ∀ (H : Heap) (locs : List Loc), va_P D vwCl (wG cy ad ch g) H → va_S (fun _ => False) s.heap H locs → ∀ (ls : Array Slot), lv_has ls 3 [(0, .ref (ad 1)), (1, .int (nI (pk (mixN v (gL g) (fun _ => 0))))), (2, .int (nI v))] → W p l ev (headSpec wsX0_fullRoom ({ frames := 1, cells := 0, slots := 0, locals := 23 })).room s m [.ref (ad 1)].toArray below meth c H locs 0 0 (MQ below (va_Qi (fun (x : Int32) (_ : Unit) => x = (nI (pk (fulR g)))) (fun _ _ => True) (fun _ => False)) [.ref (ad 1)].toArray s 0 0 (fun _ => False)) (F0 m 4 ls []) := by
    intro n
    induction n with
    | zero =>
      intro v hfuel  H locs hP hS ls hl
      exact absurd hfuel.2 (by have := hfuel.1; omega)
    | succ n ih4 =>
      intro v hfuel  H locs hP hS ls hl
      obtain ⟨hfu1, hfu2⟩ := hfuel
      have hm : ∀ u, u < 8 → mixN v (gL g) (fun _ => 0) u < 16 := mixN_lt (fun v hv => by have := hLim v; omega) (fun v hv => by omega)
      have hlv := hLim v
      refine lv_iload_n hx hb dX0_fullRoom_4 rfl (lv_at hl 2 rfl) ?_
      refine lv_aload_n hx hb dX0_fullRoom_5 rfl (lv_at hl 0 rfl) ?_
      refine va_get (D := D) (ci := 0) (v := .int (nI (gC g))) (C := RX0) (T := TX0) (N := 9) hx hb hts inX0 hown hK.1 hP 0 rfl rfl 1 (by decide) (hts (.fieldLink RX0 31 "ColourForests$Graph" "colours" "I") (List.mem_of_getElem? (i := 1) rfl)) (fun _ h9 => h9) rfl dX0_fullRoom_6 ?_
      refine n_ge (a := v) (b := (gC g)) (tgt := 30) hx hb dX0_fullRoom_9 (by decide) (by omega) (by omega) (fun c9 => ?_) (fun c9 => ?_)
      · refine lv_iload_n hx hb dX0_fullRoom_30 rfl (lv_at hl 1 rfl) ?_
        exact pu_iret (y := yX0_fullRoom) hx hb hr hlocks hS (by rw [show v = gC g by omega, mixN_room]) dX0_fullRoom_31
      · refine lv_iload_n hx hb dX0_fullRoom_12 rfl (lv_at hl 1 rfl) ?_
        refine lv_iload_n hx hb dX0_fullRoom_13 rfl (lv_at hl 2 rfl) ?_
        refine lv_aload_n hx hb dX0_fullRoom_14 rfl (lv_at hl 0 rfl) ?_
        refine va_get (D := D) (ci := 0) (v := .ref (ad 2)) (C := RX0) (T := TX0) (N := 9) hx hb hts inX0 hown hK.1 hP 0 rfl rfl 4 (by decide) (hts (.fieldLink RX0 9 "ColourForests$Graph" "limits" "[I") (List.mem_of_getElem? (i := 2) rfl)) (fun _ h9 => h9) rfl dX0_fullRoom_15 ?_
        refine lv_iload_n hx hb dX0_fullRoom_18 rfl (lv_at hl 2 rfl) ?_
        refine rd_i (k := v) (v := (nI (gL g v))) hx hb hK hP 1 rfl (by omega) (by decide) rfl dX0_fullRoom_19 ?_
        refine pu_call (va_runSN (As := [.int (nI (pk (mixN v (gL g) (fun _ => 0)))), .int (nI v), .int (nI (gL g v))]) (rest := []) ⟨hx, hb, hml, hown, hts⟩ (c_X5_withCell l D cy (f := mixN v (gL g) (fun _ => 0)) hm (p9 := v) (x9 := gL g v) (by omega) (by omega)) ⟨va_cnB 3 hts gX0_fullRoom_X5_withCell_n54 rfl rfl rfl (hK.2 _ (List.mem_of_getElem? (i := 1) rfl)) (hts (.initialized RX5) (List.mem_of_getElem? (i := 4) rfl)) (by decide +kernel) ⟨Nat.le_of_ble_eq_true rfl, Nat.le_of_ble_eq_true rfl⟩, (hts (.static yX5_withCell) (List.mem_of_getElem? (i := 3) rfl)), trivial⟩ (PU_preS hK hP [] rfl) rfl rfl hl.1 rfl (lv_room (Nat.le_of_ble_eq_true rfl)) dX0_fullRoom_20 ⟨(Nat.zero_le _), (Nat.zero_le _)⟩) hS hP (fun H locs hP hS => ?_)
        refine lv_istore_n (lv' := [(1, .int (nI (pk (upN (mixN v (gL g) (fun _ => 0)) v (gL g v))))), (0, .ref (ad 1)), (2, .int (nI v))]) hx hb dX0_fullRoom_23 rfl hl (by decide) rfl (fun ls hl => ?_)
        refine lv_iinc (v := (nI (v + 1))) (lv' := [(2, .int (nI (v + 1))), (1, .int (nI (pk (upN (mixN v (gL g) (fun _ => 0)) v (gL g v))))), (0, .ref (ad 1))]) hx hb dX0_fullRoom_24 hl (k := 2) rfl (ni_inc _) (by decide) rfl (fun ls hl => ?_)
        refine lv_goto (tgt := 4) hx hb dX0_fullRoom_27 (by decide) ?_
        exact ih4 (v + 1) ⟨by omega, by omega⟩  _ _ hP hS _ (by rw [mixN_s]; exact lv_sub hl [2, 1, 0] rfl)
  exact L4 (gC g + 1) 0 ⟨by omega, by omega⟩  _ _ hP hS _ (by rw [mixN_0, pk_0]; exact lv_sub hl [2, 1, 0] rfl)

set_option maxHeartbeats 4000000 in
set_option maxRecDepth 100000 in
theorem c_X0_partsJoinedBy (l : Launch) (D : va_G) (cy : Nat → ClassId) (ad : Nat → Nat) (ch : Int32) {g : GT} (hg : gOK g) {f : Nat → Nat} (hf : ∀ v, v < 8 → f v < 8) {e : Nat} (he : e < gE g) : PU l yX0_partsJoinedBy wsX0_partsJoinedBy ({ frames := 1, cells := 0, slots := 0, locals := 23 }) D cy [.ref (ad 1), .int (nI (pk f)), .int (nI e)] (wG cy ad ch g) ((nI (pk (jn (gV g) f (f (gF g e)) (f (gS g e)))))) := by
  refine Met.ofW (cc := cX0_partsJoinedBy) (maxL := 7) (ret := (some .int)) (by decide) rfl ?_
  intro p ev s m args below meth c s₁ B hml hv
  obtain ⟨rfl, hK, hP⟩ := hv
  have hx := B.exec
  have hb := B.bytes
  have hr := B.returns
  have hts := atoms_spec (ws := wsX0_partsJoinedBy) B.pre
  have hown : s.vm.findClass RX0 = some m.cls := findClass_of_methodNamed B.named
  have hlocks := B.notSynchronized
  have hS : va_S (fun _ => False) s.heap s.heap [] := va_S.rf
  have hP : va_P D vwCl (wG cy ad ch g) s.heap := hP
  have inX0 : ∀ w ∈ wsX00, w ∈ wsX0_partsJoinedBy := by decide +kernel
  have hl := lv_entry ([.ref (ad 1), .int (nI (pk f)), .int (nI e)]) (n := 7) (Nat.le_of_ble_eq_true rfl)
  rw [lg_entry_eq]
  generalize (lg_sl ([.ref (ad 1), .int (nI (pk f)), .int (nI e)]) ++ List.replicate (7 - (lg_sl ([.ref (ad 1), .int (nI (pk f)), .int (nI e)])).length) Slot.unset).toArray = ls at hl ⊢
  have hl : lv_has ls 7 [(0, .ref (ad 1)), (1, .int (nI (pk f))), (2, .int (nI e))] := hl
  have hgen := True.intro
  have hE := hg.2.2.1
  have hV := hg.1
  have hC := hg.2.1
  obtain ⟨he1, he2, he3, he4, he5⟩ := hg.2.2.2.2 e he
  have hf1 := hf (gF g e) (by omega)
  have hf2 := hf (gS g e) (by omega)
  refine lv_iload_n hx hb dX0_partsJoinedBy_0 rfl (lv_at hl 1 rfl) ?_
  refine lv_aload_n hx hb dX0_partsJoinedBy_1 rfl (lv_at hl 0 rfl) ?_
  refine va_get (D := D) (ci := 0) (v := .ref (ad 3)) (C := RX0) (T := TX0) (N := 9) hx hb hts inX0 hown hK.1 hP 0 rfl rfl 5 (by decide) (hts (.fieldLink RX0 15 "ColourForests$Graph" "firstEnds" "[I") (List.mem_of_getElem? (i := 1) rfl)) (fun _ h9 => h9) rfl dX0_partsJoinedBy_2 ?_
  refine lv_iload_n hx hb dX0_partsJoinedBy_5 rfl (lv_at hl 2 rfl) ?_
  refine rd_i (k := e) (v := (nI (gF g e))) hx hb hK hP 2 rfl (by omega) (by decide) rfl dX0_partsJoinedBy_6 ?_
  refine pu_call (va_runSN (As := [.int (nI (pk f)), .int (nI (gF g e))]) (rest := []) ⟨hx, hb, hml, hown, hts⟩ (c_X5_cell l D cy (f := f) (b8_16 hf) (p9 := gF g e) (by omega)) ⟨va_cnB 2 hts gX0_partsJoinedBy_X5_cell_n58 rfl rfl rfl (hK.2 _ (List.mem_of_getElem? (i := 2) rfl)) (hts (.initialized RX5) (List.mem_of_getElem? (i := 5) rfl)) (by decide +kernel) ⟨Nat.le_of_ble_eq_true rfl, Nat.le_of_ble_eq_true rfl⟩, (hts (.static yX5_cell) (List.mem_of_getElem? (i := 4) rfl)), trivial⟩ (PU_preS hK hP [] rfl) rfl rfl hl.1 rfl (lv_room (Nat.le_of_ble_eq_true rfl)) dX0_partsJoinedBy_7 ⟨(Nat.zero_le _), (Nat.zero_le _)⟩) hS hP (fun H locs hP hS => ?_)
  refine lv_istore_n (lv' := [(3, .int (nI (f (gF g e)))), (0, .ref (ad 1)), (1, .int (nI (pk f))), (2, .int (nI e))]) hx hb dX0_partsJoinedBy_10 rfl hl (by decide) rfl (fun ls hl => ?_)
  refine lv_iload_n hx hb dX0_partsJoinedBy_11 rfl (lv_at hl 2 rfl) ?_
  refine lv_aload_n hx hb dX0_partsJoinedBy_12 rfl (lv_at hl 1 rfl) ?_
  refine va_get (D := D) (ci := 0) (v := .ref (ad 4)) (C := RX0) (T := TX0) (N := 9) hx hb hts inX0 hown hK.1 hP 0 rfl rfl 6 (by decide) (hts (.fieldLink RX0 18 "ColourForests$Graph" "secondEnds" "[I") (List.mem_of_getElem? (i := 2) rfl)) (fun _ h9 => h9) rfl dX0_partsJoinedBy_13 ?_
  refine lv_iload_n hx hb dX0_partsJoinedBy_16 rfl (lv_at hl 3 rfl) ?_
  refine rd_i (k := e) (v := (nI (gS g e))) hx hb hK hP 3 rfl (by omega) (by decide) rfl dX0_partsJoinedBy_17 ?_
  refine pu_call (va_runSN (As := [.int (nI (pk f)), .int (nI (gS g e))]) (rest := []) ⟨hx, hb, hml, hown, hts⟩ (c_X5_cell l D cy (f := f) (b8_16 hf) (p9 := gS g e) (by omega)) ⟨va_cnB 2 hts gX0_partsJoinedBy_X5_cell_n58 rfl rfl rfl (hK.2 _ (List.mem_of_getElem? (i := 2) rfl)) (hts (.initialized RX5) (List.mem_of_getElem? (i := 5) rfl)) (by decide +kernel) ⟨Nat.le_of_ble_eq_true rfl, Nat.le_of_ble_eq_true rfl⟩, (hts (.static yX5_cell) (List.mem_of_getElem? (i := 4) rfl)), trivial⟩ (PU_preS hK hP [] rfl) rfl rfl hl.1 rfl (lv_room (Nat.le_of_ble_eq_true rfl)) dX0_partsJoinedBy_18 ⟨(Nat.zero_le _), (Nat.zero_le _)⟩) hS hP (fun H locs hP hS => ?_)
  refine lv_istore (lv' := [(4, .int (nI (f (gS g e)))), (3, .int (nI (f (gF g e)))), (0, .ref (ad 1)), (1, .int (nI (pk f))), (2, .int (nI e))]) hx hb dX0_partsJoinedBy_21 hl (by decide) rfl (fun ls hl => ?_)
  refine lv_iload_n hx hb dX0_partsJoinedBy_23 rfl (lv_at hl 3 rfl) ?_
  refine lv_istore (lv' := [(5, .int (nI (pk f))), (4, .int (nI (f (gS g e)))), (3, .int (nI (f (gF g e)))), (0, .ref (ad 1)), (1, .int (nI (pk f))), (2, .int (nI e))]) hx hb dX0_partsJoinedBy_24 hl (by decide) rfl (fun ls hl => ?_)
  refine lv_iconst (v := nI 0) hx hb dX0_partsJoinedBy_26 (by decide) ?_
  refine lv_istore (lv' := [(6, .int (nI 0)), (5, .int (nI (pk f))), (4, .int (nI (f (gS g e)))), (3, .int (nI (f (gF g e)))), (0, .ref (ad 1)), (1, .int (nI (pk f))), (2, .int (nI e))]) hx hb dX0_partsJoinedBy_27 hl (by decide) rfl (fun ls hl => ?_)
  have L29 : ∀ (n : Nat) (v : Nat), v ≤ gV g ∧ gV g + 1 ≤ v + n → ∀ (H : Heap) (locs : List Loc), va_P D vwCl (wG cy ad ch g) H → va_S (fun _ => False) s.heap H locs → ∀ (ls : Array Slot), lv_has ls 7 [(0, .ref (ad 1)), (1, .int (nI (pk f))), (3, .int (nI (f (gF g e)))), (4, .int (nI (f (gS g e)))), (5, .int (nI (pk (mixN v (fun v => if f v = f (gS g e) then f (gF g e) else f v) f)))), (6, .int (nI v))] → W p l ev (headSpec wsX0_partsJoinedBy ({ frames := 1, cells := 0, slots := 0, locals := 23 })).room s m [.ref (ad 1), .int (nI (pk f)), .int (nI e)].toArray below meth c H locs 0 0 (MQ below (va_Qi (fun (x : Int32) (_ : Unit) => x = (nI (pk (jn (gV g) f (f (gF g e)) (f (gS g e)))))) (fun _ _ => True) (fun _ => False)) [.ref (ad 1), .int (nI (pk f)), .int (nI e)].toArray s 0 0 (fun _ => False)) (F0 m 29 ls []) := by
    intro n
    induction n with
    | zero =>
      intro v hfuel  H locs hP hS ls hl
      exact absurd hfuel.2 (by have := hfuel.1; omega)
    | succ n ih29 =>
      intro v hfuel  H locs hP hS ls hl
      obtain ⟨hfu1, hfu2⟩ := hfuel
      have hm : ∀ u, u < 8 → mixN v (fun v => if f v = f (gS g e) then f (gF g e) else f v) f u < 16 := mixN_lt (fun v hv => by have := hf v hv; show (if _ then _ else _) < _; split <;> omega) (b8_16 hf)
      refine lv_iload hx hb dX0_partsJoinedBy_29 (lv_at hl 5 rfl) ?_
      refine lv_aload_n hx hb dX0_partsJoinedBy_31 rfl (lv_at hl 0 rfl) ?_
      refine va_get (D := D) (ci := 0) (v := .int (nI (gV g))) (C := RX0) (T := TX0) (N := 9) hx hb hts inX0 hown hK.1 hP 0 rfl rfl 0 (by decide) (hts (.fieldLink RX0 27 "ColourForests$Graph" "vertices" "I") (List.mem_of_getElem? (i := 3) rfl)) (fun _ h9 => h9) rfl dX0_partsJoinedBy_32 ?_
      refine n_ge (a := v) (b := (gV g)) (tgt := 65) hx hb dX0_partsJoinedBy_35 (by decide) (by omega) (by omega) (fun c35 => ?_) (fun c35 => ?_)
      · refine lv_iload hx hb dX0_partsJoinedBy_65 (lv_at hl 4 rfl) ?_
        exact pu_iret (y := yX0_partsJoinedBy) hx hb hr hlocks hS (by rw [show v = gV g by omega, mixN_jn]) dX0_partsJoinedBy_67
      · have hfv := hf v (by omega)
        refine lv_iload_n hx hb dX0_partsJoinedBy_38 rfl (lv_at hl 1 rfl) ?_
        refine lv_iload hx hb dX0_partsJoinedBy_39 (lv_at hl 5 rfl) ?_
        refine pu_call (va_runSN (As := [.int (nI (pk f)), .int (nI v)]) (rest := []) ⟨hx, hb, hml, hown, hts⟩ (c_X5_cell l D cy (f := f) (b8_16 hf) (p9 := v) (by omega)) ⟨va_cnB 2 hts gX0_partsJoinedBy_X5_cell_n58 rfl rfl rfl (hK.2 _ (List.mem_of_getElem? (i := 2) rfl)) (hts (.initialized RX5) (List.mem_of_getElem? (i := 5) rfl)) (by decide +kernel) ⟨Nat.le_of_ble_eq_true rfl, Nat.le_of_ble_eq_true rfl⟩, (hts (.static yX5_cell) (List.mem_of_getElem? (i := 4) rfl)), trivial⟩ (PU_preS hK hP [] rfl) rfl rfl hl.1 rfl (lv_room (Nat.le_of_ble_eq_true rfl)) dX0_partsJoinedBy_41 ⟨(Nat.zero_le _), (Nat.zero_le _)⟩) hS hP (fun H locs hP hS => ?_)
        refine lv_iload hx hb dX0_partsJoinedBy_44 (lv_at hl 3 rfl) ?_
        refine n_ne (a := (f v)) (b := (f (gS g e))) (tgt := 59) hx hb dX0_partsJoinedBy_46 (by decide) (by omega) (by omega) (fun c46 => ?_) (fun c46 => ?_)
        · refine lv_iinc (v := (nI (v + 1))) (lv' := [(6, .int (nI (v + 1))), (0, .ref (ad 1)), (1, .int (nI (pk f))), (3, .int (nI (f (gF g e)))), (4, .int (nI (f (gS g e)))), (5, .int (nI (pk (mixN v (fun v => if f v = f (gS g e) then f (gF g e) else f v) f))))]) hx hb dX0_partsJoinedBy_59 hl (k := 5) rfl (ni_inc _) (by decide) rfl (fun ls hl => ?_)
          refine lv_goto (tgt := 29) hx hb dX0_partsJoinedBy_62 (by decide) ?_
          exact ih29 (v + 1) ⟨by omega, by omega⟩  _ _ hP hS _ (by first | (rw [mixN_s, if_pos c46]; exact lv_sub hl [1, 2, 3, 4, 5, 0] rfl) | (rw [mixN_s]; show lv_has _ _ [_, _, _, _, (5, .int (nI (pk (upN _ v (if f v = f (gS g e) then f (gF g e) else f v))))), _]; rw [if_pos c46]; exact lv_sub hl [1, 2, 3, 4, 5, 0] rfl) | (rw [mixN_i (by rw [mixN_at (Nat.le_refl v)]; exact if_neg c46)]; exact lv_sub hl [1, 2, 3, 4, 5, 0] rfl))
        · refine lv_iload hx hb dX0_partsJoinedBy_49 (lv_at hl 4 rfl) ?_
          refine lv_iload hx hb dX0_partsJoinedBy_51 (lv_at hl 5 rfl) ?_
          refine lv_iload_n hx hb dX0_partsJoinedBy_53 rfl (lv_at hl 2 rfl) ?_
          refine pu_call (va_runSN (As := [.int (nI (pk (mixN v (fun v => if f v = f (gS g e) then f (gF g e) else f v) f))), .int (nI v), .int (nI (f (gF g e)))]) (rest := []) ⟨hx, hb, hml, hown, hts⟩ (c_X5_withCell l D cy (f := mixN v (fun v => if f v = f (gS g e) then f (gF g e) else f v) f) hm (p9 := v) (x9 := f (gF g e)) (by omega) (by omega)) ⟨va_cnB 3 hts gX0_partsJoinedBy_X5_withCell_n54 rfl rfl rfl (hK.2 _ (List.mem_of_getElem? (i := 1) rfl)) (hts (.initialized RX5) (List.mem_of_getElem? (i := 5) rfl)) (by decide +kernel) ⟨Nat.le_of_ble_eq_true rfl, Nat.le_of_ble_eq_true rfl⟩, (hts (.static yX5_withCell) (List.mem_of_getElem? (i := 7) rfl)), trivial⟩ (PU_preS hK hP [] rfl) rfl rfl hl.1 rfl (lv_room (Nat.le_of_ble_eq_true rfl)) dX0_partsJoinedBy_54 ⟨(Nat.zero_le _), (Nat.zero_le _)⟩) hS hP (fun H locs hP hS => ?_)
          refine lv_istore (lv' := [(5, .int (nI (pk (upN (mixN v (fun v => if f v = f (gS g e) then f (gF g e) else f v) f) v (f (gF g e)))))), (0, .ref (ad 1)), (1, .int (nI (pk f))), (3, .int (nI (f (gF g e)))), (4, .int (nI (f (gS g e)))), (6, .int (nI v))]) hx hb dX0_partsJoinedBy_57 hl (by decide) rfl (fun ls hl => ?_)
          refine lv_iinc (v := (nI (v + 1))) (lv' := [(6, .int (nI (v + 1))), (5, .int (nI (pk (upN (mixN v (fun v => if f v = f (gS g e) then f (gF g e) else f v) f) v (f (gF g e)))))), (0, .ref (ad 1)), (1, .int (nI (pk f))), (3, .int (nI (f (gF g e)))), (4, .int (nI (f (gS g e))))]) hx hb dX0_partsJoinedBy_59 hl (k := 5) rfl (ni_inc _) (by decide) rfl (fun ls hl => ?_)
          refine lv_goto (tgt := 29) hx hb dX0_partsJoinedBy_62 (by decide) ?_
          exact ih29 (v + 1) ⟨by omega, by omega⟩  _ _ hP hS _ (by first | (rw [mixN_s, if_pos c46]; exact lv_sub hl [2, 3, 4, 5, 1, 0] rfl) | (rw [mixN_s]; show lv_has _ _ [_, _, _, _, (5, .int (nI (pk (upN _ v (if f v = f (gS g e) then f (gF g e) else f v))))), _]; rw [if_pos c46]; exact lv_sub hl [2, 3, 4, 5, 1, 0] rfl) | (rw [mixN_i (by rw [mixN_at (Nat.le_refl v)]; exact if_neg c46)]; exact lv_sub hl [2, 3, 4, 5, 1, 0] rfl))
  exact L29 (gV g + 1) 0 ⟨by omega, by omega⟩  _ _ hP hS _ (by rw [mixN_0]; exact lv_sub hl [4, 5, 3, 2, 1, 0] rfl)

set_option maxHeartbeats 4000000 in
set_option maxRecDepth 100000 in
theorem c_X3_rankOf (l : Launch) (D : va_G) (cy : Nat → ClassId) (ad : Nat → Nat) (ch : Int32) {g : GT} (hg : gOK g) {S : Nat} (hS9 : S < 2 ^ gE g) : PU l yX3_rankOf wsX3_rankOf ({ frames := 2, cells := 0, slots := 0, locals := 49 }) D cy [.ref (ad 7), .int (nI S)] (wK3 cy ad ch g) ((nI (cntA g S (gE g)))) := by
  refine Met.ofW (cc := cX3_rankOf) (maxL := 5) (ret := (some .int)) (by decide) rfl ?_
  intro p ev s m args below meth c s₁ B hml hv
  obtain ⟨rfl, hK, hP⟩ := hv
  have hx := B.exec
  have hb := B.bytes
  have hr := B.returns
  have hts := atoms_spec (ws := wsX3_rankOf) B.pre
  have hown : s.vm.findClass RX3 = some m.cls := findClass_of_methodNamed B.named
  have hlocks := B.notSynchronized
  have hS : va_S (fun _ => False) s.heap s.heap [] := va_S.rf
  have hP : va_P D vwCl (wK3 cy ad ch g) s.heap := hP
  have inX0 : ∀ w ∈ wsX00, w ∈ wsX3_rankOf := by decide +kernel
  have inX3 : ∀ w ∈ wsX30, w ∈ wsX3_rankOf := by decide +kernel
  have hl := lv_entry ([.ref (ad 7), .int (nI S)]) (n := 5) (Nat.le_of_ble_eq_true rfl)
  rw [lg_entry_eq]
  generalize (lg_sl ([.ref (ad 7), .int (nI S)]) ++ List.replicate (5 - (lg_sl ([.ref (ad 7), .int (nI S)])).length) Slot.unset).toArray = ls at hl ⊢
  have hl : lv_has ls 5 [(0, .ref (ad 7)), (1, .int (nI S))] := hl
  have hgen := True.intro
  have hE := hg.2.2.1
  have hV := hg.1
  have hC := hg.2.1
  have hS8 : 2 ^ gE g ≤ 2 ^ 14 := Nat.pow_le_pow_right (by decide) hE
  refine lv_aload_n hx hb dX3_rankOf_0 rfl (lv_at hl 0 rfl) ?_
  refine va_get (D := D) (ci := 2) (v := .ref (ad 1)) (C := RX3) (T := TX3) (N := 1) hx hb hts inX3 hown hK.1 hP 0 rfl rfl 0 (by decide) (hts (.fieldLink RX3 7 "ColourForests$RinglessKind" "graph" "LColourForests$Graph;") (List.mem_of_getElem? (i := 1) rfl)) (u_same (hts (.sameField "ColourForests$RinglessKind" "ColourForests$Kind" "graph" "LColourForests$Graph;") (List.mem_of_getElem? (i := 2) rfl))) rfl dX3_rankOf_1 ?_
  refine pu_call (va_runV (As := []) (rest := []) ⟨hx, hb, hml, hown, hts⟩ (c_X0_loneParts l D cy ad ch hg) (cwV 0 hts gX3_rankOf_X0_loneParts rfl rfl rfl (by decide +kernel) ⟨Nat.le_of_ble_eq_true rfl, Nat.le_of_ble_eq_true rfl⟩) (PU_preV (ci := 0) (q0 := 1) hK hP 0 rfl rfl [1, 2, 3, 4, 5, 6] rfl) rfl rfl hl.1 rfl (lv_room (Nat.le_of_ble_eq_true rfl)) dX3_rankOf_4 ⟨(Nat.zero_le _), (Nat.zero_le _)⟩) hS hP (fun H locs hP hS => ?_)
  refine lv_istore_n (lv' := [(2, .int (nI (pk (lone (gV g))))), (0, .ref (ad 7)), (1, .int (nI S))]) hx hb dX3_rankOf_7 rfl hl (by decide) rfl (fun ls hl => ?_)
  refine lv_iconst (v := nI 0) hx hb dX3_rankOf_8 (by decide) ?_
  refine lv_istore_n (lv' := [(3, .int (nI 0)), (2, .int (nI (pk (lone (gV g))))), (0, .ref (ad 7)), (1, .int (nI S))]) hx hb dX3_rankOf_9 rfl hl (by decide) rfl (fun ls hl => ?_)
  refine lv_iconst (v := nI 0) hx hb dX3_rankOf_10 (by decide) ?_
  refine lv_istore (lv' := [(4, .int (nI 0)), (3, .int (nI 0)), (2, .int (nI (pk (lone (gV g))))), (0, .ref (ad 7)), (1, .int (nI S))]) hx hb dX3_rankOf_11 hl (by decide) rfl (fun ls hl => ?_)
  have L13 : ∀ (n : Nat) (e : Nat), e ≤ gE g ∧ gE g + 1 ≤ e + n → ∀ (H : Heap) (locs : List Loc), va_P D vwCl (wK3 cy ad ch g) H → va_S (fun _ => False) s.heap H locs → ∀ (ls : Array Slot), lv_has ls 5 [(0, .ref (ad 7)), (1, .int (nI S)), (2, .int (nI (pk (labA g S e)))), (3, .int (nI (cntA g S e))), (4, .int (nI e))] → W p l ev (headSpec wsX3_rankOf ({ frames := 2, cells := 0, slots := 0, locals := 49 })).room s m [.ref (ad 7), .int (nI S)].toArray below meth c H locs 0 0 (MQ below (va_Qi (fun (x : Int32) (_ : Unit) => x = (nI (cntA g S (gE g)))) (fun _ _ => True) (fun _ => False)) [.ref (ad 7), .int (nI S)].toArray s 0 0 (fun _ => False)) (F0 m 13 ls []) := by
    intro n
    induction n with
    | zero =>
      intro e hfuel  H locs hP hS ls hl
      exact absurd hfuel.2 (by have := hfuel.1; omega)
    | succ n ih13 =>
      intro e hfuel  H locs hP hS ls hl
      obtain ⟨hfu1, hfu2⟩ := hfuel
      have hlab := labA_lt hg S e hfu1
      refine lv_iload hx hb dX3_rankOf_13 (lv_at hl 4 rfl) ?_
      refine lv_aload_n hx hb dX3_rankOf_15 rfl (lv_at hl 0 rfl) ?_
      refine va_get (D := D) (ci := 2) (v := .ref (ad 1)) (C := RX3) (T := TX3) (N := 1) hx hb hts inX3 hown hK.1 hP 0 rfl rfl 0 (by decide) (hts (.fieldLink RX3 7 "ColourForests$RinglessKind" "graph" "LColourForests$Graph;") (List.mem_of_getElem? (i := 1) rfl)) (u_same (hts (.sameField "ColourForests$RinglessKind" "ColourForests$Kind" "graph" "LColourForests$Graph;") (List.mem_of_getElem? (i := 2) rfl))) rfl dX3_rankOf_16 ?_
      refine va_get (D := D) (ci := 0) (v := .int (nI (gE g))) (C := RX0) (T := TX0) (N := 9) hx hb hts inX0 hown hK.1 hP 1 rfl rfl 2 (by decide) (hts (.fieldLink RX3 19 "ColourForests$Graph" "edges" "I") (List.mem_of_getElem? (i := 3) rfl)) (fun _ h9 => h9) rfl dX3_rankOf_19 ?_
      refine n_ge (a := e) (b := (gE g)) (tgt := 67) hx hb dX3_rankOf_22 (by decide) (by omega) (by omega) (fun c22 => ?_) (fun c22 => ?_)
      · refine lv_iload_n hx hb dX3_rankOf_67 rfl (lv_at hl 3 rfl) ?_
        exact pu_iret (y := yX3_rankOf) hx hb hr hlocks hS (by rw [show e = gE g by omega]) dX3_rankOf_68
      · refine lv_iload_n hx hb dX3_rankOf_25 rfl (lv_at hl 1 rfl) ?_
        refine lv_iload hx hb dX3_rankOf_26 (lv_at hl 4 rfl) ?_
        refine pu_call (va_runSN (As := [.int (nI S), .int (nI e)]) (rest := []) ⟨hx, hb, hml, hown, hts⟩ (c_X5_hasBit l D cy (S := S) (e := e) (by omega) (by omega)) ⟨va_cnB 2 hts gX3_rankOf_X5_hasBit_n23 rfl rfl rfl (hK.2 _ (List.mem_of_getElem? (i := 4) rfl)) (hts (.initialized RX5) (List.mem_of_getElem? (i := 11) rfl)) (by decide +kernel) ⟨Nat.le_of_ble_eq_true rfl, Nat.le_of_ble_eq_true rfl⟩, (hts (.static yX5_hasBit) (List.mem_of_getElem? (i := 13) rfl)), trivial⟩ (PU_preS hK hP [] rfl) rfl rfl hl.1 rfl (lv_room (Nat.le_of_ble_eq_true rfl)) dX3_rankOf_28 ⟨(Nat.zero_le _), (Nat.zero_le _)⟩) hS hP (fun H locs hP hS => ?_)
        refine b_eq (b := (S.testBit e)) (tgt := 61) hx hb dX3_rankOf_31 (by decide) (fun c31 => ?_) (fun c31 => ?_)
        · refine lv_iinc (v := (nI (e + 1))) (lv' := [(4, .int (nI (e + 1))), (0, .ref (ad 7)), (1, .int (nI S)), (2, .int (nI (pk (labA g S e)))), (3, .int (nI (cntA g S e)))]) hx hb dX3_rankOf_61 hl (k := 4) rfl (ni_inc _) (by decide) rfl (fun ls hl => ?_)
          refine lv_goto (tgt := 13) hx hb dX3_rankOf_64 (by decide) ?_
          exact ih13 (e + 1) ⟨by omega, by omega⟩  _ _ hP hS _ (by first | (rw [labA_n (Or.inl c31), cntA_n (Or.inl c31)]; exact lv_sub hl [1, 2, 3, 4, 0] rfl) | (rw [labA_n (Or.inr (Decidable.not_not.mp c44)), cntA_n (Or.inr (Decidable.not_not.mp c44))]; exact lv_sub hl [1, 2, 3, 4, 0] rfl) | (rw [labA_y c31 c44, cntA_y c31 c44]; exact lv_sub hl [1, 2, 3, 4, 0] rfl))
        · refine lv_aload_n hx hb dX3_rankOf_34 rfl (lv_at hl 0 rfl) ?_
          refine va_get (D := D) (ci := 2) (v := .ref (ad 1)) (C := RX3) (T := TX3) (N := 1) hx hb hts inX3 hown hK.1 hP 0 rfl rfl 0 (by decide) (hts (.fieldLink RX3 7 "ColourForests$RinglessKind" "graph" "LColourForests$Graph;") (List.mem_of_getElem? (i := 1) rfl)) (u_same (hts (.sameField "ColourForests$RinglessKind" "ColourForests$Kind" "graph" "LColourForests$Graph;") (List.mem_of_getElem? (i := 2) rfl))) rfl dX3_rankOf_35 ?_
          refine lv_iload_n hx hb dX3_rankOf_38 rfl (lv_at hl 2 rfl) ?_
          refine lv_iload hx hb dX3_rankOf_39 (lv_at hl 4 rfl) ?_
          refine pu_call (va_runV (As := [.int (nI (pk (labA g S e))), .int (nI e)]) (rest := []) ⟨hx, hb, hml, hown, hts⟩ (c_X0_joinsTwoParts l D cy ad ch hg (f := labA g S e) hlab (e := e) (by omega)) (cwV 2 hts gX3_rankOf_X0_joinsTwoParts rfl rfl rfl (by decide +kernel) ⟨Nat.le_of_ble_eq_true rfl, Nat.le_of_ble_eq_true rfl⟩) (PU_preV (ci := 0) (q0 := 1) hK hP 0 rfl rfl [1, 2, 3, 4, 5, 6] rfl) rfl rfl hl.1 rfl (lv_room (Nat.le_of_ble_eq_true rfl)) dX3_rankOf_41 ⟨(Nat.zero_le _), (Nat.zero_le _)⟩) hS hP (fun H locs hP hS => ?_)
          refine b_eq (b := (decide (labA g S e (gF g e) ≠ labA g S e (gS g e)))) (tgt := 61) hx hb dX3_rankOf_44 (by decide) (fun c44 => ?_) (fun c44 => ?_)
          · have c44 := of_decide_eq_false c44
            refine lv_iinc (v := (nI (e + 1))) (lv' := [(4, .int (nI (e + 1))), (0, .ref (ad 7)), (1, .int (nI S)), (2, .int (nI (pk (labA g S e)))), (3, .int (nI (cntA g S e)))]) hx hb dX3_rankOf_61 hl (k := 4) rfl (ni_inc _) (by decide) rfl (fun ls hl => ?_)
            refine lv_goto (tgt := 13) hx hb dX3_rankOf_64 (by decide) ?_
            exact ih13 (e + 1) ⟨by omega, by omega⟩  _ _ hP hS _ (by first | (rw [labA_n (Or.inl c31), cntA_n (Or.inl c31)]; exact lv_sub hl [1, 2, 3, 4, 0] rfl) | (rw [labA_n (Or.inr (Decidable.not_not.mp c44)), cntA_n (Or.inr (Decidable.not_not.mp c44))]; exact lv_sub hl [1, 2, 3, 4, 0] rfl) | (rw [labA_y c31 c44, cntA_y c31 c44]; exact lv_sub hl [1, 2, 3, 4, 0] rfl))
          · have c44 := of_decide_eq_true c44
            refine lv_aload_n hx hb dX3_rankOf_47 rfl (lv_at hl 0 rfl) ?_
            refine va_get (D := D) (ci := 2) (v := .ref (ad 1)) (C := RX3) (T := TX3) (N := 1) hx hb hts inX3 hown hK.1 hP 0 rfl rfl 0 (by decide) (hts (.fieldLink RX3 7 "ColourForests$RinglessKind" "graph" "LColourForests$Graph;") (List.mem_of_getElem? (i := 1) rfl)) (u_same (hts (.sameField "ColourForests$RinglessKind" "ColourForests$Kind" "graph" "LColourForests$Graph;") (List.mem_of_getElem? (i := 2) rfl))) rfl dX3_rankOf_48 ?_
            refine lv_iload_n hx hb dX3_rankOf_51 rfl (lv_at hl 2 rfl) ?_
            refine lv_iload hx hb dX3_rankOf_52 (lv_at hl 4 rfl) ?_
            refine pu_call (va_runV (As := [.int (nI (pk (labA g S e))), .int (nI e)]) (rest := []) ⟨hx, hb, hml, hown, hts⟩ (c_X0_partsJoinedBy l D cy ad ch hg (f := labA g S e) hlab (e := e) (by omega)) (cwV 2 hts gX3_rankOf_X0_partsJoinedBy rfl rfl rfl (by decide +kernel) ⟨Nat.le_of_ble_eq_true rfl, Nat.le_of_ble_eq_true rfl⟩) (PU_preV (ci := 0) (q0 := 1) hK hP 0 rfl rfl [1, 2, 3, 4, 5, 6] rfl) rfl rfl hl.1 rfl (lv_room (Nat.le_of_ble_eq_true rfl)) dX3_rankOf_54 ⟨(Nat.zero_le _), (Nat.zero_le _)⟩) hS hP (fun H locs hP hS => ?_)
            refine lv_istore_n (lv' := [(2, .int (nI (pk (jn (gV g) (labA g S e) (labA g S e (gF g e)) (labA g S e (gS g e)))))), (0, .ref (ad 7)), (1, .int (nI S)), (3, .int (nI (cntA g S e))), (4, .int (nI e))]) hx hb dX3_rankOf_57 rfl hl (by decide) rfl (fun ls hl => ?_)
            refine lv_iinc (v := (nI (cntA g S e + 1))) (lv' := [(3, .int (nI (cntA g S e + 1))), (2, .int (nI (pk (jn (gV g) (labA g S e) (labA g S e (gF g e)) (labA g S e (gS g e)))))), (0, .ref (ad 7)), (1, .int (nI S)), (4, .int (nI e))]) hx hb dX3_rankOf_58 hl (k := 3) rfl (ni_inc _) (by decide) rfl (fun ls hl => ?_)
            refine lv_iinc (v := (nI (e + 1))) (lv' := [(4, .int (nI (e + 1))), (3, .int (nI (cntA g S e + 1))), (2, .int (nI (pk (jn (gV g) (labA g S e) (labA g S e (gF g e)) (labA g S e (gS g e)))))), (0, .ref (ad 7)), (1, .int (nI S))]) hx hb dX3_rankOf_61 hl (k := 4) rfl (ni_inc _) (by decide) rfl (fun ls hl => ?_)
            refine lv_goto (tgt := 13) hx hb dX3_rankOf_64 (by decide) ?_
            exact ih13 (e + 1) ⟨by omega, by omega⟩  _ _ hP hS _ (by first | (rw [labA_n (Or.inl c31), cntA_n (Or.inl c31)]; exact lv_sub hl [3, 4, 2, 1, 0] rfl) | (rw [labA_n (Or.inr (Decidable.not_not.mp c44)), cntA_n (Or.inr (Decidable.not_not.mp c44))]; exact lv_sub hl [3, 4, 2, 1, 0] rfl) | (rw [labA_y c31 c44, cntA_y c31 c44]; exact lv_sub hl [3, 4, 2, 1, 0] rfl))
  exact L13 (gE g + 1) 0 ⟨by omega, by omega⟩  _ _ hP hS _ (lv_sub hl [3, 4, 2, 1, 0] rfl)

set_option maxHeartbeats 4000000 in
set_option maxRecDepth 100000 in
theorem c_X2_rankOf (l : Launch) (D : va_G) (cy : Nat → ClassId) (ad : Nat → Nat) (ch : Int32) {g : GT} (hg : gOK g) {S : Nat} (hS9 : S < 2 ^ gE g) : PU l yX2_rankOf wsX2_rankOf ({ frames := 2, cells := 0, slots := 0, locals := 45 }) D cy [.ref (ad 8), .int (nI S)] (wK2 cy ad ch g) ((nI (cntB g S (gE g)))) := by
  refine Met.ofW (cc := cX2_rankOf) (maxL := 5) (ret := (some .int)) (by decide) rfl ?_
  intro p ev s m args below meth c s₁ B hml hv
  obtain ⟨rfl, hK, hP⟩ := hv
  have hx := B.exec
  have hb := B.bytes
  have hr := B.returns
  have hts := atoms_spec (ws := wsX2_rankOf) B.pre
  have hown : s.vm.findClass RX2 = some m.cls := findClass_of_methodNamed B.named
  have hlocks := B.notSynchronized
  have hS : va_S (fun _ => False) s.heap s.heap [] := va_S.rf
  have hP : va_P D vwCl (wK2 cy ad ch g) s.heap := hP
  have inX0 : ∀ w ∈ wsX00, w ∈ wsX2_rankOf := by decide +kernel
  have inX2 : ∀ w ∈ wsX20, w ∈ wsX2_rankOf := by decide +kernel
  have hl := lv_entry ([.ref (ad 8), .int (nI S)]) (n := 5) (Nat.le_of_ble_eq_true rfl)
  rw [lg_entry_eq]
  generalize (lg_sl ([.ref (ad 8), .int (nI S)]) ++ List.replicate (5 - (lg_sl ([.ref (ad 8), .int (nI S)])).length) Slot.unset).toArray = ls at hl ⊢
  have hl : lv_has ls 5 [(0, .ref (ad 8)), (1, .int (nI S))] := hl
  have hgen := True.intro
  have hE := hg.2.2.1
  have hV := hg.1
  have hC := hg.2.1
  have hS8 : 2 ^ gE g ≤ 2 ^ 14 := Nat.pow_le_pow_right (by decide) hE
  refine lv_aload_n hx hb dX2_rankOf_0 rfl (lv_at hl 0 rfl) ?_
  refine va_get (D := D) (ci := 1) (v := .ref (ad 1)) (C := RX2) (T := TX2) (N := 1) hx hb hts inX2 hown hK.1 hP 0 rfl rfl 0 (by decide) (hts (.fieldLink RX2 7 "ColourForests$LimitKind" "graph" "LColourForests$Graph;") (List.mem_of_getElem? (i := 1) rfl)) (u_same (hts (.sameField "ColourForests$LimitKind" "ColourForests$Kind" "graph" "LColourForests$Graph;") (List.mem_of_getElem? (i := 2) rfl))) rfl dX2_rankOf_1 ?_
  refine pu_call (va_runV (As := []) (rest := []) ⟨hx, hb, hml, hown, hts⟩ (c_X0_fullRoom l D cy ad ch hg) (cwV 0 hts gX2_rankOf_X0_fullRoom rfl rfl rfl (by decide +kernel) ⟨Nat.le_of_ble_eq_true rfl, Nat.le_of_ble_eq_true rfl⟩) (PU_preV (ci := 0) (q0 := 1) hK hP 0 rfl rfl [1, 2, 3, 4, 5, 6] rfl) rfl rfl hl.1 rfl (lv_room (Nat.le_of_ble_eq_true rfl)) dX2_rankOf_4 ⟨(Nat.zero_le _), (Nat.zero_le _)⟩) hS hP (fun H locs hP hS => ?_)
  refine lv_istore_n (lv' := [(2, .int (nI (pk (fulR g)))), (0, .ref (ad 8)), (1, .int (nI S))]) hx hb dX2_rankOf_7 rfl hl (by decide) rfl (fun ls hl => ?_)
  refine lv_iconst (v := nI 0) hx hb dX2_rankOf_8 (by decide) ?_
  refine lv_istore_n (lv' := [(3, .int (nI 0)), (2, .int (nI (pk (fulR g)))), (0, .ref (ad 8)), (1, .int (nI S))]) hx hb dX2_rankOf_9 rfl hl (by decide) rfl (fun ls hl => ?_)
  refine lv_iconst (v := nI 0) hx hb dX2_rankOf_10 (by decide) ?_
  refine lv_istore (lv' := [(4, .int (nI 0)), (3, .int (nI 0)), (2, .int (nI (pk (fulR g)))), (0, .ref (ad 8)), (1, .int (nI S))]) hx hb dX2_rankOf_11 hl (by decide) rfl (fun ls hl => ?_)
  have L13 : ∀ (n : Nat) (e : Nat), e ≤ gE g ∧ gE g + 1 ≤ e + n → ∀ (H : Heap) (locs : List Loc), va_P D vwCl (wK2 cy ad ch g) H → va_S (fun _ => False) s.heap H locs → ∀ (ls : Array Slot), lv_has ls 5 [(0, .ref (ad 8)), (1, .int (nI S)), (2, .int (nI (pk (romB g S e)))), (3, .int (nI (cntB g S e))), (4, .int (nI e))] → W p l ev (headSpec wsX2_rankOf ({ frames := 2, cells := 0, slots := 0, locals := 45 })).room s m [.ref (ad 8), .int (nI S)].toArray below meth c H locs 0 0 (MQ below (va_Qi (fun (x : Int32) (_ : Unit) => x = (nI (cntB g S (gE g)))) (fun _ _ => True) (fun _ => False)) [.ref (ad 8), .int (nI S)].toArray s 0 0 (fun _ => False)) (F0 m 13 ls []) := by
    intro n
    induction n with
    | zero =>
      intro e hfuel  H locs hP hS ls hl
      exact absurd hfuel.2 (by have := hfuel.1; omega)
    | succ n ih13 =>
      intro e hfuel  H locs hP hS ls hl
      obtain ⟨hfu1, hfu2⟩ := hfuel
      have hrom := romB_lt hg S e hfu1
      refine lv_iload hx hb dX2_rankOf_13 (lv_at hl 4 rfl) ?_
      refine lv_aload_n hx hb dX2_rankOf_15 rfl (lv_at hl 0 rfl) ?_
      refine va_get (D := D) (ci := 1) (v := .ref (ad 1)) (C := RX2) (T := TX2) (N := 1) hx hb hts inX2 hown hK.1 hP 0 rfl rfl 0 (by decide) (hts (.fieldLink RX2 7 "ColourForests$LimitKind" "graph" "LColourForests$Graph;") (List.mem_of_getElem? (i := 1) rfl)) (u_same (hts (.sameField "ColourForests$LimitKind" "ColourForests$Kind" "graph" "LColourForests$Graph;") (List.mem_of_getElem? (i := 2) rfl))) rfl dX2_rankOf_16 ?_
      refine va_get (D := D) (ci := 0) (v := .int (nI (gE g))) (C := RX0) (T := TX0) (N := 9) hx hb hts inX0 hown hK.1 hP 1 rfl rfl 2 (by decide) (hts (.fieldLink RX2 19 "ColourForests$Graph" "edges" "I") (List.mem_of_getElem? (i := 3) rfl)) (fun _ h9 => h9) rfl dX2_rankOf_19 ?_
      refine n_ge (a := e) (b := (gE g)) (tgt := 67) hx hb dX2_rankOf_22 (by decide) (by omega) (by omega) (fun c22 => ?_) (fun c22 => ?_)
      · refine lv_iload_n hx hb dX2_rankOf_67 rfl (lv_at hl 3 rfl) ?_
        exact pu_iret (y := yX2_rankOf) hx hb hr hlocks hS (by rw [show e = gE g by omega]) dX2_rankOf_68
      · refine lv_iload_n hx hb dX2_rankOf_25 rfl (lv_at hl 1 rfl) ?_
        refine lv_iload hx hb dX2_rankOf_26 (lv_at hl 4 rfl) ?_
        refine pu_call (va_runSN (As := [.int (nI S), .int (nI e)]) (rest := []) ⟨hx, hb, hml, hown, hts⟩ (c_X5_hasBit l D cy (S := S) (e := e) (by omega) (by omega)) ⟨va_cnB 2 hts gX2_rankOf_X5_hasBit_n23 rfl rfl rfl (hK.2 _ (List.mem_of_getElem? (i := 3) rfl)) (hts (.initialized RX5) (List.mem_of_getElem? (i := 12) rfl)) (by decide +kernel) ⟨Nat.le_of_ble_eq_true rfl, Nat.le_of_ble_eq_true rfl⟩, (hts (.static yX5_hasBit) (List.mem_of_getElem? (i := 14) rfl)), trivial⟩ (PU_preS hK hP [] rfl) rfl rfl hl.1 rfl (lv_room (Nat.le_of_ble_eq_true rfl)) dX2_rankOf_28 ⟨(Nat.zero_le _), (Nat.zero_le _)⟩) hS hP (fun H locs hP hS => ?_)
        refine b_eq (b := (S.testBit e)) (tgt := 61) hx hb dX2_rankOf_31 (by decide) (fun c31 => ?_) (fun c31 => ?_)
        · refine lv_iinc (v := (nI (e + 1))) (lv' := [(4, .int (nI (e + 1))), (0, .ref (ad 8)), (1, .int (nI S)), (2, .int (nI (pk (romB g S e)))), (3, .int (nI (cntB g S e)))]) hx hb dX2_rankOf_61 hl (k := 4) rfl (ni_inc _) (by decide) rfl (fun ls hl => ?_)
          refine lv_goto (tgt := 13) hx hb dX2_rankOf_64 (by decide) ?_
          exact ih13 (e + 1) ⟨by omega, by omega⟩  _ _ hP hS _ (by first | (rw [romB_n (Or.inl c31), cntB_n (Or.inl c31)]; exact lv_sub hl [1, 2, 3, 4, 0] rfl) | (rw [romB_n (Or.inr c44), cntB_n (Or.inr c44)]; exact lv_sub hl [1, 2, 3, 4, 0] rfl) | (rw [romB_y c31 c44, cntB_y c31 c44]; exact lv_sub hl [1, 2, 3, 4, 0] rfl))
        · refine lv_aload_n hx hb dX2_rankOf_34 rfl (lv_at hl 0 rfl) ?_
          refine va_get (D := D) (ci := 1) (v := .ref (ad 1)) (C := RX2) (T := TX2) (N := 1) hx hb hts inX2 hown hK.1 hP 0 rfl rfl 0 (by decide) (hts (.fieldLink RX2 7 "ColourForests$LimitKind" "graph" "LColourForests$Graph;") (List.mem_of_getElem? (i := 1) rfl)) (u_same (hts (.sameField "ColourForests$LimitKind" "ColourForests$Kind" "graph" "LColourForests$Graph;") (List.mem_of_getElem? (i := 2) rfl))) rfl dX2_rankOf_35 ?_
          refine lv_iload_n hx hb dX2_rankOf_38 rfl (lv_at hl 2 rfl) ?_
          refine lv_iload hx hb dX2_rankOf_39 (lv_at hl 4 rfl) ?_
          refine pu_call (va_runV (As := [.int (nI (pk (romB g S e))), .int (nI e)]) (rest := []) ⟨hx, hb, hml, hown, hts⟩ (c_X0_hasRoom l D cy ad ch hg (f := romB g S e) hrom (e := e) (by omega)) (cwV 2 hts gX2_rankOf_X0_hasRoom rfl rfl rfl (by decide +kernel) ⟨Nat.le_of_ble_eq_true rfl, Nat.le_of_ble_eq_true rfl⟩) (PU_preV (ci := 0) (q0 := 1) hK hP 0 rfl rfl [1, 2, 3, 4, 5, 6] rfl) rfl rfl hl.1 rfl (lv_room (Nat.le_of_ble_eq_true rfl)) dX2_rankOf_41 ⟨(Nat.zero_le _), (Nat.zero_le _)⟩) hS hP (fun H locs hP hS => ?_)
          refine b_eq (b := (decide (0 < romB g S e (gH g e)))) (tgt := 61) hx hb dX2_rankOf_44 (by decide) (fun c44 => ?_) (fun c44 => ?_)
          · have c44 := of_decide_eq_false c44
            refine lv_iinc (v := (nI (e + 1))) (lv' := [(4, .int (nI (e + 1))), (0, .ref (ad 8)), (1, .int (nI S)), (2, .int (nI (pk (romB g S e)))), (3, .int (nI (cntB g S e)))]) hx hb dX2_rankOf_61 hl (k := 4) rfl (ni_inc _) (by decide) rfl (fun ls hl => ?_)
            refine lv_goto (tgt := 13) hx hb dX2_rankOf_64 (by decide) ?_
            exact ih13 (e + 1) ⟨by omega, by omega⟩  _ _ hP hS _ (by first | (rw [romB_n (Or.inl c31), cntB_n (Or.inl c31)]; exact lv_sub hl [1, 2, 3, 4, 0] rfl) | (rw [romB_n (Or.inr c44), cntB_n (Or.inr c44)]; exact lv_sub hl [1, 2, 3, 4, 0] rfl) | (rw [romB_y c31 c44, cntB_y c31 c44]; exact lv_sub hl [1, 2, 3, 4, 0] rfl))
          · have c44 := of_decide_eq_true c44
            refine lv_aload_n hx hb dX2_rankOf_47 rfl (lv_at hl 0 rfl) ?_
            refine va_get (D := D) (ci := 1) (v := .ref (ad 1)) (C := RX2) (T := TX2) (N := 1) hx hb hts inX2 hown hK.1 hP 0 rfl rfl 0 (by decide) (hts (.fieldLink RX2 7 "ColourForests$LimitKind" "graph" "LColourForests$Graph;") (List.mem_of_getElem? (i := 1) rfl)) (u_same (hts (.sameField "ColourForests$LimitKind" "ColourForests$Kind" "graph" "LColourForests$Graph;") (List.mem_of_getElem? (i := 2) rfl))) rfl dX2_rankOf_48 ?_
            refine lv_iload_n hx hb dX2_rankOf_51 rfl (lv_at hl 2 rfl) ?_
            refine lv_iload hx hb dX2_rankOf_52 (lv_at hl 4 rfl) ?_
            refine pu_call (va_runV (As := [.int (nI (pk (romB g S e))), .int (nI e)]) (rest := []) ⟨hx, hb, hml, hown, hts⟩ (c_X0_roomAfter l D cy ad ch hg (f := romB g S e) hrom (e := e) (by omega) c44) (cwV 2 hts gX2_rankOf_X0_roomAfter rfl rfl rfl (by decide +kernel) ⟨Nat.le_of_ble_eq_true rfl, Nat.le_of_ble_eq_true rfl⟩) (PU_preV (ci := 0) (q0 := 1) hK hP 0 rfl rfl [1, 2, 3, 4, 5, 6] rfl) rfl rfl hl.1 rfl (lv_room (Nat.le_of_ble_eq_true rfl)) dX2_rankOf_54 ⟨(Nat.zero_le _), (Nat.zero_le _)⟩) hS hP (fun H locs hP hS => ?_)
            refine lv_istore_n (lv' := [(2, .int (nI (pk (upN (romB g S e) (gH g e) (romB g S e (gH g e) - 1))))), (0, .ref (ad 8)), (1, .int (nI S)), (3, .int (nI (cntB g S e))), (4, .int (nI e))]) hx hb dX2_rankOf_57 rfl hl (by decide) rfl (fun ls hl => ?_)
            refine lv_iinc (v := (nI (cntB g S e + 1))) (lv' := [(3, .int (nI (cntB g S e + 1))), (2, .int (nI (pk (upN (romB g S e) (gH g e) (romB g S e (gH g e) - 1))))), (0, .ref (ad 8)), (1, .int (nI S)), (4, .int (nI e))]) hx hb dX2_rankOf_58 hl (k := 3) rfl (ni_inc _) (by decide) rfl (fun ls hl => ?_)
            refine lv_iinc (v := (nI (e + 1))) (lv' := [(4, .int (nI (e + 1))), (3, .int (nI (cntB g S e + 1))), (2, .int (nI (pk (upN (romB g S e) (gH g e) (romB g S e (gH g e) - 1))))), (0, .ref (ad 8)), (1, .int (nI S))]) hx hb dX2_rankOf_61 hl (k := 4) rfl (ni_inc _) (by decide) rfl (fun ls hl => ?_)
            refine lv_goto (tgt := 13) hx hb dX2_rankOf_64 (by decide) ?_
            exact ih13 (e + 1) ⟨by omega, by omega⟩  _ _ hP hS _ (by first | (rw [romB_n (Or.inl c31), cntB_n (Or.inl c31)]; exact lv_sub hl [3, 4, 2, 1, 0] rfl) | (rw [romB_n (Or.inr c44), cntB_n (Or.inr c44)]; exact lv_sub hl [3, 4, 2, 1, 0] rfl) | (rw [romB_y c31 c44, cntB_y c31 c44]; exact lv_sub hl [3, 4, 2, 1, 0] rfl))
  exact L13 (gE g + 1) 0 ⟨by omega, by omega⟩  _ _ hP hS _ (lv_sub hl [3, 4, 2, 1, 0] rfl)
end
section
set_option maxHeartbeats 4000000 in
set_option maxRecDepth 100000 in
/-- Integer.bitCount of a set -/
theorem c_J6_bitCount_0f7a4 (l : Launch) (D : va_G) (cy : Nat → ClassId) {S : Nat} (hS9 : S < 16384) : PU l yJ6_bitCount_0f7a4 wsJ6_bitCount_0f7a4 ({ frames := 0, cells := 0, slots := 0, locals := 0 }) D cy [.int (nI S)] [] ((nI (ms_card 14 S))) := by
  refine Met.ofW (cc := cJ6_bitCount_0f7a4) (maxL := 1) (ret := (some .int)) (by decide) rfl ?_
  intro p ev s m args below meth c s₁ B hml hv
  obtain ⟨rfl, hK, hP⟩ := hv
  have hx := B.exec
  have hb := B.bytes
  have hr := B.returns
  have hts := atoms_spec (ws := wsJ6_bitCount_0f7a4) B.pre
  have hown : s.vm.findClass RJ6 = some m.cls := findClass_of_methodNamed B.named
  have hlocks := B.notSynchronized
  have hS : va_S (fun _ => False) s.heap s.heap [] := va_S.rf
  have hP : va_P D vwCl [] s.heap := hP
  have hl := lv_entry ([.int (nI S)]) (n := 1) (Nat.le_of_ble_eq_true rfl)
  rw [lg_entry_eq]
  generalize (lg_sl ([.int (nI S)]) ++ List.replicate (1 - (lg_sl ([.int (nI S)])).length) Slot.unset).toArray = ls at hl ⊢
  have hl : lv_has ls 1 [(0, .int (nI S))] := hl
  have hgen := True.intro
  refine lv_iload_n hx hb dJ6_bitCount_0f7a4_0 rfl (lv_at hl 0 rfl) ?_
  refine lv_iload_n hx hb dJ6_bitCount_0f7a4_1 rfl (lv_at hl 0 rfl) ?_
  refine lv_iconst (v := nI 1) hx hb dJ6_bitCount_0f7a4_2 (by decide) ?_
  refine lv_iushr hx hb dJ6_bitCount_0f7a4_3 rfl ?_
  refine lv_as (y := (nI (S / 2 ^ 1))) (ni_ushr (by omega) (by omega)) ?_
  refine lv_ldcw hx hb hown (hts (.constant RJ6 265 (1431655765)) (List.mem_of_getElem? (i := 1) rfl)) dJ6_bitCount_0f7a4_4 ?_
  refine lv_iand hx hb dJ6_bitCount_0f7a4_7 ?_
  refine lv_isub hx hb dJ6_bitCount_0f7a4_8 ?_
  refine lv_topi (fun x1 ex1 => ?_)
  refine lv_istore_n (lv' := [(0, .int x1)]) hx hb dJ6_bitCount_0f7a4_9 rfl hl (by decide) rfl (fun ls hl => ?_)
  refine lv_iload_n hx hb dJ6_bitCount_0f7a4_10 rfl (lv_at hl 0 rfl) ?_
  refine lv_ldcw hx hb hown (hts (.constant RJ6 266 (858993459)) (List.mem_of_getElem? (i := 2) rfl)) dJ6_bitCount_0f7a4_11 ?_
  refine lv_iand hx hb dJ6_bitCount_0f7a4_14 ?_
  refine lv_iload_n hx hb dJ6_bitCount_0f7a4_15 rfl (lv_at hl 0 rfl) ?_
  refine lv_iconst (v := nI 2) hx hb dJ6_bitCount_0f7a4_16 (by decide) ?_
  refine lv_iushr hx hb dJ6_bitCount_0f7a4_17 rfl ?_
  refine lv_ldcw hx hb hown (hts (.constant RJ6 266 (858993459)) (List.mem_of_getElem? (i := 2) rfl)) dJ6_bitCount_0f7a4_18 ?_
  refine lv_iand hx hb dJ6_bitCount_0f7a4_21 ?_
  refine lv_iadd hx hb dJ6_bitCount_0f7a4_22 ?_
  refine lv_topi (fun x2 ex2 => ?_)
  refine lv_istore_n (lv' := [(0, .int x2)]) hx hb dJ6_bitCount_0f7a4_23 rfl hl (by decide) rfl (fun ls hl => ?_)
  refine lv_iload_n hx hb dJ6_bitCount_0f7a4_24 rfl (lv_at hl 0 rfl) ?_
  refine lv_iload_n hx hb dJ6_bitCount_0f7a4_25 rfl (lv_at hl 0 rfl) ?_
  refine lv_iconst (v := nI 4) hx hb dJ6_bitCount_0f7a4_26 (by decide) ?_
  refine lv_iushr hx hb dJ6_bitCount_0f7a4_27 rfl ?_
  refine lv_iadd hx hb dJ6_bitCount_0f7a4_28 ?_
  refine lv_ldcw hx hb hown (hts (.constant RJ6 267 (252645135)) (List.mem_of_getElem? (i := 3) rfl)) dJ6_bitCount_0f7a4_29 ?_
  refine lv_iand hx hb dJ6_bitCount_0f7a4_32 ?_
  refine lv_topi (fun x3 ex3 => ?_)
  refine lv_istore_n (lv' := [(0, .int x3)]) hx hb dJ6_bitCount_0f7a4_33 rfl hl (by decide) rfl (fun ls hl => ?_)
  refine lv_iload_n hx hb dJ6_bitCount_0f7a4_34 rfl (lv_at hl 0 rfl) ?_
  refine lv_iload_n hx hb dJ6_bitCount_0f7a4_35 rfl (lv_at hl 0 rfl) ?_
  refine lv_bipush (v := nI 8) hx hb dJ6_bitCount_0f7a4_36 (by decide) ?_
  refine lv_iushr hx hb dJ6_bitCount_0f7a4_38 rfl ?_
  refine lv_iadd hx hb dJ6_bitCount_0f7a4_39 ?_
  refine lv_topi (fun x4 ex4 => ?_)
  refine lv_istore_n (lv' := [(0, .int x4)]) hx hb dJ6_bitCount_0f7a4_40 rfl hl (by decide) rfl (fun ls hl => ?_)
  refine lv_iload_n hx hb dJ6_bitCount_0f7a4_41 rfl (lv_at hl 0 rfl) ?_
  refine lv_iload_n hx hb dJ6_bitCount_0f7a4_42 rfl (lv_at hl 0 rfl) ?_
  refine lv_bipush (v := nI 16) hx hb dJ6_bitCount_0f7a4_43 (by decide) ?_
  refine lv_iushr hx hb dJ6_bitCount_0f7a4_45 rfl ?_
  refine lv_iadd hx hb dJ6_bitCount_0f7a4_46 ?_
  refine lv_topi (fun x5 ex5 => ?_)
  refine lv_istore_n (lv' := [(0, .int x5)]) hx hb dJ6_bitCount_0f7a4_47 rfl hl (by decide) rfl (fun ls hl => ?_)
  refine lv_iload_n hx hb dJ6_bitCount_0f7a4_48 rfl (lv_at hl 0 rfl) ?_
  refine lv_bipush (v := nI 63) hx hb dJ6_bitCount_0f7a4_49 (by decide) ?_
  refine lv_iand hx hb dJ6_bitCount_0f7a4_51 ?_
  refine lv_as (y := (nI (ms_card 14 S))) (by rw [show x5 = bcE x4 from ex5, show x4 = bcD x3 from ex4, show x3 = bcC x2 from ex3, show x2 = bcB x1 from ex2, show x1 = bcA (nI S) by rw [ex1, ← ni_ushr (a := S) (k := 1) (by omega) (by omega)]; rfl]; exact bc_ok hS9) ?_
  exact pu_iret (y := yJ6_bitCount_0f7a4) hx hb hr hlocks hS (by first | rfl | (simp [bI, *]; done) | (simp_all [bI]; done)) dJ6_bitCount_0f7a4_52

set_option maxHeartbeats 4000000 in
set_option maxRecDepth 100000 in
/-- Integer.numberOfTrailingZeros of a set that is not empty -/
theorem c_J6_numberOfTrailingZeros_0f7a4 (l : Launch) (D : va_G) (cy : Nat → ClassId) {S : Nat} (h0 : S ≠ 0) (hS9 : S < 16384) : PU l yJ6_numberOfTrailingZeros_0f7a4 wsJ6_numberOfTrailingZeros_0f7a4 ({ frames := 0, cells := 0, slots := 0, locals := 0 }) D cy [.int (nI S)] [] ((nI (tzN 14 S))) := by
  refine Met.ofW (cc := cJ6_numberOfTrailingZeros_0f7a4) (maxL := 2) (ret := (some .int)) (by decide) rfl ?_
  intro p ev s m args below meth c s₁ B hml hv
  obtain ⟨rfl, hK, hP⟩ := hv
  have hx := B.exec
  have hb := B.bytes
  have hr := B.returns
  have hts := atoms_spec (ws := wsJ6_numberOfTrailingZeros_0f7a4) B.pre
  have hown : s.vm.findClass RJ6 = some m.cls := findClass_of_methodNamed B.named
  have hlocks := B.notSynchronized
  have hS : va_S (fun _ => False) s.heap s.heap [] := va_S.rf
  have hP : va_P D vwCl [] s.heap := hP
  have hl := lv_entry ([.int (nI S)]) (n := 2) (Nat.le_of_ble_eq_true rfl)
  rw [lg_entry_eq]
  generalize (lg_sl ([.int (nI S)]) ++ List.replicate (2 - (lg_sl ([.int (nI S)])).length) Slot.unset).toArray = ls at hl ⊢
  have hl : lv_has ls 2 [(0, .int (nI S))] := hl
  have hgen := True.intro
  have ht : tzN 14 S < 14 := tzN_lt hS9 h0
  have hp : 2 ^ tzN 14 S ≤ 2 ^ 14 := Nat.pow_le_pow_right (by decide) (by omega)
  refine lv_iload_n hx hb dJ6_numberOfTrailingZeros_0f7a4_0 rfl (lv_at hl 0 rfl) ?_
  refine lv_iconst (v := zI (-1)) hx hb dJ6_numberOfTrailingZeros_0f7a4_1 (by decide) ?_
  refine lv_ixor hx hb dJ6_numberOfTrailingZeros_0f7a4_2 ?_
  refine lv_iload_n hx hb dJ6_numberOfTrailingZeros_0f7a4_3 rfl (lv_at hl 0 rfl) ?_
  refine lv_iconst (v := nI 1) hx hb dJ6_numberOfTrailingZeros_0f7a4_4 (by decide) ?_
  refine lv_isub hx hb dJ6_numberOfTrailingZeros_0f7a4_5 ?_
  refine lv_as (y := (nI (S - 1))) (ni_sub (by omega)) ?_
  refine lv_iand hx hb dJ6_numberOfTrailingZeros_0f7a4_6 ?_
  refine lv_as (y := (nI (2 ^ tzN 14 S - 1))) (tz_mask h0 hS9) ?_
  refine lv_istore_n (lv' := [(0, .int (nI (2 ^ tzN 14 S - 1)))]) hx hb dJ6_numberOfTrailingZeros_0f7a4_7 rfl hl (by decide) rfl (fun ls hl => ?_)
  refine lv_iload_n hx hb dJ6_numberOfTrailingZeros_0f7a4_8 rfl (lv_at hl 0 rfl) ?_
  refine lv_if_gt (tgt := 17) hx hb dJ6_numberOfTrailingZeros_0f7a4_9 (by decide) (fun c9 => ?_) (fun c9 => ?_)
  · refine lv_iconst (v := nI 1) hx hb dJ6_numberOfTrailingZeros_0f7a4_17 (by decide) ?_
    refine lv_istore_n (lv' := [(1, .int (nI 1)), (0, .int (nI (2 ^ tzN 14 S - 1)))]) hx hb dJ6_numberOfTrailingZeros_0f7a4_18 rfl hl (by decide) rfl (fun ls hl => ?_)
    refine lv_iload_n hx hb dJ6_numberOfTrailingZeros_0f7a4_19 rfl (lv_at hl 1 rfl) ?_
    refine lv_ldcw hx hb hown (hts (.constant RJ6 264 (65536)) (List.mem_of_getElem? (i := 1) rfl)) dJ6_numberOfTrailingZeros_0f7a4_20 ?_
    refine lv_as (y := (nI 65536)) (by decide) ?_
    refine n_le (a := (2 ^ tzN 14 S - 1)) (b := 65536) (tgt := 34) hx hb dJ6_numberOfTrailingZeros_0f7a4_23 (by decide) (by omega) (by omega) (fun c23 => ?_) (fun c23 => ?_)
    · refine lv_iload_n hx hb dJ6_numberOfTrailingZeros_0f7a4_34 rfl (lv_at hl 1 rfl) ?_
      refine lv_sipush (v := nI 256) hx hb dJ6_numberOfTrailingZeros_0f7a4_35 (by decide) ?_
      refine n_le (a := (2 ^ tzN 14 S - 1)) (b := 256) (tgt := 49) hx hb dJ6_numberOfTrailingZeros_0f7a4_38 (by decide) (by omega) (by omega) (fun c38 => ?_) (fun c38 => ?_)
      · refine lv_iload_n hx hb dJ6_numberOfTrailingZeros_0f7a4_49 rfl (lv_at hl 1 rfl) ?_
        refine lv_bipush (v := nI 16) hx hb dJ6_numberOfTrailingZeros_0f7a4_50 (by decide) ?_
        refine n_le (a := (2 ^ tzN 14 S - 1)) (b := 16) (tgt := 62) hx hb dJ6_numberOfTrailingZeros_0f7a4_52 (by decide) (by omega) (by omega) (fun c52 => ?_) (fun c52 => ?_)
        · refine lv_iload_n hx hb dJ6_numberOfTrailingZeros_0f7a4_62 rfl (lv_at hl 1 rfl) ?_
          refine lv_iconst (v := nI 4) hx hb dJ6_numberOfTrailingZeros_0f7a4_63 (by decide) ?_
          refine n_le (a := (2 ^ tzN 14 S - 1)) (b := 4) (tgt := 74) hx hb dJ6_numberOfTrailingZeros_0f7a4_64 (by decide) (by omega) (by omega) (fun c64 => ?_) (fun c64 => ?_)
          · refine lv_iload_n hx hb dJ6_numberOfTrailingZeros_0f7a4_74 rfl (lv_at hl 0 rfl) ?_
            refine lv_iload_n hx hb dJ6_numberOfTrailingZeros_0f7a4_75 rfl (lv_at hl 1 rfl) ?_
            refine lv_iconst (v := nI 1) hx hb dJ6_numberOfTrailingZeros_0f7a4_76 (by decide) ?_
            refine lv_iushr hx hb dJ6_numberOfTrailingZeros_0f7a4_77 rfl ?_
            refine lv_as (y := (nI ((2 ^ tzN 14 S - 1) / 2 ^ 1))) (ni_ushr (by omega) (by omega)) ?_
            refine lv_iadd hx hb dJ6_numberOfTrailingZeros_0f7a4_78 ?_
            refine lv_as (y := (nI (1 + ((2 ^ tzN 14 S - 1) / 2 ^ 1)))) (nI_add _ _) ?_
            exact pu_iret (y := yJ6_numberOfTrailingZeros_0f7a4) hx hb hr hlocks hS (by generalize tzN 14 S = t at ht c9 c23 c38 c52 c64 ⊢; rcases tz14 ht with rfl | rfl | rfl | rfl | rfl | rfl | rfl | rfl | rfl | rfl | rfl | rfl | rfl | rfl <;> first | decide +kernel | exact absurd c9 (by decide +kernel) | exact absurd c23 (by decide +kernel) | exact absurd c38 (by decide +kernel) | exact absurd c52 (by decide +kernel) | exact absurd c64 (by decide +kernel)) dJ6_numberOfTrailingZeros_0f7a4_79
          · refine lv_iinc (v := (nI (1 + 2))) (lv' := [(1, .int (nI (1 + 2))), (0, .int (nI (2 ^ tzN 14 S - 1)))]) hx hb dJ6_numberOfTrailingZeros_0f7a4_67 hl (k := 0) rfl (ni_incn _ 2) (by decide) rfl (fun ls hl => ?_)
            refine lv_iload_n hx hb dJ6_numberOfTrailingZeros_0f7a4_70 rfl (lv_at hl 1 rfl) ?_
            refine lv_iconst (v := nI 2) hx hb dJ6_numberOfTrailingZeros_0f7a4_71 (by decide) ?_
            refine lv_iushr hx hb dJ6_numberOfTrailingZeros_0f7a4_72 rfl ?_
            refine lv_as (y := (nI ((2 ^ tzN 14 S - 1) / 2 ^ 2))) (ni_ushr (by omega) (by omega)) ?_
            refine lv_istore_n (lv' := [(0, .int (nI ((2 ^ tzN 14 S - 1) / 2 ^ 2))), (1, .int (nI (1 + 2)))]) hx hb dJ6_numberOfTrailingZeros_0f7a4_73 rfl hl (by decide) rfl (fun ls hl => ?_)
            refine lv_iload_n hx hb dJ6_numberOfTrailingZeros_0f7a4_74 rfl (lv_at hl 1 rfl) ?_
            refine lv_iload_n hx hb dJ6_numberOfTrailingZeros_0f7a4_75 rfl (lv_at hl 0 rfl) ?_
            refine lv_iconst (v := nI 1) hx hb dJ6_numberOfTrailingZeros_0f7a4_76 (by decide) ?_
            refine lv_iushr hx hb dJ6_numberOfTrailingZeros_0f7a4_77 rfl ?_
            refine lv_as (y := (nI (((2 ^ tzN 14 S - 1) / 2 ^ 2) / 2 ^ 1))) (ni_ushr (by omega) (by omega)) ?_
            refine lv_iadd hx hb dJ6_numberOfTrailingZeros_0f7a4_78 ?_
            refine lv_as (y := (nI ((1 + 2) + (((2 ^ tzN 14 S - 1) / 2 ^ 2) / 2 ^ 1)))) (nI_add _ _) ?_
            exact pu_iret (y := yJ6_numberOfTrailingZeros_0f7a4) hx hb hr hlocks hS (by generalize tzN 14 S = t at ht c9 c23 c38 c52 c64 ⊢; rcases tz14 ht with rfl | rfl | rfl | rfl | rfl | rfl | rfl | rfl | rfl | rfl | rfl | rfl | rfl | rfl <;> first | decide +kernel | exact absurd c9 (by decide +kernel) | exact absurd c23 (by decide +kernel) | exact absurd c38 (by decide +kernel) | exact absurd c52 (by decide +kernel) | exact absurd c64 (by decide +kernel)) dJ6_numberOfTrailingZeros_0f7a4_79
        · refine lv_iinc (v := (nI (1 + 4))) (lv' := [(1, .int (nI (1 + 4))), (0, .int (nI (2 ^ tzN 14 S - 1)))]) hx hb dJ6_numberOfTrailingZeros_0f7a4_55 hl (k := 0) rfl (ni_incn _ 4) (by decide) rfl (fun ls hl => ?_)
          refine lv_iload_n hx hb dJ6_numberOfTrailingZeros_0f7a4_58 rfl (lv_at hl 1 rfl) ?_
          refine lv_iconst (v := nI 4) hx hb dJ6_numberOfTrailingZeros_0f7a4_59 (by decide) ?_
          refine lv_iushr hx hb dJ6_numberOfTrailingZeros_0f7a4_60 rfl ?_
          refine lv_as (y := (nI ((2 ^ tzN 14 S - 1) / 2 ^ 4))) (ni_ushr (by omega) (by omega)) ?_
          refine lv_istore_n (lv' := [(0, .int (nI ((2 ^ tzN 14 S - 1) / 2 ^ 4))), (1, .int (nI (1 + 4)))]) hx hb dJ6_numberOfTrailingZeros_0f7a4_61 rfl hl (by decide) rfl (fun ls hl => ?_)
          refine lv_iload_n hx hb dJ6_numberOfTrailingZeros_0f7a4_62 rfl (lv_at hl 0 rfl) ?_
          refine lv_iconst (v := nI 4) hx hb dJ6_numberOfTrailingZeros_0f7a4_63 (by decide) ?_
          refine n_le (a := ((2 ^ tzN 14 S - 1) / 2 ^ 4)) (b := 4) (tgt := 74) hx hb dJ6_numberOfTrailingZeros_0f7a4_64 (by decide) (by omega) (by omega) (fun c64 => ?_) (fun c64 => ?_)
          · refine lv_iload_n hx hb dJ6_numberOfTrailingZeros_0f7a4_74 rfl (lv_at hl 1 rfl) ?_
            refine lv_iload_n hx hb dJ6_numberOfTrailingZeros_0f7a4_75 rfl (lv_at hl 0 rfl) ?_
            refine lv_iconst (v := nI 1) hx hb dJ6_numberOfTrailingZeros_0f7a4_76 (by decide) ?_
            refine lv_iushr hx hb dJ6_numberOfTrailingZeros_0f7a4_77 rfl ?_
            refine lv_as (y := (nI (((2 ^ tzN 14 S - 1) / 2 ^ 4) / 2 ^ 1))) (ni_ushr (by omega) (by omega)) ?_
            refine lv_iadd hx hb dJ6_numberOfTrailingZeros_0f7a4_78 ?_
            refine lv_as (y := (nI ((1 + 4) + (((2 ^ tzN 14 S - 1) / 2 ^ 4) / 2 ^ 1)))) (nI_add _ _) ?_
            exact pu_iret (y := yJ6_numberOfTrailingZeros_0f7a4) hx hb hr hlocks hS (by generalize tzN 14 S = t at ht c9 c23 c38 c52 c64 ⊢; rcases tz14 ht with rfl | rfl | rfl | rfl | rfl | rfl | rfl | rfl | rfl | rfl | rfl | rfl | rfl | rfl <;> first | decide +kernel | exact absurd c9 (by decide +kernel) | exact absurd c23 (by decide +kernel) | exact absurd c38 (by decide +kernel) | exact absurd c52 (by decide +kernel) | exact absurd c64 (by decide +kernel)) dJ6_numberOfTrailingZeros_0f7a4_79
          · refine lv_iinc (v := (nI (1 + 4 + 2))) (lv' := [(1, .int (nI (1 + 4 + 2))), (0, .int (nI ((2 ^ tzN 14 S - 1) / 2 ^ 4)))]) hx hb dJ6_numberOfTrailingZeros_0f7a4_67 hl (k := 1) rfl (ni_incn _ 2) (by decide) rfl (fun ls hl => ?_)
            refine lv_iload_n hx hb dJ6_numberOfTrailingZeros_0f7a4_70 rfl (lv_at hl 1 rfl) ?_
            refine lv_iconst (v := nI 2) hx hb dJ6_numberOfTrailingZeros_0f7a4_71 (by decide) ?_
            refine lv_iushr hx hb dJ6_numberOfTrailingZeros_0f7a4_72 rfl ?_
            refine lv_as (y := (nI (((2 ^ tzN 14 S - 1) / 2 ^ 4) / 2 ^ 2))) (ni_ushr (by omega) (by omega)) ?_
            refine lv_istore_n (lv' := [(0, .int (nI (((2 ^ tzN 14 S - 1) / 2 ^ 4) / 2 ^ 2))), (1, .int (nI (1 + 4 + 2)))]) hx hb dJ6_numberOfTrailingZeros_0f7a4_73 rfl hl (by decide) rfl (fun ls hl => ?_)
            refine lv_iload_n hx hb dJ6_numberOfTrailingZeros_0f7a4_74 rfl (lv_at hl 1 rfl) ?_
            refine lv_iload_n hx hb dJ6_numberOfTrailingZeros_0f7a4_75 rfl (lv_at hl 0 rfl) ?_
            refine lv_iconst (v := nI 1) hx hb dJ6_numberOfTrailingZeros_0f7a4_76 (by decide) ?_
            refine lv_iushr hx hb dJ6_numberOfTrailingZeros_0f7a4_77 rfl ?_
            refine lv_as (y := (nI ((((2 ^ tzN 14 S - 1) / 2 ^ 4) / 2 ^ 2) / 2 ^ 1))) (ni_ushr (by omega) (by omega)) ?_
            refine lv_iadd hx hb dJ6_numberOfTrailingZeros_0f7a4_78 ?_
            refine lv_as (y := (nI ((1 + 4 + 2) + ((((2 ^ tzN 14 S - 1) / 2 ^ 4) / 2 ^ 2) / 2 ^ 1)))) (nI_add _ _) ?_
            exact pu_iret (y := yJ6_numberOfTrailingZeros_0f7a4) hx hb hr hlocks hS (by generalize tzN 14 S = t at ht c9 c23 c38 c52 c64 ⊢; rcases tz14 ht with rfl | rfl | rfl | rfl | rfl | rfl | rfl | rfl | rfl | rfl | rfl | rfl | rfl | rfl <;> first | decide +kernel | exact absurd c9 (by decide +kernel) | exact absurd c23 (by decide +kernel) | exact absurd c38 (by decide +kernel) | exact absurd c52 (by decide +kernel) | exact absurd c64 (by decide +kernel)) dJ6_numberOfTrailingZeros_0f7a4_79
      · refine lv_iinc (v := (nI (1 + 8))) (lv' := [(1, .int (nI (1 + 8))), (0, .int (nI (2 ^ tzN 14 S - 1)))]) hx hb dJ6_numberOfTrailingZeros_0f7a4_41 hl (k := 0) rfl (ni_incn _ 8) (by decide) rfl (fun ls hl => ?_)
        refine lv_iload_n hx hb dJ6_numberOfTrailingZeros_0f7a4_44 rfl (lv_at hl 1 rfl) ?_
        refine lv_bipush (v := nI 8) hx hb dJ6_numberOfTrailingZeros_0f7a4_45 (by decide) ?_
        refine lv_iushr hx hb dJ6_numberOfTrailingZeros_0f7a4_47 rfl ?_
        refine lv_as (y := (nI ((2 ^ tzN 14 S - 1) / 2 ^ 8))) (ni_ushr (by omega) (by omega)) ?_
        refine lv_istore_n (lv' := [(0, .int (nI ((2 ^ tzN 14 S - 1) / 2 ^ 8))), (1, .int (nI (1 + 8)))]) hx hb dJ6_numberOfTrailingZeros_0f7a4_48 rfl hl (by decide) rfl (fun ls hl => ?_)
        refine lv_iload_n hx hb dJ6_numberOfTrailingZeros_0f7a4_49 rfl (lv_at hl 0 rfl) ?_
        refine lv_bipush (v := nI 16) hx hb dJ6_numberOfTrailingZeros_0f7a4_50 (by decide) ?_
        refine n_le (a := ((2 ^ tzN 14 S - 1) / 2 ^ 8)) (b := 16) (tgt := 62) hx hb dJ6_numberOfTrailingZeros_0f7a4_52 (by decide) (by omega) (by omega) (fun c52 => ?_) (fun c52 => ?_)
        · refine lv_iload_n hx hb dJ6_numberOfTrailingZeros_0f7a4_62 rfl (lv_at hl 0 rfl) ?_
          refine lv_iconst (v := nI 4) hx hb dJ6_numberOfTrailingZeros_0f7a4_63 (by decide) ?_
          refine n_le (a := ((2 ^ tzN 14 S - 1) / 2 ^ 8)) (b := 4) (tgt := 74) hx hb dJ6_numberOfTrailingZeros_0f7a4_64 (by decide) (by omega) (by omega) (fun c64 => ?_) (fun c64 => ?_)
          · refine lv_iload_n hx hb dJ6_numberOfTrailingZeros_0f7a4_74 rfl (lv_at hl 1 rfl) ?_
            refine lv_iload_n hx hb dJ6_numberOfTrailingZeros_0f7a4_75 rfl (lv_at hl 0 rfl) ?_
            refine lv_iconst (v := nI 1) hx hb dJ6_numberOfTrailingZeros_0f7a4_76 (by decide) ?_
            refine lv_iushr hx hb dJ6_numberOfTrailingZeros_0f7a4_77 rfl ?_
            refine lv_as (y := (nI (((2 ^ tzN 14 S - 1) / 2 ^ 8) / 2 ^ 1))) (ni_ushr (by omega) (by omega)) ?_
            refine lv_iadd hx hb dJ6_numberOfTrailingZeros_0f7a4_78 ?_
            refine lv_as (y := (nI ((1 + 8) + (((2 ^ tzN 14 S - 1) / 2 ^ 8) / 2 ^ 1)))) (nI_add _ _) ?_
            exact pu_iret (y := yJ6_numberOfTrailingZeros_0f7a4) hx hb hr hlocks hS (by generalize tzN 14 S = t at ht c9 c23 c38 c52 c64 ⊢; rcases tz14 ht with rfl | rfl | rfl | rfl | rfl | rfl | rfl | rfl | rfl | rfl | rfl | rfl | rfl | rfl <;> first | decide +kernel | exact absurd c9 (by decide +kernel) | exact absurd c23 (by decide +kernel) | exact absurd c38 (by decide +kernel) | exact absurd c52 (by decide +kernel) | exact absurd c64 (by decide +kernel)) dJ6_numberOfTrailingZeros_0f7a4_79
          · refine lv_iinc (v := (nI (1 + 8 + 2))) (lv' := [(1, .int (nI (1 + 8 + 2))), (0, .int (nI ((2 ^ tzN 14 S - 1) / 2 ^ 8)))]) hx hb dJ6_numberOfTrailingZeros_0f7a4_67 hl (k := 1) rfl (ni_incn _ 2) (by decide) rfl (fun ls hl => ?_)
            refine lv_iload_n hx hb dJ6_numberOfTrailingZeros_0f7a4_70 rfl (lv_at hl 1 rfl) ?_
            refine lv_iconst (v := nI 2) hx hb dJ6_numberOfTrailingZeros_0f7a4_71 (by decide) ?_
            refine lv_iushr hx hb dJ6_numberOfTrailingZeros_0f7a4_72 rfl ?_
            refine lv_as (y := (nI (((2 ^ tzN 14 S - 1) / 2 ^ 8) / 2 ^ 2))) (ni_ushr (by omega) (by omega)) ?_
            refine lv_istore_n (lv' := [(0, .int (nI (((2 ^ tzN 14 S - 1) / 2 ^ 8) / 2 ^ 2))), (1, .int (nI (1 + 8 + 2)))]) hx hb dJ6_numberOfTrailingZeros_0f7a4_73 rfl hl (by decide) rfl (fun ls hl => ?_)
            refine lv_iload_n hx hb dJ6_numberOfTrailingZeros_0f7a4_74 rfl (lv_at hl 1 rfl) ?_
            refine lv_iload_n hx hb dJ6_numberOfTrailingZeros_0f7a4_75 rfl (lv_at hl 0 rfl) ?_
            refine lv_iconst (v := nI 1) hx hb dJ6_numberOfTrailingZeros_0f7a4_76 (by decide) ?_
            refine lv_iushr hx hb dJ6_numberOfTrailingZeros_0f7a4_77 rfl ?_
            refine lv_as (y := (nI ((((2 ^ tzN 14 S - 1) / 2 ^ 8) / 2 ^ 2) / 2 ^ 1))) (ni_ushr (by omega) (by omega)) ?_
            refine lv_iadd hx hb dJ6_numberOfTrailingZeros_0f7a4_78 ?_
            refine lv_as (y := (nI ((1 + 8 + 2) + ((((2 ^ tzN 14 S - 1) / 2 ^ 8) / 2 ^ 2) / 2 ^ 1)))) (nI_add _ _) ?_
            exact pu_iret (y := yJ6_numberOfTrailingZeros_0f7a4) hx hb hr hlocks hS (by generalize tzN 14 S = t at ht c9 c23 c38 c52 c64 ⊢; rcases tz14 ht with rfl | rfl | rfl | rfl | rfl | rfl | rfl | rfl | rfl | rfl | rfl | rfl | rfl | rfl <;> first | decide +kernel | exact absurd c9 (by decide +kernel) | exact absurd c23 (by decide +kernel) | exact absurd c38 (by decide +kernel) | exact absurd c52 (by decide +kernel) | exact absurd c64 (by decide +kernel)) dJ6_numberOfTrailingZeros_0f7a4_79
        · refine lv_iinc (v := (nI (1 + 8 + 4))) (lv' := [(1, .int (nI (1 + 8 + 4))), (0, .int (nI ((2 ^ tzN 14 S - 1) / 2 ^ 8)))]) hx hb dJ6_numberOfTrailingZeros_0f7a4_55 hl (k := 1) rfl (ni_incn _ 4) (by decide) rfl (fun ls hl => ?_)
          refine lv_iload_n hx hb dJ6_numberOfTrailingZeros_0f7a4_58 rfl (lv_at hl 1 rfl) ?_
          refine lv_iconst (v := nI 4) hx hb dJ6_numberOfTrailingZeros_0f7a4_59 (by decide) ?_
          refine lv_iushr hx hb dJ6_numberOfTrailingZeros_0f7a4_60 rfl ?_
          refine lv_as (y := (nI (((2 ^ tzN 14 S - 1) / 2 ^ 8) / 2 ^ 4))) (ni_ushr (by omega) (by omega)) ?_
          refine lv_istore_n (lv' := [(0, .int (nI (((2 ^ tzN 14 S - 1) / 2 ^ 8) / 2 ^ 4))), (1, .int (nI (1 + 8 + 4)))]) hx hb dJ6_numberOfTrailingZeros_0f7a4_61 rfl hl (by decide) rfl (fun ls hl => ?_)
          refine lv_iload_n hx hb dJ6_numberOfTrailingZeros_0f7a4_62 rfl (lv_at hl 0 rfl) ?_
          refine lv_iconst (v := nI 4) hx hb dJ6_numberOfTrailingZeros_0f7a4_63 (by decide) ?_
          refine n_le (a := (((2 ^ tzN 14 S - 1) / 2 ^ 8) / 2 ^ 4)) (b := 4) (tgt := 74) hx hb dJ6_numberOfTrailingZeros_0f7a4_64 (by decide) (by omega) (by omega) (fun c64 => ?_) (fun c64 => ?_)
          · refine lv_iload_n hx hb dJ6_numberOfTrailingZeros_0f7a4_74 rfl (lv_at hl 1 rfl) ?_
            refine lv_iload_n hx hb dJ6_numberOfTrailingZeros_0f7a4_75 rfl (lv_at hl 0 rfl) ?_
            refine lv_iconst (v := nI 1) hx hb dJ6_numberOfTrailingZeros_0f7a4_76 (by decide) ?_
            refine lv_iushr hx hb dJ6_numberOfTrailingZeros_0f7a4_77 rfl ?_
            refine lv_as (y := (nI ((((2 ^ tzN 14 S - 1) / 2 ^ 8) / 2 ^ 4) / 2 ^ 1))) (ni_ushr (by omega) (by omega)) ?_
            refine lv_iadd hx hb dJ6_numberOfTrailingZeros_0f7a4_78 ?_
            refine lv_as (y := (nI ((1 + 8 + 4) + ((((2 ^ tzN 14 S - 1) / 2 ^ 8) / 2 ^ 4) / 2 ^ 1)))) (nI_add _ _) ?_
            exact pu_iret (y := yJ6_numberOfTrailingZeros_0f7a4) hx hb hr hlocks hS (by generalize tzN 14 S = t at ht c9 c23 c38 c52 c64 ⊢; rcases tz14 ht with rfl | rfl | rfl | rfl | rfl | rfl | rfl | rfl | rfl | rfl | rfl | rfl | rfl | rfl <;> first | decide +kernel | exact absurd c9 (by decide +kernel) | exact absurd c23 (by decide +kernel) | exact absurd c38 (by decide +kernel) | exact absurd c52 (by decide +kernel) | exact absurd c64 (by decide +kernel)) dJ6_numberOfTrailingZeros_0f7a4_79
          · refine lv_iinc (v := (nI (1 + 8 + 4 + 2))) (lv' := [(1, .int (nI (1 + 8 + 4 + 2))), (0, .int (nI (((2 ^ tzN 14 S - 1) / 2 ^ 8) / 2 ^ 4)))]) hx hb dJ6_numberOfTrailingZeros_0f7a4_67 hl (k := 1) rfl (ni_incn _ 2) (by decide) rfl (fun ls hl => ?_)
            refine lv_iload_n hx hb dJ6_numberOfTrailingZeros_0f7a4_70 rfl (lv_at hl 1 rfl) ?_
            refine lv_iconst (v := nI 2) hx hb dJ6_numberOfTrailingZeros_0f7a4_71 (by decide) ?_
            refine lv_iushr hx hb dJ6_numberOfTrailingZeros_0f7a4_72 rfl ?_
            refine lv_as (y := (nI ((((2 ^ tzN 14 S - 1) / 2 ^ 8) / 2 ^ 4) / 2 ^ 2))) (ni_ushr (by omega) (by omega)) ?_
            refine lv_istore_n (lv' := [(0, .int (nI ((((2 ^ tzN 14 S - 1) / 2 ^ 8) / 2 ^ 4) / 2 ^ 2))), (1, .int (nI (1 + 8 + 4 + 2)))]) hx hb dJ6_numberOfTrailingZeros_0f7a4_73 rfl hl (by decide) rfl (fun ls hl => ?_)
            refine lv_iload_n hx hb dJ6_numberOfTrailingZeros_0f7a4_74 rfl (lv_at hl 1 rfl) ?_
            refine lv_iload_n hx hb dJ6_numberOfTrailingZeros_0f7a4_75 rfl (lv_at hl 0 rfl) ?_
            refine lv_iconst (v := nI 1) hx hb dJ6_numberOfTrailingZeros_0f7a4_76 (by decide) ?_
            refine lv_iushr hx hb dJ6_numberOfTrailingZeros_0f7a4_77 rfl ?_
            refine lv_as (y := (nI (((((2 ^ tzN 14 S - 1) / 2 ^ 8) / 2 ^ 4) / 2 ^ 2) / 2 ^ 1))) (ni_ushr (by omega) (by omega)) ?_
            refine lv_iadd hx hb dJ6_numberOfTrailingZeros_0f7a4_78 ?_
            refine lv_as (y := (nI ((1 + 8 + 4 + 2) + (((((2 ^ tzN 14 S - 1) / 2 ^ 8) / 2 ^ 4) / 2 ^ 2) / 2 ^ 1)))) (nI_add _ _) ?_
            exact pu_iret (y := yJ6_numberOfTrailingZeros_0f7a4) hx hb hr hlocks hS (by generalize tzN 14 S = t at ht c9 c23 c38 c52 c64 ⊢; rcases tz14 ht with rfl | rfl | rfl | rfl | rfl | rfl | rfl | rfl | rfl | rfl | rfl | rfl | rfl | rfl <;> first | decide +kernel | exact absurd c9 (by decide +kernel) | exact absurd c23 (by decide +kernel) | exact absurd c38 (by decide +kernel) | exact absurd c52 (by decide +kernel) | exact absurd c64 (by decide +kernel)) dJ6_numberOfTrailingZeros_0f7a4_79
    · refine lv_iinc (v := (nI (1 + 16))) (lv' := [(1, .int (nI (1 + 16))), (0, .int (nI (2 ^ tzN 14 S - 1)))]) hx hb dJ6_numberOfTrailingZeros_0f7a4_26 hl (k := 0) rfl (ni_incn _ 16) (by decide) rfl (fun ls hl => ?_)
      refine lv_iload_n hx hb dJ6_numberOfTrailingZeros_0f7a4_29 rfl (lv_at hl 1 rfl) ?_
      refine lv_bipush (v := nI 16) hx hb dJ6_numberOfTrailingZeros_0f7a4_30 (by decide) ?_
      refine lv_iushr hx hb dJ6_numberOfTrailingZeros_0f7a4_32 rfl ?_
      refine lv_as (y := (nI ((2 ^ tzN 14 S - 1) / 2 ^ 16))) (ni_ushr (by omega) (by omega)) ?_
      refine lv_istore_n (lv' := [(0, .int (nI ((2 ^ tzN 14 S - 1) / 2 ^ 16))), (1, .int (nI (1 + 16)))]) hx hb dJ6_numberOfTrailingZeros_0f7a4_33 rfl hl (by decide) rfl (fun ls hl => ?_)
      refine lv_iload_n hx hb dJ6_numberOfTrailingZeros_0f7a4_34 rfl (lv_at hl 0 rfl) ?_
      refine lv_sipush (v := nI 256) hx hb dJ6_numberOfTrailingZeros_0f7a4_35 (by decide) ?_
      refine n_le (a := ((2 ^ tzN 14 S - 1) / 2 ^ 16)) (b := 256) (tgt := 49) hx hb dJ6_numberOfTrailingZeros_0f7a4_38 (by decide) (by omega) (by omega) (fun c38 => ?_) (fun c38 => ?_)
      · refine lv_iload_n hx hb dJ6_numberOfTrailingZeros_0f7a4_49 rfl (lv_at hl 0 rfl) ?_
        refine lv_bipush (v := nI 16) hx hb dJ6_numberOfTrailingZeros_0f7a4_50 (by decide) ?_
        refine n_le (a := ((2 ^ tzN 14 S - 1) / 2 ^ 16)) (b := 16) (tgt := 62) hx hb dJ6_numberOfTrailingZeros_0f7a4_52 (by decide) (by omega) (by omega) (fun c52 => ?_) (fun c52 => ?_)
        · refine lv_iload_n hx hb dJ6_numberOfTrailingZeros_0f7a4_62 rfl (lv_at hl 0 rfl) ?_
          refine lv_iconst (v := nI 4) hx hb dJ6_numberOfTrailingZeros_0f7a4_63 (by decide) ?_
          refine n_le (a := ((2 ^ tzN 14 S - 1) / 2 ^ 16)) (b := 4) (tgt := 74) hx hb dJ6_numberOfTrailingZeros_0f7a4_64 (by decide) (by omega) (by omega) (fun c64 => ?_) (fun c64 => ?_)
          · refine lv_iload_n hx hb dJ6_numberOfTrailingZeros_0f7a4_74 rfl (lv_at hl 1 rfl) ?_
            refine lv_iload_n hx hb dJ6_numberOfTrailingZeros_0f7a4_75 rfl (lv_at hl 0 rfl) ?_
            refine lv_iconst (v := nI 1) hx hb dJ6_numberOfTrailingZeros_0f7a4_76 (by decide) ?_
            refine lv_iushr hx hb dJ6_numberOfTrailingZeros_0f7a4_77 rfl ?_
            refine lv_as (y := (nI (((2 ^ tzN 14 S - 1) / 2 ^ 16) / 2 ^ 1))) (ni_ushr (by omega) (by omega)) ?_
            refine lv_iadd hx hb dJ6_numberOfTrailingZeros_0f7a4_78 ?_
            refine lv_as (y := (nI ((1 + 16) + (((2 ^ tzN 14 S - 1) / 2 ^ 16) / 2 ^ 1)))) (nI_add _ _) ?_
            exact pu_iret (y := yJ6_numberOfTrailingZeros_0f7a4) hx hb hr hlocks hS (by generalize tzN 14 S = t at ht c9 c23 c38 c52 c64 ⊢; rcases tz14 ht with rfl | rfl | rfl | rfl | rfl | rfl | rfl | rfl | rfl | rfl | rfl | rfl | rfl | rfl <;> first | decide +kernel | exact absurd c9 (by decide +kernel) | exact absurd c23 (by decide +kernel) | exact absurd c38 (by decide +kernel) | exact absurd c52 (by decide +kernel) | exact absurd c64 (by decide +kernel)) dJ6_numberOfTrailingZeros_0f7a4_79
          · refine lv_iinc (v := (nI (1 + 16 + 2))) (lv' := [(1, .int (nI (1 + 16 + 2))), (0, .int (nI ((2 ^ tzN 14 S - 1) / 2 ^ 16)))]) hx hb dJ6_numberOfTrailingZeros_0f7a4_67 hl (k := 1) rfl (ni_incn _ 2) (by decide) rfl (fun ls hl => ?_)
            refine lv_iload_n hx hb dJ6_numberOfTrailingZeros_0f7a4_70 rfl (lv_at hl 1 rfl) ?_
            refine lv_iconst (v := nI 2) hx hb dJ6_numberOfTrailingZeros_0f7a4_71 (by decide) ?_
            refine lv_iushr hx hb dJ6_numberOfTrailingZeros_0f7a4_72 rfl ?_
            refine lv_as (y := (nI (((2 ^ tzN 14 S - 1) / 2 ^ 16) / 2 ^ 2))) (ni_ushr (by omega) (by omega)) ?_
            refine lv_istore_n (lv' := [(0, .int (nI (((2 ^ tzN 14 S - 1) / 2 ^ 16) / 2 ^ 2))), (1, .int (nI (1 + 16 + 2)))]) hx hb dJ6_numberOfTrailingZeros_0f7a4_73 rfl hl (by decide) rfl (fun ls hl => ?_)
            refine lv_iload_n hx hb dJ6_numberOfTrailingZeros_0f7a4_74 rfl (lv_at hl 1 rfl) ?_
            refine lv_iload_n hx hb dJ6_numberOfTrailingZeros_0f7a4_75 rfl (lv_at hl 0 rfl) ?_
            refine lv_iconst (v := nI 1) hx hb dJ6_numberOfTrailingZeros_0f7a4_76 (by decide) ?_
            refine lv_iushr hx hb dJ6_numberOfTrailingZeros_0f7a4_77 rfl ?_
            refine lv_as (y := (nI ((((2 ^ tzN 14 S - 1) / 2 ^ 16) / 2 ^ 2) / 2 ^ 1))) (ni_ushr (by omega) (by omega)) ?_
            refine lv_iadd hx hb dJ6_numberOfTrailingZeros_0f7a4_78 ?_
            refine lv_as (y := (nI ((1 + 16 + 2) + ((((2 ^ tzN 14 S - 1) / 2 ^ 16) / 2 ^ 2) / 2 ^ 1)))) (nI_add _ _) ?_
            exact pu_iret (y := yJ6_numberOfTrailingZeros_0f7a4) hx hb hr hlocks hS (by generalize tzN 14 S = t at ht c9 c23 c38 c52 c64 ⊢; rcases tz14 ht with rfl | rfl | rfl | rfl | rfl | rfl | rfl | rfl | rfl | rfl | rfl | rfl | rfl | rfl <;> first | decide +kernel | exact absurd c9 (by decide +kernel) | exact absurd c23 (by decide +kernel) | exact absurd c38 (by decide +kernel) | exact absurd c52 (by decide +kernel) | exact absurd c64 (by decide +kernel)) dJ6_numberOfTrailingZeros_0f7a4_79
        · refine lv_iinc (v := (nI (1 + 16 + 4))) (lv' := [(1, .int (nI (1 + 16 + 4))), (0, .int (nI ((2 ^ tzN 14 S - 1) / 2 ^ 16)))]) hx hb dJ6_numberOfTrailingZeros_0f7a4_55 hl (k := 1) rfl (ni_incn _ 4) (by decide) rfl (fun ls hl => ?_)
          refine lv_iload_n hx hb dJ6_numberOfTrailingZeros_0f7a4_58 rfl (lv_at hl 1 rfl) ?_
          refine lv_iconst (v := nI 4) hx hb dJ6_numberOfTrailingZeros_0f7a4_59 (by decide) ?_
          refine lv_iushr hx hb dJ6_numberOfTrailingZeros_0f7a4_60 rfl ?_
          refine lv_as (y := (nI (((2 ^ tzN 14 S - 1) / 2 ^ 16) / 2 ^ 4))) (ni_ushr (by omega) (by omega)) ?_
          refine lv_istore_n (lv' := [(0, .int (nI (((2 ^ tzN 14 S - 1) / 2 ^ 16) / 2 ^ 4))), (1, .int (nI (1 + 16 + 4)))]) hx hb dJ6_numberOfTrailingZeros_0f7a4_61 rfl hl (by decide) rfl (fun ls hl => ?_)
          refine lv_iload_n hx hb dJ6_numberOfTrailingZeros_0f7a4_62 rfl (lv_at hl 0 rfl) ?_
          refine lv_iconst (v := nI 4) hx hb dJ6_numberOfTrailingZeros_0f7a4_63 (by decide) ?_
          refine n_le (a := (((2 ^ tzN 14 S - 1) / 2 ^ 16) / 2 ^ 4)) (b := 4) (tgt := 74) hx hb dJ6_numberOfTrailingZeros_0f7a4_64 (by decide) (by omega) (by omega) (fun c64 => ?_) (fun c64 => ?_)
          · refine lv_iload_n hx hb dJ6_numberOfTrailingZeros_0f7a4_74 rfl (lv_at hl 1 rfl) ?_
            refine lv_iload_n hx hb dJ6_numberOfTrailingZeros_0f7a4_75 rfl (lv_at hl 0 rfl) ?_
            refine lv_iconst (v := nI 1) hx hb dJ6_numberOfTrailingZeros_0f7a4_76 (by decide) ?_
            refine lv_iushr hx hb dJ6_numberOfTrailingZeros_0f7a4_77 rfl ?_
            refine lv_as (y := (nI ((((2 ^ tzN 14 S - 1) / 2 ^ 16) / 2 ^ 4) / 2 ^ 1))) (ni_ushr (by omega) (by omega)) ?_
            refine lv_iadd hx hb dJ6_numberOfTrailingZeros_0f7a4_78 ?_
            refine lv_as (y := (nI ((1 + 16 + 4) + ((((2 ^ tzN 14 S - 1) / 2 ^ 16) / 2 ^ 4) / 2 ^ 1)))) (nI_add _ _) ?_
            exact pu_iret (y := yJ6_numberOfTrailingZeros_0f7a4) hx hb hr hlocks hS (by generalize tzN 14 S = t at ht c9 c23 c38 c52 c64 ⊢; rcases tz14 ht with rfl | rfl | rfl | rfl | rfl | rfl | rfl | rfl | rfl | rfl | rfl | rfl | rfl | rfl <;> first | decide +kernel | exact absurd c9 (by decide +kernel) | exact absurd c23 (by decide +kernel) | exact absurd c38 (by decide +kernel) | exact absurd c52 (by decide +kernel) | exact absurd c64 (by decide +kernel)) dJ6_numberOfTrailingZeros_0f7a4_79
          · refine lv_iinc (v := (nI (1 + 16 + 4 + 2))) (lv' := [(1, .int (nI (1 + 16 + 4 + 2))), (0, .int (nI (((2 ^ tzN 14 S - 1) / 2 ^ 16) / 2 ^ 4)))]) hx hb dJ6_numberOfTrailingZeros_0f7a4_67 hl (k := 1) rfl (ni_incn _ 2) (by decide) rfl (fun ls hl => ?_)
            refine lv_iload_n hx hb dJ6_numberOfTrailingZeros_0f7a4_70 rfl (lv_at hl 1 rfl) ?_
            refine lv_iconst (v := nI 2) hx hb dJ6_numberOfTrailingZeros_0f7a4_71 (by decide) ?_
            refine lv_iushr hx hb dJ6_numberOfTrailingZeros_0f7a4_72 rfl ?_
            refine lv_as (y := (nI ((((2 ^ tzN 14 S - 1) / 2 ^ 16) / 2 ^ 4) / 2 ^ 2))) (ni_ushr (by omega) (by omega)) ?_
            refine lv_istore_n (lv' := [(0, .int (nI ((((2 ^ tzN 14 S - 1) / 2 ^ 16) / 2 ^ 4) / 2 ^ 2))), (1, .int (nI (1 + 16 + 4 + 2)))]) hx hb dJ6_numberOfTrailingZeros_0f7a4_73 rfl hl (by decide) rfl (fun ls hl => ?_)
            refine lv_iload_n hx hb dJ6_numberOfTrailingZeros_0f7a4_74 rfl (lv_at hl 1 rfl) ?_
            refine lv_iload_n hx hb dJ6_numberOfTrailingZeros_0f7a4_75 rfl (lv_at hl 0 rfl) ?_
            refine lv_iconst (v := nI 1) hx hb dJ6_numberOfTrailingZeros_0f7a4_76 (by decide) ?_
            refine lv_iushr hx hb dJ6_numberOfTrailingZeros_0f7a4_77 rfl ?_
            refine lv_as (y := (nI (((((2 ^ tzN 14 S - 1) / 2 ^ 16) / 2 ^ 4) / 2 ^ 2) / 2 ^ 1))) (ni_ushr (by omega) (by omega)) ?_
            refine lv_iadd hx hb dJ6_numberOfTrailingZeros_0f7a4_78 ?_
            refine lv_as (y := (nI ((1 + 16 + 4 + 2) + (((((2 ^ tzN 14 S - 1) / 2 ^ 16) / 2 ^ 4) / 2 ^ 2) / 2 ^ 1)))) (nI_add _ _) ?_
            exact pu_iret (y := yJ6_numberOfTrailingZeros_0f7a4) hx hb hr hlocks hS (by generalize tzN 14 S = t at ht c9 c23 c38 c52 c64 ⊢; rcases tz14 ht with rfl | rfl | rfl | rfl | rfl | rfl | rfl | rfl | rfl | rfl | rfl | rfl | rfl | rfl <;> first | decide +kernel | exact absurd c9 (by decide +kernel) | exact absurd c23 (by decide +kernel) | exact absurd c38 (by decide +kernel) | exact absurd c52 (by decide +kernel) | exact absurd c64 (by decide +kernel)) dJ6_numberOfTrailingZeros_0f7a4_79
      · refine lv_iinc (v := (nI (1 + 16 + 8))) (lv' := [(1, .int (nI (1 + 16 + 8))), (0, .int (nI ((2 ^ tzN 14 S - 1) / 2 ^ 16)))]) hx hb dJ6_numberOfTrailingZeros_0f7a4_41 hl (k := 1) rfl (ni_incn _ 8) (by decide) rfl (fun ls hl => ?_)
        refine lv_iload_n hx hb dJ6_numberOfTrailingZeros_0f7a4_44 rfl (lv_at hl 1 rfl) ?_
        refine lv_bipush (v := nI 8) hx hb dJ6_numberOfTrailingZeros_0f7a4_45 (by decide) ?_
        refine lv_iushr hx hb dJ6_numberOfTrailingZeros_0f7a4_47 rfl ?_
        refine lv_as (y := (nI (((2 ^ tzN 14 S - 1) / 2 ^ 16) / 2 ^ 8))) (ni_ushr (by omega) (by omega)) ?_
        refine lv_istore_n (lv' := [(0, .int (nI (((2 ^ tzN 14 S - 1) / 2 ^ 16) / 2 ^ 8))), (1, .int (nI (1 + 16 + 8)))]) hx hb dJ6_numberOfTrailingZeros_0f7a4_48 rfl hl (by decide) rfl (fun ls hl => ?_)
        refine lv_iload_n hx hb dJ6_numberOfTrailingZeros_0f7a4_49 rfl (lv_at hl 0 rfl) ?_
        refine lv_bipush (v := nI 16) hx hb dJ6_numberOfTrailingZeros_0f7a4_50 (by decide) ?_
        refine n_le (a := (((2 ^ tzN 14 S - 1) / 2 ^ 16) / 2 ^ 8)) (b := 16) (tgt := 62) hx hb dJ6_numberOfTrailingZeros_0f7a4_52 (by decide) (by omega) (by omega) (fun c52 => ?_) (fun c52 => ?_)
        · refine lv_iload_n hx hb dJ6_numberOfTrailingZeros_0f7a4_62 rfl (lv_at hl 0 rfl) ?_
          refine lv_iconst (v := nI 4) hx hb dJ6_numberOfTrailingZeros_0f7a4_63 (by decide) ?_
          refine n_le (a := (((2 ^ tzN 14 S - 1) / 2 ^ 16) / 2 ^ 8)) (b := 4) (tgt := 74) hx hb dJ6_numberOfTrailingZeros_0f7a4_64 (by decide) (by omega) (by omega) (fun c64 => ?_) (fun c64 => ?_)
          · refine lv_iload_n hx hb dJ6_numberOfTrailingZeros_0f7a4_74 rfl (lv_at hl 1 rfl) ?_
            refine lv_iload_n hx hb dJ6_numberOfTrailingZeros_0f7a4_75 rfl (lv_at hl 0 rfl) ?_
            refine lv_iconst (v := nI 1) hx hb dJ6_numberOfTrailingZeros_0f7a4_76 (by decide) ?_
            refine lv_iushr hx hb dJ6_numberOfTrailingZeros_0f7a4_77 rfl ?_
            refine lv_as (y := (nI ((((2 ^ tzN 14 S - 1) / 2 ^ 16) / 2 ^ 8) / 2 ^ 1))) (ni_ushr (by omega) (by omega)) ?_
            refine lv_iadd hx hb dJ6_numberOfTrailingZeros_0f7a4_78 ?_
            refine lv_as (y := (nI ((1 + 16 + 8) + ((((2 ^ tzN 14 S - 1) / 2 ^ 16) / 2 ^ 8) / 2 ^ 1)))) (nI_add _ _) ?_
            exact pu_iret (y := yJ6_numberOfTrailingZeros_0f7a4) hx hb hr hlocks hS (by generalize tzN 14 S = t at ht c9 c23 c38 c52 c64 ⊢; rcases tz14 ht with rfl | rfl | rfl | rfl | rfl | rfl | rfl | rfl | rfl | rfl | rfl | rfl | rfl | rfl <;> first | decide +kernel | exact absurd c9 (by decide +kernel) | exact absurd c23 (by decide +kernel) | exact absurd c38 (by decide +kernel) | exact absurd c52 (by decide +kernel) | exact absurd c64 (by decide +kernel)) dJ6_numberOfTrailingZeros_0f7a4_79
          · refine lv_iinc (v := (nI (1 + 16 + 8 + 2))) (lv' := [(1, .int (nI (1 + 16 + 8 + 2))), (0, .int (nI (((2 ^ tzN 14 S - 1) / 2 ^ 16) / 2 ^ 8)))]) hx hb dJ6_numberOfTrailingZeros_0f7a4_67 hl (k := 1) rfl (ni_incn _ 2) (by decide) rfl (fun ls hl => ?_)
            refine lv_iload_n hx hb dJ6_numberOfTrailingZeros_0f7a4_70 rfl (lv_at hl 1 rfl) ?_
            refine lv_iconst (v := nI 2) hx hb dJ6_numberOfTrailingZeros_0f7a4_71 (by decide) ?_
            refine lv_iushr hx hb dJ6_numberOfTrailingZeros_0f7a4_72 rfl ?_
            refine lv_as (y := (nI ((((2 ^ tzN 14 S - 1) / 2 ^ 16) / 2 ^ 8) / 2 ^ 2))) (ni_ushr (by omega) (by omega)) ?_
            refine lv_istore_n (lv' := [(0, .int (nI ((((2 ^ tzN 14 S - 1) / 2 ^ 16) / 2 ^ 8) / 2 ^ 2))), (1, .int (nI (1 + 16 + 8 + 2)))]) hx hb dJ6_numberOfTrailingZeros_0f7a4_73 rfl hl (by decide) rfl (fun ls hl => ?_)
            refine lv_iload_n hx hb dJ6_numberOfTrailingZeros_0f7a4_74 rfl (lv_at hl 1 rfl) ?_
            refine lv_iload_n hx hb dJ6_numberOfTrailingZeros_0f7a4_75 rfl (lv_at hl 0 rfl) ?_
            refine lv_iconst (v := nI 1) hx hb dJ6_numberOfTrailingZeros_0f7a4_76 (by decide) ?_
            refine lv_iushr hx hb dJ6_numberOfTrailingZeros_0f7a4_77 rfl ?_
            refine lv_as (y := (nI (((((2 ^ tzN 14 S - 1) / 2 ^ 16) / 2 ^ 8) / 2 ^ 2) / 2 ^ 1))) (ni_ushr (by omega) (by omega)) ?_
            refine lv_iadd hx hb dJ6_numberOfTrailingZeros_0f7a4_78 ?_
            refine lv_as (y := (nI ((1 + 16 + 8 + 2) + (((((2 ^ tzN 14 S - 1) / 2 ^ 16) / 2 ^ 8) / 2 ^ 2) / 2 ^ 1)))) (nI_add _ _) ?_
            exact pu_iret (y := yJ6_numberOfTrailingZeros_0f7a4) hx hb hr hlocks hS (by generalize tzN 14 S = t at ht c9 c23 c38 c52 c64 ⊢; rcases tz14 ht with rfl | rfl | rfl | rfl | rfl | rfl | rfl | rfl | rfl | rfl | rfl | rfl | rfl | rfl <;> first | decide +kernel | exact absurd c9 (by decide +kernel) | exact absurd c23 (by decide +kernel) | exact absurd c38 (by decide +kernel) | exact absurd c52 (by decide +kernel) | exact absurd c64 (by decide +kernel)) dJ6_numberOfTrailingZeros_0f7a4_79
        · refine lv_iinc (v := (nI (1 + 16 + 8 + 4))) (lv' := [(1, .int (nI (1 + 16 + 8 + 4))), (0, .int (nI (((2 ^ tzN 14 S - 1) / 2 ^ 16) / 2 ^ 8)))]) hx hb dJ6_numberOfTrailingZeros_0f7a4_55 hl (k := 1) rfl (ni_incn _ 4) (by decide) rfl (fun ls hl => ?_)
          refine lv_iload_n hx hb dJ6_numberOfTrailingZeros_0f7a4_58 rfl (lv_at hl 1 rfl) ?_
          refine lv_iconst (v := nI 4) hx hb dJ6_numberOfTrailingZeros_0f7a4_59 (by decide) ?_
          refine lv_iushr hx hb dJ6_numberOfTrailingZeros_0f7a4_60 rfl ?_
          refine lv_as (y := (nI ((((2 ^ tzN 14 S - 1) / 2 ^ 16) / 2 ^ 8) / 2 ^ 4))) (ni_ushr (by omega) (by omega)) ?_
          refine lv_istore_n (lv' := [(0, .int (nI ((((2 ^ tzN 14 S - 1) / 2 ^ 16) / 2 ^ 8) / 2 ^ 4))), (1, .int (nI (1 + 16 + 8 + 4)))]) hx hb dJ6_numberOfTrailingZeros_0f7a4_61 rfl hl (by decide) rfl (fun ls hl => ?_)
          refine lv_iload_n hx hb dJ6_numberOfTrailingZeros_0f7a4_62 rfl (lv_at hl 0 rfl) ?_
          refine lv_iconst (v := nI 4) hx hb dJ6_numberOfTrailingZeros_0f7a4_63 (by decide) ?_
          refine n_le (a := ((((2 ^ tzN 14 S - 1) / 2 ^ 16) / 2 ^ 8) / 2 ^ 4)) (b := 4) (tgt := 74) hx hb dJ6_numberOfTrailingZeros_0f7a4_64 (by decide) (by omega) (by omega) (fun c64 => ?_) (fun c64 => ?_)
          · refine lv_iload_n hx hb dJ6_numberOfTrailingZeros_0f7a4_74 rfl (lv_at hl 1 rfl) ?_
            refine lv_iload_n hx hb dJ6_numberOfTrailingZeros_0f7a4_75 rfl (lv_at hl 0 rfl) ?_
            refine lv_iconst (v := nI 1) hx hb dJ6_numberOfTrailingZeros_0f7a4_76 (by decide) ?_
            refine lv_iushr hx hb dJ6_numberOfTrailingZeros_0f7a4_77 rfl ?_
            refine lv_as (y := (nI (((((2 ^ tzN 14 S - 1) / 2 ^ 16) / 2 ^ 8) / 2 ^ 4) / 2 ^ 1))) (ni_ushr (by omega) (by omega)) ?_
            refine lv_iadd hx hb dJ6_numberOfTrailingZeros_0f7a4_78 ?_
            refine lv_as (y := (nI ((1 + 16 + 8 + 4) + (((((2 ^ tzN 14 S - 1) / 2 ^ 16) / 2 ^ 8) / 2 ^ 4) / 2 ^ 1)))) (nI_add _ _) ?_
            exact pu_iret (y := yJ6_numberOfTrailingZeros_0f7a4) hx hb hr hlocks hS (by generalize tzN 14 S = t at ht c9 c23 c38 c52 c64 ⊢; rcases tz14 ht with rfl | rfl | rfl | rfl | rfl | rfl | rfl | rfl | rfl | rfl | rfl | rfl | rfl | rfl <;> first | decide +kernel | exact absurd c9 (by decide +kernel) | exact absurd c23 (by decide +kernel) | exact absurd c38 (by decide +kernel) | exact absurd c52 (by decide +kernel) | exact absurd c64 (by decide +kernel)) dJ6_numberOfTrailingZeros_0f7a4_79
          · refine lv_iinc (v := (nI (1 + 16 + 8 + 4 + 2))) (lv' := [(1, .int (nI (1 + 16 + 8 + 4 + 2))), (0, .int (nI ((((2 ^ tzN 14 S - 1) / 2 ^ 16) / 2 ^ 8) / 2 ^ 4)))]) hx hb dJ6_numberOfTrailingZeros_0f7a4_67 hl (k := 1) rfl (ni_incn _ 2) (by decide) rfl (fun ls hl => ?_)
            refine lv_iload_n hx hb dJ6_numberOfTrailingZeros_0f7a4_70 rfl (lv_at hl 1 rfl) ?_
            refine lv_iconst (v := nI 2) hx hb dJ6_numberOfTrailingZeros_0f7a4_71 (by decide) ?_
            refine lv_iushr hx hb dJ6_numberOfTrailingZeros_0f7a4_72 rfl ?_
            refine lv_as (y := (nI (((((2 ^ tzN 14 S - 1) / 2 ^ 16) / 2 ^ 8) / 2 ^ 4) / 2 ^ 2))) (ni_ushr (by omega) (by omega)) ?_
            refine lv_istore_n (lv' := [(0, .int (nI (((((2 ^ tzN 14 S - 1) / 2 ^ 16) / 2 ^ 8) / 2 ^ 4) / 2 ^ 2))), (1, .int (nI (1 + 16 + 8 + 4 + 2)))]) hx hb dJ6_numberOfTrailingZeros_0f7a4_73 rfl hl (by decide) rfl (fun ls hl => ?_)
            refine lv_iload_n hx hb dJ6_numberOfTrailingZeros_0f7a4_74 rfl (lv_at hl 1 rfl) ?_
            refine lv_iload_n hx hb dJ6_numberOfTrailingZeros_0f7a4_75 rfl (lv_at hl 0 rfl) ?_
            refine lv_iconst (v := nI 1) hx hb dJ6_numberOfTrailingZeros_0f7a4_76 (by decide) ?_
            refine lv_iushr hx hb dJ6_numberOfTrailingZeros_0f7a4_77 rfl ?_
            refine lv_as (y := (nI ((((((2 ^ tzN 14 S - 1) / 2 ^ 16) / 2 ^ 8) / 2 ^ 4) / 2 ^ 2) / 2 ^ 1))) (ni_ushr (by omega) (by omega)) ?_
            refine lv_iadd hx hb dJ6_numberOfTrailingZeros_0f7a4_78 ?_
            refine lv_as (y := (nI ((1 + 16 + 8 + 4 + 2) + ((((((2 ^ tzN 14 S - 1) / 2 ^ 16) / 2 ^ 8) / 2 ^ 4) / 2 ^ 2) / 2 ^ 1)))) (nI_add _ _) ?_
            exact pu_iret (y := yJ6_numberOfTrailingZeros_0f7a4) hx hb hr hlocks hS (by generalize tzN 14 S = t at ht c9 c23 c38 c52 c64 ⊢; rcases tz14 ht with rfl | rfl | rfl | rfl | rfl | rfl | rfl | rfl | rfl | rfl | rfl | rfl | rfl | rfl <;> first | decide +kernel | exact absurd c9 (by decide +kernel) | exact absurd c23 (by decide +kernel) | exact absurd c38 (by decide +kernel) | exact absurd c52 (by decide +kernel) | exact absurd c64 (by decide +kernel)) dJ6_numberOfTrailingZeros_0f7a4_79
  · refine lv_iload_n hx hb dJ6_numberOfTrailingZeros_0f7a4_12 rfl (lv_at hl 0 rfl) ?_
    refine lv_bipush (v := nI 32) hx hb dJ6_numberOfTrailingZeros_0f7a4_13 (by decide) ?_
    refine lv_iand hx hb dJ6_numberOfTrailingZeros_0f7a4_15 ?_
    refine lv_as (y := (nI ((2 ^ tzN 14 S - 1) &&& 32))) (ni_and _ _) ?_
    exact pu_iret (y := yJ6_numberOfTrailingZeros_0f7a4) hx hb hr hlocks hS (by generalize tzN 14 S = t at ht c9 ⊢; rcases tz14 ht with rfl | rfl | rfl | rfl | rfl | rfl | rfl | rfl | rfl | rfl | rfl | rfl | rfl | rfl <;> first | decide +kernel | exact absurd c9 (by decide +kernel)) dJ6_numberOfTrailingZeros_0f7a4_16

set_option maxHeartbeats 4000000 in
set_option maxRecDepth 100000 in
theorem c_J6_lowestOneBit_0f7a4 (l : Launch) (D : va_G) (cy : Nat → ClassId) {S : Nat} (hS9 : S < 16384) : PU l yJ6_lowestOneBit_0f7a4 wsJ6_lowestOneBit_0f7a4 ({ frames := 0, cells := 0, slots := 0, locals := 0 }) D cy [.int (nI S)] [] ((nI (loN S))) := by
  refine Met.ofW (cc := cJ6_lowestOneBit_0f7a4) (maxL := 1) (ret := (some .int)) (by decide) rfl ?_
  intro p ev s m args below meth c s₁ B hml hv
  obtain ⟨rfl, hK, hP⟩ := hv
  have hx := B.exec
  have hb := B.bytes
  have hr := B.returns
  have hts := atoms_spec (ws := wsJ6_lowestOneBit_0f7a4) B.pre
  have hown : s.vm.findClass RJ6 = some m.cls := findClass_of_methodNamed B.named
  have hlocks := B.notSynchronized
  have hS : va_S (fun _ => False) s.heap s.heap [] := va_S.rf
  have hP : va_P D vwCl [] s.heap := hP
  have hl := lv_entry ([.int (nI S)]) (n := 1) (Nat.le_of_ble_eq_true rfl)
  rw [lg_entry_eq]
  generalize (lg_sl ([.int (nI S)]) ++ List.replicate (1 - (lg_sl ([.int (nI S)])).length) Slot.unset).toArray = ls at hl ⊢
  have hl : lv_has ls 1 [(0, .int (nI S))] := hl
  have hgen := True.intro
  refine lv_iload_n hx hb dJ6_lowestOneBit_0f7a4_0 rfl (lv_at hl 0 rfl) ?_
  refine lv_iload_n hx hb dJ6_lowestOneBit_0f7a4_1 rfl (lv_at hl 0 rfl) ?_
  refine lv_ineg hx hb dJ6_lowestOneBit_0f7a4_2 ?_
  refine lv_iand hx hb dJ6_lowestOneBit_0f7a4_3 ?_
  refine lv_as (y := (nI (loN S))) (lo_ok hS9) ?_
  exact pu_iret (y := yJ6_lowestOneBit_0f7a4) hx hb hr hlocks hS (by first | rfl | (simp [bI, *]; done) | (simp_all [bI]; done)) dJ6_lowestOneBit_0f7a4_4

set_option maxHeartbeats 4000000 in
set_option maxRecDepth 100000 in
theorem c_allows3 (l : Launch) (D : va_G) (cy : Nat → ClassId) (ad : Nat → Nat) (ch : Int32) {g : GT} (hg : gOK g) {S : Nat} (hS9 : S < 2 ^ gE g) : PU l yX1_allows wsX1_allows ({ frames := 3, cells := 0, slots := 0, locals := 73 }) D cy [.ref (ad 7), .int (nI S)] (wK3 cy ad ch g) ((bI (decide (rA g S = ms_card 14 S)))) := by
  refine Met.ofW (cc := cX1_allows) (maxL := 2) (ret := (some .boolean)) (by decide) rfl ?_
  intro p ev s m args below meth c s₁ B hml hv
  obtain ⟨rfl, hK, hP⟩ := hv
  have hx := B.exec
  have hb := B.bytes
  have hr := B.returns
  have hts := atoms_spec (ws := wsX1_allows) B.pre
  have hown : s.vm.findClass RX1 = some m.cls := findClass_of_methodNamed B.named
  have hlocks := B.notSynchronized
  have hS : va_S (fun _ => False) s.heap s.heap [] := va_S.rf
  have hP : va_P D vwCl (wK3 cy ad ch g) s.heap := hP
  have inX0 : ∀ w ∈ wsX00, w ∈ wsX1_allows := by decide +kernel
  have inX3 : ∀ w ∈ wsX30, w ∈ wsX1_allows := by decide +kernel
  have hl := lv_entry ([.ref (ad 7), .int (nI S)]) (n := 2) (Nat.le_of_ble_eq_true rfl)
  rw [lg_entry_eq]
  generalize (lg_sl ([.ref (ad 7), .int (nI S)]) ++ List.replicate (2 - (lg_sl ([.ref (ad 7), .int (nI S)])).length) Slot.unset).toArray = ls at hl ⊢
  have hl : lv_has ls 2 [(0, .ref (ad 7)), (1, .int (nI S))] := hl
  have hgen := True.intro
  have hE := hg.2.2.1
  have hV := hg.1
  have hC := hg.2.1
  have hS8 : 2 ^ gE g ≤ 2 ^ 14 := Nat.pow_le_pow_right (by decide) hE
  have hrk := rA_le g S
  have hcd := ms_card_le 14 S
  refine lv_aload_n hx hb dX1_allows_0 rfl (lv_at hl 0 rfl) ?_
  refine lv_iload_n hx hb dX1_allows_1 rfl (lv_at hl 1 rfl) ?_
  refine pu_call (va_runU (As := [.int (nI S)]) (rest := []) ⟨hx, hb, hml, hown, hts⟩ (c_X3_rankOf l D cy ad ch hg (S := S) (by omega)) (va_cwA 1 hts gX1_allows_X3_rankOf_u13X3 rfl rfl rfl (hK.2 _ (List.mem_of_getElem? (i := 6) rfl)) (by decide +kernel) ⟨Nat.le_of_ble_eq_true rfl, Nat.le_of_ble_eq_true rfl⟩) (PU_preV (ci := 2) (q0 := 0) hK hP 0 rfl rfl [0, 1, 2, 3, 4, 5, 6] rfl) rfl rfl hl.1 rfl (lv_room (Nat.le_of_ble_eq_true rfl)) dX1_allows_2 ⟨(Nat.zero_le _), (Nat.zero_le _)⟩) hS hP (fun H locs hP hS => ?_)
  refine lv_iload_n hx hb dX1_allows_5 rfl (lv_at hl 1 rfl) ?_
  refine pu_call (va_runS (As := [.int (nI S)]) (rest := [.int (nI (rA g S))]) ⟨hx, hb, hml, hown, hts⟩ (c_J6_bitCount_0f7a4 l D cy (S := S) (by omega)) (va_cwS 1 hts gX1_allows_J6_bitCount_0f7a4 rfl rfl rfl (by decide +kernel) ⟨Nat.le_of_ble_eq_true rfl, Nat.le_of_ble_eq_true rfl⟩) (PU_preS hK hP [] rfl) rfl rfl hl.1 rfl (lv_room (Nat.le_of_ble_eq_true rfl)) dX1_allows_6 ⟨(Nat.zero_le _), (Nat.zero_le _)⟩) hS hP (fun H locs hP hS => ?_)
  refine n_ne (a := (rA g S)) (b := (ms_card 14 S)) (tgt := 16) hx hb dX1_allows_9 (by decide) (by omega) (by omega) (fun c9 => ?_) (fun c9 => ?_)
  · refine lv_iconst (v := nI 0) hx hb dX1_allows_16 (by decide) ?_
    exact pu_zret hx hb hr hlocks hS (by first | (rw [decide_eq_true c9]; rfl) | (rw [decide_eq_false c9]; rfl)) dX1_allows_17
  · refine lv_iconst (v := nI 1) hx hb dX1_allows_12 (by decide) ?_
    refine lv_goto (tgt := 17) hx hb dX1_allows_13 (by decide) ?_
    exact pu_zret hx hb hr hlocks hS (by first | (rw [decide_eq_true c9]; rfl) | (rw [decide_eq_false c9]; rfl)) dX1_allows_17

set_option maxHeartbeats 4000000 in
set_option maxRecDepth 100000 in
theorem c_circuitWithin3 (l : Launch) (D : va_G) (cy : Nat → ClassId) (ad : Nat → Nat) (ch : Int32) {g : GT} (hg : gOK g) {S : Nat} (hS9 : S < 2 ^ gE g) : PU l yX1_circuitWithin wsX1_circuitWithin ({ frames := 3, cells := 0, slots := 0, locals := 73 }) D cy [.ref (ad 7), .int (nI S)] (wK3 cy ad ch g) ((nI (cirN (rA g) (gE g) S))) := by
  refine Met.ofW (cc := cX1_circuitWithin) (maxL := 6) (ret := (some .int)) (by decide) rfl ?_
  intro p ev s m args below meth c s₁ B hml hv
  obtain ⟨rfl, hK, hP⟩ := hv
  have hx := B.exec
  have hb := B.bytes
  have hr := B.returns
  have hts := atoms_spec (ws := wsX1_circuitWithin) B.pre
  have hown : s.vm.findClass RX1 = some m.cls := findClass_of_methodNamed B.named
  have hlocks := B.notSynchronized
  have hS : va_S (fun _ => False) s.heap s.heap [] := va_S.rf
  have hP : va_P D vwCl (wK3 cy ad ch g) s.heap := hP
  have inX0 : ∀ w ∈ wsX00, w ∈ wsX1_circuitWithin := by decide +kernel
  have inX3 : ∀ w ∈ wsX30, w ∈ wsX1_circuitWithin := by decide +kernel
  have hl := lv_entry ([.ref (ad 7), .int (nI S)]) (n := 6) (Nat.le_of_ble_eq_true rfl)
  rw [lg_entry_eq]
  generalize (lg_sl ([.ref (ad 7), .int (nI S)]) ++ List.replicate (6 - (lg_sl ([.ref (ad 7), .int (nI S)])).length) Slot.unset).toArray = ls at hl ⊢
  have hl : lv_has ls 6 [(0, .ref (ad 7)), (1, .int (nI S))] := hl
  have hgen := True.intro
  have hE := hg.2.2.1
  have hV := hg.1
  have hC := hg.2.1
  have hS8 : 2 ^ gE g ≤ 2 ^ 14 := Nat.pow_le_pow_right (by decide) hE
  have hrk := rA_le g S
  refine lv_aload_n hx hb dX1_circuitWithin_0 rfl (lv_at hl 0 rfl) ?_
  refine lv_iload_n hx hb dX1_circuitWithin_1 rfl (lv_at hl 1 rfl) ?_
  refine pu_call (va_runU (As := [.int (nI S)]) (rest := []) ⟨hx, hb, hml, hown, hts⟩ (c_X3_rankOf l D cy ad ch hg (S := S) (by omega)) (va_cwA 1 hts gX1_circuitWithin_X3_rankOf_u13X3 rfl rfl rfl (hK.2 _ (List.mem_of_getElem? (i := 6) rfl)) (by decide +kernel) ⟨Nat.le_of_ble_eq_true rfl, Nat.le_of_ble_eq_true rfl⟩) (PU_preV (ci := 2) (q0 := 0) hK hP 0 rfl rfl [0, 1, 2, 3, 4, 5, 6] rfl) rfl rfl hl.1 rfl (lv_room (Nat.le_of_ble_eq_true rfl)) dX1_circuitWithin_2 ⟨(Nat.zero_le _), (Nat.zero_le _)⟩) hS hP (fun H locs hP hS => ?_)
  refine lv_istore_n (lv' := [(2, .int (nI (rA g S))), (0, .ref (ad 7)), (1, .int (nI S))]) hx hb dX1_circuitWithin_5 rfl hl (by decide) rfl (fun ls hl => ?_)
  refine lv_iconst (v := nI 0) hx hb dX1_circuitWithin_6 (by decide) ?_
  refine lv_istore_n (lv' := [(3, .int (nI 0)), (2, .int (nI (rA g S))), (0, .ref (ad 7)), (1, .int (nI S))]) hx hb dX1_circuitWithin_7 rfl hl (by decide) rfl (fun ls hl => ?_)
  refine lv_iconst (v := nI 0) hx hb dX1_circuitWithin_8 (by decide) ?_
  refine lv_istore (lv' := [(4, .int (nI 0)), (3, .int (nI 0)), (2, .int (nI (rA g S))), (0, .ref (ad 7)), (1, .int (nI S))]) hx hb dX1_circuitWithin_9 hl (by decide) rfl (fun ls hl => ?_)
  have L11 : ∀ (n : Nat) (e : Nat), e ≤ gE g ∧ gE g + 1 ≤ e + n → ∀ (H : Heap) (locs : List Loc), va_P D vwCl (wK3 cy ad ch g) H → va_S (fun _ => False) s.heap H locs → ∀ (ls : Array Slot), lv_has ls 6 [(0, .ref (ad 7)), (1, .int (nI S)), (2, .int (nI (rA g S))), (3, .int (nI (ms_mk e (cirP (rA g) S)))), (4, .int (nI e))] → W p l ev (headSpec wsX1_circuitWithin ({ frames := 3, cells := 0, slots := 0, locals := 73 })).room s m [.ref (ad 7), .int (nI S)].toArray below meth c H locs 0 0 (MQ below (va_Qi (fun (x : Int32) (_ : Unit) => x = (nI (cirN (rA g) (gE g) S))) (fun _ _ => True) (fun _ => False)) [.ref (ad 7), .int (nI S)].toArray s 0 0 (fun _ => False)) (F0 m 11 ls []) := by
    intro n
    induction n with
    | zero =>
      intro e hfuel  H locs hP hS ls hl
      exact absurd hfuel.2 (by have := hfuel.1; omega)
    | succ n ih11 =>
      intro e hfuel  H locs hP hS ls hl
      obtain ⟨hfu1, hfu2⟩ := hfuel
      have hrk2 := rA_le g (ms_sd S (2 ^ e))
      refine lv_iload hx hb dX1_circuitWithin_11 (lv_at hl 4 rfl) ?_
      refine lv_aload_n hx hb dX1_circuitWithin_13 rfl (lv_at hl 0 rfl) ?_
      refine va_get (D := D) (ci := 2) (v := .ref (ad 1)) (C := RX3) (T := TX3) (N := 1) hx hb hts inX3 hown hK.1 hP 0 rfl rfl 0 (by decide) (hts (.fieldLink RX1 7 "ColourForests$Kind" "graph" "LColourForests$Graph;") (List.mem_of_getElem? (i := 1) rfl)) (fun _ h9 => h9) rfl dX1_circuitWithin_14 ?_
      refine va_get (D := D) (ci := 0) (v := .int (nI (gE g))) (C := RX0) (T := TX0) (N := 9) hx hb hts inX0 hown hK.1 hP 1 rfl rfl 2 (by decide) (hts (.fieldLink RX1 22 "ColourForests$Graph" "edges" "I") (List.mem_of_getElem? (i := 2) rfl)) (fun _ h9 => h9) rfl dX1_circuitWithin_17 ?_
      refine n_ge (a := e) (b := (gE g)) (tgt := 61) hx hb dX1_circuitWithin_20 (by decide) (by omega) (by omega) (fun c20 => ?_) (fun c20 => ?_)
      · refine lv_iload_n hx hb dX1_circuitWithin_61 rfl (lv_at hl 3 rfl) ?_
        exact pu_iret (y := yX1_circuitWithin) hx hb hr hlocks hS (by rw [show e = gE g by omega]; rfl) dX1_circuitWithin_62
      · refine lv_iconst (v := nI 1) hx hb dX1_circuitWithin_23 (by decide) ?_
        refine lv_iload hx hb dX1_circuitWithin_24 (lv_at hl 4 rfl) ?_
        refine lv_ishl hx hb dX1_circuitWithin_26 ?_
        refine lv_as (y := (nI (2 ^ e))) (ni_bit (by omega)) ?_
        refine lv_istore (lv' := [(5, .int (nI (2 ^ e))), (0, .ref (ad 7)), (1, .int (nI S)), (2, .int (nI (rA g S))), (3, .int (nI (ms_mk e (cirP (rA g) S)))), (4, .int (nI e))]) hx hb dX1_circuitWithin_27 hl (by decide) rfl (fun ls hl => ?_)
        refine lv_iload_n hx hb dX1_circuitWithin_29 rfl (lv_at hl 2 rfl) ?_
        refine lv_iload hx hb dX1_circuitWithin_30 (lv_at hl 0 rfl) ?_
        refine lv_iand hx hb dX1_circuitWithin_32 ?_
        refine lv_as (y := (nI (S &&& (2 ^ e)))) (ni_and _ _) ?_
        refine lv_if_eq (tgt := 55) hx hb dX1_circuitWithin_33 (by decide) (fun c33 => ?_) (fun c33 => ?_)
        · have c33 := (and_bit (by omega)).mp c33
          refine lv_iinc (v := (nI (e + 1))) (lv' := [(4, .int (nI (e + 1))), (5, .int (nI (2 ^ e))), (0, .ref (ad 7)), (1, .int (nI S)), (2, .int (nI (rA g S))), (3, .int (nI (ms_mk e (cirP (rA g) S))))]) hx hb dX1_circuitWithin_55 hl (k := 5) rfl (ni_inc _) (by decide) rfl (fun ls hl => ?_)
          refine lv_goto (tgt := 11) hx hb dX1_circuitWithin_58 (by decide) ?_
          exact ih11 (e + 1) ⟨by omega, by omega⟩  _ _ hP hS _ (by first | (rw [ms_mk_n (cirP_f (Or.inl c33))]; exact lv_sub hl [2, 3, 4, 5, 0] rfl) | (rw [ms_mk_n (cirP_f (Or.inr c47))]; exact lv_sub hl [2, 3, 4, 5, 0] rfl) | (rw [ms_mk_y (cirP_t c33 c47)]; exact lv_sub hl [2, 3, 4, 5, 0] rfl))
        · have c33 := and_bit_t (by omega) c33
          refine lv_aload_n hx hb dX1_circuitWithin_36 rfl (lv_at hl 1 rfl) ?_
          refine lv_iload_n hx hb dX1_circuitWithin_37 rfl (lv_at hl 2 rfl) ?_
          refine lv_iload hx hb dX1_circuitWithin_38 (lv_at hl 0 rfl) ?_
          refine lv_iconst (v := zI (-1)) hx hb dX1_circuitWithin_40 (by decide) ?_
          refine lv_ixor hx hb dX1_circuitWithin_41 ?_
          refine lv_iand hx hb dX1_circuitWithin_42 ?_
          refine lv_as (y := (nI (ms_sd S (2 ^ e)))) (ni_sdz _ _) ?_
          refine pu_call (va_runU (As := [.int (nI (ms_sd S (2 ^ e)))]) (rest := []) ⟨hx, hb, hml, hown, hts⟩ (c_X3_rankOf l D cy ad ch hg (S := ms_sd S (2 ^ e)) (ms_sd_lt hS9)) (va_cwA 1 hts gX1_circuitWithin_X3_rankOf_u13X3 rfl rfl rfl (hK.2 _ (List.mem_of_getElem? (i := 6) rfl)) (by decide +kernel) ⟨Nat.le_of_ble_eq_true rfl, Nat.le_of_ble_eq_true rfl⟩) (PU_preV (ci := 2) (q0 := 0) hK hP 0 rfl rfl [0, 1, 2, 3, 4, 5, 6] rfl) rfl rfl hl.1 rfl (lv_room (Nat.le_of_ble_eq_true rfl)) dX1_circuitWithin_43 ⟨(Nat.zero_le _), (Nat.zero_le _)⟩) hS hP (fun H locs hP hS => ?_)
          refine lv_iload_n hx hb dX1_circuitWithin_46 rfl (lv_at hl 3 rfl) ?_
          refine n_ne (a := (rA g (ms_sd S (2 ^ e)))) (b := (rA g S)) (tgt := 55) hx hb dX1_circuitWithin_47 (by decide) (by omega) (by omega) (fun c47 => ?_) (fun c47 => ?_)
          · refine lv_iinc (v := (nI (e + 1))) (lv' := [(4, .int (nI (e + 1))), (5, .int (nI (2 ^ e))), (0, .ref (ad 7)), (1, .int (nI S)), (2, .int (nI (rA g S))), (3, .int (nI (ms_mk e (cirP (rA g) S))))]) hx hb dX1_circuitWithin_55 hl (k := 5) rfl (ni_inc _) (by decide) rfl (fun ls hl => ?_)
            refine lv_goto (tgt := 11) hx hb dX1_circuitWithin_58 (by decide) ?_
            exact ih11 (e + 1) ⟨by omega, by omega⟩  _ _ hP hS _ (by first | (rw [ms_mk_n (cirP_f (Or.inl c33))]; exact lv_sub hl [2, 3, 4, 5, 0] rfl) | (rw [ms_mk_n (cirP_f (Or.inr c47))]; exact lv_sub hl [2, 3, 4, 5, 0] rfl) | (rw [ms_mk_y (cirP_t c33 c47)]; exact lv_sub hl [2, 3, 4, 5, 0] rfl))
          · refine lv_iload_n hx hb dX1_circuitWithin_50 rfl (lv_at hl 4 rfl) ?_
            refine lv_iload hx hb dX1_circuitWithin_51 (lv_at hl 0 rfl) ?_
            refine lv_ior hx hb dX1_circuitWithin_53 ?_
            refine lv_as (y := (nI ((ms_mk e (cirP (rA g) S)) ||| (2 ^ e)))) (ni_or _ _) ?_
            refine lv_istore_n (lv' := [(3, .int (nI ((ms_mk e (cirP (rA g) S)) ||| (2 ^ e)))), (5, .int (nI (2 ^ e))), (0, .ref (ad 7)), (1, .int (nI S)), (2, .int (nI (rA g S))), (4, .int (nI e))]) hx hb dX1_circuitWithin_54 rfl hl (by decide) rfl (fun ls hl => ?_)
            refine lv_iinc (v := (nI (e + 1))) (lv' := [(4, .int (nI (e + 1))), (3, .int (nI ((ms_mk e (cirP (rA g) S)) ||| (2 ^ e)))), (5, .int (nI (2 ^ e))), (0, .ref (ad 7)), (1, .int (nI S)), (2, .int (nI (rA g S)))]) hx hb dX1_circuitWithin_55 hl (k := 5) rfl (ni_inc _) (by decide) rfl (fun ls hl => ?_)
            refine lv_goto (tgt := 11) hx hb dX1_circuitWithin_58 (by decide) ?_
            exact ih11 (e + 1) ⟨by omega, by omega⟩  _ _ hP hS _ (by first | (rw [ms_mk_n (cirP_f (Or.inl c33))]; exact lv_sub hl [3, 4, 5, 1, 0] rfl) | (rw [ms_mk_n (cirP_f (Or.inr c47))]; exact lv_sub hl [3, 4, 5, 1, 0] rfl) | (rw [ms_mk_y (cirP_t c33 c47)]; exact lv_sub hl [3, 4, 5, 1, 0] rfl))
  exact L11 (gE g + 1) 0 ⟨by omega, by omega⟩  _ _ hP hS _ (lv_sub hl [3, 4, 2, 1, 0] rfl)

set_option maxHeartbeats 4000000 in
set_option maxRecDepth 100000 in
theorem c_closureOf3 (l : Launch) (D : va_G) (cy : Nat → ClassId) (ad : Nat → Nat) (ch : Int32) {g : GT} (hg : gOK g) {S : Nat} (hS9 : S < 2 ^ gE g) : PU l yX1_closureOf wsX1_closureOf ({ frames := 3, cells := 0, slots := 0, locals := 73 }) D cy [.ref (ad 7), .int (nI S)] (wK3 cy ad ch g) ((nI (cloN (rA g) (gE g) S))) := by
  refine Met.ofW (cc := cX1_closureOf) (maxL := 6) (ret := (some .int)) (by decide) rfl ?_
  intro p ev s m args below meth c s₁ B hml hv
  obtain ⟨rfl, hK, hP⟩ := hv
  have hx := B.exec
  have hb := B.bytes
  have hr := B.returns
  have hts := atoms_spec (ws := wsX1_closureOf) B.pre
  have hown : s.vm.findClass RX1 = some m.cls := findClass_of_methodNamed B.named
  have hlocks := B.notSynchronized
  have hS : va_S (fun _ => False) s.heap s.heap [] := va_S.rf
  have hP : va_P D vwCl (wK3 cy ad ch g) s.heap := hP
  have inX0 : ∀ w ∈ wsX00, w ∈ wsX1_closureOf := by decide +kernel
  have inX3 : ∀ w ∈ wsX30, w ∈ wsX1_closureOf := by decide +kernel
  have hl := lv_entry ([.ref (ad 7), .int (nI S)]) (n := 6) (Nat.le_of_ble_eq_true rfl)
  rw [lg_entry_eq]
  generalize (lg_sl ([.ref (ad 7), .int (nI S)]) ++ List.replicate (6 - (lg_sl ([.ref (ad 7), .int (nI S)])).length) Slot.unset).toArray = ls at hl ⊢
  have hl : lv_has ls 6 [(0, .ref (ad 7)), (1, .int (nI S))] := hl
  have hgen := True.intro
  have hE := hg.2.2.1
  have hV := hg.1
  have hC := hg.2.1
  have hS8 : 2 ^ gE g ≤ 2 ^ 14 := Nat.pow_le_pow_right (by decide) hE
  have hrk := rA_le g S
  refine lv_aload_n hx hb dX1_closureOf_0 rfl (lv_at hl 0 rfl) ?_
  refine lv_iload_n hx hb dX1_closureOf_1 rfl (lv_at hl 1 rfl) ?_
  refine pu_call (va_runU (As := [.int (nI S)]) (rest := []) ⟨hx, hb, hml, hown, hts⟩ (c_X3_rankOf l D cy ad ch hg (S := S) (by omega)) (va_cwA 1 hts gX1_closureOf_X3_rankOf_u13X3 rfl rfl rfl (hK.2 _ (List.mem_of_getElem? (i := 6) rfl)) (by decide +kernel) ⟨Nat.le_of_ble_eq_true rfl, Nat.le_of_ble_eq_true rfl⟩) (PU_preV (ci := 2) (q0 := 0) hK hP 0 rfl rfl [0, 1, 2, 3, 4, 5, 6] rfl) rfl rfl hl.1 rfl (lv_room (Nat.le_of_ble_eq_true rfl)) dX1_closureOf_2 ⟨(Nat.zero_le _), (Nat.zero_le _)⟩) hS hP (fun H locs hP hS => ?_)
  refine lv_istore_n (lv' := [(2, .int (nI (rA g S))), (0, .ref (ad 7)), (1, .int (nI S))]) hx hb dX1_closureOf_5 rfl hl (by decide) rfl (fun ls hl => ?_)
  refine lv_iload_n hx hb dX1_closureOf_6 rfl (lv_at hl 2 rfl) ?_
  refine lv_istore_n (lv' := [(3, .int (nI S)), (2, .int (nI (rA g S))), (0, .ref (ad 7)), (1, .int (nI S))]) hx hb dX1_closureOf_7 rfl hl (by decide) rfl (fun ls hl => ?_)
  refine lv_iconst (v := nI 0) hx hb dX1_closureOf_8 (by decide) ?_
  refine lv_istore (lv' := [(4, .int (nI 0)), (3, .int (nI S)), (2, .int (nI (rA g S))), (0, .ref (ad 7)), (1, .int (nI S))]) hx hb dX1_closureOf_9 hl (by decide) rfl (fun ls hl => ?_)
  have L11 : ∀ (n : Nat) (e : Nat), e ≤ gE g ∧ gE g + 1 ≤ e + n → ∀ (H : Heap) (locs : List Loc), va_P D vwCl (wK3 cy ad ch g) H → va_S (fun _ => False) s.heap H locs → ∀ (ls : Array Slot), lv_has ls 6 [(0, .ref (ad 7)), (1, .int (nI S)), (2, .int (nI (rA g S))), (3, .int (nI (S ||| ms_mk e (cloP (rA g) S)))), (4, .int (nI e))] → W p l ev (headSpec wsX1_closureOf ({ frames := 3, cells := 0, slots := 0, locals := 73 })).room s m [.ref (ad 7), .int (nI S)].toArray below meth c H locs 0 0 (MQ below (va_Qi (fun (x : Int32) (_ : Unit) => x = (nI (cloN (rA g) (gE g) S))) (fun _ _ => True) (fun _ => False)) [.ref (ad 7), .int (nI S)].toArray s 0 0 (fun _ => False)) (F0 m 11 ls []) := by
    intro n
    induction n with
    | zero =>
      intro e hfuel  H locs hP hS ls hl
      exact absurd hfuel.2 (by have := hfuel.1; omega)
    | succ n ih11 =>
      intro e hfuel  H locs hP hS ls hl
      obtain ⟨hfu1, hfu2⟩ := hfuel
      have hrk2 := rA_le g (S ||| 2 ^ e)
      refine lv_iload hx hb dX1_closureOf_11 (lv_at hl 4 rfl) ?_
      refine lv_aload_n hx hb dX1_closureOf_13 rfl (lv_at hl 0 rfl) ?_
      refine va_get (D := D) (ci := 2) (v := .ref (ad 1)) (C := RX3) (T := TX3) (N := 1) hx hb hts inX3 hown hK.1 hP 0 rfl rfl 0 (by decide) (hts (.fieldLink RX1 7 "ColourForests$Kind" "graph" "LColourForests$Graph;") (List.mem_of_getElem? (i := 1) rfl)) (fun _ h9 => h9) rfl dX1_closureOf_14 ?_
      refine va_get (D := D) (ci := 0) (v := .int (nI (gE g))) (C := RX0) (T := TX0) (N := 9) hx hb hts inX0 hown hK.1 hP 1 rfl rfl 2 (by decide) (hts (.fieldLink RX1 22 "ColourForests$Graph" "edges" "I") (List.mem_of_getElem? (i := 2) rfl)) (fun _ h9 => h9) rfl dX1_closureOf_17 ?_
      refine n_ge (a := e) (b := (gE g)) (tgt := 52) hx hb dX1_closureOf_20 (by decide) (by omega) (by omega) (fun c20 => ?_) (fun c20 => ?_)
      · refine lv_iload_n hx hb dX1_closureOf_52 rfl (lv_at hl 3 rfl) ?_
        exact pu_iret (y := yX1_closureOf) hx hb hr hlocks hS (by rw [show e = gE g by omega]; rfl) dX1_closureOf_53
      · refine lv_iconst (v := nI 1) hx hb dX1_closureOf_23 (by decide) ?_
        refine lv_iload hx hb dX1_closureOf_24 (lv_at hl 4 rfl) ?_
        refine lv_ishl hx hb dX1_closureOf_26 ?_
        refine lv_as (y := (nI (2 ^ e))) (ni_bit (by omega)) ?_
        refine lv_istore (lv' := [(5, .int (nI (2 ^ e))), (0, .ref (ad 7)), (1, .int (nI S)), (2, .int (nI (rA g S))), (3, .int (nI (S ||| ms_mk e (cloP (rA g) S)))), (4, .int (nI e))]) hx hb dX1_closureOf_27 hl (by decide) rfl (fun ls hl => ?_)
        refine lv_aload_n hx hb dX1_closureOf_29 rfl (lv_at hl 1 rfl) ?_
        refine lv_iload_n hx hb dX1_closureOf_30 rfl (lv_at hl 2 rfl) ?_
        refine lv_iload hx hb dX1_closureOf_31 (lv_at hl 0 rfl) ?_
        refine lv_ior hx hb dX1_closureOf_33 ?_
        refine lv_as (y := (nI (S ||| (2 ^ e)))) (ni_or _ _) ?_
        refine pu_call (va_runU (As := [.int (nI (S ||| (2 ^ e)))]) (rest := []) ⟨hx, hb, hml, hown, hts⟩ (c_X3_rankOf l D cy ad ch hg (S := S ||| (2 ^ e)) (ms_ins_lt hS9 (by omega))) (va_cwA 1 hts gX1_closureOf_X3_rankOf_u13X3 rfl rfl rfl (hK.2 _ (List.mem_of_getElem? (i := 6) rfl)) (by decide +kernel) ⟨Nat.le_of_ble_eq_true rfl, Nat.le_of_ble_eq_true rfl⟩) (PU_preV (ci := 2) (q0 := 0) hK hP 0 rfl rfl [0, 1, 2, 3, 4, 5, 6] rfl) rfl rfl hl.1 rfl (lv_room (Nat.le_of_ble_eq_true rfl)) dX1_closureOf_34 ⟨(Nat.zero_le _), (Nat.zero_le _)⟩) hS hP (fun H locs hP hS => ?_)
        refine lv_iload_n hx hb dX1_closureOf_37 rfl (lv_at hl 3 rfl) ?_
        refine n_ne (a := (rA g (S ||| (2 ^ e)))) (b := (rA g S)) (tgt := 46) hx hb dX1_closureOf_38 (by decide) (by omega) (by omega) (fun c38 => ?_) (fun c38 => ?_)
        · refine lv_iinc (v := (nI (e + 1))) (lv' := [(4, .int (nI (e + 1))), (5, .int (nI (2 ^ e))), (0, .ref (ad 7)), (1, .int (nI S)), (2, .int (nI (rA g S))), (3, .int (nI (S ||| ms_mk e (cloP (rA g) S))))]) hx hb dX1_closureOf_46 hl (k := 5) rfl (ni_inc _) (by decide) rfl (fun ls hl => ?_)
          refine lv_goto (tgt := 11) hx hb dX1_closureOf_49 (by decide) ?_
          exact ih11 (e + 1) ⟨by omega, by omega⟩  _ _ hP hS _ (by first | (rw [ms_mk_n (cloP_f c38)]; exact lv_sub hl [2, 3, 4, 5, 0] rfl) | (rw [ms_mk_y (cloP_t c38), ← Nat.or_assoc]; exact lv_sub hl [2, 3, 4, 5, 0] rfl))
        · refine lv_iload_n hx hb dX1_closureOf_41 rfl (lv_at hl 4 rfl) ?_
          refine lv_iload hx hb dX1_closureOf_42 (lv_at hl 0 rfl) ?_
          refine lv_ior hx hb dX1_closureOf_44 ?_
          refine lv_as (y := (nI ((S ||| ms_mk e (cloP (rA g) S)) ||| (2 ^ e)))) (ni_or _ _) ?_
          refine lv_istore_n (lv' := [(3, .int (nI ((S ||| ms_mk e (cloP (rA g) S)) ||| (2 ^ e)))), (5, .int (nI (2 ^ e))), (0, .ref (ad 7)), (1, .int (nI S)), (2, .int (nI (rA g S))), (4, .int (nI e))]) hx hb dX1_closureOf_45 rfl hl (by decide) rfl (fun ls hl => ?_)
          refine lv_iinc (v := (nI (e + 1))) (lv' := [(4, .int (nI (e + 1))), (3, .int (nI ((S ||| ms_mk e (cloP (rA g) S)) ||| (2 ^ e)))), (5, .int (nI (2 ^ e))), (0, .ref (ad 7)), (1, .int (nI S)), (2, .int (nI (rA g S)))]) hx hb dX1_closureOf_46 hl (k := 5) rfl (ni_inc _) (by decide) rfl (fun ls hl => ?_)
          refine lv_goto (tgt := 11) hx hb dX1_closureOf_49 (by decide) ?_
          exact ih11 (e + 1) ⟨by omega, by omega⟩  _ _ hP hS _ (by first | (rw [ms_mk_n (cloP_f c38)]; exact lv_sub hl [3, 4, 5, 1, 0] rfl) | (rw [ms_mk_y (cloP_t c38), ← Nat.or_assoc]; exact lv_sub hl [3, 4, 5, 1, 0] rfl))
  exact L11 (gE g + 1) 0 ⟨by omega, by omega⟩  _ _ hP hS _ (by rw [show ms_mk 0 _ = 0 from rfl, Nat.or_zero]; exact lv_sub hl [3, 4, 2, 1, 0] rfl)

set_option maxHeartbeats 4000000 in
set_option maxRecDepth 100000 in
theorem c_allows2 (l : Launch) (D : va_G) (cy : Nat → ClassId) (ad : Nat → Nat) (ch : Int32) {g : GT} (hg : gOK g) {S : Nat} (hS9 : S < 2 ^ gE g) : PU l yX1_allows wsX1_allows ({ frames := 3, cells := 0, slots := 0, locals := 69 }) D cy [.ref (ad 8), .int (nI S)] (wK2 cy ad ch g) ((bI (decide (rB g S = ms_card 14 S)))) := by
  refine Met.ofW (cc := cX1_allows) (maxL := 2) (ret := (some .boolean)) (by decide) rfl ?_
  intro p ev s m args below meth c s₁ B hml hv
  obtain ⟨rfl, hK, hP⟩ := hv
  have hx := B.exec
  have hb := B.bytes
  have hr := B.returns
  have hts := atoms_spec (ws := wsX1_allows) B.pre
  have hown : s.vm.findClass RX1 = some m.cls := findClass_of_methodNamed B.named
  have hlocks := B.notSynchronized
  have hS : va_S (fun _ => False) s.heap s.heap [] := va_S.rf
  have hP : va_P D vwCl (wK2 cy ad ch g) s.heap := hP
  have inX0 : ∀ w ∈ wsX00, w ∈ wsX1_allows := by decide +kernel
  have inX2 : ∀ w ∈ wsX20, w ∈ wsX1_allows := by decide +kernel
  have hl := lv_entry ([.ref (ad 8), .int (nI S)]) (n := 2) (Nat.le_of_ble_eq_true rfl)
  rw [lg_entry_eq]
  generalize (lg_sl ([.ref (ad 8), .int (nI S)]) ++ List.replicate (2 - (lg_sl ([.ref (ad 8), .int (nI S)])).length) Slot.unset).toArray = ls at hl ⊢
  have hl : lv_has ls 2 [(0, .ref (ad 8)), (1, .int (nI S))] := hl
  have hgen := True.intro
  have hE := hg.2.2.1
  have hV := hg.1
  have hC := hg.2.1
  have hS8 : 2 ^ gE g ≤ 2 ^ 14 := Nat.pow_le_pow_right (by decide) hE
  have hrk := rB_le g S
  have hcd := ms_card_le 14 S
  refine lv_aload_n hx hb dX1_allows_0 rfl (lv_at hl 0 rfl) ?_
  refine lv_iload_n hx hb dX1_allows_1 rfl (lv_at hl 1 rfl) ?_
  refine pu_call (va_runU (As := [.int (nI S)]) (rest := []) ⟨hx, hb, hml, hown, hts⟩ (c_X2_rankOf l D cy ad ch hg (S := S) (by omega)) (va_cwA 1 hts gX1_allows_X2_rankOf_u13X2 rfl rfl rfl (hK.2 _ (List.mem_of_getElem? (i := 6) rfl)) (by decide +kernel) ⟨Nat.le_of_ble_eq_true rfl, Nat.le_of_ble_eq_true rfl⟩) (PU_preV (ci := 1) (q0 := 0) hK hP 0 rfl rfl [0, 1, 2, 3, 4, 5, 6] rfl) rfl rfl hl.1 rfl (lv_room (Nat.le_of_ble_eq_true rfl)) dX1_allows_2 ⟨(Nat.zero_le _), (Nat.zero_le _)⟩) hS hP (fun H locs hP hS => ?_)
  refine lv_iload_n hx hb dX1_allows_5 rfl (lv_at hl 1 rfl) ?_
  refine pu_call (va_runS (As := [.int (nI S)]) (rest := [.int (nI (rB g S))]) ⟨hx, hb, hml, hown, hts⟩ (c_J6_bitCount_0f7a4 l D cy (S := S) (by omega)) (va_cwS 1 hts gX1_allows_J6_bitCount_0f7a4 rfl rfl rfl (by decide +kernel) ⟨Nat.le_of_ble_eq_true rfl, Nat.le_of_ble_eq_true rfl⟩) (PU_preS hK hP [] rfl) rfl rfl hl.1 rfl (lv_room (Nat.le_of_ble_eq_true rfl)) dX1_allows_6 ⟨(Nat.zero_le _), (Nat.zero_le _)⟩) hS hP (fun H locs hP hS => ?_)
  refine n_ne (a := (rB g S)) (b := (ms_card 14 S)) (tgt := 16) hx hb dX1_allows_9 (by decide) (by omega) (by omega) (fun c9 => ?_) (fun c9 => ?_)
  · refine lv_iconst (v := nI 0) hx hb dX1_allows_16 (by decide) ?_
    exact pu_zret hx hb hr hlocks hS (by first | (rw [decide_eq_true c9]; rfl) | (rw [decide_eq_false c9]; rfl)) dX1_allows_17
  · refine lv_iconst (v := nI 1) hx hb dX1_allows_12 (by decide) ?_
    refine lv_goto (tgt := 17) hx hb dX1_allows_13 (by decide) ?_
    exact pu_zret hx hb hr hlocks hS (by first | (rw [decide_eq_true c9]; rfl) | (rw [decide_eq_false c9]; rfl)) dX1_allows_17

set_option maxHeartbeats 4000000 in
set_option maxRecDepth 100000 in
theorem c_circuitWithin2 (l : Launch) (D : va_G) (cy : Nat → ClassId) (ad : Nat → Nat) (ch : Int32) {g : GT} (hg : gOK g) {S : Nat} (hS9 : S < 2 ^ gE g) : PU l yX1_circuitWithin wsX1_circuitWithin ({ frames := 3, cells := 0, slots := 0, locals := 69 }) D cy [.ref (ad 8), .int (nI S)] (wK2 cy ad ch g) ((nI (cirN (rB g) (gE g) S))) := by
  refine Met.ofW (cc := cX1_circuitWithin) (maxL := 6) (ret := (some .int)) (by decide) rfl ?_
  intro p ev s m args below meth c s₁ B hml hv
  obtain ⟨rfl, hK, hP⟩ := hv
  have hx := B.exec
  have hb := B.bytes
  have hr := B.returns
  have hts := atoms_spec (ws := wsX1_circuitWithin) B.pre
  have hown : s.vm.findClass RX1 = some m.cls := findClass_of_methodNamed B.named
  have hlocks := B.notSynchronized
  have hS : va_S (fun _ => False) s.heap s.heap [] := va_S.rf
  have hP : va_P D vwCl (wK2 cy ad ch g) s.heap := hP
  have inX0 : ∀ w ∈ wsX00, w ∈ wsX1_circuitWithin := by decide +kernel
  have inX2 : ∀ w ∈ wsX20, w ∈ wsX1_circuitWithin := by decide +kernel
  have hl := lv_entry ([.ref (ad 8), .int (nI S)]) (n := 6) (Nat.le_of_ble_eq_true rfl)
  rw [lg_entry_eq]
  generalize (lg_sl ([.ref (ad 8), .int (nI S)]) ++ List.replicate (6 - (lg_sl ([.ref (ad 8), .int (nI S)])).length) Slot.unset).toArray = ls at hl ⊢
  have hl : lv_has ls 6 [(0, .ref (ad 8)), (1, .int (nI S))] := hl
  have hgen := True.intro
  have hE := hg.2.2.1
  have hV := hg.1
  have hC := hg.2.1
  have hS8 : 2 ^ gE g ≤ 2 ^ 14 := Nat.pow_le_pow_right (by decide) hE
  have hrk := rB_le g S
  refine lv_aload_n hx hb dX1_circuitWithin_0 rfl (lv_at hl 0 rfl) ?_
  refine lv_iload_n hx hb dX1_circuitWithin_1 rfl (lv_at hl 1 rfl) ?_
  refine pu_call (va_runU (As := [.int (nI S)]) (rest := []) ⟨hx, hb, hml, hown, hts⟩ (c_X2_rankOf l D cy ad ch hg (S := S) (by omega)) (va_cwA 1 hts gX1_circuitWithin_X2_rankOf_u13X2 rfl rfl rfl (hK.2 _ (List.mem_of_getElem? (i := 6) rfl)) (by decide +kernel) ⟨Nat.le_of_ble_eq_true rfl, Nat.le_of_ble_eq_true rfl⟩) (PU_preV (ci := 1) (q0 := 0) hK hP 0 rfl rfl [0, 1, 2, 3, 4, 5, 6] rfl) rfl rfl hl.1 rfl (lv_room (Nat.le_of_ble_eq_true rfl)) dX1_circuitWithin_2 ⟨(Nat.zero_le _), (Nat.zero_le _)⟩) hS hP (fun H locs hP hS => ?_)
  refine lv_istore_n (lv' := [(2, .int (nI (rB g S))), (0, .ref (ad 8)), (1, .int (nI S))]) hx hb dX1_circuitWithin_5 rfl hl (by decide) rfl (fun ls hl => ?_)
  refine lv_iconst (v := nI 0) hx hb dX1_circuitWithin_6 (by decide) ?_
  refine lv_istore_n (lv' := [(3, .int (nI 0)), (2, .int (nI (rB g S))), (0, .ref (ad 8)), (1, .int (nI S))]) hx hb dX1_circuitWithin_7 rfl hl (by decide) rfl (fun ls hl => ?_)
  refine lv_iconst (v := nI 0) hx hb dX1_circuitWithin_8 (by decide) ?_
  refine lv_istore (lv' := [(4, .int (nI 0)), (3, .int (nI 0)), (2, .int (nI (rB g S))), (0, .ref (ad 8)), (1, .int (nI S))]) hx hb dX1_circuitWithin_9 hl (by decide) rfl (fun ls hl => ?_)
  have L11 : ∀ (n : Nat) (e : Nat), e ≤ gE g ∧ gE g + 1 ≤ e + n → ∀ (H : Heap) (locs : List Loc), va_P D vwCl (wK2 cy ad ch g) H → va_S (fun _ => False) s.heap H locs → ∀ (ls : Array Slot), lv_has ls 6 [(0, .ref (ad 8)), (1, .int (nI S)), (2, .int (nI (rB g S))), (3, .int (nI (ms_mk e (cirP (rB g) S)))), (4, .int (nI e))] → W p l ev (headSpec wsX1_circuitWithin ({ frames := 3, cells := 0, slots := 0, locals := 69 })).room s m [.ref (ad 8), .int (nI S)].toArray below meth c H locs 0 0 (MQ below (va_Qi (fun (x : Int32) (_ : Unit) => x = (nI (cirN (rB g) (gE g) S))) (fun _ _ => True) (fun _ => False)) [.ref (ad 8), .int (nI S)].toArray s 0 0 (fun _ => False)) (F0 m 11 ls []) := by
    intro n
    induction n with
    | zero =>
      intro e hfuel  H locs hP hS ls hl
      exact absurd hfuel.2 (by have := hfuel.1; omega)
    | succ n ih11 =>
      intro e hfuel  H locs hP hS ls hl
      obtain ⟨hfu1, hfu2⟩ := hfuel
      have hrk2 := rB_le g (ms_sd S (2 ^ e))
      refine lv_iload hx hb dX1_circuitWithin_11 (lv_at hl 4 rfl) ?_
      refine lv_aload_n hx hb dX1_circuitWithin_13 rfl (lv_at hl 0 rfl) ?_
      refine va_get (D := D) (ci := 1) (v := .ref (ad 1)) (C := RX2) (T := TX2) (N := 1) hx hb hts inX2 hown hK.1 hP 0 rfl rfl 0 (by decide) (hts (.fieldLink RX1 7 "ColourForests$Kind" "graph" "LColourForests$Graph;") (List.mem_of_getElem? (i := 1) rfl)) (fun _ h9 => h9) rfl dX1_circuitWithin_14 ?_
      refine va_get (D := D) (ci := 0) (v := .int (nI (gE g))) (C := RX0) (T := TX0) (N := 9) hx hb hts inX0 hown hK.1 hP 1 rfl rfl 2 (by decide) (hts (.fieldLink RX1 22 "ColourForests$Graph" "edges" "I") (List.mem_of_getElem? (i := 2) rfl)) (fun _ h9 => h9) rfl dX1_circuitWithin_17 ?_
      refine n_ge (a := e) (b := (gE g)) (tgt := 61) hx hb dX1_circuitWithin_20 (by decide) (by omega) (by omega) (fun c20 => ?_) (fun c20 => ?_)
      · refine lv_iload_n hx hb dX1_circuitWithin_61 rfl (lv_at hl 3 rfl) ?_
        exact pu_iret (y := yX1_circuitWithin) hx hb hr hlocks hS (by rw [show e = gE g by omega]; rfl) dX1_circuitWithin_62
      · refine lv_iconst (v := nI 1) hx hb dX1_circuitWithin_23 (by decide) ?_
        refine lv_iload hx hb dX1_circuitWithin_24 (lv_at hl 4 rfl) ?_
        refine lv_ishl hx hb dX1_circuitWithin_26 ?_
        refine lv_as (y := (nI (2 ^ e))) (ni_bit (by omega)) ?_
        refine lv_istore (lv' := [(5, .int (nI (2 ^ e))), (0, .ref (ad 8)), (1, .int (nI S)), (2, .int (nI (rB g S))), (3, .int (nI (ms_mk e (cirP (rB g) S)))), (4, .int (nI e))]) hx hb dX1_circuitWithin_27 hl (by decide) rfl (fun ls hl => ?_)
        refine lv_iload_n hx hb dX1_circuitWithin_29 rfl (lv_at hl 2 rfl) ?_
        refine lv_iload hx hb dX1_circuitWithin_30 (lv_at hl 0 rfl) ?_
        refine lv_iand hx hb dX1_circuitWithin_32 ?_
        refine lv_as (y := (nI (S &&& (2 ^ e)))) (ni_and _ _) ?_
        refine lv_if_eq (tgt := 55) hx hb dX1_circuitWithin_33 (by decide) (fun c33 => ?_) (fun c33 => ?_)
        · have c33 := (and_bit (by omega)).mp c33
          refine lv_iinc (v := (nI (e + 1))) (lv' := [(4, .int (nI (e + 1))), (5, .int (nI (2 ^ e))), (0, .ref (ad 8)), (1, .int (nI S)), (2, .int (nI (rB g S))), (3, .int (nI (ms_mk e (cirP (rB g) S))))]) hx hb dX1_circuitWithin_55 hl (k := 5) rfl (ni_inc _) (by decide) rfl (fun ls hl => ?_)
          refine lv_goto (tgt := 11) hx hb dX1_circuitWithin_58 (by decide) ?_
          exact ih11 (e + 1) ⟨by omega, by omega⟩  _ _ hP hS _ (by first | (rw [ms_mk_n (cirP_f (Or.inl c33))]; exact lv_sub hl [2, 3, 4, 5, 0] rfl) | (rw [ms_mk_n (cirP_f (Or.inr c47))]; exact lv_sub hl [2, 3, 4, 5, 0] rfl) | (rw [ms_mk_y (cirP_t c33 c47)]; exact lv_sub hl [2, 3, 4, 5, 0] rfl))
        · have c33 := and_bit_t (by omega) c33
          refine lv_aload_n hx hb dX1_circuitWithin_36 rfl (lv_at hl 1 rfl) ?_
          refine lv_iload_n hx hb dX1_circuitWithin_37 rfl (lv_at hl 2 rfl) ?_
          refine lv_iload hx hb dX1_circuitWithin_38 (lv_at hl 0 rfl) ?_
          refine lv_iconst (v := zI (-1)) hx hb dX1_circuitWithin_40 (by decide) ?_
          refine lv_ixor hx hb dX1_circuitWithin_41 ?_
          refine lv_iand hx hb dX1_circuitWithin_42 ?_
          refine lv_as (y := (nI (ms_sd S (2 ^ e)))) (ni_sdz _ _) ?_
          refine pu_call (va_runU (As := [.int (nI (ms_sd S (2 ^ e)))]) (rest := []) ⟨hx, hb, hml, hown, hts⟩ (c_X2_rankOf l D cy ad ch hg (S := ms_sd S (2 ^ e)) (ms_sd_lt hS9)) (va_cwA 1 hts gX1_circuitWithin_X2_rankOf_u13X2 rfl rfl rfl (hK.2 _ (List.mem_of_getElem? (i := 6) rfl)) (by decide +kernel) ⟨Nat.le_of_ble_eq_true rfl, Nat.le_of_ble_eq_true rfl⟩) (PU_preV (ci := 1) (q0 := 0) hK hP 0 rfl rfl [0, 1, 2, 3, 4, 5, 6] rfl) rfl rfl hl.1 rfl (lv_room (Nat.le_of_ble_eq_true rfl)) dX1_circuitWithin_43 ⟨(Nat.zero_le _), (Nat.zero_le _)⟩) hS hP (fun H locs hP hS => ?_)
          refine lv_iload_n hx hb dX1_circuitWithin_46 rfl (lv_at hl 3 rfl) ?_
          refine n_ne (a := (rB g (ms_sd S (2 ^ e)))) (b := (rB g S)) (tgt := 55) hx hb dX1_circuitWithin_47 (by decide) (by omega) (by omega) (fun c47 => ?_) (fun c47 => ?_)
          · refine lv_iinc (v := (nI (e + 1))) (lv' := [(4, .int (nI (e + 1))), (5, .int (nI (2 ^ e))), (0, .ref (ad 8)), (1, .int (nI S)), (2, .int (nI (rB g S))), (3, .int (nI (ms_mk e (cirP (rB g) S))))]) hx hb dX1_circuitWithin_55 hl (k := 5) rfl (ni_inc _) (by decide) rfl (fun ls hl => ?_)
            refine lv_goto (tgt := 11) hx hb dX1_circuitWithin_58 (by decide) ?_
            exact ih11 (e + 1) ⟨by omega, by omega⟩  _ _ hP hS _ (by first | (rw [ms_mk_n (cirP_f (Or.inl c33))]; exact lv_sub hl [2, 3, 4, 5, 0] rfl) | (rw [ms_mk_n (cirP_f (Or.inr c47))]; exact lv_sub hl [2, 3, 4, 5, 0] rfl) | (rw [ms_mk_y (cirP_t c33 c47)]; exact lv_sub hl [2, 3, 4, 5, 0] rfl))
          · refine lv_iload_n hx hb dX1_circuitWithin_50 rfl (lv_at hl 4 rfl) ?_
            refine lv_iload hx hb dX1_circuitWithin_51 (lv_at hl 0 rfl) ?_
            refine lv_ior hx hb dX1_circuitWithin_53 ?_
            refine lv_as (y := (nI ((ms_mk e (cirP (rB g) S)) ||| (2 ^ e)))) (ni_or _ _) ?_
            refine lv_istore_n (lv' := [(3, .int (nI ((ms_mk e (cirP (rB g) S)) ||| (2 ^ e)))), (5, .int (nI (2 ^ e))), (0, .ref (ad 8)), (1, .int (nI S)), (2, .int (nI (rB g S))), (4, .int (nI e))]) hx hb dX1_circuitWithin_54 rfl hl (by decide) rfl (fun ls hl => ?_)
            refine lv_iinc (v := (nI (e + 1))) (lv' := [(4, .int (nI (e + 1))), (3, .int (nI ((ms_mk e (cirP (rB g) S)) ||| (2 ^ e)))), (5, .int (nI (2 ^ e))), (0, .ref (ad 8)), (1, .int (nI S)), (2, .int (nI (rB g S)))]) hx hb dX1_circuitWithin_55 hl (k := 5) rfl (ni_inc _) (by decide) rfl (fun ls hl => ?_)
            refine lv_goto (tgt := 11) hx hb dX1_circuitWithin_58 (by decide) ?_
            exact ih11 (e + 1) ⟨by omega, by omega⟩  _ _ hP hS _ (by first | (rw [ms_mk_n (cirP_f (Or.inl c33))]; exact lv_sub hl [3, 4, 5, 1, 0] rfl) | (rw [ms_mk_n (cirP_f (Or.inr c47))]; exact lv_sub hl [3, 4, 5, 1, 0] rfl) | (rw [ms_mk_y (cirP_t c33 c47)]; exact lv_sub hl [3, 4, 5, 1, 0] rfl))
  exact L11 (gE g + 1) 0 ⟨by omega, by omega⟩  _ _ hP hS _ (lv_sub hl [3, 4, 2, 1, 0] rfl)

set_option maxHeartbeats 4000000 in
set_option maxRecDepth 100000 in
theorem c_closureOf2 (l : Launch) (D : va_G) (cy : Nat → ClassId) (ad : Nat → Nat) (ch : Int32) {g : GT} (hg : gOK g) {S : Nat} (hS9 : S < 2 ^ gE g) : PU l yX1_closureOf wsX1_closureOf ({ frames := 3, cells := 0, slots := 0, locals := 69 }) D cy [.ref (ad 8), .int (nI S)] (wK2 cy ad ch g) ((nI (cloN (rB g) (gE g) S))) := by
  refine Met.ofW (cc := cX1_closureOf) (maxL := 6) (ret := (some .int)) (by decide) rfl ?_
  intro p ev s m args below meth c s₁ B hml hv
  obtain ⟨rfl, hK, hP⟩ := hv
  have hx := B.exec
  have hb := B.bytes
  have hr := B.returns
  have hts := atoms_spec (ws := wsX1_closureOf) B.pre
  have hown : s.vm.findClass RX1 = some m.cls := findClass_of_methodNamed B.named
  have hlocks := B.notSynchronized
  have hS : va_S (fun _ => False) s.heap s.heap [] := va_S.rf
  have hP : va_P D vwCl (wK2 cy ad ch g) s.heap := hP
  have inX0 : ∀ w ∈ wsX00, w ∈ wsX1_closureOf := by decide +kernel
  have inX2 : ∀ w ∈ wsX20, w ∈ wsX1_closureOf := by decide +kernel
  have hl := lv_entry ([.ref (ad 8), .int (nI S)]) (n := 6) (Nat.le_of_ble_eq_true rfl)
  rw [lg_entry_eq]
  generalize (lg_sl ([.ref (ad 8), .int (nI S)]) ++ List.replicate (6 - (lg_sl ([.ref (ad 8), .int (nI S)])).length) Slot.unset).toArray = ls at hl ⊢
  have hl : lv_has ls 6 [(0, .ref (ad 8)), (1, .int (nI S))] := hl
  have hgen := True.intro
  have hE := hg.2.2.1
  have hV := hg.1
  have hC := hg.2.1
  have hS8 : 2 ^ gE g ≤ 2 ^ 14 := Nat.pow_le_pow_right (by decide) hE
  have hrk := rB_le g S
  refine lv_aload_n hx hb dX1_closureOf_0 rfl (lv_at hl 0 rfl) ?_
  refine lv_iload_n hx hb dX1_closureOf_1 rfl (lv_at hl 1 rfl) ?_
  refine pu_call (va_runU (As := [.int (nI S)]) (rest := []) ⟨hx, hb, hml, hown, hts⟩ (c_X2_rankOf l D cy ad ch hg (S := S) (by omega)) (va_cwA 1 hts gX1_closureOf_X2_rankOf_u13X2 rfl rfl rfl (hK.2 _ (List.mem_of_getElem? (i := 6) rfl)) (by decide +kernel) ⟨Nat.le_of_ble_eq_true rfl, Nat.le_of_ble_eq_true rfl⟩) (PU_preV (ci := 1) (q0 := 0) hK hP 0 rfl rfl [0, 1, 2, 3, 4, 5, 6] rfl) rfl rfl hl.1 rfl (lv_room (Nat.le_of_ble_eq_true rfl)) dX1_closureOf_2 ⟨(Nat.zero_le _), (Nat.zero_le _)⟩) hS hP (fun H locs hP hS => ?_)
  refine lv_istore_n (lv' := [(2, .int (nI (rB g S))), (0, .ref (ad 8)), (1, .int (nI S))]) hx hb dX1_closureOf_5 rfl hl (by decide) rfl (fun ls hl => ?_)
  refine lv_iload_n hx hb dX1_closureOf_6 rfl (lv_at hl 2 rfl) ?_
  refine lv_istore_n (lv' := [(3, .int (nI S)), (2, .int (nI (rB g S))), (0, .ref (ad 8)), (1, .int (nI S))]) hx hb dX1_closureOf_7 rfl hl (by decide) rfl (fun ls hl => ?_)
  refine lv_iconst (v := nI 0) hx hb dX1_closureOf_8 (by decide) ?_
  refine lv_istore (lv' := [(4, .int (nI 0)), (3, .int (nI S)), (2, .int (nI (rB g S))), (0, .ref (ad 8)), (1, .int (nI S))]) hx hb dX1_closureOf_9 hl (by decide) rfl (fun ls hl => ?_)
  have L11 : ∀ (n : Nat) (e : Nat), e ≤ gE g ∧ gE g + 1 ≤ e + n → ∀ (H : Heap) (locs : List Loc), va_P D vwCl (wK2 cy ad ch g) H → va_S (fun _ => False) s.heap H locs → ∀ (ls : Array Slot), lv_has ls 6 [(0, .ref (ad 8)), (1, .int (nI S)), (2, .int (nI (rB g S))), (3, .int (nI (S ||| ms_mk e (cloP (rB g) S)))), (4, .int (nI e))] → W p l ev (headSpec wsX1_closureOf ({ frames := 3, cells := 0, slots := 0, locals := 69 })).room s m [.ref (ad 8), .int (nI S)].toArray below meth c H locs 0 0 (MQ below (va_Qi (fun (x : Int32) (_ : Unit) => x = (nI (cloN (rB g) (gE g) S))) (fun _ _ => True) (fun _ => False)) [.ref (ad 8), .int (nI S)].toArray s 0 0 (fun _ => False)) (F0 m 11 ls []) := by
    intro n
    induction n with
    | zero =>
      intro e hfuel  H locs hP hS ls hl
      exact absurd hfuel.2 (by have := hfuel.1; omega)
    | succ n ih11 =>
      intro e hfuel  H locs hP hS ls hl
      obtain ⟨hfu1, hfu2⟩ := hfuel
      have hrk2 := rB_le g (S ||| 2 ^ e)
      refine lv_iload hx hb dX1_closureOf_11 (lv_at hl 4 rfl) ?_
      refine lv_aload_n hx hb dX1_closureOf_13 rfl (lv_at hl 0 rfl) ?_
      refine va_get (D := D) (ci := 1) (v := .ref (ad 1)) (C := RX2) (T := TX2) (N := 1) hx hb hts inX2 hown hK.1 hP 0 rfl rfl 0 (by decide) (hts (.fieldLink RX1 7 "ColourForests$Kind" "graph" "LColourForests$Graph;") (List.mem_of_getElem? (i := 1) rfl)) (fun _ h9 => h9) rfl dX1_closureOf_14 ?_
      refine va_get (D := D) (ci := 0) (v := .int (nI (gE g))) (C := RX0) (T := TX0) (N := 9) hx hb hts inX0 hown hK.1 hP 1 rfl rfl 2 (by decide) (hts (.fieldLink RX1 22 "ColourForests$Graph" "edges" "I") (List.mem_of_getElem? (i := 2) rfl)) (fun _ h9 => h9) rfl dX1_closureOf_17 ?_
      refine n_ge (a := e) (b := (gE g)) (tgt := 52) hx hb dX1_closureOf_20 (by decide) (by omega) (by omega) (fun c20 => ?_) (fun c20 => ?_)
      · refine lv_iload_n hx hb dX1_closureOf_52 rfl (lv_at hl 3 rfl) ?_
        exact pu_iret (y := yX1_closureOf) hx hb hr hlocks hS (by rw [show e = gE g by omega]; rfl) dX1_closureOf_53
      · refine lv_iconst (v := nI 1) hx hb dX1_closureOf_23 (by decide) ?_
        refine lv_iload hx hb dX1_closureOf_24 (lv_at hl 4 rfl) ?_
        refine lv_ishl hx hb dX1_closureOf_26 ?_
        refine lv_as (y := (nI (2 ^ e))) (ni_bit (by omega)) ?_
        refine lv_istore (lv' := [(5, .int (nI (2 ^ e))), (0, .ref (ad 8)), (1, .int (nI S)), (2, .int (nI (rB g S))), (3, .int (nI (S ||| ms_mk e (cloP (rB g) S)))), (4, .int (nI e))]) hx hb dX1_closureOf_27 hl (by decide) rfl (fun ls hl => ?_)
        refine lv_aload_n hx hb dX1_closureOf_29 rfl (lv_at hl 1 rfl) ?_
        refine lv_iload_n hx hb dX1_closureOf_30 rfl (lv_at hl 2 rfl) ?_
        refine lv_iload hx hb dX1_closureOf_31 (lv_at hl 0 rfl) ?_
        refine lv_ior hx hb dX1_closureOf_33 ?_
        refine lv_as (y := (nI (S ||| (2 ^ e)))) (ni_or _ _) ?_
        refine pu_call (va_runU (As := [.int (nI (S ||| (2 ^ e)))]) (rest := []) ⟨hx, hb, hml, hown, hts⟩ (c_X2_rankOf l D cy ad ch hg (S := S ||| (2 ^ e)) (ms_ins_lt hS9 (by omega))) (va_cwA 1 hts gX1_closureOf_X2_rankOf_u13X2 rfl rfl rfl (hK.2 _ (List.mem_of_getElem? (i := 6) rfl)) (by decide +kernel) ⟨Nat.le_of_ble_eq_true rfl, Nat.le_of_ble_eq_true rfl⟩) (PU_preV (ci := 1) (q0 := 0) hK hP 0 rfl rfl [0, 1, 2, 3, 4, 5, 6] rfl) rfl rfl hl.1 rfl (lv_room (Nat.le_of_ble_eq_true rfl)) dX1_closureOf_34 ⟨(Nat.zero_le _), (Nat.zero_le _)⟩) hS hP (fun H locs hP hS => ?_)
        refine lv_iload_n hx hb dX1_closureOf_37 rfl (lv_at hl 3 rfl) ?_
        refine n_ne (a := (rB g (S ||| (2 ^ e)))) (b := (rB g S)) (tgt := 46) hx hb dX1_closureOf_38 (by decide) (by omega) (by omega) (fun c38 => ?_) (fun c38 => ?_)
        · refine lv_iinc (v := (nI (e + 1))) (lv' := [(4, .int (nI (e + 1))), (5, .int (nI (2 ^ e))), (0, .ref (ad 8)), (1, .int (nI S)), (2, .int (nI (rB g S))), (3, .int (nI (S ||| ms_mk e (cloP (rB g) S))))]) hx hb dX1_closureOf_46 hl (k := 5) rfl (ni_inc _) (by decide) rfl (fun ls hl => ?_)
          refine lv_goto (tgt := 11) hx hb dX1_closureOf_49 (by decide) ?_
          exact ih11 (e + 1) ⟨by omega, by omega⟩  _ _ hP hS _ (by first | (rw [ms_mk_n (cloP_f c38)]; exact lv_sub hl [2, 3, 4, 5, 0] rfl) | (rw [ms_mk_y (cloP_t c38), ← Nat.or_assoc]; exact lv_sub hl [2, 3, 4, 5, 0] rfl))
        · refine lv_iload_n hx hb dX1_closureOf_41 rfl (lv_at hl 4 rfl) ?_
          refine lv_iload hx hb dX1_closureOf_42 (lv_at hl 0 rfl) ?_
          refine lv_ior hx hb dX1_closureOf_44 ?_
          refine lv_as (y := (nI ((S ||| ms_mk e (cloP (rB g) S)) ||| (2 ^ e)))) (ni_or _ _) ?_
          refine lv_istore_n (lv' := [(3, .int (nI ((S ||| ms_mk e (cloP (rB g) S)) ||| (2 ^ e)))), (5, .int (nI (2 ^ e))), (0, .ref (ad 8)), (1, .int (nI S)), (2, .int (nI (rB g S))), (4, .int (nI e))]) hx hb dX1_closureOf_45 rfl hl (by decide) rfl (fun ls hl => ?_)
          refine lv_iinc (v := (nI (e + 1))) (lv' := [(4, .int (nI (e + 1))), (3, .int (nI ((S ||| ms_mk e (cloP (rB g) S)) ||| (2 ^ e)))), (5, .int (nI (2 ^ e))), (0, .ref (ad 8)), (1, .int (nI S)), (2, .int (nI (rB g S)))]) hx hb dX1_closureOf_46 hl (k := 5) rfl (ni_inc _) (by decide) rfl (fun ls hl => ?_)
          refine lv_goto (tgt := 11) hx hb dX1_closureOf_49 (by decide) ?_
          exact ih11 (e + 1) ⟨by omega, by omega⟩  _ _ hP hS _ (by first | (rw [ms_mk_n (cloP_f c38)]; exact lv_sub hl [3, 4, 5, 1, 0] rfl) | (rw [ms_mk_y (cloP_t c38), ← Nat.or_assoc]; exact lv_sub hl [3, 4, 5, 1, 0] rfl))
  exact L11 (gE g + 1) 0 ⟨by omega, by omega⟩  _ _ hP hS _ (by rw [show ms_mk 0 _ = 0 from rfl, Nat.or_zero]; exact lv_sub hl [3, 4, 2, 1, 0] rfl)
end
