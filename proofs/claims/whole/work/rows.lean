section
-- ===== PART A: goes FIRST, ahead of the names: the tables' words, and 'selects' of the private methods out of them =====
/-- a private method of a class that the tables say can be made, by its rows of tables_1 -/
def lw_okq (q : MethodName × Nat) : Prop := (q.1.cls ≠ "java/lang/invoke/MethodHandle" ∧ q.1.cls ≠ "java/lang/invoke/VarHandle") ∧ Cond.instantiable q.1.cls q.2 ∈ tables_1 ∧ Cond.privateMethod q.1 ∈ tables_1 ∧ Cond.instanceMethod q.1 ∈ tables_1
theorem lw_p0 : lw_okq (⟨"ColourForests$Survey", "walk", "()V"⟩, 11) := ⟨⟨by decide +kernel, by decide +kernel⟩, List.mem_of_getElem? (i := 94) (by decide +kernel), List.mem_of_getElem? (i := 183) (by decide +kernel), List.mem_of_getElem? (i := 184) (by decide +kernel)⟩
theorem lw_p1 : lw_okq (⟨"ColourForests$Survey", "begin", "()V"⟩, 11) := ⟨⟨by decide +kernel, by decide +kernel⟩, List.mem_of_getElem? (i := 94) (by decide +kernel), List.mem_of_getElem? (i := 187) (by decide +kernel), List.mem_of_getElem? (i := 188) (by decide +kernel)⟩
theorem lw_p2 : lw_okq (⟨"ColourForests$Survey", "placeAbove", "(I)I"⟩, 11) := ⟨⟨by decide +kernel, by decide +kernel⟩, List.mem_of_getElem? (i := 94) (by decide +kernel), List.mem_of_getElem? (i := 206) (by decide +kernel), List.mem_of_getElem? (i := 207) (by decide +kernel)⟩
theorem lw_p3 : lw_okq (⟨"ColourForests$Survey", "enter", "(II)Z"⟩, 11) := ⟨⟨by decide +kernel, by decide +kernel⟩, List.mem_of_getElem? (i := 94) (by decide +kernel), List.mem_of_getElem? (i := 210) (by decide +kernel), List.mem_of_getElem? (i := 211) (by decide +kernel)⟩
theorem lw_p4 : lw_okq (⟨"ColourForests$Survey", "note", "(II)V"⟩, 11) := ⟨⟨by decide +kernel, by decide +kernel⟩, List.mem_of_getElem? (i := 94) (by decide +kernel), List.mem_of_getElem? (i := 233) (by decide +kernel), List.mem_of_getElem? (i := 234) (by decide +kernel)⟩
theorem lw_p5 : lw_okq (⟨"ColourForests$Survey", "noteForest", "(I)V"⟩, 11) := ⟨⟨by decide +kernel, by decide +kernel⟩, List.mem_of_getElem? (i := 94) (by decide +kernel), List.mem_of_getElem? (i := 243) (by decide +kernel), List.mem_of_getElem? (i := 244) (by decide +kernel)⟩
theorem lw_p6 : lw_okq (⟨"ColourForests$Survey", "noteCommon", "(III)V"⟩, 11) := ⟨⟨by decide +kernel, by decide +kernel⟩, List.mem_of_getElem? (i := 94) (by decide +kernel), List.mem_of_getElem? (i := 247) (by decide +kernel), List.mem_of_getElem? (i := 248) (by decide +kernel)⟩
theorem lw_p7 : lw_okq (⟨"ColourForests", "judgeOf", "(I)LColourForests$Kind;"⟩, 4) := ⟨⟨by decide +kernel, by decide +kernel⟩, List.mem_of_getElem? (i := 17) (by decide +kernel), List.mem_of_getElem? (i := 258) (by decide +kernel), List.mem_of_getElem? (i := 259) (by decide +kernel)⟩
theorem lw_p8 : lw_okq (⟨"ColourForests", "isCommon", "(I)Z"⟩, 4) := ⟨⟨by decide +kernel, by decide +kernel⟩, List.mem_of_getElem? (i := 17) (by decide +kernel), List.mem_of_getElem? (i := 293) (by decide +kernel), List.mem_of_getElem? (i := 294) (by decide +kernel)⟩
theorem lw_p9 : lw_okq (⟨"ColourForests", "leastWitness", "()I"⟩, 4) := ⟨⟨by decide +kernel, by decide +kernel⟩, List.mem_of_getElem? (i := 17) (by decide +kernel), List.mem_of_getElem? (i := 354) (by decide +kernel), List.mem_of_getElem? (i := 355) (by decide +kernel)⟩
theorem lw_p10 : lw_okq (⟨"ColourForests", "leastSplit", "(LColourForests$Kind;LColourForests$Kind;)I"⟩, 4) := ⟨⟨by decide +kernel, by decide +kernel⟩, List.mem_of_getElem? (i := 17) (by decide +kernel), List.mem_of_getElem? (i := 358) (by decide +kernel), List.mem_of_getElem? (i := 359) (by decide +kernel)⟩
theorem lw_p11 : lw_okq (⟨"ColourForests", "greatestWitness", "()I"⟩, 4) := ⟨⟨by decide +kernel, by decide +kernel⟩, List.mem_of_getElem? (i := 17) (by decide +kernel), List.mem_of_getElem? (i := 366) (by decide +kernel), List.mem_of_getElem? (i := 367) (by decide +kernel)⟩
theorem lw_p12 : lw_okq (⟨"ColourForests", "dearestAreSuch", "()Z"⟩, 4) := ⟨⟨by decide +kernel, by decide +kernel⟩, List.mem_of_getElem? (i := 17) (by decide +kernel), List.mem_of_getElem? (i := 374) (by decide +kernel), List.mem_of_getElem? (i := 375) (by decide +kernel)⟩
theorem lw_p13 : lw_okq (⟨"ColourForests", "gainsNeverRise", "()Z"⟩, 4) := ⟨⟨by decide +kernel, by decide +kernel⟩, List.mem_of_getElem? (i := 17) (by decide +kernel), List.mem_of_getElem? (i := 379) (by decide +kernel), List.mem_of_getElem? (i := 380) (by decide +kernel)⟩
theorem lw_p14 : lw_okq (⟨"ColourForests", "isWitness", "(I)Z"⟩, 4) := ⟨⟨by decide +kernel, by decide +kernel⟩, List.mem_of_getElem? (i := 17) (by decide +kernel), List.mem_of_getElem? (i := 383) (by decide +kernel), List.mem_of_getElem? (i := 384) (by decide +kernel)⟩
theorem lw_p15 : lw_okq (⟨"java/lang/Throwable", "fillInStackTrace", "(I)Ljava/lang/Throwable;"⟩, 6) := ⟨⟨by decide +kernel, by decide +kernel⟩, List.mem_of_getElem? (i := 432) (by decide +kernel), List.mem_of_getElem? (i := 430) (by decide +kernel), List.mem_of_getElem? (i := 431) (by decide +kernel)⟩
def lw_privs_1 : List (MethodName × Nat) := [(⟨"ColourForests$Survey", "walk", "()V"⟩, 11), (⟨"ColourForests$Survey", "begin", "()V"⟩, 11), (⟨"ColourForests$Survey", "placeAbove", "(I)I"⟩, 11), (⟨"ColourForests$Survey", "enter", "(II)Z"⟩, 11), (⟨"ColourForests$Survey", "note", "(II)V"⟩, 11), (⟨"ColourForests$Survey", "noteForest", "(I)V"⟩, 11), (⟨"ColourForests$Survey", "noteCommon", "(III)V"⟩, 11), (⟨"ColourForests", "judgeOf", "(I)LColourForests$Kind;"⟩, 4), (⟨"ColourForests", "isCommon", "(I)Z"⟩, 4), (⟨"ColourForests", "leastWitness", "()I"⟩, 4), (⟨"ColourForests", "leastSplit", "(LColourForests$Kind;LColourForests$Kind;)I"⟩, 4), (⟨"ColourForests", "greatestWitness", "()I"⟩, 4), (⟨"ColourForests", "dearestAreSuch", "()Z"⟩, 4), (⟨"ColourForests", "gainsNeverRise", "()Z"⟩, 4), (⟨"ColourForests", "isWitness", "(I)Z"⟩, 4), (⟨"java/lang/Throwable", "fillInStackTrace", "(I)Ljava/lang/Throwable;"⟩, 6)]
theorem lw_r1 : ∀ q ∈ lw_privs_1, lw_okq q := List.forall_mem_cons.mpr ⟨lw_p0, List.forall_mem_cons.mpr ⟨lw_p1, List.forall_mem_cons.mpr ⟨lw_p2, List.forall_mem_cons.mpr ⟨lw_p3, List.forall_mem_cons.mpr ⟨lw_p4, List.forall_mem_cons.mpr ⟨lw_p5, List.forall_mem_cons.mpr ⟨lw_p6, List.forall_mem_cons.mpr ⟨lw_p7, List.forall_mem_cons.mpr ⟨lw_p8, List.forall_mem_cons.mpr ⟨lw_p9, List.forall_mem_cons.mpr ⟨lw_p10, List.forall_mem_cons.mpr ⟨lw_p11, List.forall_mem_cons.mpr ⟨lw_p12, List.forall_mem_cons.mpr ⟨lw_p13, List.forall_mem_cons.mpr ⟨lw_p14, List.forall_mem_cons.mpr ⟨lw_p15, fun _ h => absurd h List.not_mem_nil⟩⟩⟩⟩⟩⟩⟩⟩⟩⟩⟩⟩⟩⟩⟩⟩
theorem lw_p16 : lw_okq (⟨"ColourForestsModel", "refuses", "(I)Z"⟩, 16) := ⟨⟨by decide +kernel, by decide +kernel⟩, List.mem_of_getElem? (i := 519) (by decide +kernel), List.mem_of_getElem? (i := 584) (by decide +kernel), List.mem_of_getElem? (i := 585) (by decide +kernel)⟩
theorem lw_p17 : lw_okq (⟨"ColourForestsModel", "learn", "()V"⟩, 16) := ⟨⟨by decide +kernel, by decide +kernel⟩, List.mem_of_getElem? (i := 519) (by decide +kernel), List.mem_of_getElem? (i := 607) (by decide +kernel), List.mem_of_getElem? (i := 608) (by decide +kernel)⟩
theorem lw_p18 : lw_okq (⟨"ColourForestsModel", "hasNoRing", "(I)Z"⟩, 16) := ⟨⟨by decide +kernel, by decide +kernel⟩, List.mem_of_getElem? (i := 519) (by decide +kernel), List.mem_of_getElem? (i := 611) (by decide +kernel), List.mem_of_getElem? (i := 612) (by decide +kernel)⟩
theorem lw_p19 : lw_okq (⟨"ColourForestsModel", "keepsLimits", "(I)Z"⟩, 16) := ⟨⟨by decide +kernel, by decide +kernel⟩, List.mem_of_getElem? (i := 519) (by decide +kernel), List.mem_of_getElem? (i := 618) (by decide +kernel), List.mem_of_getElem? (i := 619) (by decide +kernel)⟩
theorem lw_p20 : lw_okq (⟨"ColourForestsModel", "weightOf", "(I)I"⟩, 16) := ⟨⟨by decide +kernel, by decide +kernel⟩, List.mem_of_getElem? (i := 519) (by decide +kernel), List.mem_of_getElem? (i := 625) (by decide +kernel), List.mem_of_getElem? (i := 626) (by decide +kernel)⟩
theorem lw_p21 : lw_okq (⟨"ColourForestsModel", "isSet", "(I)Z"⟩, 16) := ⟨⟨by decide +kernel, by decide +kernel⟩, List.mem_of_getElem? (i := 519) (by decide +kernel), List.mem_of_getElem? (i := 636) (by decide +kernel), List.mem_of_getElem? (i := 637) (by decide +kernel)⟩
def lw_privs_2 : List (MethodName × Nat) := [(⟨"ColourForestsModel", "refuses", "(I)Z"⟩, 16), (⟨"ColourForestsModel", "learn", "()V"⟩, 16), (⟨"ColourForestsModel", "hasNoRing", "(I)Z"⟩, 16), (⟨"ColourForestsModel", "keepsLimits", "(I)Z"⟩, 16), (⟨"ColourForestsModel", "weightOf", "(I)I"⟩, 16), (⟨"ColourForestsModel", "isSet", "(I)Z"⟩, 16)]
theorem lw_r2 : ∀ q ∈ lw_privs_2, lw_okq q := List.forall_mem_cons.mpr ⟨lw_p16, List.forall_mem_cons.mpr ⟨lw_p17, List.forall_mem_cons.mpr ⟨lw_p18, List.forall_mem_cons.mpr ⟨lw_p19, List.forall_mem_cons.mpr ⟨lw_p20, List.forall_mem_cons.mpr ⟨lw_p21, fun _ h => absurd h List.not_mem_nil⟩⟩⟩⟩⟩⟩
def lw_privs : List (MethodName × Nat) := lw_privs_1 ++ (lw_privs_2)
def lw_tbl : List Cond := k2_sels lw_privs ++ tables_1
theorem lw_privs_ok : ∀ q ∈ lw_privs, lw_okq q := by
  show ∀ q ∈ lw_privs_1 ++ (lw_privs_2), lw_okq q
  exact List.forall_mem_append.mpr ⟨lw_r1, lw_r2⟩
end
section
/-! ===== BEGIN words of one list among another's, by their places ===== -/
theorem goodIn_r {big : List Cond} (ws : List Cond) (ps : List Nat) (hp : ws = ps.filterMap (fun i => big[i]?)) (h : ws.all goodWord = true) : GoodIn big ws := by
  intro w hw
  have h1 := List.all_eq_true.mp h w hw
  rw [hp] at hw
  obtain ⟨i, -, hi⟩ := List.mem_filterMap.mp hw
  have hm : w ∈ big := by first | exact List.mem_of_getElem? hi | exact List.getElem?_mem hi
  exact ⟨hm, good_of_word h1⟩
theorem goodIn_app {big a b : List Cond} (ha : GoodIn big a) (hb : GoodIn big b) : GoodIn big (a ++ b) := fun w h => (List.mem_append.mp h).elim (ha w) (hb w)
theorem goodIn_ca {big a b : List Cond} {c : Cond} (ha : GoodIn big (c :: a)) (hb : GoodIn big b) : GoodIn big (c :: (a ++ b)) := fun w h => (List.mem_cons.mp h).elim (fun e => ha w (List.mem_cons.mpr (Or.inl e))) (fun h => (List.mem_append.mp h).elim (fun h => ha w (List.mem_cons.mpr (Or.inr h))) (hb w))
theorem goodIn_sub {big ws : List Cond} (hm : ∀ w ∈ ws, w ∈ big) (h : ws.all goodWord = true) : GoodIn big ws := fun w hw => ⟨hm w hw, good_of_word (List.all_eq_true.mp h w hw)⟩
/-! ===== END ===== -/

/-! ===== BEGIN exceptions that leave a method, and their catching by the caller (launches without stack traces) ===== -/
section VXA
/-! The laws vx_back, vx_callV, vx_callS, vx_callSW, vx_throw0, vx_throwS follow proofs of the library, with one case more: JvmDerived/Free/Laws.lean (Back.of_free), Shelf42/LK1.lean (callV, callS), Shelf/KitTraced.lean (throwNew0V, throwNewS). -/
/-- where a method has thrown q: the class by its name, the cell, what was written, the world -/
def vx_T (XC : String → State → State → Prop) (st : State) (q : Addr) (t : State) (mc ms : Nat) (free : Addr → Prop) : Prop :=
  ∃ (E : String) (ce : Cell) (L : List Loc), XC E st t ∧ t.heap[q]? = some ce ∧ ce.vm = .none ∧ st.vm.findClass E = some ce.cls ∧ st.WarmedH t.vm ∧ st.sameButNew ({ t with vm := st.vm } : State) L mc ms ∧ ∀ z ∈ L, free z.base
def vx_Q (Qc : Array Value → State → Outcome → State → Prop) (XC : String → State → State → Prop) (mc ms : Nat) (free : Addr → Prop) : Array Value → State → Outcome → State → Prop := fun a st o t =>
  (Qc a st o t ∧ ∃ L, FrameEnd st o t L mc ms ∧ ∀ q ∈ L, free q.base) ∨ ∃ q, o = .threw q ∧ vx_T XC st q t mc ms free
/-- a callee that returns or throws -/
def vx_Met (l : Launch) (y : MethodName) (ws : List Cond) (rm : Room) (Pc : Array Value → State → Prop) (Qc : Array Value → State → Outcome → State → Prop) (XC : String → State → State → Prop) (mc ms : Nat) (free : Addr → Prop) : Prop :=
  MetFree l y (headSpec ws rm) Pc (fun _ _ _ _ _ => True) (vx_Q Qc XC mc ms free)
def vx_Post (XC : String → State → State → Prop) (mc ms : Nat) (free : Addr → Prop) : Pt → Array Value → Addr → Pt → Prop := fun A a q B =>
  ∃ (g : JFrame) (mk : MethodId) (t : State) (L : List Loc) (E : String) (ce : Cell), B.U.heap = t.heap ∧ B.U.vm = t.vm ∧ XC E (A.U.calling g mk a) t ∧ t.heap[q]? = some ce ∧ ce.vm = .none ∧ A.U.vm.findClass E = some ce.cls ∧ B.locs = A.locs ++ L ∧ (∀ z ∈ L, free z.base) ∧ B.cells = A.cells + mc ∧ B.slots = A.slots + ms
def vx_Back (l : Launch) (R : Room) (p : Program) (e : Env) (below : List Frame) (s : State) (sargs : Array Value) (y : MethodName) (len W9 : Nat)
    (Pre : Pt → Array Value → Prop) (Post : Pt → Array Value → Option Value → Pt → Prop) (PostX : Pt → Array Value → Addr → Pt → Prop) : Prop :=
  ∀ (m : MethodId) (meth : Method) (c : Code) (A : Pt) (g : JFrame) (ig : Instr) (mk : MethodId) (a : Array Value),
    Stand p l e R s m sargs below meth c A.U A.locs A.cells A.slots → g.method = m → g.locals.size = c.maxLocals → decode c.code g.pc = .ok (ig, len) →
    2 * g.monitorRoom + (g.stack.map fun v => v.category).sum ≤ W9 → A.U.methodNamed? y = some mk → Pre A a →
    (∃ (v : Option Value) (B : Pt), Stand p l e R s m sargs below meth c B.U B.locs B.cells B.slots ∧ Post A a v B ∧
      Steps p.tables e below (doInvoke e (A.U.setTop g) [] mk a).1 (B.U.setTop { g with pc := g.pc + len, stack := v.toList ++ g.stack })) ∨
    (∃ (q : Addr) (B : Pt), Stand p l e R s m sargs below meth c B.U B.locs B.cells B.slots ∧ PostX A a q B ∧
      Steps p.tables e below (doInvoke e (A.U.setTop g) [] mk a).1 ((B.U.setTop g).pushFrame (.throwing q)))
section Payer
variable {l : Launch} {R : Room} {p : Program} {e : Env} {below : List Frame} {s : State} {sargs : Array Value} {y : MethodName} {len W9 : Nat}
theorem vx_back {ws : List Cond} {rm : Room} {Pc : Array Value → State → Prop} {Qc : Array Value → State → Outcome → State → Prop} {XC : String → State → State → Prop} {mc ms : Nat} {free : Addr → Prop} {bytes : ByteArray} {maxL : Nat} {ret : Option FieldType}
    (hM : vx_Met l y ws rm Pc Qc XC mc ms free) (hblind : FrameBlind Pc) (hrc : rm.cells = mc) (hrs : rm.slots = ms)
    (hframes : rm.frames + 1 ≤ R.frames) (hlocals : W9 + (maxL + 11) + rm.locals ≤ R.locals)
    (hws : ∀ w ∈ ws, ∀ a' U, s.WarmedH U.vm → w.before a' U = true) (hcode : Cond.code y bytes maxL ret ∈ ws) (hinit : ∀ a' U, s.WarmedH U.vm → (Cond.initialized y.cls).before a' U = true) :
    vx_Back l R p e below s sargs y len W9 (PreOf R mc ms Pc) (PostOf Qc mc ms free) (vx_Post XC mc ms free) := by
  intro m meth c A g ig mk a X hg hsize hdg hW hn hp
  have h1 : (headSpec ws rm).pre.before a A.U = true := atoms_intro fun w hw => hws w hw _ _ X.warmed
  have h2 : (Cond.code y bytes maxL ret).before a A.U = true := hws _ hcode _ _ X.warmed
  have h3 : (Cond.initialized y.cls).before a A.U = true := hinit _ _ X.warmed
  have h4 : A.cells + (headSpec ws rm).room.cells ≤ R.cells := by rw [show (headSpec ws rm).room.cells = mc from hrc]; exact hp.1
  have h5 : A.slots + (headSpec ws rm).room.slots ≤ R.slots := by rw [show (headSpec ws rm).room.slots = ms from hrs]; exact hp.2.1
  have hPc : Pc a (A.U.calling g mk a) := hblind _ _ _ _ hp.2.2
  obtain ⟨U, Ls, c0, s0⟩ := A
  dsimp only [Pt.U, Pt.locs, Pt.cells, Pt.slots] at h1 h2 h3 h4 h5 X hn hPc ⊢
  obtain ⟨methY, cY, hmY, hcY, -, hlY, -, -, -, -⟩ := Cond.code_spec hn h2
  obtain ⟨kY, hkY, -⟩ := className_of_methodNamed hn
  have hinitY : kY.init = .initialized := Cond.initialized_spec (findClass_of_methodNamed hn) hkY h3
  have h : At U g.method c below := by rw [hg]; exact X.here
  have hlocals9 : W9 + (maxL + 11) + (headSpec ws rm).room.locals ≤ R.locals := hlocals
  have happ : (headSpec ws rm).appliesLoose y e.platform (U.calling g mk a) = true :=
    Spec.appliesLoose_calling (g := g) h hdg hn hkY hinitY
      (X.room_calling (g := g) (R' := (headSpec ws rm).room) hsize hmY hcY hframes (by rw [hlY]; omega) h4 h5) h1
  obtain ⟨mid, hmid⟩ := h.above
  have hfr : (U.setTop g).frames = (.java g :: mid) ++ below := by rw [State.frames_setTop' g h.top, hmid]; rfl
  obtain ⟨o, s₂, hsteps, -, hend, hq⟩ := Steps.callFree hM p X.admits X.cas X.clock (acts := []) hfr happ hPc trivial
  have hq' : vx_Q Qc XC mc ms free a (U.calling g mk a) o s₂ := hq
  rw [State.frames_setTop' g h.top] at hend
  obtain ⟨g₀, hg0⟩ := Option.isSome_iff_exists.mp h.top
  obtain ⟨r, hr⟩ := State.topJava?_eq_some.mp hg0
  have hr' : (({ U with heap := s₂.heap, slotsUsed := s₂.slotsUsed } : State).setVm s₂.vm).frames = .java g₀ :: r := hr
  rcases hq' with ⟨hqc, L, hfe, hL⟩ | ⟨q, rfl, E, ce, L, hx, hce, hcv, hcl, hW₂, hsm, hL⟩
  · obtain ⟨⟨v, rfl⟩, hW₂, e2, q2, q3, q4, q5, q6⟩ := id hfe
    have e3 : s₂ = ({ (U.calling g mk a).setFrames s₂.frames with heap := s₂.heap, slotsUsed := s₂.slotsUsed } : State).setVm s₂.vm := by
      have : s₂ = ({ s₂ with vm := (U.calling g mk a).vm } : State).setVm s₂.vm := rfl
      rw [e2] at this
      exact this
    obtain ⟨c₂, i₂, len₂, hc₂, hd₂, hf₂⟩ := hend
    have hW' : U.WarmedH s₂.vm := hW₂
    have hcc : c₂ = c := by
      have h1 : s₂.code? g.method = U.code? g.method := by
        rw [State.code?_eq, State.code?_eq, hW'.alike.method?]
      exact Option.some.inj (hc₂.symm.trans (h1.trans h.code))
    subst hcc
    have hlen : len₂ = len := by rw [hdg] at hd₂; cases hd₂; rfl
    subst hlen
    have hs₂ : s₂ = (({ U with heap := s₂.heap, slotsUsed := s₂.slotsUsed } : State).setVm s₂.vm).setTop { g with pc := g.pc + len₂, stack := v.toList ++ g.stack } := by
      refine e3.trans ?_
      rw [hf₂, State.calling_eq h.top, State.setFrames_setFrames, State.setTop_of_frames _ hr', hr]
      rfl
    have hsame : U.sameButNew ({ U with heap := s₂.heap, slotsUsed := s₂.slotsUsed } : State) L mc ms := by
      refine ⟨?_, q2, q3, q4, q5, q6⟩
      obtain ⟨t, ht, -⟩ := State.frames_cons hr
      show ({ U with heap := s₂.heap, slotsUsed := s₂.slotsUsed } : State) = { U.setFrames U.frames with heap := s₂.heap, slotsUsed := s₂.slotsUsed }
      rw [State.setFrames_self ht]
    subst hg
    refine Or.inl ⟨v, ⟨(({ U with heap := s₂.heap, slotsUsed := s₂.slotsUsed } : State).setVm s₂.vm), Ls ++ L, c0 + mc, s0 + ms⟩,
      ⟨X.admits, X.cas, X.clock, X.frames, X.room, X.hears, X.method, X.code, (X.here.setHeapUsed s₂.heap s₂.slotsUsed).setVm hW'.alike, X.tail, State.WarmedH.trans X.warmed hW', X.limits, X.bytes, X.same.trans (hsame.setVm s.vm)⟩,
      ⟨g, mk, s₂, L, rfl, rfl, hqc, rfl, hL, rfl, rfl⟩, ?_⟩
    show Steps p.tables e below _ ((({ U with heap := s₂.heap, slotsUsed := s₂.slotsUsed } : State).setVm s₂.vm).setTop { g with pc := g.pc + len₂, stack := v.toList ++ g.stack })
    rw [← hs₂]
    exact hsteps
  · obtain ⟨e2, q2, q3, q4, q5, q6⟩ := id hsm
    have e3 : s₂ = ({ (U.calling g mk a).setFrames s₂.frames with heap := s₂.heap, slotsUsed := s₂.slotsUsed } : State).setVm s₂.vm := by
      have : s₂ = ({ s₂ with vm := (U.calling g mk a).vm } : State).setVm s₂.vm := rfl
      rw [e2] at this
      exact this
    have hf₂ : s₂.frames = .throwing q :: .java g :: U.frames.tail := hend
    have hW' : U.WarmedH s₂.vm := hW₂
    have hs₂ : s₂ = ((({ U with heap := s₂.heap, slotsUsed := s₂.slotsUsed } : State).setVm s₂.vm).setTop g).pushFrame (.throwing q) := by
      refine e3.trans ?_
      rw [hf₂, State.calling_eq h.top, State.setFrames_setFrames, State.pushFrame, State.frames_setTop _ hr', State.setTop_of_frames _ hr', State.setFrames_setFrames, hr]
      rfl
    have hsame : U.sameButNew ({ U with heap := s₂.heap, slotsUsed := s₂.slotsUsed } : State) L mc ms := by
      refine ⟨?_, q2, q3, q4, q5, q6⟩
      obtain ⟨t, ht, -⟩ := State.frames_cons hr
      show ({ U with heap := s₂.heap, slotsUsed := s₂.slotsUsed } : State) = { U.setFrames U.frames with heap := s₂.heap, slotsUsed := s₂.slotsUsed }
      rw [State.setFrames_self ht]
    subst hg
    refine Or.inr ⟨q, ⟨(({ U with heap := s₂.heap, slotsUsed := s₂.slotsUsed } : State).setVm s₂.vm), Ls ++ L, c0 + mc, s0 + ms⟩,
      ⟨X.admits, X.cas, X.clock, X.frames, X.room, X.hears, X.method, X.code, (X.here.setHeapUsed s₂.heap s₂.slotsUsed).setVm hW'.alike, X.tail, State.WarmedH.trans X.warmed hW', X.limits, X.bytes, X.same.trans (hsame.setVm s.vm)⟩,
      ⟨g, mk, s₂, L, E, ce, rfl, rfl, hx, hce, hcv, hcl, rfl, hL, rfl, rfl⟩, ?_⟩
    show Steps p.tables e below _ (((({ U with heap := s₂.heap, slotsUsed := s₂.slotsUsed } : State).setVm s₂.vm).setTop g).pushFrame (.throwing q))
    rw [← hs₂]
    exact hsteps
end Payer
section Calls
variable {p : Program} {l : Launch} {e : Env} {R : Room} {s : State} {m : MethodId} {args : Array Value} {below : List Frame} {meth : Method} {c : Code} {T : State} {locs : List Loc} {cells slots : Nat}
theorem vx_callV (X : Stand p l e R s m args below meth c T locs cells slots) (hexec : p.tables.exec = Jvm.exec) {own C : String} {index : Nat} {y : MethodName} {bytes : ByteArray} {maxL : Nat} {ret : Option FieldType}
    (hown : s.vm.findClass own = some m.cls) (hlink : (Cond.methodLink own index y).before args s = true) (hinst : (Cond.instanceMethod y).before args s = true) (hsel : (Cond.selects C y y).before args s = true)
    (hcode : (Cond.code y bytes maxL ret).before args s = true) (hy : y.cls ≠ "java/lang/invoke/MethodHandle" ∧ y.cls ≠ "java/lang/invoke/VarHandle")
    {W9 : Nat} {Pre : Pt → Array Value → Prop} {Post : Pt → Array Value → Option Value → Pt → Prop} {PostX : Pt → Array Value → Addr → Pt → Prop} (hK : vx_Back l R p e below s args y 3 W9 Pre Post PostX)
    {b : Addr} {cellB : Cell} (hcell : T.heap[b]? = some cellB) (hobj : cellB.vm.isStatics = false) (hcls : s.vm.findClass C = some cellB.cls)
    {g : JFrame} (hg : g.method = m) (hsize : g.locals.size = c.maxLocals) {argsL rest : List Value} (hlen : ∀ sig, parseMethodDescriptor y.desc = some sig → argsL.length = sig.parameters.length)
    (hstack : g.stack = argsL.reverse ++ .ref b :: rest) (hW : 2 * g.monitorRoom + (rest.map fun v => v.category).sum ≤ W9) (hdg : decode c.code g.pc = .ok (.invokevirtual index, 3))
    (hpre : ∀ vm₁, s.WarmedH vm₁ → Pre ⟨T.setVm vm₁, locs, cells, slots⟩ (Value.ref b :: argsL).toArray) :
    (∃ (v : Option Value) (vm₁ : Vm) (B : Pt), s.WarmedH vm₁ ∧ Stand p l e R s m args below meth c B.U B.locs B.cells B.slots ∧ Post ⟨T.setVm vm₁, locs, cells, slots⟩ (Value.ref b :: argsL).toArray v B ∧
      ∀ target, Steps p.tables e below (B.U.setTop { g with pc := g.pc + 3, stack := v.toList ++ rest }) target → Steps p.tables e below (T.setTop g) target) ∨
    (∃ (q : Addr) (vm₁ : Vm) (B : Pt), s.WarmedH vm₁ ∧ Stand p l e R s m args below meth c B.U B.locs B.cells B.slots ∧ PostX ⟨T.setVm vm₁, locs, cells, slots⟩ (Value.ref b :: argsL).toArray q B ∧
      Steps p.tables e below (T.setTop g) ((B.U.setTop { g with stack := rest }).pushFrame (.throwing q))) := by
  obtain ⟨mk, methM, hnamed, hmethM, hstM, habM⟩ := Cond.instanceMethod_spec hinst
  obtain ⟨methM', cM, hmethM', -, -, -, -, -, -, hsigM⟩ := Cond.code_spec hnamed hcode
  cases hmethM.symm.trans hmethM'
  obtain ⟨c2, r2, m2, q1, q2, q3, q4, kP, hkP, hkPi⟩ := Cond.selects_spec hsel
  cases hcls.symm.trans q1
  cases (State.methodFound?_of_named hnamed hy).symm.trans q2
  cases hnamed.symm.trans q3
  have hselP : selectMethod e.platform s.vm cellB.cls mk = .method mk := by rw [Launch.admits_selectMethod X.admits]; exact q4
  obtain ⟨vm₁, X₁, hstep₁⟩ := X.invokevirtual hexec hown hlink hnamed hmethM hstM hkP hkPi hy (a := b) (cell := cellB) hcell
    (fun z h => by rw [h] at hobj; cases hobj) hselP hmethM habM hkP hkPi (g := g) hg (argsL := argsL) (rest := rest) (hlen _ hsigM) hstack hdg
  rcases hK m meth c ⟨T.setVm vm₁, locs, cells, slots⟩ { g with stack := rest } (.invokevirtual index) mk (Value.ref b :: argsL).toArray X₁ hg hsize hdg hW (X₁.named hnamed) (hpre vm₁ X₁.warmed) with ⟨v, B, X', hpost, hsteps⟩ | ⟨q, B, X', hpost, hsteps⟩
  · exact Or.inl ⟨v, vm₁, B, X₁.warmed, X', hpost, fun target h => hstep₁ _ fun acts => by rw [doInvoke_state]; exact hsteps.trans h⟩
  · exact Or.inr ⟨q, vm₁, B, X₁.warmed, X', hpost, hstep₁ _ fun acts => by rw [doInvoke_state]; exact hsteps⟩
theorem vx_callS (X : Stand p l e R s m args below meth c T locs cells slots) (hexec : p.tables.exec = Jvm.exec) {own : String} {index : Nat} {y : MethodName} {bytes : ByteArray} {maxL : Nat} {ret : Option FieldType}
    (hown : s.vm.findClass own = some m.cls) (hlink : (Cond.methodLink own index y).before args s = true) (hstat : (Cond.static y).before args s = true) (hinit : (Cond.initialized y.cls).before args s = true)
    (hcode : (Cond.code y bytes maxL ret).before args s = true) (hy : y.cls ≠ "java/lang/invoke/MethodHandle" ∧ y.cls ≠ "java/lang/invoke/VarHandle")
    {W9 : Nat} {Pre : Pt → Array Value → Prop} {Post : Pt → Array Value → Option Value → Pt → Prop} {PostX : Pt → Array Value → Addr → Pt → Prop} (hK : vx_Back l R p e below s args y 3 W9 Pre Post PostX)
    {g : JFrame} (hg : g.method = m) (hsize : g.locals.size = c.maxLocals) {argsL rest : List Value} (hlen : ∀ sig, parseMethodDescriptor y.desc = some sig → argsL.length = sig.parameters.length)
    (hstack : g.stack = argsL.reverse ++ rest) (hW : 2 * g.monitorRoom + (rest.map fun v => v.category).sum ≤ W9) (hdg : decode c.code g.pc = .ok (.invokestatic index, 3))
    (hpre : ∀ vm₁, s.WarmedH vm₁ → Pre ⟨T.setVm vm₁, locs, cells, slots⟩ argsL.toArray) :
    (∃ (v : Option Value) (vm₁ : Vm) (B : Pt), s.WarmedH vm₁ ∧ Stand p l e R s m args below meth c B.U B.locs B.cells B.slots ∧ Post ⟨T.setVm vm₁, locs, cells, slots⟩ argsL.toArray v B ∧
      ∀ target, Steps p.tables e below (B.U.setTop { g with pc := g.pc + 3, stack := v.toList ++ rest }) target → Steps p.tables e below (T.setTop g) target) ∨
    (∃ (q : Addr) (vm₁ : Vm) (B : Pt), s.WarmedH vm₁ ∧ Stand p l e R s m args below meth c B.U B.locs B.cells B.slots ∧ PostX ⟨T.setVm vm₁, locs, cells, slots⟩ argsL.toArray q B ∧
      Steps p.tables e below (T.setTop g) ((B.U.setTop { g with stack := rest }).pushFrame (.throwing q))) := by
  obtain ⟨mk, hnamed⟩ := Cond.code_named hcode
  obtain ⟨methM, cM, hmethM, -, -, -, -, -, -, hsigM⟩ := Cond.code_spec hnamed hcode
  have hstatic : methM.isStatic = true := Cond.static_spec hnamed hmethM hstat
  obtain ⟨kP, hkP, -⟩ := className_of_methodNamed hnamed
  have hinitP : kP.init = .initialized := Cond.initialized_spec (findClass_of_methodNamed hnamed) hkP hinit
  obtain ⟨vm₁, X₁, hstep₁⟩ := X.invokestatic hexec hown hlink hnamed hmethM hstatic hkP hinitP hy (g := g) hg (argsL := argsL) (rest := rest) (hlen _ hsigM) hstack hdg
  rcases hK m meth c ⟨T.setVm vm₁, locs, cells, slots⟩ { g with stack := rest } (.invokestatic index) mk argsL.toArray X₁ hg hsize hdg hW (X₁.named hnamed) (hpre vm₁ X₁.warmed) with ⟨v, B, X', hpost, hsteps⟩ | ⟨q, B, X', hpost, hsteps⟩
  · exact Or.inl ⟨v, vm₁, B, X₁.warmed, X', hpost, fun target h => hstep₁ _ fun acts => by rw [doInvoke_state]; exact hsteps.trans h⟩
  · exact Or.inr ⟨q, vm₁, B, X₁.warmed, X', hpost, hstep₁ _ fun acts => by rw [doInvoke_state]; exact hsteps⟩
end Calls
theorem vx_cls {s : State} {T : State} {vm₁ : Vm} {E : String} {k : ClassId} (hW : s.WarmedH vm₁) (h : (T.setVm vm₁).vm.findClass E = some k) : s.vm.findClass E = some k := by
  have h1 : vm₁.findClass E = some k := h
  rw [hW.alike.findClass] at h1
  exact h1
/-- the method's frame g, with q thrown over it -/
def vx_W (p : Program) (l : Launch) (e : Env) (R : Room) (s : State) (m : MethodId) (args : Array Value) (below : List Frame) (meth : Method) (c : Code) (H : Heap) (locs : List Loc) (cells slots : Nat) (Q : State → Prop) (g : JFrame) (q : Addr) : Prop :=
  ∀ T : State, T.heap = H → Stand p l e R s m args below meth c T locs cells slots → ∃ t, Steps p.tables e below ((T.setTop g).pushFrame (.throwing q)) t ∧ Q t
def vx_Run (p : Program) (l : Launch) (e : Env) (R : Room) (s : State) (m : MethodId) (args : Array Value) (below : List Frame) (meth : Method) (c : Code) (H : Heap) (locs : List Loc) (cells slots mc ms : Nat) (g : JFrame) (rest : List Value) (Qa : State → Outcome → State → Prop) (XC : String → State → State → Prop) (free : Addr → Prop) : Prop :=
  ∀ T : State, T.heap = H → Stand p l e R s m args below meth c T locs cells slots →
    (∃ (v : Option Value) (st₀ t T' : State) (L : List Loc), st₀.heap = H ∧ Stand p l e R s m args below meth c T' (locs ++ L) (cells + mc) (slots + ms) ∧ (∀ q ∈ L, free q.base) ∧ T'.heap = t.heap ∧ T'.vm = t.vm ∧ Qa st₀ (.returned v) t ∧
      Goes p e below T g T' { g with pc := g.pc + 3, stack := v.toList ++ rest }) ∨
    (∃ (q : Addr) (st₀ t T' : State) (L : List Loc) (E : String) (ce : Cell), st₀.heap = H ∧ Stand p l e R s m args below meth c T' (locs ++ L) (cells + mc) (slots + ms) ∧ (∀ z ∈ L, free z.base) ∧ T'.heap = t.heap ∧ T'.vm = t.vm ∧ XC E st₀ t ∧ t.heap[q]? = some ce ∧ ce.vm = .none ∧ s.vm.findClass E = some ce.cls ∧
      Steps p.tables e below (T.setTop g) ((T'.setTop { g with stack := rest }).pushFrame (.throwing q)))
def vx_X {S : Type} (px : S → Prop) (B : String → S → State → Prop) (A : Nat → Prop) : String → State → State → Prop := fun E st t => ∃ u : S, px u ∧ B E u t ∧ va_F A st t
section Runs
variable {p : Program} {l : Launch} {e : Env} {R : Room} {s : State} {m : MethodId} {args : Array Value} {below : List Frame} {meth : Method} {c : Code} {H : Heap} {locs : List Loc} {cells slots : Nat}
variable {y : MethodName} {bytes cc : ByteArray} {maxL nL mc ms n index : Nat} {ret : Option FieldType} {ws : List Cond} {rm : Room} {Pc : Array Value → State → Prop} {Qc : Array Value → State → Outcome → State → Prop} {XC : String → State → State → Prop} {free : Addr → Prop} {Ts : List Cond} {own C : String} {b : Addr} {As rest : List Value} {g : JFrame}
theorem vx_callBack (cb : CallB R s args own index y bytes maxL ret ws rm mc ms n) (hM : vx_Met l y ws rm Pc Qc XC mc ms free) (hbl : FrameBlind Pc) : vx_Back l R p e below s args y 3 8 (PreOf R mc ms Pc) (PostOf Qc mc ms free) (vx_Post XC mc ms free) := by
  obtain ⟨hrc, hrs, hfr, hlo, hws, hcw, -, hini, -⟩ := cb
  exact vx_back (bytes := bytes) (maxL := maxL) (ret := ret) hM hbl hrc hrs hfr hlo hws hcw (fun a' U hW => word_at hW (Or.inl (by first | rfl | simp [Cond.onTables, Cond.keeps, Cond.steady])) hini)
theorem vx_runV (S : CallFix p m c cc nL s args Ts own) (hM : vx_Met l y ws rm Pc Qc XC mc ms free) (cw : CallW R s args own C index y bytes maxL ret ws rm mc ms n) (hp : PreV s H C b Pc As)
    (hg : g.method = m) (hn : As.length = n) (hsize : g.locals.size = nL) (hstack : g.stack = As.reverse ++ .ref b :: rest) (hW : 2 * g.monitorRoom + (rest.map fun v => v.category).sum ≤ 8) (hdg : decode cc g.pc = .ok (.invokevirtual index, 3)) (hf : cells + mc ≤ R.cells ∧ slots + ms ≤ R.slots) :
    vx_Run p l e R s m args below meth c H locs cells slots mc ms g rest (Qc (Value.ref b :: As).toArray) XC free := by
  have hK : vx_Back l R p e below s args y 3 8 (PreOf R mc ms Pc) (PostOf Qc mc ms free) (vx_Post XC mc ms free) := vx_callBack cw.1 hM hp.1
  obtain ⟨⟨-, -, -, -, -, -, hcode, -, hy, hlen, hl⟩, hin, hse⟩ := cw
  obtain ⟨hx, hb, hml, ho, -⟩ := S
  obtain ⟨-, ⟨cellB, hcB, hoB, hclB⟩, hPc⟩ := hp
  intro T hT X
  rcases vx_callV X hx (C := C) (bytes := bytes) (maxL := maxL) (ret := ret) ho hl hin hse hcode hy hK (by rw [hT]; exact hcB) hoB hclB hg (hsize.trans hml.symm) (argsL := As) (rest := rest) (fun sig h => hn.trans (hlen sig h)) hstack hW (by rw [hb]; exact hdg)
    (fun vm₁ hW₁ => ⟨hf.1, hf.2, hPc (T.setVm vm₁) hT hW₁⟩) with ⟨v, vm₁, ⟨U', l2, c2, s2⟩, hW₁, X', ⟨g', mk, t, L, e1, e2, hq, h1, hL, h2, h3⟩, st⟩ | ⟨q, vm₁, ⟨U', l2, c2, s2⟩, hW₁, X', ⟨g', mk, t, L, E, ce, e1, e2, hq, hce, hcv, hcl, h1, hL, h2, h3⟩, st⟩
  · dsimp only [Pt.U, Pt.locs, Pt.cells, Pt.slots] at X' e1 e2 h1 h2 h3 st
    subst h1; subst h2; subst h3
    exact Or.inl ⟨v, (T.setVm vm₁).calling g' mk (Value.ref b :: As).toArray, t, U', L, hT, X', hL, e1, e2, hq, st⟩
  · dsimp only [Pt.U, Pt.locs, Pt.cells, Pt.slots] at X' e1 e2 h1 h2 h3 st hcl
    subst h1; subst h2; subst h3
    exact Or.inr ⟨q, (T.setVm vm₁).calling g' mk (Value.ref b :: As).toArray, t, U', L, E, ce, hT, X', hL, e1, e2, hq, hce, hcv, vx_cls hW₁ hcl, st⟩
theorem vx_runS (S : CallFix p m c cc nL s args Ts own) (hM : vx_Met l y ws rm Pc Qc XC mc ms free) (cw : CallB R s args own index y bytes maxL ret ws rm mc ms n ∧ (Cond.static y).before args s = true) (hp : PreS s H Pc As)
    (hg : g.method = m) (hn : As.length = n) (hsize : g.locals.size = nL) (hstack : g.stack = As.reverse ++ rest) (hW : 2 * g.monitorRoom + (rest.map fun v => v.category).sum ≤ 8) (hdg : decode cc g.pc = .ok (.invokestatic index, 3)) (hf : cells + mc ≤ R.cells ∧ slots + ms ≤ R.slots) :
    vx_Run p l e R s m args below meth c H locs cells slots mc ms g rest (Qc As.toArray) XC free := by
  have hK : vx_Back l R p e below s args y 3 8 (PreOf R mc ms Pc) (PostOf Qc mc ms free) (vx_Post XC mc ms free) := vx_callBack cw.1 hM hp.1
  obtain ⟨⟨-, -, -, -, -, -, hcode, hini, hy, hlen, hl⟩, hstt⟩ := cw
  obtain ⟨hx, hb, hml, ho, -⟩ := S
  intro T hT X
  rcases vx_callS X hx (bytes := bytes) (maxL := maxL) (ret := ret) ho hl hstt hini hcode hy hK hg (hsize.trans hml.symm) (argsL := As) (rest := rest) (fun sig h => hn.trans (hlen sig h)) hstack hW (by rw [hb]; exact hdg)
    (fun vm₁ hW₁ => ⟨hf.1, hf.2, hp.2 (T.setVm vm₁) hT hW₁⟩) with ⟨v, vm₁, ⟨U', l2, c2, s2⟩, hW₁, X', ⟨g', mk, t, L, e1, e2, hq, h1, hL, h2, h3⟩, st⟩ | ⟨q, vm₁, ⟨U', l2, c2, s2⟩, hW₁, X', ⟨g', mk, t, L, E, ce, e1, e2, hq, hce, hcv, hcl, h1, hL, h2, h3⟩, st⟩
  · dsimp only [Pt.U, Pt.locs, Pt.cells, Pt.slots] at X' e1 e2 h1 h2 h3 st
    subst h1; subst h2; subst h3
    exact Or.inl ⟨v, (T.setVm vm₁).calling g' mk As.toArray, t, U', L, hT, X', hL, e1, e2, hq, st⟩
  · dsimp only [Pt.U, Pt.locs, Pt.cells, Pt.slots] at X' e1 e2 h1 h2 h3 st hcl
    subst h1; subst h2; subst h3
    exact Or.inr ⟨q, (T.setVm vm₁).calling g' mk As.toArray, t, U', L, E, ce, hT, X', hL, e1, e2, hq, hce, hcv, vx_cls hW₁ hcl, st⟩
end Runs
section Rows
variable {p : Program} {l : Launch} {e : Env} {R : Room} {s : State} {m : MethodId} {args : Array Value} {below : List Frame} {meth : Method} {c : Code} {H : Heap} {locs : List Loc} {cells slots : Nat} {Q : State → Prop}
variable {mc ms : Nat} {free : Addr → Prop} {A0 A1 : Nat → Prop} {H0 : Heap} {a : Array Value} {pc : Nat} {ls : Array Slot} {st0 rest : List Value}
theorem vx_keep {st₀ t T' : State} {L : List Loc} (h0 : st₀.heap = H) (e1 : T'.heap = t.heap) (hS : va_S A0 H0 H locs) (hA : ∀ q, q < H.size → A1 q → A0 q) (hf : ∀ q, free q → A0 q) (hL : ∀ q ∈ L, free q.base) (hF : va_F A1 st₀ t) :
    H.size ≤ T'.heap.size ∧ (∀ q : Nat, q < H.size → ¬ A1 q → T'.heap[q]? = H[q]?) ∧ va_S A0 H0 T'.heap (locs ++ L) := by
  obtain ⟨hz, hk⟩ := hF
  rw [h0] at hz hk
  exact ⟨by rw [e1]; exact hz, fun q h1 h2 => by rw [e1]; exact hk q h1 h2,
    ⟨Nat.le_trans hS.1 (by rw [e1]; exact hz), fun q h1 h2 => by rw [e1, hk q (Nat.lt_of_lt_of_le h1 hS.1) (fun z => h2 (hA q (Nat.lt_of_lt_of_le h1 hS.1) z))]; exact hS.2.1 q h1 h2, fun q hq => by
      rcases List.mem_append.mp hq with h | h
      · exact hS.2.2 q h
      · exact hf _ (hL q h)⟩⟩
theorem vx_calli {S SX : Type} {post : Int32 → S → Prop} {px : SX → Prop} {B : S → State → Prop} {BX : String → SX → State → Prop} {AX : Nat → Prop} (hr : vx_Run p l e R s m args below meth c H locs cells slots mc ms (F0 m pc ls st0) rest (va_Qi post B A1 a) (vx_X px BX AX) free) (hS : va_S A0 H0 H locs) (hA : ∀ q, q < H.size → A1 q → A0 q) (hf : ∀ q, free q → A0 q) (hAX : ∀ q, q < H.size → AX q → A0 q)
    (kx : ∀ (E : String) (ce : Cell) (q9 : Addr) (u : SX) (t : State) (H1 : Heap) (locs1 : List Loc), t.heap = H1 → s.vm.Alike t.vm → px u → BX E u t → H.size ≤ H1.size → (∀ q : Nat, q < H.size → ¬ AX q → H1[q]? = H[q]?) → va_S A0 H0 H1 locs1 → H1[q9]? = some ce → ce.vm = .none → s.vm.findClass E = some ce.cls → vx_W p l e R s m args below meth c H1 locs1 (cells + mc) (slots + ms) Q (F0 m pc ls rest) q9)
    (kk : ∀ (r : Int32) (u : S) (t : State) (H1 : Heap) (locs1 : List Loc), t.heap = H1 → s.vm.Alike t.vm → post r u → B u t → H.size ≤ H1.size → (∀ q : Nat, q < H.size → ¬ A1 q → H1[q]? = H[q]?) → va_S A0 H0 H1 locs1 → W p l e R s m args below meth c H1 locs1 (cells + mc) (slots + ms) Q (F0 m (pc + 3) ls (.int r :: rest))) : W p l e R s m args below meth c H locs cells slots Q (F0 m pc ls st0) := by
  intro T hT X
  rcases hr T hT X with ⟨v, st₀, t, T', L, h0, X', hL, e1, e2, ⟨⟨r, u, hv, hp, hb⟩, hF⟩, st⟩ | ⟨q, st₀, t, T', L, E, ce, h0, X', hL, e1, e2, ⟨u, hp, hb, hF⟩, hce, hcv, hcl, st⟩
  · cases hv
    obtain ⟨k1, k2, k3⟩ := vx_keep h0 e1 hS hA hf hL hF
    obtain ⟨t2, a1, b1⟩ := kk r u t T'.heap (locs ++ L) e1.symm (by rw [← e2]; exact X'.warmed.alike) hp hb k1 k2 k3 T' rfl X'
    exact ⟨t2, st t2 a1, b1⟩
  · obtain ⟨k1, k2, k3⟩ := vx_keep h0 e1 hS hAX hf hL hF
    obtain ⟨t2, a1, b1⟩ := kx E ce q u t T'.heap (locs ++ L) e1.symm (by rw [← e2]; exact X'.warmed.alike) hp hb k1 k2 k3 (by rw [e1]; exact hce) hcv hcl T' rfl X'
    exact ⟨t2, st.trans a1, b1⟩
theorem vx_calll {S SX : Type} {post : Int64 → S → Prop} {px : SX → Prop} {B : S → State → Prop} {BX : String → SX → State → Prop} {AX : Nat → Prop} (hr : vx_Run p l e R s m args below meth c H locs cells slots mc ms (F0 m pc ls st0) rest (va_Ql post B A1 a) (vx_X px BX AX) free) (hS : va_S A0 H0 H locs) (hA : ∀ q, q < H.size → A1 q → A0 q) (hf : ∀ q, free q → A0 q) (hAX : ∀ q, q < H.size → AX q → A0 q)
    (kx : ∀ (E : String) (ce : Cell) (q9 : Addr) (u : SX) (t : State) (H1 : Heap) (locs1 : List Loc), t.heap = H1 → s.vm.Alike t.vm → px u → BX E u t → H.size ≤ H1.size → (∀ q : Nat, q < H.size → ¬ AX q → H1[q]? = H[q]?) → va_S A0 H0 H1 locs1 → H1[q9]? = some ce → ce.vm = .none → s.vm.findClass E = some ce.cls → vx_W p l e R s m args below meth c H1 locs1 (cells + mc) (slots + ms) Q (F0 m pc ls rest) q9)
    (kk : ∀ (r : Int64) (u : S) (t : State) (H1 : Heap) (locs1 : List Loc), t.heap = H1 → s.vm.Alike t.vm → post r u → B u t → H.size ≤ H1.size → (∀ q : Nat, q < H.size → ¬ A1 q → H1[q]? = H[q]?) → va_S A0 H0 H1 locs1 → W p l e R s m args below meth c H1 locs1 (cells + mc) (slots + ms) Q (F0 m (pc + 3) ls (.long r :: rest))) : W p l e R s m args below meth c H locs cells slots Q (F0 m pc ls st0) := by
  intro T hT X
  rcases hr T hT X with ⟨v, st₀, t, T', L, h0, X', hL, e1, e2, ⟨⟨r, u, hv, hp, hb⟩, hF⟩, st⟩ | ⟨q, st₀, t, T', L, E, ce, h0, X', hL, e1, e2, ⟨u, hp, hb, hF⟩, hce, hcv, hcl, st⟩
  · cases hv
    obtain ⟨k1, k2, k3⟩ := vx_keep h0 e1 hS hA hf hL hF
    obtain ⟨t2, a1, b1⟩ := kk r u t T'.heap (locs ++ L) e1.symm (by rw [← e2]; exact X'.warmed.alike) hp hb k1 k2 k3 T' rfl X'
    exact ⟨t2, st t2 a1, b1⟩
  · obtain ⟨k1, k2, k3⟩ := vx_keep h0 e1 hS hAX hf hL hF
    obtain ⟨t2, a1, b1⟩ := kx E ce q u t T'.heap (locs ++ L) e1.symm (by rw [← e2]; exact X'.warmed.alike) hp hb k1 k2 k3 (by rw [e1]; exact hce) hcv hcl T' rfl X'
    exact ⟨t2, st.trans a1, b1⟩
theorem vx_callf {S SX : Type} {post : UInt32 → S → Prop} {px : SX → Prop} {B : S → State → Prop} {BX : String → SX → State → Prop} {AX : Nat → Prop} (hr : vx_Run p l e R s m args below meth c H locs cells slots mc ms (F0 m pc ls st0) rest (va_Qf post B A1 a) (vx_X px BX AX) free) (hS : va_S A0 H0 H locs) (hA : ∀ q, q < H.size → A1 q → A0 q) (hf : ∀ q, free q → A0 q) (hAX : ∀ q, q < H.size → AX q → A0 q)
    (kx : ∀ (E : String) (ce : Cell) (q9 : Addr) (u : SX) (t : State) (H1 : Heap) (locs1 : List Loc), t.heap = H1 → s.vm.Alike t.vm → px u → BX E u t → H.size ≤ H1.size → (∀ q : Nat, q < H.size → ¬ AX q → H1[q]? = H[q]?) → va_S A0 H0 H1 locs1 → H1[q9]? = some ce → ce.vm = .none → s.vm.findClass E = some ce.cls → vx_W p l e R s m args below meth c H1 locs1 (cells + mc) (slots + ms) Q (F0 m pc ls rest) q9)
    (kk : ∀ (r : UInt32) (u : S) (t : State) (H1 : Heap) (locs1 : List Loc), t.heap = H1 → s.vm.Alike t.vm → post r u → B u t → H.size ≤ H1.size → (∀ q : Nat, q < H.size → ¬ A1 q → H1[q]? = H[q]?) → va_S A0 H0 H1 locs1 → W p l e R s m args below meth c H1 locs1 (cells + mc) (slots + ms) Q (F0 m (pc + 3) ls (.float r :: rest))) : W p l e R s m args below meth c H locs cells slots Q (F0 m pc ls st0) := by
  intro T hT X
  rcases hr T hT X with ⟨v, st₀, t, T', L, h0, X', hL, e1, e2, ⟨⟨r, u, hv, hp, hb⟩, hF⟩, st⟩ | ⟨q, st₀, t, T', L, E, ce, h0, X', hL, e1, e2, ⟨u, hp, hb, hF⟩, hce, hcv, hcl, st⟩
  · cases hv
    obtain ⟨k1, k2, k3⟩ := vx_keep h0 e1 hS hA hf hL hF
    obtain ⟨t2, a1, b1⟩ := kk r u t T'.heap (locs ++ L) e1.symm (by rw [← e2]; exact X'.warmed.alike) hp hb k1 k2 k3 T' rfl X'
    exact ⟨t2, st t2 a1, b1⟩
  · obtain ⟨k1, k2, k3⟩ := vx_keep h0 e1 hS hAX hf hL hF
    obtain ⟨t2, a1, b1⟩ := kx E ce q u t T'.heap (locs ++ L) e1.symm (by rw [← e2]; exact X'.warmed.alike) hp hb k1 k2 k3 (by rw [e1]; exact hce) hcv hcl T' rfl X'
    exact ⟨t2, st.trans a1, b1⟩
theorem vx_calld {S SX : Type} {post : UInt64 → S → Prop} {px : SX → Prop} {B : S → State → Prop} {BX : String → SX → State → Prop} {AX : Nat → Prop} (hr : vx_Run p l e R s m args below meth c H locs cells slots mc ms (F0 m pc ls st0) rest (va_Qd post B A1 a) (vx_X px BX AX) free) (hS : va_S A0 H0 H locs) (hA : ∀ q, q < H.size → A1 q → A0 q) (hf : ∀ q, free q → A0 q) (hAX : ∀ q, q < H.size → AX q → A0 q)
    (kx : ∀ (E : String) (ce : Cell) (q9 : Addr) (u : SX) (t : State) (H1 : Heap) (locs1 : List Loc), t.heap = H1 → s.vm.Alike t.vm → px u → BX E u t → H.size ≤ H1.size → (∀ q : Nat, q < H.size → ¬ AX q → H1[q]? = H[q]?) → va_S A0 H0 H1 locs1 → H1[q9]? = some ce → ce.vm = .none → s.vm.findClass E = some ce.cls → vx_W p l e R s m args below meth c H1 locs1 (cells + mc) (slots + ms) Q (F0 m pc ls rest) q9)
    (kk : ∀ (r : UInt64) (u : S) (t : State) (H1 : Heap) (locs1 : List Loc), t.heap = H1 → s.vm.Alike t.vm → post r u → B u t → H.size ≤ H1.size → (∀ q : Nat, q < H.size → ¬ A1 q → H1[q]? = H[q]?) → va_S A0 H0 H1 locs1 → W p l e R s m args below meth c H1 locs1 (cells + mc) (slots + ms) Q (F0 m (pc + 3) ls (.double r :: rest))) : W p l e R s m args below meth c H locs cells slots Q (F0 m pc ls st0) := by
  intro T hT X
  rcases hr T hT X with ⟨v, st₀, t, T', L, h0, X', hL, e1, e2, ⟨⟨r, u, hv, hp, hb⟩, hF⟩, st⟩ | ⟨q, st₀, t, T', L, E, ce, h0, X', hL, e1, e2, ⟨u, hp, hb, hF⟩, hce, hcv, hcl, st⟩
  · cases hv
    obtain ⟨k1, k2, k3⟩ := vx_keep h0 e1 hS hA hf hL hF
    obtain ⟨t2, a1, b1⟩ := kk r u t T'.heap (locs ++ L) e1.symm (by rw [← e2]; exact X'.warmed.alike) hp hb k1 k2 k3 T' rfl X'
    exact ⟨t2, st t2 a1, b1⟩
  · obtain ⟨k1, k2, k3⟩ := vx_keep h0 e1 hS hAX hf hL hF
    obtain ⟨t2, a1, b1⟩ := kx E ce q u t T'.heap (locs ++ L) e1.symm (by rw [← e2]; exact X'.warmed.alike) hp hb k1 k2 k3 (by rw [e1]; exact hce) hcv hcl T' rfl X'
    exact ⟨t2, st.trans a1, b1⟩
theorem vx_callv {S SX : Type} {post : S → Prop} {px : SX → Prop} {B : S → State → Prop} {BX : String → SX → State → Prop} {AX : Nat → Prop} (hr : vx_Run p l e R s m args below meth c H locs cells slots mc ms (F0 m pc ls st0) rest (va_Qv post B A1 a) (vx_X px BX AX) free) (hS : va_S A0 H0 H locs) (hA : ∀ q, q < H.size → A1 q → A0 q) (hf : ∀ q, free q → A0 q) (hAX : ∀ q, q < H.size → AX q → A0 q)
    (kx : ∀ (E : String) (ce : Cell) (q9 : Addr) (u : SX) (t : State) (H1 : Heap) (locs1 : List Loc), t.heap = H1 → s.vm.Alike t.vm → px u → BX E u t → H.size ≤ H1.size → (∀ q : Nat, q < H.size → ¬ AX q → H1[q]? = H[q]?) → va_S A0 H0 H1 locs1 → H1[q9]? = some ce → ce.vm = .none → s.vm.findClass E = some ce.cls → vx_W p l e R s m args below meth c H1 locs1 (cells + mc) (slots + ms) Q (F0 m pc ls rest) q9)
    (kk : ∀ (u : S) (t : State) (H1 : Heap) (locs1 : List Loc), t.heap = H1 → s.vm.Alike t.vm → post u → B u t → H.size ≤ H1.size → (∀ q : Nat, q < H.size → ¬ A1 q → H1[q]? = H[q]?) → va_S A0 H0 H1 locs1 → W p l e R s m args below meth c H1 locs1 (cells + mc) (slots + ms) Q (F0 m (pc + 3) ls (rest))) : W p l e R s m args below meth c H locs cells slots Q (F0 m pc ls st0) := by
  intro T hT X
  rcases hr T hT X with ⟨v, st₀, t, T', L, h0, X', hL, e1, e2, ⟨⟨u, hv, hp, hb⟩, hF⟩, st⟩ | ⟨q, st₀, t, T', L, E, ce, h0, X', hL, e1, e2, ⟨u, hp, hb, hF⟩, hce, hcv, hcl, st⟩
  · cases hv
    obtain ⟨k1, k2, k3⟩ := vx_keep h0 e1 hS hA hf hL hF
    obtain ⟨t2, a1, b1⟩ := kk u t T'.heap (locs ++ L) e1.symm (by rw [← e2]; exact X'.warmed.alike) hp hb k1 k2 k3 T' rfl X'
    exact ⟨t2, st t2 a1, b1⟩
  · obtain ⟨k1, k2, k3⟩ := vx_keep h0 e1 hS hAX hf hL hF
    obtain ⟨t2, a1, b1⟩ := kx E ce q u t T'.heap (locs ++ L) e1.symm (by rw [← e2]; exact X'.warmed.alike) hp hb k1 k2 k3 (by rw [e1]; exact hce) hcv hcl T' rfl X'
    exact ⟨t2, st.trans a1, b1⟩
/-- caught by the row x of this method's table; the rows ahead don't take it -/
theorem vx_catch {own name : String} {E : String} {ce : Cell} {q : Addr} (hown : s.vm.findClass own = some m.cls) (pre : List ExceptionTableEntry) (x : ExceptionTableEntry) (suf : List ExceptionTableEntry) (hsplit : c.exceptionTable.toList = pre ++ x :: suf)
    (hpass : ∀ z ∈ pre, covers z pc = false ∨ (z.catchType ≠ 0 ∧ ∃ nm : String, (Cond.classLink own z.catchType nm).before args s = true ∧ va_Nc E nm s)) (hx : covers x pc = true) (h0 : x.catchType ≠ 0)
    (hlink : (Cond.classLink own x.catchType name).before args s = true) (hcast : (Cond.castable E name).before args s = true) (hcell : H[q]? = some ce) (hv : ce.vm = .none) (hcl : s.vm.findClass E = some ce.cls)
    (kk : W p l e R s m args below meth c H locs cells slots Q (F0 m x.handlerPc ls [.ref q])) : vx_W p l e R s m args below meth c H locs cells slots Q (F0 m pc ls rest) q := by
  intro T hT X
  have hpl : e.platform.magicAccessors = ({} : Platform).magicAccessors := by rw [X.admits.platform]
  obtain ⟨c3, c4, hc3, hc4, hasg⟩ := Cond.castable_spec hcast
  cases Option.some.inj (hc3.symm.trans hcl)
  obtain ⟨c5, hc5, hcl5⟩ := Cond.classLink_spec hown hlink e.platform hpl
  cases Option.some.inj (hc4.symm.trans hc5)
  obtain ⟨vm', X', st⟩ := X.thenCaughtThrough q (g := F0 m pc ls rest) rfl (Steps.refl _) (by rw [hT]; exact hcell) (by rw [hv]; rfl) (by obtain ⟨k9, h9, -⟩ := Vm.findClass_spec hcl; exact ⟨k9, h9⟩) pre x suf hsplit
    (fun z hz => by
      rcases hpass z hz with h | ⟨hz0, nm, hl1, hn1⟩
      · exact Or.inl h
      · obtain ⟨c6, hc6, hcl6⟩ := Cond.classLink_spec hown hl1 e.platform hpl
        obtain ⟨a8, b8, h1, h2, h3⟩ := hn1
        cases Option.some.inj (h1.symm.trans hcl)
        cases Option.some.inj (h2.symm.trans hc6)
        exact Or.inr ⟨hz0, _, hcl6, h3⟩) hx (Or.inr ⟨h0, c4, hcl5, hasg⟩)
  obtain ⟨t, a1, b1⟩ := kk (T.setVm vm') hT X'
  exact ⟨t, st.trans a1, b1⟩
end Rows
section Ends
variable {p : Program} {l : Launch} {e : Env} {R : Room} {s : State} {m : MethodId} {args : Array Value} {below : List Frame} {meth : Method} {c : Code} {H : Heap} {locs : List Loc} {cells slots : Nat} {Q : State → Prop}
variable {mc ms : Nat} {free : Addr → Prop} {A0 A1 : Nat → Prop} {H0 : Heap} {a : Array Value} {ls : Array Slot} {st0 rest : List Value}
variable {Qc : Array Value → State → Outcome → State → Prop} {XC : String → State → State → Prop}
/-- what a body that may throw owes at its end -/
def vx_MQ (below : List Frame) (Qc : Array Value → State → Outcome → State → Prop) (XC : String → State → State → Prop) (a : Array Value) (s : State) (mc ms : Nat) (free : Addr → Prop) : State → Prop := fun t =>
  ∃ o, t.status = .running ∧ Ended t below o ∧ vx_Q Qc XC mc ms free a s o t
theorem vx_ret {g : JFrame} {mc ms : Nat} (k : W p l e R s m args below meth c H locs cells slots (MQ below Qc args s mc ms free) g) : W p l e R s m args below meth c H locs cells slots (vx_MQ below Qc XC args s mc ms free) g := by
  intro T hT X
  obtain ⟨t, a1, o, b1, b2, b3, b4⟩ := k T hT X
  exact ⟨t, a1, o, b1, b2, Or.inl ⟨b3, b4⟩⟩
/-- not caught here: it goes on to the caller -/
theorem vx_widen {g : JFrame} {q : Addr} {k n : Nat} (h1 : cells ≤ k) (h2 : slots ≤ n) (kk : vx_W p l e R s m args below meth c H locs k n Q g q) : vx_W p l e R s m args below meth c H locs cells slots Q g q := fun T hT X => kk T hT (stand_widen X h1 h2)
theorem vx_out {pc : Nat} {E : String} {ce : Cell} {q : Addr} {mc ms : Nat} (hout : ∀ x ∈ c.exceptionTable.toList, covers x pc = false) (hlocks : meth.locks = false) (hcell : H[q]? = some ce) (hv : ce.vm = .none) (hcl : s.vm.findClass E = some ce.cls)
    (hx : ∀ t : State, t.heap = H → s.vm.Alike t.vm → XC E s t) (hf : ∀ z ∈ locs, free z.base) (hc : cells ≤ mc) (hs : slots ≤ ms) :
    vx_W p l e R s m args below meth c H locs cells slots (vx_MQ below Qc XC args s mc ms free) (F0 m pc ls rest) q := by
  intro T hT X
  obtain ⟨st1, hrun, hend, hW, hsm⟩ := X.leaveThrown q (g := F0 m pc ls rest) rfl rfl rfl hout hlocks
  have hcell9 : (T.setFrames (.throwing q :: below)).heap[q]? = some ce := by
    show T.heap[q]? = some ce
    rw [hT]; exact hcell
  exact ⟨_, st1, .threw q, hrun, hend, Or.inr ⟨q, rfl, E, ce, locs, hx _ hT hW.alike, hcell9, hv, hcl, hW, hsm.mono hc hs, hf⟩⟩
theorem vx_frame {U : State} {k n : Nat} (h : s.sameButNew ({ U with vm := s.vm } : State) locs k n) : s.heap.size ≤ U.heap.size ∧ ∀ q : Nat, q < s.heap.size → (∀ z ∈ locs, z.base ≠ q) → U.heap[q]? = s.heap[q]? := by
  obtain ⟨-, h2, -, -, -, h6⟩ := h
  refine ⟨h2, fun q hq hz => ?_⟩
  obtain ⟨c9, e1, e2, e3, e4⟩ := h6 q _ (Array.getElem?_eq_getElem hq)
  have hs : c9.slots = (s.heap[q]).slots := Array.ext_getElem? fun i => e4 i fun hm => hz _ hm rfl
  have h9 : c9 = s.heap[q] := by
    rw [hs] at e2
    exact e2
  have e5 : U.heap[q]? = some c9 := e1
  rw [e5, h9, Array.getElem?_eq_getElem hq]
/-- the words of a throw but the four that speak of the heap -/
def vx_no (w : Cond) : Bool := decide (w ≠ .isRef (.static Bundle.tN "UNASSIGNED_STACK" Bundle.steD)) && decide (w ≠ .isRef (.static Bundle.tN "SUPPRESSED_SENTINEL" Bundle.listD)) && decide (w ≠ .laysStatic Bundle.tN "UNASSIGNED_STACK" Bundle.steD) && decide (w ≠ .laysStatic Bundle.tN "SUPPRESSED_SENTINEL" Bundle.listD)
def vx_at0 (own : String) (ic : Nat) (X : String) (names : List String) : List Cond := (Bundle.ownAtoms0 own ic X names).filter vx_no
def vx_atS (own : String) (ic : Nat) (X : String) (names : List String) : List Cond := (Bundle.ownAtoms own ic X names).filter vx_no
/-- a word that the tables alone decide, or a good one -/
def vx_ot (w : Cond) : Bool := w.onTables || goodWord w
theorem vx_ot_at {args a' : Array Value} {s U : State} {w : Cond} (hW : s.WarmedH U.vm) (hvm : s.vm = U.vm) (hg : vx_ot w = true) (h : w.before args s = true) : w.before a' U = true := by
  simp only [vx_ot, Bool.or_eq_true] at hg
  rcases hg with hg | hg
  · exact va_tabs hg hvm h
  · exact word_at hW (good_of_word hg) h
/-- a list's words: the good ones out of the method's own list, the others by premises of their own -/
theorem vx_hat {args : Array Value} {s : State} {L B : List Cond} (h1 : ∀ w ∈ L.filter goodWord, w.before args s = true) (h2 : ∀ w ∈ L.filter (fun w => !goodWord w), w ∈ B) (h3 : ∀ w ∈ B, w.before args s = true) : ∀ w ∈ L, w.before args s = true := by
  intro w hw
  by_cases g : goodWord w = true
  · exact h1 w (List.mem_filter.mpr ⟨hw, g⟩)
  · refine h3 w (h2 w (List.mem_filter.mpr ⟨hw, ?_⟩))
    show (!goodWord w) = true
    cases hgw : goodWord w
    · rfl
    · exact absurd hgw g
theorem vx_c {args : Array Value} {s : State} {w : Cond} {B : List Cond} (h : w.before args s = true) (t : ∀ w ∈ B, w.before args s = true) : ∀ w' ∈ w :: B, w'.before args s = true := fun w' h' => (List.mem_cons.mp h').elim (fun e => by rw [e]; exact h) (t w')
theorem vx_n {args : Array Value} {s : State} : ∀ w ∈ ([] : List Cond), w.before args s = true := fun _ h => nomatch h
theorem vx_own {args : Array Value} {s : State} {L : List Cond} (h1 : ∀ w ∈ L.filter vx_no, w.before args s = true)
    (hU : (Cond.isRef (.static Bundle.tN "UNASSIGNED_STACK" Bundle.steD)).before args s = true) (hN : (Cond.isRef (.static Bundle.tN "SUPPRESSED_SENTINEL" Bundle.listD)).before args s = true)
    (lU : (Cond.laysStatic Bundle.tN "UNASSIGNED_STACK" Bundle.steD).before args s = true) (lN : (Cond.laysStatic Bundle.tN "SUPPRESSED_SENTINEL" Bundle.listD).before args s = true) : ∀ w ∈ L, w.before args s = true := by
  intro w hw
  by_cases e1 : w = .isRef (.static Bundle.tN "UNASSIGNED_STACK" Bundle.steD)
  · rw [e1]; exact hU
  · by_cases e2 : w = .isRef (.static Bundle.tN "SUPPRESSED_SENTINEL" Bundle.listD)
    · rw [e2]; exact hN
    · by_cases e3 : w = .laysStatic Bundle.tN "UNASSIGNED_STACK" Bundle.steD
      · rw [e3]; exact lU
      · by_cases e4 : w = .laysStatic Bundle.tN "SUPPRESSED_SENTINEL" Bundle.listD
        · rw [e4]; exact lN
        · exact h1 w (List.mem_filter.mpr ⟨hw, by unfold vx_no; rw [decide_eq_true e1, decide_eq_true e2, decide_eq_true e3, decide_eq_true e4]; rfl⟩)
/-- where a static field lies, its class's statics cell in H -/
def vx_L (C n d : String) (A : Nat → Prop) (U : State) (H : Heap) : Prop := ∃ (c : ClassId) (k : Class) (i : Nat) (f : Field) (a : Nat) (cell : Cell), U.vm.findClass C = some c ∧ U.fieldFound? C n d = some (c, k, i, f) ∧ f.isStatic = true ∧ k.statics = some a ∧ H[a]? = some cell ∧ cell.vm.isStatics = true ∧ cell.cls = c ∧ f.slot < cell.slots.size ∧ k.staticTypes[f.slot]? = some f.type ∧ ¬ A a
theorem vx_L.moved {C n d : String} {A : Nat → Prop} {u U : State} {H : Heap} (hvm : u.vm.Alike U.vm) (h : vx_L C n d A u H) : vx_L C n d A U H := by
  obtain ⟨c, k, i, f, a, cell, h1, h2, h3, h4, h5, h6, h7, h8, h9, h10⟩ := h
  obtain ⟨k', hi', he⟩ := State.fieldFound?_setVm hvm h2
  exact ⟨c, k', i, f, a, cell, by rw [hvm.findClass]; exact h1, hi', h3, by rw [he]; exact h4, h5, h6, h7, h8, by rw [he]; exact h9, h10⟩
theorem vx_L.kept {C n d : String} {A : Nat → Prop} {U : State} {H H1 : Heap} (h : vx_L C n d A U H) (hq : ∀ a : Nat, a < H.size → ¬ A a → H1[a]? = H[a]?) : vx_L C n d A U H1 := by
  obtain ⟨c, k, i, f, a, cell, h1, h2, h3, h4, h5, h6, h7, h8, h9, h10⟩ := h
  exact ⟨c, k, i, f, a, cell, h1, h2, h3, h4, by rw [hq a (Array.getElem?_eq_some_iff.mp h5).1 h10]; exact h5, h6, h7, h8, h9, h10⟩
theorem vx_L.narrow {C n d : String} {A B : Nat → Prop} {U : State} {H : Heap} (h : vx_L C n d A U H) (hAB : ∀ q, B q → A q) : vx_L C n d B U H := by
  obtain ⟨c, k, i, f, a, cell, h1, h2, h3, h4, h5, h6, h7, h8, h9, h10⟩ := h
  exact ⟨c, k, i, f, a, cell, h1, h2, h3, h4, h5, h6, h7, h8, h9, fun z => h10 (hAB _ z)⟩
theorem vx_L.word {C n d : String} {A : Nat → Prop} {s : State} {args : Array Value} (h : vx_L C n d A s s.heap) : (Cond.laysStatic C n d).before args s = true := by
  obtain ⟨c, k, i, f, a, cell, h1, h2, h3, h4, h5, h6, h7, h8, h9, -⟩ := h
  show (Cond.laysStatic C n d).holds args s none s [] = true
  exact Cond.laysStatic_of h1 h2 h3 h4 h5 h6 h7 h8 h9
/-- .. and what it holds: null or some reference -/
def vx_Zq (C n d : String) (A : Nat → Prop) (U : State) (H : Heap) : Prop := va_Zq C n d A U H ∧ vx_L C n d A U H
theorem vx_Zq.moved {C n d : String} {A : Nat → Prop} {u U : State} {H : Heap} (hvm : u.vm.Alike U.vm) (h : vx_Zq C n d A u H) : vx_Zq C n d A U H := ⟨va_Zq.moved hvm h.1, vx_L.moved hvm h.2⟩
theorem vx_Zq.kept {C n d : String} {A : Nat → Prop} {U : State} {H H1 : Heap} (h : vx_Zq C n d A U H) (hq : ∀ a : Nat, a < H.size → ¬ A a → H1[a]? = H[a]?) : vx_Zq C n d A U H1 := ⟨va_Zq.kept h.1 hq, vx_L.kept h.2 hq⟩
theorem vx_Zq.narrow {C n d : String} {A B : Nat → Prop} {U : State} {H : Heap} (h : vx_Zq C n d A U H) (hAB : ∀ q, B q → A q) : vx_Zq C n d B U H := ⟨va_Zq.narrow h.1 hAB, vx_L.narrow h.2 hAB⟩
theorem vx_Zqof {args : Array Value} {s : State} {C n d : String} {A : Nat → Prop} (hl : (Cond.laysStatic C n d).before args s = true) (hini : (Cond.initialized C).before args s = true) (h : (Cond.isRef (.static C n d)).before args s = true) (hA : ∀ a : Nat, a < s.heap.size → ¬ A a) : vx_Zq C n d A s s.heap := by
  refine ⟨va_Zqof hl hini h hA, ?_⟩
  obtain ⟨c, k, i, f, a, cell, h1, h2, h3, h4, h5, h6, h7, h8, h9⟩ := Cond.laysStatic_spec hl
  exact ⟨c, k, i, f, a, cell, h1, h2, h3, h4, h5, h6, h7, h8, h9, hA a (Array.getElem?_eq_some_iff.mp h5).1⟩
theorem vx_isRef {C n d : String} {v : Value} {A : Nat → Prop} {s : State} {args : Array Value} (h : va_Z C n d v A s s.heap) (hv : v.isRef = true) : (Cond.isRef (.static C n d)).before args s = true := by
  obtain ⟨cf, kf, fi, f, a, cell, h1, h2, h3, h4, h5, h6, h7, -⟩ := h
  have he : (Term.static C n d).eval args s none [] s = some v := by
    simp [Term.eval, State.fieldNamed?, h1, h2, h4, h5, h6, h7]
  simp only [Cond.before, Cond.holds, Cond.value, he]
  cases v <;> simp_all [Value.isRef]
theorem vx_isRefq {C n d : String} {A : Nat → Prop} {s : State} {args : Array Value} (h : va_Zq C n d A s s.heap) : (Cond.isRef (.static C n d)).before args s = true := by
  rcases h with h | ⟨t, h⟩
  · exact vx_isRef h rfl
  · exact vx_isRef h rfl
/-- the same frame, seen from here: as if the method were called anew in this heap -/
theorem vx_rebase {T : State} (X : Stand p l e R s m args below meth c T locs cells slots) {R' : Room} (hf : R'.frames ≤ R.frames) (hl : R'.locals ≤ R.locals) (hc : cells + R'.cells ≤ R.cells) (hs : slots + R'.slots ≤ R.slots) :
    Stand p l e R' ((T.setVm s.vm).setFrames (.invoking m args :: below)) m args below meth c T [] 0 0 := by
  have htop : (T.setVm s.vm).topJava?.isSome := X.here.top
  have hF : ((T.setVm s.vm).setFrames (.invoking m args :: below)).frames = .invoking m args :: below := State.frames_setFrames _ (State.cur_lt_of_top htop)
  obtain ⟨g₀, hg0⟩ := Option.isSome_iff_exists.mp htop
  obtain ⟨r, hr⟩ := State.topJava?_eq_some.mp hg0
  have hl9 : e.platform.stackLimits (T.setVm s.vm).me = e.platform.stackLimits s.me := X.limits
  have hb9 : (T.setVm s.vm).me.stackBytes = s.me.stackBytes := X.bytes
  refine ⟨X.admits, X.cas, X.clock, hF, ?_, X.hears, X.method, X.code, X.here, X.tail, X.warmed, ?_, ?_, ?_⟩
  · have h := X.room
    have hU : ((T.setVm s.vm).setFrames (.invoking m args :: below)).localsInUse = s.localsInUse := by
      rw [State.localsInUse_invoking hF (meth := meth) (c := c) X.method X.code, State.localsInUse_invoking X.frames X.method X.code]
    simp only [State.hasRoom, Bool.and_eq_true, decide_eq_true_eq] at h ⊢
    obtain ⟨⟨⟨⟨h1, h2, h3, h4, h5, h6⟩, h7⟩, h8⟩, h9⟩ := h
    rw [X.frames, List.length_cons] at h2 h3
    have q1 := X.heapSize
    have q2 := X.used
    simp only [hF, hU, List.length_cons, State.stackLimits_setFrames, State.stackBytes_setFrames, hl9, hb9]
    refine ⟨⟨⟨⟨by omega, by omega, by omega, by omega, by omega, h6⟩, ?_⟩, ?_⟩, X.book⟩
    · show T.heap.size + R'.cells ≤ e.platform.maxCells
      omega
    · show T.slotsUsed + R'.slots ≤ e.platform.maxSlots
      omega
  · rw [State.stackLimits_setFrames]; rfl
  · rw [State.stackBytes_setFrames]; rfl
  · refine ⟨?_, Nat.le_refl _, Nat.le_refl _, ?_, ?_, fun a c9 h9 => ⟨c9, h9, rfl, rfl, fun _ _ => rfl⟩⟩
    · obtain ⟨t, ht, -⟩ := State.frames_cons hr
      show T.setVm s.vm = { ((T.setVm s.vm).setFrames (.invoking m args :: below)).setFrames (T.setVm s.vm).frames with heap := T.heap, slotsUsed := T.slotsUsed }
      rw [State.setFrames_setFrames, State.setFrames_self ht]
      rfl
    · show T.slotsUsed = T.slotsUsed + ((T.heap.toList.drop T.heap.size).map (·.slots.size)).sum
      rw [List.drop_eq_nil_of_le (Nat.le_of_eq Array.length_toList)]
      rfl
    · show ((T.heap.toList.drop T.heap.size).map (·.slots.size)).sum ≤ 0
      rw [List.drop_eq_nil_of_le (Nat.le_of_eq Array.length_toList)]
      exact Nat.le_refl _
/-- 'throw new E()': new; dup; invokespecial; athrow -/
theorem vx_throw0 {cc : ByteArray} {pc : Nat} (hexec : p.tables.exec = Jvm.exec) (hb : c.code = cc) (hl : l.stackTraces = false) {own cls : String} {names : List String} {ik ic mc ms : Nat} {A : Nat → Prop}
    (hown : s.vm.findClass own = some m.cls) (hcls : Bundle.fit cls = true) (hnames : ∀ n ∈ names, Bundle.fit n = true)
    (hk : (Cond.classLink own ik cls).before args s = true) (hini : (Cond.initialized cls).before args s = true) (hat : ∀ w ∈ vx_at0 own ic cls names, w.before args s = true)
    (hgood : ∀ w ∈ Cond.classLink own ik cls :: Cond.initialized cls :: vx_at0 own ic cls names, vx_ot w = true)
    (hU : vx_Zq Bundle.tN "UNASSIGNED_STACK" Bundle.steD A s s.heap) (hN : vx_Zq Bundle.tN "SUPPRESSED_SENTINEL" Bundle.listD A s s.heap) (hS : va_S A s.heap H locs) (hsize : ls.size = c.maxLocals)
    (d0 : decode cc pc = .ok (.new ik, 3)) (d3 : decode cc (pc + 3) = .ok (.dup, 1)) (d4 : decode cc (pc + 4) = .ok (.invokespecial ic, 3)) (d7 : decode cc (pc + 7) = .ok (.athrow, 1))
    (hout : ∀ x ∈ c.exceptionTable.toList, covers x (pc + 7) = false)
    (hRframes : names.length + 3 < R.frames) (hRlocals : (rest.map fun v => v.category).sum + (13 * (names.length + 1) + 42) ≤ R.locals) (hRcells : cells + 1 ≤ R.cells) (hRslots : slots + 6 ≤ R.slots) (hlocks : meth.locks = false)
    (hx : ∀ t : State, s.vm.Alike t.vm → H.size ≤ t.heap.size → (∀ q : Nat, q < H.size → t.heap[q]? = H[q]?) → XC cls s t)
    (hf : ∀ z ∈ locs, free z.base) (hc : cells + 1 ≤ mc) (hs : slots + 6 ≤ ms) :
    W p l e R s m args below meth c H locs cells slots (vx_MQ below Qc XC args s mc ms free) (F0 m pc ls rest) := by
  intro T hT X
  have htr : e.platform.stackTraces = false := (show e.platform.stackTraces = l.stackTraces by rw [X.admits.platform]).trans hl
  have Y := vx_rebase X (R' := { frames := R.frames, locals := R.locals, cells := 1, slots := 6 }) (Nat.le_refl _) (Nat.le_refl _) hRcells hRslots
  obtain ⟨s', hA⟩ : ∃ z, z = (T.setVm s.vm).setFrames (.invoking m args :: below) := ⟨_, rfl⟩
  rw [← hA] at Y
  have hvm : s'.vm = s.vm := by rw [hA]; rfl
  have hhp : s'.heap = H := by rw [hA]; exact hT
  have hW0 : s.WarmedH s'.vm := by rw [hvm]; exact State.WarmedH.refl s
  have hat' : ∀ w ∈ vx_at0 own ic cls names, w.before args s' = true := fun w hw => vx_ot_at hW0 hvm.symm (hgood w (List.mem_cons_of_mem _ (List.mem_cons_of_mem _ hw))) (hat w hw)
  have hk' : (Cond.classLink own ik cls).before args s' = true := vx_ot_at hW0 hvm.symm (hgood _ List.mem_cons_self) hk
  have hini' : (Cond.initialized cls).before args s' = true := vx_ot_at hW0 hvm.symm (hgood _ (List.mem_cons_of_mem _ List.mem_cons_self)) hini
  have hU' : vx_Zq Bundle.tN "UNASSIGNED_STACK" Bundle.steD A s' s'.heap := by rw [hhp]; exact vx_Zq.moved hW0.alike (hU.kept hS.2.1)
  have hN' : vx_Zq Bundle.tN "SUPPRESSED_SENTINEL" Bundle.listD A s' s'.heap := by rw [hhp]; exact vx_Zq.moved hW0.alike (hN.kept hS.2.1)
  have h : ∀ w ∈ Bundle.ownAtoms0 own ic cls names, w.before args s' = true := vx_own hat' (vx_isRefq hU'.1) (vx_isRefq hN'.1) hU'.2.word hN'.2.word
  have hown' : s'.vm.findClass own = some m.cls := by rw [hvm]; exact hown
  have hins : (Cond.instantiable cls 6).before args s' = true := h _ (by simp [Bundle.ownAtoms0])
  obtain ⟨vm₁, cX, kX, hfX, hkX, -, -, X₁, st1⟩ := Y.newCold hexec (own := own) (C := cls) (index := ik) (n := 6) hown' hk' hins hini'
    (g := F0 m pc ls rest) rfl (by rw [hb]; exact d0) (Nat.le_refl _) (Nat.le_refl _)
  generalize hT1 : (T.setVm vm₁).pushCell { cls := cX, slots := kX.instanceTypes.map defaultValue, vm := .none } = T1 at X₁ st1
  have hcat : (Value.ref T.heap.size).category = 1 := rfl
  have hcellA : T1.heap[T.heap.size]? = some (freshCell cX kX) := by rw [← hT1]; exact State.heap_pushCell_size _ _
  have d3' : decode c.code (pc + 3) = .ok (.dup, 1) := by rw [hb]; exact d3
  obtain ⟨U, hsteps, hrun, hend, hW, hsame, ce, hce, hO⟩ := X₁.ctorThrow0 hexec htr (own := own) (cls := cls) (names := names) (ic := ic) hown' hcls hnames h (fun x hx => nomatch hx) hfX hkX hcellA (by rw [hhp, hT]; exact Nat.le_refl _)
    (g := { method := m, pc := pc + 4, locals := ls, stack := .ref T.heap.size :: .ref T.heap.size :: rest, locked := none }) rfl hsize rfl rfl (rest := rest) rfl
    (by rw [hb]; exact d4) (by rw [hb]; exact d7) hout hRframes (by simp only [List.map_cons, List.sum_cons, hcat]; omega) hlocks
  obtain ⟨f1, f2⟩ := vx_frame hsame
  rw [hhp] at f1 f2
  have hWs : s.WarmedH U.vm := State.WarmedH.trans hW0 hW
  have hcl : s.vm.findClass cls = some ce.cls := by
    have h9 := hO.cls
    rw [hvm] at h9
    exact h9
  have hall : s.sameButNew ({ U with vm := s.vm } : State) locs mc ms := by
    subst hA
    obtain ⟨e1, e2⟩ := hsame
    rw [State.setFrames_setFrames] at e1
    have h2 : (T.setVm s.vm).sameButNew ({ U with vm := s.vm } : State) [] (0 + 1) (0 + 6) := ⟨e1, e2⟩
    have h3 := X.same.trans h2
    rw [List.append_nil] at h3
    exact h3.mono hc hs
  refine ⟨U, ?_, .threw T.heap.size, hrun, hend, Or.inr ⟨T.heap.size, rfl, cls, ce, locs, hx U hWs.alike f1 (fun q hq => f2 q hq (fun z hz => nomatch hz)), hce, hO.vm, hcl, hWs, hall, hf⟩⟩
  refine st1 _ ?_
  show Steps p.tables e below (T1.setTop { method := m, pc := pc + 3, locals := ls, stack := .ref T.heap.size :: rest, locked := none }) _
  jvm_step X₁.here [X₁.here.top, hexec, d3', Value.category]
  exact hsteps
/-- 'throw new E("text")': new; dup; ldc; invokespecial; athrow -/
theorem vx_throwS {cc : ByteArray} {pc : Nat} (hexec : p.tables.exec = Jvm.exec) (hb : c.code = cc) (hl : l.stackTraces = false) {own cls text : String} {names : List String} {ik is ic mc ms sa : Nat} {A : Nat → Prop}
    (hown : s.vm.findClass own = some m.cls) (hcls : Bundle.fit cls = true) (hnames : ∀ n ∈ names, Bundle.fit n = true)
    (hk : (Cond.classLink own ik cls).before args s = true) (hini : (Cond.initialized cls).before args s = true) (hstr : vk_R own is text sa s) (hat : ∀ w ∈ vx_atS own ic cls names, w.before args s = true)
    (hgood : ∀ w ∈ Cond.classLink own ik cls :: Cond.initialized cls :: vx_atS own ic cls names, vx_ot w = true)
    (hU : vx_Zq Bundle.tN "UNASSIGNED_STACK" Bundle.steD A s s.heap) (hN : vx_Zq Bundle.tN "SUPPRESSED_SENTINEL" Bundle.listD A s s.heap) (hS : va_S A s.heap H locs) (hsize : ls.size = c.maxLocals)
    (d0 : decode cc pc = .ok (.new ik, 3)) (d3 : decode cc (pc + 3) = .ok (.dup, 1)) (d4 : decode cc (pc + 4) = .ok (.ldc is, 2)) (d6 : decode cc (pc + 6) = .ok (.invokespecial ic, 3)) (d9 : decode cc (pc + 9) = .ok (.athrow, 1))
    (hout : ∀ x ∈ c.exceptionTable.toList, covers x (pc + 9) = false)
    (hRframes : names.length + 3 < R.frames) (hRlocals : (rest.map fun v => v.category).sum + (13 * (names.length + 1) + 43) ≤ R.locals) (hRcells : cells + 1 ≤ R.cells) (hRslots : slots + 6 ≤ R.slots) (hlocks : meth.locks = false)
    (hx : ∀ t : State, s.vm.Alike t.vm → H.size ≤ t.heap.size → (∀ q : Nat, q < H.size → t.heap[q]? = H[q]?) → XC cls s t)
    (hf : ∀ z ∈ locs, free z.base) (hc : cells + 1 ≤ mc) (hs : slots + 6 ≤ ms) :
    W p l e R s m args below meth c H locs cells slots (vx_MQ below Qc XC args s mc ms free) (F0 m pc ls rest) := by
  intro T hT X
  have htr : e.platform.stackTraces = false := (show e.platform.stackTraces = l.stackTraces by rw [X.admits.platform]).trans hl
  have Y := vx_rebase X (R' := { frames := R.frames, locals := R.locals, cells := 1, slots := 6 }) (Nat.le_refl _) (Nat.le_refl _) hRcells hRslots
  obtain ⟨s', hA⟩ : ∃ z, z = (T.setVm s.vm).setFrames (.invoking m args :: below) := ⟨_, rfl⟩
  rw [← hA] at Y
  have hvm : s'.vm = s.vm := by rw [hA]; rfl
  have hhp : s'.heap = H := by rw [hA]; exact hT
  have hW0 : s.WarmedH s'.vm := by rw [hvm]; exact State.WarmedH.refl s
  have hat' : ∀ w ∈ vx_atS own ic cls names, w.before args s' = true := fun w hw => vx_ot_at hW0 hvm.symm (hgood w (List.mem_cons_of_mem _ (List.mem_cons_of_mem _ hw))) (hat w hw)
  have hk' : (Cond.classLink own ik cls).before args s' = true := vx_ot_at hW0 hvm.symm (hgood _ List.mem_cons_self) hk
  have hini' : (Cond.initialized cls).before args s' = true := vx_ot_at hW0 hvm.symm (hgood _ (List.mem_cons_of_mem _ List.mem_cons_self)) hini
  have hU' : vx_Zq Bundle.tN "UNASSIGNED_STACK" Bundle.steD A s' s'.heap := by rw [hhp]; exact vx_Zq.moved hW0.alike (hU.kept hS.2.1)
  have hN' : vx_Zq Bundle.tN "SUPPRESSED_SENTINEL" Bundle.listD A s' s'.heap := by rw [hhp]; exact vx_Zq.moved hW0.alike (hN.kept hS.2.1)
  have h : ∀ w ∈ Bundle.ownAtoms own ic cls names, w.before args s' = true := vx_own hat' (vx_isRefq hU'.1) (vx_isRefq hN'.1) hU'.2.word hN'.2.word
  have hown' : s'.vm.findClass own = some m.cls := by rw [hvm]; exact hown
  have hins : (Cond.instantiable cls 6).before args s' = true := h _ (by simp [Bundle.ownAtoms])
  obtain ⟨vm₁, cX, kX, hfX, hkX, -, -, X₁, st1⟩ := Y.newCold hexec (own := own) (C := cls) (index := ik) (n := 6) hown' hk' hins hini'
    (g := F0 m pc ls rest) rfl (by rw [hb]; exact d0) (Nat.le_refl _) (Nat.le_refl _)
  generalize hT1 : (T.setVm vm₁).pushCell { cls := cX, slots := kX.instanceTypes.map defaultValue, vm := .none } = T1 at X₁ st1
  have hcat : (Value.ref T.heap.size).category = 1 := rfl
  have hcellA : T1.heap[T.heap.size]? = some (freshCell cX kX) := by rw [← hT1]; exact State.heap_pushCell_size _ _
  have d3' : decode c.code (pc + 3) = .ok (.dup, 1) := by rw [hb]; exact d3
  have d4' : decode c.code (pc + 4) = .ok (.ldc is, 2) := by rw [hb]; exact d4
  have hstr' : vk_R own is text sa s' := vk_R.warm hW0 hstr
  obtain ⟨U, hsteps, hrun, hend, hW, hsame, ce, hce, hO⟩ := X₁.ctorThrowS hexec htr (own := own) (cls := cls) (names := names) (ic := ic) hown' hcls hnames h (fun x hx => nomatch hx) hfX hkX hcellA (by rw [hhp, hT]; exact Nat.le_refl _) (msg := .ref sa) rfl
    (g := { method := m, pc := pc + 6, locals := ls, stack := .ref sa :: .ref T.heap.size :: .ref T.heap.size :: rest, locked := none }) rfl hsize rfl rfl (rest := rest) rfl
    (by rw [hb]; exact d6) (by rw [hb]; exact d9) hout hRframes (by simp only [List.map_cons, List.sum_cons, hcat]; omega) hlocks
  obtain ⟨f1, f2⟩ := vx_frame hsame
  rw [hhp] at f1 f2
  have hWs : s.WarmedH U.vm := State.WarmedH.trans hW0 hW
  have hcl : s.vm.findClass cls = some ce.cls := by
    have h9 := hO.cls
    rw [hvm] at h9
    exact h9
  have hall : s.sameButNew ({ U with vm := s.vm } : State) locs mc ms := by
    subst hA
    obtain ⟨e1, e2⟩ := hsame
    rw [State.setFrames_setFrames] at e1
    have h2 : (T.setVm s.vm).sameButNew ({ U with vm := s.vm } : State) [] (0 + 1) (0 + 6) := ⟨e1, e2⟩
    have h3 := X.same.trans h2
    rw [List.append_nil] at h3
    exact h3.mono hc hs
  refine ⟨U, ?_, .threw T.heap.size, hrun, hend, Or.inr ⟨T.heap.size, rfl, cls, ce, locs, hx U hWs.alike f1 (fun q hq => f2 q hq (fun z hz => nomatch hz)), hce, hO.vm, hcl, hWs, hall, hf⟩⟩
  refine st1 _ ?_
  show Steps p.tables e below (T1.setTop { method := m, pc := pc + 3, locals := ls, stack := .ref T.heap.size :: rest, locked := none }) _
  jvm_step X₁.here [X₁.here.top, hexec, d3', Value.category]
  exact X₁.ldcString hexec (own := own) (text := text) (index := is) (a := sa) hown' hstr'.1 hstr'.2
    (g := { method := m, pc := pc + 4, locals := ls, stack := .ref T.heap.size :: .ref T.heap.size :: rest, locked := none }) rfl d4' _ hsteps
/-- 'throw new E("text")', the text by a wide index -/
theorem vx_throwSW {cc : ByteArray} {pc : Nat} (hexec : p.tables.exec = Jvm.exec) (hb : c.code = cc) (hl : l.stackTraces = false) {own cls text : String} {names : List String} {ik is ic mc ms sa : Nat} {A : Nat → Prop}
    (hown : s.vm.findClass own = some m.cls) (hcls : Bundle.fit cls = true) (hnames : ∀ n ∈ names, Bundle.fit n = true)
    (hk : (Cond.classLink own ik cls).before args s = true) (hini : (Cond.initialized cls).before args s = true) (hstr : vk_R own is text sa s) (hat : ∀ w ∈ vx_atS own ic cls names, w.before args s = true)
    (hgood : ∀ w ∈ Cond.classLink own ik cls :: Cond.initialized cls :: vx_atS own ic cls names, vx_ot w = true)
    (hU : vx_Zq Bundle.tN "UNASSIGNED_STACK" Bundle.steD A s s.heap) (hN : vx_Zq Bundle.tN "SUPPRESSED_SENTINEL" Bundle.listD A s s.heap) (hS : va_S A s.heap H locs) (hsize : ls.size = c.maxLocals)
    (d0 : decode cc pc = .ok (.new ik, 3)) (d3 : decode cc (pc + 3) = .ok (.dup, 1)) (d4 : decode cc (pc + 4) = .ok (.ldc_w is, 3)) (d7 : decode cc (pc + 7) = .ok (.invokespecial ic, 3)) (d10 : decode cc (pc + 10) = .ok (.athrow, 1))
    (hout : ∀ x ∈ c.exceptionTable.toList, covers x (pc + 10) = false)
    (hRframes : names.length + 3 < R.frames) (hRlocals : (rest.map fun v => v.category).sum + (13 * (names.length + 1) + 43) ≤ R.locals) (hRcells : cells + 1 ≤ R.cells) (hRslots : slots + 6 ≤ R.slots) (hlocks : meth.locks = false)
    (hx : ∀ t : State, s.vm.Alike t.vm → H.size ≤ t.heap.size → (∀ q : Nat, q < H.size → t.heap[q]? = H[q]?) → XC cls s t)
    (hf : ∀ z ∈ locs, free z.base) (hc : cells + 1 ≤ mc) (hs : slots + 6 ≤ ms) :
    W p l e R s m args below meth c H locs cells slots (vx_MQ below Qc XC args s mc ms free) (F0 m pc ls rest) := by
  intro T hT X
  have htr : e.platform.stackTraces = false := (show e.platform.stackTraces = l.stackTraces by rw [X.admits.platform]).trans hl
  have Y := vx_rebase X (R' := { frames := R.frames, locals := R.locals, cells := 1, slots := 6 }) (Nat.le_refl _) (Nat.le_refl _) hRcells hRslots
  obtain ⟨s', hA⟩ : ∃ z, z = (T.setVm s.vm).setFrames (.invoking m args :: below) := ⟨_, rfl⟩
  rw [← hA] at Y
  have hvm : s'.vm = s.vm := by rw [hA]; rfl
  have hhp : s'.heap = H := by rw [hA]; exact hT
  have hW0 : s.WarmedH s'.vm := by rw [hvm]; exact State.WarmedH.refl s
  have hat' : ∀ w ∈ vx_atS own ic cls names, w.before args s' = true := fun w hw => vx_ot_at hW0 hvm.symm (hgood w (List.mem_cons_of_mem _ (List.mem_cons_of_mem _ hw))) (hat w hw)
  have hk' : (Cond.classLink own ik cls).before args s' = true := vx_ot_at hW0 hvm.symm (hgood _ List.mem_cons_self) hk
  have hini' : (Cond.initialized cls).before args s' = true := vx_ot_at hW0 hvm.symm (hgood _ (List.mem_cons_of_mem _ List.mem_cons_self)) hini
  have hU' : vx_Zq Bundle.tN "UNASSIGNED_STACK" Bundle.steD A s' s'.heap := by rw [hhp]; exact vx_Zq.moved hW0.alike (hU.kept hS.2.1)
  have hN' : vx_Zq Bundle.tN "SUPPRESSED_SENTINEL" Bundle.listD A s' s'.heap := by rw [hhp]; exact vx_Zq.moved hW0.alike (hN.kept hS.2.1)
  have h : ∀ w ∈ Bundle.ownAtoms own ic cls names, w.before args s' = true := vx_own hat' (vx_isRefq hU'.1) (vx_isRefq hN'.1) hU'.2.word hN'.2.word
  have hown' : s'.vm.findClass own = some m.cls := by rw [hvm]; exact hown
  have hins : (Cond.instantiable cls 6).before args s' = true := h _ (by simp [Bundle.ownAtoms])
  obtain ⟨vm₁, cX, kX, hfX, hkX, -, -, X₁, st1⟩ := Y.newCold hexec (own := own) (C := cls) (index := ik) (n := 6) hown' hk' hins hini'
    (g := F0 m pc ls rest) rfl (by rw [hb]; exact d0) (Nat.le_refl _) (Nat.le_refl _)
  generalize hT1 : (T.setVm vm₁).pushCell { cls := cX, slots := kX.instanceTypes.map defaultValue, vm := .none } = T1 at X₁ st1
  have hcat : (Value.ref T.heap.size).category = 1 := rfl
  have hcellA : T1.heap[T.heap.size]? = some (freshCell cX kX) := by rw [← hT1]; exact State.heap_pushCell_size _ _
  have d3' : decode c.code (pc + 3) = .ok (.dup, 1) := by rw [hb]; exact d3
  have d4' : decode c.code (pc + 4) = .ok (.ldc_w is, 3) := by rw [hb]; exact d4
  have hstr' : vk_R own is text sa s' := vk_R.warm hW0 hstr
  obtain ⟨U, hsteps, hrun, hend, hW, hsame, ce, hce, hO⟩ := X₁.ctorThrowS hexec htr (own := own) (cls := cls) (names := names) (ic := ic) hown' hcls hnames h (fun x hx => nomatch hx) hfX hkX hcellA (by rw [hhp, hT]; exact Nat.le_refl _) (msg := .ref sa) rfl
    (g := { method := m, pc := pc + 7, locals := ls, stack := .ref sa :: .ref T.heap.size :: .ref T.heap.size :: rest, locked := none }) rfl hsize rfl rfl (rest := rest) rfl
    (by rw [hb]; exact d7) (by rw [hb]; exact d10) hout hRframes (by simp only [List.map_cons, List.sum_cons, hcat]; omega) hlocks
  obtain ⟨f1, f2⟩ := vx_frame hsame
  rw [hhp] at f1 f2
  have hWs : s.WarmedH U.vm := State.WarmedH.trans hW0 hW
  have hcl : s.vm.findClass cls = some ce.cls := by
    have h9 := hO.cls
    rw [hvm] at h9
    exact h9
  have hall : s.sameButNew ({ U with vm := s.vm } : State) locs mc ms := by
    subst hA
    obtain ⟨e1, e2⟩ := hsame
    rw [State.setFrames_setFrames] at e1
    have h2 : (T.setVm s.vm).sameButNew ({ U with vm := s.vm } : State) [] (0 + 1) (0 + 6) := ⟨e1, e2⟩
    have h3 := X.same.trans h2
    rw [List.append_nil] at h3
    exact h3.mono hc hs
  refine ⟨U, ?_, .threw T.heap.size, hrun, hend, Or.inr ⟨T.heap.size, rfl, cls, ce, locs, hx U hWs.alike f1 (fun q hq => f2 q hq (fun z hz => nomatch hz)), hce, hO.vm, hcl, hWs, hall, hf⟩⟩
  refine st1 _ ?_
  show Steps p.tables e below (T1.setTop { method := m, pc := pc + 3, locals := ls, stack := .ref T.heap.size :: rest, locked := none }) _
  jvm_step X₁.here [X₁.here.top, hexec, d3', Value.category]
  exact X₁.ldcStringW hexec (own := own) (text := text) (index := is) (a := sa) hown' hstr'.1 hstr'.2
    (g := { method := m, pc := pc + 4, locals := ls, stack := .ref T.heap.size :: .ref T.heap.size :: rest, locked := none }) rfl d4' _ hsteps
end Ends
section Bodies
variable {l : Launch}
theorem vx_ofW {y : MethodName} {ws ws' : List Cond} {rm : Room} {Pc : Array Value → State → Prop} {Qc : Array Value → State → Outcome → State → Prop} {XC : String → State → State → Prop} {mc ms : Nat} {free : Addr → Prop} {cc : ByteArray} {maxL : Nat} {ret : Option FieldType}
    (hy : plainName y.cls = true) (hw : ws = Cond.code y cc maxL ret :: ws')
    (body : ∀ p e s m args below meth c s₁, BodyLoose p l y (headSpec ws rm) cc maxL ret e s m args below meth c s₁ → c.maxLocals = maxL → (∀ x ∈ c.exceptionTable.toList, False) → Pc args s →
      W p l e (headSpec ws rm).room s m args below meth c s.heap [] 0 0 (vx_MQ below Qc XC args s mc ms free) (entryFrame m args maxL)) : vx_Met l y ws rm Pc Qc XC mc ms free := by
  refine MetFree.of_bodyS (code := cc) (maxLocals := maxL) (ret := ret) hy ?_ ?_
  · intro args s m h hn
    obtain ⟨meth, c, h1, h2, h3, h4, h5, h6, -, -⟩ := Cond.code_spec hn (atoms_spec (ws := ws) h _ (by rw [hw]; exact List.mem_cons_self))
    exact ⟨meth, c, h1, h2, h3, h4, h5, h6⟩
  · intro p e s m args below meth c s₁ B hml hP _
    have hh0 : s₁.heap = s.heap := by rw [B.state]; rfl
    have ht : ∀ x ∈ c.exceptionTable.toList, False := by
      obtain ⟨meth9, c9, h1, h2, -, -, -, -, h7, -⟩ := Cond.code_spec B.named (atoms_spec (ws := ws) B.pre _ (by rw [hw]; exact List.mem_cons_self))
      cases Option.some.inj (h1.symm.trans B.method)
      cases Option.some.inj (h2.symm.trans (Stand.of_body B).code)
      intro x hx
      rw [Array.isEmpty_iff.mp h7] at hx
      cases hx
    obtain ⟨t, a1, o, b1, b2, b3⟩ := body p e s m args below meth c s₁ B hml ht hP s₁ hh0 (Stand.of_body B)
    exact ⟨t, o, a1, b1, b2, b3⟩
/-- the table of a body with handlers -/
theorem vx_table {p : Program} {x y : MethodName} {S : Spec} {cc bytes : ByteArray} {maxL maxL' : Nat} {ret ret' : Option FieldType} {e : Env} {s s₁ : State} {m : MethodId} {args : Array Value} {below : List Frame} {meth : Method} {c : Code} {hh : List (Nat × Nat × Nat × Nat)}
    (B : BodyLoose p l y S cc maxL ret e s m args below meth c s₁) (h : (Cond.codeWith y bytes maxL' ret' hh).before args s = true) : c.exceptionTable.toList = tableOf hh := by
  obtain ⟨m9, meth9, c9, hn9, h1, h2, -, -, h6, -⟩ := Cond.codeWith_spec h
  cases Option.some.inj (hn9.symm.trans B.named)
  cases Option.some.inj (h1.symm.trans B.method)
  cases Option.some.inj (h2.symm.trans (Stand.of_body B).code)
  rw [← h6, table_eq]
end Bodies
end VXA
/-! ===== END ===== -/
/-! ===== BEGIN a static call of a method with an exception table ===== -/
section VXS
variable {p : Program} {l : Launch} {e : Env} {R : Room} {s : State} {m : MethodId} {args : Array Value} {below : List Frame} {meth : Method} {c : Code} {T : State} {H : Heap} {locs : List Loc} {cells slots : Nat}
abbrev vx_CSW (R : Room) (s : State) (args : Array Value) (own : String) (index : Nat) (y : MethodName) (bytes : ByteArray) (maxL : Nat) (ret : Option FieldType) (hh : List (Nat × Nat × Nat × Nat)) (ws : List Cond) (rm : Room) (mc ms n : Nat) : Prop :=
  (rm.cells = mc ∧ rm.slots = ms ∧ rm.frames + 1 ≤ R.frames ∧ 8 + (maxL + 11) + rm.locals ≤ R.locals ∧ (∀ w ∈ ws, ∀ (a' : Array Value) (U : State), s.WarmedH U.vm → w.before a' U = true) ∧ Cond.codeWith y bytes maxL ret hh ∈ ws) ∧
  (Cond.codeWith y bytes maxL ret hh).before args s = true ∧ (Cond.initialized y.cls).before args s = true ∧ (y.cls ≠ "java/lang/invoke/MethodHandle" ∧ y.cls ≠ "java/lang/invoke/VarHandle") ∧
  (∀ sig, parseMethodDescriptor y.desc = some sig → n = sig.parameters.length) ∧ (Cond.methodLink own index y).before args s = true ∧ (Cond.static y).before args s = true
theorem vx_cwSW {own : String} {index maxL mc ms : Nat} {y : MethodName} {bytes : ByteArray} {ret : Option FieldType} {hh : List (Nat × Nat × Nat × Nat)} {Ts ws ws' : List Cond} {rm : Room} (n : Nat) (ht : ∀ w ∈ Ts, w.before args s = true) (hT : GoodIn Ts (va_wsS own index y ws)) (hw : ws = Cond.codeWith y bytes maxL ret hh :: ws') (hrc : rm.cells = mc) (hrs : rm.slots = ms)
    (hd : y.cls ≠ "java/lang/invoke/MethodHandle" ∧ y.cls ≠ "java/lang/invoke/VarHandle" ∧ (parseMethodDescriptor y.desc).map (fun d => d.parameters.length) = some n) (hR : rm.frames + 1 ≤ R.frames ∧ 8 + (maxL + 11) + rm.locals ≤ R.locals) :
    vx_CSW R s args own index y bytes maxL ret hh ws rm mc ms n := by
  have ok : ∀ w ∈ va_wsS own index y ws, w.before args s = true := fun w h => ht w (hT w h).1
  have hG : GoodIn Ts ws := fun w h => hT w (by unfold va_wsS; exact List.mem_append_right _ h)
  have hc : Cond.codeWith y bytes maxL ret hh ∈ ws := by rw [hw]; exact List.mem_cons_self
  refine ⟨⟨hrc, hrs, hR.1, hR.2, pay_in ht hG, hc⟩, ht _ (hG _ hc).1, ok _ (by simp [va_wsS]), ⟨hd.1, hd.2.1⟩, fun sig h => ?_, ok _ (by simp [va_wsS]), ok _ (by simp [va_wsS])⟩
  have h2 := hd.2.2
  rw [h] at h2
  exact (Option.some.inj h2).symm
theorem vx_callSW (X : Stand p l e R s m args below meth c T locs cells slots) (hexec : p.tables.exec = Jvm.exec) {own : String} {index : Nat} {y : MethodName} {bytes : ByteArray} {maxL : Nat} {ret : Option FieldType} {hh : List (Nat × Nat × Nat × Nat)}
    (hown : s.vm.findClass own = some m.cls) (hlink : (Cond.methodLink own index y).before args s = true) (hstat : (Cond.static y).before args s = true) (hinit : (Cond.initialized y.cls).before args s = true)
    (hcode : (Cond.codeWith y bytes maxL ret hh).before args s = true) (hy : y.cls ≠ "java/lang/invoke/MethodHandle" ∧ y.cls ≠ "java/lang/invoke/VarHandle")
    {W9 : Nat} {Pre : Pt → Array Value → Prop} {Post : Pt → Array Value → Option Value → Pt → Prop} (hK : Back l R p e below s args y 3 W9 Pre Post)
    {g : JFrame} (hg : g.method = m) (hsize : g.locals.size = c.maxLocals) {argsL rest : List Value} (hlen : ∀ sig, parseMethodDescriptor y.desc = some sig → argsL.length = sig.parameters.length)
    (hstack : g.stack = argsL.reverse ++ rest) (hW : 2 * g.monitorRoom + (rest.map fun v => v.category).sum ≤ W9) (hdg : decode c.code g.pc = .ok (.invokestatic index, 3))
    (hpre : ∀ vm₁, s.WarmedH vm₁ → Pre ⟨T.setVm vm₁, locs, cells, slots⟩ argsL.toArray) :
    ∃ (v : Option Value) (vm₁ : Vm) (B : Pt), s.WarmedH vm₁ ∧ Stand p l e R s m args below meth c B.U B.locs B.cells B.slots ∧ Post ⟨T.setVm vm₁, locs, cells, slots⟩ argsL.toArray v B ∧
      ∀ target, Steps p.tables e below (B.U.setTop { g with pc := g.pc + 3, stack := v.toList ++ rest }) target → Steps p.tables e below (T.setTop g) target := by
  obtain ⟨mk, methM, cM, hnamed, hmethM, -, -, -, -, -, -, hsigM⟩ := Cond.codeWith_spec hcode
  have hstatic : methM.isStatic = true := Cond.static_spec hnamed hmethM hstat
  obtain ⟨kP, hkP, -⟩ := className_of_methodNamed hnamed
  have hinitP : kP.init = .initialized := Cond.initialized_spec (findClass_of_methodNamed hnamed) hkP hinit
  obtain ⟨vm₁, X₁, hstep₁⟩ := X.invokestatic hexec hown hlink hnamed hmethM hstatic hkP hinitP hy (g := g) hg (argsL := argsL) (rest := rest) (hlen _ hsigM) hstack hdg
  obtain ⟨v, B, X', hpost, hsteps⟩ := hK m meth c ⟨T.setVm vm₁, locs, cells, slots⟩ { g with stack := rest } (.invokestatic index) mk argsL.toArray X₁ hg hsize hdg hW (X₁.named hnamed) (hpre vm₁ X₁.warmed)
  exact ⟨v, vm₁, B, X₁.warmed, X', hpost, fun target h => hstep₁ _ fun acts => by rw [doInvoke_state]; exact hsteps.trans h⟩
theorem vx_runSW {y : MethodName} {bytes cc : ByteArray} {maxL nL mc ms n index : Nat} {ret : Option FieldType} {hh : List (Nat × Nat × Nat × Nat)} {ws : List Cond} {rm : Room} {Pc : Array Value → State → Prop} {Qc : Array Value → State → Outcome → State → Prop} {free : Addr → Prop} {Ts : List Cond} {own : String} {As rest : List Value} {g : JFrame}
    (S : CallFix p m c cc nL s args Ts own) (hM : Met l y ws rm Pc Qc mc ms free) (cw : vx_CSW R s args own index y bytes maxL ret hh ws rm mc ms n) (hp : PreS s H Pc As)
    (hg : g.method = m) (hn : As.length = n) (hsize : g.locals.size = nL) (hstack : g.stack = As.reverse ++ rest) (hW : 2 * g.monitorRoom + (rest.map fun v => v.category).sum ≤ 8) (hdg : decode cc g.pc = .ok (.invokestatic index, 3)) (hf : cells + mc ≤ R.cells ∧ slots + ms ≤ R.slots) :
    va_Run p l e R s m args below meth c H locs cells slots mc ms g rest (Qc As.toArray) (free) := by
  obtain ⟨⟨hrc, hrs, hfr, hlo, hws, hcw⟩, hcode, hini, hy, hlen, hl, hstt⟩ := cw
  have hK : Back l R p e below s args y 3 8 (PreOf R mc ms Pc) (PostOf Qc mc ms free) := va_backW (hh := hh) (bytes := bytes) (maxL := maxL) (ret := ret) hM hp.1 hrc hrs hfr hlo hws hcw (fun a' U hW => word_at hW (Or.inl (by first | rfl | simp [Cond.onTables, Cond.keeps, Cond.steady])) hini)
  obtain ⟨hx, hb, hml, ho, -⟩ := S
  intro T hT X
  obtain ⟨v, vm₁, ⟨U', l2, c2, s2⟩, hW₁, X', ⟨g', mk, t, L, e1, e2, hq, h1, hL, h2, h3⟩, st⟩ := vx_callSW X hx (hh := hh) (bytes := bytes) (maxL := maxL) (ret := ret) ho hl hstt hini hcode hy hK hg (hsize.trans hml.symm) (argsL := As) (rest := rest) (fun sig h => hn.trans (hlen sig h)) hstack hW (by rw [hb]; exact hdg)
    (fun vm₁ hW₁ => ⟨hf.1, hf.2, hp.2 (T.setVm vm₁) hT hW₁⟩)
  dsimp only [Pt.U, Pt.locs, Pt.cells, Pt.slots] at X' e1 e2 h1 h2 h3 st
  subst h1; subst h2; subst h3
  exact ⟨v, (T.setVm vm₁).calling g' mk As.toArray, t, U', L, hT, X', hL, e1, e2, hq, st⟩
/-- not caught here, past rows that name other classes: it goes on to the caller -/
theorem vx_outP {p : Program} {l : Launch} {e : Env} {R : Room} {s : State} {m : MethodId} {args : Array Value} {below : List Frame} {meth : Method} {c : Code} {H : Heap} {locs : List Loc} {cells slots : Nat} {free : Addr → Prop} {ls : Array Slot} {rest : List Value} {Qc : Array Value → State → Outcome → State → Prop} {XC : String → State → State → Prop}
    {pc : Nat} {own E : String} {ce : Cell} {q : Addr} {mc ms : Nat} (hown : s.vm.findClass own = some m.cls) (hlocks : meth.locks = false)
    (hpass : ∀ z ∈ c.exceptionTable.toList, covers z pc = false ∨ (z.catchType ≠ 0 ∧ ∃ nm : String, (Cond.classLink own z.catchType nm).before args s = true ∧ va_Nc E nm s)) (hcell : H[q]? = some ce) (hv : ce.vm = .none) (hcl : s.vm.findClass E = some ce.cls)
    (hx : ∀ t : State, t.heap = H → s.vm.Alike t.vm → XC E s t) (hf : ∀ z ∈ locs, free z.base) (hc : cells ≤ mc) (hs : slots ≤ ms) :
    vx_W p l e R s m args below meth c H locs cells slots (vx_MQ below Qc XC args s mc ms free) (F0 m pc ls rest) q := by
  intro T hT X
  have hpl : e.platform.magicAccessors = ({} : Platform).magicAccessors := by rw [X.admits.platform]
  obtain ⟨vm', hW', X', st⟩ := X.outThrough hlocks q (g := F0 m pc ls rest) rfl rfl rfl (cell := ce) (by rw [hT]; exact hcell) (by rw [hv]; rfl)
    (by obtain ⟨k9, h9, -⟩ := Vm.findClass_spec hcl; exact ⟨k9, h9⟩) (fun z hz => by
      rcases hpass z hz with h | ⟨hz0, nm, hl1, hn1⟩
      · exact Or.inl h
      · obtain ⟨c6, hc6, hcl6⟩ := Cond.classLink_spec hown hl1 e.platform hpl
        obtain ⟨a8, b8, h1, h2, h3⟩ := hn1
        cases Option.some.inj (h1.symm.trans hcl)
        cases Option.some.inj (h2.symm.trans hc6)
        exact Or.inr ⟨hz0, _, hcl6, h3⟩)
  obtain ⟨g₀, hfr⟩ := X'.frames_eq
  have hcell9 : ((T.setVm vm').setFrames (.throwing q :: below)).heap[q]? = some ce := by
    show T.heap[q]? = some ce
    rw [hT]; exact hcell
  have hend : Ended ((T.setVm vm').setFrames (.throwing q :: below)) below (.threw q) := State.frames_setFrames _ (State.cur_lt_of_frames hfr)
  refine ⟨(T.setVm vm').setFrames (.throwing q :: below), ?_, .threw q, X'.here.running, hend, Or.inr ⟨q, rfl, E, ce, locs, hx _ hT (X'.ends _).1.alike, hcell9, hv, hcl, (X'.ends _).1, (X'.ends _).2.mono hc hs, hf⟩⟩
  rw [X.pushThrowing_eq]
  exact st
/-- a thing of a world lies in the heap -/
theorem vx_lt {D : va_G} {cl : List vw_C} {ws : va_W} {H1 : Heap} (h : va_P D cl ws H1) {k : Nat} {q : Nat × va_E} (hk : ws[k]? = some q) : q.1 < H1.size := (h k q hk).lt
end VXS
/-! ===== END ===== -/
/-! ===== BEGIN methods with a table of their own: called by a name, returning or throwing ===== -/
section VXH
/-! vx_backW, vx_callVX, vx_callSX, vx_callVW, vx_runVW, vx_runVX, vx_runSX, vx_ofWH follow the same proofs as their sisters above (Free/Laws.lean, Shelf42/LK1.lean); vx_outP calls Shelf42/NT130.lean (outThrough). -/
section
variable {l : Launch} {R : Room} {p : Program} {e : Env} {below : List Frame} {s : State} {sargs : Array Value} {y : MethodName} {len W9 : Nat}
theorem vx_backW {ws : List Cond} {rm : Room} {Pc : Array Value → State → Prop} {Qc : Array Value → State → Outcome → State → Prop} {XC : String → State → State → Prop} {mc ms : Nat} {free : Addr → Prop} {bytes : ByteArray} {maxL : Nat} {ret : Option FieldType} {hh : List (Nat × Nat × Nat × Nat)}
    (hM : vx_Met l y ws rm Pc Qc XC mc ms free) (hblind : FrameBlind Pc) (hrc : rm.cells = mc) (hrs : rm.slots = ms)
    (hframes : rm.frames + 1 ≤ R.frames) (hlocals : W9 + (maxL + 11) + rm.locals ≤ R.locals)
    (hws : ∀ w ∈ ws, ∀ a' U, s.WarmedH U.vm → w.before a' U = true) (hcode : Cond.codeWith y bytes maxL ret hh ∈ ws) (hinit : ∀ a' U, s.WarmedH U.vm → (Cond.initialized y.cls).before a' U = true) :
    vx_Back l R p e below s sargs y len W9 (PreOf R mc ms Pc) (PostOf Qc mc ms free) (vx_Post XC mc ms free) := by
  intro m meth c A g ig mk a X hg hsize hdg hW hn hp
  have h1 : (headSpec ws rm).pre.before a A.U = true := atoms_intro fun w hw => hws w hw _ _ X.warmed
  have h2 : (Cond.codeWith y bytes maxL ret hh).before a A.U = true := hws _ hcode _ _ X.warmed
  have h3 : (Cond.initialized y.cls).before a A.U = true := hinit _ _ X.warmed
  have h4 : A.cells + (headSpec ws rm).room.cells ≤ R.cells := by rw [show (headSpec ws rm).room.cells = mc from hrc]; exact hp.1
  have h5 : A.slots + (headSpec ws rm).room.slots ≤ R.slots := by rw [show (headSpec ws rm).room.slots = ms from hrs]; exact hp.2.1
  have hPc : Pc a (A.U.calling g mk a) := hblind _ _ _ _ hp.2.2
  obtain ⟨U, Ls, c0, s0⟩ := A
  dsimp only [Pt.U, Pt.locs, Pt.cells, Pt.slots] at h1 h2 h3 h4 h5 X hn hPc ⊢
  obtain ⟨m9, methY, cY, hn9, hmY, hcY, -, hlY, -⟩ := Cond.codeWith_spec h2
  cases Option.some.inj (hn9.symm.trans hn)
  obtain ⟨kY, hkY, -⟩ := className_of_methodNamed hn
  have hinitY : kY.init = .initialized := Cond.initialized_spec (findClass_of_methodNamed hn) hkY h3
  have h : At U g.method c below := by rw [hg]; exact X.here
  have hlocals9 : W9 + (maxL + 11) + (headSpec ws rm).room.locals ≤ R.locals := hlocals
  have happ : (headSpec ws rm).appliesLoose y e.platform (U.calling g mk a) = true :=
    Spec.appliesLoose_calling (g := g) h hdg hn hkY hinitY
      (X.room_calling (g := g) (R' := (headSpec ws rm).room) hsize hmY hcY hframes (by rw [hlY]; omega) h4 h5) h1
  obtain ⟨mid, hmid⟩ := h.above
  have hfr : (U.setTop g).frames = (.java g :: mid) ++ below := by rw [State.frames_setTop' g h.top, hmid]; rfl
  obtain ⟨o, s₂, hsteps, -, hend, hq⟩ := Steps.callFree hM p X.admits X.cas X.clock (acts := []) hfr happ hPc trivial
  have hq' : vx_Q Qc XC mc ms free a (U.calling g mk a) o s₂ := hq
  rw [State.frames_setTop' g h.top] at hend
  obtain ⟨g₀, hg0⟩ := Option.isSome_iff_exists.mp h.top
  obtain ⟨r, hr⟩ := State.topJava?_eq_some.mp hg0
  have hr' : (({ U with heap := s₂.heap, slotsUsed := s₂.slotsUsed } : State).setVm s₂.vm).frames = .java g₀ :: r := hr
  rcases hq' with ⟨hqc, L, hfe, hL⟩ | ⟨q, rfl, E, ce, L, hx, hce, hcv, hcl, hW₂, hsm, hL⟩
  · obtain ⟨⟨v, rfl⟩, hW₂, e2, q2, q3, q4, q5, q6⟩ := id hfe
    have e3 : s₂ = ({ (U.calling g mk a).setFrames s₂.frames with heap := s₂.heap, slotsUsed := s₂.slotsUsed } : State).setVm s₂.vm := by
      have : s₂ = ({ s₂ with vm := (U.calling g mk a).vm } : State).setVm s₂.vm := rfl
      rw [e2] at this
      exact this
    obtain ⟨c₂, i₂, len₂, hc₂, hd₂, hf₂⟩ := hend
    have hW' : U.WarmedH s₂.vm := hW₂
    have hcc : c₂ = c := by
      have h1 : s₂.code? g.method = U.code? g.method := by
        rw [State.code?_eq, State.code?_eq, hW'.alike.method?]
      exact Option.some.inj (hc₂.symm.trans (h1.trans h.code))
    subst hcc
    have hlen : len₂ = len := by rw [hdg] at hd₂; cases hd₂; rfl
    subst hlen
    have hs₂ : s₂ = (({ U with heap := s₂.heap, slotsUsed := s₂.slotsUsed } : State).setVm s₂.vm).setTop { g with pc := g.pc + len₂, stack := v.toList ++ g.stack } := by
      refine e3.trans ?_
      rw [hf₂, State.calling_eq h.top, State.setFrames_setFrames, State.setTop_of_frames _ hr', hr]
      rfl
    have hsame : U.sameButNew ({ U with heap := s₂.heap, slotsUsed := s₂.slotsUsed } : State) L mc ms := by
      refine ⟨?_, q2, q3, q4, q5, q6⟩
      obtain ⟨t, ht, -⟩ := State.frames_cons hr
      show ({ U with heap := s₂.heap, slotsUsed := s₂.slotsUsed } : State) = { U.setFrames U.frames with heap := s₂.heap, slotsUsed := s₂.slotsUsed }
      rw [State.setFrames_self ht]
    subst hg
    refine Or.inl ⟨v, ⟨(({ U with heap := s₂.heap, slotsUsed := s₂.slotsUsed } : State).setVm s₂.vm), Ls ++ L, c0 + mc, s0 + ms⟩,
      ⟨X.admits, X.cas, X.clock, X.frames, X.room, X.hears, X.method, X.code, (X.here.setHeapUsed s₂.heap s₂.slotsUsed).setVm hW'.alike, X.tail, State.WarmedH.trans X.warmed hW', X.limits, X.bytes, X.same.trans (hsame.setVm s.vm)⟩,
      ⟨g, mk, s₂, L, rfl, rfl, hqc, rfl, hL, rfl, rfl⟩, ?_⟩
    show Steps p.tables e below _ ((({ U with heap := s₂.heap, slotsUsed := s₂.slotsUsed } : State).setVm s₂.vm).setTop { g with pc := g.pc + len₂, stack := v.toList ++ g.stack })
    rw [← hs₂]
    exact hsteps
  · obtain ⟨e2, q2, q3, q4, q5, q6⟩ := id hsm
    have e3 : s₂ = ({ (U.calling g mk a).setFrames s₂.frames with heap := s₂.heap, slotsUsed := s₂.slotsUsed } : State).setVm s₂.vm := by
      have : s₂ = ({ s₂ with vm := (U.calling g mk a).vm } : State).setVm s₂.vm := rfl
      rw [e2] at this
      exact this
    have hf₂ : s₂.frames = .throwing q :: .java g :: U.frames.tail := hend
    have hW' : U.WarmedH s₂.vm := hW₂
    have hs₂ : s₂ = ((({ U with heap := s₂.heap, slotsUsed := s₂.slotsUsed } : State).setVm s₂.vm).setTop g).pushFrame (.throwing q) := by
      refine e3.trans ?_
      rw [hf₂, State.calling_eq h.top, State.setFrames_setFrames, State.pushFrame, State.frames_setTop _ hr', State.setTop_of_frames _ hr', State.setFrames_setFrames, hr]
      rfl
    have hsame : U.sameButNew ({ U with heap := s₂.heap, slotsUsed := s₂.slotsUsed } : State) L mc ms := by
      refine ⟨?_, q2, q3, q4, q5, q6⟩
      obtain ⟨t, ht, -⟩ := State.frames_cons hr
      show ({ U with heap := s₂.heap, slotsUsed := s₂.slotsUsed } : State) = { U.setFrames U.frames with heap := s₂.heap, slotsUsed := s₂.slotsUsed }
      rw [State.setFrames_self ht]
    subst hg
    refine Or.inr ⟨q, ⟨(({ U with heap := s₂.heap, slotsUsed := s₂.slotsUsed } : State).setVm s₂.vm), Ls ++ L, c0 + mc, s0 + ms⟩,
      ⟨X.admits, X.cas, X.clock, X.frames, X.room, X.hears, X.method, X.code, (X.here.setHeapUsed s₂.heap s₂.slotsUsed).setVm hW'.alike, X.tail, State.WarmedH.trans X.warmed hW', X.limits, X.bytes, X.same.trans (hsame.setVm s.vm)⟩,
      ⟨g, mk, s₂, L, E, ce, rfl, rfl, hx, hce, hcv, hcl, rfl, hL, rfl, rfl⟩, ?_⟩
    show Steps p.tables e below _ (((({ U with heap := s₂.heap, slotsUsed := s₂.slotsUsed } : State).setVm s₂.vm).setTop g).pushFrame (.throwing q))
    rw [← hs₂]
    exact hsteps
end
variable {p : Program} {l : Launch} {e : Env} {R : Room} {s : State} {m : MethodId} {args : Array Value} {below : List Frame} {meth : Method} {c : Code} {T : State} {H : Heap} {locs : List Loc} {cells slots : Nat}
theorem vx_callVX (X : Stand p l e R s m args below meth c T locs cells slots) (hexec : p.tables.exec = Jvm.exec) {own C : String} {index : Nat} {y : MethodName} {bytes : ByteArray} {maxL : Nat} {ret : Option FieldType} {hh : List (Nat × Nat × Nat × Nat)}
    (hown : s.vm.findClass own = some m.cls) (hlink : (Cond.methodLink own index y).before args s = true) (hinst : (Cond.instanceMethod y).before args s = true) (hsel : (Cond.selects C y y).before args s = true)
    (hcode : (Cond.codeWith y bytes maxL ret hh).before args s = true) (hy : y.cls ≠ "java/lang/invoke/MethodHandle" ∧ y.cls ≠ "java/lang/invoke/VarHandle")
    {W9 : Nat} {Pre : Pt → Array Value → Prop} {Post : Pt → Array Value → Option Value → Pt → Prop} {PostX : Pt → Array Value → Addr → Pt → Prop} (hK : vx_Back l R p e below s args y 3 W9 Pre Post PostX)
    {b : Addr} {cellB : Cell} (hcell : T.heap[b]? = some cellB) (hobj : cellB.vm.isStatics = false) (hcls : s.vm.findClass C = some cellB.cls)
    {g : JFrame} (hg : g.method = m) (hsize : g.locals.size = c.maxLocals) {argsL rest : List Value} (hlen : ∀ sig, parseMethodDescriptor y.desc = some sig → argsL.length = sig.parameters.length)
    (hstack : g.stack = argsL.reverse ++ .ref b :: rest) (hW : 2 * g.monitorRoom + (rest.map fun v => v.category).sum ≤ W9) (hdg : decode c.code g.pc = .ok (.invokevirtual index, 3))
    (hpre : ∀ vm₁, s.WarmedH vm₁ → Pre ⟨T.setVm vm₁, locs, cells, slots⟩ (Value.ref b :: argsL).toArray) :
    (∃ (v : Option Value) (vm₁ : Vm) (B : Pt), s.WarmedH vm₁ ∧ Stand p l e R s m args below meth c B.U B.locs B.cells B.slots ∧ Post ⟨T.setVm vm₁, locs, cells, slots⟩ (Value.ref b :: argsL).toArray v B ∧
      ∀ target, Steps p.tables e below (B.U.setTop { g with pc := g.pc + 3, stack := v.toList ++ rest }) target → Steps p.tables e below (T.setTop g) target) ∨
    (∃ (q : Addr) (vm₁ : Vm) (B : Pt), s.WarmedH vm₁ ∧ Stand p l e R s m args below meth c B.U B.locs B.cells B.slots ∧ PostX ⟨T.setVm vm₁, locs, cells, slots⟩ (Value.ref b :: argsL).toArray q B ∧
      Steps p.tables e below (T.setTop g) ((B.U.setTop { g with stack := rest }).pushFrame (.throwing q))) := by
  obtain ⟨mk, methM, hnamed, hmethM, hstM, habM⟩ := Cond.instanceMethod_spec hinst
  obtain ⟨m8, methM', cM, hn8, hmethM', -, -, -, -, -, -, hsigM⟩ := Cond.codeWith_spec hcode
  cases Option.some.inj (hn8.symm.trans hnamed)
  cases hmethM.symm.trans hmethM'
  obtain ⟨c2, r2, m2, q1, q2, q3, q4, kP, hkP, hkPi⟩ := Cond.selects_spec hsel
  cases hcls.symm.trans q1
  cases (State.methodFound?_of_named hnamed hy).symm.trans q2
  cases hnamed.symm.trans q3
  have hselP : selectMethod e.platform s.vm cellB.cls mk = .method mk := by rw [Launch.admits_selectMethod X.admits]; exact q4
  obtain ⟨vm₁, X₁, hstep₁⟩ := X.invokevirtual hexec hown hlink hnamed hmethM hstM hkP hkPi hy (a := b) (cell := cellB) hcell
    (fun z h => by rw [h] at hobj; cases hobj) hselP hmethM habM hkP hkPi (g := g) hg (argsL := argsL) (rest := rest) (hlen _ hsigM) hstack hdg
  rcases hK m meth c ⟨T.setVm vm₁, locs, cells, slots⟩ { g with stack := rest } (.invokevirtual index) mk (Value.ref b :: argsL).toArray X₁ hg hsize hdg hW (X₁.named hnamed) (hpre vm₁ X₁.warmed) with ⟨v, B, X', hpost, hsteps⟩ | ⟨q, B, X', hpost, hsteps⟩
  · exact Or.inl ⟨v, vm₁, B, X₁.warmed, X', hpost, fun target h => hstep₁ _ fun acts => by rw [doInvoke_state]; exact hsteps.trans h⟩
  · exact Or.inr ⟨q, vm₁, B, X₁.warmed, X', hpost, hstep₁ _ fun acts => by rw [doInvoke_state]; exact hsteps⟩
theorem vx_callSX (X : Stand p l e R s m args below meth c T locs cells slots) (hexec : p.tables.exec = Jvm.exec) {own : String} {index : Nat} {y : MethodName} {bytes : ByteArray} {maxL : Nat} {ret : Option FieldType} {hh : List (Nat × Nat × Nat × Nat)}
    (hown : s.vm.findClass own = some m.cls) (hlink : (Cond.methodLink own index y).before args s = true) (hstat : (Cond.static y).before args s = true) (hinit : (Cond.initialized y.cls).before args s = true)
    (hcode : (Cond.codeWith y bytes maxL ret hh).before args s = true) (hy : y.cls ≠ "java/lang/invoke/MethodHandle" ∧ y.cls ≠ "java/lang/invoke/VarHandle")
    {W9 : Nat} {Pre : Pt → Array Value → Prop} {Post : Pt → Array Value → Option Value → Pt → Prop} {PostX : Pt → Array Value → Addr → Pt → Prop} (hK : vx_Back l R p e below s args y 3 W9 Pre Post PostX)
    {g : JFrame} (hg : g.method = m) (hsize : g.locals.size = c.maxLocals) {argsL rest : List Value} (hlen : ∀ sig, parseMethodDescriptor y.desc = some sig → argsL.length = sig.parameters.length)
    (hstack : g.stack = argsL.reverse ++ rest) (hW : 2 * g.monitorRoom + (rest.map fun v => v.category).sum ≤ W9) (hdg : decode c.code g.pc = .ok (.invokestatic index, 3))
    (hpre : ∀ vm₁, s.WarmedH vm₁ → Pre ⟨T.setVm vm₁, locs, cells, slots⟩ argsL.toArray) :
    (∃ (v : Option Value) (vm₁ : Vm) (B : Pt), s.WarmedH vm₁ ∧ Stand p l e R s m args below meth c B.U B.locs B.cells B.slots ∧ Post ⟨T.setVm vm₁, locs, cells, slots⟩ argsL.toArray v B ∧
      ∀ target, Steps p.tables e below (B.U.setTop { g with pc := g.pc + 3, stack := v.toList ++ rest }) target → Steps p.tables e below (T.setTop g) target) ∨
    (∃ (q : Addr) (vm₁ : Vm) (B : Pt), s.WarmedH vm₁ ∧ Stand p l e R s m args below meth c B.U B.locs B.cells B.slots ∧ PostX ⟨T.setVm vm₁, locs, cells, slots⟩ argsL.toArray q B ∧
      Steps p.tables e below (T.setTop g) ((B.U.setTop { g with stack := rest }).pushFrame (.throwing q))) := by
  obtain ⟨mk, methM, cM, hnamed, hmethM, -, -, -, -, -, -, hsigM⟩ := Cond.codeWith_spec hcode
  have hstatic : methM.isStatic = true := Cond.static_spec hnamed hmethM hstat
  obtain ⟨kP, hkP, -⟩ := className_of_methodNamed hnamed
  have hinitP : kP.init = .initialized := Cond.initialized_spec (findClass_of_methodNamed hnamed) hkP hinit
  obtain ⟨vm₁, X₁, hstep₁⟩ := X.invokestatic hexec hown hlink hnamed hmethM hstatic hkP hinitP hy (g := g) hg (argsL := argsL) (rest := rest) (hlen _ hsigM) hstack hdg
  rcases hK m meth c ⟨T.setVm vm₁, locs, cells, slots⟩ { g with stack := rest } (.invokestatic index) mk argsL.toArray X₁ hg hsize hdg hW (X₁.named hnamed) (hpre vm₁ X₁.warmed) with ⟨v, B, X', hpost, hsteps⟩ | ⟨q, B, X', hpost, hsteps⟩
  · exact Or.inl ⟨v, vm₁, B, X₁.warmed, X', hpost, fun target h => hstep₁ _ fun acts => by rw [doInvoke_state]; exact hsteps.trans h⟩
  · exact Or.inr ⟨q, vm₁, B, X₁.warmed, X', hpost, hstep₁ _ fun acts => by rw [doInvoke_state]; exact hsteps⟩
theorem vx_callVW (X : Stand p l e R s m args below meth c T locs cells slots) (hexec : p.tables.exec = Jvm.exec) {own C : String} {index : Nat} {y : MethodName} {bytes : ByteArray} {maxL : Nat} {ret : Option FieldType} {hh : List (Nat × Nat × Nat × Nat)}
    (hown : s.vm.findClass own = some m.cls) (hlink : (Cond.methodLink own index y).before args s = true) (hinst : (Cond.instanceMethod y).before args s = true) (hsel : (Cond.selects C y y).before args s = true)
    (hcode : (Cond.codeWith y bytes maxL ret hh).before args s = true) (hy : y.cls ≠ "java/lang/invoke/MethodHandle" ∧ y.cls ≠ "java/lang/invoke/VarHandle")
    {W9 : Nat} {Pre : Pt → Array Value → Prop} {Post : Pt → Array Value → Option Value → Pt → Prop} (hK : Back l R p e below s args y 3 W9 Pre Post)
    {b : Addr} {cellB : Cell} (hcell : T.heap[b]? = some cellB) (hobj : cellB.vm.isStatics = false) (hcls : s.vm.findClass C = some cellB.cls)
    {g : JFrame} (hg : g.method = m) (hsize : g.locals.size = c.maxLocals) {argsL rest : List Value} (hlen : ∀ sig, parseMethodDescriptor y.desc = some sig → argsL.length = sig.parameters.length)
    (hstack : g.stack = argsL.reverse ++ .ref b :: rest) (hW : 2 * g.monitorRoom + (rest.map fun v => v.category).sum ≤ W9) (hdg : decode c.code g.pc = .ok (.invokevirtual index, 3))
    (hpre : ∀ vm₁, s.WarmedH vm₁ → Pre ⟨T.setVm vm₁, locs, cells, slots⟩ (Value.ref b :: argsL).toArray) :
    ∃ (v : Option Value) (vm₁ : Vm) (B : Pt), s.WarmedH vm₁ ∧ Stand p l e R s m args below meth c B.U B.locs B.cells B.slots ∧ Post ⟨T.setVm vm₁, locs, cells, slots⟩ (Value.ref b :: argsL).toArray v B ∧
      ∀ target, Steps p.tables e below (B.U.setTop { g with pc := g.pc + 3, stack := v.toList ++ rest }) target → Steps p.tables e below (T.setTop g) target := by
  obtain ⟨mk, methM, hnamed, hmethM, hstM, habM⟩ := Cond.instanceMethod_spec hinst
  obtain ⟨m8, methM', cM, hn8, hmethM', -, -, -, -, -, -, hsigM⟩ := Cond.codeWith_spec hcode
  cases Option.some.inj (hn8.symm.trans hnamed)
  cases hmethM.symm.trans hmethM'
  obtain ⟨c2, r2, m2, q1, q2, q3, q4, kP, hkP, hkPi⟩ := Cond.selects_spec hsel
  cases hcls.symm.trans q1
  cases (State.methodFound?_of_named hnamed hy).symm.trans q2
  cases hnamed.symm.trans q3
  have hselP : selectMethod e.platform s.vm cellB.cls mk = .method mk := by rw [Launch.admits_selectMethod X.admits]; exact q4
  obtain ⟨vm₁, X₁, hstep₁⟩ := X.invokevirtual hexec hown hlink hnamed hmethM hstM hkP hkPi hy (a := b) (cell := cellB) hcell
    (fun z h => by rw [h] at hobj; cases hobj) hselP hmethM habM hkP hkPi (g := g) hg (argsL := argsL) (rest := rest) (hlen _ hsigM) hstack hdg
  obtain ⟨v, B, X', hpost, hsteps⟩ := hK m meth c ⟨T.setVm vm₁, locs, cells, slots⟩ { g with stack := rest } (.invokevirtual index) mk (Value.ref b :: argsL).toArray X₁ hg hsize hdg hW (X₁.named hnamed) (hpre vm₁ X₁.warmed)
  exact ⟨v, vm₁, B, X₁.warmed, X', hpost, fun target h => hstep₁ _ fun acts => by rw [doInvoke_state]; exact hsteps.trans h⟩
abbrev vx_CVW (R : Room) (s : State) (args : Array Value) (own C : String) (index : Nat) (y : MethodName) (bytes : ByteArray) (maxL : Nat) (ret : Option FieldType) (hh : List (Nat × Nat × Nat × Nat)) (ws : List Cond) (rm : Room) (mc ms n : Nat) : Prop :=
  (rm.cells = mc ∧ rm.slots = ms ∧ rm.frames + 1 ≤ R.frames ∧ 8 + (maxL + 11) + rm.locals ≤ R.locals ∧ (∀ w ∈ ws, ∀ (a' : Array Value) (U : State), s.WarmedH U.vm → w.before a' U = true) ∧ Cond.codeWith y bytes maxL ret hh ∈ ws) ∧
  (Cond.codeWith y bytes maxL ret hh).before args s = true ∧ (Cond.initialized y.cls).before args s = true ∧ (y.cls ≠ "java/lang/invoke/MethodHandle" ∧ y.cls ≠ "java/lang/invoke/VarHandle") ∧
  (∀ sig, parseMethodDescriptor y.desc = some sig → n = sig.parameters.length) ∧ (Cond.methodLink own index y).before args s = true ∧ (Cond.instanceMethod y).before args s = true ∧ (Cond.selects C y y).before args s = true
theorem vx_cwVW {own C : String} {index maxL mc ms : Nat} {y : MethodName} {bytes : ByteArray} {ret : Option FieldType} {hh : List (Nat × Nat × Nat × Nat)} {Ts ws ws' : List Cond} {rm : Room} (n : Nat) (ht : ∀ w ∈ Ts, w.before args s = true) (hT : GoodIn Ts (wsV own index C y ws)) (hw : ws = Cond.codeWith y bytes maxL ret hh :: ws') (hrc : rm.cells = mc) (hrs : rm.slots = ms)
    (hd : y.cls = C ∧ y.cls ≠ "java/lang/invoke/MethodHandle" ∧ y.cls ≠ "java/lang/invoke/VarHandle" ∧ (parseMethodDescriptor y.desc).map (fun d => d.parameters.length) = some n) (hR : rm.frames + 1 ≤ R.frames ∧ 8 + (maxL + 11) + rm.locals ≤ R.locals) :
    vx_CVW R s args own C index y bytes maxL ret hh ws rm mc ms n := by
  obtain ⟨hC, hd⟩ := hd
  subst hC
  have ok : ∀ w ∈ wsV own index y.cls y ws, w.before args s = true := fun w h => ht w (hT w h).1
  have hG : GoodIn Ts ws := fun w h => hT w (by unfold wsV; exact List.mem_append_right _ h)
  have hc : Cond.codeWith y bytes maxL ret hh ∈ ws := by rw [hw]; exact List.mem_cons_self
  refine ⟨⟨hrc, hrs, hR.1, hR.2, pay_in ht hG, hc⟩, ht _ (hG _ hc).1, ok _ (by simp [wsV]), ⟨hd.1, hd.2.1⟩, fun sig h => ?_, ok _ (by simp [wsV]), ok _ (by simp [wsV]), ok _ (by simp [wsV])⟩
  have h2 := hd.2.2
  rw [h] at h2
  exact (Option.some.inj h2).symm
theorem vx_runVW {y : MethodName} {bytes cc : ByteArray} {maxL nL mc ms n index : Nat} {ret : Option FieldType} {hh : List (Nat × Nat × Nat × Nat)} {ws : List Cond} {rm : Room} {Pc : Array Value → State → Prop} {Qc : Array Value → State → Outcome → State → Prop} {free : Addr → Prop} {Ts : List Cond} {own C : String} {b : Addr} {As rest : List Value} {g : JFrame}
    (S : CallFix p m c cc nL s args Ts own) (hM : Met l y ws rm Pc Qc mc ms free) (cw : vx_CVW R s args own C index y bytes maxL ret hh ws rm mc ms n) (hp : PreV s H C b Pc As)
    (hg : g.method = m) (hn : As.length = n) (hsize : g.locals.size = nL) (hstack : g.stack = As.reverse ++ .ref b :: rest) (hW : 2 * g.monitorRoom + (rest.map fun v => v.category).sum ≤ 8) (hdg : decode cc g.pc = .ok (.invokevirtual index, 3)) (hf : cells + mc ≤ R.cells ∧ slots + ms ≤ R.slots) :
    va_Run p l e R s m args below meth c H locs cells slots mc ms g rest (Qc (Value.ref b :: As).toArray) free := by
  obtain ⟨⟨hrc, hrs, hfr, hlo, hws, hcw⟩, hcode, hini, hy, hlen, hl, hin, hse⟩ := cw
  have hK : Back l R p e below s args y 3 8 (PreOf R mc ms Pc) (PostOf Qc mc ms free) := va_backW (hh := hh) (bytes := bytes) (maxL := maxL) (ret := ret) hM hp.1 hrc hrs hfr hlo hws hcw (fun a' U hW => word_at hW (Or.inl (by first | rfl | simp [Cond.onTables, Cond.keeps, Cond.steady])) hini)
  obtain ⟨hx, hb, hml, ho, -⟩ := S
  obtain ⟨-, ⟨cellB, hcB, hoB, hclB⟩, hPc⟩ := hp
  intro T hT X
  obtain ⟨v, vm₁, ⟨U', l2, c2, s2⟩, hW₁, X', ⟨g', mk, t, L, e1, e2, hq, h1, hL, h2, h3⟩, st⟩ := vx_callVW X hx (C := C) (hh := hh) (bytes := bytes) (maxL := maxL) (ret := ret) ho hl hin hse hcode hy hK (by rw [hT]; exact hcB) hoB hclB hg (hsize.trans hml.symm) (argsL := As) (rest := rest) (fun sig h => hn.trans (hlen sig h)) hstack hW (by rw [hb]; exact hdg)
    (fun vm₁ hW₁ => ⟨hf.1, hf.2, hPc (T.setVm vm₁) hT hW₁⟩)
  dsimp only [Pt.U, Pt.locs, Pt.cells, Pt.slots] at X' e1 e2 h1 h2 h3 st
  subst h1; subst h2; subst h3
  exact ⟨v, (T.setVm vm₁).calling g' mk (Value.ref b :: As).toArray, t, U', L, hT, X', hL, e1, e2, hq, st⟩
section
variable {y : MethodName} {bytes cc : ByteArray} {maxL nL mc ms n index : Nat} {ret : Option FieldType} {ws : List Cond} {rm : Room} {Pc : Array Value → State → Prop} {Qc : Array Value → State → Outcome → State → Prop} {XC : String → State → State → Prop} {free : Addr → Prop} {Ts : List Cond} {own C : String} {b : Addr} {As rest : List Value} {g : JFrame}
theorem vx_runVX {hh : List (Nat × Nat × Nat × Nat)} (S : CallFix p m c cc nL s args Ts own) (hM : vx_Met l y ws rm Pc Qc XC mc ms free) (cw : vx_CVW R s args own C index y bytes maxL ret hh ws rm mc ms n) (hp : PreV s H C b Pc As)
    (hg : g.method = m) (hn : As.length = n) (hsize : g.locals.size = nL) (hstack : g.stack = As.reverse ++ .ref b :: rest) (hW : 2 * g.monitorRoom + (rest.map fun v => v.category).sum ≤ 8) (hdg : decode cc g.pc = .ok (.invokevirtual index, 3)) (hf : cells + mc ≤ R.cells ∧ slots + ms ≤ R.slots) :
    vx_Run p l e R s m args below meth c H locs cells slots mc ms g rest (Qc (Value.ref b :: As).toArray) XC free := by
  obtain ⟨⟨hrc, hrs, hfr, hlo, hws, hcw⟩, hcode, hini, hy, hlen, hl, hin, hse⟩ := cw
  have hK : vx_Back l R p e below s args y 3 8 (PreOf R mc ms Pc) (PostOf Qc mc ms free) (vx_Post XC mc ms free) := vx_backW (hh := hh) (bytes := bytes) (maxL := maxL) (ret := ret) hM hp.1 hrc hrs hfr hlo hws hcw (fun a' U hW => word_at hW (Or.inl (by first | rfl | simp [Cond.onTables, Cond.keeps, Cond.steady])) hini)
  obtain ⟨hx, hb, hml, ho, -⟩ := S
  obtain ⟨-, ⟨cellB, hcB, hoB, hclB⟩, hPc⟩ := hp
  intro T hT X
  rcases vx_callVX X hx (C := C) (hh := hh) (bytes := bytes) (maxL := maxL) (ret := ret) ho hl hin hse hcode hy hK (by rw [hT]; exact hcB) hoB hclB hg (hsize.trans hml.symm) (argsL := As) (rest := rest) (fun sig h => hn.trans (hlen sig h)) hstack hW (by rw [hb]; exact hdg)
    (fun vm₁ hW₁ => ⟨hf.1, hf.2, hPc (T.setVm vm₁) hT hW₁⟩) with ⟨v, vm₁, ⟨U', l2, c2, s2⟩, hW₁, X', ⟨g', mk, t, L, e1, e2, hq, h1, hL, h2, h3⟩, st⟩ | ⟨q, vm₁, ⟨U', l2, c2, s2⟩, hW₁, X', ⟨g', mk, t, L, E, ce, e1, e2, hq, hce, hcv, hcl, h1, hL, h2, h3⟩, st⟩
  · dsimp only [Pt.U, Pt.locs, Pt.cells, Pt.slots] at X' e1 e2 h1 h2 h3 st
    subst h1; subst h2; subst h3
    exact Or.inl ⟨v, (T.setVm vm₁).calling g' mk (Value.ref b :: As).toArray, t, U', L, hT, X', hL, e1, e2, hq, st⟩
  · dsimp only [Pt.U, Pt.locs, Pt.cells, Pt.slots] at X' e1 e2 h1 h2 h3 st hcl
    subst h1; subst h2; subst h3
    exact Or.inr ⟨q, (T.setVm vm₁).calling g' mk (Value.ref b :: As).toArray, t, U', L, E, ce, hT, X', hL, e1, e2, hq, hce, hcv, vx_cls hW₁ hcl, st⟩
theorem vx_runSX {hh : List (Nat × Nat × Nat × Nat)} (S : CallFix p m c cc nL s args Ts own) (hM : vx_Met l y ws rm Pc Qc XC mc ms free) (cw : vx_CSW R s args own index y bytes maxL ret hh ws rm mc ms n) (hp : PreS s H Pc As)
    (hg : g.method = m) (hn : As.length = n) (hsize : g.locals.size = nL) (hstack : g.stack = As.reverse ++ rest) (hW : 2 * g.monitorRoom + (rest.map fun v => v.category).sum ≤ 8) (hdg : decode cc g.pc = .ok (.invokestatic index, 3)) (hf : cells + mc ≤ R.cells ∧ slots + ms ≤ R.slots) :
    vx_Run p l e R s m args below meth c H locs cells slots mc ms g rest (Qc As.toArray) XC free := by
  obtain ⟨⟨hrc, hrs, hfr, hlo, hws, hcw⟩, hcode, hini, hy, hlen, hl, hstt⟩ := cw
  have hK : vx_Back l R p e below s args y 3 8 (PreOf R mc ms Pc) (PostOf Qc mc ms free) (vx_Post XC mc ms free) := vx_backW (hh := hh) (bytes := bytes) (maxL := maxL) (ret := ret) hM hp.1 hrc hrs hfr hlo hws hcw (fun a' U hW => word_at hW (Or.inl (by first | rfl | simp [Cond.onTables, Cond.keeps, Cond.steady])) hini)
  obtain ⟨hx, hb, hml, ho, -⟩ := S
  intro T hT X
  rcases vx_callSX X hx (hh := hh) (bytes := bytes) (maxL := maxL) (ret := ret) ho hl hstt hini hcode hy hK hg (hsize.trans hml.symm) (argsL := As) (rest := rest) (fun sig h => hn.trans (hlen sig h)) hstack hW (by rw [hb]; exact hdg)
    (fun vm₁ hW₁ => ⟨hf.1, hf.2, hp.2 (T.setVm vm₁) hT hW₁⟩) with ⟨v, vm₁, ⟨U', l2, c2, s2⟩, hW₁, X', ⟨g', mk, t, L, e1, e2, hq, h1, hL, h2, h3⟩, st⟩ | ⟨q, vm₁, ⟨U', l2, c2, s2⟩, hW₁, X', ⟨g', mk, t, L, E, ce, e1, e2, hq, hce, hcv, hcl, h1, hL, h2, h3⟩, st⟩
  · dsimp only [Pt.U, Pt.locs, Pt.cells, Pt.slots] at X' e1 e2 h1 h2 h3 st
    subst h1; subst h2; subst h3
    exact Or.inl ⟨v, (T.setVm vm₁).calling g' mk As.toArray, t, U', L, hT, X', hL, e1, e2, hq, st⟩
  · dsimp only [Pt.U, Pt.locs, Pt.cells, Pt.slots] at X' e1 e2 h1 h2 h3 st hcl
    subst h1; subst h2; subst h3
    exact Or.inr ⟨q, (T.setVm vm₁).calling g' mk As.toArray, t, U', L, E, ce, hT, X', hL, e1, e2, hq, hce, hcv, vx_cls hW₁ hcl, st⟩
end
end VXH
theorem vx_ofWH {l : Launch} {y : MethodName} {ws ws' : List Cond} {rm : Room} {Pc : Array Value → State → Prop} {Qc : Array Value → State → Outcome → State → Prop} {XC : String → State → State → Prop} {mc ms : Nat} {free : Addr → Prop} {cc : ByteArray} {maxL : Nat} {ret : Option FieldType} {hh : List (Nat × Nat × Nat × Nat)}
    (hy : plainName y.cls = true) (hw : ws = Cond.codeWith y cc maxL ret hh :: ws')
    (body : ∀ p e s m args below meth c s₁, BodyLoose p l y (headSpec ws rm) cc maxL ret e s m args below meth c s₁ → c.maxLocals = maxL → Pc args s →
      W p l e (headSpec ws rm).room s m args below meth c s.heap [] 0 0 (vx_MQ below Qc XC args s mc ms free) (entryFrame m args maxL)) : vx_Met l y ws rm Pc Qc XC mc ms free := by
  refine MetFree.of_bodyS (code := cc) (maxLocals := maxL) (ret := ret) hy ?_ ?_
  · intro args s m h hn
    obtain ⟨m9, meth, c, hn9, h1, h2, h3, h4, -, h5, h6, -⟩ := Cond.codeWith_spec (atoms_spec (ws := ws) h _ (by rw [hw]; exact List.mem_cons_self))
    cases hn.symm.trans hn9
    exact ⟨meth, c, h1, h2, h3, h4, h5, h6⟩
  · intro p e s m args below meth c s₁ B hml hP _
    have hh0 : s₁.heap = s.heap := by rw [B.state]; rfl
    obtain ⟨t, a1, o, b1, b2, b3⟩ := body p e s m args below meth c s₁ B hml hP s₁ hh0 (Stand.of_body B)
    exact ⟨t, o, a1, b1, b2, b3⟩
/-! ===== END ===== -/
end
section
/-! ===== BEGIN printed: names, fields, word lists, decode rows ===== -/
def RX0 : String := "ColourForests$Graph"
def TX0 : u_T := fun k => match k with
  | 0 => ("ColourForests$Graph", "vertices", "I", false)
  | 1 => ("ColourForests$Graph", "colours", "I", false)
  | 2 => ("ColourForests$Graph", "edges", "I", false)
  | 3 => ("ColourForests$Graph", "changes", "I", false)
  | 4 => ("ColourForests$Graph", "limits", "[I", true)
  | 5 => ("ColourForests$Graph", "firstEnds", "[I", true)
  | 6 => ("ColourForests$Graph", "secondEnds", "[I", true)
  | 7 => ("ColourForests$Graph", "hues", "[I", true)
  | _ => ("ColourForests$Graph", "weights", "[I", true)
def tyX0 : Nat → FieldType := fun k => match k with
  | 0 => .int
  | 1 => .int
  | 2 => .int
  | 3 => .int
  | 4 => .array .int
  | 5 => .array .int
  | 6 => .array .int
  | 7 => .array .int
  | _ => .array .int
abbrev wsX00 : List Cond := u_ws RX0 TX0 9
theorem nmX0 : ∀ a, a < 9 → ∀ b, b < 9 → a ≠ b → (TX0 a).2.1 ≠ (TX0 b).2.1 := by decide +kernel
theorem tyX0_ok : ∀ k, k < 9 → parseFieldDescriptor (TX0 k).2.2.1 = some (tyX0 k) := by decide +kernel
abbrev cX0_init : ByteArray := prog_2_method_1_code
def yX0_init : MethodName := ⟨RX0, "<init>", "()V"⟩
abbrev cX0_restart : ByteArray := prog_2_method_2_code
def yX0_restart : MethodName := ⟨RX0, "restart", "(II)V"⟩
abbrev cX0_addEdge : ByteArray := prog_2_method_3_code
def yX0_addEdge : MethodName := ⟨RX0, "addEdge", "(IIII)I"⟩
abbrev cX0_setLimit : ByteArray := prog_2_method_4_code
def yX0_setLimit : MethodName := ⟨RX0, "setLimit", "(II)V"⟩
abbrev cX0_setWeight : ByteArray := prog_2_method_5_code
def yX0_setWeight : MethodName := ⟨RX0, "setWeight", "(II)V"⟩
abbrev cX0_hasVertex : ByteArray := prog_2_method_6_code
def yX0_hasVertex : MethodName := ⟨RX0, "hasVertex", "(I)Z"⟩
abbrev cX0_hasColour : ByteArray := prog_2_method_7_code
def yX0_hasColour : MethodName := ⟨RX0, "hasColour", "(I)Z"⟩
abbrev cX0_hasEdge : ByteArray := prog_2_method_8_code
def yX0_hasEdge : MethodName := ⟨RX0, "hasEdge", "(I)Z"⟩
abbrev cX0_hasSet : ByteArray := prog_2_method_9_code
def yX0_hasSet : MethodName := ⟨RX0, "hasSet", "(I)Z"⟩
abbrev cX0_allEdges : ByteArray := prog_2_method_10_code
def yX0_allEdges : MethodName := ⟨RX0, "allEdges", "()I"⟩
abbrev cX0_loneParts : ByteArray := prog_2_method_11_code
def yX0_loneParts : MethodName := ⟨RX0, "loneParts", "()I"⟩
abbrev cX0_joinsTwoParts : ByteArray := prog_2_method_12_code
def yX0_joinsTwoParts : MethodName := ⟨RX0, "joinsTwoParts", "(II)Z"⟩
abbrev cX0_partsJoinedBy : ByteArray := prog_2_method_13_code
def yX0_partsJoinedBy : MethodName := ⟨RX0, "partsJoinedBy", "(II)I"⟩
abbrev cX0_fullRoom : ByteArray := prog_2_method_14_code
def yX0_fullRoom : MethodName := ⟨RX0, "fullRoom", "()I"⟩
abbrev cX0_hasRoom : ByteArray := prog_2_method_15_code
def yX0_hasRoom : MethodName := ⟨RX0, "hasRoom", "(II)Z"⟩
abbrev cX0_roomAfter : ByteArray := prog_2_method_16_code
def yX0_roomAfter : MethodName := ⟨RX0, "roomAfter", "(II)I"⟩
def RX1 : String := "ColourForests$Kind"
def TX1 : u_T := fun k => match k with
  | _ => ("", "", "", false)
def tyX1 : Nat → FieldType := fun k => match k with
  | _ => .int
abbrev wsX10 : List Cond := u_ws RX1 TX1 0
theorem nmX1 : ∀ a, a < 0 → ∀ b, b < 0 → a ≠ b → (TX1 a).2.1 ≠ (TX1 b).2.1 := by decide +kernel
theorem tyX1_ok : ∀ k, k < 0 → parseFieldDescriptor (TX1 k).2.2.1 = some (tyX1 k) := by decide +kernel
abbrev cX1_init : ByteArray := prog_3_method_1_code
def yX1_init : MethodName := ⟨RX1, "<init>", "(LColourForests$Graph;)V"⟩
abbrev cX1_allows : ByteArray := prog_3_method_3_code
def yX1_allows : MethodName := ⟨RX1, "allows", "(I)Z"⟩
abbrev cX1_circuitWithin : ByteArray := prog_3_method_4_code
def yX1_circuitWithin : MethodName := ⟨RX1, "circuitWithin", "(I)I"⟩
abbrev cX1_closureOf : ByteArray := prog_3_method_5_code
def yX1_closureOf : MethodName := ⟨RX1, "closureOf", "(I)I"⟩
def RX2 : String := "ColourForests$LimitKind"
def TX2 : u_T := fun k => match k with
  | _ => ("ColourForests$Kind", "graph", "LColourForests$Graph;", true)
def tyX2 : Nat → FieldType := fun k => match k with
  | _ => .object "ColourForests$Graph"
abbrev wsX20 : List Cond := u_ws RX2 TX2 1
theorem nmX2 : ∀ a, a < 1 → ∀ b, b < 1 → a ≠ b → (TX2 a).2.1 ≠ (TX2 b).2.1 := by decide +kernel
theorem tyX2_ok : ∀ k, k < 1 → parseFieldDescriptor (TX2 k).2.2.1 = some (tyX2 k) := by decide +kernel
abbrev cX2_init : ByteArray := prog_4_method_1_code
def yX2_init : MethodName := ⟨RX2, "<init>", "(LColourForests$Graph;)V"⟩
abbrev cX2_rankOf : ByteArray := prog_4_method_2_code
def yX2_rankOf : MethodName := ⟨RX2, "rankOf", "(I)I"⟩
def RX3 : String := "ColourForests$RinglessKind"
def TX3 : u_T := fun k => match k with
  | _ => ("ColourForests$Kind", "graph", "LColourForests$Graph;", true)
def tyX3 : Nat → FieldType := fun k => match k with
  | _ => .object "ColourForests$Graph"
abbrev wsX30 : List Cond := u_ws RX3 TX3 1
theorem nmX3 : ∀ a, a < 1 → ∀ b, b < 1 → a ≠ b → (TX3 a).2.1 ≠ (TX3 b).2.1 := by decide +kernel
theorem tyX3_ok : ∀ k, k < 1 → parseFieldDescriptor (TX3 k).2.2.1 = some (tyX3 k) := by decide +kernel
abbrev cX3_init : ByteArray := prog_5_method_1_code
def yX3_init : MethodName := ⟨RX3, "<init>", "(LColourForests$Graph;)V"⟩
abbrev cX3_rankOf : ByteArray := prog_5_method_2_code
def yX3_rankOf : MethodName := ⟨RX3, "rankOf", "(I)I"⟩
def RX4 : String := "ColourForests$Survey"
def TX4 : u_T := fun k => match k with
  | 0 => ("ColourForests$Survey", "graph", "LColourForests$Graph;", true)
  | 1 => ("ColourForests$Survey", "changesSeen", "I", false)
  | 2 => ("ColourForests$Survey", "widestForests", "I", false)
  | 3 => ("ColourForests$Survey", "commonSets", "I", false)
  | 4 => ("ColourForests$Survey", "most", "I", false)
  | 5 => ("ColourForests$Survey", "dearestSets", "[I", true)
  | 6 => ("ColourForests$Survey", "dearestWeights", "[I", true)
  | 7 => ("ColourForests$Survey", "widest", "I", false)
  | 8 => ("ColourForests$Survey", "partsFrom", "[I", true)
  | 9 => ("ColourForests$Survey", "roomFrom", "[I", true)
  | _ => ("ColourForests$Survey", "weightFrom", "[I", true)
def tyX4 : Nat → FieldType := fun k => match k with
  | 0 => .object "ColourForests$Graph"
  | 1 => .int
  | 2 => .int
  | 3 => .int
  | 4 => .int
  | 5 => .array .int
  | 6 => .array .int
  | 7 => .int
  | 8 => .array .int
  | 9 => .array .int
  | _ => .array .int
abbrev wsX40 : List Cond := u_ws RX4 TX4 11
theorem nmX4 : ∀ a, a < 11 → ∀ b, b < 11 → a ≠ b → (TX4 a).2.1 ≠ (TX4 b).2.1 := by decide +kernel
theorem tyX4_ok : ∀ k, k < 11 → parseFieldDescriptor (TX4 k).2.2.1 = some (tyX4 k) := by decide +kernel
abbrev cX4_init : ByteArray := prog_6_method_1_code
def yX4_init : MethodName := ⟨RX4, "<init>", "(LColourForests$Graph;)V"⟩
abbrev cX4_hasSize : ByteArray := prog_6_method_2_code
def yX4_hasSize : MethodName := ⟨RX4, "hasSize", "(I)Z"⟩
abbrev cX4_refresh : ByteArray := prog_6_method_3_code
def yX4_refresh : MethodName := ⟨RX4, "refresh", "()V"⟩
abbrev cX4_walk : ByteArray := prog_6_method_4_code
def yX4_walk : MethodName := ⟨RX4, "walk", "()V"⟩
abbrev cX4_begin : ByteArray := prog_6_method_5_code
def yX4_begin : MethodName := ⟨RX4, "begin", "()V"⟩
abbrev cX4_placeAbove : ByteArray := prog_6_method_6_code
def yX4_placeAbove : MethodName := ⟨RX4, "placeAbove", "(I)I"⟩
abbrev cX4_enter : ByteArray := prog_6_method_7_code
def yX4_enter : MethodName := ⟨RX4, "enter", "(II)Z"⟩
abbrev cX4_note : ByteArray := prog_6_method_8_code
def yX4_note : MethodName := ⟨RX4, "note", "(II)V"⟩
abbrev cX4_noteForest : ByteArray := prog_6_method_9_code
def yX4_noteForest : MethodName := ⟨RX4, "noteForest", "(I)V"⟩
abbrev cX4_noteCommon : ByteArray := prog_6_method_10_code
def yX4_noteCommon : MethodName := ⟨RX4, "noteCommon", "(III)V"⟩
def RX5 : String := "ColourForests"
def TX5 : u_T := fun k => match k with
  | 0 => ("ColourForests", "graph", "LColourForests$Graph;", true)
  | 1 => ("ColourForests", "ringless", "LColourForests$Kind;", true)
  | 2 => ("ColourForests", "withinLimits", "LColourForests$Kind;", true)
  | _ => ("ColourForests", "survey", "LColourForests$Survey;", true)
def tyX5 : Nat → FieldType := fun k => match k with
  | 0 => .object "ColourForests$Graph"
  | 1 => .object "ColourForests$Kind"
  | 2 => .object "ColourForests$Kind"
  | _ => .object "ColourForests$Survey"
abbrev wsX50 : List Cond := u_ws RX5 TX5 4
theorem nmX5 : ∀ a, a < 4 → ∀ b, b < 4 → a ≠ b → (TX5 a).2.1 ≠ (TX5 b).2.1 := by decide +kernel
theorem tyX5_ok : ∀ k, k < 4 → parseFieldDescriptor (TX5 k).2.2.1 = some (tyX5 k) := by decide +kernel
abbrev cX5_init : ByteArray := prog_1_method_1_code
def yX5_init : MethodName := ⟨RX5, "<init>", "()V"⟩
abbrev cX5_make : ByteArray := prog_1_method_2_code
def yX5_make : MethodName := ⟨RX5, "make", "(II)V"⟩
abbrev cX5_edge : ByteArray := prog_1_method_3_code
def yX5_edge : MethodName := ⟨RX5, "edge", "(IIII)I"⟩
abbrev cX5_limit : ByteArray := prog_1_method_4_code
def yX5_limit : MethodName := ⟨RX5, "limit", "(II)V"⟩
abbrev cX5_weigh : ByteArray := prog_1_method_5_code
def yX5_weigh : MethodName := ⟨RX5, "weigh", "(II)V"⟩
abbrev cX5_count : ByteArray := prog_1_method_6_code
def yX5_count : MethodName := ⟨RX5, "count", "(I)I"⟩
abbrev cX5_rank : ByteArray := prog_1_method_7_code
def yX5_rank : MethodName := ⟨RX5, "rank", "(II)I"⟩
abbrev cX5_free : ByteArray := prog_1_method_8_code
def yX5_free : MethodName := ⟨RX5, "free", "(II)I"⟩
abbrev cX5_circuit : ByteArray := prog_1_method_9_code
def yX5_circuit : MethodName := ⟨RX5, "circuit", "(III)I"⟩
abbrev cX5_closure : ByteArray := prog_1_method_10_code
def yX5_closure : MethodName := ⟨RX5, "closure", "(II)I"⟩
abbrev cX5_most : ByteArray := prog_1_method_11_code
def yX5_most : MethodName := ⟨RX5, "most", "()I"⟩
abbrev cX5_dearest : ByteArray := prog_1_method_12_code
def yX5_dearest : MethodName := ⟨RX5, "dearest", "(I)I"⟩
abbrev cX5_weight : ByteArray := prog_1_method_13_code
def yX5_weight : MethodName := ⟨RX5, "weight", "(I)I"⟩
abbrev cX5_heaviest : ByteArray := prog_1_method_14_code
def yX5_heaviest : MethodName := ⟨RX5, "heaviest", "()I"⟩
abbrev cX5_witness : ByteArray := prog_1_method_15_code
def yX5_witness : MethodName := ⟨RX5, "witness", "(I)I"⟩
abbrev cX5_check : ByteArray := prog_1_method_16_code
def yX5_check : MethodName := ⟨RX5, "check", "()I"⟩
abbrev cX5_told : ByteArray := prog_1_method_17_code
def yX5_told : MethodName := ⟨RX5, "told", "(Z)I"⟩
abbrev cX5_within : ByteArray := prog_1_method_18_code
def yX5_within : MethodName := ⟨RX5, "within", "(III)Z"⟩
abbrev cX5_isWeight : ByteArray := prog_1_method_19_code
def yX5_isWeight : MethodName := ⟨RX5, "isWeight", "(I)Z"⟩
abbrev cX5_hasBit : ByteArray := prog_1_method_20_code
def yX5_hasBit : MethodName := ⟨RX5, "hasBit", "(II)Z"⟩
abbrev cX5_cell : ByteArray := prog_1_method_21_code
def yX5_cell : MethodName := ⟨RX5, "cell", "(II)I"⟩
abbrev cX5_withCell : ByteArray := prog_1_method_22_code
def yX5_withCell : MethodName := ⟨RX5, "withCell", "(III)I"⟩
abbrev cX5_judgeOf : ByteArray := prog_1_method_23_code
def yX5_judgeOf : MethodName := ⟨RX5, "judgeOf", "(I)LColourForests$Kind;"⟩
abbrev cX5_isCommon : ByteArray := prog_1_method_24_code
def yX5_isCommon : MethodName := ⟨RX5, "isCommon", "(I)Z"⟩
abbrev cX5_isWitness : ByteArray := prog_1_method_25_code
def yX5_isWitness : MethodName := ⟨RX5, "isWitness", "(I)Z"⟩
abbrev cX5_leastWitness : ByteArray := prog_1_method_26_code
def yX5_leastWitness : MethodName := ⟨RX5, "leastWitness", "()I"⟩
abbrev cX5_greatestWitness : ByteArray := prog_1_method_27_code
def yX5_greatestWitness : MethodName := ⟨RX5, "greatestWitness", "()I"⟩
abbrev cX5_leastSplit : ByteArray := prog_1_method_28_code
def yX5_leastSplit : MethodName := ⟨RX5, "leastSplit", "(LColourForests$Kind;LColourForests$Kind;)I"⟩
abbrev cX5_dearestAreSuch : ByteArray := prog_1_method_29_code
def yX5_dearestAreSuch : MethodName := ⟨RX5, "dearestAreSuch", "()Z"⟩
abbrev cX5_gainsNeverRise : ByteArray := prog_1_method_30_code
def yX5_gainsNeverRise : MethodName := ⟨RX5, "gainsNeverRise", "()Z"⟩
def RX6 : String := "ColourForestsModel"
def TX6 : u_T := fun k => match k with
  | 0 => ("ColourForestsModel", "thrown", "I", false)
  | 1 => ("ColourForestsModel", "vertices", "I", false)
  | 2 => ("ColourForestsModel", "colours", "I", false)
  | 3 => ("ColourForestsModel", "edges", "I", false)
  | 4 => ("ColourForestsModel", "limits", "[I", true)
  | 5 => ("ColourForestsModel", "firsts", "[I", true)
  | 6 => ("ColourForestsModel", "seconds", "[I", true)
  | 7 => ("ColourForestsModel", "colourOf", "[I", true)
  | 8 => ("ColourForestsModel", "weights", "[I", true)
  | 9 => ("ColourForestsModel", "known", "Z", false)
  | 10 => ("ColourForestsModel", "free", "[Z", true)
  | 11 => ("ColourForestsModel", "ranks", "[I", true)
  | 12 => ("ColourForestsModel", "best", "[I", true)
  | 13 => ("ColourForestsModel", "most", "I", false)
  | 14 => ("ColourForestsModel", "parts", "[I", true)
  | _ => ("ColourForestsModel", "counts", "[I", true)
def tyX6 : Nat → FieldType := fun k => match k with
  | 0 => .int
  | 1 => .int
  | 2 => .int
  | 3 => .int
  | 4 => .array .int
  | 5 => .array .int
  | 6 => .array .int
  | 7 => .array .int
  | 8 => .array .int
  | 9 => .boolean
  | 10 => .array .boolean
  | 11 => .array .int
  | 12 => .array .int
  | 13 => .int
  | 14 => .array .int
  | _ => .array .int
abbrev wsX60 : List Cond := u_ws RX6 TX6 16
theorem nmX6 : ∀ a, a < 16 → ∀ b, b < 16 → a ≠ b → (TX6 a).2.1 ≠ (TX6 b).2.1 := by decide +kernel
theorem tyX6_ok : ∀ k, k < 16 → parseFieldDescriptor (TX6 k).2.2.1 = some (tyX6 k) := by decide +kernel
abbrev cX6_init : ByteArray := prog_8_method_1_code
def yX6_init : MethodName := ⟨RX6, "<init>", "()V"⟩
abbrev cX6_thrown : ByteArray := prog_8_method_2_code
def yX6_thrown : MethodName := ⟨RX6, "thrown", "()I"⟩
abbrev cX6_refuses : ByteArray := prog_8_method_3_code
def yX6_refuses : MethodName := ⟨RX6, "refuses", "(I)Z"⟩
abbrev cX6_make : ByteArray := prog_8_method_4_code
def yX6_make : MethodName := ⟨RX6, "make", "(II)V"⟩
abbrev cX6_isHeavy : ByteArray := prog_8_method_5_code
def yX6_isHeavy : MethodName := ⟨RX6, "isHeavy", "(I)Z"⟩
abbrev cX6_edge : ByteArray := prog_8_method_6_code
def yX6_edge : MethodName := ⟨RX6, "edge", "(IIII)I"⟩
abbrev cX6_limit : ByteArray := prog_8_method_7_code
def yX6_limit : MethodName := ⟨RX6, "limit", "(II)V"⟩
abbrev cX6_weigh : ByteArray := prog_8_method_8_code
def yX6_weigh : MethodName := ⟨RX6, "weigh", "(II)V"⟩
abbrev cX6_has : ByteArray := prog_8_method_9_code
def yX6_has : MethodName := ⟨RX6, "has", "(II)Z"⟩
abbrev cX6_size : ByteArray := prog_8_method_10_code
def yX6_size : MethodName := ⟨RX6, "size", "(I)I"⟩
abbrev cX6_hasNoRing : ByteArray := prog_8_method_11_code
def yX6_hasNoRing : MethodName := ⟨RX6, "hasNoRing", "(I)Z"⟩
abbrev cX6_keepsLimits : ByteArray := prog_8_method_12_code
def yX6_keepsLimits : MethodName := ⟨RX6, "keepsLimits", "(I)Z"⟩
abbrev cX6_weightOf : ByteArray := prog_8_method_13_code
def yX6_weightOf : MethodName := ⟨RX6, "weightOf", "(I)I"⟩
abbrev cX6_learn : ByteArray := prog_8_method_14_code
def yX6_learn : MethodName := ⟨RX6, "learn", "()V"⟩
abbrev cX6_isSet : ByteArray := prog_8_method_15_code
def yX6_isSet : MethodName := ⟨RX6, "isSet", "(I)Z"⟩
abbrev cX6_isKind : ByteArray := prog_8_method_16_code
def yX6_isKind : MethodName := ⟨RX6, "isKind", "(I)Z"⟩
abbrev cX6_count : ByteArray := prog_8_method_17_code
def yX6_count : MethodName := ⟨RX6, "count", "(I)I"⟩
abbrev cX6_rank : ByteArray := prog_8_method_18_code
def yX6_rank : MethodName := ⟨RX6, "rank", "(II)I"⟩
abbrev cX6_free : ByteArray := prog_8_method_19_code
def yX6_free : MethodName := ⟨RX6, "free", "(II)I"⟩
abbrev cX6_circuit : ByteArray := prog_8_method_20_code
def yX6_circuit : MethodName := ⟨RX6, "circuit", "(III)I"⟩
abbrev cX6_closure : ByteArray := prog_8_method_21_code
def yX6_closure : MethodName := ⟨RX6, "closure", "(II)I"⟩
abbrev cX6_most : ByteArray := prog_8_method_22_code
def yX6_most : MethodName := ⟨RX6, "most", "()I"⟩
abbrev cX6_dearest : ByteArray := prog_8_method_23_code
def yX6_dearest : MethodName := ⟨RX6, "dearest", "(I)I"⟩
abbrev cX6_weight : ByteArray := prog_8_method_24_code
def yX6_weight : MethodName := ⟨RX6, "weight", "(I)I"⟩
abbrev cX6_heaviest : ByteArray := prog_8_method_25_code
def yX6_heaviest : MethodName := ⟨RX6, "heaviest", "()I"⟩
abbrev cX6_witness : ByteArray := prog_8_method_26_code
def yX6_witness : MethodName := ⟨RX6, "witness", "(I)I"⟩
abbrev cX6_check : ByteArray := prog_8_method_27_code
def yX6_check : MethodName := ⟨RX6, "check", "()I"⟩
def RJx145de : String := "java/io/Serializable"
def TJx145de : u_T := fun k => match k with
  | _ => ("", "", "", false)
def tyJx145de : Nat → FieldType := fun k => match k with
  | _ => .int
abbrev wsJx145de0 : List Cond := u_ws RJx145de TJx145de 0
theorem nmJx145de : ∀ a, a < 0 → ∀ b, b < 0 → a ≠ b → (TJx145de a).2.1 ≠ (TJx145de b).2.1 := by decide +kernel
theorem tyJx145de_ok : ∀ k, k < 0 → parseFieldDescriptor (TJx145de k).2.2.1 = some (tyJx145de k) := by decide +kernel
def RJ6 : String := "java/lang/Integer"
def TJ6 : u_T := fun k => match k with
  | _ => ("", "", "", false)
def tyJ6 : Nat → FieldType := fun k => match k with
  | _ => .int
abbrev wsJ60 : List Cond := u_ws RJ6 TJ6 0
theorem nmJ6 : ∀ a, a < 0 → ∀ b, b < 0 → a ≠ b → (TJ6 a).2.1 ≠ (TJ6 b).2.1 := by decide +kernel
theorem tyJ6_ok : ∀ k, k < 0 → parseFieldDescriptor (TJ6 k).2.2.1 = some (tyJ6 k) := by decide +kernel
abbrev cJ6_lowestOneBit_0f7a4 : ByteArray := prog_12_method_46_code
def yJ6_lowestOneBit_0f7a4 : MethodName := ⟨RJ6, "lowestOneBit", "(I)I"⟩
abbrev cJ6_numberOfTrailingZeros_0f7a4 : ByteArray := prog_12_method_48_code
def yJ6_numberOfTrailingZeros_0f7a4 : MethodName := ⟨RJ6, "numberOfTrailingZeros", "(I)I"⟩
abbrev cJ6_bitCount_0f7a4 : ByteArray := prog_12_method_49_code
def yJ6_bitCount_0f7a4 : MethodName := ⟨RJ6, "bitCount", "(I)I"⟩
def RJ9 : String := "java/lang/Math"
def TJ9 : u_T := fun k => match k with
  | _ => ("", "", "", false)
def tyJ9 : Nat → FieldType := fun k => match k with
  | _ => .int
abbrev wsJ90 : List Cond := u_ws RJ9 TJ9 0
theorem nmJ9 : ∀ a, a < 0 → ∀ b, b < 0 → a ≠ b → (TJ9 a).2.1 ≠ (TJ9 b).2.1 := by decide +kernel
theorem tyJ9_ok : ∀ k, k < 0 → parseFieldDescriptor (TJ9 k).2.2.1 = some (tyJ9 k) := by decide +kernel
abbrev cJ9_max_7cf53 : ByteArray := prog_13_method_65_code
def yJ9_max_7cf53 : MethodName := ⟨RJ9, "max", "(II)I"⟩
def RJ0 : String := "java/lang/String"
def TJ0 : u_T := fun k => match k with
  | _ => ("", "", "", false)
def tyJ0 : Nat → FieldType := fun k => match k with
  | _ => .int
abbrev wsJ00 : List Cond := u_ws RJ0 TJ0 0
theorem nmJ0 : ∀ a, a < 0 → ∀ b, b < 0 → a ≠ b → (TJ0 a).2.1 ≠ (TJ0 b).2.1 := by decide +kernel
theorem tyJ0_ok : ∀ k, k < 0 → parseFieldDescriptor (TJ0 k).2.2.1 = some (tyJ0 k) := by decide +kernel
def RJ7 : String := "java/util/Arrays"
def TJ7 : u_T := fun k => match k with
  | _ => ("", "", "", false)
def tyJ7 : Nat → FieldType := fun k => match k with
  | _ => .int
abbrev wsJ70 : List Cond := u_ws RJ7 TJ7 0
theorem nmJ7 : ∀ a, a < 0 → ∀ b, b < 0 → a ≠ b → (TJ7 a).2.1 ≠ (TJ7 b).2.1 := by decide +kernel
theorem tyJ7_ok : ∀ k, k < 0 → parseFieldDescriptor (TJ7 k).2.2.1 = some (tyJ7 k) := by decide +kernel
abbrev cJ7_fill_53178 : ByteArray := prog_17_method_103_code
def yJ7_fill_53178 : MethodName := ⟨RJ7, "fill", "([II)V"⟩
def RL : String := "ColourForestsLaw"
abbrev cL_make : ByteArray := method_3_code
def yL_make : MethodName := ⟨RL, "make", "(LColourForests;II)I"⟩
abbrev cL_limit : ByteArray := method_4_code
def yL_limit : MethodName := ⟨RL, "limit", "(LColourForests;II)I"⟩
abbrev cL_weigh : ByteArray := method_5_code
def yL_weigh : MethodName := ⟨RL, "weigh", "(LColourForests;II)I"⟩
abbrev cL_weight : ByteArray := method_6_code
def yL_weight : MethodName := ⟨RL, "weight", "(LColourForests;I[J)I"⟩
abbrev cL_law : ByteArray := code
def yL_law : MethodName := ⟨RL, "law", "([I)Z"⟩
def wsX0_init : List Cond := .code yX0_init cX0_init 1 none :: ([.methodLink RX0 3 objectInit, .instanceMethod objectInit, .code objectInit ⟨#[0xb1]⟩ 1 none, .arrayClass .int, .fieldLink RX0 9 "ColourForests$Graph" "limits" "[I", .fieldLink RX0 15 "ColourForests$Graph" "firstEnds" "[I", .fieldLink RX0 18 "ColourForests$Graph" "secondEnds" "[I", .fieldLink RX0 21 "ColourForests$Graph" "hues" "[I", .fieldLink RX0 24 "ColourForests$Graph" "weights" "[I", .fieldLink RX0 27 "ColourForests$Graph" "vertices" "I", .fieldLink RX0 31 "ColourForests$Graph" "colours" "I"] ++ wsX00)
def wsJ7_fill_53178 : List Cond := .code yJ7_fill_53178 cJ7_fill_53178 4 none :: ([])
def wsX0_restart : List Cond := .code yX0_restart cX0_restart 3 none :: ([.fieldLink RX0 27 "ColourForests$Graph" "vertices" "I", .fieldLink RX0 31 "ColourForests$Graph" "colours" "I", .fieldLink RX0 34 "ColourForests$Graph" "edges" "I", .fieldLink RX0 9 "ColourForests$Graph" "limits" "[I", .fieldLink RX0 43 "ColourForests$Graph" "changes" "I", .methodLink RX0 37 yJ7_fill_53178, .static yJ7_fill_53178, .initialized RJ7, .code yJ7_fill_53178 cJ7_fill_53178 4 none] ++ wsX00)
def wsX0_addEdge : List Cond := .code yX0_addEdge cX0_addEdge 6 (some .int) :: ([.fieldLink RX0 34 "ColourForests$Graph" "edges" "I", .fieldLink RX0 15 "ColourForests$Graph" "firstEnds" "[I", .fieldLink RX0 18 "ColourForests$Graph" "secondEnds" "[I", .fieldLink RX0 21 "ColourForests$Graph" "hues" "[I", .fieldLink RX0 24 "ColourForests$Graph" "weights" "[I", .fieldLink RX0 43 "ColourForests$Graph" "changes" "I"] ++ wsX00)
def wsX0_setLimit : List Cond := .code yX0_setLimit cX0_setLimit 3 none :: ([.fieldLink RX0 9 "ColourForests$Graph" "limits" "[I", .fieldLink RX0 43 "ColourForests$Graph" "changes" "I"] ++ wsX00)
def wsX0_setWeight : List Cond := .code yX0_setWeight cX0_setWeight 3 none :: ([.fieldLink RX0 24 "ColourForests$Graph" "weights" "[I", .fieldLink RX0 43 "ColourForests$Graph" "changes" "I"] ++ wsX00)
def wsX5_within : List Cond := .code yX5_within cX5_within 3 (some .boolean) :: ([])
def wsX0_hasVertex : List Cond := .code yX0_hasVertex cX0_hasVertex 2 (some .boolean) :: ([.fieldLink RX0 27 "ColourForests$Graph" "vertices" "I", .static yX5_within, .initialized RX5, .code yX5_within cX5_within 3 (some .boolean)] ++ wsX00)
def wsX0_hasColour : List Cond := .code yX0_hasColour cX0_hasColour 2 (some .boolean) :: ([.fieldLink RX0 31 "ColourForests$Graph" "colours" "I", .static yX5_within, .initialized RX5, .code yX5_within cX5_within 3 (some .boolean)] ++ wsX00)
def wsX0_hasEdge : List Cond := .code yX0_hasEdge cX0_hasEdge 2 (some .boolean) :: ([.fieldLink RX0 34 "ColourForests$Graph" "edges" "I", .static yX5_within, .initialized RX5, .code yX5_within cX5_within 3 (some .boolean)] ++ wsX00)
def wsX0_allEdges : List Cond := .code yX0_allEdges cX0_allEdges 1 (some .int) :: ([.fieldLink RX0 34 "ColourForests$Graph" "edges" "I"] ++ wsX00)
def wsX0_hasSet : List Cond := .code yX0_hasSet cX0_hasSet 2 (some .boolean) :: ([.methodLink RX0 50 yX0_allEdges, .instanceMethod yX0_allEdges, .selects RX0 yX0_allEdges yX0_allEdges, .initialized RX0, .code yX0_allEdges cX0_allEdges 1 (some .int), .fieldLink RX0 34 "ColourForests$Graph" "edges" "I"] ++ wsX00)
def wsX5_withCell : List Cond := .code yX5_withCell cX5_withCell 4 (some .int) :: ([])
def wsX0_loneParts : List Cond := .code yX0_loneParts cX0_loneParts 3 (some .int) :: ([.fieldLink RX0 27 "ColourForests$Graph" "vertices" "I", .static yX5_withCell, .initialized RX5, .code yX5_withCell cX5_withCell 4 (some .int)] ++ wsX00)
def wsX5_cell : List Cond := .code yX5_cell cX5_cell 2 (some .int) :: ([])
def wsX0_joinsTwoParts : List Cond := .code yX0_joinsTwoParts cX0_joinsTwoParts 3 (some .boolean) :: ([.fieldLink RX0 15 "ColourForests$Graph" "firstEnds" "[I", .fieldLink RX0 18 "ColourForests$Graph" "secondEnds" "[I", .static yX5_cell, .initialized RX5, .code yX5_cell cX5_cell 2 (some .int)] ++ wsX00)
def wsX0_partsJoinedBy : List Cond := .code yX0_partsJoinedBy cX0_partsJoinedBy 7 (some .int) :: ([.fieldLink RX0 15 "ColourForests$Graph" "firstEnds" "[I", .fieldLink RX0 18 "ColourForests$Graph" "secondEnds" "[I", .fieldLink RX0 27 "ColourForests$Graph" "vertices" "I", .static yX5_cell, .initialized RX5, .code yX5_cell cX5_cell 2 (some .int), .static yX5_withCell, .code yX5_withCell cX5_withCell 4 (some .int)] ++ wsX00)
def wsX0_fullRoom : List Cond := .code yX0_fullRoom cX0_fullRoom 3 (some .int) :: ([.fieldLink RX0 31 "ColourForests$Graph" "colours" "I", .fieldLink RX0 9 "ColourForests$Graph" "limits" "[I", .static yX5_withCell, .initialized RX5, .code yX5_withCell cX5_withCell 4 (some .int)] ++ wsX00)
def wsX0_hasRoom : List Cond := .code yX0_hasRoom cX0_hasRoom 3 (some .boolean) :: ([.fieldLink RX0 21 "ColourForests$Graph" "hues" "[I", .static yX5_cell, .initialized RX5, .code yX5_cell cX5_cell 2 (some .int)] ++ wsX00)
def wsX0_roomAfter : List Cond := .code yX0_roomAfter cX0_roomAfter 3 (some .int) :: ([.fieldLink RX0 21 "ColourForests$Graph" "hues" "[I", .static yX5_cell, .initialized RX5, .code yX5_cell cX5_cell 2 (some .int), .static yX5_withCell, .code yX5_withCell cX5_withCell 4 (some .int)] ++ wsX00)
def wsX1_init : List Cond := .code yX1_init cX1_init 2 none :: ([.methodLink RX1 1 objectInit, .instanceMethod objectInit, .code objectInit ⟨#[0xb1]⟩ 1 none, .fieldLink RX1 7 "ColourForests$Kind" "graph" "LColourForests$Graph;"] ++ wsX20 ++ wsX30)
def wsX5_hasBit : List Cond := .code yX5_hasBit cX5_hasBit 2 (some .boolean) :: ([])
def wsX2_rankOf_r1 : List Cond := [Cond.fieldLink RX2 7 "ColourForests$LimitKind" "graph" "LColourForests$Graph;", Cond.sameField "ColourForests$LimitKind" "ColourForests$Kind" "graph" "LColourForests$Graph;", Cond.fieldLink RX2 19 "ColourForests$Graph" "edges" "I", Cond.methodLink RX2 13 yX0_fullRoom, Cond.instanceMethod yX0_fullRoom, Cond.selects RX0 yX0_fullRoom yX0_fullRoom, Cond.initialized RX0, Cond.code yX0_fullRoom cX0_fullRoom 3 (some .int), Cond.fieldLink RX0 31 "ColourForests$Graph" "colours" "I", Cond.fieldLink RX0 9 "ColourForests$Graph" "limits" "[I", Cond.static yX5_withCell, Cond.initialized RX5, Cond.code yX5_withCell cX5_withCell 4 (some .int), Cond.static yX5_hasBit, Cond.code yX5_hasBit cX5_hasBit 2 (some .boolean), Cond.methodLink RX2 29 yX0_hasRoom, Cond.instanceMethod yX0_hasRoom, Cond.selects RX0 yX0_hasRoom yX0_hasRoom, Cond.code yX0_hasRoom cX0_hasRoom 3 (some .boolean), Cond.fieldLink RX0 21 "ColourForests$Graph" "hues" "[I", Cond.static yX5_cell, Cond.code yX5_cell cX5_cell 2 (some .int), Cond.methodLink RX2 32 yX0_roomAfter, Cond.instanceMethod yX0_roomAfter]
def wsX2_rankOf_r2 : List Cond := [Cond.selects RX0 yX0_roomAfter yX0_roomAfter, Cond.code yX0_roomAfter cX0_roomAfter 3 (some .int)]
def wsX2_rankOf : List Cond := .code yX2_rankOf cX2_rankOf 5 (some .int) :: ((wsX2_rankOf_r1 ++ wsX2_rankOf_r2) ++ wsX20 ++ wsX30 ++ wsX00)
def wsX3_rankOf_r1 : List Cond := [Cond.fieldLink RX3 7 "ColourForests$RinglessKind" "graph" "LColourForests$Graph;", Cond.sameField "ColourForests$RinglessKind" "ColourForests$Kind" "graph" "LColourForests$Graph;", Cond.fieldLink RX3 19 "ColourForests$Graph" "edges" "I", Cond.methodLink RX3 13 yX0_loneParts, Cond.instanceMethod yX0_loneParts, Cond.selects RX0 yX0_loneParts yX0_loneParts, Cond.initialized RX0, Cond.code yX0_loneParts cX0_loneParts 3 (some .int), Cond.fieldLink RX0 27 "ColourForests$Graph" "vertices" "I", Cond.static yX5_withCell, Cond.initialized RX5, Cond.code yX5_withCell cX5_withCell 4 (some .int), Cond.static yX5_hasBit, Cond.code yX5_hasBit cX5_hasBit 2 (some .boolean), Cond.methodLink RX3 29 yX0_joinsTwoParts, Cond.instanceMethod yX0_joinsTwoParts, Cond.selects RX0 yX0_joinsTwoParts yX0_joinsTwoParts, Cond.code yX0_joinsTwoParts cX0_joinsTwoParts 3 (some .boolean), Cond.fieldLink RX0 15 "ColourForests$Graph" "firstEnds" "[I", Cond.fieldLink RX0 18 "ColourForests$Graph" "secondEnds" "[I", Cond.static yX5_cell, Cond.code yX5_cell cX5_cell 2 (some .int), Cond.methodLink RX3 32 yX0_partsJoinedBy, Cond.instanceMethod yX0_partsJoinedBy]
def wsX3_rankOf_r2 : List Cond := [Cond.selects RX0 yX0_partsJoinedBy yX0_partsJoinedBy, Cond.code yX0_partsJoinedBy cX0_partsJoinedBy 7 (some .int)]
def wsX3_rankOf : List Cond := .code yX3_rankOf cX3_rankOf 5 (some .int) :: ((wsX3_rankOf_r1 ++ wsX3_rankOf_r2) ++ wsX20 ++ wsX30 ++ wsX00)
def wsJ6_bitCount_0f7a4 : List Cond := .code yJ6_bitCount_0f7a4 cJ6_bitCount_0f7a4 1 (some .int) :: ([.constant RJ6 265 (1431655765), .constant RJ6 266 (858993459), .constant RJ6 267 (252645135)])
def wsX1_allows_r1 : List Cond := [Cond.methodLink RX1 13 ⟨"ColourForests$Kind", "rankOf", "(I)I"⟩, Cond.sameMethod "ColourForests$Kind" "ColourForests$Kind" "rankOf" "(I)I", Cond.selects RX2 ⟨"ColourForests$Kind", "rankOf", "(I)I"⟩ yX2_rankOf, Cond.instanceMethod yX2_rankOf, Cond.initialized RX2, Cond.code yX2_rankOf cX2_rankOf 5 (some .int), Cond.fieldLink RX2 7 "ColourForests$LimitKind" "graph" "LColourForests$Graph;", Cond.sameField "ColourForests$LimitKind" "ColourForests$Kind" "graph" "LColourForests$Graph;", Cond.fieldLink RX2 19 "ColourForests$Graph" "edges" "I", Cond.methodLink RX2 13 yX0_fullRoom, Cond.instanceMethod yX0_fullRoom, Cond.selects RX0 yX0_fullRoom yX0_fullRoom, Cond.initialized RX0, Cond.code yX0_fullRoom cX0_fullRoom 3 (some .int), Cond.fieldLink RX0 31 "ColourForests$Graph" "colours" "I", Cond.fieldLink RX0 9 "ColourForests$Graph" "limits" "[I", Cond.static yX5_withCell, Cond.initialized RX5, Cond.code yX5_withCell cX5_withCell 4 (some .int), Cond.static yX5_hasBit, Cond.code yX5_hasBit cX5_hasBit 2 (some .boolean), Cond.methodLink RX2 29 yX0_hasRoom, Cond.instanceMethod yX0_hasRoom, Cond.selects RX0 yX0_hasRoom yX0_hasRoom]
def wsX1_allows_r2 : List Cond := [Cond.code yX0_hasRoom cX0_hasRoom 3 (some .boolean), Cond.fieldLink RX0 21 "ColourForests$Graph" "hues" "[I", Cond.static yX5_cell, Cond.code yX5_cell cX5_cell 2 (some .int), Cond.methodLink RX2 32 yX0_roomAfter, Cond.instanceMethod yX0_roomAfter, Cond.selects RX0 yX0_roomAfter yX0_roomAfter, Cond.code yX0_roomAfter cX0_roomAfter 3 (some .int), Cond.selects RX3 ⟨"ColourForests$Kind", "rankOf", "(I)I"⟩ yX3_rankOf, Cond.instanceMethod yX3_rankOf, Cond.initialized RX3, Cond.code yX3_rankOf cX3_rankOf 5 (some .int), Cond.fieldLink RX3 7 "ColourForests$RinglessKind" "graph" "LColourForests$Graph;", Cond.sameField "ColourForests$RinglessKind" "ColourForests$Kind" "graph" "LColourForests$Graph;", Cond.fieldLink RX3 19 "ColourForests$Graph" "edges" "I", Cond.methodLink RX3 13 yX0_loneParts, Cond.instanceMethod yX0_loneParts, Cond.selects RX0 yX0_loneParts yX0_loneParts, Cond.code yX0_loneParts cX0_loneParts 3 (some .int), Cond.fieldLink RX0 27 "ColourForests$Graph" "vertices" "I", Cond.methodLink RX3 29 yX0_joinsTwoParts, Cond.instanceMethod yX0_joinsTwoParts, Cond.selects RX0 yX0_joinsTwoParts yX0_joinsTwoParts, Cond.code yX0_joinsTwoParts cX0_joinsTwoParts 3 (some .boolean)]
def wsX1_allows_r3 : List Cond := [Cond.fieldLink RX0 15 "ColourForests$Graph" "firstEnds" "[I", Cond.fieldLink RX0 18 "ColourForests$Graph" "secondEnds" "[I", Cond.methodLink RX3 32 yX0_partsJoinedBy, Cond.instanceMethod yX0_partsJoinedBy, Cond.selects RX0 yX0_partsJoinedBy yX0_partsJoinedBy, Cond.code yX0_partsJoinedBy cX0_partsJoinedBy 7 (some .int), Cond.methodLink RX1 17 yJ6_bitCount_0f7a4, Cond.static yJ6_bitCount_0f7a4, Cond.initialized RJ6, Cond.code yJ6_bitCount_0f7a4 cJ6_bitCount_0f7a4 1 (some .int), Cond.constant RJ6 265 (1431655765), Cond.constant RJ6 266 (858993459), Cond.constant RJ6 267 (252645135)]
def wsX1_allows : List Cond := .code yX1_allows cX1_allows 2 (some .boolean) :: ((wsX1_allows_r1 ++ (wsX1_allows_r2 ++ wsX1_allows_r3)) ++ wsX20 ++ wsX30 ++ wsX00)
def wsX1_circuitWithin_r1 : List Cond := [Cond.fieldLink RX1 7 "ColourForests$Kind" "graph" "LColourForests$Graph;", Cond.fieldLink RX1 22 "ColourForests$Graph" "edges" "I", Cond.methodLink RX1 13 ⟨"ColourForests$Kind", "rankOf", "(I)I"⟩, Cond.sameMethod "ColourForests$Kind" "ColourForests$Kind" "rankOf" "(I)I", Cond.selects RX2 ⟨"ColourForests$Kind", "rankOf", "(I)I"⟩ yX2_rankOf, Cond.instanceMethod yX2_rankOf, Cond.initialized RX2, Cond.code yX2_rankOf cX2_rankOf 5 (some .int), Cond.fieldLink RX2 7 "ColourForests$LimitKind" "graph" "LColourForests$Graph;", Cond.sameField "ColourForests$LimitKind" "ColourForests$Kind" "graph" "LColourForests$Graph;", Cond.fieldLink RX2 19 "ColourForests$Graph" "edges" "I", Cond.methodLink RX2 13 yX0_fullRoom, Cond.instanceMethod yX0_fullRoom, Cond.selects RX0 yX0_fullRoom yX0_fullRoom, Cond.initialized RX0, Cond.code yX0_fullRoom cX0_fullRoom 3 (some .int), Cond.fieldLink RX0 31 "ColourForests$Graph" "colours" "I", Cond.fieldLink RX0 9 "ColourForests$Graph" "limits" "[I", Cond.static yX5_withCell, Cond.initialized RX5, Cond.code yX5_withCell cX5_withCell 4 (some .int), Cond.static yX5_hasBit, Cond.code yX5_hasBit cX5_hasBit 2 (some .boolean), Cond.methodLink RX2 29 yX0_hasRoom]
def wsX1_circuitWithin_r2 : List Cond := [Cond.instanceMethod yX0_hasRoom, Cond.selects RX0 yX0_hasRoom yX0_hasRoom, Cond.code yX0_hasRoom cX0_hasRoom 3 (some .boolean), Cond.fieldLink RX0 21 "ColourForests$Graph" "hues" "[I", Cond.static yX5_cell, Cond.code yX5_cell cX5_cell 2 (some .int), Cond.methodLink RX2 32 yX0_roomAfter, Cond.instanceMethod yX0_roomAfter, Cond.selects RX0 yX0_roomAfter yX0_roomAfter, Cond.code yX0_roomAfter cX0_roomAfter 3 (some .int), Cond.selects RX3 ⟨"ColourForests$Kind", "rankOf", "(I)I"⟩ yX3_rankOf, Cond.instanceMethod yX3_rankOf, Cond.initialized RX3, Cond.code yX3_rankOf cX3_rankOf 5 (some .int), Cond.fieldLink RX3 7 "ColourForests$RinglessKind" "graph" "LColourForests$Graph;", Cond.sameField "ColourForests$RinglessKind" "ColourForests$Kind" "graph" "LColourForests$Graph;", Cond.fieldLink RX3 19 "ColourForests$Graph" "edges" "I", Cond.methodLink RX3 13 yX0_loneParts, Cond.instanceMethod yX0_loneParts, Cond.selects RX0 yX0_loneParts yX0_loneParts, Cond.code yX0_loneParts cX0_loneParts 3 (some .int), Cond.fieldLink RX0 27 "ColourForests$Graph" "vertices" "I", Cond.methodLink RX3 29 yX0_joinsTwoParts, Cond.instanceMethod yX0_joinsTwoParts]
def wsX1_circuitWithin_r3 : List Cond := [Cond.selects RX0 yX0_joinsTwoParts yX0_joinsTwoParts, Cond.code yX0_joinsTwoParts cX0_joinsTwoParts 3 (some .boolean), Cond.fieldLink RX0 15 "ColourForests$Graph" "firstEnds" "[I", Cond.fieldLink RX0 18 "ColourForests$Graph" "secondEnds" "[I", Cond.methodLink RX3 32 yX0_partsJoinedBy, Cond.instanceMethod yX0_partsJoinedBy, Cond.selects RX0 yX0_partsJoinedBy yX0_partsJoinedBy, Cond.code yX0_partsJoinedBy cX0_partsJoinedBy 7 (some .int)]
def wsX1_circuitWithin : List Cond := .code yX1_circuitWithin cX1_circuitWithin 6 (some .int) :: ((wsX1_circuitWithin_r1 ++ (wsX1_circuitWithin_r2 ++ wsX1_circuitWithin_r3)) ++ wsX20 ++ wsX30 ++ wsX00)
def wsX1_closureOf_r1 : List Cond := [Cond.fieldLink RX1 7 "ColourForests$Kind" "graph" "LColourForests$Graph;", Cond.fieldLink RX1 22 "ColourForests$Graph" "edges" "I", Cond.methodLink RX1 13 ⟨"ColourForests$Kind", "rankOf", "(I)I"⟩, Cond.sameMethod "ColourForests$Kind" "ColourForests$Kind" "rankOf" "(I)I", Cond.selects RX2 ⟨"ColourForests$Kind", "rankOf", "(I)I"⟩ yX2_rankOf, Cond.instanceMethod yX2_rankOf, Cond.initialized RX2, Cond.code yX2_rankOf cX2_rankOf 5 (some .int), Cond.fieldLink RX2 7 "ColourForests$LimitKind" "graph" "LColourForests$Graph;", Cond.sameField "ColourForests$LimitKind" "ColourForests$Kind" "graph" "LColourForests$Graph;", Cond.fieldLink RX2 19 "ColourForests$Graph" "edges" "I", Cond.methodLink RX2 13 yX0_fullRoom, Cond.instanceMethod yX0_fullRoom, Cond.selects RX0 yX0_fullRoom yX0_fullRoom, Cond.initialized RX0, Cond.code yX0_fullRoom cX0_fullRoom 3 (some .int), Cond.fieldLink RX0 31 "ColourForests$Graph" "colours" "I", Cond.fieldLink RX0 9 "ColourForests$Graph" "limits" "[I", Cond.static yX5_withCell, Cond.initialized RX5, Cond.code yX5_withCell cX5_withCell 4 (some .int), Cond.static yX5_hasBit, Cond.code yX5_hasBit cX5_hasBit 2 (some .boolean), Cond.methodLink RX2 29 yX0_hasRoom]
def wsX1_closureOf_r2 : List Cond := [Cond.instanceMethod yX0_hasRoom, Cond.selects RX0 yX0_hasRoom yX0_hasRoom, Cond.code yX0_hasRoom cX0_hasRoom 3 (some .boolean), Cond.fieldLink RX0 21 "ColourForests$Graph" "hues" "[I", Cond.static yX5_cell, Cond.code yX5_cell cX5_cell 2 (some .int), Cond.methodLink RX2 32 yX0_roomAfter, Cond.instanceMethod yX0_roomAfter, Cond.selects RX0 yX0_roomAfter yX0_roomAfter, Cond.code yX0_roomAfter cX0_roomAfter 3 (some .int), Cond.selects RX3 ⟨"ColourForests$Kind", "rankOf", "(I)I"⟩ yX3_rankOf, Cond.instanceMethod yX3_rankOf, Cond.initialized RX3, Cond.code yX3_rankOf cX3_rankOf 5 (some .int), Cond.fieldLink RX3 7 "ColourForests$RinglessKind" "graph" "LColourForests$Graph;", Cond.sameField "ColourForests$RinglessKind" "ColourForests$Kind" "graph" "LColourForests$Graph;", Cond.fieldLink RX3 19 "ColourForests$Graph" "edges" "I", Cond.methodLink RX3 13 yX0_loneParts, Cond.instanceMethod yX0_loneParts, Cond.selects RX0 yX0_loneParts yX0_loneParts, Cond.code yX0_loneParts cX0_loneParts 3 (some .int), Cond.fieldLink RX0 27 "ColourForests$Graph" "vertices" "I", Cond.methodLink RX3 29 yX0_joinsTwoParts, Cond.instanceMethod yX0_joinsTwoParts]
def wsX1_closureOf_r3 : List Cond := [Cond.selects RX0 yX0_joinsTwoParts yX0_joinsTwoParts, Cond.code yX0_joinsTwoParts cX0_joinsTwoParts 3 (some .boolean), Cond.fieldLink RX0 15 "ColourForests$Graph" "firstEnds" "[I", Cond.fieldLink RX0 18 "ColourForests$Graph" "secondEnds" "[I", Cond.methodLink RX3 32 yX0_partsJoinedBy, Cond.instanceMethod yX0_partsJoinedBy, Cond.selects RX0 yX0_partsJoinedBy yX0_partsJoinedBy, Cond.code yX0_partsJoinedBy cX0_partsJoinedBy 7 (some .int)]
def wsX1_closureOf : List Cond := .code yX1_closureOf cX1_closureOf 6 (some .int) :: ((wsX1_closureOf_r1 ++ (wsX1_closureOf_r2 ++ wsX1_closureOf_r3)) ++ wsX20 ++ wsX30 ++ wsX00)
def wsX2_init : List Cond := .code yX2_init cX2_init 2 none :: ([.methodLink RX2 1 yX1_init, .instanceMethod yX1_init, .initialized RX1, .code yX1_init cX1_init 2 none, .methodLink RX1 1 objectInit, .instanceMethod objectInit, .code objectInit ⟨#[0xb1]⟩ 1 none, .fieldLink RX1 7 "ColourForests$Kind" "graph" "LColourForests$Graph;"] ++ wsX20 ++ wsX30)
def wsX3_init : List Cond := .code yX3_init cX3_init 2 none :: ([.methodLink RX3 1 yX1_init, .instanceMethod yX1_init, .initialized RX1, .code yX1_init cX1_init 2 none, .methodLink RX1 1 objectInit, .instanceMethod objectInit, .code objectInit ⟨#[0xb1]⟩ 1 none, .fieldLink RX1 7 "ColourForests$Kind" "graph" "LColourForests$Graph;"] ++ wsX20 ++ wsX30)
def wsX4_init : List Cond := .code yX4_init cX4_init 2 none :: ([.methodLink RX4 3 objectInit, .instanceMethod objectInit, .code objectInit ⟨#[0xb1]⟩ 1 none, .fieldLink RX4 11 "ColourForests$Survey" "changesSeen" "I", .arrayClass .int, .fieldLink RX4 15 "ColourForests$Survey" "dearestSets" "[I", .fieldLink RX4 19 "ColourForests$Survey" "dearestWeights" "[I", .fieldLink RX4 22 "ColourForests$Survey" "partsFrom" "[I", .fieldLink RX4 25 "ColourForests$Survey" "roomFrom" "[I", .fieldLink RX4 28 "ColourForests$Survey" "weightFrom" "[I", .fieldLink RX4 31 "ColourForests$Survey" "graph" "LColourForests$Graph;"] ++ wsX40)
def wsX4_hasSize : List Cond := .code yX4_hasSize cX4_hasSize 2 (some .boolean) :: ([.fieldLink RX4 35 "ColourForests$Survey" "most" "I", .static yX5_within, .initialized RX5, .code yX5_within cX5_within 3 (some .boolean)] ++ wsX40)
def wsX4_begin_r1 : List Cond := [Cond.fieldLink RX4 22 "ColourForests$Survey" "partsFrom" "[I", Cond.fieldLink RX4 31 "ColourForests$Survey" "graph" "LColourForests$Graph;", Cond.fieldLink RX4 25 "ColourForests$Survey" "roomFrom" "[I", Cond.fieldLink RX4 28 "ColourForests$Survey" "weightFrom" "[I", Cond.fieldLink RX4 80 "ColourForests$Survey" "widest" "I", Cond.fieldLink RX4 83 "ColourForests$Survey" "widestForests" "I", Cond.fieldLink RX4 86 "ColourForests$Survey" "commonSets" "I", Cond.fieldLink RX4 35 "ColourForests$Survey" "most" "I", Cond.fieldLink RX4 15 "ColourForests$Survey" "dearestSets" "[I", Cond.fieldLink RX4 19 "ColourForests$Survey" "dearestWeights" "[I", Cond.methodLink RX4 73 yX0_loneParts, Cond.instanceMethod yX0_loneParts, Cond.selects RX0 yX0_loneParts yX0_loneParts, Cond.initialized RX0, Cond.code yX0_loneParts cX0_loneParts 3 (some .int), Cond.fieldLink RX0 27 "ColourForests$Graph" "vertices" "I", Cond.static yX5_withCell, Cond.initialized RX5, Cond.code yX5_withCell cX5_withCell 4 (some .int), Cond.methodLink RX4 77 yX0_fullRoom, Cond.instanceMethod yX0_fullRoom, Cond.selects RX0 yX0_fullRoom yX0_fullRoom, Cond.code yX0_fullRoom cX0_fullRoom 3 (some .int), Cond.fieldLink RX0 31 "ColourForests$Graph" "colours" "I"]
def wsX4_begin_r2 : List Cond := [Cond.fieldLink RX0 9 "ColourForests$Graph" "limits" "[I"]
def wsX4_begin : List Cond := .code yX4_begin cX4_begin 1 none :: ((wsX4_begin_r1 ++ wsX4_begin_r2) ++ wsX40 ++ wsX00)
def wsJ6_numberOfTrailingZeros_0f7a4 : List Cond := .code yJ6_numberOfTrailingZeros_0f7a4 cJ6_numberOfTrailingZeros_0f7a4 2 (some .int) :: ([.constant RJ6 264 (65536)])
def wsX4_placeAbove : List Cond := .code yX4_placeAbove cX4_placeAbove 3 (some .int) :: ([.methodLink RX4 56 yJ6_numberOfTrailingZeros_0f7a4, .static yJ6_numberOfTrailingZeros_0f7a4, .initialized RJ6, .code yJ6_numberOfTrailingZeros_0f7a4 cJ6_numberOfTrailingZeros_0f7a4 2 (some .int), .constant RJ6 264 (65536)])
def wsX4_enter_r1 : List Cond := [Cond.fieldLink RX4 31 "ColourForests$Survey" "graph" "LColourForests$Graph;", Cond.fieldLink RX4 22 "ColourForests$Survey" "partsFrom" "[I", Cond.fieldLink RX4 25 "ColourForests$Survey" "roomFrom" "[I", Cond.fieldLink RX4 28 "ColourForests$Survey" "weightFrom" "[I", Cond.fieldLink RX4 102 "ColourForests$Graph" "weights" "[I", Cond.methodLink RX4 89 yX0_joinsTwoParts, Cond.instanceMethod yX0_joinsTwoParts, Cond.selects RX0 yX0_joinsTwoParts yX0_joinsTwoParts, Cond.initialized RX0, Cond.code yX0_joinsTwoParts cX0_joinsTwoParts 3 (some .boolean), Cond.fieldLink RX0 15 "ColourForests$Graph" "firstEnds" "[I", Cond.fieldLink RX0 18 "ColourForests$Graph" "secondEnds" "[I", Cond.static yX5_cell, Cond.initialized RX5, Cond.code yX5_cell cX5_cell 2 (some .int), Cond.methodLink RX4 92 yX0_partsJoinedBy, Cond.instanceMethod yX0_partsJoinedBy, Cond.selects RX0 yX0_partsJoinedBy yX0_partsJoinedBy, Cond.code yX0_partsJoinedBy cX0_partsJoinedBy 7 (some .int), Cond.fieldLink RX0 27 "ColourForests$Graph" "vertices" "I", Cond.static yX5_withCell, Cond.code yX5_withCell cX5_withCell 4 (some .int), Cond.methodLink RX4 96 yX0_hasRoom, Cond.instanceMethod yX0_hasRoom]
def wsX4_enter_r2 : List Cond := [Cond.selects RX0 yX0_hasRoom yX0_hasRoom, Cond.code yX0_hasRoom cX0_hasRoom 3 (some .boolean), Cond.fieldLink RX0 21 "ColourForests$Graph" "hues" "[I", Cond.methodLink RX4 99 yX0_roomAfter, Cond.instanceMethod yX0_roomAfter, Cond.selects RX0 yX0_roomAfter yX0_roomAfter, Cond.code yX0_roomAfter cX0_roomAfter 3 (some .int)]
def wsX4_enter : List Cond := .code yX4_enter cX4_enter 5 (some .boolean) :: ((wsX4_enter_r1 ++ wsX4_enter_r2) ++ wsX40 ++ wsX00)
def wsX4_noteForest : List Cond := .code yX4_noteForest cX4_noteForest 2 none :: ([.fieldLink RX4 80 "ColourForests$Survey" "widest" "I", .fieldLink RX4 83 "ColourForests$Survey" "widestForests" "I"] ++ wsX40)
def wsX4_noteCommon : List Cond := .code yX4_noteCommon cX4_noteCommon 4 none :: ([.fieldLink RX4 86 "ColourForests$Survey" "commonSets" "I", .fieldLink RX4 35 "ColourForests$Survey" "most" "I", .fieldLink RX4 19 "ColourForests$Survey" "dearestWeights" "[I", .fieldLink RX4 15 "ColourForests$Survey" "dearestSets" "[I", .methodLink RX4 116 Lib.Math.max.name, .static Lib.Math.max.name, .initialized "java/lang/Math", .code Lib.Math.max.name Lib.Math.max.code 2 (some .int)] ++ wsX40)
def wsX4_note_r1 : List Cond := [Cond.fieldLink RX4 25 "ColourForests$Survey" "roomFrom" "[I", Cond.fieldLink RX4 28 "ColourForests$Survey" "weightFrom" "[I", Cond.methodLink RX4 105 yJ6_bitCount_0f7a4, Cond.static yJ6_bitCount_0f7a4, Cond.initialized RJ6, Cond.code yJ6_bitCount_0f7a4 cJ6_bitCount_0f7a4 1 (some .int), Cond.constant RJ6 265 (1431655765), Cond.constant RJ6 266 (858993459), Cond.constant RJ6 267 (252645135), Cond.methodLink RX4 108 yX4_noteForest, Cond.instanceMethod yX4_noteForest, Cond.selects RX4 yX4_noteForest yX4_noteForest, Cond.initialized RX4, Cond.code yX4_noteForest cX4_noteForest 2 none, Cond.fieldLink RX4 80 "ColourForests$Survey" "widest" "I", Cond.fieldLink RX4 83 "ColourForests$Survey" "widestForests" "I", Cond.methodLink RX4 112 yX4_noteCommon, Cond.instanceMethod yX4_noteCommon, Cond.selects RX4 yX4_noteCommon yX4_noteCommon, Cond.code yX4_noteCommon cX4_noteCommon 4 none, Cond.fieldLink RX4 86 "ColourForests$Survey" "commonSets" "I", Cond.fieldLink RX4 35 "ColourForests$Survey" "most" "I", Cond.fieldLink RX4 19 "ColourForests$Survey" "dearestWeights" "[I", Cond.fieldLink RX4 15 "ColourForests$Survey" "dearestSets" "[I"]
def wsX4_note_r2 : List Cond := [Cond.methodLink RX4 116 Lib.Math.max.name, Cond.static Lib.Math.max.name, Cond.initialized "java/lang/Math", Cond.code Lib.Math.max.name Lib.Math.max.code 2 (some .int)]
def wsX4_note : List Cond := .code yX4_note cX4_note 4 none :: ((wsX4_note_r1 ++ wsX4_note_r2) ++ wsX40)
def wsX4_walk_r1 : List Cond := [Cond.fieldLink RX4 31 "ColourForests$Survey" "graph" "LColourForests$Graph;", Cond.fieldLink RX4 53 "ColourForests$Graph" "edges" "I", Cond.methodLink RX4 50 yX4_begin, Cond.instanceMethod yX4_begin, Cond.selects RX4 yX4_begin yX4_begin, Cond.initialized RX4, Cond.code yX4_begin cX4_begin 1 none, Cond.fieldLink RX4 22 "ColourForests$Survey" "partsFrom" "[I", Cond.fieldLink RX4 25 "ColourForests$Survey" "roomFrom" "[I", Cond.fieldLink RX4 28 "ColourForests$Survey" "weightFrom" "[I", Cond.fieldLink RX4 80 "ColourForests$Survey" "widest" "I", Cond.fieldLink RX4 83 "ColourForests$Survey" "widestForests" "I", Cond.fieldLink RX4 86 "ColourForests$Survey" "commonSets" "I", Cond.fieldLink RX4 35 "ColourForests$Survey" "most" "I", Cond.fieldLink RX4 15 "ColourForests$Survey" "dearestSets" "[I", Cond.fieldLink RX4 19 "ColourForests$Survey" "dearestWeights" "[I", Cond.methodLink RX4 73 yX0_loneParts, Cond.instanceMethod yX0_loneParts, Cond.selects RX0 yX0_loneParts yX0_loneParts, Cond.initialized RX0, Cond.code yX0_loneParts cX0_loneParts 3 (some .int), Cond.fieldLink RX0 27 "ColourForests$Graph" "vertices" "I", Cond.static yX5_withCell, Cond.initialized RX5]
def wsX4_walk_r2 : List Cond := [Cond.code yX5_withCell cX5_withCell 4 (some .int), Cond.methodLink RX4 77 yX0_fullRoom, Cond.instanceMethod yX0_fullRoom, Cond.selects RX0 yX0_fullRoom yX0_fullRoom, Cond.code yX0_fullRoom cX0_fullRoom 3 (some .int), Cond.fieldLink RX0 31 "ColourForests$Graph" "colours" "I", Cond.fieldLink RX0 9 "ColourForests$Graph" "limits" "[I", Cond.methodLink RX4 56 yJ6_numberOfTrailingZeros_0f7a4, Cond.static yJ6_numberOfTrailingZeros_0f7a4, Cond.initialized RJ6, Cond.code yJ6_numberOfTrailingZeros_0f7a4 cJ6_numberOfTrailingZeros_0f7a4 2 (some .int), Cond.constant RJ6 264 (65536), Cond.methodLink RX4 62 yX4_placeAbove, Cond.instanceMethod yX4_placeAbove, Cond.selects RX4 yX4_placeAbove yX4_placeAbove, Cond.code yX4_placeAbove cX4_placeAbove 3 (some .int), Cond.methodLink RX4 65 yX4_enter, Cond.instanceMethod yX4_enter, Cond.selects RX4 yX4_enter yX4_enter, Cond.code yX4_enter cX4_enter 5 (some .boolean), Cond.fieldLink RX4 102 "ColourForests$Graph" "weights" "[I", Cond.methodLink RX4 89 yX0_joinsTwoParts, Cond.instanceMethod yX0_joinsTwoParts, Cond.selects RX0 yX0_joinsTwoParts yX0_joinsTwoParts]
def wsX4_walk_r3 : List Cond := [Cond.code yX0_joinsTwoParts cX0_joinsTwoParts 3 (some .boolean), Cond.fieldLink RX0 15 "ColourForests$Graph" "firstEnds" "[I", Cond.fieldLink RX0 18 "ColourForests$Graph" "secondEnds" "[I", Cond.static yX5_cell, Cond.code yX5_cell cX5_cell 2 (some .int), Cond.methodLink RX4 92 yX0_partsJoinedBy, Cond.instanceMethod yX0_partsJoinedBy, Cond.selects RX0 yX0_partsJoinedBy yX0_partsJoinedBy, Cond.code yX0_partsJoinedBy cX0_partsJoinedBy 7 (some .int), Cond.methodLink RX4 96 yX0_hasRoom, Cond.instanceMethod yX0_hasRoom, Cond.selects RX0 yX0_hasRoom yX0_hasRoom, Cond.code yX0_hasRoom cX0_hasRoom 3 (some .boolean), Cond.fieldLink RX0 21 "ColourForests$Graph" "hues" "[I", Cond.methodLink RX4 99 yX0_roomAfter, Cond.instanceMethod yX0_roomAfter, Cond.selects RX0 yX0_roomAfter yX0_roomAfter, Cond.code yX0_roomAfter cX0_roomAfter 3 (some .int), Cond.methodLink RX4 69 yX4_note, Cond.instanceMethod yX4_note, Cond.selects RX4 yX4_note yX4_note, Cond.code yX4_note cX4_note 4 none, Cond.methodLink RX4 105 yJ6_bitCount_0f7a4, Cond.static yJ6_bitCount_0f7a4]
def wsX4_walk_r4 : List Cond := [Cond.code yJ6_bitCount_0f7a4 cJ6_bitCount_0f7a4 1 (some .int), Cond.constant RJ6 265 (1431655765), Cond.constant RJ6 266 (858993459), Cond.constant RJ6 267 (252645135), Cond.methodLink RX4 108 yX4_noteForest, Cond.instanceMethod yX4_noteForest, Cond.selects RX4 yX4_noteForest yX4_noteForest, Cond.code yX4_noteForest cX4_noteForest 2 none, Cond.methodLink RX4 112 yX4_noteCommon, Cond.instanceMethod yX4_noteCommon, Cond.selects RX4 yX4_noteCommon yX4_noteCommon, Cond.code yX4_noteCommon cX4_noteCommon 4 none, Cond.methodLink RX4 116 Lib.Math.max.name, Cond.static Lib.Math.max.name, Cond.initialized "java/lang/Math", Cond.code Lib.Math.max.name Lib.Math.max.code 2 (some .int)]
def wsX4_walk : List Cond := .code yX4_walk cX4_walk 5 none :: ((wsX4_walk_r1 ++ (wsX4_walk_r2 ++ (wsX4_walk_r3 ++ wsX4_walk_r4))) ++ wsX40 ++ wsX00)
def wsX4_refresh_r1 : List Cond := [Cond.fieldLink RX4 11 "ColourForests$Survey" "changesSeen" "I", Cond.fieldLink RX4 31 "ColourForests$Survey" "graph" "LColourForests$Graph;", Cond.fieldLink RX4 42 "ColourForests$Graph" "changes" "I", Cond.methodLink RX4 47 yX4_walk, Cond.instanceMethod yX4_walk, Cond.selects RX4 yX4_walk yX4_walk, Cond.initialized RX4, Cond.code yX4_walk cX4_walk 5 none, Cond.fieldLink RX4 53 "ColourForests$Graph" "edges" "I", Cond.methodLink RX4 50 yX4_begin, Cond.instanceMethod yX4_begin, Cond.selects RX4 yX4_begin yX4_begin, Cond.code yX4_begin cX4_begin 1 none, Cond.fieldLink RX4 22 "ColourForests$Survey" "partsFrom" "[I", Cond.fieldLink RX4 25 "ColourForests$Survey" "roomFrom" "[I", Cond.fieldLink RX4 28 "ColourForests$Survey" "weightFrom" "[I", Cond.fieldLink RX4 80 "ColourForests$Survey" "widest" "I", Cond.fieldLink RX4 83 "ColourForests$Survey" "widestForests" "I", Cond.fieldLink RX4 86 "ColourForests$Survey" "commonSets" "I", Cond.fieldLink RX4 35 "ColourForests$Survey" "most" "I", Cond.fieldLink RX4 15 "ColourForests$Survey" "dearestSets" "[I", Cond.fieldLink RX4 19 "ColourForests$Survey" "dearestWeights" "[I", Cond.methodLink RX4 73 yX0_loneParts, Cond.instanceMethod yX0_loneParts]
def wsX4_refresh_r2 : List Cond := [Cond.selects RX0 yX0_loneParts yX0_loneParts, Cond.initialized RX0, Cond.code yX0_loneParts cX0_loneParts 3 (some .int), Cond.fieldLink RX0 27 "ColourForests$Graph" "vertices" "I", Cond.static yX5_withCell, Cond.initialized RX5, Cond.code yX5_withCell cX5_withCell 4 (some .int), Cond.methodLink RX4 77 yX0_fullRoom, Cond.instanceMethod yX0_fullRoom, Cond.selects RX0 yX0_fullRoom yX0_fullRoom, Cond.code yX0_fullRoom cX0_fullRoom 3 (some .int), Cond.fieldLink RX0 31 "ColourForests$Graph" "colours" "I", Cond.fieldLink RX0 9 "ColourForests$Graph" "limits" "[I", Cond.methodLink RX4 56 yJ6_numberOfTrailingZeros_0f7a4, Cond.static yJ6_numberOfTrailingZeros_0f7a4, Cond.initialized RJ6, Cond.code yJ6_numberOfTrailingZeros_0f7a4 cJ6_numberOfTrailingZeros_0f7a4 2 (some .int), Cond.constant RJ6 264 (65536), Cond.methodLink RX4 62 yX4_placeAbove, Cond.instanceMethod yX4_placeAbove, Cond.selects RX4 yX4_placeAbove yX4_placeAbove, Cond.code yX4_placeAbove cX4_placeAbove 3 (some .int), Cond.methodLink RX4 65 yX4_enter, Cond.instanceMethod yX4_enter]
def wsX4_refresh_r3 : List Cond := [Cond.selects RX4 yX4_enter yX4_enter, Cond.code yX4_enter cX4_enter 5 (some .boolean), Cond.fieldLink RX4 102 "ColourForests$Graph" "weights" "[I", Cond.methodLink RX4 89 yX0_joinsTwoParts, Cond.instanceMethod yX0_joinsTwoParts, Cond.selects RX0 yX0_joinsTwoParts yX0_joinsTwoParts, Cond.code yX0_joinsTwoParts cX0_joinsTwoParts 3 (some .boolean), Cond.fieldLink RX0 15 "ColourForests$Graph" "firstEnds" "[I", Cond.fieldLink RX0 18 "ColourForests$Graph" "secondEnds" "[I", Cond.static yX5_cell, Cond.code yX5_cell cX5_cell 2 (some .int), Cond.methodLink RX4 92 yX0_partsJoinedBy, Cond.instanceMethod yX0_partsJoinedBy, Cond.selects RX0 yX0_partsJoinedBy yX0_partsJoinedBy, Cond.code yX0_partsJoinedBy cX0_partsJoinedBy 7 (some .int), Cond.methodLink RX4 96 yX0_hasRoom, Cond.instanceMethod yX0_hasRoom, Cond.selects RX0 yX0_hasRoom yX0_hasRoom, Cond.code yX0_hasRoom cX0_hasRoom 3 (some .boolean), Cond.fieldLink RX0 21 "ColourForests$Graph" "hues" "[I", Cond.methodLink RX4 99 yX0_roomAfter, Cond.instanceMethod yX0_roomAfter, Cond.selects RX0 yX0_roomAfter yX0_roomAfter, Cond.code yX0_roomAfter cX0_roomAfter 3 (some .int)]
def wsX4_refresh_r4 : List Cond := [Cond.methodLink RX4 69 yX4_note, Cond.instanceMethod yX4_note, Cond.selects RX4 yX4_note yX4_note, Cond.code yX4_note cX4_note 4 none, Cond.methodLink RX4 105 yJ6_bitCount_0f7a4, Cond.static yJ6_bitCount_0f7a4, Cond.code yJ6_bitCount_0f7a4 cJ6_bitCount_0f7a4 1 (some .int), Cond.constant RJ6 265 (1431655765), Cond.constant RJ6 266 (858993459), Cond.constant RJ6 267 (252645135), Cond.methodLink RX4 108 yX4_noteForest, Cond.instanceMethod yX4_noteForest, Cond.selects RX4 yX4_noteForest yX4_noteForest, Cond.code yX4_noteForest cX4_noteForest 2 none, Cond.methodLink RX4 112 yX4_noteCommon, Cond.instanceMethod yX4_noteCommon, Cond.selects RX4 yX4_noteCommon yX4_noteCommon, Cond.code yX4_noteCommon cX4_noteCommon 4 none, Cond.methodLink RX4 116 Lib.Math.max.name, Cond.static Lib.Math.max.name, Cond.initialized "java/lang/Math", Cond.code Lib.Math.max.name Lib.Math.max.code 2 (some .int)]
def wsX4_refresh : List Cond := .code yX4_refresh cX4_refresh 1 none :: ((wsX4_refresh_r1 ++ (wsX4_refresh_r2 ++ (wsX4_refresh_r3 ++ wsX4_refresh_r4))) ++ wsX40 ++ wsX00)
def wsX5_init_r1 : List Cond := [Cond.methodLink RX5 1 objectInit, Cond.instanceMethod objectInit, Cond.code objectInit ⟨#[0xb1]⟩ 1 none, Cond.classLink RX5 7 RX0, Cond.instantiable RX0 9, Cond.initialized RX0, Cond.fieldLink RX5 10 "ColourForests" "graph" "LColourForests$Graph;", Cond.classLink RX5 16 RX3, Cond.instantiable RX3 1, Cond.initialized RX3, Cond.fieldLink RX5 21 "ColourForests" "ringless" "LColourForests$Kind;", Cond.classLink RX5 25 RX2, Cond.instantiable RX2 1, Cond.initialized RX2, Cond.fieldLink RX5 28 "ColourForests" "withinLimits" "LColourForests$Kind;", Cond.classLink RX5 31 RX4, Cond.instantiable RX4 11, Cond.initialized RX4, Cond.fieldLink RX5 34 "ColourForests" "survey" "LColourForests$Survey;", Cond.methodLink RX5 9 yX0_init, Cond.instanceMethod yX0_init, Cond.code yX0_init cX0_init 1 none, Cond.methodLink RX0 3 objectInit, Cond.arrayClass .int]
def wsX5_init_r2 : List Cond := [Cond.fieldLink RX0 9 "ColourForests$Graph" "limits" "[I", Cond.fieldLink RX0 15 "ColourForests$Graph" "firstEnds" "[I", Cond.fieldLink RX0 18 "ColourForests$Graph" "secondEnds" "[I", Cond.fieldLink RX0 21 "ColourForests$Graph" "hues" "[I", Cond.fieldLink RX0 24 "ColourForests$Graph" "weights" "[I", Cond.fieldLink RX0 27 "ColourForests$Graph" "vertices" "I", Cond.fieldLink RX0 31 "ColourForests$Graph" "colours" "I", Cond.methodLink RX5 18 yX3_init, Cond.instanceMethod yX3_init, Cond.code yX3_init cX3_init 2 none, Cond.methodLink RX3 1 yX1_init, Cond.instanceMethod yX1_init, Cond.initialized RX1, Cond.code yX1_init cX1_init 2 none, Cond.methodLink RX1 1 objectInit, Cond.fieldLink RX1 7 "ColourForests$Kind" "graph" "LColourForests$Graph;", Cond.methodLink RX5 27 yX2_init, Cond.instanceMethod yX2_init, Cond.code yX2_init cX2_init 2 none, Cond.methodLink RX2 1 yX1_init, Cond.methodLink RX5 33 yX4_init, Cond.instanceMethod yX4_init, Cond.code yX4_init cX4_init 2 none, Cond.methodLink RX4 3 objectInit]
def wsX5_init_r3 : List Cond := [Cond.fieldLink RX4 11 "ColourForests$Survey" "changesSeen" "I", Cond.fieldLink RX4 15 "ColourForests$Survey" "dearestSets" "[I", Cond.fieldLink RX4 19 "ColourForests$Survey" "dearestWeights" "[I", Cond.fieldLink RX4 22 "ColourForests$Survey" "partsFrom" "[I", Cond.fieldLink RX4 25 "ColourForests$Survey" "roomFrom" "[I", Cond.fieldLink RX4 28 "ColourForests$Survey" "weightFrom" "[I", Cond.fieldLink RX4 31 "ColourForests$Survey" "graph" "LColourForests$Graph;"]
def wsX5_init : List Cond := .code yX5_init cX5_init 1 none :: ((wsX5_init_r1 ++ (wsX5_init_r2 ++ wsX5_init_r3)) ++ wsX00 ++ wsX50 ++ wsX30 ++ wsX20 ++ wsX40)
def wsX5_make : List Cond := .code yX5_make cX5_make 3 none :: ([.classLink RX5 42 "java/lang/IllegalArgumentException", .initialized "java/lang/IllegalArgumentException", .fieldLink RX5 10 "ColourForests" "graph" "LColourForests$Graph;", .methodLink RX5 38 yX5_within, .static yX5_within, .initialized RX5, .code yX5_within cX5_within 3 (some .boolean), .methodLink RX5 49 yX0_restart, .instanceMethod yX0_restart, .selects RX0 yX0_restart yX0_restart, .initialized RX0, .code yX0_restart cX0_restart 3 none, .fieldLink RX0 27 "ColourForests$Graph" "vertices" "I", .fieldLink RX0 31 "ColourForests$Graph" "colours" "I", .fieldLink RX0 34 "ColourForests$Graph" "edges" "I", .fieldLink RX0 9 "ColourForests$Graph" "limits" "[I", .fieldLink RX0 43 "ColourForests$Graph" "changes" "I", .methodLink RX0 37 yJ7_fill_53178, .static yJ7_fill_53178, .initialized RJ7, .code yJ7_fill_53178 cJ7_fill_53178 4 none] ++ wsX50 ++ wsX00 ++ (vx_atS RX5 46 "java/lang/IllegalArgumentException" ["java/lang/RuntimeException", "java/lang/Exception"]).filter goodWord)
def wsX5_isWeight : List Cond := .code yX5_isWeight cX5_isWeight 1 (some .boolean) :: ([.methodLink RX5 38 yX5_within, .static yX5_within, .initialized RX5, .code yX5_within cX5_within 3 (some .boolean)])
def wsX5_edge_r1 : List Cond := [Cond.fieldLink RX5 10 "ColourForests" "graph" "LColourForests$Graph;", Cond.fieldLink RX5 63 "ColourForests$Graph" "edges" "I", Cond.methodLink RX5 53 yX0_hasVertex, Cond.instanceMethod yX0_hasVertex, Cond.selects RX0 yX0_hasVertex yX0_hasVertex, Cond.initialized RX0, Cond.code yX0_hasVertex cX0_hasVertex 2 (some .boolean), Cond.fieldLink RX0 27 "ColourForests$Graph" "vertices" "I", Cond.static yX5_within, Cond.initialized RX5, Cond.code yX5_within cX5_within 3 (some .boolean), Cond.methodLink RX5 57 yX0_hasColour, Cond.instanceMethod yX0_hasColour, Cond.selects RX0 yX0_hasColour yX0_hasColour, Cond.code yX0_hasColour cX0_hasColour 2 (some .boolean), Cond.fieldLink RX0 31 "ColourForests$Graph" "colours" "I", Cond.methodLink RX5 60 yX5_isWeight, Cond.static yX5_isWeight, Cond.code yX5_isWeight cX5_isWeight 1 (some .boolean), Cond.methodLink RX5 38 yX5_within, Cond.methodLink RX5 67 yX0_addEdge, Cond.instanceMethod yX0_addEdge, Cond.selects RX0 yX0_addEdge yX0_addEdge, Cond.code yX0_addEdge cX0_addEdge 6 (some .int)]
def wsX5_edge_r2 : List Cond := [Cond.fieldLink RX0 34 "ColourForests$Graph" "edges" "I", Cond.fieldLink RX0 15 "ColourForests$Graph" "firstEnds" "[I", Cond.fieldLink RX0 18 "ColourForests$Graph" "secondEnds" "[I", Cond.fieldLink RX0 21 "ColourForests$Graph" "hues" "[I", Cond.fieldLink RX0 24 "ColourForests$Graph" "weights" "[I", Cond.fieldLink RX0 43 "ColourForests$Graph" "changes" "I"]
def wsX5_edge : List Cond := .code yX5_edge cX5_edge 5 (some .int) :: ((wsX5_edge_r1 ++ wsX5_edge_r2) ++ wsX50 ++ wsX00)
def wsX5_limit : List Cond := .code yX5_limit cX5_limit 3 none :: ([.classLink RX5 71 "java/lang/IndexOutOfBoundsException", .initialized "java/lang/IndexOutOfBoundsException", .classLink RX5 42 "java/lang/IllegalArgumentException", .initialized "java/lang/IllegalArgumentException", .fieldLink RX5 10 "ColourForests" "graph" "LColourForests$Graph;", .methodLink RX5 57 yX0_hasColour, .instanceMethod yX0_hasColour, .selects RX0 yX0_hasColour yX0_hasColour, .initialized RX0, .code yX0_hasColour cX0_hasColour 2 (some .boolean), .fieldLink RX0 31 "ColourForests$Graph" "colours" "I", .static yX5_within, .initialized RX5, .code yX5_within cX5_within 3 (some .boolean), .methodLink RX5 38 yX5_within, .methodLink RX5 78 yX0_setLimit, .instanceMethod yX0_setLimit, .selects RX0 yX0_setLimit yX0_setLimit, .code yX0_setLimit cX0_setLimit 3 none, .fieldLink RX0 9 "ColourForests$Graph" "limits" "[I", .fieldLink RX0 43 "ColourForests$Graph" "changes" "I"] ++ wsX50 ++ wsX00 ++ (vx_atS RX5 75 "java/lang/IndexOutOfBoundsException" ["java/lang/RuntimeException", "java/lang/Exception"]).filter goodWord ++ (vx_atS RX5 46 "java/lang/IllegalArgumentException" ["java/lang/RuntimeException", "java/lang/Exception"]).filter goodWord)
def wsX5_weigh : List Cond := .code yX5_weigh cX5_weigh 3 none :: ([.classLink RX5 71 "java/lang/IndexOutOfBoundsException", .initialized "java/lang/IndexOutOfBoundsException", .classLink RX5 42 "java/lang/IllegalArgumentException", .initialized "java/lang/IllegalArgumentException", .fieldLink RX5 10 "ColourForests" "graph" "LColourForests$Graph;", .methodLink RX5 81 yX0_hasEdge, .instanceMethod yX0_hasEdge, .selects RX0 yX0_hasEdge yX0_hasEdge, .initialized RX0, .code yX0_hasEdge cX0_hasEdge 2 (some .boolean), .fieldLink RX0 34 "ColourForests$Graph" "edges" "I", .static yX5_within, .initialized RX5, .code yX5_within cX5_within 3 (some .boolean), .methodLink RX5 60 yX5_isWeight, .static yX5_isWeight, .code yX5_isWeight cX5_isWeight 1 (some .boolean), .methodLink RX5 38 yX5_within, .methodLink RX5 88 yX0_setWeight, .instanceMethod yX0_setWeight, .selects RX0 yX0_setWeight yX0_setWeight, .code yX0_setWeight cX0_setWeight 3 none, .fieldLink RX0 24 "ColourForests$Graph" "weights" "[I", .fieldLink RX0 43 "ColourForests$Graph" "changes" "I"] ++ wsX50 ++ wsX00 ++ (vx_atS RX5 75 "java/lang/IndexOutOfBoundsException" ["java/lang/RuntimeException", "java/lang/Exception"]).filter goodWord ++ (vx_atS RX5 46 "java/lang/IllegalArgumentException" ["java/lang/RuntimeException", "java/lang/Exception"]).filter goodWord)
def wsX5_count_r1 : List Cond := [Cond.fieldLink RX5 10 "ColourForests" "graph" "LColourForests$Graph;", Cond.fieldLink RX5 91 "ColourForests$Graph" "vertices" "I", Cond.fieldLink RX5 94 "ColourForests$Graph" "colours" "I", Cond.fieldLink RX5 63 "ColourForests$Graph" "edges" "I", Cond.fieldLink RX5 34 "ColourForests" "survey" "LColourForests$Survey;", Cond.fieldLink RX5 100 "ColourForests$Survey" "widestForests" "I", Cond.fieldLink RX5 103 "ColourForests$Survey" "commonSets" "I", Cond.methodLink RX5 97 yX4_refresh, Cond.instanceMethod yX4_refresh, Cond.selects RX4 yX4_refresh yX4_refresh, Cond.initialized RX4, Cond.code yX4_refresh cX4_refresh 1 none, Cond.fieldLink RX4 11 "ColourForests$Survey" "changesSeen" "I", Cond.fieldLink RX4 31 "ColourForests$Survey" "graph" "LColourForests$Graph;", Cond.fieldLink RX4 42 "ColourForests$Graph" "changes" "I", Cond.methodLink RX4 47 yX4_walk, Cond.instanceMethod yX4_walk, Cond.selects RX4 yX4_walk yX4_walk, Cond.code yX4_walk cX4_walk 5 none, Cond.fieldLink RX4 53 "ColourForests$Graph" "edges" "I", Cond.methodLink RX4 50 yX4_begin, Cond.instanceMethod yX4_begin, Cond.selects RX4 yX4_begin yX4_begin, Cond.code yX4_begin cX4_begin 1 none]
def wsX5_count_r2 : List Cond := [Cond.fieldLink RX4 22 "ColourForests$Survey" "partsFrom" "[I", Cond.fieldLink RX4 25 "ColourForests$Survey" "roomFrom" "[I", Cond.fieldLink RX4 28 "ColourForests$Survey" "weightFrom" "[I", Cond.fieldLink RX4 80 "ColourForests$Survey" "widest" "I", Cond.fieldLink RX4 83 "ColourForests$Survey" "widestForests" "I", Cond.fieldLink RX4 86 "ColourForests$Survey" "commonSets" "I", Cond.fieldLink RX4 35 "ColourForests$Survey" "most" "I", Cond.fieldLink RX4 15 "ColourForests$Survey" "dearestSets" "[I", Cond.fieldLink RX4 19 "ColourForests$Survey" "dearestWeights" "[I", Cond.methodLink RX4 73 yX0_loneParts, Cond.instanceMethod yX0_loneParts, Cond.selects RX0 yX0_loneParts yX0_loneParts, Cond.initialized RX0, Cond.code yX0_loneParts cX0_loneParts 3 (some .int), Cond.fieldLink RX0 27 "ColourForests$Graph" "vertices" "I", Cond.static yX5_withCell, Cond.initialized RX5, Cond.code yX5_withCell cX5_withCell 4 (some .int), Cond.methodLink RX4 77 yX0_fullRoom, Cond.instanceMethod yX0_fullRoom, Cond.selects RX0 yX0_fullRoom yX0_fullRoom, Cond.code yX0_fullRoom cX0_fullRoom 3 (some .int), Cond.fieldLink RX0 31 "ColourForests$Graph" "colours" "I", Cond.fieldLink RX0 9 "ColourForests$Graph" "limits" "[I"]
def wsX5_count_r3 : List Cond := [Cond.methodLink RX4 56 yJ6_numberOfTrailingZeros_0f7a4, Cond.static yJ6_numberOfTrailingZeros_0f7a4, Cond.initialized RJ6, Cond.code yJ6_numberOfTrailingZeros_0f7a4 cJ6_numberOfTrailingZeros_0f7a4 2 (some .int), Cond.constant RJ6 264 (65536), Cond.methodLink RX4 62 yX4_placeAbove, Cond.instanceMethod yX4_placeAbove, Cond.selects RX4 yX4_placeAbove yX4_placeAbove, Cond.code yX4_placeAbove cX4_placeAbove 3 (some .int), Cond.methodLink RX4 65 yX4_enter, Cond.instanceMethod yX4_enter, Cond.selects RX4 yX4_enter yX4_enter, Cond.code yX4_enter cX4_enter 5 (some .boolean), Cond.fieldLink RX4 102 "ColourForests$Graph" "weights" "[I", Cond.methodLink RX4 89 yX0_joinsTwoParts, Cond.instanceMethod yX0_joinsTwoParts, Cond.selects RX0 yX0_joinsTwoParts yX0_joinsTwoParts, Cond.code yX0_joinsTwoParts cX0_joinsTwoParts 3 (some .boolean), Cond.fieldLink RX0 15 "ColourForests$Graph" "firstEnds" "[I", Cond.fieldLink RX0 18 "ColourForests$Graph" "secondEnds" "[I", Cond.static yX5_cell, Cond.code yX5_cell cX5_cell 2 (some .int), Cond.methodLink RX4 92 yX0_partsJoinedBy, Cond.instanceMethod yX0_partsJoinedBy]
def wsX5_count_r4 : List Cond := [Cond.selects RX0 yX0_partsJoinedBy yX0_partsJoinedBy, Cond.code yX0_partsJoinedBy cX0_partsJoinedBy 7 (some .int), Cond.methodLink RX4 96 yX0_hasRoom, Cond.instanceMethod yX0_hasRoom, Cond.selects RX0 yX0_hasRoom yX0_hasRoom, Cond.code yX0_hasRoom cX0_hasRoom 3 (some .boolean), Cond.fieldLink RX0 21 "ColourForests$Graph" "hues" "[I", Cond.methodLink RX4 99 yX0_roomAfter, Cond.instanceMethod yX0_roomAfter, Cond.selects RX0 yX0_roomAfter yX0_roomAfter, Cond.code yX0_roomAfter cX0_roomAfter 3 (some .int), Cond.methodLink RX4 69 yX4_note, Cond.instanceMethod yX4_note, Cond.selects RX4 yX4_note yX4_note, Cond.code yX4_note cX4_note 4 none, Cond.methodLink RX4 105 yJ6_bitCount_0f7a4, Cond.static yJ6_bitCount_0f7a4, Cond.code yJ6_bitCount_0f7a4 cJ6_bitCount_0f7a4 1 (some .int), Cond.constant RJ6 265 (1431655765), Cond.constant RJ6 266 (858993459), Cond.constant RJ6 267 (252645135), Cond.methodLink RX4 108 yX4_noteForest, Cond.instanceMethod yX4_noteForest, Cond.selects RX4 yX4_noteForest yX4_noteForest]
def wsX5_count_r5 : List Cond := [Cond.code yX4_noteForest cX4_noteForest 2 none, Cond.methodLink RX4 112 yX4_noteCommon, Cond.instanceMethod yX4_noteCommon, Cond.selects RX4 yX4_noteCommon yX4_noteCommon, Cond.code yX4_noteCommon cX4_noteCommon 4 none, Cond.methodLink RX4 116 Lib.Math.max.name, Cond.static Lib.Math.max.name, Cond.initialized "java/lang/Math", Cond.code Lib.Math.max.name Lib.Math.max.code 2 (some .int)]
def wsX5_count : List Cond := .code yX5_count cX5_count 2 (some .int) :: ((wsX5_count_r1 ++ (wsX5_count_r2 ++ (wsX5_count_r3 ++ (wsX5_count_r4 ++ wsX5_count_r5)))) ++ wsX50 ++ wsX00 ++ wsX40)
def wsX5_judgeOf : List Cond := .code yX5_judgeOf cX5_judgeOf 2 (some (.object "ColourForests$Kind")) :: ([.fieldLink RX5 21 "ColourForests" "ringless" "LColourForests$Kind;", .fieldLink RX5 28 "ColourForests" "withinLimits" "LColourForests$Kind;"] ++ wsX50)
def wsX5_rank_r1 : List Cond := [Cond.fieldLink RX5 10 "ColourForests" "graph" "LColourForests$Graph;", Cond.methodLink RX5 106 yX5_judgeOf, Cond.instanceMethod yX5_judgeOf, Cond.selects RX5 yX5_judgeOf yX5_judgeOf, Cond.initialized RX5, Cond.code yX5_judgeOf cX5_judgeOf 2 (some (.object "ColourForests$Kind")), Cond.fieldLink RX5 21 "ColourForests" "ringless" "LColourForests$Kind;", Cond.fieldLink RX5 28 "ColourForests" "withinLimits" "LColourForests$Kind;", Cond.methodLink RX5 110 yX0_hasSet, Cond.instanceMethod yX0_hasSet, Cond.selects RX0 yX0_hasSet yX0_hasSet, Cond.initialized RX0, Cond.code yX0_hasSet cX0_hasSet 2 (some .boolean), Cond.methodLink RX0 50 yX0_allEdges, Cond.instanceMethod yX0_allEdges, Cond.selects RX0 yX0_allEdges yX0_allEdges, Cond.code yX0_allEdges cX0_allEdges 1 (some .int), Cond.fieldLink RX0 34 "ColourForests$Graph" "edges" "I", Cond.methodLink RX5 113 ⟨"ColourForests$Kind", "rankOf", "(I)I"⟩, Cond.sameMethod "ColourForests$Kind" "ColourForests$Kind" "rankOf" "(I)I", Cond.selects RX2 ⟨"ColourForests$Kind", "rankOf", "(I)I"⟩ yX2_rankOf, Cond.instanceMethod yX2_rankOf, Cond.initialized RX2, Cond.code yX2_rankOf cX2_rankOf 5 (some .int)]
def wsX5_rank_r2 : List Cond := [Cond.fieldLink RX2 7 "ColourForests$LimitKind" "graph" "LColourForests$Graph;", Cond.sameField "ColourForests$LimitKind" "ColourForests$Kind" "graph" "LColourForests$Graph;", Cond.fieldLink RX2 19 "ColourForests$Graph" "edges" "I", Cond.methodLink RX2 13 yX0_fullRoom, Cond.instanceMethod yX0_fullRoom, Cond.selects RX0 yX0_fullRoom yX0_fullRoom, Cond.code yX0_fullRoom cX0_fullRoom 3 (some .int), Cond.fieldLink RX0 31 "ColourForests$Graph" "colours" "I", Cond.fieldLink RX0 9 "ColourForests$Graph" "limits" "[I", Cond.static yX5_withCell, Cond.code yX5_withCell cX5_withCell 4 (some .int), Cond.static yX5_hasBit, Cond.code yX5_hasBit cX5_hasBit 2 (some .boolean), Cond.methodLink RX2 29 yX0_hasRoom, Cond.instanceMethod yX0_hasRoom, Cond.selects RX0 yX0_hasRoom yX0_hasRoom, Cond.code yX0_hasRoom cX0_hasRoom 3 (some .boolean), Cond.fieldLink RX0 21 "ColourForests$Graph" "hues" "[I", Cond.static yX5_cell, Cond.code yX5_cell cX5_cell 2 (some .int), Cond.methodLink RX2 32 yX0_roomAfter, Cond.instanceMethod yX0_roomAfter, Cond.selects RX0 yX0_roomAfter yX0_roomAfter, Cond.code yX0_roomAfter cX0_roomAfter 3 (some .int)]
def wsX5_rank_r3 : List Cond := [Cond.selects RX3 ⟨"ColourForests$Kind", "rankOf", "(I)I"⟩ yX3_rankOf, Cond.instanceMethod yX3_rankOf, Cond.initialized RX3, Cond.code yX3_rankOf cX3_rankOf 5 (some .int), Cond.fieldLink RX3 7 "ColourForests$RinglessKind" "graph" "LColourForests$Graph;", Cond.sameField "ColourForests$RinglessKind" "ColourForests$Kind" "graph" "LColourForests$Graph;", Cond.fieldLink RX3 19 "ColourForests$Graph" "edges" "I", Cond.methodLink RX3 13 yX0_loneParts, Cond.instanceMethod yX0_loneParts, Cond.selects RX0 yX0_loneParts yX0_loneParts, Cond.code yX0_loneParts cX0_loneParts 3 (some .int), Cond.fieldLink RX0 27 "ColourForests$Graph" "vertices" "I", Cond.methodLink RX3 29 yX0_joinsTwoParts, Cond.instanceMethod yX0_joinsTwoParts, Cond.selects RX0 yX0_joinsTwoParts yX0_joinsTwoParts, Cond.code yX0_joinsTwoParts cX0_joinsTwoParts 3 (some .boolean), Cond.fieldLink RX0 15 "ColourForests$Graph" "firstEnds" "[I", Cond.fieldLink RX0 18 "ColourForests$Graph" "secondEnds" "[I", Cond.methodLink RX3 32 yX0_partsJoinedBy, Cond.instanceMethod yX0_partsJoinedBy, Cond.selects RX0 yX0_partsJoinedBy yX0_partsJoinedBy, Cond.code yX0_partsJoinedBy cX0_partsJoinedBy 7 (some .int)]
def wsX5_rank : List Cond := .code yX5_rank cX5_rank 4 (some .int) :: ((wsX5_rank_r1 ++ (wsX5_rank_r2 ++ wsX5_rank_r3)) ++ wsX50 ++ wsX00 ++ wsX20 ++ wsX30)
def wsX5_isCommon_r1 : List Cond := [Cond.fieldLink RX5 21 "ColourForests" "ringless" "LColourForests$Kind;", Cond.fieldLink RX5 28 "ColourForests" "withinLimits" "LColourForests$Kind;", Cond.methodLink RX5 126 ⟨"ColourForests$Kind", "allows", "(I)Z"⟩, Cond.sameMethod "ColourForests$Kind" "ColourForests$Kind" "allows" "(I)Z", Cond.selects RX2 ⟨"ColourForests$Kind", "allows", "(I)Z"⟩ yX1_allows, Cond.instanceMethod yX1_allows, Cond.initialized RX1, Cond.code yX1_allows cX1_allows 2 (some .boolean), Cond.methodLink RX1 13 ⟨"ColourForests$Kind", "rankOf", "(I)I"⟩, Cond.sameMethod "ColourForests$Kind" "ColourForests$Kind" "rankOf" "(I)I", Cond.selects RX2 ⟨"ColourForests$Kind", "rankOf", "(I)I"⟩ yX2_rankOf, Cond.instanceMethod yX2_rankOf, Cond.initialized RX2, Cond.code yX2_rankOf cX2_rankOf 5 (some .int), Cond.fieldLink RX2 7 "ColourForests$LimitKind" "graph" "LColourForests$Graph;", Cond.sameField "ColourForests$LimitKind" "ColourForests$Kind" "graph" "LColourForests$Graph;", Cond.fieldLink RX2 19 "ColourForests$Graph" "edges" "I", Cond.methodLink RX2 13 yX0_fullRoom, Cond.instanceMethod yX0_fullRoom, Cond.selects RX0 yX0_fullRoom yX0_fullRoom, Cond.initialized RX0, Cond.code yX0_fullRoom cX0_fullRoom 3 (some .int), Cond.fieldLink RX0 31 "ColourForests$Graph" "colours" "I", Cond.fieldLink RX0 9 "ColourForests$Graph" "limits" "[I"]
def wsX5_isCommon_r2 : List Cond := [Cond.static yX5_withCell, Cond.initialized RX5, Cond.code yX5_withCell cX5_withCell 4 (some .int), Cond.static yX5_hasBit, Cond.code yX5_hasBit cX5_hasBit 2 (some .boolean), Cond.methodLink RX2 29 yX0_hasRoom, Cond.instanceMethod yX0_hasRoom, Cond.selects RX0 yX0_hasRoom yX0_hasRoom, Cond.code yX0_hasRoom cX0_hasRoom 3 (some .boolean), Cond.fieldLink RX0 21 "ColourForests$Graph" "hues" "[I", Cond.static yX5_cell, Cond.code yX5_cell cX5_cell 2 (some .int), Cond.methodLink RX2 32 yX0_roomAfter, Cond.instanceMethod yX0_roomAfter, Cond.selects RX0 yX0_roomAfter yX0_roomAfter, Cond.code yX0_roomAfter cX0_roomAfter 3 (some .int), Cond.selects RX3 ⟨"ColourForests$Kind", "rankOf", "(I)I"⟩ yX3_rankOf, Cond.instanceMethod yX3_rankOf, Cond.initialized RX3, Cond.code yX3_rankOf cX3_rankOf 5 (some .int), Cond.fieldLink RX3 7 "ColourForests$RinglessKind" "graph" "LColourForests$Graph;", Cond.sameField "ColourForests$RinglessKind" "ColourForests$Kind" "graph" "LColourForests$Graph;", Cond.fieldLink RX3 19 "ColourForests$Graph" "edges" "I", Cond.methodLink RX3 13 yX0_loneParts]
def wsX5_isCommon_r3 : List Cond := [Cond.instanceMethod yX0_loneParts, Cond.selects RX0 yX0_loneParts yX0_loneParts, Cond.code yX0_loneParts cX0_loneParts 3 (some .int), Cond.fieldLink RX0 27 "ColourForests$Graph" "vertices" "I", Cond.methodLink RX3 29 yX0_joinsTwoParts, Cond.instanceMethod yX0_joinsTwoParts, Cond.selects RX0 yX0_joinsTwoParts yX0_joinsTwoParts, Cond.code yX0_joinsTwoParts cX0_joinsTwoParts 3 (some .boolean), Cond.fieldLink RX0 15 "ColourForests$Graph" "firstEnds" "[I", Cond.fieldLink RX0 18 "ColourForests$Graph" "secondEnds" "[I", Cond.methodLink RX3 32 yX0_partsJoinedBy, Cond.instanceMethod yX0_partsJoinedBy, Cond.selects RX0 yX0_partsJoinedBy yX0_partsJoinedBy, Cond.code yX0_partsJoinedBy cX0_partsJoinedBy 7 (some .int), Cond.methodLink RX1 17 yJ6_bitCount_0f7a4, Cond.static yJ6_bitCount_0f7a4, Cond.initialized RJ6, Cond.code yJ6_bitCount_0f7a4 cJ6_bitCount_0f7a4 1 (some .int), Cond.constant RJ6 265 (1431655765), Cond.constant RJ6 266 (858993459), Cond.constant RJ6 267 (252645135), Cond.selects RX3 ⟨"ColourForests$Kind", "allows", "(I)Z"⟩ yX1_allows]
def wsX5_isCommon : List Cond := .code yX5_isCommon cX5_isCommon 2 (some .boolean) :: ((wsX5_isCommon_r1 ++ (wsX5_isCommon_r2 ++ wsX5_isCommon_r3)) ++ wsX50 ++ wsX20 ++ wsX30 ++ wsX00)
def wsX5_told : List Cond := .code yX5_told cX5_told 1 (some .int) :: ([])
def wsX5_free_r1 : List Cond := [Cond.fieldLink RX5 10 "ColourForests" "graph" "LColourForests$Graph;", Cond.methodLink RX5 110 yX0_hasSet, Cond.instanceMethod yX0_hasSet, Cond.selects RX0 yX0_hasSet yX0_hasSet, Cond.initialized RX0, Cond.code yX0_hasSet cX0_hasSet 2 (some .boolean), Cond.methodLink RX0 50 yX0_allEdges, Cond.instanceMethod yX0_allEdges, Cond.selects RX0 yX0_allEdges yX0_allEdges, Cond.code yX0_allEdges cX0_allEdges 1 (some .int), Cond.fieldLink RX0 34 "ColourForests$Graph" "edges" "I", Cond.methodLink RX5 119 yX5_isCommon, Cond.instanceMethod yX5_isCommon, Cond.selects RX5 yX5_isCommon yX5_isCommon, Cond.initialized RX5, Cond.code yX5_isCommon cX5_isCommon 2 (some .boolean), Cond.fieldLink RX5 21 "ColourForests" "ringless" "LColourForests$Kind;", Cond.fieldLink RX5 28 "ColourForests" "withinLimits" "LColourForests$Kind;", Cond.methodLink RX5 126 ⟨"ColourForests$Kind", "allows", "(I)Z"⟩, Cond.sameMethod "ColourForests$Kind" "ColourForests$Kind" "allows" "(I)Z", Cond.selects RX2 ⟨"ColourForests$Kind", "allows", "(I)Z"⟩ yX1_allows, Cond.instanceMethod yX1_allows, Cond.initialized RX1, Cond.code yX1_allows cX1_allows 2 (some .boolean)]
def wsX5_free_r2 : List Cond := [Cond.methodLink RX1 13 ⟨"ColourForests$Kind", "rankOf", "(I)I"⟩, Cond.sameMethod "ColourForests$Kind" "ColourForests$Kind" "rankOf" "(I)I", Cond.selects RX2 ⟨"ColourForests$Kind", "rankOf", "(I)I"⟩ yX2_rankOf, Cond.instanceMethod yX2_rankOf, Cond.initialized RX2, Cond.code yX2_rankOf cX2_rankOf 5 (some .int), Cond.fieldLink RX2 7 "ColourForests$LimitKind" "graph" "LColourForests$Graph;", Cond.sameField "ColourForests$LimitKind" "ColourForests$Kind" "graph" "LColourForests$Graph;", Cond.fieldLink RX2 19 "ColourForests$Graph" "edges" "I", Cond.methodLink RX2 13 yX0_fullRoom, Cond.instanceMethod yX0_fullRoom, Cond.selects RX0 yX0_fullRoom yX0_fullRoom, Cond.code yX0_fullRoom cX0_fullRoom 3 (some .int), Cond.fieldLink RX0 31 "ColourForests$Graph" "colours" "I", Cond.fieldLink RX0 9 "ColourForests$Graph" "limits" "[I", Cond.static yX5_withCell, Cond.code yX5_withCell cX5_withCell 4 (some .int), Cond.static yX5_hasBit, Cond.code yX5_hasBit cX5_hasBit 2 (some .boolean), Cond.methodLink RX2 29 yX0_hasRoom, Cond.instanceMethod yX0_hasRoom, Cond.selects RX0 yX0_hasRoom yX0_hasRoom, Cond.code yX0_hasRoom cX0_hasRoom 3 (some .boolean), Cond.fieldLink RX0 21 "ColourForests$Graph" "hues" "[I"]
def wsX5_free_r3 : List Cond := [Cond.static yX5_cell, Cond.code yX5_cell cX5_cell 2 (some .int), Cond.methodLink RX2 32 yX0_roomAfter, Cond.instanceMethod yX0_roomAfter, Cond.selects RX0 yX0_roomAfter yX0_roomAfter, Cond.code yX0_roomAfter cX0_roomAfter 3 (some .int), Cond.selects RX3 ⟨"ColourForests$Kind", "rankOf", "(I)I"⟩ yX3_rankOf, Cond.instanceMethod yX3_rankOf, Cond.initialized RX3, Cond.code yX3_rankOf cX3_rankOf 5 (some .int), Cond.fieldLink RX3 7 "ColourForests$RinglessKind" "graph" "LColourForests$Graph;", Cond.sameField "ColourForests$RinglessKind" "ColourForests$Kind" "graph" "LColourForests$Graph;", Cond.fieldLink RX3 19 "ColourForests$Graph" "edges" "I", Cond.methodLink RX3 13 yX0_loneParts, Cond.instanceMethod yX0_loneParts, Cond.selects RX0 yX0_loneParts yX0_loneParts, Cond.code yX0_loneParts cX0_loneParts 3 (some .int), Cond.fieldLink RX0 27 "ColourForests$Graph" "vertices" "I", Cond.methodLink RX3 29 yX0_joinsTwoParts, Cond.instanceMethod yX0_joinsTwoParts, Cond.selects RX0 yX0_joinsTwoParts yX0_joinsTwoParts, Cond.code yX0_joinsTwoParts cX0_joinsTwoParts 3 (some .boolean), Cond.fieldLink RX0 15 "ColourForests$Graph" "firstEnds" "[I", Cond.fieldLink RX0 18 "ColourForests$Graph" "secondEnds" "[I"]
def wsX5_free_r4 : List Cond := [Cond.methodLink RX3 32 yX0_partsJoinedBy, Cond.instanceMethod yX0_partsJoinedBy, Cond.selects RX0 yX0_partsJoinedBy yX0_partsJoinedBy, Cond.code yX0_partsJoinedBy cX0_partsJoinedBy 7 (some .int), Cond.methodLink RX1 17 yJ6_bitCount_0f7a4, Cond.static yJ6_bitCount_0f7a4, Cond.initialized RJ6, Cond.code yJ6_bitCount_0f7a4 cJ6_bitCount_0f7a4 1 (some .int), Cond.constant RJ6 265 (1431655765), Cond.constant RJ6 266 (858993459), Cond.constant RJ6 267 (252645135), Cond.selects RX3 ⟨"ColourForests$Kind", "allows", "(I)Z"⟩ yX1_allows, Cond.methodLink RX5 122 yX5_told, Cond.static yX5_told, Cond.code yX5_told cX5_told 1 (some .int), Cond.methodLink RX5 106 yX5_judgeOf, Cond.instanceMethod yX5_judgeOf, Cond.selects RX5 yX5_judgeOf yX5_judgeOf, Cond.code yX5_judgeOf cX5_judgeOf 2 (some (.object "ColourForests$Kind"))]
def wsX5_free : List Cond := .code yX5_free cX5_free 4 (some .int) :: ((wsX5_free_r1 ++ (wsX5_free_r2 ++ (wsX5_free_r3 ++ wsX5_free_r4))) ++ wsX50 ++ wsX00 ++ wsX20 ++ wsX30)
def wsX5_circuit_r1 : List Cond := [Cond.fieldLink RX5 10 "ColourForests" "graph" "LColourForests$Graph;", Cond.methodLink RX5 106 yX5_judgeOf, Cond.instanceMethod yX5_judgeOf, Cond.selects RX5 yX5_judgeOf yX5_judgeOf, Cond.initialized RX5, Cond.code yX5_judgeOf cX5_judgeOf 2 (some (.object "ColourForests$Kind")), Cond.fieldLink RX5 21 "ColourForests" "ringless" "LColourForests$Kind;", Cond.fieldLink RX5 28 "ColourForests" "withinLimits" "LColourForests$Kind;", Cond.methodLink RX5 81 yX0_hasEdge, Cond.instanceMethod yX0_hasEdge, Cond.selects RX0 yX0_hasEdge yX0_hasEdge, Cond.initialized RX0, Cond.code yX0_hasEdge cX0_hasEdge 2 (some .boolean), Cond.fieldLink RX0 34 "ColourForests$Graph" "edges" "I", Cond.static yX5_within, Cond.code yX5_within cX5_within 3 (some .boolean), Cond.methodLink RX5 110 yX0_hasSet, Cond.instanceMethod yX0_hasSet, Cond.selects RX0 yX0_hasSet yX0_hasSet, Cond.code yX0_hasSet cX0_hasSet 2 (some .boolean), Cond.methodLink RX0 50 yX0_allEdges, Cond.instanceMethod yX0_allEdges, Cond.selects RX0 yX0_allEdges yX0_allEdges, Cond.code yX0_allEdges cX0_allEdges 1 (some .int)]
def wsX5_circuit_r2 : List Cond := [Cond.methodLink RX5 126 ⟨"ColourForests$Kind", "allows", "(I)Z"⟩, Cond.sameMethod "ColourForests$Kind" "ColourForests$Kind" "allows" "(I)Z", Cond.selects RX2 ⟨"ColourForests$Kind", "allows", "(I)Z"⟩ yX1_allows, Cond.instanceMethod yX1_allows, Cond.initialized RX1, Cond.code yX1_allows cX1_allows 2 (some .boolean), Cond.methodLink RX1 13 ⟨"ColourForests$Kind", "rankOf", "(I)I"⟩, Cond.sameMethod "ColourForests$Kind" "ColourForests$Kind" "rankOf" "(I)I", Cond.selects RX2 ⟨"ColourForests$Kind", "rankOf", "(I)I"⟩ yX2_rankOf, Cond.instanceMethod yX2_rankOf, Cond.initialized RX2, Cond.code yX2_rankOf cX2_rankOf 5 (some .int), Cond.fieldLink RX2 7 "ColourForests$LimitKind" "graph" "LColourForests$Graph;", Cond.sameField "ColourForests$LimitKind" "ColourForests$Kind" "graph" "LColourForests$Graph;", Cond.fieldLink RX2 19 "ColourForests$Graph" "edges" "I", Cond.methodLink RX2 13 yX0_fullRoom, Cond.instanceMethod yX0_fullRoom, Cond.selects RX0 yX0_fullRoom yX0_fullRoom, Cond.code yX0_fullRoom cX0_fullRoom 3 (some .int), Cond.fieldLink RX0 31 "ColourForests$Graph" "colours" "I", Cond.fieldLink RX0 9 "ColourForests$Graph" "limits" "[I", Cond.static yX5_withCell, Cond.code yX5_withCell cX5_withCell 4 (some .int), Cond.static yX5_hasBit]
def wsX5_circuit_r3 : List Cond := [Cond.code yX5_hasBit cX5_hasBit 2 (some .boolean), Cond.methodLink RX2 29 yX0_hasRoom, Cond.instanceMethod yX0_hasRoom, Cond.selects RX0 yX0_hasRoom yX0_hasRoom, Cond.code yX0_hasRoom cX0_hasRoom 3 (some .boolean), Cond.fieldLink RX0 21 "ColourForests$Graph" "hues" "[I", Cond.static yX5_cell, Cond.code yX5_cell cX5_cell 2 (some .int), Cond.methodLink RX2 32 yX0_roomAfter, Cond.instanceMethod yX0_roomAfter, Cond.selects RX0 yX0_roomAfter yX0_roomAfter, Cond.code yX0_roomAfter cX0_roomAfter 3 (some .int), Cond.selects RX3 ⟨"ColourForests$Kind", "rankOf", "(I)I"⟩ yX3_rankOf, Cond.instanceMethod yX3_rankOf, Cond.initialized RX3, Cond.code yX3_rankOf cX3_rankOf 5 (some .int), Cond.fieldLink RX3 7 "ColourForests$RinglessKind" "graph" "LColourForests$Graph;", Cond.sameField "ColourForests$RinglessKind" "ColourForests$Kind" "graph" "LColourForests$Graph;", Cond.fieldLink RX3 19 "ColourForests$Graph" "edges" "I", Cond.methodLink RX3 13 yX0_loneParts, Cond.instanceMethod yX0_loneParts, Cond.selects RX0 yX0_loneParts yX0_loneParts, Cond.code yX0_loneParts cX0_loneParts 3 (some .int), Cond.fieldLink RX0 27 "ColourForests$Graph" "vertices" "I"]
def wsX5_circuit_r4 : List Cond := [Cond.methodLink RX3 29 yX0_joinsTwoParts, Cond.instanceMethod yX0_joinsTwoParts, Cond.selects RX0 yX0_joinsTwoParts yX0_joinsTwoParts, Cond.code yX0_joinsTwoParts cX0_joinsTwoParts 3 (some .boolean), Cond.fieldLink RX0 15 "ColourForests$Graph" "firstEnds" "[I", Cond.fieldLink RX0 18 "ColourForests$Graph" "secondEnds" "[I", Cond.methodLink RX3 32 yX0_partsJoinedBy, Cond.instanceMethod yX0_partsJoinedBy, Cond.selects RX0 yX0_partsJoinedBy yX0_partsJoinedBy, Cond.code yX0_partsJoinedBy cX0_partsJoinedBy 7 (some .int), Cond.methodLink RX1 17 yJ6_bitCount_0f7a4, Cond.static yJ6_bitCount_0f7a4, Cond.initialized RJ6, Cond.code yJ6_bitCount_0f7a4 cJ6_bitCount_0f7a4 1 (some .int), Cond.constant RJ6 265 (1431655765), Cond.constant RJ6 266 (858993459), Cond.constant RJ6 267 (252645135), Cond.selects RX3 ⟨"ColourForests$Kind", "allows", "(I)Z"⟩ yX1_allows, Cond.methodLink RX5 129 yX5_hasBit, Cond.methodLink RX5 133 ⟨"ColourForests$Kind", "circuitWithin", "(I)I"⟩, Cond.sameMethod "ColourForests$Kind" "ColourForests$Kind" "circuitWithin" "(I)I", Cond.selects RX2 ⟨"ColourForests$Kind", "circuitWithin", "(I)I"⟩ yX1_circuitWithin, Cond.instanceMethod yX1_circuitWithin, Cond.code yX1_circuitWithin cX1_circuitWithin 6 (some .int)]
def wsX5_circuit_r5 : List Cond := [Cond.fieldLink RX1 7 "ColourForests$Kind" "graph" "LColourForests$Graph;", Cond.fieldLink RX1 22 "ColourForests$Graph" "edges" "I", Cond.selects RX3 ⟨"ColourForests$Kind", "circuitWithin", "(I)I"⟩ yX1_circuitWithin]
def wsX5_circuit : List Cond := .code yX5_circuit cX5_circuit 5 (some .int) :: ((wsX5_circuit_r1 ++ (wsX5_circuit_r2 ++ (wsX5_circuit_r3 ++ (wsX5_circuit_r4 ++ wsX5_circuit_r5)))) ++ wsX50 ++ wsX00 ++ wsX20 ++ wsX30)
def wsX5_closure_r1 : List Cond := [Cond.fieldLink RX5 10 "ColourForests" "graph" "LColourForests$Graph;", Cond.methodLink RX5 106 yX5_judgeOf, Cond.instanceMethod yX5_judgeOf, Cond.selects RX5 yX5_judgeOf yX5_judgeOf, Cond.initialized RX5, Cond.code yX5_judgeOf cX5_judgeOf 2 (some (.object "ColourForests$Kind")), Cond.fieldLink RX5 21 "ColourForests" "ringless" "LColourForests$Kind;", Cond.fieldLink RX5 28 "ColourForests" "withinLimits" "LColourForests$Kind;", Cond.methodLink RX5 110 yX0_hasSet, Cond.instanceMethod yX0_hasSet, Cond.selects RX0 yX0_hasSet yX0_hasSet, Cond.initialized RX0, Cond.code yX0_hasSet cX0_hasSet 2 (some .boolean), Cond.methodLink RX0 50 yX0_allEdges, Cond.instanceMethod yX0_allEdges, Cond.selects RX0 yX0_allEdges yX0_allEdges, Cond.code yX0_allEdges cX0_allEdges 1 (some .int), Cond.fieldLink RX0 34 "ColourForests$Graph" "edges" "I", Cond.methodLink RX5 136 ⟨"ColourForests$Kind", "closureOf", "(I)I"⟩, Cond.sameMethod "ColourForests$Kind" "ColourForests$Kind" "closureOf" "(I)I", Cond.selects RX2 ⟨"ColourForests$Kind", "closureOf", "(I)I"⟩ yX1_closureOf, Cond.instanceMethod yX1_closureOf, Cond.initialized RX1, Cond.code yX1_closureOf cX1_closureOf 6 (some .int)]
def wsX5_closure_r2 : List Cond := [Cond.fieldLink RX1 7 "ColourForests$Kind" "graph" "LColourForests$Graph;", Cond.fieldLink RX1 22 "ColourForests$Graph" "edges" "I", Cond.methodLink RX1 13 ⟨"ColourForests$Kind", "rankOf", "(I)I"⟩, Cond.sameMethod "ColourForests$Kind" "ColourForests$Kind" "rankOf" "(I)I", Cond.selects RX2 ⟨"ColourForests$Kind", "rankOf", "(I)I"⟩ yX2_rankOf, Cond.instanceMethod yX2_rankOf, Cond.initialized RX2, Cond.code yX2_rankOf cX2_rankOf 5 (some .int), Cond.fieldLink RX2 7 "ColourForests$LimitKind" "graph" "LColourForests$Graph;", Cond.sameField "ColourForests$LimitKind" "ColourForests$Kind" "graph" "LColourForests$Graph;", Cond.fieldLink RX2 19 "ColourForests$Graph" "edges" "I", Cond.methodLink RX2 13 yX0_fullRoom, Cond.instanceMethod yX0_fullRoom, Cond.selects RX0 yX0_fullRoom yX0_fullRoom, Cond.code yX0_fullRoom cX0_fullRoom 3 (some .int), Cond.fieldLink RX0 31 "ColourForests$Graph" "colours" "I", Cond.fieldLink RX0 9 "ColourForests$Graph" "limits" "[I", Cond.static yX5_withCell, Cond.code yX5_withCell cX5_withCell 4 (some .int), Cond.static yX5_hasBit, Cond.code yX5_hasBit cX5_hasBit 2 (some .boolean), Cond.methodLink RX2 29 yX0_hasRoom, Cond.instanceMethod yX0_hasRoom, Cond.selects RX0 yX0_hasRoom yX0_hasRoom]
def wsX5_closure_r3 : List Cond := [Cond.code yX0_hasRoom cX0_hasRoom 3 (some .boolean), Cond.fieldLink RX0 21 "ColourForests$Graph" "hues" "[I", Cond.static yX5_cell, Cond.code yX5_cell cX5_cell 2 (some .int), Cond.methodLink RX2 32 yX0_roomAfter, Cond.instanceMethod yX0_roomAfter, Cond.selects RX0 yX0_roomAfter yX0_roomAfter, Cond.code yX0_roomAfter cX0_roomAfter 3 (some .int), Cond.selects RX3 ⟨"ColourForests$Kind", "rankOf", "(I)I"⟩ yX3_rankOf, Cond.instanceMethod yX3_rankOf, Cond.initialized RX3, Cond.code yX3_rankOf cX3_rankOf 5 (some .int), Cond.fieldLink RX3 7 "ColourForests$RinglessKind" "graph" "LColourForests$Graph;", Cond.sameField "ColourForests$RinglessKind" "ColourForests$Kind" "graph" "LColourForests$Graph;", Cond.fieldLink RX3 19 "ColourForests$Graph" "edges" "I", Cond.methodLink RX3 13 yX0_loneParts, Cond.instanceMethod yX0_loneParts, Cond.selects RX0 yX0_loneParts yX0_loneParts, Cond.code yX0_loneParts cX0_loneParts 3 (some .int), Cond.fieldLink RX0 27 "ColourForests$Graph" "vertices" "I", Cond.methodLink RX3 29 yX0_joinsTwoParts, Cond.instanceMethod yX0_joinsTwoParts, Cond.selects RX0 yX0_joinsTwoParts yX0_joinsTwoParts, Cond.code yX0_joinsTwoParts cX0_joinsTwoParts 3 (some .boolean)]
def wsX5_closure_r4 : List Cond := [Cond.fieldLink RX0 15 "ColourForests$Graph" "firstEnds" "[I", Cond.fieldLink RX0 18 "ColourForests$Graph" "secondEnds" "[I", Cond.methodLink RX3 32 yX0_partsJoinedBy, Cond.instanceMethod yX0_partsJoinedBy, Cond.selects RX0 yX0_partsJoinedBy yX0_partsJoinedBy, Cond.code yX0_partsJoinedBy cX0_partsJoinedBy 7 (some .int), Cond.selects RX3 ⟨"ColourForests$Kind", "closureOf", "(I)I"⟩ yX1_closureOf]
def wsX5_closure : List Cond := .code yX5_closure cX5_closure 4 (some .int) :: ((wsX5_closure_r1 ++ (wsX5_closure_r2 ++ (wsX5_closure_r3 ++ wsX5_closure_r4))) ++ wsX50 ++ wsX00 ++ wsX20 ++ wsX30)
def wsX5_most_r1 : List Cond := [Cond.fieldLink RX5 34 "ColourForests" "survey" "LColourForests$Survey;", Cond.fieldLink RX5 139 "ColourForests$Survey" "most" "I", Cond.methodLink RX5 97 yX4_refresh, Cond.instanceMethod yX4_refresh, Cond.selects RX4 yX4_refresh yX4_refresh, Cond.initialized RX4, Cond.code yX4_refresh cX4_refresh 1 none, Cond.fieldLink RX4 11 "ColourForests$Survey" "changesSeen" "I", Cond.fieldLink RX4 31 "ColourForests$Survey" "graph" "LColourForests$Graph;", Cond.fieldLink RX4 42 "ColourForests$Graph" "changes" "I", Cond.methodLink RX4 47 yX4_walk, Cond.instanceMethod yX4_walk, Cond.selects RX4 yX4_walk yX4_walk, Cond.code yX4_walk cX4_walk 5 none, Cond.fieldLink RX4 53 "ColourForests$Graph" "edges" "I", Cond.methodLink RX4 50 yX4_begin, Cond.instanceMethod yX4_begin, Cond.selects RX4 yX4_begin yX4_begin, Cond.code yX4_begin cX4_begin 1 none, Cond.fieldLink RX4 22 "ColourForests$Survey" "partsFrom" "[I", Cond.fieldLink RX4 25 "ColourForests$Survey" "roomFrom" "[I", Cond.fieldLink RX4 28 "ColourForests$Survey" "weightFrom" "[I", Cond.fieldLink RX4 80 "ColourForests$Survey" "widest" "I", Cond.fieldLink RX4 83 "ColourForests$Survey" "widestForests" "I"]
def wsX5_most_r2 : List Cond := [Cond.fieldLink RX4 86 "ColourForests$Survey" "commonSets" "I", Cond.fieldLink RX4 35 "ColourForests$Survey" "most" "I", Cond.fieldLink RX4 15 "ColourForests$Survey" "dearestSets" "[I", Cond.fieldLink RX4 19 "ColourForests$Survey" "dearestWeights" "[I", Cond.methodLink RX4 73 yX0_loneParts, Cond.instanceMethod yX0_loneParts, Cond.selects RX0 yX0_loneParts yX0_loneParts, Cond.initialized RX0, Cond.code yX0_loneParts cX0_loneParts 3 (some .int), Cond.fieldLink RX0 27 "ColourForests$Graph" "vertices" "I", Cond.static yX5_withCell, Cond.initialized RX5, Cond.code yX5_withCell cX5_withCell 4 (some .int), Cond.methodLink RX4 77 yX0_fullRoom, Cond.instanceMethod yX0_fullRoom, Cond.selects RX0 yX0_fullRoom yX0_fullRoom, Cond.code yX0_fullRoom cX0_fullRoom 3 (some .int), Cond.fieldLink RX0 31 "ColourForests$Graph" "colours" "I", Cond.fieldLink RX0 9 "ColourForests$Graph" "limits" "[I", Cond.methodLink RX4 56 yJ6_numberOfTrailingZeros_0f7a4, Cond.static yJ6_numberOfTrailingZeros_0f7a4, Cond.initialized RJ6, Cond.code yJ6_numberOfTrailingZeros_0f7a4 cJ6_numberOfTrailingZeros_0f7a4 2 (some .int), Cond.constant RJ6 264 (65536)]
def wsX5_most_r3 : List Cond := [Cond.methodLink RX4 62 yX4_placeAbove, Cond.instanceMethod yX4_placeAbove, Cond.selects RX4 yX4_placeAbove yX4_placeAbove, Cond.code yX4_placeAbove cX4_placeAbove 3 (some .int), Cond.methodLink RX4 65 yX4_enter, Cond.instanceMethod yX4_enter, Cond.selects RX4 yX4_enter yX4_enter, Cond.code yX4_enter cX4_enter 5 (some .boolean), Cond.fieldLink RX4 102 "ColourForests$Graph" "weights" "[I", Cond.methodLink RX4 89 yX0_joinsTwoParts, Cond.instanceMethod yX0_joinsTwoParts, Cond.selects RX0 yX0_joinsTwoParts yX0_joinsTwoParts, Cond.code yX0_joinsTwoParts cX0_joinsTwoParts 3 (some .boolean), Cond.fieldLink RX0 15 "ColourForests$Graph" "firstEnds" "[I", Cond.fieldLink RX0 18 "ColourForests$Graph" "secondEnds" "[I", Cond.static yX5_cell, Cond.code yX5_cell cX5_cell 2 (some .int), Cond.methodLink RX4 92 yX0_partsJoinedBy, Cond.instanceMethod yX0_partsJoinedBy, Cond.selects RX0 yX0_partsJoinedBy yX0_partsJoinedBy, Cond.code yX0_partsJoinedBy cX0_partsJoinedBy 7 (some .int), Cond.methodLink RX4 96 yX0_hasRoom, Cond.instanceMethod yX0_hasRoom, Cond.selects RX0 yX0_hasRoom yX0_hasRoom]
def wsX5_most_r4 : List Cond := [Cond.code yX0_hasRoom cX0_hasRoom 3 (some .boolean), Cond.fieldLink RX0 21 "ColourForests$Graph" "hues" "[I", Cond.methodLink RX4 99 yX0_roomAfter, Cond.instanceMethod yX0_roomAfter, Cond.selects RX0 yX0_roomAfter yX0_roomAfter, Cond.code yX0_roomAfter cX0_roomAfter 3 (some .int), Cond.methodLink RX4 69 yX4_note, Cond.instanceMethod yX4_note, Cond.selects RX4 yX4_note yX4_note, Cond.code yX4_note cX4_note 4 none, Cond.methodLink RX4 105 yJ6_bitCount_0f7a4, Cond.static yJ6_bitCount_0f7a4, Cond.code yJ6_bitCount_0f7a4 cJ6_bitCount_0f7a4 1 (some .int), Cond.constant RJ6 265 (1431655765), Cond.constant RJ6 266 (858993459), Cond.constant RJ6 267 (252645135), Cond.methodLink RX4 108 yX4_noteForest, Cond.instanceMethod yX4_noteForest, Cond.selects RX4 yX4_noteForest yX4_noteForest, Cond.code yX4_noteForest cX4_noteForest 2 none, Cond.methodLink RX4 112 yX4_noteCommon, Cond.instanceMethod yX4_noteCommon, Cond.selects RX4 yX4_noteCommon yX4_noteCommon, Cond.code yX4_noteCommon cX4_noteCommon 4 none]
def wsX5_most_r5 : List Cond := [Cond.methodLink RX4 116 Lib.Math.max.name, Cond.static Lib.Math.max.name, Cond.initialized "java/lang/Math", Cond.code Lib.Math.max.name Lib.Math.max.code 2 (some .int)]
def wsX5_most : List Cond := .code yX5_most cX5_most 1 (some .int) :: ((wsX5_most_r1 ++ (wsX5_most_r2 ++ (wsX5_most_r3 ++ (wsX5_most_r4 ++ wsX5_most_r5)))) ++ wsX50 ++ wsX40 ++ wsX00)
def wsX5_dearest_r1 : List Cond := [Cond.fieldLink RX5 34 "ColourForests" "survey" "LColourForests$Survey;", Cond.fieldLink RX5 145 "ColourForests$Survey" "dearestSets" "[I", Cond.methodLink RX5 97 yX4_refresh, Cond.instanceMethod yX4_refresh, Cond.selects RX4 yX4_refresh yX4_refresh, Cond.initialized RX4, Cond.code yX4_refresh cX4_refresh 1 none, Cond.fieldLink RX4 11 "ColourForests$Survey" "changesSeen" "I", Cond.fieldLink RX4 31 "ColourForests$Survey" "graph" "LColourForests$Graph;", Cond.fieldLink RX4 42 "ColourForests$Graph" "changes" "I", Cond.methodLink RX4 47 yX4_walk, Cond.instanceMethod yX4_walk, Cond.selects RX4 yX4_walk yX4_walk, Cond.code yX4_walk cX4_walk 5 none, Cond.fieldLink RX4 53 "ColourForests$Graph" "edges" "I", Cond.methodLink RX4 50 yX4_begin, Cond.instanceMethod yX4_begin, Cond.selects RX4 yX4_begin yX4_begin, Cond.code yX4_begin cX4_begin 1 none, Cond.fieldLink RX4 22 "ColourForests$Survey" "partsFrom" "[I", Cond.fieldLink RX4 25 "ColourForests$Survey" "roomFrom" "[I", Cond.fieldLink RX4 28 "ColourForests$Survey" "weightFrom" "[I", Cond.fieldLink RX4 80 "ColourForests$Survey" "widest" "I", Cond.fieldLink RX4 83 "ColourForests$Survey" "widestForests" "I"]
def wsX5_dearest_r2 : List Cond := [Cond.fieldLink RX4 86 "ColourForests$Survey" "commonSets" "I", Cond.fieldLink RX4 35 "ColourForests$Survey" "most" "I", Cond.fieldLink RX4 15 "ColourForests$Survey" "dearestSets" "[I", Cond.fieldLink RX4 19 "ColourForests$Survey" "dearestWeights" "[I", Cond.methodLink RX4 73 yX0_loneParts, Cond.instanceMethod yX0_loneParts, Cond.selects RX0 yX0_loneParts yX0_loneParts, Cond.initialized RX0, Cond.code yX0_loneParts cX0_loneParts 3 (some .int), Cond.fieldLink RX0 27 "ColourForests$Graph" "vertices" "I", Cond.static yX5_withCell, Cond.initialized RX5, Cond.code yX5_withCell cX5_withCell 4 (some .int), Cond.methodLink RX4 77 yX0_fullRoom, Cond.instanceMethod yX0_fullRoom, Cond.selects RX0 yX0_fullRoom yX0_fullRoom, Cond.code yX0_fullRoom cX0_fullRoom 3 (some .int), Cond.fieldLink RX0 31 "ColourForests$Graph" "colours" "I", Cond.fieldLink RX0 9 "ColourForests$Graph" "limits" "[I", Cond.methodLink RX4 56 yJ6_numberOfTrailingZeros_0f7a4, Cond.static yJ6_numberOfTrailingZeros_0f7a4, Cond.initialized RJ6, Cond.code yJ6_numberOfTrailingZeros_0f7a4 cJ6_numberOfTrailingZeros_0f7a4 2 (some .int), Cond.constant RJ6 264 (65536)]
def wsX5_dearest_r3 : List Cond := [Cond.methodLink RX4 62 yX4_placeAbove, Cond.instanceMethod yX4_placeAbove, Cond.selects RX4 yX4_placeAbove yX4_placeAbove, Cond.code yX4_placeAbove cX4_placeAbove 3 (some .int), Cond.methodLink RX4 65 yX4_enter, Cond.instanceMethod yX4_enter, Cond.selects RX4 yX4_enter yX4_enter, Cond.code yX4_enter cX4_enter 5 (some .boolean), Cond.fieldLink RX4 102 "ColourForests$Graph" "weights" "[I", Cond.methodLink RX4 89 yX0_joinsTwoParts, Cond.instanceMethod yX0_joinsTwoParts, Cond.selects RX0 yX0_joinsTwoParts yX0_joinsTwoParts, Cond.code yX0_joinsTwoParts cX0_joinsTwoParts 3 (some .boolean), Cond.fieldLink RX0 15 "ColourForests$Graph" "firstEnds" "[I", Cond.fieldLink RX0 18 "ColourForests$Graph" "secondEnds" "[I", Cond.static yX5_cell, Cond.code yX5_cell cX5_cell 2 (some .int), Cond.methodLink RX4 92 yX0_partsJoinedBy, Cond.instanceMethod yX0_partsJoinedBy, Cond.selects RX0 yX0_partsJoinedBy yX0_partsJoinedBy, Cond.code yX0_partsJoinedBy cX0_partsJoinedBy 7 (some .int), Cond.methodLink RX4 96 yX0_hasRoom, Cond.instanceMethod yX0_hasRoom, Cond.selects RX0 yX0_hasRoom yX0_hasRoom]
def wsX5_dearest_r4 : List Cond := [Cond.code yX0_hasRoom cX0_hasRoom 3 (some .boolean), Cond.fieldLink RX0 21 "ColourForests$Graph" "hues" "[I", Cond.methodLink RX4 99 yX0_roomAfter, Cond.instanceMethod yX0_roomAfter, Cond.selects RX0 yX0_roomAfter yX0_roomAfter, Cond.code yX0_roomAfter cX0_roomAfter 3 (some .int), Cond.methodLink RX4 69 yX4_note, Cond.instanceMethod yX4_note, Cond.selects RX4 yX4_note yX4_note, Cond.code yX4_note cX4_note 4 none, Cond.methodLink RX4 105 yJ6_bitCount_0f7a4, Cond.static yJ6_bitCount_0f7a4, Cond.code yJ6_bitCount_0f7a4 cJ6_bitCount_0f7a4 1 (some .int), Cond.constant RJ6 265 (1431655765), Cond.constant RJ6 266 (858993459), Cond.constant RJ6 267 (252645135), Cond.methodLink RX4 108 yX4_noteForest, Cond.instanceMethod yX4_noteForest, Cond.selects RX4 yX4_noteForest yX4_noteForest, Cond.code yX4_noteForest cX4_noteForest 2 none, Cond.methodLink RX4 112 yX4_noteCommon, Cond.instanceMethod yX4_noteCommon, Cond.selects RX4 yX4_noteCommon yX4_noteCommon, Cond.code yX4_noteCommon cX4_noteCommon 4 none]
def wsX5_dearest_r5 : List Cond := [Cond.methodLink RX4 116 Lib.Math.max.name, Cond.static Lib.Math.max.name, Cond.initialized "java/lang/Math", Cond.code Lib.Math.max.name Lib.Math.max.code 2 (some .int), Cond.methodLink RX5 142 yX4_hasSize, Cond.instanceMethod yX4_hasSize, Cond.selects RX4 yX4_hasSize yX4_hasSize, Cond.code yX4_hasSize cX4_hasSize 2 (some .boolean), Cond.static yX5_within, Cond.code yX5_within cX5_within 3 (some .boolean)]
def wsX5_dearest : List Cond := .code yX5_dearest cX5_dearest 2 (some .int) :: ((wsX5_dearest_r1 ++ (wsX5_dearest_r2 ++ (wsX5_dearest_r3 ++ (wsX5_dearest_r4 ++ wsX5_dearest_r5)))) ++ wsX50 ++ wsX40 ++ wsX00)
def wsX5_weight_r1 : List Cond := [Cond.classLink RX5 42 "java/lang/IllegalArgumentException", Cond.initialized "java/lang/IllegalArgumentException", Cond.fieldLink RX5 34 "ColourForests" "survey" "LColourForests$Survey;", Cond.fieldLink RX5 151 "ColourForests$Survey" "dearestWeights" "[I", Cond.methodLink RX5 97 yX4_refresh, Cond.instanceMethod yX4_refresh, Cond.selects RX4 yX4_refresh yX4_refresh, Cond.initialized RX4, Cond.code yX4_refresh cX4_refresh 1 none, Cond.fieldLink RX4 11 "ColourForests$Survey" "changesSeen" "I", Cond.fieldLink RX4 31 "ColourForests$Survey" "graph" "LColourForests$Graph;", Cond.fieldLink RX4 42 "ColourForests$Graph" "changes" "I", Cond.methodLink RX4 47 yX4_walk, Cond.instanceMethod yX4_walk, Cond.selects RX4 yX4_walk yX4_walk, Cond.code yX4_walk cX4_walk 5 none, Cond.fieldLink RX4 53 "ColourForests$Graph" "edges" "I", Cond.methodLink RX4 50 yX4_begin, Cond.instanceMethod yX4_begin, Cond.selects RX4 yX4_begin yX4_begin, Cond.code yX4_begin cX4_begin 1 none, Cond.fieldLink RX4 22 "ColourForests$Survey" "partsFrom" "[I", Cond.fieldLink RX4 25 "ColourForests$Survey" "roomFrom" "[I", Cond.fieldLink RX4 28 "ColourForests$Survey" "weightFrom" "[I"]
def wsX5_weight_r2 : List Cond := [Cond.fieldLink RX4 80 "ColourForests$Survey" "widest" "I", Cond.fieldLink RX4 83 "ColourForests$Survey" "widestForests" "I", Cond.fieldLink RX4 86 "ColourForests$Survey" "commonSets" "I", Cond.fieldLink RX4 35 "ColourForests$Survey" "most" "I", Cond.fieldLink RX4 15 "ColourForests$Survey" "dearestSets" "[I", Cond.fieldLink RX4 19 "ColourForests$Survey" "dearestWeights" "[I", Cond.methodLink RX4 73 yX0_loneParts, Cond.instanceMethod yX0_loneParts, Cond.selects RX0 yX0_loneParts yX0_loneParts, Cond.initialized RX0, Cond.code yX0_loneParts cX0_loneParts 3 (some .int), Cond.fieldLink RX0 27 "ColourForests$Graph" "vertices" "I", Cond.static yX5_withCell, Cond.initialized RX5, Cond.code yX5_withCell cX5_withCell 4 (some .int), Cond.methodLink RX4 77 yX0_fullRoom, Cond.instanceMethod yX0_fullRoom, Cond.selects RX0 yX0_fullRoom yX0_fullRoom, Cond.code yX0_fullRoom cX0_fullRoom 3 (some .int), Cond.fieldLink RX0 31 "ColourForests$Graph" "colours" "I", Cond.fieldLink RX0 9 "ColourForests$Graph" "limits" "[I", Cond.methodLink RX4 56 yJ6_numberOfTrailingZeros_0f7a4, Cond.static yJ6_numberOfTrailingZeros_0f7a4, Cond.initialized RJ6]
def wsX5_weight_r3 : List Cond := [Cond.code yJ6_numberOfTrailingZeros_0f7a4 cJ6_numberOfTrailingZeros_0f7a4 2 (some .int), Cond.constant RJ6 264 (65536), Cond.methodLink RX4 62 yX4_placeAbove, Cond.instanceMethod yX4_placeAbove, Cond.selects RX4 yX4_placeAbove yX4_placeAbove, Cond.code yX4_placeAbove cX4_placeAbove 3 (some .int), Cond.methodLink RX4 65 yX4_enter, Cond.instanceMethod yX4_enter, Cond.selects RX4 yX4_enter yX4_enter, Cond.code yX4_enter cX4_enter 5 (some .boolean), Cond.fieldLink RX4 102 "ColourForests$Graph" "weights" "[I", Cond.methodLink RX4 89 yX0_joinsTwoParts, Cond.instanceMethod yX0_joinsTwoParts, Cond.selects RX0 yX0_joinsTwoParts yX0_joinsTwoParts, Cond.code yX0_joinsTwoParts cX0_joinsTwoParts 3 (some .boolean), Cond.fieldLink RX0 15 "ColourForests$Graph" "firstEnds" "[I", Cond.fieldLink RX0 18 "ColourForests$Graph" "secondEnds" "[I", Cond.static yX5_cell, Cond.code yX5_cell cX5_cell 2 (some .int), Cond.methodLink RX4 92 yX0_partsJoinedBy, Cond.instanceMethod yX0_partsJoinedBy, Cond.selects RX0 yX0_partsJoinedBy yX0_partsJoinedBy, Cond.code yX0_partsJoinedBy cX0_partsJoinedBy 7 (some .int), Cond.methodLink RX4 96 yX0_hasRoom]
def wsX5_weight_r4 : List Cond := [Cond.instanceMethod yX0_hasRoom, Cond.selects RX0 yX0_hasRoom yX0_hasRoom, Cond.code yX0_hasRoom cX0_hasRoom 3 (some .boolean), Cond.fieldLink RX0 21 "ColourForests$Graph" "hues" "[I", Cond.methodLink RX4 99 yX0_roomAfter, Cond.instanceMethod yX0_roomAfter, Cond.selects RX0 yX0_roomAfter yX0_roomAfter, Cond.code yX0_roomAfter cX0_roomAfter 3 (some .int), Cond.methodLink RX4 69 yX4_note, Cond.instanceMethod yX4_note, Cond.selects RX4 yX4_note yX4_note, Cond.code yX4_note cX4_note 4 none, Cond.methodLink RX4 105 yJ6_bitCount_0f7a4, Cond.static yJ6_bitCount_0f7a4, Cond.code yJ6_bitCount_0f7a4 cJ6_bitCount_0f7a4 1 (some .int), Cond.constant RJ6 265 (1431655765), Cond.constant RJ6 266 (858993459), Cond.constant RJ6 267 (252645135), Cond.methodLink RX4 108 yX4_noteForest, Cond.instanceMethod yX4_noteForest, Cond.selects RX4 yX4_noteForest yX4_noteForest, Cond.code yX4_noteForest cX4_noteForest 2 none, Cond.methodLink RX4 112 yX4_noteCommon, Cond.instanceMethod yX4_noteCommon]
def wsX5_weight_r5 : List Cond := [Cond.selects RX4 yX4_noteCommon yX4_noteCommon, Cond.code yX4_noteCommon cX4_noteCommon 4 none, Cond.methodLink RX4 116 Lib.Math.max.name, Cond.static Lib.Math.max.name, Cond.initialized "java/lang/Math", Cond.code Lib.Math.max.name Lib.Math.max.code 2 (some .int), Cond.methodLink RX5 142 yX4_hasSize, Cond.instanceMethod yX4_hasSize, Cond.selects RX4 yX4_hasSize yX4_hasSize, Cond.code yX4_hasSize cX4_hasSize 2 (some .boolean), Cond.static yX5_within, Cond.code yX5_within cX5_within 3 (some .boolean)]
def wsX5_weight : List Cond := .code yX5_weight cX5_weight 2 (some .int) :: ((wsX5_weight_r1 ++ (wsX5_weight_r2 ++ (wsX5_weight_r3 ++ (wsX5_weight_r4 ++ wsX5_weight_r5)))) ++ wsX50 ++ wsX40 ++ wsX00 ++ (vx_atS RX5 46 "java/lang/IllegalArgumentException" ["java/lang/RuntimeException", "java/lang/Exception"]).filter goodWord)
def wsX5_heaviest_r1 : List Cond := [Cond.fieldLink RX5 34 "ColourForests" "survey" "LColourForests$Survey;", Cond.fieldLink RX5 139 "ColourForests$Survey" "most" "I", Cond.fieldLink RX5 151 "ColourForests$Survey" "dearestWeights" "[I", Cond.methodLink RX5 97 yX4_refresh, Cond.instanceMethod yX4_refresh, Cond.selects RX4 yX4_refresh yX4_refresh, Cond.initialized RX4, Cond.code yX4_refresh cX4_refresh 1 none, Cond.fieldLink RX4 11 "ColourForests$Survey" "changesSeen" "I", Cond.fieldLink RX4 31 "ColourForests$Survey" "graph" "LColourForests$Graph;", Cond.fieldLink RX4 42 "ColourForests$Graph" "changes" "I", Cond.methodLink RX4 47 yX4_walk, Cond.instanceMethod yX4_walk, Cond.selects RX4 yX4_walk yX4_walk, Cond.code yX4_walk cX4_walk 5 none, Cond.fieldLink RX4 53 "ColourForests$Graph" "edges" "I", Cond.methodLink RX4 50 yX4_begin, Cond.instanceMethod yX4_begin, Cond.selects RX4 yX4_begin yX4_begin, Cond.code yX4_begin cX4_begin 1 none, Cond.fieldLink RX4 22 "ColourForests$Survey" "partsFrom" "[I", Cond.fieldLink RX4 25 "ColourForests$Survey" "roomFrom" "[I", Cond.fieldLink RX4 28 "ColourForests$Survey" "weightFrom" "[I", Cond.fieldLink RX4 80 "ColourForests$Survey" "widest" "I"]
def wsX5_heaviest_r2 : List Cond := [Cond.fieldLink RX4 83 "ColourForests$Survey" "widestForests" "I", Cond.fieldLink RX4 86 "ColourForests$Survey" "commonSets" "I", Cond.fieldLink RX4 35 "ColourForests$Survey" "most" "I", Cond.fieldLink RX4 15 "ColourForests$Survey" "dearestSets" "[I", Cond.fieldLink RX4 19 "ColourForests$Survey" "dearestWeights" "[I", Cond.methodLink RX4 73 yX0_loneParts, Cond.instanceMethod yX0_loneParts, Cond.selects RX0 yX0_loneParts yX0_loneParts, Cond.initialized RX0, Cond.code yX0_loneParts cX0_loneParts 3 (some .int), Cond.fieldLink RX0 27 "ColourForests$Graph" "vertices" "I", Cond.static yX5_withCell, Cond.initialized RX5, Cond.code yX5_withCell cX5_withCell 4 (some .int), Cond.methodLink RX4 77 yX0_fullRoom, Cond.instanceMethod yX0_fullRoom, Cond.selects RX0 yX0_fullRoom yX0_fullRoom, Cond.code yX0_fullRoom cX0_fullRoom 3 (some .int), Cond.fieldLink RX0 31 "ColourForests$Graph" "colours" "I", Cond.fieldLink RX0 9 "ColourForests$Graph" "limits" "[I", Cond.methodLink RX4 56 yJ6_numberOfTrailingZeros_0f7a4, Cond.static yJ6_numberOfTrailingZeros_0f7a4, Cond.initialized RJ6, Cond.code yJ6_numberOfTrailingZeros_0f7a4 cJ6_numberOfTrailingZeros_0f7a4 2 (some .int)]
def wsX5_heaviest_r3 : List Cond := [Cond.constant RJ6 264 (65536), Cond.methodLink RX4 62 yX4_placeAbove, Cond.instanceMethod yX4_placeAbove, Cond.selects RX4 yX4_placeAbove yX4_placeAbove, Cond.code yX4_placeAbove cX4_placeAbove 3 (some .int), Cond.methodLink RX4 65 yX4_enter, Cond.instanceMethod yX4_enter, Cond.selects RX4 yX4_enter yX4_enter, Cond.code yX4_enter cX4_enter 5 (some .boolean), Cond.fieldLink RX4 102 "ColourForests$Graph" "weights" "[I", Cond.methodLink RX4 89 yX0_joinsTwoParts, Cond.instanceMethod yX0_joinsTwoParts, Cond.selects RX0 yX0_joinsTwoParts yX0_joinsTwoParts, Cond.code yX0_joinsTwoParts cX0_joinsTwoParts 3 (some .boolean), Cond.fieldLink RX0 15 "ColourForests$Graph" "firstEnds" "[I", Cond.fieldLink RX0 18 "ColourForests$Graph" "secondEnds" "[I", Cond.static yX5_cell, Cond.code yX5_cell cX5_cell 2 (some .int), Cond.methodLink RX4 92 yX0_partsJoinedBy, Cond.instanceMethod yX0_partsJoinedBy, Cond.selects RX0 yX0_partsJoinedBy yX0_partsJoinedBy, Cond.code yX0_partsJoinedBy cX0_partsJoinedBy 7 (some .int), Cond.methodLink RX4 96 yX0_hasRoom, Cond.instanceMethod yX0_hasRoom]
def wsX5_heaviest_r4 : List Cond := [Cond.selects RX0 yX0_hasRoom yX0_hasRoom, Cond.code yX0_hasRoom cX0_hasRoom 3 (some .boolean), Cond.fieldLink RX0 21 "ColourForests$Graph" "hues" "[I", Cond.methodLink RX4 99 yX0_roomAfter, Cond.instanceMethod yX0_roomAfter, Cond.selects RX0 yX0_roomAfter yX0_roomAfter, Cond.code yX0_roomAfter cX0_roomAfter 3 (some .int), Cond.methodLink RX4 69 yX4_note, Cond.instanceMethod yX4_note, Cond.selects RX4 yX4_note yX4_note, Cond.code yX4_note cX4_note 4 none, Cond.methodLink RX4 105 yJ6_bitCount_0f7a4, Cond.static yJ6_bitCount_0f7a4, Cond.code yJ6_bitCount_0f7a4 cJ6_bitCount_0f7a4 1 (some .int), Cond.constant RJ6 265 (1431655765), Cond.constant RJ6 266 (858993459), Cond.constant RJ6 267 (252645135), Cond.methodLink RX4 108 yX4_noteForest, Cond.instanceMethod yX4_noteForest, Cond.selects RX4 yX4_noteForest yX4_noteForest, Cond.code yX4_noteForest cX4_noteForest 2 none, Cond.methodLink RX4 112 yX4_noteCommon, Cond.instanceMethod yX4_noteCommon, Cond.selects RX4 yX4_noteCommon yX4_noteCommon]
def wsX5_heaviest_r5 : List Cond := [Cond.code yX4_noteCommon cX4_noteCommon 4 none, Cond.methodLink RX4 116 Lib.Math.max.name, Cond.static Lib.Math.max.name, Cond.initialized "java/lang/Math", Cond.code Lib.Math.max.name Lib.Math.max.code 2 (some .int)]
def wsX5_heaviest : List Cond := .code yX5_heaviest cX5_heaviest 3 (some .int) :: ((wsX5_heaviest_r1 ++ (wsX5_heaviest_r2 ++ (wsX5_heaviest_r3 ++ (wsX5_heaviest_r4 ++ wsX5_heaviest_r5)))) ++ wsX50 ++ wsX40 ++ wsX00)
def wsJ6_lowestOneBit_0f7a4 : List Cond := .code yJ6_lowestOneBit_0f7a4 cJ6_lowestOneBit_0f7a4 1 (some .int) :: ([])
def wsX5_leastSplit_r1 : List Cond := [Cond.fieldLink RX5 34 "ColourForests" "survey" "LColourForests$Survey;", Cond.fieldLink RX5 145 "ColourForests$Survey" "dearestSets" "[I", Cond.fieldLink RX5 139 "ColourForests$Survey" "most" "I", Cond.fieldLink RX5 10 "ColourForests" "graph" "LColourForests$Graph;", Cond.fieldLink RX5 63 "ColourForests$Graph" "edges" "I", Cond.methodLink RX5 171 yX0_allEdges, Cond.instanceMethod yX0_allEdges, Cond.selects RX0 yX0_allEdges yX0_allEdges, Cond.initialized RX0, Cond.code yX0_allEdges cX0_allEdges 1 (some .int), Cond.fieldLink RX0 34 "ColourForests$Graph" "edges" "I", Cond.methodLink RX5 136 ⟨"ColourForests$Kind", "closureOf", "(I)I"⟩, Cond.sameMethod "ColourForests$Kind" "ColourForests$Kind" "closureOf" "(I)I", Cond.selects RX2 ⟨"ColourForests$Kind", "closureOf", "(I)I"⟩ yX1_closureOf, Cond.instanceMethod yX1_closureOf, Cond.initialized RX1, Cond.code yX1_closureOf cX1_closureOf 6 (some .int), Cond.fieldLink RX1 7 "ColourForests$Kind" "graph" "LColourForests$Graph;", Cond.fieldLink RX1 22 "ColourForests$Graph" "edges" "I", Cond.methodLink RX1 13 ⟨"ColourForests$Kind", "rankOf", "(I)I"⟩, Cond.sameMethod "ColourForests$Kind" "ColourForests$Kind" "rankOf" "(I)I", Cond.selects RX2 ⟨"ColourForests$Kind", "rankOf", "(I)I"⟩ yX2_rankOf, Cond.instanceMethod yX2_rankOf, Cond.initialized RX2]
def wsX5_leastSplit_r2 : List Cond := [Cond.code yX2_rankOf cX2_rankOf 5 (some .int), Cond.fieldLink RX2 7 "ColourForests$LimitKind" "graph" "LColourForests$Graph;", Cond.sameField "ColourForests$LimitKind" "ColourForests$Kind" "graph" "LColourForests$Graph;", Cond.fieldLink RX2 19 "ColourForests$Graph" "edges" "I", Cond.methodLink RX2 13 yX0_fullRoom, Cond.instanceMethod yX0_fullRoom, Cond.selects RX0 yX0_fullRoom yX0_fullRoom, Cond.code yX0_fullRoom cX0_fullRoom 3 (some .int), Cond.fieldLink RX0 31 "ColourForests$Graph" "colours" "I", Cond.fieldLink RX0 9 "ColourForests$Graph" "limits" "[I", Cond.static yX5_withCell, Cond.initialized RX5, Cond.code yX5_withCell cX5_withCell 4 (some .int), Cond.static yX5_hasBit, Cond.code yX5_hasBit cX5_hasBit 2 (some .boolean), Cond.methodLink RX2 29 yX0_hasRoom, Cond.instanceMethod yX0_hasRoom, Cond.selects RX0 yX0_hasRoom yX0_hasRoom, Cond.code yX0_hasRoom cX0_hasRoom 3 (some .boolean), Cond.fieldLink RX0 21 "ColourForests$Graph" "hues" "[I", Cond.static yX5_cell, Cond.code yX5_cell cX5_cell 2 (some .int), Cond.methodLink RX2 32 yX0_roomAfter, Cond.instanceMethod yX0_roomAfter]
def wsX5_leastSplit_r3 : List Cond := [Cond.selects RX0 yX0_roomAfter yX0_roomAfter, Cond.code yX0_roomAfter cX0_roomAfter 3 (some .int), Cond.selects RX3 ⟨"ColourForests$Kind", "rankOf", "(I)I"⟩ yX3_rankOf, Cond.instanceMethod yX3_rankOf, Cond.initialized RX3, Cond.code yX3_rankOf cX3_rankOf 5 (some .int), Cond.fieldLink RX3 7 "ColourForests$RinglessKind" "graph" "LColourForests$Graph;", Cond.sameField "ColourForests$RinglessKind" "ColourForests$Kind" "graph" "LColourForests$Graph;", Cond.fieldLink RX3 19 "ColourForests$Graph" "edges" "I", Cond.methodLink RX3 13 yX0_loneParts, Cond.instanceMethod yX0_loneParts, Cond.selects RX0 yX0_loneParts yX0_loneParts, Cond.code yX0_loneParts cX0_loneParts 3 (some .int), Cond.fieldLink RX0 27 "ColourForests$Graph" "vertices" "I", Cond.methodLink RX3 29 yX0_joinsTwoParts, Cond.instanceMethod yX0_joinsTwoParts, Cond.selects RX0 yX0_joinsTwoParts yX0_joinsTwoParts, Cond.code yX0_joinsTwoParts cX0_joinsTwoParts 3 (some .boolean), Cond.fieldLink RX0 15 "ColourForests$Graph" "firstEnds" "[I", Cond.fieldLink RX0 18 "ColourForests$Graph" "secondEnds" "[I", Cond.methodLink RX3 32 yX0_partsJoinedBy, Cond.instanceMethod yX0_partsJoinedBy, Cond.selects RX0 yX0_partsJoinedBy yX0_partsJoinedBy, Cond.code yX0_partsJoinedBy cX0_partsJoinedBy 7 (some .int)]
def wsX5_leastSplit_r4 : List Cond := [Cond.selects RX3 ⟨"ColourForests$Kind", "closureOf", "(I)I"⟩ yX1_closureOf, Cond.methodLink RX5 178 yJ6_lowestOneBit_0f7a4, Cond.static yJ6_lowestOneBit_0f7a4, Cond.initialized RJ6, Cond.code yJ6_lowestOneBit_0f7a4 cJ6_lowestOneBit_0f7a4 1 (some .int), Cond.methodLink RX5 133 ⟨"ColourForests$Kind", "circuitWithin", "(I)I"⟩, Cond.sameMethod "ColourForests$Kind" "ColourForests$Kind" "circuitWithin" "(I)I", Cond.selects RX2 ⟨"ColourForests$Kind", "circuitWithin", "(I)I"⟩ yX1_circuitWithin, Cond.instanceMethod yX1_circuitWithin, Cond.code yX1_circuitWithin cX1_circuitWithin 6 (some .int), Cond.selects RX3 ⟨"ColourForests$Kind", "circuitWithin", "(I)I"⟩ yX1_circuitWithin]
def wsX5_leastSplit : List Cond := .code yX5_leastSplit cX5_leastSplit 8 (some .int) :: ((wsX5_leastSplit_r1 ++ (wsX5_leastSplit_r2 ++ (wsX5_leastSplit_r3 ++ wsX5_leastSplit_r4))) ++ wsX50 ++ wsX40 ++ wsX00 ++ wsX20 ++ wsX30)
def wsX5_leastWitness_r1 : List Cond := [Cond.fieldLink RX5 21 "ColourForests" "ringless" "LColourForests$Kind;", Cond.fieldLink RX5 28 "ColourForests" "withinLimits" "LColourForests$Kind;", Cond.methodLink RX5 174 yX5_leastSplit, Cond.instanceMethod yX5_leastSplit, Cond.selects RX5 yX5_leastSplit yX5_leastSplit, Cond.initialized RX5, Cond.code yX5_leastSplit cX5_leastSplit 8 (some .int), Cond.fieldLink RX5 34 "ColourForests" "survey" "LColourForests$Survey;", Cond.fieldLink RX5 145 "ColourForests$Survey" "dearestSets" "[I", Cond.fieldLink RX5 139 "ColourForests$Survey" "most" "I", Cond.fieldLink RX5 10 "ColourForests" "graph" "LColourForests$Graph;", Cond.fieldLink RX5 63 "ColourForests$Graph" "edges" "I", Cond.methodLink RX5 171 yX0_allEdges, Cond.instanceMethod yX0_allEdges, Cond.selects RX0 yX0_allEdges yX0_allEdges, Cond.initialized RX0, Cond.code yX0_allEdges cX0_allEdges 1 (some .int), Cond.fieldLink RX0 34 "ColourForests$Graph" "edges" "I", Cond.methodLink RX5 136 ⟨"ColourForests$Kind", "closureOf", "(I)I"⟩, Cond.sameMethod "ColourForests$Kind" "ColourForests$Kind" "closureOf" "(I)I", Cond.selects RX2 ⟨"ColourForests$Kind", "closureOf", "(I)I"⟩ yX1_closureOf, Cond.instanceMethod yX1_closureOf, Cond.initialized RX1, Cond.code yX1_closureOf cX1_closureOf 6 (some .int)]
def wsX5_leastWitness_r2 : List Cond := [Cond.fieldLink RX1 7 "ColourForests$Kind" "graph" "LColourForests$Graph;", Cond.fieldLink RX1 22 "ColourForests$Graph" "edges" "I", Cond.methodLink RX1 13 ⟨"ColourForests$Kind", "rankOf", "(I)I"⟩, Cond.sameMethod "ColourForests$Kind" "ColourForests$Kind" "rankOf" "(I)I", Cond.selects RX2 ⟨"ColourForests$Kind", "rankOf", "(I)I"⟩ yX2_rankOf, Cond.instanceMethod yX2_rankOf, Cond.initialized RX2, Cond.code yX2_rankOf cX2_rankOf 5 (some .int), Cond.fieldLink RX2 7 "ColourForests$LimitKind" "graph" "LColourForests$Graph;", Cond.sameField "ColourForests$LimitKind" "ColourForests$Kind" "graph" "LColourForests$Graph;", Cond.fieldLink RX2 19 "ColourForests$Graph" "edges" "I", Cond.methodLink RX2 13 yX0_fullRoom, Cond.instanceMethod yX0_fullRoom, Cond.selects RX0 yX0_fullRoom yX0_fullRoom, Cond.code yX0_fullRoom cX0_fullRoom 3 (some .int), Cond.fieldLink RX0 31 "ColourForests$Graph" "colours" "I", Cond.fieldLink RX0 9 "ColourForests$Graph" "limits" "[I", Cond.static yX5_withCell, Cond.code yX5_withCell cX5_withCell 4 (some .int), Cond.static yX5_hasBit, Cond.code yX5_hasBit cX5_hasBit 2 (some .boolean), Cond.methodLink RX2 29 yX0_hasRoom, Cond.instanceMethod yX0_hasRoom, Cond.selects RX0 yX0_hasRoom yX0_hasRoom]
def wsX5_leastWitness_r3 : List Cond := [Cond.code yX0_hasRoom cX0_hasRoom 3 (some .boolean), Cond.fieldLink RX0 21 "ColourForests$Graph" "hues" "[I", Cond.static yX5_cell, Cond.code yX5_cell cX5_cell 2 (some .int), Cond.methodLink RX2 32 yX0_roomAfter, Cond.instanceMethod yX0_roomAfter, Cond.selects RX0 yX0_roomAfter yX0_roomAfter, Cond.code yX0_roomAfter cX0_roomAfter 3 (some .int), Cond.selects RX3 ⟨"ColourForests$Kind", "rankOf", "(I)I"⟩ yX3_rankOf, Cond.instanceMethod yX3_rankOf, Cond.initialized RX3, Cond.code yX3_rankOf cX3_rankOf 5 (some .int), Cond.fieldLink RX3 7 "ColourForests$RinglessKind" "graph" "LColourForests$Graph;", Cond.sameField "ColourForests$RinglessKind" "ColourForests$Kind" "graph" "LColourForests$Graph;", Cond.fieldLink RX3 19 "ColourForests$Graph" "edges" "I", Cond.methodLink RX3 13 yX0_loneParts, Cond.instanceMethod yX0_loneParts, Cond.selects RX0 yX0_loneParts yX0_loneParts, Cond.code yX0_loneParts cX0_loneParts 3 (some .int), Cond.fieldLink RX0 27 "ColourForests$Graph" "vertices" "I", Cond.methodLink RX3 29 yX0_joinsTwoParts, Cond.instanceMethod yX0_joinsTwoParts, Cond.selects RX0 yX0_joinsTwoParts yX0_joinsTwoParts, Cond.code yX0_joinsTwoParts cX0_joinsTwoParts 3 (some .boolean)]
def wsX5_leastWitness_r4 : List Cond := [Cond.fieldLink RX0 15 "ColourForests$Graph" "firstEnds" "[I", Cond.fieldLink RX0 18 "ColourForests$Graph" "secondEnds" "[I", Cond.methodLink RX3 32 yX0_partsJoinedBy, Cond.instanceMethod yX0_partsJoinedBy, Cond.selects RX0 yX0_partsJoinedBy yX0_partsJoinedBy, Cond.code yX0_partsJoinedBy cX0_partsJoinedBy 7 (some .int), Cond.selects RX3 ⟨"ColourForests$Kind", "closureOf", "(I)I"⟩ yX1_closureOf, Cond.methodLink RX5 178 yJ6_lowestOneBit_0f7a4, Cond.static yJ6_lowestOneBit_0f7a4, Cond.initialized RJ6, Cond.code yJ6_lowestOneBit_0f7a4 cJ6_lowestOneBit_0f7a4 1 (some .int), Cond.methodLink RX5 133 ⟨"ColourForests$Kind", "circuitWithin", "(I)I"⟩, Cond.sameMethod "ColourForests$Kind" "ColourForests$Kind" "circuitWithin" "(I)I", Cond.selects RX2 ⟨"ColourForests$Kind", "circuitWithin", "(I)I"⟩ yX1_circuitWithin, Cond.instanceMethod yX1_circuitWithin, Cond.code yX1_circuitWithin cX1_circuitWithin 6 (some .int), Cond.selects RX3 ⟨"ColourForests$Kind", "circuitWithin", "(I)I"⟩ yX1_circuitWithin]
def wsX5_leastWitness : List Cond := .code yX5_leastWitness cX5_leastWitness 1 (some .int) :: ((wsX5_leastWitness_r1 ++ (wsX5_leastWitness_r2 ++ (wsX5_leastWitness_r3 ++ wsX5_leastWitness_r4))) ++ wsX50 ++ wsX40 ++ wsX00 ++ wsX20 ++ wsX30)
def wsX5_greatestWitness_r1 : List Cond := [Cond.fieldLink RX5 10 "ColourForests" "graph" "LColourForests$Graph;", Cond.fieldLink RX5 28 "ColourForests" "withinLimits" "LColourForests$Kind;", Cond.fieldLink RX5 21 "ColourForests" "ringless" "LColourForests$Kind;", Cond.methodLink RX5 171 yX0_allEdges, Cond.instanceMethod yX0_allEdges, Cond.selects RX0 yX0_allEdges yX0_allEdges, Cond.initialized RX0, Cond.code yX0_allEdges cX0_allEdges 1 (some .int), Cond.fieldLink RX0 34 "ColourForests$Graph" "edges" "I", Cond.methodLink RX5 174 yX5_leastSplit, Cond.instanceMethod yX5_leastSplit, Cond.selects RX5 yX5_leastSplit yX5_leastSplit, Cond.initialized RX5, Cond.code yX5_leastSplit cX5_leastSplit 8 (some .int), Cond.fieldLink RX5 34 "ColourForests" "survey" "LColourForests$Survey;", Cond.fieldLink RX5 145 "ColourForests$Survey" "dearestSets" "[I", Cond.fieldLink RX5 139 "ColourForests$Survey" "most" "I", Cond.fieldLink RX5 63 "ColourForests$Graph" "edges" "I", Cond.methodLink RX5 136 ⟨"ColourForests$Kind", "closureOf", "(I)I"⟩, Cond.sameMethod "ColourForests$Kind" "ColourForests$Kind" "closureOf" "(I)I", Cond.selects RX2 ⟨"ColourForests$Kind", "closureOf", "(I)I"⟩ yX1_closureOf, Cond.instanceMethod yX1_closureOf, Cond.initialized RX1, Cond.code yX1_closureOf cX1_closureOf 6 (some .int)]
def wsX5_greatestWitness_r2 : List Cond := [Cond.fieldLink RX1 7 "ColourForests$Kind" "graph" "LColourForests$Graph;", Cond.fieldLink RX1 22 "ColourForests$Graph" "edges" "I", Cond.methodLink RX1 13 ⟨"ColourForests$Kind", "rankOf", "(I)I"⟩, Cond.sameMethod "ColourForests$Kind" "ColourForests$Kind" "rankOf" "(I)I", Cond.selects RX2 ⟨"ColourForests$Kind", "rankOf", "(I)I"⟩ yX2_rankOf, Cond.instanceMethod yX2_rankOf, Cond.initialized RX2, Cond.code yX2_rankOf cX2_rankOf 5 (some .int), Cond.fieldLink RX2 7 "ColourForests$LimitKind" "graph" "LColourForests$Graph;", Cond.sameField "ColourForests$LimitKind" "ColourForests$Kind" "graph" "LColourForests$Graph;", Cond.fieldLink RX2 19 "ColourForests$Graph" "edges" "I", Cond.methodLink RX2 13 yX0_fullRoom, Cond.instanceMethod yX0_fullRoom, Cond.selects RX0 yX0_fullRoom yX0_fullRoom, Cond.code yX0_fullRoom cX0_fullRoom 3 (some .int), Cond.fieldLink RX0 31 "ColourForests$Graph" "colours" "I", Cond.fieldLink RX0 9 "ColourForests$Graph" "limits" "[I", Cond.static yX5_withCell, Cond.code yX5_withCell cX5_withCell 4 (some .int), Cond.static yX5_hasBit, Cond.code yX5_hasBit cX5_hasBit 2 (some .boolean), Cond.methodLink RX2 29 yX0_hasRoom, Cond.instanceMethod yX0_hasRoom, Cond.selects RX0 yX0_hasRoom yX0_hasRoom]
def wsX5_greatestWitness_r3 : List Cond := [Cond.code yX0_hasRoom cX0_hasRoom 3 (some .boolean), Cond.fieldLink RX0 21 "ColourForests$Graph" "hues" "[I", Cond.static yX5_cell, Cond.code yX5_cell cX5_cell 2 (some .int), Cond.methodLink RX2 32 yX0_roomAfter, Cond.instanceMethod yX0_roomAfter, Cond.selects RX0 yX0_roomAfter yX0_roomAfter, Cond.code yX0_roomAfter cX0_roomAfter 3 (some .int), Cond.selects RX3 ⟨"ColourForests$Kind", "rankOf", "(I)I"⟩ yX3_rankOf, Cond.instanceMethod yX3_rankOf, Cond.initialized RX3, Cond.code yX3_rankOf cX3_rankOf 5 (some .int), Cond.fieldLink RX3 7 "ColourForests$RinglessKind" "graph" "LColourForests$Graph;", Cond.sameField "ColourForests$RinglessKind" "ColourForests$Kind" "graph" "LColourForests$Graph;", Cond.fieldLink RX3 19 "ColourForests$Graph" "edges" "I", Cond.methodLink RX3 13 yX0_loneParts, Cond.instanceMethod yX0_loneParts, Cond.selects RX0 yX0_loneParts yX0_loneParts, Cond.code yX0_loneParts cX0_loneParts 3 (some .int), Cond.fieldLink RX0 27 "ColourForests$Graph" "vertices" "I", Cond.methodLink RX3 29 yX0_joinsTwoParts, Cond.instanceMethod yX0_joinsTwoParts, Cond.selects RX0 yX0_joinsTwoParts yX0_joinsTwoParts, Cond.code yX0_joinsTwoParts cX0_joinsTwoParts 3 (some .boolean)]
def wsX5_greatestWitness_r4 : List Cond := [Cond.fieldLink RX0 15 "ColourForests$Graph" "firstEnds" "[I", Cond.fieldLink RX0 18 "ColourForests$Graph" "secondEnds" "[I", Cond.methodLink RX3 32 yX0_partsJoinedBy, Cond.instanceMethod yX0_partsJoinedBy, Cond.selects RX0 yX0_partsJoinedBy yX0_partsJoinedBy, Cond.code yX0_partsJoinedBy cX0_partsJoinedBy 7 (some .int), Cond.selects RX3 ⟨"ColourForests$Kind", "closureOf", "(I)I"⟩ yX1_closureOf, Cond.methodLink RX5 178 yJ6_lowestOneBit_0f7a4, Cond.static yJ6_lowestOneBit_0f7a4, Cond.initialized RJ6, Cond.code yJ6_lowestOneBit_0f7a4 cJ6_lowestOneBit_0f7a4 1 (some .int), Cond.methodLink RX5 133 ⟨"ColourForests$Kind", "circuitWithin", "(I)I"⟩, Cond.sameMethod "ColourForests$Kind" "ColourForests$Kind" "circuitWithin" "(I)I", Cond.selects RX2 ⟨"ColourForests$Kind", "circuitWithin", "(I)I"⟩ yX1_circuitWithin, Cond.instanceMethod yX1_circuitWithin, Cond.code yX1_circuitWithin cX1_circuitWithin 6 (some .int), Cond.selects RX3 ⟨"ColourForests$Kind", "circuitWithin", "(I)I"⟩ yX1_circuitWithin]
def wsX5_greatestWitness : List Cond := .code yX5_greatestWitness cX5_greatestWitness 1 (some .int) :: ((wsX5_greatestWitness_r1 ++ (wsX5_greatestWitness_r2 ++ (wsX5_greatestWitness_r3 ++ wsX5_greatestWitness_r4))) ++ wsX50 ++ wsX00 ++ wsX40 ++ wsX20 ++ wsX30)
def wsX5_witness_r1 : List Cond := [Cond.fieldLink RX5 34 "ColourForests" "survey" "LColourForests$Survey;", Cond.methodLink RX5 97 yX4_refresh, Cond.instanceMethod yX4_refresh, Cond.selects RX4 yX4_refresh yX4_refresh, Cond.initialized RX4, Cond.code yX4_refresh cX4_refresh 1 none, Cond.fieldLink RX4 11 "ColourForests$Survey" "changesSeen" "I", Cond.fieldLink RX4 31 "ColourForests$Survey" "graph" "LColourForests$Graph;", Cond.fieldLink RX4 42 "ColourForests$Graph" "changes" "I", Cond.methodLink RX4 47 yX4_walk, Cond.instanceMethod yX4_walk, Cond.selects RX4 yX4_walk yX4_walk, Cond.code yX4_walk cX4_walk 5 none, Cond.fieldLink RX4 53 "ColourForests$Graph" "edges" "I", Cond.methodLink RX4 50 yX4_begin, Cond.instanceMethod yX4_begin, Cond.selects RX4 yX4_begin yX4_begin, Cond.code yX4_begin cX4_begin 1 none, Cond.fieldLink RX4 22 "ColourForests$Survey" "partsFrom" "[I", Cond.fieldLink RX4 25 "ColourForests$Survey" "roomFrom" "[I", Cond.fieldLink RX4 28 "ColourForests$Survey" "weightFrom" "[I", Cond.fieldLink RX4 80 "ColourForests$Survey" "widest" "I", Cond.fieldLink RX4 83 "ColourForests$Survey" "widestForests" "I", Cond.fieldLink RX4 86 "ColourForests$Survey" "commonSets" "I"]
def wsX5_witness_r2 : List Cond := [Cond.fieldLink RX4 35 "ColourForests$Survey" "most" "I", Cond.fieldLink RX4 15 "ColourForests$Survey" "dearestSets" "[I", Cond.fieldLink RX4 19 "ColourForests$Survey" "dearestWeights" "[I", Cond.methodLink RX4 73 yX0_loneParts, Cond.instanceMethod yX0_loneParts, Cond.selects RX0 yX0_loneParts yX0_loneParts, Cond.initialized RX0, Cond.code yX0_loneParts cX0_loneParts 3 (some .int), Cond.fieldLink RX0 27 "ColourForests$Graph" "vertices" "I", Cond.static yX5_withCell, Cond.initialized RX5, Cond.code yX5_withCell cX5_withCell 4 (some .int), Cond.methodLink RX4 77 yX0_fullRoom, Cond.instanceMethod yX0_fullRoom, Cond.selects RX0 yX0_fullRoom yX0_fullRoom, Cond.code yX0_fullRoom cX0_fullRoom 3 (some .int), Cond.fieldLink RX0 31 "ColourForests$Graph" "colours" "I", Cond.fieldLink RX0 9 "ColourForests$Graph" "limits" "[I", Cond.methodLink RX4 56 yJ6_numberOfTrailingZeros_0f7a4, Cond.static yJ6_numberOfTrailingZeros_0f7a4, Cond.initialized RJ6, Cond.code yJ6_numberOfTrailingZeros_0f7a4 cJ6_numberOfTrailingZeros_0f7a4 2 (some .int), Cond.constant RJ6 264 (65536), Cond.methodLink RX4 62 yX4_placeAbove]
def wsX5_witness_r3 : List Cond := [Cond.instanceMethod yX4_placeAbove, Cond.selects RX4 yX4_placeAbove yX4_placeAbove, Cond.code yX4_placeAbove cX4_placeAbove 3 (some .int), Cond.methodLink RX4 65 yX4_enter, Cond.instanceMethod yX4_enter, Cond.selects RX4 yX4_enter yX4_enter, Cond.code yX4_enter cX4_enter 5 (some .boolean), Cond.fieldLink RX4 102 "ColourForests$Graph" "weights" "[I", Cond.methodLink RX4 89 yX0_joinsTwoParts, Cond.instanceMethod yX0_joinsTwoParts, Cond.selects RX0 yX0_joinsTwoParts yX0_joinsTwoParts, Cond.code yX0_joinsTwoParts cX0_joinsTwoParts 3 (some .boolean), Cond.fieldLink RX0 15 "ColourForests$Graph" "firstEnds" "[I", Cond.fieldLink RX0 18 "ColourForests$Graph" "secondEnds" "[I", Cond.static yX5_cell, Cond.code yX5_cell cX5_cell 2 (some .int), Cond.methodLink RX4 92 yX0_partsJoinedBy, Cond.instanceMethod yX0_partsJoinedBy, Cond.selects RX0 yX0_partsJoinedBy yX0_partsJoinedBy, Cond.code yX0_partsJoinedBy cX0_partsJoinedBy 7 (some .int), Cond.methodLink RX4 96 yX0_hasRoom, Cond.instanceMethod yX0_hasRoom, Cond.selects RX0 yX0_hasRoom yX0_hasRoom, Cond.code yX0_hasRoom cX0_hasRoom 3 (some .boolean)]
def wsX5_witness_r4 : List Cond := [Cond.fieldLink RX0 21 "ColourForests$Graph" "hues" "[I", Cond.methodLink RX4 99 yX0_roomAfter, Cond.instanceMethod yX0_roomAfter, Cond.selects RX0 yX0_roomAfter yX0_roomAfter, Cond.code yX0_roomAfter cX0_roomAfter 3 (some .int), Cond.methodLink RX4 69 yX4_note, Cond.instanceMethod yX4_note, Cond.selects RX4 yX4_note yX4_note, Cond.code yX4_note cX4_note 4 none, Cond.methodLink RX4 105 yJ6_bitCount_0f7a4, Cond.static yJ6_bitCount_0f7a4, Cond.code yJ6_bitCount_0f7a4 cJ6_bitCount_0f7a4 1 (some .int), Cond.constant RJ6 265 (1431655765), Cond.constant RJ6 266 (858993459), Cond.constant RJ6 267 (252645135), Cond.methodLink RX4 108 yX4_noteForest, Cond.instanceMethod yX4_noteForest, Cond.selects RX4 yX4_noteForest yX4_noteForest, Cond.code yX4_noteForest cX4_noteForest 2 none, Cond.methodLink RX4 112 yX4_noteCommon, Cond.instanceMethod yX4_noteCommon, Cond.selects RX4 yX4_noteCommon yX4_noteCommon, Cond.code yX4_noteCommon cX4_noteCommon 4 none, Cond.methodLink RX4 116 Lib.Math.max.name]
def wsX5_witness_r5 : List Cond := [Cond.static Lib.Math.max.name, Cond.initialized "java/lang/Math", Cond.code Lib.Math.max.name Lib.Math.max.code 2 (some .int), Cond.methodLink RX5 154 yX5_leastWitness, Cond.instanceMethod yX5_leastWitness, Cond.selects RX5 yX5_leastWitness yX5_leastWitness, Cond.code yX5_leastWitness cX5_leastWitness 1 (some .int), Cond.fieldLink RX5 21 "ColourForests" "ringless" "LColourForests$Kind;", Cond.fieldLink RX5 28 "ColourForests" "withinLimits" "LColourForests$Kind;", Cond.methodLink RX5 174 yX5_leastSplit, Cond.instanceMethod yX5_leastSplit, Cond.selects RX5 yX5_leastSplit yX5_leastSplit, Cond.code yX5_leastSplit cX5_leastSplit 8 (some .int), Cond.fieldLink RX5 145 "ColourForests$Survey" "dearestSets" "[I", Cond.fieldLink RX5 139 "ColourForests$Survey" "most" "I", Cond.fieldLink RX5 10 "ColourForests" "graph" "LColourForests$Graph;", Cond.fieldLink RX5 63 "ColourForests$Graph" "edges" "I", Cond.methodLink RX5 171 yX0_allEdges, Cond.instanceMethod yX0_allEdges, Cond.selects RX0 yX0_allEdges yX0_allEdges, Cond.code yX0_allEdges cX0_allEdges 1 (some .int), Cond.fieldLink RX0 34 "ColourForests$Graph" "edges" "I", Cond.methodLink RX5 136 ⟨"ColourForests$Kind", "closureOf", "(I)I"⟩, Cond.sameMethod "ColourForests$Kind" "ColourForests$Kind" "closureOf" "(I)I"]
def wsX5_witness_r6 : List Cond := [Cond.selects RX2 ⟨"ColourForests$Kind", "closureOf", "(I)I"⟩ yX1_closureOf, Cond.instanceMethod yX1_closureOf, Cond.initialized RX1, Cond.code yX1_closureOf cX1_closureOf 6 (some .int), Cond.fieldLink RX1 7 "ColourForests$Kind" "graph" "LColourForests$Graph;", Cond.fieldLink RX1 22 "ColourForests$Graph" "edges" "I", Cond.methodLink RX1 13 ⟨"ColourForests$Kind", "rankOf", "(I)I"⟩, Cond.sameMethod "ColourForests$Kind" "ColourForests$Kind" "rankOf" "(I)I", Cond.selects RX2 ⟨"ColourForests$Kind", "rankOf", "(I)I"⟩ yX2_rankOf, Cond.instanceMethod yX2_rankOf, Cond.initialized RX2, Cond.code yX2_rankOf cX2_rankOf 5 (some .int), Cond.fieldLink RX2 7 "ColourForests$LimitKind" "graph" "LColourForests$Graph;", Cond.sameField "ColourForests$LimitKind" "ColourForests$Kind" "graph" "LColourForests$Graph;", Cond.fieldLink RX2 19 "ColourForests$Graph" "edges" "I", Cond.methodLink RX2 13 yX0_fullRoom, Cond.static yX5_hasBit, Cond.code yX5_hasBit cX5_hasBit 2 (some .boolean), Cond.methodLink RX2 29 yX0_hasRoom, Cond.methodLink RX2 32 yX0_roomAfter, Cond.selects RX3 ⟨"ColourForests$Kind", "rankOf", "(I)I"⟩ yX3_rankOf, Cond.instanceMethod yX3_rankOf, Cond.initialized RX3, Cond.code yX3_rankOf cX3_rankOf 5 (some .int)]
def wsX5_witness_r7 : List Cond := [Cond.fieldLink RX3 7 "ColourForests$RinglessKind" "graph" "LColourForests$Graph;", Cond.sameField "ColourForests$RinglessKind" "ColourForests$Kind" "graph" "LColourForests$Graph;", Cond.fieldLink RX3 19 "ColourForests$Graph" "edges" "I", Cond.methodLink RX3 13 yX0_loneParts, Cond.methodLink RX3 29 yX0_joinsTwoParts, Cond.methodLink RX3 32 yX0_partsJoinedBy, Cond.selects RX3 ⟨"ColourForests$Kind", "closureOf", "(I)I"⟩ yX1_closureOf, Cond.methodLink RX5 178 yJ6_lowestOneBit_0f7a4, Cond.static yJ6_lowestOneBit_0f7a4, Cond.code yJ6_lowestOneBit_0f7a4 cJ6_lowestOneBit_0f7a4 1 (some .int), Cond.methodLink RX5 133 ⟨"ColourForests$Kind", "circuitWithin", "(I)I"⟩, Cond.sameMethod "ColourForests$Kind" "ColourForests$Kind" "circuitWithin" "(I)I", Cond.selects RX2 ⟨"ColourForests$Kind", "circuitWithin", "(I)I"⟩ yX1_circuitWithin, Cond.instanceMethod yX1_circuitWithin, Cond.code yX1_circuitWithin cX1_circuitWithin 6 (some .int), Cond.selects RX3 ⟨"ColourForests$Kind", "circuitWithin", "(I)I"⟩ yX1_circuitWithin, Cond.methodLink RX5 158 yX5_greatestWitness, Cond.instanceMethod yX5_greatestWitness, Cond.selects RX5 yX5_greatestWitness yX5_greatestWitness, Cond.code yX5_greatestWitness cX5_greatestWitness 1 (some .int)]
def wsX5_witness : List Cond := .code yX5_witness cX5_witness 2 (some .int) :: ((wsX5_witness_r1 ++ (wsX5_witness_r2 ++ (wsX5_witness_r3 ++ (wsX5_witness_r4 ++ (wsX5_witness_r5 ++ (wsX5_witness_r6 ++ wsX5_witness_r7)))))) ++ wsX50 ++ wsX40 ++ wsX00 ++ wsX20 ++ wsX30)
def wsX5_dearestAreSuch_r1 : List Cond := [Cond.fieldLink RX5 34 "ColourForests" "survey" "LColourForests$Survey;", Cond.fieldLink RX5 139 "ColourForests$Survey" "most" "I", Cond.fieldLink RX5 145 "ColourForests$Survey" "dearestSets" "[I", Cond.methodLink RX5 119 yX5_isCommon, Cond.instanceMethod yX5_isCommon, Cond.selects RX5 yX5_isCommon yX5_isCommon, Cond.initialized RX5, Cond.code yX5_isCommon cX5_isCommon 2 (some .boolean), Cond.fieldLink RX5 21 "ColourForests" "ringless" "LColourForests$Kind;", Cond.fieldLink RX5 28 "ColourForests" "withinLimits" "LColourForests$Kind;", Cond.methodLink RX5 126 ⟨"ColourForests$Kind", "allows", "(I)Z"⟩, Cond.sameMethod "ColourForests$Kind" "ColourForests$Kind" "allows" "(I)Z", Cond.selects RX2 ⟨"ColourForests$Kind", "allows", "(I)Z"⟩ yX1_allows, Cond.instanceMethod yX1_allows, Cond.initialized RX1, Cond.code yX1_allows cX1_allows 2 (some .boolean), Cond.methodLink RX1 13 ⟨"ColourForests$Kind", "rankOf", "(I)I"⟩, Cond.sameMethod "ColourForests$Kind" "ColourForests$Kind" "rankOf" "(I)I", Cond.selects RX2 ⟨"ColourForests$Kind", "rankOf", "(I)I"⟩ yX2_rankOf, Cond.instanceMethod yX2_rankOf, Cond.initialized RX2, Cond.code yX2_rankOf cX2_rankOf 5 (some .int), Cond.fieldLink RX2 7 "ColourForests$LimitKind" "graph" "LColourForests$Graph;", Cond.sameField "ColourForests$LimitKind" "ColourForests$Kind" "graph" "LColourForests$Graph;"]
def wsX5_dearestAreSuch_r2 : List Cond := [Cond.fieldLink RX2 19 "ColourForests$Graph" "edges" "I", Cond.methodLink RX2 13 yX0_fullRoom, Cond.instanceMethod yX0_fullRoom, Cond.selects RX0 yX0_fullRoom yX0_fullRoom, Cond.initialized RX0, Cond.code yX0_fullRoom cX0_fullRoom 3 (some .int), Cond.fieldLink RX0 31 "ColourForests$Graph" "colours" "I", Cond.fieldLink RX0 9 "ColourForests$Graph" "limits" "[I", Cond.static yX5_withCell, Cond.code yX5_withCell cX5_withCell 4 (some .int), Cond.static yX5_hasBit, Cond.code yX5_hasBit cX5_hasBit 2 (some .boolean), Cond.methodLink RX2 29 yX0_hasRoom, Cond.instanceMethod yX0_hasRoom, Cond.selects RX0 yX0_hasRoom yX0_hasRoom, Cond.code yX0_hasRoom cX0_hasRoom 3 (some .boolean), Cond.fieldLink RX0 21 "ColourForests$Graph" "hues" "[I", Cond.static yX5_cell, Cond.code yX5_cell cX5_cell 2 (some .int), Cond.methodLink RX2 32 yX0_roomAfter, Cond.instanceMethod yX0_roomAfter, Cond.selects RX0 yX0_roomAfter yX0_roomAfter, Cond.code yX0_roomAfter cX0_roomAfter 3 (some .int), Cond.selects RX3 ⟨"ColourForests$Kind", "rankOf", "(I)I"⟩ yX3_rankOf]
def wsX5_dearestAreSuch_r3 : List Cond := [Cond.instanceMethod yX3_rankOf, Cond.initialized RX3, Cond.code yX3_rankOf cX3_rankOf 5 (some .int), Cond.fieldLink RX3 7 "ColourForests$RinglessKind" "graph" "LColourForests$Graph;", Cond.sameField "ColourForests$RinglessKind" "ColourForests$Kind" "graph" "LColourForests$Graph;", Cond.fieldLink RX3 19 "ColourForests$Graph" "edges" "I", Cond.methodLink RX3 13 yX0_loneParts, Cond.instanceMethod yX0_loneParts, Cond.selects RX0 yX0_loneParts yX0_loneParts, Cond.code yX0_loneParts cX0_loneParts 3 (some .int), Cond.fieldLink RX0 27 "ColourForests$Graph" "vertices" "I", Cond.methodLink RX3 29 yX0_joinsTwoParts, Cond.instanceMethod yX0_joinsTwoParts, Cond.selects RX0 yX0_joinsTwoParts yX0_joinsTwoParts, Cond.code yX0_joinsTwoParts cX0_joinsTwoParts 3 (some .boolean), Cond.fieldLink RX0 15 "ColourForests$Graph" "firstEnds" "[I", Cond.fieldLink RX0 18 "ColourForests$Graph" "secondEnds" "[I", Cond.methodLink RX3 32 yX0_partsJoinedBy, Cond.instanceMethod yX0_partsJoinedBy, Cond.selects RX0 yX0_partsJoinedBy yX0_partsJoinedBy, Cond.code yX0_partsJoinedBy cX0_partsJoinedBy 7 (some .int), Cond.methodLink RX1 17 yJ6_bitCount_0f7a4, Cond.static yJ6_bitCount_0f7a4, Cond.initialized RJ6]
def wsX5_dearestAreSuch_r4 : List Cond := [Cond.code yJ6_bitCount_0f7a4 cJ6_bitCount_0f7a4 1 (some .int), Cond.constant RJ6 265 (1431655765), Cond.constant RJ6 266 (858993459), Cond.constant RJ6 267 (252645135), Cond.selects RX3 ⟨"ColourForests$Kind", "allows", "(I)Z"⟩ yX1_allows, Cond.methodLink RX5 183 yJ6_bitCount_0f7a4]
def wsX5_dearestAreSuch : List Cond := .code yX5_dearestAreSuch cX5_dearestAreSuch 3 (some .boolean) :: ((wsX5_dearestAreSuch_r1 ++ (wsX5_dearestAreSuch_r2 ++ (wsX5_dearestAreSuch_r3 ++ wsX5_dearestAreSuch_r4))) ++ wsX50 ++ wsX40 ++ wsX20 ++ wsX30 ++ wsX00)
def wsX5_gainsNeverRise : List Cond := .code yX5_gainsNeverRise cX5_gainsNeverRise 4 (some .boolean) :: ([.fieldLink RX5 34 "ColourForests" "survey" "LColourForests$Survey;", .fieldLink RX5 139 "ColourForests$Survey" "most" "I", .fieldLink RX5 151 "ColourForests$Survey" "dearestWeights" "[I"] ++ wsX50 ++ wsX40)
def wsX5_isWitness_r1 : List Cond := [Cond.fieldLink RX5 10 "ColourForests" "graph" "LColourForests$Graph;", Cond.fieldLink RX5 21 "ColourForests" "ringless" "LColourForests$Kind;", Cond.fieldLink RX5 28 "ColourForests" "withinLimits" "LColourForests$Kind;", Cond.fieldLink RX5 34 "ColourForests" "survey" "LColourForests$Survey;", Cond.fieldLink RX5 139 "ColourForests$Survey" "most" "I", Cond.methodLink RX5 171 yX0_allEdges, Cond.instanceMethod yX0_allEdges, Cond.selects RX0 yX0_allEdges yX0_allEdges, Cond.initialized RX0, Cond.code yX0_allEdges cX0_allEdges 1 (some .int), Cond.fieldLink RX0 34 "ColourForests$Graph" "edges" "I", Cond.methodLink RX5 113 ⟨"ColourForests$Kind", "rankOf", "(I)I"⟩, Cond.sameMethod "ColourForests$Kind" "ColourForests$Kind" "rankOf" "(I)I", Cond.selects RX2 ⟨"ColourForests$Kind", "rankOf", "(I)I"⟩ yX2_rankOf, Cond.instanceMethod yX2_rankOf, Cond.initialized RX2, Cond.code yX2_rankOf cX2_rankOf 5 (some .int), Cond.fieldLink RX2 7 "ColourForests$LimitKind" "graph" "LColourForests$Graph;", Cond.sameField "ColourForests$LimitKind" "ColourForests$Kind" "graph" "LColourForests$Graph;", Cond.fieldLink RX2 19 "ColourForests$Graph" "edges" "I", Cond.methodLink RX2 13 yX0_fullRoom, Cond.instanceMethod yX0_fullRoom, Cond.selects RX0 yX0_fullRoom yX0_fullRoom, Cond.code yX0_fullRoom cX0_fullRoom 3 (some .int)]
def wsX5_isWitness_r2 : List Cond := [Cond.fieldLink RX0 31 "ColourForests$Graph" "colours" "I", Cond.fieldLink RX0 9 "ColourForests$Graph" "limits" "[I", Cond.static yX5_withCell, Cond.initialized RX5, Cond.code yX5_withCell cX5_withCell 4 (some .int), Cond.static yX5_hasBit, Cond.code yX5_hasBit cX5_hasBit 2 (some .boolean), Cond.methodLink RX2 29 yX0_hasRoom, Cond.instanceMethod yX0_hasRoom, Cond.selects RX0 yX0_hasRoom yX0_hasRoom, Cond.code yX0_hasRoom cX0_hasRoom 3 (some .boolean), Cond.fieldLink RX0 21 "ColourForests$Graph" "hues" "[I", Cond.static yX5_cell, Cond.code yX5_cell cX5_cell 2 (some .int), Cond.methodLink RX2 32 yX0_roomAfter, Cond.instanceMethod yX0_roomAfter, Cond.selects RX0 yX0_roomAfter yX0_roomAfter, Cond.code yX0_roomAfter cX0_roomAfter 3 (some .int), Cond.selects RX3 ⟨"ColourForests$Kind", "rankOf", "(I)I"⟩ yX3_rankOf, Cond.instanceMethod yX3_rankOf, Cond.initialized RX3, Cond.code yX3_rankOf cX3_rankOf 5 (some .int), Cond.fieldLink RX3 7 "ColourForests$RinglessKind" "graph" "LColourForests$Graph;", Cond.sameField "ColourForests$RinglessKind" "ColourForests$Kind" "graph" "LColourForests$Graph;"]
def wsX5_isWitness_r3 : List Cond := [Cond.fieldLink RX3 19 "ColourForests$Graph" "edges" "I", Cond.methodLink RX3 13 yX0_loneParts, Cond.instanceMethod yX0_loneParts, Cond.selects RX0 yX0_loneParts yX0_loneParts, Cond.code yX0_loneParts cX0_loneParts 3 (some .int), Cond.fieldLink RX0 27 "ColourForests$Graph" "vertices" "I", Cond.methodLink RX3 29 yX0_joinsTwoParts, Cond.instanceMethod yX0_joinsTwoParts, Cond.selects RX0 yX0_joinsTwoParts yX0_joinsTwoParts, Cond.code yX0_joinsTwoParts cX0_joinsTwoParts 3 (some .boolean), Cond.fieldLink RX0 15 "ColourForests$Graph" "firstEnds" "[I", Cond.fieldLink RX0 18 "ColourForests$Graph" "secondEnds" "[I", Cond.methodLink RX3 32 yX0_partsJoinedBy, Cond.instanceMethod yX0_partsJoinedBy, Cond.selects RX0 yX0_partsJoinedBy yX0_partsJoinedBy, Cond.code yX0_partsJoinedBy cX0_partsJoinedBy 7 (some .int)]
def wsX5_isWitness : List Cond := .code yX5_isWitness cX5_isWitness 3 (some .boolean) :: ((wsX5_isWitness_r1 ++ (wsX5_isWitness_r2 ++ wsX5_isWitness_r3)) ++ wsX50 ++ wsX40 ++ wsX00 ++ wsX20 ++ wsX30)
def wsX5_check_r1 : List Cond := [Cond.fieldLink RX5 34 "ColourForests" "survey" "LColourForests$Survey;", Cond.methodLink RX5 97 yX4_refresh, Cond.instanceMethod yX4_refresh, Cond.selects RX4 yX4_refresh yX4_refresh, Cond.initialized RX4, Cond.code yX4_refresh cX4_refresh 1 none, Cond.fieldLink RX4 11 "ColourForests$Survey" "changesSeen" "I", Cond.fieldLink RX4 31 "ColourForests$Survey" "graph" "LColourForests$Graph;", Cond.fieldLink RX4 42 "ColourForests$Graph" "changes" "I", Cond.methodLink RX4 47 yX4_walk, Cond.instanceMethod yX4_walk, Cond.selects RX4 yX4_walk yX4_walk, Cond.code yX4_walk cX4_walk 5 none, Cond.fieldLink RX4 53 "ColourForests$Graph" "edges" "I", Cond.methodLink RX4 50 yX4_begin, Cond.instanceMethod yX4_begin, Cond.selects RX4 yX4_begin yX4_begin, Cond.code yX4_begin cX4_begin 1 none, Cond.fieldLink RX4 22 "ColourForests$Survey" "partsFrom" "[I", Cond.fieldLink RX4 25 "ColourForests$Survey" "roomFrom" "[I", Cond.fieldLink RX4 28 "ColourForests$Survey" "weightFrom" "[I", Cond.fieldLink RX4 80 "ColourForests$Survey" "widest" "I", Cond.fieldLink RX4 83 "ColourForests$Survey" "widestForests" "I", Cond.fieldLink RX4 86 "ColourForests$Survey" "commonSets" "I"]
def wsX5_check_r2 : List Cond := [Cond.fieldLink RX4 35 "ColourForests$Survey" "most" "I", Cond.fieldLink RX4 15 "ColourForests$Survey" "dearestSets" "[I", Cond.fieldLink RX4 19 "ColourForests$Survey" "dearestWeights" "[I", Cond.methodLink RX4 73 yX0_loneParts, Cond.instanceMethod yX0_loneParts, Cond.selects RX0 yX0_loneParts yX0_loneParts, Cond.initialized RX0, Cond.code yX0_loneParts cX0_loneParts 3 (some .int), Cond.fieldLink RX0 27 "ColourForests$Graph" "vertices" "I", Cond.static yX5_withCell, Cond.initialized RX5, Cond.code yX5_withCell cX5_withCell 4 (some .int), Cond.methodLink RX4 77 yX0_fullRoom, Cond.instanceMethod yX0_fullRoom, Cond.selects RX0 yX0_fullRoom yX0_fullRoom, Cond.code yX0_fullRoom cX0_fullRoom 3 (some .int), Cond.fieldLink RX0 31 "ColourForests$Graph" "colours" "I", Cond.fieldLink RX0 9 "ColourForests$Graph" "limits" "[I", Cond.methodLink RX4 56 yJ6_numberOfTrailingZeros_0f7a4, Cond.static yJ6_numberOfTrailingZeros_0f7a4, Cond.initialized RJ6, Cond.code yJ6_numberOfTrailingZeros_0f7a4 cJ6_numberOfTrailingZeros_0f7a4 2 (some .int), Cond.constant RJ6 264 (65536), Cond.methodLink RX4 62 yX4_placeAbove]
def wsX5_check_r3 : List Cond := [Cond.instanceMethod yX4_placeAbove, Cond.selects RX4 yX4_placeAbove yX4_placeAbove, Cond.code yX4_placeAbove cX4_placeAbove 3 (some .int), Cond.methodLink RX4 65 yX4_enter, Cond.instanceMethod yX4_enter, Cond.selects RX4 yX4_enter yX4_enter, Cond.code yX4_enter cX4_enter 5 (some .boolean), Cond.fieldLink RX4 102 "ColourForests$Graph" "weights" "[I", Cond.methodLink RX4 89 yX0_joinsTwoParts, Cond.instanceMethod yX0_joinsTwoParts, Cond.selects RX0 yX0_joinsTwoParts yX0_joinsTwoParts, Cond.code yX0_joinsTwoParts cX0_joinsTwoParts 3 (some .boolean), Cond.fieldLink RX0 15 "ColourForests$Graph" "firstEnds" "[I", Cond.fieldLink RX0 18 "ColourForests$Graph" "secondEnds" "[I", Cond.static yX5_cell, Cond.code yX5_cell cX5_cell 2 (some .int), Cond.methodLink RX4 92 yX0_partsJoinedBy, Cond.instanceMethod yX0_partsJoinedBy, Cond.selects RX0 yX0_partsJoinedBy yX0_partsJoinedBy, Cond.code yX0_partsJoinedBy cX0_partsJoinedBy 7 (some .int), Cond.methodLink RX4 96 yX0_hasRoom, Cond.instanceMethod yX0_hasRoom, Cond.selects RX0 yX0_hasRoom yX0_hasRoom, Cond.code yX0_hasRoom cX0_hasRoom 3 (some .boolean)]
def wsX5_check_r4 : List Cond := [Cond.fieldLink RX0 21 "ColourForests$Graph" "hues" "[I", Cond.methodLink RX4 99 yX0_roomAfter, Cond.instanceMethod yX0_roomAfter, Cond.selects RX0 yX0_roomAfter yX0_roomAfter, Cond.code yX0_roomAfter cX0_roomAfter 3 (some .int), Cond.methodLink RX4 69 yX4_note, Cond.instanceMethod yX4_note, Cond.selects RX4 yX4_note yX4_note, Cond.code yX4_note cX4_note 4 none, Cond.methodLink RX4 105 yJ6_bitCount_0f7a4, Cond.static yJ6_bitCount_0f7a4, Cond.code yJ6_bitCount_0f7a4 cJ6_bitCount_0f7a4 1 (some .int), Cond.constant RJ6 265 (1431655765), Cond.constant RJ6 266 (858993459), Cond.constant RJ6 267 (252645135), Cond.methodLink RX4 108 yX4_noteForest, Cond.instanceMethod yX4_noteForest, Cond.selects RX4 yX4_noteForest yX4_noteForest, Cond.code yX4_noteForest cX4_noteForest 2 none, Cond.methodLink RX4 112 yX4_noteCommon, Cond.instanceMethod yX4_noteCommon, Cond.selects RX4 yX4_noteCommon yX4_noteCommon, Cond.code yX4_noteCommon cX4_noteCommon 4 none, Cond.methodLink RX4 116 Lib.Math.max.name]
def wsX5_check_r5 : List Cond := [Cond.static Lib.Math.max.name, Cond.initialized "java/lang/Math", Cond.code Lib.Math.max.name Lib.Math.max.code 2 (some .int), Cond.methodLink RX5 161 yX5_dearestAreSuch, Cond.instanceMethod yX5_dearestAreSuch, Cond.selects RX5 yX5_dearestAreSuch yX5_dearestAreSuch, Cond.code yX5_dearestAreSuch cX5_dearestAreSuch 3 (some .boolean), Cond.fieldLink RX5 139 "ColourForests$Survey" "most" "I", Cond.fieldLink RX5 145 "ColourForests$Survey" "dearestSets" "[I", Cond.methodLink RX5 119 yX5_isCommon, Cond.instanceMethod yX5_isCommon, Cond.selects RX5 yX5_isCommon yX5_isCommon, Cond.code yX5_isCommon cX5_isCommon 2 (some .boolean), Cond.fieldLink RX5 21 "ColourForests" "ringless" "LColourForests$Kind;", Cond.fieldLink RX5 28 "ColourForests" "withinLimits" "LColourForests$Kind;", Cond.methodLink RX5 126 ⟨"ColourForests$Kind", "allows", "(I)Z"⟩, Cond.sameMethod "ColourForests$Kind" "ColourForests$Kind" "allows" "(I)Z", Cond.selects RX2 ⟨"ColourForests$Kind", "allows", "(I)Z"⟩ yX1_allows, Cond.instanceMethod yX1_allows, Cond.initialized RX1, Cond.code yX1_allows cX1_allows 2 (some .boolean), Cond.methodLink RX1 13 ⟨"ColourForests$Kind", "rankOf", "(I)I"⟩, Cond.sameMethod "ColourForests$Kind" "ColourForests$Kind" "rankOf" "(I)I", Cond.selects RX2 ⟨"ColourForests$Kind", "rankOf", "(I)I"⟩ yX2_rankOf]
def wsX5_check_r6 : List Cond := [Cond.instanceMethod yX2_rankOf, Cond.initialized RX2, Cond.code yX2_rankOf cX2_rankOf 5 (some .int), Cond.fieldLink RX2 7 "ColourForests$LimitKind" "graph" "LColourForests$Graph;", Cond.sameField "ColourForests$LimitKind" "ColourForests$Kind" "graph" "LColourForests$Graph;", Cond.fieldLink RX2 19 "ColourForests$Graph" "edges" "I", Cond.methodLink RX2 13 yX0_fullRoom, Cond.static yX5_hasBit, Cond.code yX5_hasBit cX5_hasBit 2 (some .boolean), Cond.methodLink RX2 29 yX0_hasRoom, Cond.methodLink RX2 32 yX0_roomAfter, Cond.selects RX3 ⟨"ColourForests$Kind", "rankOf", "(I)I"⟩ yX3_rankOf, Cond.instanceMethod yX3_rankOf, Cond.initialized RX3, Cond.code yX3_rankOf cX3_rankOf 5 (some .int), Cond.fieldLink RX3 7 "ColourForests$RinglessKind" "graph" "LColourForests$Graph;", Cond.sameField "ColourForests$RinglessKind" "ColourForests$Kind" "graph" "LColourForests$Graph;", Cond.fieldLink RX3 19 "ColourForests$Graph" "edges" "I", Cond.methodLink RX3 13 yX0_loneParts, Cond.methodLink RX3 29 yX0_joinsTwoParts, Cond.methodLink RX3 32 yX0_partsJoinedBy, Cond.methodLink RX1 17 yJ6_bitCount_0f7a4, Cond.selects RX3 ⟨"ColourForests$Kind", "allows", "(I)Z"⟩ yX1_allows, Cond.methodLink RX5 183 yJ6_bitCount_0f7a4]
def wsX5_check_r7 : List Cond := [Cond.methodLink RX5 165 yX5_gainsNeverRise, Cond.instanceMethod yX5_gainsNeverRise, Cond.selects RX5 yX5_gainsNeverRise yX5_gainsNeverRise, Cond.code yX5_gainsNeverRise cX5_gainsNeverRise 4 (some .boolean), Cond.fieldLink RX5 151 "ColourForests$Survey" "dearestWeights" "[I", Cond.methodLink RX5 154 yX5_leastWitness, Cond.instanceMethod yX5_leastWitness, Cond.selects RX5 yX5_leastWitness yX5_leastWitness, Cond.code yX5_leastWitness cX5_leastWitness 1 (some .int), Cond.methodLink RX5 174 yX5_leastSplit, Cond.instanceMethod yX5_leastSplit, Cond.selects RX5 yX5_leastSplit yX5_leastSplit, Cond.code yX5_leastSplit cX5_leastSplit 8 (some .int), Cond.fieldLink RX5 10 "ColourForests" "graph" "LColourForests$Graph;", Cond.fieldLink RX5 63 "ColourForests$Graph" "edges" "I", Cond.methodLink RX5 171 yX0_allEdges, Cond.instanceMethod yX0_allEdges, Cond.selects RX0 yX0_allEdges yX0_allEdges, Cond.code yX0_allEdges cX0_allEdges 1 (some .int), Cond.fieldLink RX0 34 "ColourForests$Graph" "edges" "I", Cond.methodLink RX5 136 ⟨"ColourForests$Kind", "closureOf", "(I)I"⟩, Cond.sameMethod "ColourForests$Kind" "ColourForests$Kind" "closureOf" "(I)I", Cond.selects RX2 ⟨"ColourForests$Kind", "closureOf", "(I)I"⟩ yX1_closureOf, Cond.instanceMethod yX1_closureOf]
def wsX5_check_r8 : List Cond := [Cond.code yX1_closureOf cX1_closureOf 6 (some .int), Cond.fieldLink RX1 7 "ColourForests$Kind" "graph" "LColourForests$Graph;", Cond.fieldLink RX1 22 "ColourForests$Graph" "edges" "I", Cond.selects RX3 ⟨"ColourForests$Kind", "closureOf", "(I)I"⟩ yX1_closureOf, Cond.methodLink RX5 178 yJ6_lowestOneBit_0f7a4, Cond.static yJ6_lowestOneBit_0f7a4, Cond.code yJ6_lowestOneBit_0f7a4 cJ6_lowestOneBit_0f7a4 1 (some .int), Cond.methodLink RX5 133 ⟨"ColourForests$Kind", "circuitWithin", "(I)I"⟩, Cond.sameMethod "ColourForests$Kind" "ColourForests$Kind" "circuitWithin" "(I)I", Cond.selects RX2 ⟨"ColourForests$Kind", "circuitWithin", "(I)I"⟩ yX1_circuitWithin, Cond.instanceMethod yX1_circuitWithin, Cond.code yX1_circuitWithin cX1_circuitWithin 6 (some .int), Cond.selects RX3 ⟨"ColourForests$Kind", "circuitWithin", "(I)I"⟩ yX1_circuitWithin, Cond.methodLink RX5 168 yX5_isWitness, Cond.instanceMethod yX5_isWitness, Cond.selects RX5 yX5_isWitness yX5_isWitness, Cond.code yX5_isWitness cX5_isWitness 3 (some .boolean), Cond.methodLink RX5 113 ⟨"ColourForests$Kind", "rankOf", "(I)I"⟩, Cond.methodLink RX5 158 yX5_greatestWitness, Cond.instanceMethod yX5_greatestWitness, Cond.selects RX5 yX5_greatestWitness yX5_greatestWitness, Cond.code yX5_greatestWitness cX5_greatestWitness 1 (some .int), Cond.methodLink RX5 122 yX5_told, Cond.static yX5_told]
def wsX5_check_r9 : List Cond := [Cond.code yX5_told cX5_told 1 (some .int)]
def wsX5_check : List Cond := .code yX5_check cX5_check 2 (some .int) :: ((wsX5_check_r1 ++ (wsX5_check_r2 ++ (wsX5_check_r3 ++ (wsX5_check_r4 ++ (wsX5_check_r5 ++ (wsX5_check_r6 ++ (wsX5_check_r7 ++ (wsX5_check_r8 ++ wsX5_check_r9)))))))) ++ wsX50 ++ wsX40 ++ wsX00 ++ wsX20 ++ wsX30)
def wsX6_init : List Cond := .code yX6_init cX6_init 1 none :: ([.methodLink RX6 1 objectInit, .instanceMethod objectInit, .code objectInit ⟨#[0xb1]⟩ 1 none, .fieldLink RX6 7 "ColourForestsModel" "vertices" "I", .fieldLink RX6 13 "ColourForestsModel" "colours" "I", .arrayClass .int, .fieldLink RX6 16 "ColourForestsModel" "limits" "[I", .fieldLink RX6 20 "ColourForestsModel" "firsts" "[I", .fieldLink RX6 23 "ColourForestsModel" "seconds" "[I", .fieldLink RX6 26 "ColourForestsModel" "colourOf" "[I", .fieldLink RX6 29 "ColourForestsModel" "weights" "[I", .constant RX6 32 (32768), .arrayClass .boolean, .fieldLink RX6 33 "ColourForestsModel" "free" "[Z", .fieldLink RX6 37 "ColourForestsModel" "ranks" "[I", .fieldLink RX6 40 "ColourForestsModel" "best" "[I", .fieldLink RX6 43 "ColourForestsModel" "parts" "[I", .fieldLink RX6 46 "ColourForestsModel" "counts" "[I"] ++ wsX60)
def wsX6_thrown : List Cond := .code yX6_thrown cX6_thrown 1 (some .int) :: ([.fieldLink RX6 49 "ColourForestsModel" "thrown" "I"] ++ wsX60)
def wsX6_refuses : List Cond := .code yX6_refuses cX6_refuses 2 (some .boolean) :: ([.fieldLink RX6 49 "ColourForestsModel" "thrown" "I"] ++ wsX60)
def wsX6_make : List Cond := .code yX6_make cX6_make 4 none :: ([.fieldLink RX6 7 "ColourForestsModel" "vertices" "I", .fieldLink RX6 13 "ColourForestsModel" "colours" "I", .fieldLink RX6 56 "ColourForestsModel" "edges" "I", .fieldLink RX6 16 "ColourForestsModel" "limits" "[I", .fieldLink RX6 59 "ColourForestsModel" "known" "Z", .methodLink RX6 52 yX6_refuses, .instanceMethod yX6_refuses, .selects RX6 yX6_refuses yX6_refuses, .initialized RX6, .code yX6_refuses cX6_refuses 2 (some .boolean), .fieldLink RX6 49 "ColourForestsModel" "thrown" "I"] ++ wsX60)
def wsX6_isHeavy : List Cond := .code yX6_isHeavy cX6_isHeavy 1 (some .boolean) :: ([])
def wsX6_edge : List Cond := .code yX6_edge cX6_edge 6 (some .int) :: ([.fieldLink RX6 49 "ColourForestsModel" "thrown" "I", .fieldLink RX6 7 "ColourForestsModel" "vertices" "I", .fieldLink RX6 13 "ColourForestsModel" "colours" "I", .fieldLink RX6 56 "ColourForestsModel" "edges" "I", .fieldLink RX6 20 "ColourForestsModel" "firsts" "[I", .fieldLink RX6 23 "ColourForestsModel" "seconds" "[I", .fieldLink RX6 26 "ColourForestsModel" "colourOf" "[I", .fieldLink RX6 29 "ColourForestsModel" "weights" "[I", .fieldLink RX6 59 "ColourForestsModel" "known" "Z", .methodLink RX6 63 yX6_isHeavy, .static yX6_isHeavy, .initialized RX6, .code yX6_isHeavy cX6_isHeavy 1 (some .boolean)] ++ wsX60)
def wsX6_limit : List Cond := .code yX6_limit cX6_limit 3 none :: ([.fieldLink RX6 13 "ColourForestsModel" "colours" "I", .fieldLink RX6 16 "ColourForestsModel" "limits" "[I", .fieldLink RX6 59 "ColourForestsModel" "known" "Z", .methodLink RX6 52 yX6_refuses, .instanceMethod yX6_refuses, .selects RX6 yX6_refuses yX6_refuses, .initialized RX6, .code yX6_refuses cX6_refuses 2 (some .boolean), .fieldLink RX6 49 "ColourForestsModel" "thrown" "I"] ++ wsX60)
def wsX6_weigh : List Cond := .code yX6_weigh cX6_weigh 3 none :: ([.fieldLink RX6 56 "ColourForestsModel" "edges" "I", .fieldLink RX6 29 "ColourForestsModel" "weights" "[I", .fieldLink RX6 59 "ColourForestsModel" "known" "Z", .methodLink RX6 63 yX6_isHeavy, .static yX6_isHeavy, .initialized RX6, .code yX6_isHeavy cX6_isHeavy 1 (some .boolean), .methodLink RX6 52 yX6_refuses, .instanceMethod yX6_refuses, .selects RX6 yX6_refuses yX6_refuses, .code yX6_refuses cX6_refuses 2 (some .boolean), .fieldLink RX6 49 "ColourForestsModel" "thrown" "I"] ++ wsX60)
def wsX6_has : List Cond := .code yX6_has cX6_has 2 (some .boolean) :: ([])
def wsX6_size : List Cond := .code yX6_size cX6_size 3 (some .int) :: ([])
def wsX6_hasNoRing : List Cond := .code yX6_hasNoRing cX6_hasNoRing 6 (some .boolean) :: ([.fieldLink RX6 7 "ColourForestsModel" "vertices" "I", .fieldLink RX6 43 "ColourForestsModel" "parts" "[I", .fieldLink RX6 56 "ColourForestsModel" "edges" "I", .fieldLink RX6 20 "ColourForestsModel" "firsts" "[I", .fieldLink RX6 23 "ColourForestsModel" "seconds" "[I", .methodLink RX6 66 yX6_has, .static yX6_has, .initialized RX6, .code yX6_has cX6_has 2 (some .boolean)] ++ wsX60)
def wsX6_keepsLimits : List Cond := .code yX6_keepsLimits cX6_keepsLimits 4 (some .boolean) :: ([.fieldLink RX6 13 "ColourForestsModel" "colours" "I", .fieldLink RX6 46 "ColourForestsModel" "counts" "[I", .fieldLink RX6 56 "ColourForestsModel" "edges" "I", .fieldLink RX6 26 "ColourForestsModel" "colourOf" "[I", .fieldLink RX6 16 "ColourForestsModel" "limits" "[I", .methodLink RX6 66 yX6_has, .static yX6_has, .initialized RX6, .code yX6_has cX6_has 2 (some .boolean)] ++ wsX60)
def wsX6_weightOf : List Cond := .code yX6_weightOf cX6_weightOf 4 (some .int) :: ([.fieldLink RX6 56 "ColourForestsModel" "edges" "I", .fieldLink RX6 29 "ColourForestsModel" "weights" "[I", .methodLink RX6 66 yX6_has, .static yX6_has, .initialized RX6, .code yX6_has cX6_has 2 (some .boolean)] ++ wsX60)
def wsX6_learn_r1 : List Cond := [Cond.fieldLink RX6 59 "ColourForestsModel" "known" "Z", Cond.fieldLink RX6 70 "ColourForestsModel" "most" "I", Cond.fieldLink RX6 40 "ColourForestsModel" "best" "[I", Cond.fieldLink RX6 56 "ColourForestsModel" "edges" "I", Cond.fieldLink RX6 33 "ColourForestsModel" "free" "[Z", Cond.fieldLink RX6 37 "ColourForestsModel" "ranks" "[I", Cond.methodLink RX6 73 yX6_hasNoRing, Cond.instanceMethod yX6_hasNoRing, Cond.selects RX6 yX6_hasNoRing yX6_hasNoRing, Cond.initialized RX6, Cond.code yX6_hasNoRing cX6_hasNoRing 6 (some .boolean), Cond.fieldLink RX6 7 "ColourForestsModel" "vertices" "I", Cond.fieldLink RX6 43 "ColourForestsModel" "parts" "[I", Cond.fieldLink RX6 20 "ColourForestsModel" "firsts" "[I", Cond.fieldLink RX6 23 "ColourForestsModel" "seconds" "[I", Cond.methodLink RX6 66 yX6_has, Cond.static yX6_has, Cond.code yX6_has cX6_has 2 (some .boolean), Cond.methodLink RX6 76 yX6_keepsLimits, Cond.instanceMethod yX6_keepsLimits, Cond.selects RX6 yX6_keepsLimits yX6_keepsLimits, Cond.code yX6_keepsLimits cX6_keepsLimits 4 (some .boolean), Cond.fieldLink RX6 13 "ColourForestsModel" "colours" "I", Cond.fieldLink RX6 46 "ColourForestsModel" "counts" "[I"]
def wsX6_learn_r2 : List Cond := [Cond.fieldLink RX6 26 "ColourForestsModel" "colourOf" "[I", Cond.fieldLink RX6 16 "ColourForestsModel" "limits" "[I", Cond.methodLink RX6 79 yX6_size, Cond.static yX6_size, Cond.code yX6_size cX6_size 3 (some .int), Cond.methodLink RX6 83 yX6_weightOf, Cond.instanceMethod yX6_weightOf, Cond.selects RX6 yX6_weightOf yX6_weightOf, Cond.code yX6_weightOf cX6_weightOf 4 (some .int), Cond.fieldLink RX6 29 "ColourForestsModel" "weights" "[I"]
def wsX6_learn : List Cond := .code yX6_learn cX6_learn 6 none :: ((wsX6_learn_r1 ++ wsX6_learn_r2) ++ wsX60)
def wsX6_isSet : List Cond := .code yX6_isSet cX6_isSet 2 (some .boolean) :: ([.fieldLink RX6 56 "ColourForestsModel" "edges" "I"] ++ wsX60)
def wsX6_isKind : List Cond := .code yX6_isKind cX6_isKind 1 (some .boolean) :: ([])
def wsX6_count_r1 : List Cond := [Cond.fieldLink RX6 49 "ColourForestsModel" "thrown" "I", Cond.fieldLink RX6 37 "ColourForestsModel" "ranks" "[I", Cond.fieldLink RX6 56 "ColourForestsModel" "edges" "I", Cond.fieldLink RX6 33 "ColourForestsModel" "free" "[Z", Cond.fieldLink RX6 7 "ColourForestsModel" "vertices" "I", Cond.fieldLink RX6 13 "ColourForestsModel" "colours" "I", Cond.methodLink RX6 86 yX6_learn, Cond.instanceMethod yX6_learn, Cond.selects RX6 yX6_learn yX6_learn, Cond.initialized RX6, Cond.code yX6_learn cX6_learn 6 none, Cond.fieldLink RX6 59 "ColourForestsModel" "known" "Z", Cond.fieldLink RX6 70 "ColourForestsModel" "most" "I", Cond.fieldLink RX6 40 "ColourForestsModel" "best" "[I", Cond.methodLink RX6 73 yX6_hasNoRing, Cond.instanceMethod yX6_hasNoRing, Cond.selects RX6 yX6_hasNoRing yX6_hasNoRing, Cond.code yX6_hasNoRing cX6_hasNoRing 6 (some .boolean), Cond.fieldLink RX6 43 "ColourForestsModel" "parts" "[I", Cond.fieldLink RX6 20 "ColourForestsModel" "firsts" "[I", Cond.fieldLink RX6 23 "ColourForestsModel" "seconds" "[I", Cond.methodLink RX6 66 yX6_has, Cond.static yX6_has, Cond.code yX6_has cX6_has 2 (some .boolean)]
def wsX6_count_r2 : List Cond := [Cond.methodLink RX6 76 yX6_keepsLimits, Cond.instanceMethod yX6_keepsLimits, Cond.selects RX6 yX6_keepsLimits yX6_keepsLimits, Cond.code yX6_keepsLimits cX6_keepsLimits 4 (some .boolean), Cond.fieldLink RX6 46 "ColourForestsModel" "counts" "[I", Cond.fieldLink RX6 26 "ColourForestsModel" "colourOf" "[I", Cond.fieldLink RX6 16 "ColourForestsModel" "limits" "[I", Cond.methodLink RX6 79 yX6_size, Cond.static yX6_size, Cond.code yX6_size cX6_size 3 (some .int), Cond.methodLink RX6 83 yX6_weightOf, Cond.instanceMethod yX6_weightOf, Cond.selects RX6 yX6_weightOf yX6_weightOf, Cond.code yX6_weightOf cX6_weightOf 4 (some .int), Cond.fieldLink RX6 29 "ColourForestsModel" "weights" "[I"]
def wsX6_count : List Cond := .code yX6_count cX6_count 6 (some .int) :: ((wsX6_count_r1 ++ wsX6_count_r2) ++ wsX60)
def wsX6_rank_r1 : List Cond := [Cond.fieldLink RX6 49 "ColourForestsModel" "thrown" "I", Cond.fieldLink RX6 37 "ColourForestsModel" "ranks" "[I", Cond.methodLink RX6 89 yX6_isKind, Cond.static yX6_isKind, Cond.initialized RX6, Cond.code yX6_isKind cX6_isKind 1 (some .boolean), Cond.methodLink RX6 92 yX6_isSet, Cond.instanceMethod yX6_isSet, Cond.selects RX6 yX6_isSet yX6_isSet, Cond.code yX6_isSet cX6_isSet 2 (some .boolean), Cond.fieldLink RX6 56 "ColourForestsModel" "edges" "I", Cond.methodLink RX6 86 yX6_learn, Cond.instanceMethod yX6_learn, Cond.selects RX6 yX6_learn yX6_learn, Cond.code yX6_learn cX6_learn 6 none, Cond.fieldLink RX6 59 "ColourForestsModel" "known" "Z", Cond.fieldLink RX6 70 "ColourForestsModel" "most" "I", Cond.fieldLink RX6 40 "ColourForestsModel" "best" "[I", Cond.fieldLink RX6 33 "ColourForestsModel" "free" "[Z", Cond.methodLink RX6 73 yX6_hasNoRing, Cond.instanceMethod yX6_hasNoRing, Cond.selects RX6 yX6_hasNoRing yX6_hasNoRing, Cond.code yX6_hasNoRing cX6_hasNoRing 6 (some .boolean), Cond.fieldLink RX6 7 "ColourForestsModel" "vertices" "I"]
def wsX6_rank_r2 : List Cond := [Cond.fieldLink RX6 43 "ColourForestsModel" "parts" "[I", Cond.fieldLink RX6 20 "ColourForestsModel" "firsts" "[I", Cond.fieldLink RX6 23 "ColourForestsModel" "seconds" "[I", Cond.methodLink RX6 66 yX6_has, Cond.static yX6_has, Cond.code yX6_has cX6_has 2 (some .boolean), Cond.methodLink RX6 76 yX6_keepsLimits, Cond.instanceMethod yX6_keepsLimits, Cond.selects RX6 yX6_keepsLimits yX6_keepsLimits, Cond.code yX6_keepsLimits cX6_keepsLimits 4 (some .boolean), Cond.fieldLink RX6 13 "ColourForestsModel" "colours" "I", Cond.fieldLink RX6 46 "ColourForestsModel" "counts" "[I", Cond.fieldLink RX6 26 "ColourForestsModel" "colourOf" "[I", Cond.fieldLink RX6 16 "ColourForestsModel" "limits" "[I", Cond.methodLink RX6 79 yX6_size, Cond.static yX6_size, Cond.code yX6_size cX6_size 3 (some .int), Cond.methodLink RX6 83 yX6_weightOf, Cond.instanceMethod yX6_weightOf, Cond.selects RX6 yX6_weightOf yX6_weightOf, Cond.code yX6_weightOf cX6_weightOf 4 (some .int), Cond.fieldLink RX6 29 "ColourForestsModel" "weights" "[I"]
def wsX6_rank : List Cond := .code yX6_rank cX6_rank 3 (some .int) :: ((wsX6_rank_r1 ++ wsX6_rank_r2) ++ wsX60)
def wsX6_free_r1 : List Cond := [Cond.fieldLink RX6 49 "ColourForestsModel" "thrown" "I", Cond.fieldLink RX6 33 "ColourForestsModel" "free" "[Z", Cond.methodLink RX6 89 yX6_isKind, Cond.static yX6_isKind, Cond.initialized RX6, Cond.code yX6_isKind cX6_isKind 1 (some .boolean), Cond.methodLink RX6 92 yX6_isSet, Cond.instanceMethod yX6_isSet, Cond.selects RX6 yX6_isSet yX6_isSet, Cond.code yX6_isSet cX6_isSet 2 (some .boolean), Cond.fieldLink RX6 56 "ColourForestsModel" "edges" "I", Cond.methodLink RX6 86 yX6_learn, Cond.instanceMethod yX6_learn, Cond.selects RX6 yX6_learn yX6_learn, Cond.code yX6_learn cX6_learn 6 none, Cond.fieldLink RX6 59 "ColourForestsModel" "known" "Z", Cond.fieldLink RX6 70 "ColourForestsModel" "most" "I", Cond.fieldLink RX6 40 "ColourForestsModel" "best" "[I", Cond.fieldLink RX6 37 "ColourForestsModel" "ranks" "[I", Cond.methodLink RX6 73 yX6_hasNoRing, Cond.instanceMethod yX6_hasNoRing, Cond.selects RX6 yX6_hasNoRing yX6_hasNoRing, Cond.code yX6_hasNoRing cX6_hasNoRing 6 (some .boolean), Cond.fieldLink RX6 7 "ColourForestsModel" "vertices" "I"]
def wsX6_free_r2 : List Cond := [Cond.fieldLink RX6 43 "ColourForestsModel" "parts" "[I", Cond.fieldLink RX6 20 "ColourForestsModel" "firsts" "[I", Cond.fieldLink RX6 23 "ColourForestsModel" "seconds" "[I", Cond.methodLink RX6 66 yX6_has, Cond.static yX6_has, Cond.code yX6_has cX6_has 2 (some .boolean), Cond.methodLink RX6 76 yX6_keepsLimits, Cond.instanceMethod yX6_keepsLimits, Cond.selects RX6 yX6_keepsLimits yX6_keepsLimits, Cond.code yX6_keepsLimits cX6_keepsLimits 4 (some .boolean), Cond.fieldLink RX6 13 "ColourForestsModel" "colours" "I", Cond.fieldLink RX6 46 "ColourForestsModel" "counts" "[I", Cond.fieldLink RX6 26 "ColourForestsModel" "colourOf" "[I", Cond.fieldLink RX6 16 "ColourForestsModel" "limits" "[I", Cond.methodLink RX6 79 yX6_size, Cond.static yX6_size, Cond.code yX6_size cX6_size 3 (some .int), Cond.methodLink RX6 83 yX6_weightOf, Cond.instanceMethod yX6_weightOf, Cond.selects RX6 yX6_weightOf yX6_weightOf, Cond.code yX6_weightOf cX6_weightOf 4 (some .int), Cond.fieldLink RX6 29 "ColourForestsModel" "weights" "[I"]
def wsX6_free : List Cond := .code yX6_free cX6_free 4 (some .int) :: ((wsX6_free_r1 ++ wsX6_free_r2) ++ wsX60)
def wsX6_circuit_r1 : List Cond := [Cond.fieldLink RX6 49 "ColourForestsModel" "thrown" "I", Cond.fieldLink RX6 56 "ColourForestsModel" "edges" "I", Cond.fieldLink RX6 33 "ColourForestsModel" "free" "[Z", Cond.methodLink RX6 89 yX6_isKind, Cond.static yX6_isKind, Cond.initialized RX6, Cond.code yX6_isKind cX6_isKind 1 (some .boolean), Cond.methodLink RX6 92 yX6_isSet, Cond.instanceMethod yX6_isSet, Cond.selects RX6 yX6_isSet yX6_isSet, Cond.code yX6_isSet cX6_isSet 2 (some .boolean), Cond.methodLink RX6 86 yX6_learn, Cond.instanceMethod yX6_learn, Cond.selects RX6 yX6_learn yX6_learn, Cond.code yX6_learn cX6_learn 6 none, Cond.fieldLink RX6 59 "ColourForestsModel" "known" "Z", Cond.fieldLink RX6 70 "ColourForestsModel" "most" "I", Cond.fieldLink RX6 40 "ColourForestsModel" "best" "[I", Cond.fieldLink RX6 37 "ColourForestsModel" "ranks" "[I", Cond.methodLink RX6 73 yX6_hasNoRing, Cond.instanceMethod yX6_hasNoRing, Cond.selects RX6 yX6_hasNoRing yX6_hasNoRing, Cond.code yX6_hasNoRing cX6_hasNoRing 6 (some .boolean), Cond.fieldLink RX6 7 "ColourForestsModel" "vertices" "I"]
def wsX6_circuit_r2 : List Cond := [Cond.fieldLink RX6 43 "ColourForestsModel" "parts" "[I", Cond.fieldLink RX6 20 "ColourForestsModel" "firsts" "[I", Cond.fieldLink RX6 23 "ColourForestsModel" "seconds" "[I", Cond.methodLink RX6 66 yX6_has, Cond.static yX6_has, Cond.code yX6_has cX6_has 2 (some .boolean), Cond.methodLink RX6 76 yX6_keepsLimits, Cond.instanceMethod yX6_keepsLimits, Cond.selects RX6 yX6_keepsLimits yX6_keepsLimits, Cond.code yX6_keepsLimits cX6_keepsLimits 4 (some .boolean), Cond.fieldLink RX6 13 "ColourForestsModel" "colours" "I", Cond.fieldLink RX6 46 "ColourForestsModel" "counts" "[I", Cond.fieldLink RX6 26 "ColourForestsModel" "colourOf" "[I", Cond.fieldLink RX6 16 "ColourForestsModel" "limits" "[I", Cond.methodLink RX6 79 yX6_size, Cond.static yX6_size, Cond.code yX6_size cX6_size 3 (some .int), Cond.methodLink RX6 83 yX6_weightOf, Cond.instanceMethod yX6_weightOf, Cond.selects RX6 yX6_weightOf yX6_weightOf, Cond.code yX6_weightOf cX6_weightOf 4 (some .int), Cond.fieldLink RX6 29 "ColourForestsModel" "weights" "[I"]
def wsX6_circuit : List Cond := .code yX6_circuit cX6_circuit 8 (some .int) :: ((wsX6_circuit_r1 ++ wsX6_circuit_r2) ++ wsX60)
def wsX6_closure_r1 : List Cond := [Cond.fieldLink RX6 49 "ColourForestsModel" "thrown" "I", Cond.fieldLink RX6 56 "ColourForestsModel" "edges" "I", Cond.fieldLink RX6 37 "ColourForestsModel" "ranks" "[I", Cond.methodLink RX6 89 yX6_isKind, Cond.static yX6_isKind, Cond.initialized RX6, Cond.code yX6_isKind cX6_isKind 1 (some .boolean), Cond.methodLink RX6 92 yX6_isSet, Cond.instanceMethod yX6_isSet, Cond.selects RX6 yX6_isSet yX6_isSet, Cond.code yX6_isSet cX6_isSet 2 (some .boolean), Cond.methodLink RX6 86 yX6_learn, Cond.instanceMethod yX6_learn, Cond.selects RX6 yX6_learn yX6_learn, Cond.code yX6_learn cX6_learn 6 none, Cond.fieldLink RX6 59 "ColourForestsModel" "known" "Z", Cond.fieldLink RX6 70 "ColourForestsModel" "most" "I", Cond.fieldLink RX6 40 "ColourForestsModel" "best" "[I", Cond.fieldLink RX6 33 "ColourForestsModel" "free" "[Z", Cond.methodLink RX6 73 yX6_hasNoRing, Cond.instanceMethod yX6_hasNoRing, Cond.selects RX6 yX6_hasNoRing yX6_hasNoRing, Cond.code yX6_hasNoRing cX6_hasNoRing 6 (some .boolean), Cond.fieldLink RX6 7 "ColourForestsModel" "vertices" "I"]
def wsX6_closure_r2 : List Cond := [Cond.fieldLink RX6 43 "ColourForestsModel" "parts" "[I", Cond.fieldLink RX6 20 "ColourForestsModel" "firsts" "[I", Cond.fieldLink RX6 23 "ColourForestsModel" "seconds" "[I", Cond.methodLink RX6 66 yX6_has, Cond.static yX6_has, Cond.code yX6_has cX6_has 2 (some .boolean), Cond.methodLink RX6 76 yX6_keepsLimits, Cond.instanceMethod yX6_keepsLimits, Cond.selects RX6 yX6_keepsLimits yX6_keepsLimits, Cond.code yX6_keepsLimits cX6_keepsLimits 4 (some .boolean), Cond.fieldLink RX6 13 "ColourForestsModel" "colours" "I", Cond.fieldLink RX6 46 "ColourForestsModel" "counts" "[I", Cond.fieldLink RX6 26 "ColourForestsModel" "colourOf" "[I", Cond.fieldLink RX6 16 "ColourForestsModel" "limits" "[I", Cond.methodLink RX6 79 yX6_size, Cond.static yX6_size, Cond.code yX6_size cX6_size 3 (some .int), Cond.methodLink RX6 83 yX6_weightOf, Cond.instanceMethod yX6_weightOf, Cond.selects RX6 yX6_weightOf yX6_weightOf, Cond.code yX6_weightOf cX6_weightOf 4 (some .int), Cond.fieldLink RX6 29 "ColourForestsModel" "weights" "[I"]
def wsX6_closure : List Cond := .code yX6_closure cX6_closure 6 (some .int) :: ((wsX6_closure_r1 ++ wsX6_closure_r2) ++ wsX60)
def wsX6_most_r1 : List Cond := [Cond.fieldLink RX6 49 "ColourForestsModel" "thrown" "I", Cond.fieldLink RX6 70 "ColourForestsModel" "most" "I", Cond.methodLink RX6 86 yX6_learn, Cond.instanceMethod yX6_learn, Cond.selects RX6 yX6_learn yX6_learn, Cond.initialized RX6, Cond.code yX6_learn cX6_learn 6 none, Cond.fieldLink RX6 59 "ColourForestsModel" "known" "Z", Cond.fieldLink RX6 40 "ColourForestsModel" "best" "[I", Cond.fieldLink RX6 56 "ColourForestsModel" "edges" "I", Cond.fieldLink RX6 33 "ColourForestsModel" "free" "[Z", Cond.fieldLink RX6 37 "ColourForestsModel" "ranks" "[I", Cond.methodLink RX6 73 yX6_hasNoRing, Cond.instanceMethod yX6_hasNoRing, Cond.selects RX6 yX6_hasNoRing yX6_hasNoRing, Cond.code yX6_hasNoRing cX6_hasNoRing 6 (some .boolean), Cond.fieldLink RX6 7 "ColourForestsModel" "vertices" "I", Cond.fieldLink RX6 43 "ColourForestsModel" "parts" "[I", Cond.fieldLink RX6 20 "ColourForestsModel" "firsts" "[I", Cond.fieldLink RX6 23 "ColourForestsModel" "seconds" "[I", Cond.methodLink RX6 66 yX6_has, Cond.static yX6_has, Cond.code yX6_has cX6_has 2 (some .boolean), Cond.methodLink RX6 76 yX6_keepsLimits]
def wsX6_most_r2 : List Cond := [Cond.instanceMethod yX6_keepsLimits, Cond.selects RX6 yX6_keepsLimits yX6_keepsLimits, Cond.code yX6_keepsLimits cX6_keepsLimits 4 (some .boolean), Cond.fieldLink RX6 13 "ColourForestsModel" "colours" "I", Cond.fieldLink RX6 46 "ColourForestsModel" "counts" "[I", Cond.fieldLink RX6 26 "ColourForestsModel" "colourOf" "[I", Cond.fieldLink RX6 16 "ColourForestsModel" "limits" "[I", Cond.methodLink RX6 79 yX6_size, Cond.static yX6_size, Cond.code yX6_size cX6_size 3 (some .int), Cond.methodLink RX6 83 yX6_weightOf, Cond.instanceMethod yX6_weightOf, Cond.selects RX6 yX6_weightOf yX6_weightOf, Cond.code yX6_weightOf cX6_weightOf 4 (some .int), Cond.fieldLink RX6 29 "ColourForestsModel" "weights" "[I"]
def wsX6_most : List Cond := .code yX6_most cX6_most 1 (some .int) :: ((wsX6_most_r1 ++ wsX6_most_r2) ++ wsX60)
def wsX6_dearest_r1 : List Cond := [Cond.fieldLink RX6 49 "ColourForestsModel" "thrown" "I", Cond.fieldLink RX6 70 "ColourForestsModel" "most" "I", Cond.fieldLink RX6 40 "ColourForestsModel" "best" "[I", Cond.methodLink RX6 86 yX6_learn, Cond.instanceMethod yX6_learn, Cond.selects RX6 yX6_learn yX6_learn, Cond.initialized RX6, Cond.code yX6_learn cX6_learn 6 none, Cond.fieldLink RX6 59 "ColourForestsModel" "known" "Z", Cond.fieldLink RX6 56 "ColourForestsModel" "edges" "I", Cond.fieldLink RX6 33 "ColourForestsModel" "free" "[Z", Cond.fieldLink RX6 37 "ColourForestsModel" "ranks" "[I", Cond.methodLink RX6 73 yX6_hasNoRing, Cond.instanceMethod yX6_hasNoRing, Cond.selects RX6 yX6_hasNoRing yX6_hasNoRing, Cond.code yX6_hasNoRing cX6_hasNoRing 6 (some .boolean), Cond.fieldLink RX6 7 "ColourForestsModel" "vertices" "I", Cond.fieldLink RX6 43 "ColourForestsModel" "parts" "[I", Cond.fieldLink RX6 20 "ColourForestsModel" "firsts" "[I", Cond.fieldLink RX6 23 "ColourForestsModel" "seconds" "[I", Cond.methodLink RX6 66 yX6_has, Cond.static yX6_has, Cond.code yX6_has cX6_has 2 (some .boolean), Cond.methodLink RX6 76 yX6_keepsLimits]
def wsX6_dearest_r2 : List Cond := [Cond.instanceMethod yX6_keepsLimits, Cond.selects RX6 yX6_keepsLimits yX6_keepsLimits, Cond.code yX6_keepsLimits cX6_keepsLimits 4 (some .boolean), Cond.fieldLink RX6 13 "ColourForestsModel" "colours" "I", Cond.fieldLink RX6 46 "ColourForestsModel" "counts" "[I", Cond.fieldLink RX6 26 "ColourForestsModel" "colourOf" "[I", Cond.fieldLink RX6 16 "ColourForestsModel" "limits" "[I", Cond.methodLink RX6 79 yX6_size, Cond.static yX6_size, Cond.code yX6_size cX6_size 3 (some .int), Cond.methodLink RX6 83 yX6_weightOf, Cond.instanceMethod yX6_weightOf, Cond.selects RX6 yX6_weightOf yX6_weightOf, Cond.code yX6_weightOf cX6_weightOf 4 (some .int), Cond.fieldLink RX6 29 "ColourForestsModel" "weights" "[I"]
def wsX6_dearest : List Cond := .code yX6_dearest cX6_dearest 2 (some .int) :: ((wsX6_dearest_r1 ++ wsX6_dearest_r2) ++ wsX60)
def wsX6_weight_r1 : List Cond := [Cond.fieldLink RX6 70 "ColourForestsModel" "most" "I", Cond.fieldLink RX6 40 "ColourForestsModel" "best" "[I", Cond.methodLink RX6 86 yX6_learn, Cond.instanceMethod yX6_learn, Cond.selects RX6 yX6_learn yX6_learn, Cond.initialized RX6, Cond.code yX6_learn cX6_learn 6 none, Cond.fieldLink RX6 59 "ColourForestsModel" "known" "Z", Cond.fieldLink RX6 56 "ColourForestsModel" "edges" "I", Cond.fieldLink RX6 33 "ColourForestsModel" "free" "[Z", Cond.fieldLink RX6 37 "ColourForestsModel" "ranks" "[I", Cond.methodLink RX6 73 yX6_hasNoRing, Cond.instanceMethod yX6_hasNoRing, Cond.selects RX6 yX6_hasNoRing yX6_hasNoRing, Cond.code yX6_hasNoRing cX6_hasNoRing 6 (some .boolean), Cond.fieldLink RX6 7 "ColourForestsModel" "vertices" "I", Cond.fieldLink RX6 43 "ColourForestsModel" "parts" "[I", Cond.fieldLink RX6 20 "ColourForestsModel" "firsts" "[I", Cond.fieldLink RX6 23 "ColourForestsModel" "seconds" "[I", Cond.methodLink RX6 66 yX6_has, Cond.static yX6_has, Cond.code yX6_has cX6_has 2 (some .boolean), Cond.methodLink RX6 76 yX6_keepsLimits, Cond.instanceMethod yX6_keepsLimits]
def wsX6_weight_r2 : List Cond := [Cond.selects RX6 yX6_keepsLimits yX6_keepsLimits, Cond.code yX6_keepsLimits cX6_keepsLimits 4 (some .boolean), Cond.fieldLink RX6 13 "ColourForestsModel" "colours" "I", Cond.fieldLink RX6 46 "ColourForestsModel" "counts" "[I", Cond.fieldLink RX6 26 "ColourForestsModel" "colourOf" "[I", Cond.fieldLink RX6 16 "ColourForestsModel" "limits" "[I", Cond.methodLink RX6 79 yX6_size, Cond.static yX6_size, Cond.code yX6_size cX6_size 3 (some .int), Cond.methodLink RX6 83 yX6_weightOf, Cond.instanceMethod yX6_weightOf, Cond.selects RX6 yX6_weightOf yX6_weightOf, Cond.code yX6_weightOf cX6_weightOf 4 (some .int), Cond.fieldLink RX6 29 "ColourForestsModel" "weights" "[I", Cond.methodLink RX6 52 yX6_refuses, Cond.instanceMethod yX6_refuses, Cond.selects RX6 yX6_refuses yX6_refuses, Cond.code yX6_refuses cX6_refuses 2 (some .boolean), Cond.fieldLink RX6 49 "ColourForestsModel" "thrown" "I"]
def wsX6_weight : List Cond := .code yX6_weight cX6_weight 2 (some .int) :: ((wsX6_weight_r1 ++ wsX6_weight_r2) ++ wsX60)
def wsX6_heaviest_r1 : List Cond := [Cond.fieldLink RX6 49 "ColourForestsModel" "thrown" "I", Cond.fieldLink RX6 70 "ColourForestsModel" "most" "I", Cond.fieldLink RX6 40 "ColourForestsModel" "best" "[I", Cond.methodLink RX6 86 yX6_learn, Cond.instanceMethod yX6_learn, Cond.selects RX6 yX6_learn yX6_learn, Cond.initialized RX6, Cond.code yX6_learn cX6_learn 6 none, Cond.fieldLink RX6 59 "ColourForestsModel" "known" "Z", Cond.fieldLink RX6 56 "ColourForestsModel" "edges" "I", Cond.fieldLink RX6 33 "ColourForestsModel" "free" "[Z", Cond.fieldLink RX6 37 "ColourForestsModel" "ranks" "[I", Cond.methodLink RX6 73 yX6_hasNoRing, Cond.instanceMethod yX6_hasNoRing, Cond.selects RX6 yX6_hasNoRing yX6_hasNoRing, Cond.code yX6_hasNoRing cX6_hasNoRing 6 (some .boolean), Cond.fieldLink RX6 7 "ColourForestsModel" "vertices" "I", Cond.fieldLink RX6 43 "ColourForestsModel" "parts" "[I", Cond.fieldLink RX6 20 "ColourForestsModel" "firsts" "[I", Cond.fieldLink RX6 23 "ColourForestsModel" "seconds" "[I", Cond.methodLink RX6 66 yX6_has, Cond.static yX6_has, Cond.code yX6_has cX6_has 2 (some .boolean), Cond.methodLink RX6 76 yX6_keepsLimits]
def wsX6_heaviest_r2 : List Cond := [Cond.instanceMethod yX6_keepsLimits, Cond.selects RX6 yX6_keepsLimits yX6_keepsLimits, Cond.code yX6_keepsLimits cX6_keepsLimits 4 (some .boolean), Cond.fieldLink RX6 13 "ColourForestsModel" "colours" "I", Cond.fieldLink RX6 46 "ColourForestsModel" "counts" "[I", Cond.fieldLink RX6 26 "ColourForestsModel" "colourOf" "[I", Cond.fieldLink RX6 16 "ColourForestsModel" "limits" "[I", Cond.methodLink RX6 79 yX6_size, Cond.static yX6_size, Cond.code yX6_size cX6_size 3 (some .int), Cond.methodLink RX6 83 yX6_weightOf, Cond.instanceMethod yX6_weightOf, Cond.selects RX6 yX6_weightOf yX6_weightOf, Cond.code yX6_weightOf cX6_weightOf 4 (some .int), Cond.fieldLink RX6 29 "ColourForestsModel" "weights" "[I"]
def wsX6_heaviest : List Cond := .code yX6_heaviest cX6_heaviest 3 (some .int) :: ((wsX6_heaviest_r1 ++ wsX6_heaviest_r2) ++ wsX60)
def wsX6_witness_r1 : List Cond := [Cond.fieldLink RX6 49 "ColourForestsModel" "thrown" "I", Cond.fieldLink RX6 56 "ColourForestsModel" "edges" "I", Cond.fieldLink RX6 37 "ColourForestsModel" "ranks" "[I", Cond.fieldLink RX6 70 "ColourForestsModel" "most" "I", Cond.methodLink RX6 86 yX6_learn, Cond.instanceMethod yX6_learn, Cond.selects RX6 yX6_learn yX6_learn, Cond.initialized RX6, Cond.code yX6_learn cX6_learn 6 none, Cond.fieldLink RX6 59 "ColourForestsModel" "known" "Z", Cond.fieldLink RX6 40 "ColourForestsModel" "best" "[I", Cond.fieldLink RX6 33 "ColourForestsModel" "free" "[Z", Cond.methodLink RX6 73 yX6_hasNoRing, Cond.instanceMethod yX6_hasNoRing, Cond.selects RX6 yX6_hasNoRing yX6_hasNoRing, Cond.code yX6_hasNoRing cX6_hasNoRing 6 (some .boolean), Cond.fieldLink RX6 7 "ColourForestsModel" "vertices" "I", Cond.fieldLink RX6 43 "ColourForestsModel" "parts" "[I", Cond.fieldLink RX6 20 "ColourForestsModel" "firsts" "[I", Cond.fieldLink RX6 23 "ColourForestsModel" "seconds" "[I", Cond.methodLink RX6 66 yX6_has, Cond.static yX6_has, Cond.code yX6_has cX6_has 2 (some .boolean), Cond.methodLink RX6 76 yX6_keepsLimits]
def wsX6_witness_r2 : List Cond := [Cond.instanceMethod yX6_keepsLimits, Cond.selects RX6 yX6_keepsLimits yX6_keepsLimits, Cond.code yX6_keepsLimits cX6_keepsLimits 4 (some .boolean), Cond.fieldLink RX6 13 "ColourForestsModel" "colours" "I", Cond.fieldLink RX6 46 "ColourForestsModel" "counts" "[I", Cond.fieldLink RX6 26 "ColourForestsModel" "colourOf" "[I", Cond.fieldLink RX6 16 "ColourForestsModel" "limits" "[I", Cond.methodLink RX6 79 yX6_size, Cond.static yX6_size, Cond.code yX6_size cX6_size 3 (some .int), Cond.methodLink RX6 83 yX6_weightOf, Cond.instanceMethod yX6_weightOf, Cond.selects RX6 yX6_weightOf yX6_weightOf, Cond.code yX6_weightOf cX6_weightOf 4 (some .int), Cond.fieldLink RX6 29 "ColourForestsModel" "weights" "[I"]
def wsX6_witness : List Cond := .code yX6_witness cX6_witness 6 (some .int) :: ((wsX6_witness_r1 ++ wsX6_witness_r2) ++ wsX60)
def wsX6_check : List Cond := .code yX6_check cX6_check 1 (some .int) :: ([.fieldLink RX6 49 "ColourForestsModel" "thrown" "I"] ++ wsX60)
def wsJ9_max_7cf53 : List Cond := .code yJ9_max_7cf53 cJ9_max_7cf53 2 (some .int) :: ([])
def wsL_make_r1 : List Cond := [Cond.classLink RL 13 "java/lang/IllegalArgumentException", Cond.methodLink RL 7 yX5_make, Cond.instanceMethod yX5_make, Cond.selects RX5 yX5_make yX5_make, Cond.initialized RX5, Cond.code yX5_make cX5_make 3 none, Cond.classLink RX5 42 "java/lang/IllegalArgumentException", Cond.initialized "java/lang/IllegalArgumentException", Cond.fieldLink RX5 10 "ColourForests" "graph" "LColourForests$Graph;", Cond.methodLink RX5 38 yX5_within, Cond.static yX5_within, Cond.code yX5_within cX5_within 3 (some .boolean), Cond.methodLink RX5 49 yX0_restart, Cond.instanceMethod yX0_restart, Cond.selects RX0 yX0_restart yX0_restart, Cond.initialized RX0, Cond.code yX0_restart cX0_restart 3 none, Cond.fieldLink RX0 27 "ColourForests$Graph" "vertices" "I", Cond.fieldLink RX0 31 "ColourForests$Graph" "colours" "I", Cond.fieldLink RX0 34 "ColourForests$Graph" "edges" "I", Cond.fieldLink RX0 9 "ColourForests$Graph" "limits" "[I", Cond.fieldLink RX0 43 "ColourForests$Graph" "changes" "I", Cond.methodLink RX0 37 yJ7_fill_53178, Cond.static yJ7_fill_53178]
def wsL_make_r2 : List Cond := [Cond.initialized RJ7, Cond.code yJ7_fill_53178 cJ7_fill_53178 4 none]
def wsL_make : List Cond := .codeWith yL_make cL_make 4 (some .int) [(0, 6, 9, 13)] :: ((wsL_make_r1 ++ wsL_make_r2) ++ wsX50 ++ wsX00 ++ (vx_atS RX5 46 "java/lang/IllegalArgumentException" ["java/lang/RuntimeException", "java/lang/Exception"]).filter goodWord)
def wsL_limit_r1 : List Cond := [Cond.classLink RL 18 "java/lang/IndexOutOfBoundsException", Cond.classLink RL 13 "java/lang/IllegalArgumentException", Cond.methodLink RL 15 yX5_limit, Cond.instanceMethod yX5_limit, Cond.selects RX5 yX5_limit yX5_limit, Cond.initialized RX5, Cond.code yX5_limit cX5_limit 3 none, Cond.classLink RX5 71 "java/lang/IndexOutOfBoundsException", Cond.initialized "java/lang/IndexOutOfBoundsException", Cond.classLink RX5 42 "java/lang/IllegalArgumentException", Cond.initialized "java/lang/IllegalArgumentException", Cond.fieldLink RX5 10 "ColourForests" "graph" "LColourForests$Graph;", Cond.methodLink RX5 57 yX0_hasColour, Cond.instanceMethod yX0_hasColour, Cond.selects RX0 yX0_hasColour yX0_hasColour, Cond.initialized RX0, Cond.code yX0_hasColour cX0_hasColour 2 (some .boolean), Cond.fieldLink RX0 31 "ColourForests$Graph" "colours" "I", Cond.static yX5_within, Cond.code yX5_within cX5_within 3 (some .boolean), Cond.methodLink RX5 38 yX5_within, Cond.methodLink RX5 78 yX0_setLimit, Cond.instanceMethod yX0_setLimit, Cond.selects RX0 yX0_setLimit yX0_setLimit]
def wsL_limit_r2 : List Cond := [Cond.code yX0_setLimit cX0_setLimit 3 none, Cond.fieldLink RX0 9 "ColourForests$Graph" "limits" "[I", Cond.fieldLink RX0 43 "ColourForests$Graph" "changes" "I"]
def wsL_limit : List Cond := .codeWith yL_limit cL_limit 4 (some .int) [(0, 6, 9, 18), (0, 6, 12, 13)] :: ((wsL_limit_r1 ++ wsL_limit_r2) ++ wsX50 ++ wsX00 ++ (vx_atS RX5 75 "java/lang/IndexOutOfBoundsException" ["java/lang/RuntimeException", "java/lang/Exception"]).filter goodWord ++ (vx_atS RX5 46 "java/lang/IllegalArgumentException" ["java/lang/RuntimeException", "java/lang/Exception"]).filter goodWord)
def wsL_weigh_r1 : List Cond := [Cond.classLink RL 18 "java/lang/IndexOutOfBoundsException", Cond.classLink RL 13 "java/lang/IllegalArgumentException", Cond.methodLink RL 20 yX5_weigh, Cond.instanceMethod yX5_weigh, Cond.selects RX5 yX5_weigh yX5_weigh, Cond.initialized RX5, Cond.code yX5_weigh cX5_weigh 3 none, Cond.classLink RX5 71 "java/lang/IndexOutOfBoundsException", Cond.initialized "java/lang/IndexOutOfBoundsException", Cond.classLink RX5 42 "java/lang/IllegalArgumentException", Cond.initialized "java/lang/IllegalArgumentException", Cond.fieldLink RX5 10 "ColourForests" "graph" "LColourForests$Graph;", Cond.methodLink RX5 81 yX0_hasEdge, Cond.instanceMethod yX0_hasEdge, Cond.selects RX0 yX0_hasEdge yX0_hasEdge, Cond.initialized RX0, Cond.code yX0_hasEdge cX0_hasEdge 2 (some .boolean), Cond.fieldLink RX0 34 "ColourForests$Graph" "edges" "I", Cond.static yX5_within, Cond.code yX5_within cX5_within 3 (some .boolean), Cond.methodLink RX5 60 yX5_isWeight, Cond.static yX5_isWeight, Cond.code yX5_isWeight cX5_isWeight 1 (some .boolean), Cond.methodLink RX5 38 yX5_within]
def wsL_weigh_r2 : List Cond := [Cond.methodLink RX5 88 yX0_setWeight, Cond.instanceMethod yX0_setWeight, Cond.selects RX0 yX0_setWeight yX0_setWeight, Cond.code yX0_setWeight cX0_setWeight 3 none, Cond.fieldLink RX0 24 "ColourForests$Graph" "weights" "[I", Cond.fieldLink RX0 43 "ColourForests$Graph" "changes" "I"]
def wsL_weigh : List Cond := .codeWith yL_weigh cL_weigh 4 (some .int) [(0, 6, 9, 18), (0, 6, 12, 13)] :: ((wsL_weigh_r1 ++ wsL_weigh_r2) ++ wsX50 ++ wsX00 ++ (vx_atS RX5 75 "java/lang/IndexOutOfBoundsException" ["java/lang/RuntimeException", "java/lang/Exception"]).filter goodWord ++ (vx_atS RX5 46 "java/lang/IllegalArgumentException" ["java/lang/RuntimeException", "java/lang/Exception"]).filter goodWord)
def wsL_weight_r1 : List Cond := [Cond.classLink RL 13 "java/lang/IllegalArgumentException", Cond.methodLink RL 23 yX5_weight, Cond.instanceMethod yX5_weight, Cond.selects RX5 yX5_weight yX5_weight, Cond.initialized RX5, Cond.code yX5_weight cX5_weight 2 (some .int), Cond.classLink RX5 42 "java/lang/IllegalArgumentException", Cond.initialized "java/lang/IllegalArgumentException", Cond.fieldLink RX5 34 "ColourForests" "survey" "LColourForests$Survey;", Cond.fieldLink RX5 151 "ColourForests$Survey" "dearestWeights" "[I", Cond.methodLink RX5 97 yX4_refresh, Cond.instanceMethod yX4_refresh, Cond.selects RX4 yX4_refresh yX4_refresh, Cond.initialized RX4, Cond.code yX4_refresh cX4_refresh 1 none, Cond.fieldLink RX4 11 "ColourForests$Survey" "changesSeen" "I", Cond.fieldLink RX4 31 "ColourForests$Survey" "graph" "LColourForests$Graph;", Cond.fieldLink RX4 42 "ColourForests$Graph" "changes" "I", Cond.methodLink RX4 47 yX4_walk, Cond.instanceMethod yX4_walk, Cond.selects RX4 yX4_walk yX4_walk, Cond.code yX4_walk cX4_walk 5 none, Cond.fieldLink RX4 53 "ColourForests$Graph" "edges" "I", Cond.methodLink RX4 50 yX4_begin]
def wsL_weight_r2 : List Cond := [Cond.instanceMethod yX4_begin, Cond.selects RX4 yX4_begin yX4_begin, Cond.code yX4_begin cX4_begin 1 none, Cond.fieldLink RX4 22 "ColourForests$Survey" "partsFrom" "[I", Cond.fieldLink RX4 25 "ColourForests$Survey" "roomFrom" "[I", Cond.fieldLink RX4 28 "ColourForests$Survey" "weightFrom" "[I", Cond.fieldLink RX4 80 "ColourForests$Survey" "widest" "I", Cond.fieldLink RX4 83 "ColourForests$Survey" "widestForests" "I", Cond.fieldLink RX4 86 "ColourForests$Survey" "commonSets" "I", Cond.fieldLink RX4 35 "ColourForests$Survey" "most" "I", Cond.fieldLink RX4 15 "ColourForests$Survey" "dearestSets" "[I", Cond.fieldLink RX4 19 "ColourForests$Survey" "dearestWeights" "[I", Cond.methodLink RX4 73 yX0_loneParts, Cond.instanceMethod yX0_loneParts, Cond.selects RX0 yX0_loneParts yX0_loneParts, Cond.initialized RX0, Cond.code yX0_loneParts cX0_loneParts 3 (some .int), Cond.fieldLink RX0 27 "ColourForests$Graph" "vertices" "I", Cond.static yX5_withCell, Cond.code yX5_withCell cX5_withCell 4 (some .int), Cond.methodLink RX4 77 yX0_fullRoom, Cond.instanceMethod yX0_fullRoom, Cond.selects RX0 yX0_fullRoom yX0_fullRoom, Cond.code yX0_fullRoom cX0_fullRoom 3 (some .int)]
def wsL_weight_r3 : List Cond := [Cond.fieldLink RX0 31 "ColourForests$Graph" "colours" "I", Cond.fieldLink RX0 9 "ColourForests$Graph" "limits" "[I", Cond.methodLink RX4 56 yJ6_numberOfTrailingZeros_0f7a4, Cond.static yJ6_numberOfTrailingZeros_0f7a4, Cond.initialized RJ6, Cond.code yJ6_numberOfTrailingZeros_0f7a4 cJ6_numberOfTrailingZeros_0f7a4 2 (some .int), Cond.constant RJ6 264 (65536), Cond.methodLink RX4 62 yX4_placeAbove, Cond.instanceMethod yX4_placeAbove, Cond.selects RX4 yX4_placeAbove yX4_placeAbove, Cond.code yX4_placeAbove cX4_placeAbove 3 (some .int), Cond.methodLink RX4 65 yX4_enter, Cond.instanceMethod yX4_enter, Cond.selects RX4 yX4_enter yX4_enter, Cond.code yX4_enter cX4_enter 5 (some .boolean), Cond.fieldLink RX4 102 "ColourForests$Graph" "weights" "[I", Cond.methodLink RX4 89 yX0_joinsTwoParts, Cond.instanceMethod yX0_joinsTwoParts, Cond.selects RX0 yX0_joinsTwoParts yX0_joinsTwoParts, Cond.code yX0_joinsTwoParts cX0_joinsTwoParts 3 (some .boolean), Cond.fieldLink RX0 15 "ColourForests$Graph" "firstEnds" "[I", Cond.fieldLink RX0 18 "ColourForests$Graph" "secondEnds" "[I", Cond.static yX5_cell, Cond.code yX5_cell cX5_cell 2 (some .int)]
def wsL_weight_r4 : List Cond := [Cond.methodLink RX4 92 yX0_partsJoinedBy, Cond.instanceMethod yX0_partsJoinedBy, Cond.selects RX0 yX0_partsJoinedBy yX0_partsJoinedBy, Cond.code yX0_partsJoinedBy cX0_partsJoinedBy 7 (some .int), Cond.methodLink RX4 96 yX0_hasRoom, Cond.instanceMethod yX0_hasRoom, Cond.selects RX0 yX0_hasRoom yX0_hasRoom, Cond.code yX0_hasRoom cX0_hasRoom 3 (some .boolean), Cond.fieldLink RX0 21 "ColourForests$Graph" "hues" "[I", Cond.methodLink RX4 99 yX0_roomAfter, Cond.instanceMethod yX0_roomAfter, Cond.selects RX0 yX0_roomAfter yX0_roomAfter, Cond.code yX0_roomAfter cX0_roomAfter 3 (some .int), Cond.methodLink RX4 69 yX4_note, Cond.instanceMethod yX4_note, Cond.selects RX4 yX4_note yX4_note, Cond.code yX4_note cX4_note 4 none, Cond.methodLink RX4 105 yJ6_bitCount_0f7a4, Cond.static yJ6_bitCount_0f7a4, Cond.code yJ6_bitCount_0f7a4 cJ6_bitCount_0f7a4 1 (some .int), Cond.constant RJ6 265 (1431655765), Cond.constant RJ6 266 (858993459), Cond.constant RJ6 267 (252645135), Cond.methodLink RX4 108 yX4_noteForest]
def wsL_weight_r5 : List Cond := [Cond.instanceMethod yX4_noteForest, Cond.selects RX4 yX4_noteForest yX4_noteForest, Cond.code yX4_noteForest cX4_noteForest 2 none, Cond.methodLink RX4 112 yX4_noteCommon, Cond.instanceMethod yX4_noteCommon, Cond.selects RX4 yX4_noteCommon yX4_noteCommon, Cond.code yX4_noteCommon cX4_noteCommon 4 none, Cond.methodLink RX4 116 Lib.Math.max.name, Cond.static Lib.Math.max.name, Cond.initialized "java/lang/Math", Cond.code Lib.Math.max.name Lib.Math.max.code 2 (some .int), Cond.methodLink RX5 142 yX4_hasSize, Cond.instanceMethod yX4_hasSize, Cond.selects RX4 yX4_hasSize yX4_hasSize, Cond.code yX4_hasSize cX4_hasSize 2 (some .boolean), Cond.static yX5_within, Cond.code yX5_within cX5_within 3 (some .boolean)]
def wsL_weight : List Cond := .codeWith yL_weight cL_weight 4 (some .int) [(0, 9, 12, 13)] :: ((wsL_weight_r1 ++ (wsL_weight_r2 ++ (wsL_weight_r3 ++ (wsL_weight_r4 ++ wsL_weight_r5)))) ++ wsX50 ++ wsX40 ++ wsX00 ++ (vx_atS RX5 46 "java/lang/IllegalArgumentException" ["java/lang/RuntimeException", "java/lang/Exception"]).filter goodWord)
def wsL_law0_r1 : List Cond := [Cond.classLink RL 8 RX5, Cond.instantiable RX5 4, Cond.initialized RX5, Cond.classLink RL 28 RX6, Cond.instantiable RX6 16, Cond.initialized RX6, Cond.arrayClass .long, Cond.methodLink RL 27 yX5_init, Cond.instanceMethod yX5_init, Cond.code yX5_init cX5_init 1 none, Cond.methodLink RX5 1 objectInit, Cond.instanceMethod objectInit, Cond.code objectInit ⟨#[0xb1]⟩ 1 none, Cond.classLink RX5 7 RX0, Cond.instantiable RX0 9, Cond.initialized RX0, Cond.fieldLink RX5 10 "ColourForests" "graph" "LColourForests$Graph;", Cond.classLink RX5 16 RX3, Cond.instantiable RX3 1, Cond.initialized RX3, Cond.fieldLink RX5 21 "ColourForests" "ringless" "LColourForests$Kind;", Cond.classLink RX5 25 RX2, Cond.instantiable RX2 1, Cond.initialized RX2]
def wsL_law0_r2 : List Cond := [Cond.fieldLink RX5 28 "ColourForests" "withinLimits" "LColourForests$Kind;", Cond.classLink RX5 31 RX4, Cond.instantiable RX4 11, Cond.initialized RX4, Cond.fieldLink RX5 34 "ColourForests" "survey" "LColourForests$Survey;", Cond.methodLink RX5 9 yX0_init, Cond.instanceMethod yX0_init, Cond.code yX0_init cX0_init 1 none, Cond.methodLink RX0 3 objectInit, Cond.arrayClass .int, Cond.fieldLink RX0 9 "ColourForests$Graph" "limits" "[I", Cond.fieldLink RX0 15 "ColourForests$Graph" "firstEnds" "[I", Cond.fieldLink RX0 18 "ColourForests$Graph" "secondEnds" "[I", Cond.fieldLink RX0 21 "ColourForests$Graph" "hues" "[I", Cond.fieldLink RX0 24 "ColourForests$Graph" "weights" "[I", Cond.fieldLink RX0 27 "ColourForests$Graph" "vertices" "I", Cond.fieldLink RX0 31 "ColourForests$Graph" "colours" "I", Cond.methodLink RX5 18 yX3_init, Cond.instanceMethod yX3_init, Cond.code yX3_init cX3_init 2 none, Cond.methodLink RX3 1 yX1_init, Cond.instanceMethod yX1_init, Cond.initialized RX1, Cond.code yX1_init cX1_init 2 none]
def wsL_law0_r3 : List Cond := [Cond.methodLink RX1 1 objectInit, Cond.fieldLink RX1 7 "ColourForests$Kind" "graph" "LColourForests$Graph;", Cond.methodLink RX5 27 yX2_init, Cond.instanceMethod yX2_init, Cond.code yX2_init cX2_init 2 none, Cond.methodLink RX2 1 yX1_init, Cond.methodLink RX5 33 yX4_init, Cond.instanceMethod yX4_init, Cond.code yX4_init cX4_init 2 none, Cond.methodLink RX4 3 objectInit, Cond.fieldLink RX4 11 "ColourForests$Survey" "changesSeen" "I", Cond.fieldLink RX4 15 "ColourForests$Survey" "dearestSets" "[I", Cond.fieldLink RX4 19 "ColourForests$Survey" "dearestWeights" "[I", Cond.fieldLink RX4 22 "ColourForests$Survey" "partsFrom" "[I", Cond.fieldLink RX4 25 "ColourForests$Survey" "roomFrom" "[I", Cond.fieldLink RX4 28 "ColourForests$Survey" "weightFrom" "[I", Cond.fieldLink RX4 31 "ColourForests$Survey" "graph" "LColourForests$Graph;", Cond.methodLink RL 30 yX6_init, Cond.instanceMethod yX6_init, Cond.code yX6_init cX6_init 1 none, Cond.methodLink RX6 1 objectInit, Cond.fieldLink RX6 7 "ColourForestsModel" "vertices" "I", Cond.fieldLink RX6 13 "ColourForestsModel" "colours" "I", Cond.fieldLink RX6 16 "ColourForestsModel" "limits" "[I"]
def wsL_law0_r4 : List Cond := [Cond.fieldLink RX6 20 "ColourForestsModel" "firsts" "[I", Cond.fieldLink RX6 23 "ColourForestsModel" "seconds" "[I", Cond.fieldLink RX6 26 "ColourForestsModel" "colourOf" "[I", Cond.fieldLink RX6 29 "ColourForestsModel" "weights" "[I", Cond.constant RX6 32 (32768), Cond.arrayClass .boolean, Cond.fieldLink RX6 33 "ColourForestsModel" "free" "[Z", Cond.fieldLink RX6 37 "ColourForestsModel" "ranks" "[I", Cond.fieldLink RX6 40 "ColourForestsModel" "best" "[I", Cond.fieldLink RX6 43 "ColourForestsModel" "parts" "[I", Cond.fieldLink RX6 46 "ColourForestsModel" "counts" "[I", Cond.methodLink RL 31 yL_make, Cond.static yL_make, Cond.initialized RL, Cond.codeWith yL_make cL_make 4 (some .int) [(0, 6, 9, 13)], Cond.classLink RL 13 "java/lang/IllegalArgumentException", Cond.methodLink RL 7 yX5_make, Cond.instanceMethod yX5_make, Cond.selects RX5 yX5_make yX5_make, Cond.code yX5_make cX5_make 3 none, Cond.classLink RX5 42 "java/lang/IllegalArgumentException", Cond.initialized "java/lang/IllegalArgumentException", Cond.methodLink RX5 38 yX5_within, Cond.static yX5_within]
def wsL_law0_r5 : List Cond := [Cond.code yX5_within cX5_within 3 (some .boolean), Cond.methodLink RX5 49 yX0_restart, Cond.instanceMethod yX0_restart, Cond.selects RX0 yX0_restart yX0_restart, Cond.code yX0_restart cX0_restart 3 none, Cond.fieldLink RX0 34 "ColourForests$Graph" "edges" "I", Cond.fieldLink RX0 43 "ColourForests$Graph" "changes" "I", Cond.methodLink RX0 37 yJ7_fill_53178, Cond.static yJ7_fill_53178, Cond.initialized RJ7, Cond.code yJ7_fill_53178 cJ7_fill_53178 4 none, Cond.methodLink RL 36 yX6_make, Cond.instanceMethod yX6_make, Cond.selects RX6 yX6_make yX6_make, Cond.code yX6_make cX6_make 4 none, Cond.fieldLink RX6 56 "ColourForestsModel" "edges" "I", Cond.fieldLink RX6 59 "ColourForestsModel" "known" "Z", Cond.methodLink RX6 52 yX6_refuses, Cond.instanceMethod yX6_refuses, Cond.selects RX6 yX6_refuses yX6_refuses, Cond.code yX6_refuses cX6_refuses 2 (some .boolean), Cond.fieldLink RX6 49 "ColourForestsModel" "thrown" "I", Cond.methodLink RL 37 yX6_thrown, Cond.instanceMethod yX6_thrown]
def wsL_law0_r6 : List Cond := [Cond.selects RX6 yX6_thrown yX6_thrown, Cond.code yX6_thrown cX6_thrown 1 (some .int), Cond.methodLink RL 41 yX5_edge, Cond.instanceMethod yX5_edge, Cond.selects RX5 yX5_edge yX5_edge, Cond.code yX5_edge cX5_edge 5 (some .int), Cond.fieldLink RX5 63 "ColourForests$Graph" "edges" "I", Cond.methodLink RX5 53 yX0_hasVertex, Cond.instanceMethod yX0_hasVertex, Cond.selects RX0 yX0_hasVertex yX0_hasVertex, Cond.code yX0_hasVertex cX0_hasVertex 2 (some .boolean), Cond.methodLink RX5 57 yX0_hasColour, Cond.instanceMethod yX0_hasColour, Cond.selects RX0 yX0_hasColour yX0_hasColour, Cond.code yX0_hasColour cX0_hasColour 2 (some .boolean), Cond.methodLink RX5 60 yX5_isWeight, Cond.static yX5_isWeight, Cond.code yX5_isWeight cX5_isWeight 1 (some .boolean), Cond.methodLink RX5 67 yX0_addEdge, Cond.instanceMethod yX0_addEdge, Cond.selects RX0 yX0_addEdge yX0_addEdge, Cond.code yX0_addEdge cX0_addEdge 6 (some .int), Cond.methodLink RL 45 yX6_edge, Cond.instanceMethod yX6_edge]
def wsL_law0_r7 : List Cond := [Cond.selects RX6 yX6_edge yX6_edge, Cond.code yX6_edge cX6_edge 6 (some .int), Cond.methodLink RX6 63 yX6_isHeavy, Cond.static yX6_isHeavy, Cond.code yX6_isHeavy cX6_isHeavy 1 (some .boolean), Cond.methodLink RL 46 yL_limit, Cond.static yL_limit, Cond.codeWith yL_limit cL_limit 4 (some .int) [(0, 6, 9, 18), (0, 6, 12, 13)], Cond.classLink RL 18 "java/lang/IndexOutOfBoundsException", Cond.methodLink RL 15 yX5_limit, Cond.instanceMethod yX5_limit, Cond.selects RX5 yX5_limit yX5_limit, Cond.code yX5_limit cX5_limit 3 none, Cond.classLink RX5 71 "java/lang/IndexOutOfBoundsException", Cond.initialized "java/lang/IndexOutOfBoundsException", Cond.methodLink RX5 78 yX0_setLimit, Cond.instanceMethod yX0_setLimit, Cond.selects RX0 yX0_setLimit yX0_setLimit, Cond.code yX0_setLimit cX0_setLimit 3 none, Cond.methodLink RL 48 yX6_limit, Cond.instanceMethod yX6_limit, Cond.selects RX6 yX6_limit yX6_limit, Cond.code yX6_limit cX6_limit 3 none, Cond.methodLink RL 49 yL_weigh]
def wsL_law0_r8 : List Cond := [Cond.static yL_weigh, Cond.codeWith yL_weigh cL_weigh 4 (some .int) [(0, 6, 9, 18), (0, 6, 12, 13)], Cond.methodLink RL 20 yX5_weigh, Cond.instanceMethod yX5_weigh, Cond.selects RX5 yX5_weigh yX5_weigh, Cond.code yX5_weigh cX5_weigh 3 none, Cond.methodLink RX5 81 yX0_hasEdge, Cond.instanceMethod yX0_hasEdge, Cond.selects RX0 yX0_hasEdge yX0_hasEdge, Cond.code yX0_hasEdge cX0_hasEdge 2 (some .boolean), Cond.methodLink RX5 88 yX0_setWeight, Cond.instanceMethod yX0_setWeight, Cond.selects RX0 yX0_setWeight yX0_setWeight, Cond.code yX0_setWeight cX0_setWeight 3 none, Cond.methodLink RL 51 yX6_weigh, Cond.instanceMethod yX6_weigh, Cond.selects RX6 yX6_weigh yX6_weigh, Cond.code yX6_weigh cX6_weigh 3 none, Cond.methodLink RL 52 yX5_count, Cond.instanceMethod yX5_count, Cond.selects RX5 yX5_count yX5_count, Cond.code yX5_count cX5_count 2 (some .int), Cond.fieldLink RX5 91 "ColourForests$Graph" "vertices" "I", Cond.fieldLink RX5 94 "ColourForests$Graph" "colours" "I"]
def wsL_law0_r9 : List Cond := [Cond.fieldLink RX5 100 "ColourForests$Survey" "widestForests" "I", Cond.fieldLink RX5 103 "ColourForests$Survey" "commonSets" "I", Cond.methodLink RX5 97 yX4_refresh, Cond.instanceMethod yX4_refresh, Cond.selects RX4 yX4_refresh yX4_refresh, Cond.code yX4_refresh cX4_refresh 1 none, Cond.fieldLink RX4 42 "ColourForests$Graph" "changes" "I", Cond.methodLink RX4 47 yX4_walk, Cond.instanceMethod yX4_walk, Cond.selects RX4 yX4_walk yX4_walk, Cond.code yX4_walk cX4_walk 5 none, Cond.fieldLink RX4 53 "ColourForests$Graph" "edges" "I", Cond.methodLink RX4 50 yX4_begin, Cond.instanceMethod yX4_begin, Cond.selects RX4 yX4_begin yX4_begin, Cond.code yX4_begin cX4_begin 1 none, Cond.fieldLink RX4 80 "ColourForests$Survey" "widest" "I", Cond.fieldLink RX4 83 "ColourForests$Survey" "widestForests" "I", Cond.fieldLink RX4 86 "ColourForests$Survey" "commonSets" "I", Cond.fieldLink RX4 35 "ColourForests$Survey" "most" "I", Cond.methodLink RX4 73 yX0_loneParts, Cond.instanceMethod yX0_loneParts, Cond.selects RX0 yX0_loneParts yX0_loneParts, Cond.code yX0_loneParts cX0_loneParts 3 (some .int)]
def wsL_law0_r10 : List Cond := [Cond.static yX5_withCell, Cond.code yX5_withCell cX5_withCell 4 (some .int), Cond.methodLink RX4 77 yX0_fullRoom, Cond.instanceMethod yX0_fullRoom, Cond.selects RX0 yX0_fullRoom yX0_fullRoom, Cond.code yX0_fullRoom cX0_fullRoom 3 (some .int), Cond.methodLink RX4 56 yJ6_numberOfTrailingZeros_0f7a4, Cond.static yJ6_numberOfTrailingZeros_0f7a4, Cond.initialized RJ6, Cond.code yJ6_numberOfTrailingZeros_0f7a4 cJ6_numberOfTrailingZeros_0f7a4 2 (some .int), Cond.constant RJ6 264 (65536), Cond.methodLink RX4 62 yX4_placeAbove, Cond.instanceMethod yX4_placeAbove, Cond.selects RX4 yX4_placeAbove yX4_placeAbove, Cond.code yX4_placeAbove cX4_placeAbove 3 (some .int), Cond.methodLink RX4 65 yX4_enter, Cond.instanceMethod yX4_enter, Cond.selects RX4 yX4_enter yX4_enter, Cond.code yX4_enter cX4_enter 5 (some .boolean), Cond.fieldLink RX4 102 "ColourForests$Graph" "weights" "[I", Cond.methodLink RX4 89 yX0_joinsTwoParts, Cond.instanceMethod yX0_joinsTwoParts, Cond.selects RX0 yX0_joinsTwoParts yX0_joinsTwoParts, Cond.code yX0_joinsTwoParts cX0_joinsTwoParts 3 (some .boolean)]
def wsL_law0_r11 : List Cond := [Cond.static yX5_cell, Cond.code yX5_cell cX5_cell 2 (some .int), Cond.methodLink RX4 92 yX0_partsJoinedBy, Cond.instanceMethod yX0_partsJoinedBy, Cond.selects RX0 yX0_partsJoinedBy yX0_partsJoinedBy, Cond.code yX0_partsJoinedBy cX0_partsJoinedBy 7 (some .int), Cond.methodLink RX4 96 yX0_hasRoom, Cond.instanceMethod yX0_hasRoom, Cond.selects RX0 yX0_hasRoom yX0_hasRoom, Cond.code yX0_hasRoom cX0_hasRoom 3 (some .boolean), Cond.methodLink RX4 99 yX0_roomAfter, Cond.instanceMethod yX0_roomAfter, Cond.selects RX0 yX0_roomAfter yX0_roomAfter, Cond.code yX0_roomAfter cX0_roomAfter 3 (some .int), Cond.methodLink RX4 69 yX4_note, Cond.instanceMethod yX4_note, Cond.selects RX4 yX4_note yX4_note, Cond.code yX4_note cX4_note 4 none, Cond.methodLink RX4 105 yJ6_bitCount_0f7a4, Cond.static yJ6_bitCount_0f7a4, Cond.code yJ6_bitCount_0f7a4 cJ6_bitCount_0f7a4 1 (some .int), Cond.constant RJ6 265 (1431655765), Cond.constant RJ6 266 (858993459), Cond.constant RJ6 267 (252645135)]
def wsL_law0_r12 : List Cond := [Cond.methodLink RX4 108 yX4_noteForest, Cond.instanceMethod yX4_noteForest, Cond.selects RX4 yX4_noteForest yX4_noteForest, Cond.code yX4_noteForest cX4_noteForest 2 none, Cond.methodLink RX4 112 yX4_noteCommon, Cond.instanceMethod yX4_noteCommon, Cond.selects RX4 yX4_noteCommon yX4_noteCommon, Cond.code yX4_noteCommon cX4_noteCommon 4 none, Cond.methodLink RX4 116 Lib.Math.max.name, Cond.static Lib.Math.max.name, Cond.initialized "java/lang/Math", Cond.code Lib.Math.max.name Lib.Math.max.code 2 (some .int), Cond.methodLink RL 55 yX6_count, Cond.instanceMethod yX6_count, Cond.selects RX6 yX6_count yX6_count, Cond.code yX6_count cX6_count 6 (some .int), Cond.methodLink RX6 86 yX6_learn, Cond.instanceMethod yX6_learn, Cond.selects RX6 yX6_learn yX6_learn, Cond.code yX6_learn cX6_learn 6 none, Cond.fieldLink RX6 70 "ColourForestsModel" "most" "I", Cond.methodLink RX6 73 yX6_hasNoRing, Cond.instanceMethod yX6_hasNoRing, Cond.selects RX6 yX6_hasNoRing yX6_hasNoRing]
def wsL_law0_r13 : List Cond := [Cond.code yX6_hasNoRing cX6_hasNoRing 6 (some .boolean), Cond.methodLink RX6 66 yX6_has, Cond.static yX6_has, Cond.code yX6_has cX6_has 2 (some .boolean), Cond.methodLink RX6 76 yX6_keepsLimits, Cond.instanceMethod yX6_keepsLimits, Cond.selects RX6 yX6_keepsLimits yX6_keepsLimits, Cond.code yX6_keepsLimits cX6_keepsLimits 4 (some .boolean), Cond.methodLink RX6 79 yX6_size, Cond.static yX6_size, Cond.code yX6_size cX6_size 3 (some .int), Cond.methodLink RX6 83 yX6_weightOf, Cond.instanceMethod yX6_weightOf, Cond.selects RX6 yX6_weightOf yX6_weightOf, Cond.code yX6_weightOf cX6_weightOf 4 (some .int), Cond.methodLink RL 56 yX5_rank, Cond.instanceMethod yX5_rank, Cond.selects RX5 yX5_rank yX5_rank, Cond.code yX5_rank cX5_rank 4 (some .int), Cond.methodLink RX5 106 yX5_judgeOf, Cond.instanceMethod yX5_judgeOf, Cond.selects RX5 yX5_judgeOf yX5_judgeOf, Cond.code yX5_judgeOf cX5_judgeOf 2 (some (.object "ColourForests$Kind")), Cond.methodLink RX5 110 yX0_hasSet]
def wsL_law0_r14 : List Cond := [Cond.instanceMethod yX0_hasSet, Cond.selects RX0 yX0_hasSet yX0_hasSet, Cond.code yX0_hasSet cX0_hasSet 2 (some .boolean), Cond.methodLink RX0 50 yX0_allEdges, Cond.instanceMethod yX0_allEdges, Cond.selects RX0 yX0_allEdges yX0_allEdges, Cond.code yX0_allEdges cX0_allEdges 1 (some .int), Cond.methodLink RX5 113 ⟨"ColourForests$Kind", "rankOf", "(I)I"⟩, Cond.sameMethod "ColourForests$Kind" "ColourForests$Kind" "rankOf" "(I)I", Cond.selects RX2 ⟨"ColourForests$Kind", "rankOf", "(I)I"⟩ yX2_rankOf, Cond.instanceMethod yX2_rankOf, Cond.code yX2_rankOf cX2_rankOf 5 (some .int), Cond.fieldLink RX2 7 "ColourForests$LimitKind" "graph" "LColourForests$Graph;", Cond.sameField "ColourForests$LimitKind" "ColourForests$Kind" "graph" "LColourForests$Graph;", Cond.fieldLink RX2 19 "ColourForests$Graph" "edges" "I", Cond.methodLink RX2 13 yX0_fullRoom, Cond.static yX5_hasBit, Cond.code yX5_hasBit cX5_hasBit 2 (some .boolean), Cond.methodLink RX2 29 yX0_hasRoom, Cond.methodLink RX2 32 yX0_roomAfter, Cond.selects RX3 ⟨"ColourForests$Kind", "rankOf", "(I)I"⟩ yX3_rankOf, Cond.instanceMethod yX3_rankOf, Cond.code yX3_rankOf cX3_rankOf 5 (some .int), Cond.fieldLink RX3 7 "ColourForests$RinglessKind" "graph" "LColourForests$Graph;"]
def wsL_law0_r15 : List Cond := [Cond.sameField "ColourForests$RinglessKind" "ColourForests$Kind" "graph" "LColourForests$Graph;", Cond.fieldLink RX3 19 "ColourForests$Graph" "edges" "I", Cond.methodLink RX3 13 yX0_loneParts, Cond.methodLink RX3 29 yX0_joinsTwoParts, Cond.methodLink RX3 32 yX0_partsJoinedBy, Cond.methodLink RL 60 yX6_rank, Cond.instanceMethod yX6_rank, Cond.selects RX6 yX6_rank yX6_rank, Cond.code yX6_rank cX6_rank 3 (some .int), Cond.methodLink RX6 89 yX6_isKind, Cond.static yX6_isKind, Cond.code yX6_isKind cX6_isKind 1 (some .boolean), Cond.methodLink RX6 92 yX6_isSet, Cond.instanceMethod yX6_isSet, Cond.selects RX6 yX6_isSet yX6_isSet, Cond.code yX6_isSet cX6_isSet 2 (some .boolean), Cond.methodLink RL 61 yX5_free, Cond.instanceMethod yX5_free, Cond.selects RX5 yX5_free yX5_free, Cond.code yX5_free cX5_free 4 (some .int), Cond.methodLink RX5 119 yX5_isCommon, Cond.instanceMethod yX5_isCommon, Cond.selects RX5 yX5_isCommon yX5_isCommon, Cond.code yX5_isCommon cX5_isCommon 2 (some .boolean)]
def wsL_law0_r16 : List Cond := [Cond.methodLink RX5 126 ⟨"ColourForests$Kind", "allows", "(I)Z"⟩, Cond.sameMethod "ColourForests$Kind" "ColourForests$Kind" "allows" "(I)Z", Cond.selects RX2 ⟨"ColourForests$Kind", "allows", "(I)Z"⟩ yX1_allows, Cond.instanceMethod yX1_allows, Cond.code yX1_allows cX1_allows 2 (some .boolean), Cond.methodLink RX1 13 ⟨"ColourForests$Kind", "rankOf", "(I)I"⟩, Cond.methodLink RX1 17 yJ6_bitCount_0f7a4, Cond.selects RX3 ⟨"ColourForests$Kind", "allows", "(I)Z"⟩ yX1_allows, Cond.methodLink RX5 122 yX5_told, Cond.static yX5_told, Cond.code yX5_told cX5_told 1 (some .int), Cond.methodLink RL 64 yX6_free, Cond.instanceMethod yX6_free, Cond.selects RX6 yX6_free yX6_free, Cond.code yX6_free cX6_free 4 (some .int), Cond.methodLink RL 65 yX5_circuit, Cond.instanceMethod yX5_circuit, Cond.selects RX5 yX5_circuit yX5_circuit, Cond.code yX5_circuit cX5_circuit 5 (some .int), Cond.methodLink RX5 129 yX5_hasBit, Cond.methodLink RX5 133 ⟨"ColourForests$Kind", "circuitWithin", "(I)I"⟩, Cond.sameMethod "ColourForests$Kind" "ColourForests$Kind" "circuitWithin" "(I)I", Cond.selects RX2 ⟨"ColourForests$Kind", "circuitWithin", "(I)I"⟩ yX1_circuitWithin, Cond.instanceMethod yX1_circuitWithin]
def wsL_law0_r17 : List Cond := [Cond.code yX1_circuitWithin cX1_circuitWithin 6 (some .int), Cond.fieldLink RX1 22 "ColourForests$Graph" "edges" "I", Cond.selects RX3 ⟨"ColourForests$Kind", "circuitWithin", "(I)I"⟩ yX1_circuitWithin, Cond.methodLink RL 69 yX6_circuit, Cond.instanceMethod yX6_circuit, Cond.selects RX6 yX6_circuit yX6_circuit, Cond.code yX6_circuit cX6_circuit 8 (some .int), Cond.methodLink RL 70 yX5_closure, Cond.instanceMethod yX5_closure, Cond.selects RX5 yX5_closure yX5_closure, Cond.code yX5_closure cX5_closure 4 (some .int), Cond.methodLink RX5 136 ⟨"ColourForests$Kind", "closureOf", "(I)I"⟩, Cond.sameMethod "ColourForests$Kind" "ColourForests$Kind" "closureOf" "(I)I", Cond.selects RX2 ⟨"ColourForests$Kind", "closureOf", "(I)I"⟩ yX1_closureOf, Cond.instanceMethod yX1_closureOf, Cond.code yX1_closureOf cX1_closureOf 6 (some .int), Cond.selects RX3 ⟨"ColourForests$Kind", "closureOf", "(I)I"⟩ yX1_closureOf, Cond.methodLink RL 73 yX6_closure, Cond.instanceMethod yX6_closure, Cond.selects RX6 yX6_closure yX6_closure, Cond.code yX6_closure cX6_closure 6 (some .int), Cond.methodLink RL 74 yX5_most, Cond.instanceMethod yX5_most, Cond.selects RX5 yX5_most yX5_most]
def wsL_law0_r18 : List Cond := [Cond.code yX5_most cX5_most 1 (some .int), Cond.fieldLink RX5 139 "ColourForests$Survey" "most" "I", Cond.methodLink RL 77 yX6_most, Cond.instanceMethod yX6_most, Cond.selects RX6 yX6_most yX6_most, Cond.code yX6_most cX6_most 1 (some .int), Cond.methodLink RL 78 yX5_dearest, Cond.instanceMethod yX5_dearest, Cond.selects RX5 yX5_dearest yX5_dearest, Cond.code yX5_dearest cX5_dearest 2 (some .int), Cond.fieldLink RX5 145 "ColourForests$Survey" "dearestSets" "[I", Cond.methodLink RX5 142 yX4_hasSize, Cond.instanceMethod yX4_hasSize, Cond.selects RX4 yX4_hasSize yX4_hasSize, Cond.code yX4_hasSize cX4_hasSize 2 (some .boolean), Cond.methodLink RL 81 yX6_dearest, Cond.instanceMethod yX6_dearest, Cond.selects RX6 yX6_dearest yX6_dearest, Cond.code yX6_dearest cX6_dearest 2 (some .int), Cond.methodLink RL 82 yL_weight, Cond.static yL_weight, Cond.codeWith yL_weight cL_weight 4 (some .int) [(0, 9, 12, 13)], Cond.methodLink RL 23 yX5_weight, Cond.instanceMethod yX5_weight]
def wsL_law0_r19 : List Cond := [Cond.selects RX5 yX5_weight yX5_weight, Cond.code yX5_weight cX5_weight 2 (some .int), Cond.fieldLink RX5 151 "ColourForests$Survey" "dearestWeights" "[I", Cond.methodLink RL 85 yX6_weight, Cond.instanceMethod yX6_weight, Cond.selects RX6 yX6_weight yX6_weight, Cond.code yX6_weight cX6_weight 2 (some .int), Cond.methodLink RL 86 yX5_heaviest, Cond.instanceMethod yX5_heaviest, Cond.selects RX5 yX5_heaviest yX5_heaviest, Cond.code yX5_heaviest cX5_heaviest 3 (some .int), Cond.methodLink RL 89 yX6_heaviest, Cond.instanceMethod yX6_heaviest, Cond.selects RX6 yX6_heaviest yX6_heaviest, Cond.code yX6_heaviest cX6_heaviest 3 (some .int), Cond.methodLink RL 90 yX5_witness, Cond.instanceMethod yX5_witness, Cond.selects RX5 yX5_witness yX5_witness, Cond.code yX5_witness cX5_witness 2 (some .int), Cond.methodLink RX5 154 yX5_leastWitness, Cond.instanceMethod yX5_leastWitness, Cond.selects RX5 yX5_leastWitness yX5_leastWitness, Cond.code yX5_leastWitness cX5_leastWitness 1 (some .int), Cond.methodLink RX5 174 yX5_leastSplit]
def wsL_law0_r20 : List Cond := [Cond.instanceMethod yX5_leastSplit, Cond.selects RX5 yX5_leastSplit yX5_leastSplit, Cond.code yX5_leastSplit cX5_leastSplit 8 (some .int), Cond.methodLink RX5 171 yX0_allEdges, Cond.methodLink RX5 178 yJ6_lowestOneBit_0f7a4, Cond.static yJ6_lowestOneBit_0f7a4, Cond.code yJ6_lowestOneBit_0f7a4 cJ6_lowestOneBit_0f7a4 1 (some .int), Cond.methodLink RX5 158 yX5_greatestWitness, Cond.instanceMethod yX5_greatestWitness, Cond.selects RX5 yX5_greatestWitness yX5_greatestWitness, Cond.code yX5_greatestWitness cX5_greatestWitness 1 (some .int), Cond.methodLink RL 93 yX6_witness, Cond.instanceMethod yX6_witness, Cond.selects RX6 yX6_witness yX6_witness, Cond.code yX6_witness cX6_witness 6 (some .int), Cond.methodLink RL 94 yX5_check, Cond.instanceMethod yX5_check, Cond.selects RX5 yX5_check yX5_check, Cond.code yX5_check cX5_check 2 (some .int), Cond.methodLink RX5 161 yX5_dearestAreSuch, Cond.instanceMethod yX5_dearestAreSuch, Cond.selects RX5 yX5_dearestAreSuch yX5_dearestAreSuch, Cond.code yX5_dearestAreSuch cX5_dearestAreSuch 3 (some .boolean), Cond.methodLink RX5 183 yJ6_bitCount_0f7a4]
def wsL_law0_r21 : List Cond := [Cond.methodLink RX5 165 yX5_gainsNeverRise, Cond.instanceMethod yX5_gainsNeverRise, Cond.selects RX5 yX5_gainsNeverRise yX5_gainsNeverRise, Cond.code yX5_gainsNeverRise cX5_gainsNeverRise 4 (some .boolean), Cond.methodLink RX5 168 yX5_isWitness, Cond.instanceMethod yX5_isWitness, Cond.selects RX5 yX5_isWitness yX5_isWitness, Cond.code yX5_isWitness cX5_isWitness 3 (some .boolean), Cond.methodLink RL 97 yX6_check, Cond.instanceMethod yX6_check, Cond.selects RX6 yX6_check yX6_check, Cond.code yX6_check cX6_check 1 (some .int)]
def wsL_law0 : List Cond := (wsL_law0_r1 ++ (wsL_law0_r2 ++ (wsL_law0_r3 ++ (wsL_law0_r4 ++ (wsL_law0_r5 ++ (wsL_law0_r6 ++ (wsL_law0_r7 ++ (wsL_law0_r8 ++ (wsL_law0_r9 ++ (wsL_law0_r10 ++ (wsL_law0_r11 ++ (wsL_law0_r12 ++ (wsL_law0_r13 ++ (wsL_law0_r14 ++ (wsL_law0_r15 ++ (wsL_law0_r16 ++ (wsL_law0_r17 ++ (wsL_law0_r18 ++ (wsL_law0_r19 ++ (wsL_law0_r20 ++ wsL_law0_r21)))))))))))))))))))) ++ wsX50 ++ wsX60 ++ wsX00 ++ wsX30 ++ wsX20 ++ wsX40 ++ ([] : List Cond)
def wsL_law : List Cond := wsL_law0 ++ (vx_atS RX5 46 "java/lang/IllegalArgumentException" ["java/lang/RuntimeException", "java/lang/Exception"]).filter goodWord ++ (vx_atS RX5 75 "java/lang/IndexOutOfBoundsException" ["java/lang/RuntimeException", "java/lang/Exception"]).filter goodWord
end
section
set_option maxRecDepth 20000 in
theorem in_wsL_law0_r1 : ∀ w ∈ wsL_law0_r1, w ∈ lw_tbl := fun w h => (goodIn_p wsL_law0_r1 [42, 45] (by decide +kernel) (by decide +kernel) w h).1
set_option maxRecDepth 20000 in
theorem in_wsL_law0_r2 : ∀ w ∈ wsL_law0_r2, w ∈ lw_tbl := fun w h => (goodIn_p wsL_law0_r2 [50, 94, 97] (by decide +kernel) (by decide +kernel) w h).1
set_option maxRecDepth 20000 in
theorem in_wsL_law0_r3 : ∀ w ∈ wsL_law0_r3, w ∈ lw_tbl := fun w h => (goodIn_p wsL_law0_r3 [111, 119, 544] (by decide +kernel) (by decide +kernel) w h).1
set_option maxRecDepth 20000 in
theorem in_wsL_law0_r4 : ∀ w ∈ wsL_law0_r4, w ∈ lw_tbl := fun w h => (goodIn_p wsL_law0_r4 [415] (by decide +kernel) (by decide +kernel) w h).1
set_option maxRecDepth 20000 in
theorem in_wsL_law0_r5 : ∀ w ∈ wsL_law0_r5, w ∈ lw_tbl := fun w h => (goodIn_p wsL_law0_r5 [183, 486, 489, 604, 608] (by decide +kernel) (by decide +kernel) w h).1
set_option maxRecDepth 20000 in
theorem in_wsL_law0_r6 : ∀ w ∈ wsL_law0_r6, w ∈ lw_tbl := fun w h => (goodIn_p wsL_law0_r6 [600, 176, 180, 187, 190, 195] (by decide +kernel) (by decide +kernel) w h).1
set_option maxRecDepth 20000 in
theorem in_wsL_law0_r7 : ∀ w ∈ wsL_law0_r7, w ∈ lw_tbl := fun w h => (goodIn_p wsL_law0_r7 [612, 615, 497, 518, 619] (by decide +kernel) (by decide +kernel) w h).1
set_option maxRecDepth 20000 in
theorem in_wsL_law0_r8 : ∀ w ∈ wsL_law0_r8, w ∈ lw_tbl := fun w h => (goodIn_p wsL_law0_r8 [525, 336, 531, 623, 199] (by decide +kernel) (by decide +kernel) w h).1
set_option maxRecDepth 20000 in
theorem in_wsL_law0_r9 : ∀ w ∈ wsL_law0_r9, w ∈ lw_tbl := fun w h => (goodIn_p wsL_law0_r9 [203, 207, 211, 215] (by decide +kernel) (by decide +kernel) w h).1
set_option maxRecDepth 20000 in
theorem in_wsL_law0_r10 : ∀ w ∈ wsL_law0_r10, w ∈ lw_tbl := fun w h => (goodIn_p wsL_law0_r10 [218, 222, 225, 230, 234, 238] (by decide +kernel) (by decide +kernel) w h).1
set_option maxRecDepth 20000 in
theorem in_wsL_law0_r11 : ∀ w ∈ wsL_law0_r11, w ∈ lw_tbl := fun w h => (goodIn_p wsL_law0_r11 [241, 245, 249, 253, 257, 260] (by decide +kernel) (by decide +kernel) w h).1
set_option maxRecDepth 20000 in
theorem in_wsL_law0_r12 : ∀ w ∈ wsL_law0_r12, w ∈ lw_tbl := fun w h => (goodIn_p wsL_law0_r12 [267, 271, 274, 627, 631] (by decide +kernel) (by decide +kernel) w h).1
set_option maxRecDepth 20000 in
theorem in_wsL_law0_r13 : ∀ w ∈ wsL_law0_r13, w ∈ lw_tbl := fun w h => (goodIn_p wsL_law0_r13 [635, 638, 642, 645, 649, 278, 282] (by decide +kernel) (by decide +kernel) w h).1
set_option maxRecDepth 20000 in
theorem in_wsL_law0_r14 : ∀ w ∈ wsL_law0_r14, w ∈ lw_tbl := fun w h => (goodIn_p wsL_law0_r14 [286, 290, 296, 300, 305] (by decide +kernel) (by decide +kernel) w h).1
set_option maxRecDepth 20000 in
theorem in_wsL_law0_r15 : ∀ w ∈ wsL_law0_r15, w ∈ lw_tbl := fun w h => (goodIn_p wsL_law0_r15 [653, 656, 660, 313, 317] (by decide +kernel) (by decide +kernel) w h).1
set_option maxRecDepth 20000 in
theorem in_wsL_law0_r16 : ∀ w ∈ wsL_law0_r16, w ∈ lw_tbl := fun w h => (goodIn_p wsL_law0_r16 [323, 328, 664, 332] (by decide +kernel) (by decide +kernel) w h).1
set_option maxRecDepth 20000 in
theorem in_wsL_law0_r17 : ∀ w ∈ wsL_law0_r17, w ∈ lw_tbl := fun w h => (goodIn_p wsL_law0_r17 [343, 668, 347, 353, 672] (by decide +kernel) (by decide +kernel) w h).1
set_option maxRecDepth 20000 in
theorem in_wsL_law0_r18 : ∀ w ∈ wsL_law0_r18, w ∈ lw_tbl := fun w h => (goodIn_p wsL_law0_r18 [357, 676, 361, 365, 680] (by decide +kernel) (by decide +kernel) w h).1
set_option maxRecDepth 20000 in
theorem in_wsL_law0_r19 : ∀ w ∈ wsL_law0_r19, w ∈ lw_tbl := fun w h => (goodIn_p wsL_law0_r19 [538, 684, 370, 688, 374, 378] (by decide +kernel) (by decide +kernel) w h).1
set_option maxRecDepth 20000 in
theorem in_wsL_law0_r20 : ∀ w ∈ wsL_law0_r20, w ∈ lw_tbl := fun w h => (goodIn_p wsL_law0_r20 [382, 386, 390, 692, 394, 398] (by decide +kernel) (by decide +kernel) w h).1
set_option maxRecDepth 20000 in
theorem in_wsL_law0_r21 : ∀ w ∈ wsL_law0_r21, w ∈ lw_tbl := fun w h => (goodIn_p wsL_law0_r21 [403, 407, 696] (by decide +kernel) (by decide +kernel) w h).1
set_option maxRecDepth 20000 in
theorem in_law_wsX50 : ∀ w ∈ wsX50, w ∈ lw_tbl := by decide +kernel
set_option maxRecDepth 20000 in
theorem in_law_wsX60 : ∀ w ∈ wsX60, w ∈ lw_tbl := by decide +kernel
set_option maxRecDepth 20000 in
theorem in_law_wsX00 : ∀ w ∈ wsX00, w ∈ lw_tbl := by decide +kernel
set_option maxRecDepth 20000 in
theorem in_law_wsX30 : ∀ w ∈ wsX30, w ∈ lw_tbl := by decide +kernel
set_option maxRecDepth 20000 in
theorem in_law_wsX20 : ∀ w ∈ wsX20, w ∈ lw_tbl := by decide +kernel
set_option maxRecDepth 20000 in
theorem in_law_wsX40 : ∀ w ∈ wsX40, w ∈ lw_tbl := by decide +kernel
set_option maxRecDepth 20000 in
theorem wsL_law_in0 : ∀ w ∈ wsL_law0, w ∈ lw_tbl := (fun w h => (List.mem_append.mp h).elim ((fun w h => (List.mem_append.mp h).elim ((fun w h => (List.mem_append.mp h).elim ((fun w h => (List.mem_append.mp h).elim ((fun w h => (List.mem_append.mp h).elim ((fun w h => (List.mem_append.mp h).elim ((fun w h => (List.mem_append.mp h).elim ((fun w h => (List.mem_append.mp h).elim (in_wsL_law0_r1 w) ((fun w h => (List.mem_append.mp h).elim (in_wsL_law0_r2 w) ((fun w h => (List.mem_append.mp h).elim (in_wsL_law0_r3 w) ((fun w h => (List.mem_append.mp h).elim (in_wsL_law0_r4 w) ((fun w h => (List.mem_append.mp h).elim (in_wsL_law0_r5 w) ((fun w h => (List.mem_append.mp h).elim (in_wsL_law0_r6 w) ((fun w h => (List.mem_append.mp h).elim (in_wsL_law0_r7 w) ((fun w h => (List.mem_append.mp h).elim (in_wsL_law0_r8 w) ((fun w h => (List.mem_append.mp h).elim (in_wsL_law0_r9 w) ((fun w h => (List.mem_append.mp h).elim (in_wsL_law0_r10 w) ((fun w h => (List.mem_append.mp h).elim (in_wsL_law0_r11 w) ((fun w h => (List.mem_append.mp h).elim (in_wsL_law0_r12 w) ((fun w h => (List.mem_append.mp h).elim (in_wsL_law0_r13 w) ((fun w h => (List.mem_append.mp h).elim (in_wsL_law0_r14 w) ((fun w h => (List.mem_append.mp h).elim (in_wsL_law0_r15 w) ((fun w h => (List.mem_append.mp h).elim (in_wsL_law0_r16 w) ((fun w h => (List.mem_append.mp h).elim (in_wsL_law0_r17 w) ((fun w h => (List.mem_append.mp h).elim (in_wsL_law0_r18 w) ((fun w h => (List.mem_append.mp h).elim (in_wsL_law0_r19 w) ((fun w h => (List.mem_append.mp h).elim (in_wsL_law0_r20 w) (in_wsL_law0_r21 w)) w)) w)) w)) w)) w)) w)) w)) w)) w)) w)) w)) w)) w)) w)) w)) w)) w)) w)) w)) w) (in_law_wsX50 w)) w) (in_law_wsX60 w)) w) (in_law_wsX00 w)) w) (in_law_wsX30 w)) w) (in_law_wsX20 w)) w) (in_law_wsX40 w)) w) (fun h => nomatch h))
theorem wsL_law_x0 : ∀ w ∈ (vx_atS RX5 46 "java/lang/IllegalArgumentException" ["java/lang/RuntimeException", "java/lang/Exception"]).filter goodWord, w ∈ lw_tbl := by decide +kernel
theorem wsL_law_x1 : ∀ w ∈ (vx_atS RX5 75 "java/lang/IndexOutOfBoundsException" ["java/lang/RuntimeException", "java/lang/Exception"]).filter goodWord, w ∈ lw_tbl := by decide +kernel
theorem wsL_law_in : ∀ w ∈ wsL_law, w ∈ lw_tbl := fun w h => (List.mem_append.mp h).elim (fun h => (List.mem_append.mp h).elim (fun h => wsL_law_in0 w h) (fun h => wsL_law_x0 w h)) (fun h => wsL_law_x1 w h)
theorem inlX0 : ∀ w ∈ wsX00, w ∈ wsL_law := fun _ h => List.mem_append_left _ (List.mem_append_left _ (List.mem_append_left _ (List.mem_append_left _ (List.mem_append_left _ (List.mem_append_left _ (List.mem_append_right _ h))))))
theorem inX0 : ∀ w ∈ wsX00, w ∈ lw_tbl := fun w h => wsL_law_in w (inlX0 w h)
theorem inX1 : ∀ w ∈ wsX10, w ∈ lw_tbl := by decide +kernel
theorem inlX2 : ∀ w ∈ wsX20, w ∈ wsL_law := fun _ h => List.mem_append_left _ (List.mem_append_left _ (List.mem_append_left _ (List.mem_append_left _ (List.mem_append_right _ h))))
theorem inX2 : ∀ w ∈ wsX20, w ∈ lw_tbl := fun w h => wsL_law_in w (inlX2 w h)
theorem inlX3 : ∀ w ∈ wsX30, w ∈ wsL_law := fun _ h => List.mem_append_left _ (List.mem_append_left _ (List.mem_append_left _ (List.mem_append_left _ (List.mem_append_left _ (List.mem_append_right _ h)))))
theorem inX3 : ∀ w ∈ wsX30, w ∈ lw_tbl := fun w h => wsL_law_in w (inlX3 w h)
theorem inlX4 : ∀ w ∈ wsX40, w ∈ wsL_law := fun _ h => List.mem_append_left _ (List.mem_append_left _ (List.mem_append_left _ (List.mem_append_right _ h)))
theorem inX4 : ∀ w ∈ wsX40, w ∈ lw_tbl := fun w h => wsL_law_in w (inlX4 w h)
theorem inlX5 : ∀ w ∈ wsX50, w ∈ wsL_law := fun _ h => List.mem_append_left _ (List.mem_append_left _ (List.mem_append_left _ (List.mem_append_left _ (List.mem_append_left _ (List.mem_append_left _ (List.mem_append_left _ (List.mem_append_left _ (List.mem_append_right _ h))))))))
theorem inX5 : ∀ w ∈ wsX50, w ∈ lw_tbl := fun w h => wsL_law_in w (inlX5 w h)
theorem inlX6 : ∀ w ∈ wsX60, w ∈ wsL_law := fun _ h => List.mem_append_left _ (List.mem_append_left _ (List.mem_append_left _ (List.mem_append_left _ (List.mem_append_left _ (List.mem_append_left _ (List.mem_append_left _ (List.mem_append_right _ h)))))))
theorem inX6 : ∀ w ∈ wsX60, w ∈ lw_tbl := fun w h => wsL_law_in w (inlX6 w h)
theorem inJx145de : ∀ w ∈ wsJx145de0, w ∈ lw_tbl := by decide +kernel
theorem inJ6 : ∀ w ∈ wsJ60, w ∈ lw_tbl := by decide +kernel
theorem inJ9 : ∀ w ∈ wsJ90, w ∈ lw_tbl := by decide +kernel
theorem inJ0 : ∀ w ∈ wsJ00, w ∈ lw_tbl := by decide +kernel
theorem inJ7 : ∀ w ∈ wsJ70, w ∈ lw_tbl := by decide +kernel
end
section
/-! sets of edges as numbers: bit i is 1 for each i that is in -/
def ms_sub (S T : Nat) : Prop := ∀ i, S.testBit i = true → T.testBit i = true
def ms_sd (a b : Nat) : Nat := a ^^^ (a &&& b)
theorem ms_sd_bit (a b i : Nat) : (ms_sd a b).testBit i = (a.testBit i && !b.testBit i) := by
  unfold ms_sd
  rw [Nat.testBit_xor, Nat.testBit_and]
  cases a.testBit i <;> cases b.testBit i <;> rfl
theorem ms_ins_bit (S e i : Nat) : (S ||| 2 ^ e).testBit i = (S.testBit i || decide (e = i)) := by
  rw [Nat.testBit_or, Nat.testBit_two_pow]
theorem ms_lt {x n : Nat} (h : ∀ i, x.testBit i = true → i < n) : x < 2 ^ n := by
  apply Nat.lt_pow_two_of_testBit
  intro i hi
  cases hb : x.testBit i
  · rfl
  · have := h i hb
    omega
theorem ms_bit_lt {x n i : Nat} (h : x < 2 ^ n) (hb : x.testBit i = true) : i < n := by
  rcases Nat.lt_or_ge i n with q | q
  · exact q
  · have := Nat.testBit_lt_two_pow (Nat.lt_of_lt_of_le h (Nat.pow_le_pow_right (by decide) q))
    rw [this] at hb
    cases hb
theorem ms_bit_ge {x n i : Nat} (h : x < 2 ^ n) (hi : n ≤ i) : x.testBit i = false := by
  cases hb : x.testBit i
  · rfl
  · have := ms_bit_lt h hb
    omega
theorem ms_up {x n k : Nat} (h : x < 2 ^ n) (hk : n ≤ k) : x < 2 ^ k := Nat.lt_of_lt_of_le h (Nat.pow_le_pow_right (by decide) hk)
theorem ms_pow_lt {e n : Nat} (h : e < n) : 2 ^ e < 2 ^ n := Nat.pow_lt_pow_right (by decide) h
theorem ms_ins_lt {S e n : Nat} (h : S < 2 ^ n) (he : e < n) : S ||| 2 ^ e < 2 ^ n := Nat.or_lt_two_pow h (ms_pow_lt he)
theorem ms_sd_lt {a b n : Nat} (h : a < 2 ^ n) : ms_sd a b < 2 ^ n := by
  apply ms_lt
  intro i hi
  rw [ms_sd_bit, Bool.and_eq_true] at hi
  exact ms_bit_lt h hi.1
theorem ms_lo_in {S j : Nat} (h : S.testBit j = true) : S % 2 ^ (j + 1) = S % 2 ^ j ||| 2 ^ j := by
  apply Nat.eq_of_testBit_eq
  intro i
  rw [ms_ins_bit, Nat.testBit_mod_two_pow, Nat.testBit_mod_two_pow]
  by_cases hij : j = i
  · subst hij
    simp [h]
  · have : decide (i < j + 1) = decide (i < j) := decide_eq_decide.mpr (by omega)
    rw [this]
    simp [hij]
theorem ms_lo_out {S j : Nat} (h : S.testBit j = false) : S % 2 ^ (j + 1) = S % 2 ^ j := by
  apply Nat.eq_of_testBit_eq
  intro i
  rw [Nat.testBit_mod_two_pow, Nat.testBit_mod_two_pow]
  by_cases hij : j = i
  · subst hij
    simp [h]
  · have : decide (i < j + 1) = decide (i < j) := decide_eq_decide.mpr (by omega)
    rw [this]
theorem ms_sub_rf (S : Nat) : ms_sub S S := fun _ h => h
theorem ms_sub_tr {S T U : Nat} (h : ms_sub S T) (k : ms_sub T U) : ms_sub S U := fun i q => k i (h i q)
theorem ms_sub_0 (S : Nat) : ms_sub 0 S := fun i h => by rw [Nat.zero_testBit] at h; cases h
theorem ms_sub_ins (S e : Nat) : ms_sub S (S ||| 2 ^ e) := fun i h => by rw [ms_ins_bit, h, Bool.true_or]
theorem ms_sub_orl (S T : Nat) : ms_sub S (S ||| T) := fun i h => by rw [Nat.testBit_or, h, Bool.true_or]
theorem ms_sub_orr (S T : Nat) : ms_sub T (S ||| T) := fun i h => by rw [Nat.testBit_or, h, Bool.or_true]
theorem ms_sub_andl (S T : Nat) : ms_sub (S &&& T) S := fun i h => by
  rw [Nat.testBit_and, Bool.and_eq_true] at h
  exact h.1
theorem ms_sub_andr (S T : Nat) : ms_sub (S &&& T) T := fun i h => by
  rw [Nat.testBit_and, Bool.and_eq_true] at h
  exact h.2
theorem ms_sub_sd (S T : Nat) : ms_sub (ms_sd S T) S := fun i h => by
  rw [ms_sd_bit, Bool.and_eq_true] at h
  exact h.1
theorem ms_sub_lt {S T n : Nat} (h : ms_sub S T) (hT : T < 2 ^ n) : S < 2 ^ n := ms_lt fun i q => ms_bit_lt hT (h i q)
theorem ms_sub_eq {S T : Nat} (h : ms_sub S T) (k : ms_sub T S) : S = T := by
  apply Nat.eq_of_testBit_eq
  intro i
  cases hs : S.testBit i
  · cases ht : T.testBit i
    · rfl
    · rw [k i ht] at hs
      cases hs
  · exact (h i hs).symm
theorem ms_sub_or {S T : Nat} (h : ms_sub S T) : S ||| T = T := by
  apply Nat.eq_of_testBit_eq
  intro i
  rw [Nat.testBit_or]
  cases hs : S.testBit i
  · rfl
  · rw [h i hs]
    rfl
theorem ms_sub_ins2 {S T : Nat} (h : ms_sub S T) (e : Nat) : ms_sub (S ||| 2 ^ e) (T ||| 2 ^ e) := fun i q => by
  rw [ms_ins_bit, Bool.or_eq_true] at q ⊢
  exact q.imp (h i) id
theorem ms_sub_or2 {S T X : Nat} (h : ms_sub S T) : ms_sub (S ||| X) (T ||| X) := fun i q => by
  rw [Nat.testBit_or, Bool.or_eq_true] at q ⊢
  exact q.imp (h i) id
theorem ms_ins_in {S e : Nat} (h : S.testBit e = true) : S ||| 2 ^ e = S := by
  apply Nat.eq_of_testBit_eq
  intro i
  rw [ms_ins_bit]
  by_cases q : e = i
  · subst q
    rw [h, Bool.true_or]
  · rw [decide_eq_false q, Bool.or_false]
theorem ms_del_ins {S e : Nat} (h : S.testBit e = true) : ms_sd S (2 ^ e) ||| 2 ^ e = S := by
  apply Nat.eq_of_testBit_eq
  intro i
  rw [ms_ins_bit, ms_sd_bit, Nat.testBit_two_pow]
  by_cases q : e = i
  · subst q
    rw [h]
    simp
  · simp [q]
theorem ms_del_bit (S e : Nat) : (ms_sd S (2 ^ e)).testBit e = false := by
  rw [ms_sd_bit, Nat.testBit_two_pow]
  simp
theorem ms_or_r (a b c : Nat) : a ||| b ||| c = a ||| c ||| b := by
  rw [Nat.or_assoc, Nat.or_comm b c, ← Nat.or_assoc]
/-- how many of the numbers below n are in -/
def ms_card : Nat → Nat → Nat
  | 0, _ => 0
  | n + 1, S => ms_card n S + (S.testBit n).toNat
theorem ms_card_congr {n S T : Nat} (h : ∀ i, i < n → S.testBit i = T.testBit i) : ms_card n S = ms_card n T := by
  induction n with
  | zero => rfl
  | succ n ih =>
    simp only [ms_card]
    rw [ih (fun i hi => h i (by omega)), h n (by omega)]
theorem ms_card_ins {n S e : Nat} (he : e < n) (h : S.testBit e = false) : ms_card n (S ||| 2 ^ e) = ms_card n S + 1 := by
  induction n with
  | zero => omega
  | succ n ih =>
    simp only [ms_card]
    rcases Nat.lt_or_ge e n with q | q
    · rw [ih q, ms_ins_bit, decide_eq_false (by omega), Bool.or_false]
      omega
    · have hen : e = n := by omega
      subst hen
      rw [ms_card_congr (T := S) (fun i hi => by rw [ms_ins_bit, decide_eq_false (by omega), Bool.or_false]), ms_ins_bit, decide_eq_true rfl, Bool.or_true, h]
      rfl
theorem ms_card_0 (n : Nat) : ms_card n 0 = 0 := by
  induction n with
  | zero => rfl
  | succ n ih =>
    simp only [ms_card]
    rw [ih, Nat.zero_testBit]
    rfl
theorem ms_card_up {n S : Nat} (h : S < 2 ^ n) : ms_card (n + 1) S = ms_card n S := by
  simp only [ms_card]
  rw [ms_bit_ge h (Nat.le_refl n)]
  rfl
theorem ms_card_ge {n k S : Nat} (h : S < 2 ^ n) (hk : n ≤ k) : ms_card k S = ms_card n S := by
  induction k with
  | zero =>
    have : n = 0 := by omega
    subst this
    rfl
  | succ k ih =>
    rcases Nat.lt_or_ge n (k + 1) with q | q
    · rw [ms_card_up (ms_up h (by omega)), ih (by omega)]
    · have : n = k + 1 := by omega
      subst this
      rfl
theorem ms_card_mono {n S T : Nat} (h : ms_sub S T) : ms_card n S ≤ ms_card n T := by
  induction n with
  | zero => exact Nat.le_refl _
  | succ n ih =>
    simp only [ms_card]
    cases hs : S.testBit n
    · simp only [Bool.toNat_false]
      omega
    · rw [h n hs]
      omega
theorem ms_card_le (n S : Nat) : ms_card n S ≤ n := by
  induction n with
  | zero => exact Nat.le_refl _
  | succ n ih =>
    simp only [ms_card]
    have : (S.testBit n).toNat ≤ 1 := Bool.toNat_le _
    omega
theorem ms_card_del {n S e : Nat} (he : e < n) (h : S.testBit e = true) : ms_card n S = ms_card n (ms_sd S (2 ^ e)) + 1 := by
  have := ms_card_ins (S := ms_sd S (2 ^ e)) he (ms_del_bit S e)
  rw [ms_del_ins h] at this
  exact this
theorem ms_card_pos {n S : Nat} (hS : S < 2 ^ n) (h : ms_card n S = 0) : S = 0 := by
  apply ms_sub_eq _ (ms_sub_0 S)
  intro i hi
  have := ms_card_del (ms_bit_lt hS hi) hi
  omega
theorem ms_card_eq {n S T : Nat} (hT : T < 2 ^ n) (h : ms_sub S T) (hc : ms_card n T ≤ ms_card n S) : S = T := by
  apply ms_sub_eq h
  intro i hi
  cases hs : S.testBit i
  · have h1 := ms_card_del (ms_bit_lt hT hi) hi
    have h2 : ms_card n S ≤ ms_card n (ms_sd T (2 ^ i)) := ms_card_mono fun j hj => by
      rw [ms_sd_bit, Nat.testBit_two_pow, h j hj]
      have : ¬ i = j := fun q => by rw [q, hj] at hs; cases hs
      simp [this]
    omega
  · rfl
/-! matroids by their ranks -/
def mt_ok (n : Nat) (r : Nat → Nat) : Prop := r 0 = 0 ∧ (∀ S e, S < 2 ^ n → e < n → r (S ||| 2 ^ e) = r S ∨ r (S ||| 2 ^ e) = r S + 1) ∧ (∀ S T e, T < 2 ^ n → e < n → ms_sub S T → r (S ||| 2 ^ e) = r S → r (T ||| 2 ^ e) = r T)
/-- from S to S with X, one at a time -/
theorem mt_grow {P : Nat → Prop} {S X n : Nat} (hX : X < 2 ^ n) (h0 : P S) (hs : ∀ Y e, e < n → X.testBit e = true → ms_sub S Y → ms_sub Y (S ||| X) → (Y.testBit e = S.testBit e) → P Y → P (Y ||| 2 ^ e)) : P (S ||| X) := by
  have key : ∀ j, j ≤ n → P (S ||| X % 2 ^ j) := by
    intro j
    induction j with
    | zero =>
      intro _
      rw [Nat.pow_zero, Nat.mod_one, Nat.or_zero]
      exact h0
    | succ j ih =>
      intro hj
      cases hb : X.testBit j
      · rw [ms_lo_out hb]
        exact ih (by omega)
      · rw [ms_lo_in hb, ← Nat.or_assoc]
        refine hs _ j (by omega) hb (ms_sub_orl _ _) (fun i hi => ?_) ?_ (ih (by omega))
        · rw [Nat.testBit_or, Nat.testBit_mod_two_pow] at hi
          rw [Nat.testBit_or]
          cases h1 : S.testBit i
          · rw [h1] at hi
            simp at hi
            rw [hi.2]
            rfl
          · rfl
        · rw [Nat.testBit_or, Nat.testBit_mod_two_pow]
          simp
  have := key n (Nat.le_refl n)
  rw [Nat.mod_eq_of_lt hX] at this
  exact this
theorem mt_mono {n : Nat} {r : Nat → Nat} (h : mt_ok n r) {S T : Nat} (hT : T < 2 ^ n) (hs : ms_sub S T) : r S ≤ r T := by
  have := mt_grow (P := fun Y => r S ≤ r Y) hT (Nat.le_refl (r S)) (fun Y e he hb h1 h2 h3 hp => by
    have hY : Y < 2 ^ n := ms_sub_lt h2 (by rw [ms_sub_or hs]; exact hT)
    have := h.2.1 Y e hY he
    omega)
  rw [ms_sub_or hs] at this
  exact this
theorem mt_card {n : Nat} {r : Nat → Nat} (h : mt_ok n r) {S : Nat} (hS : S < 2 ^ n) : r S ≤ ms_card n S := by
  have := mt_grow (P := fun Y => r Y ≤ ms_card n Y) (S := 0) hS (by rw [h.1]; exact Nat.zero_le _) (fun Y e he hb h1 h2 h3 hp => by
    rw [Nat.zero_or] at h2
    rw [Nat.zero_testBit] at h3
    have := h.2.1 Y e (ms_sub_lt h2 hS) he
    rw [ms_card_ins he h3]
    omega)
  rw [Nat.zero_or] at this
  exact this
theorem mt_diff {n : Nat} {r : Nat → Nat} (h : mt_ok n r) {A B X : Nat} (hB : B < 2 ^ n) (hX : X < 2 ^ n) (hs : ms_sub A B) : r (B ||| X) + r A ≤ r (A ||| X) + r B := by
  have key : ∀ j, j ≤ n → r (B ||| X % 2 ^ j) + r A ≤ r (A ||| X % 2 ^ j) + r B := by
    intro j
    induction j with
    | zero =>
      intro _
      rw [Nat.pow_zero, Nat.mod_one, Nat.or_zero, Nat.or_zero]
      omega
    | succ j ih =>
      intro hj
      cases hb : X.testBit j
      · rw [ms_lo_out hb]
        exact ih (by omega)
      · rw [ms_lo_in hb, ← Nat.or_assoc, ← Nat.or_assoc]
        have hlo : X % 2 ^ j < 2 ^ n := Nat.lt_of_le_of_lt (Nat.mod_le _ _) hX
        have hBl : B ||| X % 2 ^ j < 2 ^ n := Nat.or_lt_two_pow hB hlo
        have hAl : A ||| X % 2 ^ j < 2 ^ n := Nat.or_lt_two_pow (ms_sub_lt hs hB) hlo
        have h1 := h.2.1 _ j hBl (by omega)
        have h2 := h.2.1 _ j hAl (by omega)
        have h3 := h.2.2 (A ||| X % 2 ^ j) (B ||| X % 2 ^ j) j hBl (by omega) (ms_sub_or2 hs)
        have := ih (by omega)
        omega
  have := key n (Nat.le_refl n)
  rw [Nat.mod_eq_of_lt hX] at this
  exact this
theorem mt_submod {n : Nat} {r : Nat → Nat} (h : mt_ok n r) {P Q : Nat} (hP : P < 2 ^ n) (hQ : Q < 2 ^ n) : r (P ||| Q) + r (P &&& Q) ≤ r P + r Q := by
  have := mt_diff h (A := P &&& Q) (B := Q) (X := P) hQ hP (ms_sub_andr P Q)
  rw [ms_sub_or (ms_sub_andl P Q), Nat.or_comm Q P] at this
  exact this
theorem mt_less {n : Nat} {r : Nat → Nat} (h : mt_ok (n + 1) r) : mt_ok n r :=
  ⟨h.1, fun S e hS he => h.2.1 S e (ms_up hS (by omega)) (by omega), fun S T e hT he => h.2.2 S T e (ms_up hT (by omega)) (by omega)⟩
theorem mt_contr {n : Nat} {r : Nat → Nat} (h : mt_ok (n + 1) r) : mt_ok n (fun S => r (S ||| 2 ^ n) - r (2 ^ n)) := by
  have hN : 2 ^ n < 2 ^ (n + 1) := ms_pow_lt (by omega)
  have hge : ∀ S, S < 2 ^ n → r (2 ^ n) ≤ r (S ||| 2 ^ n) := fun S hS => mt_mono h (ms_ins_lt (ms_up hS (by omega)) (by omega)) (ms_sub_orr S (2 ^ n))
  refine ⟨?_, fun S e hS he => ?_, fun S T e hT he hs hr => ?_⟩
  · show r (0 ||| 2 ^ n) - r (2 ^ n) = 0
    rw [Nat.zero_or]
    omega
  · show r (S ||| 2 ^ e ||| 2 ^ n) - r (2 ^ n) = r (S ||| 2 ^ n) - r (2 ^ n) ∨ r (S ||| 2 ^ e ||| 2 ^ n) - r (2 ^ n) = r (S ||| 2 ^ n) - r (2 ^ n) + 1
    rw [ms_or_r S]
    have h1 := h.2.1 (S ||| 2 ^ n) e (ms_ins_lt (ms_up hS (by omega)) (by omega)) (by omega)
    have h2 := hge S hS
    omega
  · have hr : r (S ||| 2 ^ e ||| 2 ^ n) - r (2 ^ n) = r (S ||| 2 ^ n) - r (2 ^ n) := hr
    show r (T ||| 2 ^ e ||| 2 ^ n) - r (2 ^ n) = r (T ||| 2 ^ n) - r (2 ^ n)
    have hS := ms_sub_lt hs hT
    have h2 := hge S hS
    have h3 := hge _ (ms_ins_lt hS he)
    have h4 : r (S ||| 2 ^ n ||| 2 ^ e) = r (S ||| 2 ^ n) := by
      rw [ms_or_r S (2 ^ n)]
      omega
    rw [ms_or_r T, h.2.2 (S ||| 2 ^ n) (T ||| 2 ^ n) e (ms_ins_lt (ms_up hT (by omega)) (by omega)) (by omega) (ms_sub_ins2 hs n) h4]
theorem ms_full (n i : Nat) : (2 ^ n - 1).testBit i = decide (i < n) := Nat.testBit_two_pow_sub_one n i
theorem ms_full_lt (n : Nat) : 2 ^ n - 1 < 2 ^ n := by
  have := Nat.two_pow_pos n
  omega
set_option maxHeartbeats 1000000 in
/-- the largest set that is free by both, and what shows that there is no larger one -/
theorem mt_inter : ∀ (n : Nat) (a b : Nat → Nat), mt_ok n a → mt_ok n b → ∃ I U, I < 2 ^ n ∧ U < 2 ^ n ∧ a I = ms_card n I ∧ b I = ms_card n I ∧ a U + b (ms_sd (2 ^ n - 1) U) ≤ ms_card n I := by
  intro n
  induction n with
  | zero =>
    intro a b ha hb
    refine ⟨0, 0, by decide, by decide, ha.1, hb.1, ?_⟩
    have : ms_sd (2 ^ 0 - 1) 0 = 0 := rfl
    rw [this, ha.1, hb.1]
    exact Nat.le_refl _
  | succ n ih =>
    intro a b ha hb
    obtain ⟨I1, U1, hI1, hU1, a1, b1, k1⟩ := ih a b (mt_less ha) (mt_less hb)
    have hN : 2 ^ n < 2 ^ (n + 1) := ms_pow_lt (by omega)
    have cI1 := ms_card_up hI1
    have bU1 : ∀ i, U1.testBit i = true → i < n := fun i h => ms_bit_lt hU1 h
    have a0 := ha.2.1 0 n (Nat.two_pow_pos _) (by omega)
    have b0 := hb.2.1 0 n (Nat.two_pow_pos _) (by omega)
    rw [Nat.zero_or] at a0 b0
    rw [ha.1] at a0
    rw [hb.1] at b0
    by_cases za : a (2 ^ n) = 0
    · refine ⟨I1, U1 ||| 2 ^ n, ms_up hI1 (by omega), ms_ins_lt (ms_up hU1 (by omega)) (by omega), by rw [cI1]; exact a1, by rw [cI1]; exact b1, ?_⟩
      have e1 : ms_sd (2 ^ (n + 1) - 1) (U1 ||| 2 ^ n) = ms_sd (2 ^ n - 1) U1 := by
        apply Nat.eq_of_testBit_eq
        intro i
        have := bU1 i
        rw [ms_sd_bit, ms_sd_bit, ms_full, ms_full, ms_ins_bit]
        grind
      have e2 : a (U1 ||| 2 ^ n) = a U1 := ha.2.2 0 U1 n (ms_up hU1 (by omega)) (by omega) (ms_sub_0 U1) (by rw [Nat.zero_or, ha.1]; exact za)
      rw [e1, e2, cI1]
      exact k1
    · by_cases zb : b (2 ^ n) = 0
      · refine ⟨I1, U1, ms_up hI1 (by omega), ms_up hU1 (by omega), by rw [cI1]; exact a1, by rw [cI1]; exact b1, ?_⟩
        have e1 : ms_sd (2 ^ (n + 1) - 1) U1 = ms_sd (2 ^ n - 1) U1 ||| 2 ^ n := by
          apply Nat.eq_of_testBit_eq
          intro i
          have := bU1 i
          rw [ms_ins_bit, ms_sd_bit, ms_sd_bit, ms_full, ms_full]
          grind
        have e2 : b (ms_sd (2 ^ n - 1) U1 ||| 2 ^ n) = b (ms_sd (2 ^ n - 1) U1) := hb.2.2 0 _ n (ms_up (ms_sd_lt (ms_full_lt n)) (by omega)) (by omega) (ms_sub_0 _) (by rw [Nat.zero_or, hb.1]; exact zb)
        rw [e1, e2, cI1]
        exact k1
      · obtain ⟨I2, U2, hI2, hU2, a2, b2, k2⟩ := ih _ _ (mt_contr ha) (mt_contr hb)
        have a2 : a (I2 ||| 2 ^ n) - a (2 ^ n) = ms_card n I2 := a2
        have b2 : b (I2 ||| 2 ^ n) - b (2 ^ n) = ms_card n I2 := b2
        have k2 : a (U2 ||| 2 ^ n) - a (2 ^ n) + (b (ms_sd (2 ^ n - 1) U2 ||| 2 ^ n) - b (2 ^ n)) ≤ ms_card n I2 := k2
        have bU2 : ∀ i, U2.testBit i = true → i < n := fun i h => ms_bit_lt hU2 h
        have hF1 : ms_sd (2 ^ n - 1) U1 < 2 ^ (n + 1) := ms_up (ms_sd_lt (ms_full_lt n)) (by omega)
        have hF2 : ms_sd (2 ^ n - 1) U2 < 2 ^ (n + 1) := ms_up (ms_sd_lt (ms_full_lt n)) (by omega)
        have hF2' := ms_ins_lt hF2 (Nat.lt_succ_self n)
        have hU1' : U1 < 2 ^ (n + 1) := ms_up hU1 (by omega)
        have hU2' : U2 ||| 2 ^ n < 2 ^ (n + 1) := ms_ins_lt (ms_up hU2 (by omega)) (by omega)
        have s1 := mt_submod ha hU1' hU2'
        have s2 := mt_submod hb hF1 hF2'
        have g1 : a (2 ^ n) ≤ a (I2 ||| 2 ^ n) := mt_mono ha (ms_ins_lt (ms_up hI2 (by omega)) (by omega)) (ms_sub_orr _ _)
        have g2 : b (2 ^ n) ≤ b (I2 ||| 2 ^ n) := mt_mono hb (ms_ins_lt (ms_up hI2 (by omega)) (by omega)) (ms_sub_orr _ _)
        have g3 : a (2 ^ n) ≤ a (U2 ||| 2 ^ n) := mt_mono ha hU2' (ms_sub_orr _ _)
        have g4 : b (2 ^ n) ≤ b (ms_sd (2 ^ n - 1) U2 ||| 2 ^ n) := mt_mono hb hF2' (ms_sub_orr _ _)
        have e1 : U1 &&& (U2 ||| 2 ^ n) = U1 &&& U2 := by
          apply Nat.eq_of_testBit_eq
          intro i
          have := bU1 i
          rw [Nat.testBit_and, Nat.testBit_and, ms_ins_bit]
          grind
        have e2 : ms_sd (2 ^ n - 1) U1 ||| (ms_sd (2 ^ n - 1) U2 ||| 2 ^ n) = ms_sd (2 ^ (n + 1) - 1) (U1 &&& U2) := by
          apply Nat.eq_of_testBit_eq
          intro i
          have := bU1 i
          have := bU2 i
          rw [Nat.testBit_or, ms_ins_bit, ms_sd_bit, ms_sd_bit, ms_sd_bit, Nat.testBit_and, ms_full, ms_full]
          grind
        have e3 : ms_sd (2 ^ n - 1) U1 &&& (ms_sd (2 ^ n - 1) U2 ||| 2 ^ n) = ms_sd (2 ^ (n + 1) - 1) (U1 ||| (U2 ||| 2 ^ n)) := by
          apply Nat.eq_of_testBit_eq
          intro i
          have := bU1 i
          have := bU2 i
          rw [Nat.testBit_and, ms_ins_bit, ms_sd_bit, ms_sd_bit, ms_sd_bit, Nat.testBit_or, ms_ins_bit, ms_full, ms_full]
          grind
        rw [e1] at s1
        rw [e2, e3] at s2
        have cI2 : ms_card (n + 1) (I2 ||| 2 ^ n) = ms_card n I2 + 1 := by
          rw [ms_card_ins (Nat.lt_succ_self n) (ms_bit_ge hI2 (Nat.le_refl n)), ms_card_up hI2]
        have hP : U1 &&& U2 < 2 ^ (n + 1) := ms_sub_lt (ms_sub_andl U1 U2) hU1'
        have hQ : U1 ||| (U2 ||| 2 ^ n) < 2 ^ (n + 1) := Nat.or_lt_two_pow hU1' hU2'
        have fin : ∀ I, I < 2 ^ (n + 1) → a I = ms_card (n + 1) I → b I = ms_card (n + 1) I → ms_card n I1 ≤ ms_card (n + 1) I → ms_card n I2 + 1 ≤ ms_card (n + 1) I → ∃ I U, I < 2 ^ (n + 1) ∧ U < 2 ^ (n + 1) ∧ a I = ms_card (n + 1) I ∧ b I = ms_card (n + 1) I ∧ a U + b (ms_sd (2 ^ (n + 1) - 1) U) ≤ ms_card (n + 1) I := by
          intro I hI h1 h2 h3 h4
          by_cases q : a (U1 &&& U2) + b (ms_sd (2 ^ (n + 1) - 1) (U1 &&& U2)) ≤ ms_card (n + 1) I
          · exact ⟨I, _, hI, hP, h1, h2, q⟩
          · exact ⟨I, _, hI, hQ, h1, h2, by omega⟩
        rcases Nat.lt_or_ge (ms_card n I2) (ms_card n I1) with q | q
        · exact fin I1 (ms_up hI1 (by omega)) (by rw [cI1]; exact a1) (by rw [cI1]; exact b1) (by rw [cI1]; exact Nat.le_refl _) (by rw [cI1]; exact q)
        · exact fin (I2 ||| 2 ^ n) (ms_ins_lt (ms_up hI2 (by omega)) (by omega)) (by rw [cI2]; omega) (by rw [cI2]; omega) (by rw [cI2]; omega) (by rw [cI2]; omega)
end
section
/-! sums below a number, sets by a property, weights -/
def ms_sum (f : Nat → Nat) : Nat → Nat
  | 0 => 0
  | n + 1 => ms_sum f n + f n
theorem ms_sum_congr {f g : Nat → Nat} {n : Nat} (h : ∀ j, j < n → f j = g j) : ms_sum f n = ms_sum g n := by
  induction n with
  | zero => rfl
  | succ n ih =>
    simp only [ms_sum]
    rw [ih (fun j hj => h j (by omega)), h n (by omega)]
theorem ms_sum_le {f g : Nat → Nat} {n : Nat} (h : ∀ j, j < n → f j ≤ g j) : ms_sum f n ≤ ms_sum g n := by
  induction n with
  | zero => exact Nat.le_refl _
  | succ n ih =>
    simp only [ms_sum]
    have h1 := ih (fun j hj => h j (by omega))
    have h2 := h n (by omega)
    omega
theorem ms_sum_add (f g : Nat → Nat) (n : Nat) : ms_sum (fun j => f j + g j) n = ms_sum f n + ms_sum g n := by
  induction n with
  | zero => rfl
  | succ n ih =>
    simp only [ms_sum]
    rw [ih]
    omega
/-- two sums that differ at one place -/
theorem ms_sum_one {f g : Nat → Nat} {n k : Nat} (hk : k < n) (h : ∀ j, j < n → j ≠ k → f j = g j) : ms_sum f n + g k = ms_sum g n + f k := by
  induction n with
  | zero => omega
  | succ n ih =>
    simp only [ms_sum]
    rcases Nat.lt_or_ge k n with q | q
    · have h1 := ih q (fun j hj hne => h j (by omega) hne)
      have h2 := h n (by omega) (by omega)
      omega
    · have : k = n := by omega
      subst this
      have h1 := ms_sum_congr (f := f) (g := g) (n := k) (fun j hj => h j (by omega) (by omega))
      omega
theorem ms_sum_sub {f g : Nat → Nat} {n : Nat} (h : ∀ j, j < n → g j ≤ f j) : ms_sum (fun j => f j - g j) n + ms_sum g n = ms_sum f n := by
  induction n with
  | zero => rfl
  | succ n ih =>
    simp only [ms_sum]
    have h1 := ih (fun j hj => h j (by omega))
    have h2 := h n (by omega)
    omega
/-- the set of those below n that a test takes -/
def ms_mk : Nat → (Nat → Bool) → Nat
  | 0, _ => 0
  | n + 1, p => ms_mk n p ||| (if p n = true then 2 ^ n else 0)
theorem ms_mk_bit (n : Nat) (p : Nat → Bool) (i : Nat) : (ms_mk n p).testBit i = (decide (i < n) && p i) := by
  induction n with
  | zero =>
    simp [ms_mk]
  | succ n ih =>
    simp only [ms_mk]
    rw [Nat.testBit_or, ih]
    by_cases hp : p n = true
    · rw [if_pos hp, Nat.testBit_two_pow]
      by_cases hi : n = i
      · subst hi
        simp [hp]
      · have : decide (i < n + 1) = decide (i < n) := decide_eq_decide.mpr (by omega)
        rw [this, decide_eq_false hi, Bool.or_false]
    · rw [if_neg hp, Nat.zero_testBit, Bool.or_false]
      by_cases hi : n = i
      · subst hi
        simp at hp
        simp [hp]
      · have : decide (i < n + 1) = decide (i < n) := decide_eq_decide.mpr (by omega)
        rw [this]
theorem ms_mk_lt (n : Nat) (p : Nat → Bool) : ms_mk n p < 2 ^ n := ms_lt fun i h => by
  rw [ms_mk_bit, Bool.and_eq_true] at h
  exact of_decide_eq_true h.1
/-- the weight of a set -/
def ms_w (u : Nat → Nat) : Nat → Nat → Nat
  | 0, _ => 0
  | n + 1, S => ms_w u n S + (if S.testBit n = true then u n else 0)
theorem ms_w_add (u v : Nat → Nat) (n S : Nat) : ms_w (fun e => u e + v e) n S = ms_w u n S + ms_w v n S := by
  induction n with
  | zero => rfl
  | succ n ih =>
    simp only [ms_w]
    rw [ih]
    split <;> omega
theorem ms_w_congr {u v : Nat → Nat} {n : Nat} (S : Nat) (h : ∀ e, e < n → u e = v e) : ms_w u n S = ms_w v n S := by
  induction n with
  | zero => rfl
  | succ n ih =>
    simp only [ms_w]
    rw [ih (fun e he => h e (by omega)), h n (by omega)]
theorem ms_w_const (c n S : Nat) : ms_w (fun _ => c) n S = c * ms_card n S := by
  induction n with
  | zero => rfl
  | succ n ih =>
    simp only [ms_w, ms_card]
    rw [ih, Nat.mul_add]
    cases S.testBit n <;> simp
/-- those whose weight is at least m -/
def ms_ge (n : Nat) (u : Nat → Nat) (m : Nat) : Nat := ms_mk n (fun e => decide (m ≤ u e))
theorem ms_ge_bit (n : Nat) (u : Nat → Nat) (m i : Nat) : (ms_ge n u m).testBit i = (decide (i < n) && decide (m ≤ u i)) := ms_mk_bit n _ i
theorem ms_ge_lt (n : Nat) (u : Nat → Nat) (m : Nat) : ms_ge n u m < 2 ^ n := ms_mk_lt n _
theorem ms_ge_sub {n : Nat} {u : Nat → Nat} {m k : Nat} (h : m ≤ k) : ms_sub (ms_ge n u k) (ms_ge n u m) := fun i q => by
  rw [ms_ge_bit, Bool.and_eq_true, decide_eq_true_eq, decide_eq_true_eq] at q ⊢
  exact ⟨q.1, by omega⟩
theorem ms_ge_none {n : Nat} {u : Nat → Nat} {m : Nat} (h : ∀ e, e < n → u e < m) : ms_ge n u m = 0 := by
  apply Nat.eq_of_testBit_eq
  intro i
  rw [ms_ge_bit, Nat.zero_testBit]
  by_cases hi : i < n
  · have := h i hi
    rw [decide_eq_false (show ¬ m ≤ u i by omega), Bool.and_false]
  · rw [decide_eq_false hi, Bool.false_and]
theorem ms_ge_0 (n : Nat) (u : Nat → Nat) : ms_ge n u 0 = 2 ^ n - 1 := by
  apply Nat.eq_of_testBit_eq
  intro i
  rw [ms_ge_bit, ms_full]
  simp
theorem ms_steps (b x : Nat) (h : x ≤ b) : ms_sum (fun j => (decide (j + 1 ≤ x)).toNat) b = x := by
  have key : ∀ m, ms_sum (fun j => (decide (j + 1 ≤ x)).toNat) m = min m x := by
    intro m
    induction m with
    | zero => simp [ms_sum]
    | succ m ih =>
      simp only [ms_sum]
      rw [ih]
      by_cases q : m + 1 ≤ x
      · rw [decide_eq_true q]
        simp only [Bool.toNat_true]
        omega
      · rw [decide_eq_false q]
        simp only [Bool.toNat_false]
        omega
  rw [key b]
  omega
/-- a weight is a sum over levels -/
theorem ms_w_levels {N : Nat} {u : Nat → Nat} {b : Nat} (h : ∀ e, e < N → u e ≤ b) (A : Nat) : ms_w u N A = ms_sum (fun j => ms_card N (A &&& ms_ge N u (j + 1))) b := by
  have key : ∀ n, n ≤ N → ms_w u n A = ms_sum (fun j => ms_card n (A &&& ms_ge N u (j + 1))) b := by
    intro n
    induction n with
    | zero =>
      intro _
      show 0 = ms_sum (fun j => 0) b
      have : ∀ m, ms_sum (fun _ => 0) m = 0 := by
        intro m
        induction m with
        | zero => rfl
        | succ m ih => simp only [ms_sum]; omega
      rw [this]
    | succ n ih =>
      intro hn
      simp only [ms_w, ms_card]
      rw [ms_sum_add, ih (by omega)]
      congr 1
      cases hb : A.testBit n
      · rw [if_neg (by decide)]
        rw [ms_sum_congr (g := fun _ => 0) (fun j _ => by rw [Nat.testBit_and, hb]; rfl)]
        have : ∀ m, ms_sum (fun _ => 0) m = 0 := by
          intro m
          induction m with
          | zero => rfl
          | succ m ih => simp only [ms_sum]; omega
        rw [this]
      · rw [if_pos rfl]
        rw [ms_sum_congr (g := fun j => (decide (j + 1 ≤ u n)).toNat) (fun j _ => by rw [Nat.testBit_and, hb, ms_ge_bit, decide_eq_true (show n < N by omega), Bool.true_and, Bool.true_and])]
        exact (ms_steps b (u n) (h n (by omega))).symm
  exact key N (Nat.le_refl N)
theorem mt_trunc {n : Nat} {r : Nat → Nat} (h : mt_ok n r) (k : Nat) : mt_ok n (fun S => min (r S) k) := by
  refine ⟨?_, fun S e hS he => ?_, fun S T e hT he hs hr => ?_⟩
  · show min (r 0) k = 0
    rw [h.1]
    omega
  · show min (r (S ||| 2 ^ e)) k = min (r S) k ∨ min (r (S ||| 2 ^ e)) k = min (r S) k + 1
    have := h.2.1 S e hS he
    omega
  · have hr : min (r (S ||| 2 ^ e)) k = min (r S) k := hr
    show min (r (T ||| 2 ^ e)) k = min (r T) k
    have hS := ms_sub_lt hs hT
    rcases h.2.1 S e hS he with q | q
    · rw [h.2.2 S T e hT he hs q]
    · have h1 := mt_mono h hT hs
      have h2 := h.2.1 T e hT he
      omega
theorem mt_card_diff {n : Nat} {r : Nat → Nat} (h : mt_ok n r) {A X : Nat} (hX : X < 2 ^ n) (hs : ms_sub A X) : r X + ms_card n A ≤ r A + ms_card n X := by
  have := mt_grow (P := fun Y => r Y + ms_card n A ≤ r A + ms_card n Y) (S := A) hX (Nat.le_refl _) (fun Y e he hb h1 h2 h3 hp => by
    have hY : Y < 2 ^ n := ms_sub_lt h2 (by rw [ms_sub_or hs]; exact hX)
    cases hy : Y.testBit e
    · have := h.2.1 Y e hY he
      rw [ms_card_ins he hy]
      omega
    · rw [ms_ins_in hy]
      exact hp)
  rw [ms_sub_or hs] at this
  exact this
/-! a weight's levels, one of them raised on a set -/
def mt_lv (n : Nat) (u : Nat → Nat) (S j : Nat) : Nat := ms_ge n u (j + 1) ||| (S &&& ms_ge n u j)
def mt_F (n : Nat) (q : Nat → Nat) (u : Nat → Nat) (b S : Nat) : Nat := ms_sum (fun j => q (mt_lv n u S j)) b
def mt_Phi (n : Nat) (q : Nat → Nat) (u : Nat → Nat) (b : Nat) : Nat := ms_sum (fun j => q (ms_ge n u (j + 1))) b
def mt_rho (n : Nat) (q : Nat → Nat) (u : Nat → Nat) (b S : Nat) : Nat := mt_F n q u b S - mt_F n q u b 0
theorem mt_lv_bit (n : Nat) (u : Nat → Nat) (S j i : Nat) : (mt_lv n u S j).testBit i = (decide (i < n) && (decide (j + 1 ≤ u i) || (S.testBit i && decide (j ≤ u i)))) := by
  unfold mt_lv
  rw [Nat.testBit_or, Nat.testBit_and, ms_ge_bit, ms_ge_bit]
  cases decide (i < n) <;> cases decide (j + 1 ≤ u i) <;> cases S.testBit i <;> cases decide (j ≤ u i) <;> rfl
theorem mt_lv_lt (n : Nat) (u : Nat → Nat) (S j : Nat) : mt_lv n u S j < 2 ^ n := ms_lt fun i h => by
  rw [mt_lv_bit, Bool.and_eq_true] at h
  exact of_decide_eq_true h.1
theorem mt_lv_0 (n : Nat) (u : Nat → Nat) (j : Nat) : mt_lv n u 0 j = ms_ge n u (j + 1) := by
  unfold mt_lv
  rw [Nat.zero_and, Nat.or_zero]
theorem mt_lv_sub {n : Nat} {u : Nat → Nat} {S T : Nat} (h : ms_sub S T) (j : Nat) : ms_sub (mt_lv n u S j) (mt_lv n u T j) := fun i q => by
  rw [mt_lv_bit] at q ⊢
  have := h i
  grind
theorem mt_lv_same {n : Nat} {u : Nat → Nat} {S e j : Nat} (h : j ≠ u e) : mt_lv n u (S ||| 2 ^ e) j = mt_lv n u S j := by
  apply Nat.eq_of_testBit_eq
  intro i
  rw [mt_lv_bit, mt_lv_bit, ms_ins_bit]
  by_cases hi : e = i
  · subst hi
    by_cases h1 : j + 1 ≤ u e
    · rw [decide_eq_true h1]
      simp
    · rw [decide_eq_false h1, decide_eq_false (show ¬ j ≤ u e by omega)]
      simp
  · rw [decide_eq_false hi, Bool.or_false]
theorem mt_lv_new {n : Nat} {u : Nat → Nat} {S e : Nat} (he : e < n) : mt_lv n u (S ||| 2 ^ e) (u e) = mt_lv n u S (u e) ||| 2 ^ e := by
  apply Nat.eq_of_testBit_eq
  intro i
  rw [ms_ins_bit, mt_lv_bit, mt_lv_bit, ms_ins_bit]
  by_cases hi : e = i
  · subst hi
    rw [decide_eq_true he]
    simp
  · rw [decide_eq_false hi, Bool.or_false, Bool.or_false]
theorem mt_F_le {n : Nat} {q : Nat → Nat} (h : mt_ok n q) (u : Nat → Nat) (b : Nat) {S T : Nat} (hs : ms_sub S T) : mt_F n q u b S ≤ mt_F n q u b T :=
  ms_sum_le fun j _ => mt_mono h (mt_lv_lt n u T j) (mt_lv_sub hs j)
theorem mt_rho_ok {n : Nat} {q : Nat → Nat} (h : mt_ok n q) {u : Nat → Nat} {b : Nat} (hb : ∀ e, e < n → u e < b) : mt_ok n (mt_rho n q u b) := by
  have one : ∀ S e, e < n → mt_F n q u b (S ||| 2 ^ e) + q (mt_lv n u S (u e)) = mt_F n q u b S + q (mt_lv n u S (u e) ||| 2 ^ e) := by
    intro S e he
    have := ms_sum_one (f := fun j => q (mt_lv n u (S ||| 2 ^ e) j)) (g := fun j => q (mt_lv n u S j)) (hb e he) (fun j _ hj => by
      show q (mt_lv n u (S ||| 2 ^ e) j) = q (mt_lv n u S j)
      rw [mt_lv_same hj])
    rw [mt_lv_new he] at this
    exact this
  have low : ∀ S, mt_F n q u b 0 ≤ mt_F n q u b S := fun S => mt_F_le h u b (ms_sub_0 S)
  refine ⟨Nat.sub_self _, fun S e hS he => ?_, fun S T e hT he hs hr => ?_⟩
  · have h1 := one S e he
    have h2 := h.2.1 (mt_lv n u S (u e)) e (mt_lv_lt n u S (u e)) he
    have h3 := low S
    have h4 := low (S ||| 2 ^ e)
    unfold mt_rho
    omega
  · have h1 := one S e he
    have h2 := one T e he
    have h3 := low S
    have h4 := low (S ||| 2 ^ e)
    have h5 := low T
    unfold mt_rho at hr ⊢
    have h6 := h.2.2 (mt_lv n u S (u e)) (mt_lv n u T (u e)) e (mt_lv_lt n u T (u e)) he (mt_lv_sub hs _) (by omega)
    omega
theorem mt_F_0 (n : Nat) (q : Nat → Nat) (u : Nat → Nat) (b : Nat) : mt_F n q u b 0 = mt_Phi n q u b :=
  ms_sum_congr fun j _ => by rw [mt_lv_0]
/-- what a raised level adds, at least what it adds within I -/
theorem mt_step {n : Nat} {q : Nat → Nat} (h : mt_ok n q) (u : Nat → Nat) {I : Nat} (hI : I < 2 ^ n) (m : Nat) : (q (mt_lv n u I m) - q (ms_ge n u (m + 1))) + q (I &&& ms_ge n u (m + 1)) ≤ q (I &&& ms_ge n u m) := by
  have hlt : I &&& ms_ge n u m < 2 ^ n := ms_sub_lt (ms_sub_andl _ _) hI
  have h1 := mt_diff h (A := I &&& ms_ge n u (m + 1)) (B := ms_ge n u (m + 1)) (X := I &&& ms_ge n u m) (ms_ge_lt n u (m + 1)) hlt (ms_sub_andr _ _)
  have h2 : I &&& ms_ge n u (m + 1) ||| I &&& ms_ge n u m = I &&& ms_ge n u m := ms_sub_or fun i hi => by
    rw [Nat.testBit_and, Bool.and_eq_true] at hi ⊢
    exact ⟨hi.1, ms_ge_sub (Nat.le_succ m) i hi.2⟩
  rw [h2] at h1
  have h3 : q (I &&& ms_ge n u (m + 1)) ≤ q (I &&& ms_ge n u m) := mt_mono h hlt (by rw [← h2]; exact ms_sub_orl _ _)
  show (q (ms_ge n u (m + 1) ||| (I &&& ms_ge n u m)) - q (ms_ge n u (m + 1))) + q (I &&& ms_ge n u (m + 1)) ≤ q (I &&& ms_ge n u m)
  omega
theorem mt_rho_sum {n : Nat} {q : Nat → Nat} (h : mt_ok n q) (u : Nat → Nat) (b I : Nat) : mt_rho n q u b I = ms_sum (fun m => q (mt_lv n u I m) - q (ms_ge n u (m + 1))) b := by
  have h1 := ms_sum_sub (f := fun m => q (mt_lv n u I m)) (g := fun m => q (ms_ge n u (m + 1))) (n := b) (fun j _ => mt_mono h (mt_lv_lt n u I j) (ms_sub_orl _ _))
  have h2 := mt_F_0 n q u b
  unfold mt_rho
  rw [h2]
  unfold mt_Phi mt_F
  omega
/-- a set that is free by rho is free by q, and of the greatest weight -/
theorem mt_rho_rank {n : Nat} {q : Nat → Nat} (h : mt_ok n q) {u : Nat → Nat} {b : Nat} (hb : ∀ e, e < n → u e < b) {I : Nat} (hI : I < 2 ^ n) : mt_rho n q u b I ≤ q I := by
  have key : ∀ m, ms_sum (fun m => q (mt_lv n u I m) - q (ms_ge n u (m + 1))) m + q (I &&& ms_ge n u m) ≤ q I := by
    intro m
    induction m with
    | zero =>
      simp only [ms_sum]
      rw [Nat.zero_add]
      exact mt_mono h hI (ms_sub_andl _ _)
    | succ m ih =>
      simp only [ms_sum]
      have := mt_step h u hI m
      omega
  rw [mt_rho_sum h]
  have := key b
  omega
theorem mt_rho_all {n : Nat} {q : Nat → Nat} (h : mt_ok n q) (u : Nat → Nat) (I m : Nat) : ms_sum (fun m => q (mt_lv n u I m) - q (ms_ge n u (m + 1))) m + q (ms_ge n u m) ≤ q (2 ^ n - 1) := by
  induction m with
  | zero =>
    simp only [ms_sum]
    rw [ms_ge_0, Nat.zero_add]
    exact Nat.le_refl _
  | succ m ih =>
    simp only [ms_sum]
    have h1 : q (mt_lv n u I m) ≤ q (ms_ge n u m) := mt_mono h (ms_ge_lt n u m) fun i hi => by
      rw [mt_lv_bit] at hi
      rw [ms_ge_bit]
      grind
    have h2 : q (ms_ge n u (m + 1)) ≤ q (mt_lv n u I m) := mt_mono h (mt_lv_lt n u I m) (ms_sub_orl _ _)
    omega
theorem mt_rho_best {n : Nat} {q : Nat → Nat} (h : mt_ok n q) {u : Nat → Nat} {b : Nat} (hb : ∀ e, e < n → u e < b) {I : Nat} (hI : I < 2 ^ n) (hk : q (2 ^ n - 1) ≤ mt_rho n q u b I) : mt_Phi n q u b ≤ ms_w u n I := by
  have down : ∀ d m, m + d = b → ms_sum (fun m => q (mt_lv n u I m) - q (ms_ge n u (m + 1))) b ≤ ms_sum (fun m => q (mt_lv n u I m) - q (ms_ge n u (m + 1))) m + ms_card n (I &&& ms_ge n u m) := by
    intro d
    induction d with
    | zero =>
      intro m hm
      have : m = b := by omega
      subst this
      omega
    | succ d ih =>
      intro m hm
      have h1 := ih (m + 1) (by omega)
      have h2 := mt_step h u hI m
      have h3 : ms_sub (I &&& ms_ge n u (m + 1)) (I &&& ms_ge n u m) := fun i hi => by
        rw [Nat.testBit_and, Bool.and_eq_true] at hi ⊢
        exact ⟨hi.1, ms_ge_sub (Nat.le_succ m) i hi.2⟩
      have h4 := mt_card_diff h (ms_sub_lt (ms_sub_andl _ _) hI) h3
      simp only [ms_sum] at h1
      omega
  rw [mt_rho_sum h] at hk
  rw [ms_w_levels (fun e he => Nat.le_of_lt (hb e he)) I]
  refine ms_sum_le fun j hj => ?_
  have h1 := down (b - (j + 1)) (j + 1) (by omega)
  have h2 := mt_rho_all h u I (j + 1)
  omega
theorem mt_rho_le {n : Nat} {q : Nat → Nat} (h : mt_ok n q) (u : Nat → Nat) (b I : Nat) : mt_rho n q u b I ≤ q (2 ^ n - 1) := by
  rw [mt_rho_sum h]
  have := mt_rho_all h u I b
  omega
/-- the weight raised on U -/
theorem mt_raise {n : Nat} {q : Nat → Nat} (h : mt_ok n q) {u : Nat → Nat} {b : Nat} (hb : ∀ e, e < n → u e < b) (U : Nat) : mt_Phi n q (fun e => u e + (U.testBit e).toNat) (b + 1) = mt_Phi n q u b + mt_rho n q u b U := by
  have e1 : ∀ j, ms_ge n (fun e => u e + (U.testBit e).toNat) (j + 1) = mt_lv n u U j := by
    intro j
    apply Nat.eq_of_testBit_eq
    intro i
    rw [ms_ge_bit, mt_lv_bit]
    congr 1
    cases hu : U.testBit i
    · simp
    · by_cases h1 : j ≤ u i
      · simp [h1]
      · simp [h1]
        omega
  have e2 : mt_lv n u U b = 0 := by
    unfold mt_lv
    rw [ms_ge_none (fun e he => by have := hb e he; omega), ms_ge_none hb, Nat.and_zero, Nat.or_zero]
  have e3 : mt_Phi n q (fun e => u e + (U.testBit e).toNat) (b + 1) = mt_F n q u b U := by
    unfold mt_Phi
    simp only [ms_sum]
    rw [e1, e2, h.1, Nat.add_zero]
    exact ms_sum_congr fun j _ => by rw [e1]
  have e4 := mt_F_le h u b (ms_sub_0 U)
  rw [e3]
  have e5 := mt_F_0 n q u b
  unfold mt_rho
  omega
theorem mt_phi_up {n : Nat} {r : Nat → Nat} (h : mt_ok n r) {k : Nat} {u : Nat → Nat} {b : Nat} (hb : ∀ e, e < n → u e < b) {A : Nat} (hA : A < 2 ^ n) (fA : r A = ms_card n A) (cA : ms_card n A ≤ k) : ms_w u n A ≤ mt_Phi n (fun S => min (r S) k) u b := by
  rw [ms_w_levels (fun e he => Nat.le_of_lt (hb e he)) A]
  refine ms_sum_le fun j _ => ?_
  have h1 := mt_card_diff h hA (ms_sub_andl A (ms_ge n u (j + 1)))
  have h2 := mt_mono h (ms_ge_lt n u (j + 1)) (ms_sub_andr A (ms_ge n u (j + 1)))
  have h3 := ms_card_mono (n := n) (ms_sub_andl A (ms_ge n u (j + 1)))
  show ms_card n (A &&& ms_ge n u (j + 1)) ≤ min (r (ms_ge n u (j + 1))) k
  omega
theorem mt_phi_two {n : Nat} {r : Nat → Nat} (h : mt_ok n r) {k : Nat} {u : Nat → Nat} {b : Nat} (hb : ∀ e, e < n → u e < b) {A B : Nat} (hA : A < 2 ^ n) (hB : B < 2 ^ n) (fA : r A = ms_card n A) (fB : r B = ms_card n B) (cA : ms_card n A + 1 = k) (cB : ms_card n B = k + 1) :
    ms_w u n A + ms_w u n B ≤ 2 * mt_Phi n (fun S => min (r S) k) u b := by
  rw [ms_w_levels (fun e he => Nat.le_of_lt (hb e he)) A, ms_w_levels (fun e he => Nat.le_of_lt (hb e he)) B, ← ms_sum_add, Nat.two_mul]
  unfold mt_Phi
  rw [← ms_sum_add]
  refine ms_sum_le fun j _ => ?_
  have a1 := mt_card_diff h hA (ms_sub_andl A (ms_ge n u (j + 1)))
  have a2 := mt_mono h (ms_ge_lt n u (j + 1)) (ms_sub_andr A (ms_ge n u (j + 1)))
  have a3 := ms_card_mono (n := n) (ms_sub_andl A (ms_ge n u (j + 1)))
  have b1 := mt_card_diff h hB (ms_sub_andl B (ms_ge n u (j + 1)))
  have b2 := mt_mono h (ms_ge_lt n u (j + 1)) (ms_sub_andr B (ms_ge n u (j + 1)))
  have b3 := ms_card_mono (n := n) (ms_sub_andl B (ms_ge n u (j + 1)))
  show ms_card n (A &&& ms_ge n u (j + 1)) + ms_card n (B &&& ms_ge n u (j + 1)) ≤ min (r (ms_ge n u (j + 1))) k + min (r (ms_ge n u (j + 1))) k
  omega
set_option maxHeartbeats 1000000 in
/-- the greatest weights of common sets: no more is gained from k to k + 1 than from k - 1 to k -/
theorem mt_concave {n : Nat} {r1 r2 : Nat → Nat} (h1 : mt_ok n r1) (h2 : mt_ok n r2) {w : Nat → Nat} {k A B I0 : Nat} (hA : A < 2 ^ n) (hB : B < 2 ^ n) (hI0 : I0 < 2 ^ n)
    (fA1 : r1 A = ms_card n A) (fA2 : r2 A = ms_card n A) (fB1 : r1 B = ms_card n B) (fB2 : r2 B = ms_card n B) (f01 : r1 I0 = ms_card n I0) (f02 : r2 I0 = ms_card n I0) (cA : ms_card n A + 1 = k) (cB : ms_card n B = k + 1) (c0 : ms_card n I0 = k) :
    ∀ (d b : Nat) (w1 w2 : Nat → Nat) (c : Nat), (∀ e, e < n → w1 e < b) → (∀ e, e < n → w2 e < b) → (∀ e, e < n → w1 e + w2 e = w e + c) →
      mt_Phi n (fun S => min (r1 S) k) w1 b + mt_Phi n (fun S => min (r2 S) k) w2 b ≤ ms_w w n I0 + c * k + d →
      ∃ I, I < 2 ^ n ∧ r1 I = ms_card n I ∧ r2 I = ms_card n I ∧ ms_card n I = k ∧ ms_w w n A + ms_w w n B ≤ 2 * ms_w w n I := by
  have split : ∀ (w1 w2 : Nat → Nat) (c S : Nat), (∀ e, e < n → w1 e + w2 e = w e + c) → ms_w w1 n S + ms_w w2 n S = ms_w w n S + c * ms_card n S := by
    intro w1 w2 c S hs
    rw [← ms_w_add, ms_w_congr S hs, ms_w_add, ms_w_const]
  have t1 := mt_trunc h1 k
  have t2 := mt_trunc h2 k
  intro d
  induction d with
  | zero =>
    intro b w1 w2 c hb1 hb2 hs hd
    obtain ⟨I, U, hI, hU, i1, i2, hU2⟩ := mt_inter n _ _ (mt_rho_ok t1 hb1) (mt_rho_ok t2 hb2)
    have r1' := mt_rho_rank t1 hb1 hI
    have r2' := mt_rho_rank t2 hb2 hI
    have k1 := mt_card h1 hI
    have k2 := mt_card h2 hI
    have hr1 : mt_rho n (fun S => min (r1 S) k) w1 b I ≤ min (r1 I) k := r1'
    have hr2 : mt_rho n (fun S => min (r2 S) k) w2 b I ≤ min (r2 I) k := r2'
    rcases Nat.lt_or_ge (ms_card n I) k with q | q
    · have u1 := mt_raise t1 hb1 U
      have u2 := mt_raise t2 hb2 (ms_sd (2 ^ n - 1) U)
      have hs' : ∀ e, e < n → (w1 e + (U.testBit e).toNat) + (w2 e + ((ms_sd (2 ^ n - 1) U).testBit e).toNat) = w e + (c + 1) := by
        intro e he
        have := hs e he
        rw [ms_sd_bit, ms_full, decide_eq_true he, Bool.true_and]
        cases U.testBit e <;> simp <;> omega
      have lo := split _ _ (c + 1) I0 hs'
      have hb1' : ∀ e, e < n → w1 e + (U.testBit e).toNat < b + 1 := fun e he => by
        have := hb1 e he
        have := Bool.toNat_le (U.testBit e)
        omega
      have hb2' : ∀ e, e < n → w2 e + ((ms_sd (2 ^ n - 1) U).testBit e).toNat < b + 1 := fun e he => by
        have := hb2 e he
        have := Bool.toNat_le ((ms_sd (2 ^ n - 1) U).testBit e)
        omega
      have p1 := mt_phi_up h1 (k := k) hb1' hI0 f01 (by omega)
      have p2 := mt_phi_up h2 (k := k) hb2' hI0 f02 (by omega)
      rw [c0, Nat.add_mul, Nat.one_mul] at lo
      omega
    · have hm1 : (fun S => min (r1 S) k) (2 ^ n - 1) ≤ mt_rho n (fun S => min (r1 S) k) w1 b I := by
        show min (r1 (2 ^ n - 1)) k ≤ _
        omega
      have hm2 : (fun S => min (r2 S) k) (2 ^ n - 1) ≤ mt_rho n (fun S => min (r2 S) k) w2 b I := by
        show min (r2 (2 ^ n - 1)) k ≤ _
        omega
      have b1 := mt_rho_best t1 hb1 hI hm1
      have b2 := mt_rho_best t2 hb2 hI hm2
      have a1 := mt_phi_two h1 hb1 hA hB fA1 fB1 cA cB
      have a2 := mt_phi_two h2 hb2 hA hB fA2 fB2 cA cB
      have sA := split w1 w2 c A hs
      have sB := split w1 w2 c B hs
      have sI := split w1 w2 c I hs
      have cI : ms_card n I = k := by omega
      refine ⟨I, hI, by omega, by omega, cI, ?_⟩
      rw [cI] at sI
      rw [cB, Nat.mul_add, Nat.mul_one] at sB
      have e3 : c * k = c * ms_card n A + c := by rw [← cA, Nat.mul_add, Nat.mul_one]
      omega
  | succ d ih =>
    intro b w1 w2 c hb1 hb2 hs hd
    obtain ⟨I, U, hI, hU, i1, i2, hU2⟩ := mt_inter n _ _ (mt_rho_ok t1 hb1) (mt_rho_ok t2 hb2)
    have r1' := mt_rho_rank t1 hb1 hI
    have r2' := mt_rho_rank t2 hb2 hI
    have k1 := mt_card h1 hI
    have k2 := mt_card h2 hI
    have hr1 : mt_rho n (fun S => min (r1 S) k) w1 b I ≤ min (r1 I) k := r1'
    have hr2 : mt_rho n (fun S => min (r2 S) k) w2 b I ≤ min (r2 I) k := r2'
    rcases Nat.lt_or_ge (ms_card n I) k with q | q
    · have u1 := mt_raise t1 hb1 U
      have u2 := mt_raise t2 hb2 (ms_sd (2 ^ n - 1) U)
      have hs' : ∀ e, e < n → (w1 e + (U.testBit e).toNat) + (w2 e + ((ms_sd (2 ^ n - 1) U).testBit e).toNat) = w e + (c + 1) := by
        intro e he
        have := hs e he
        rw [ms_sd_bit, ms_full, decide_eq_true he, Bool.true_and]
        cases U.testBit e <;> simp <;> omega
      have hb1' : ∀ e, e < n → w1 e + (U.testBit e).toNat < b + 1 := fun e he => by
        have := hb1 e he
        have := Bool.toNat_le (U.testBit e)
        omega
      have hb2' : ∀ e, e < n → w2 e + ((ms_sd (2 ^ n - 1) U).testBit e).toNat < b + 1 := fun e he => by
        have := hb2 e he
        have := Bool.toNat_le ((ms_sd (2 ^ n - 1) U).testBit e)
        omega
      refine ih (b + 1) _ _ (c + 1) hb1' hb2' hs' ?_
      rw [u1, u2, Nat.add_mul, Nat.one_mul]
      omega
    · have hm1 : (fun S => min (r1 S) k) (2 ^ n - 1) ≤ mt_rho n (fun S => min (r1 S) k) w1 b I := by
        show min (r1 (2 ^ n - 1)) k ≤ _
        omega
      have hm2 : (fun S => min (r2 S) k) (2 ^ n - 1) ≤ mt_rho n (fun S => min (r2 S) k) w2 b I := by
        show min (r2 (2 ^ n - 1)) k ≤ _
        omega
      have b1 := mt_rho_best t1 hb1 hI hm1
      have b2 := mt_rho_best t2 hb2 hI hm2
      have a1 := mt_phi_two h1 hb1 hA hB fA1 fB1 cA cB
      have a2 := mt_phi_two h2 hb2 hA hB fA2 fB2 cA cB
      have sA := split w1 w2 c A hs
      have sB := split w1 w2 c B hs
      have sI := split w1 w2 c I hs
      have cI : ms_card n I = k := by omega
      refine ⟨I, hI, by omega, by omega, cI, ?_⟩
      rw [cI] at sI
      rw [cB, Nat.mul_add, Nat.mul_one] at sB
      have e3 : c * k = c * ms_card n A + c := by rw [← cA, Nat.mul_add, Nat.mul_one]
      omega
end
