/-! the law's walk: what stands at its loop's head -/
abbrev FA (s : State) : Nat → Prop := fun q => s.heap.size ≤ q
abbrev V5 (g : GT) (wf cs ms wd : Int32) (fd fw : Nat → Int32) : Prop := wf = nI (sF g (2 ^ gE g)) ∧ cs = nI (nP (co g) (2 ^ gE g)) ∧ ms = nI (mo g (2 ^ gE g)) ∧ wd = nI (sW g (2 ^ gE g)) ∧ tabs g (2 ^ gE g) fd fw
abbrev V6 (g : GT) (m2 : Int32) (ff fr_ fb : Nat → Int32) : Prop := lrF g (2 ^ gE g) ff ∧ lrR g (2 ^ gE g) fr_ ∧ lrB g (2 ^ gE g) fb ∧ m2 = nI (mo g (2 ^ gE g))
abbrev WL (cy : Nat → ClassId) (ad : Nat → Nat) (ch : Int32) (g : GT) (sn wf cs ms wd : Int32) (fd fw fp frm ft : Nat → Int32) (th : Int32) (kb : Bool) (m2 : Int32) (ff fr_ fb fq fc : Nat → Int32) (fo : Nat → Int64) : va_W := wX cy ad ch g sn wf cs ms wd fd fw fp frm ft ++ (wM cy ad g th (bI kb) m2 ff fr_ fb fq fc ++ [(ad 31, .inl (cy 2, 1, .inr (.inl fo)))])
def snOK (sn : Int32) (k : Nat) : Prop := sn = zI (-1) ∨ ∃ j : Nat, j ≤ k ∧ sn = nI j
theorem snOK_self (k : Nat) : snOK (nI k) k := Or.inr ⟨k, Nat.le_refl _, rfl⟩
theorem snOK_up {sn : Int32} {k : Nat} (h : snOK sn k) : snOK sn (k + 1) := h.imp id fun ⟨j, h1, h2⟩ => ⟨j, Nat.le_succ_of_le h1, h2⟩
theorem snOK_ne {sn : Int32} {k : Nat} (hk : k + 1 < 2 ^ 31) (h : snOK sn k) : ¬ sn = nI (k + 1) := by
  intro q
  have q1 : sn.toInt = ((k + 1 : Nat) : Int) := by rw [q, nI_toInt hk]
  rcases h with h | ⟨j, hj, h⟩
  · rw [h, zI_toInt (by decide) (by decide)] at q1
    omega
  · rw [h, nI_toInt (by omega)] at q1
    omega
theorem lg_out (fo : Nat → Int64) (z : Int64) : lg_cmp (vp_updL fo 0 z (nI 0).toNatClampNeg) z = nI 0 := by
  rw [nI_clamp (by decide)]
  unfold vp_updL lg_cmp
  simp
  rfl
/-- what is so through the whole walk -/
def LC (p : Program) (l : Launch) (s : State) (m : MethodId) (meth : Method) (c : Code) (b L : Nat) (xs : Nat → Int32) (D : va_G) (cy : Nat → ClassId) : Prop :=
  (p.tables.exec = Jvm.exec) ∧ (c.code = cL_law) ∧ (meth.sig.returnType = some .boolean) ∧ (c.maxLocals = 7) ∧ (s.vm.findClass RL = some m.cls) ∧ (meth.locks = false) ∧ (∀ w ∈ wsL_law, w.before #[.ref b] s = true) ∧ (va_X b L xs s s.heap) ∧ (b < s.heap.size) ∧ (L ≤ 2560) ∧ (KN D cy s) ∧ (TH (FA s) s) ∧ (l.stackTraces = false)
section LCS
variable {p : Program} {l : Launch} {s : State} {m : MethodId} {meth : Method} {c : Code} {b L : Nat} {xs : Nat → Int32} {D : va_G} {cy : Nat → ClassId}
theorem LC.hx (C : LC p l s m meth c b L xs D cy) : p.tables.exec = Jvm.exec := C.1
theorem LC.hb (C : LC p l s m meth c b L xs D cy) : c.code = cL_law := C.2.1
theorem LC.hr (C : LC p l s m meth c b L xs D cy) : meth.sig.returnType = some .boolean := C.2.2.1
theorem LC.hml (C : LC p l s m meth c b L xs D cy) : c.maxLocals = 7 := C.2.2.2.1
theorem LC.hown (C : LC p l s m meth c b L xs D cy) : s.vm.findClass RL = some m.cls := C.2.2.2.2.1
theorem LC.hlocks (C : LC p l s m meth c b L xs D cy) : meth.locks = false := C.2.2.2.2.2.1
theorem LC.hts (C : LC p l s m meth c b L xs D cy) : ∀ w ∈ wsL_law, w.before #[.ref b] s = true := C.2.2.2.2.2.2.1
theorem LC.hX (C : LC p l s m meth c b L xs D cy) : va_X b L xs s s.heap := C.2.2.2.2.2.2.2.1
theorem LC.hbl (C : LC p l s m meth c b L xs D cy) : b < s.heap.size := C.2.2.2.2.2.2.2.2.1
theorem LC.hL (C : LC p l s m meth c b L xs D cy) : L ≤ 2560 := C.2.2.2.2.2.2.2.2.2.1
theorem LC.hK (C : LC p l s m meth c b L xs D cy) : KN D cy s := C.2.2.2.2.2.2.2.2.2.2.1
theorem LC.hT (C : LC p l s m meth c b L xs D cy) : TH (FA s) s := C.2.2.2.2.2.2.2.2.2.2.2.1
theorem LC.hst (C : LC p l s m meth c b L xs D cy) : l.stackTraces = false := C.2.2.2.2.2.2.2.2.2.2.2.2
end LCS
theorem FA_b {s : State} {b : Nat} (h : b < s.heap.size) : ¬ FA s b := fun q => absurd h (Nat.not_lt.mpr q)
def LI (D : va_G) (cy : Nat → ClassId) (ad : Nat → Nat) (s : State) (t : Nat) (H : Heap) : Prop :=
  ∃ (g : GT) (ch : Int32) (k : Nat) (sn wf cs ms wd : Int32) (fd fw fp frm ft : Nat → Int32) (th : Int32) (kb : Bool) (m2 : Int32) (ff fr_ fb fq fc : Nat → Int32) (fo : Nat → Int64),
    gOK g ∧ ch = nI k ∧ k ≤ t ∧ snOK sn k ∧ (sn = ch → V5 g wf cs ms wd fd fw) ∧ (kb = true → V6 g m2 ff fr_ fb) ∧ va_P D vwCl (WL cy ad ch g sn wf cs ms wd fd fw fp frm ft th kb m2 ff fr_ fb fq fc fo) H ∧ va_D (FA s) (WL cy ad ch g sn wf cs ms wd fd fw fp frm ft th kb m2 ff fr_ fb fq fc fo)
section RW
variable {p : Program} {l : Launch} {e : Env} {R : Room} {s : State} {m : MethodId} {args : Array Value} {below : List Frame} {meth : Method} {c : Code} {H : Heap} {locs : List Loc} {cells slots : Nat} {Q : State → Prop} {pc : Nat} {ls : Array Slot} {rest st0 : List Value} {D : va_G} {cy : Nat → ClassId} {ws w0 : va_W} {A0 : Nat → Prop} {H0 : Heap} {av : Array Value}
theorem ln_call {r : Nat} (hr : vx_Run p l e R s m args below meth c H locs cells slots 1 6 (F0 m pc ls st0) rest (va_Qi (fun (x : Int32) (_ : Unit) => x = nI r) (fun _ _ => True) (fun _ => False) av) NoX (fun _ => False)) (hS : va_S A0 H0 H locs) (hP : va_P D vwCl ws H)
    (kk : ∀ (H1 : Heap) (locs1 : List Loc), va_P D vwCl ws H1 → va_S A0 H0 H1 locs1 → W p l e R s m args below meth c H1 locs1 (cells + 1) (slots + 6) Q (F0 m (pc + 3) ls (.int (nI r) :: rest))) : W p l e R s m args below meth c H locs cells slots Q (F0 m pc ls st0) :=
  vx_calli hr hS (fun _ _ h => h.elim) (fun _ h => h.elim) (fun _ _ h => h.elim) (fun _ _ _ _ _ _ _ _ _ hp => False.elim hp)
    (fun r1 u t H1 locs1 _ _ hp _ _ hk hS1 => by
      have hp : r1 = nI r := hp
      subst hp
      exact kk H1 locs1 (hP.kept fun k q hq => hk q.1 (hP k q hq).lt (fun h => h)) hS1)
theorem lw_call {S : Type} {post : Int32 → S → Prop} {w1 : S → va_W} {mc ms : Nat} (is : List Nat) (hr : vx_Run p l e R s m args below meth c H locs cells slots mc ms (F0 m pc ls st0) rest (va_Qi post (fun u t => va_P D vwCl (w1 u) t.heap) (inW w0) av) NoX (inW w0)) (hS : va_S A0 H0 H locs) (hP : va_P D vwCl ws H) (hD : va_D A0 ws)
    (hi : is.map (fun i => ws[i]?) = w0.map some) (hlen : ∀ u, is.length = (w1 u).length) (hsame : ∀ u, (putW ws is (w1 u)).map Prod.fst = ws.map Prod.fst)
    (kk : ∀ (r : Int32) (u : S) (H1 : Heap) (locs1 : List Loc), post r u → va_P D vwCl (putW ws is (w1 u)) H1 → va_D A0 (putW ws is (w1 u)) → va_S A0 H0 H1 locs1 → W p l e R s m args below meth c H1 locs1 (cells + mc) (slots + ms) Q (F0 m (pc + 3) ls (.int r :: rest))) : W p l e R s m args below meth c H locs cells slots Q (F0 m pc ls st0) :=
  vx_calli hr hS (fun q _ h => inW_up hD is hi q h) (inW_up hD is hi) (fun _ _ h => h.elim) (fun _ _ _ _ _ _ _ _ _ hp => False.elim hp)
    (fun r u t H1 locs1 ht _ hp hB _ hk hS1 => by
      rw [ht] at hB
      exact kk r u H1 locs1 hp (putW_join hP hD is hi (hlen u) hk hB) (va_D_same (hsame u) hD) hS1)
end RW
