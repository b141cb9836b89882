section
/-- a private method of a class that the tables say can be made, by its rows of tables_1 -/
def lw_okq (q : MethodName × Nat) : Prop := (q.1.cls ≠ "java/lang/invoke/MethodHandle" ∧ q.1.cls ≠ "java/lang/invoke/VarHandle") ∧ Cond.instantiable q.1.cls q.2 ∈ tables_1 ∧ Cond.privateMethod q.1 ∈ tables_1 ∧ Cond.instanceMethod q.1 ∈ tables_1
theorem lw_p0 : lw_okq (⟨"SuffixWright$Automaton", "addState", "(II)I"⟩, 7) := ⟨⟨by decide +kernel, by decide +kernel⟩, List.mem_of_getElem? (i := 46) (by decide +kernel), List.mem_of_getElem? (i := 72) (by decide +kernel), List.mem_of_getElem? (i := 73) (by decide +kernel)⟩
theorem lw_p1 : lw_okq (⟨"SuffixWright$Automaton", "putLink", "(II)V"⟩, 7) := ⟨⟨by decide +kernel, by decide +kernel⟩, List.mem_of_getElem? (i := 46) (by decide +kernel), List.mem_of_getElem? (i := 79) (by decide +kernel), List.mem_of_getElem? (i := 80) (by decide +kernel)⟩
theorem lw_p2 : lw_okq (⟨"SuffixWright$Automaton", "putStep", "(III)V"⟩, 7) := ⟨⟨by decide +kernel, by decide +kernel⟩, List.mem_of_getElem? (i := 46) (by decide +kernel), List.mem_of_getElem? (i := 87) (by decide +kernel), List.mem_of_getElem? (i := 88) (by decide +kernel)⟩
theorem lw_p3 : lw_okq (⟨"SuffixWright$Automaton", "sortIn", "(I)V"⟩, 7) := ⟨⟨by decide +kernel, by decide +kernel⟩, List.mem_of_getElem? (i := 46) (by decide +kernel), List.mem_of_getElem? (i := 98) (by decide +kernel), List.mem_of_getElem? (i := 99) (by decide +kernel)⟩
theorem lw_p4 : lw_okq (⟨"SuffixWright$Automaton", "linkOf", "(I)I"⟩, 7) := ⟨⟨by decide +kernel, by decide +kernel⟩, List.mem_of_getElem? (i := 46) (by decide +kernel), List.mem_of_getElem? (i := 196) (by decide +kernel), List.mem_of_getElem? (i := 197) (by decide +kernel)⟩
theorem lw_p5 : lw_okq (⟨"java/lang/Throwable", "fillInStackTrace", "(I)Ljava/lang/Throwable;"⟩, 6) := ⟨⟨by decide +kernel, by decide +kernel⟩, List.mem_of_getElem? (i := 242) (by decide +kernel), List.mem_of_getElem? (i := 240) (by decide +kernel), List.mem_of_getElem? (i := 241) (by decide +kernel)⟩
theorem lw_p6 : lw_okq (⟨"SuffixWright$Guide", "aheadOf", "(I)I"⟩, 3) := ⟨⟨by decide +kernel, by decide +kernel⟩, List.mem_of_getElem? (i := 40) (by decide +kernel), List.mem_of_getElem? (i := 282) (by decide +kernel), List.mem_of_getElem? (i := 283) (by decide +kernel)⟩
theorem lw_p7 : lw_okq (⟨"SuffixWright$Guide", "putAhead", "(II)V"⟩, 3) := ⟨⟨by decide +kernel, by decide +kernel⟩, List.mem_of_getElem? (i := 40) (by decide +kernel), List.mem_of_getElem? (i := 290) (by decide +kernel), List.mem_of_getElem? (i := 291) (by decide +kernel)⟩
theorem lw_p8 : lw_okq (⟨"SuffixWright", "demandText", "(I)LSuffixWright$Word;"⟩, 6) := ⟨⟨by decide +kernel, by decide +kernel⟩, List.mem_of_getElem? (i := 14) (by decide +kernel), List.mem_of_getElem? (i := 337) (by decide +kernel), List.mem_of_getElem? (i := 338) (by decide +kernel)⟩
theorem lw_p9 : lw_okq (⟨"SuffixWright$Automaton", "extend", "(II)I"⟩, 7) := ⟨⟨by decide +kernel, by decide +kernel⟩, List.mem_of_getElem? (i := 46) (by decide +kernel), List.mem_of_getElem? (i := 374) (by decide +kernel), List.mem_of_getElem? (i := 375) (by decide +kernel)⟩
theorem lw_p10 : lw_okq (⟨"SuffixWright$Automaton", "stateBehind", "(II)I"⟩, 7) := ⟨⟨by decide +kernel, by decide +kernel⟩, List.mem_of_getElem? (i := 46) (by decide +kernel), List.mem_of_getElem? (i := 378) (by decide +kernel), List.mem_of_getElem? (i := 379) (by decide +kernel)⟩
theorem lw_p11 : lw_okq (⟨"SuffixWright", "partState", "()I"⟩, 6) := ⟨⟨by decide +kernel, by decide +kernel⟩, List.mem_of_getElem? (i := 14) (by decide +kernel), List.mem_of_getElem? (i := 431) (by decide +kernel), List.mem_of_getElem? (i := 432) (by decide +kernel)⟩
theorem lw_p12 : lw_okq (⟨"SuffixWright", "walkPattern", "(I)I"⟩, 6) := ⟨⟨by decide +kernel, by decide +kernel⟩, List.mem_of_getElem? (i := 14) (by decide +kernel), List.mem_of_getElem? (i := 435) (by decide +kernel), List.mem_of_getElem? (i := 436) (by decide +kernel)⟩
theorem lw_p13 : lw_okq (⟨"SuffixWright", "beginOfPattern", "(I)I"⟩, 6) := ⟨⟨by decide +kernel, by decide +kernel⟩, List.mem_of_getElem? (i := 14) (by decide +kernel), List.mem_of_getElem? (i := 462) (by decide +kernel), List.mem_of_getElem? (i := 463) (by decide +kernel)⟩
theorem lw_p14 : lw_okq (⟨"SuffixWright$Guide", "suits", "(III)Z"⟩, 3) := ⟨⟨by decide +kernel, by decide +kernel⟩, List.mem_of_getElem? (i := 40) (by decide +kernel), List.mem_of_getElem? (i := 537) (by decide +kernel), List.mem_of_getElem? (i := 538) (by decide +kernel)⟩
def lw_privs_1 : List (MethodName × Nat) := [(⟨"SuffixWright$Automaton", "addState", "(II)I"⟩, 7), (⟨"SuffixWright$Automaton", "putLink", "(II)V"⟩, 7), (⟨"SuffixWright$Automaton", "putStep", "(III)V"⟩, 7), (⟨"SuffixWright$Automaton", "sortIn", "(I)V"⟩, 7), (⟨"SuffixWright$Automaton", "linkOf", "(I)I"⟩, 7), (⟨"java/lang/Throwable", "fillInStackTrace", "(I)Ljava/lang/Throwable;"⟩, 6), (⟨"SuffixWright$Guide", "aheadOf", "(I)I"⟩, 3), (⟨"SuffixWright$Guide", "putAhead", "(II)V"⟩, 3), (⟨"SuffixWright", "demandText", "(I)LSuffixWright$Word;"⟩, 6), (⟨"SuffixWright$Automaton", "extend", "(II)I"⟩, 7), (⟨"SuffixWright$Automaton", "stateBehind", "(II)I"⟩, 7), (⟨"SuffixWright", "partState", "()I"⟩, 6), (⟨"SuffixWright", "walkPattern", "(I)I"⟩, 6), (⟨"SuffixWright", "beginOfPattern", "(I)I"⟩, 6), (⟨"SuffixWright$Guide", "suits", "(III)Z"⟩, 3)]
theorem lw_r1 : ∀ q ∈ lw_privs_1, lw_okq q := List.forall_mem_cons.mpr ⟨lw_p0, List.forall_mem_cons.mpr ⟨lw_p1, List.forall_mem_cons.mpr ⟨lw_p2, List.forall_mem_cons.mpr ⟨lw_p3, List.forall_mem_cons.mpr ⟨lw_p4, List.forall_mem_cons.mpr ⟨lw_p5, List.forall_mem_cons.mpr ⟨lw_p6, List.forall_mem_cons.mpr ⟨lw_p7, List.forall_mem_cons.mpr ⟨lw_p8, List.forall_mem_cons.mpr ⟨lw_p9, List.forall_mem_cons.mpr ⟨lw_p10, List.forall_mem_cons.mpr ⟨lw_p11, List.forall_mem_cons.mpr ⟨lw_p12, List.forall_mem_cons.mpr ⟨lw_p13, List.forall_mem_cons.mpr ⟨lw_p14, fun _ h => absurd h List.not_mem_nil⟩⟩⟩⟩⟩⟩⟩⟩⟩⟩⟩⟩⟩⟩⟩
def lw_privs : List (MethodName × Nat) := lw_privs_1
def lw_tbl : List Cond := k2_sels lw_privs ++ tables_1
theorem lw_privs_ok : ∀ q ∈ lw_privs, lw_okq q := lw_r1
end
section
/-! ===== BEGIN words of one list among another's, by their places ===== -/
theorem goodIn_r {big : List Cond} (ws : List Cond) (ps : List Nat) (hp : ws = ps.filterMap (fun i => big[i]?)) (h : ws.all goodWord = true) : GoodIn big ws := by
  intro w hw
  have h1 := List.all_eq_true.mp h w hw
  rw [hp] at hw
  obtain ⟨i, -, hi⟩ := List.mem_filterMap.mp hw
  have hm : w ∈ big := by first | exact List.mem_of_getElem? hi | exact List.getElem?_mem hi
  exact ⟨hm, good_of_word h1⟩
theorem goodIn_app {big a b : List Cond} (ha : GoodIn big a) (hb : GoodIn big b) : GoodIn big (a ++ b) := fun w h => (List.mem_append.mp h).elim (ha w) (hb w)
theorem goodIn_ca {big a b : List Cond} {c : Cond} (ha : GoodIn big (c :: a)) (hb : GoodIn big b) : GoodIn big (c :: (a ++ b)) := fun w h => (List.mem_cons.mp h).elim (fun e => ha w (List.mem_cons.mpr (Or.inl e))) (fun h => (List.mem_append.mp h).elim (fun h => ha w (List.mem_cons.mpr (Or.inr h))) (hb w))
theorem goodIn_sub {big ws : List Cond} (hm : ∀ w ∈ ws, w ∈ big) (h : ws.all goodWord = true) : GoodIn big ws := fun w hw => ⟨hm w hw, good_of_word (List.all_eq_true.mp h w hw)⟩
/-! ===== END ===== -/

/-! ===== BEGIN exceptions that leave a method, and their catching by the caller (launches without stack traces) ===== -/
section VXA
/-! The laws vx_back, vx_callV, vx_callS, vx_callSW, vx_throw0, vx_throwS follow proofs of the library, with one case more: JvmDerived/Free/Laws.lean (Back.of_free), Shelf42/LK1.lean (callV, callS), Shelf/KitTraced.lean (throwNew0V, throwNewS). -/
/-- where a method has thrown q: the class by its name, the cell, what was written, the world -/
def vx_T (XC : String → State → State → Prop) (st : State) (q : Addr) (t : State) (mc ms : Nat) (free : Addr → Prop) : Prop :=
  ∃ (E : String) (ce : Cell) (L : List Loc), XC E st t ∧ t.heap[q]? = some ce ∧ ce.vm = .none ∧ st.vm.findClass E = some ce.cls ∧ st.WarmedH t.vm ∧ st.sameButNew ({ t with vm := st.vm } : State) L mc ms ∧ ∀ z ∈ L, free z.base
def vx_Q (Qc : Array Value → State → Outcome → State → Prop) (XC : String → State → State → Prop) (mc ms : Nat) (free : Addr → Prop) : Array Value → State → Outcome → State → Prop := fun a st o t =>
  (Qc a st o t ∧ ∃ L, FrameEnd st o t L mc ms ∧ ∀ q ∈ L, free q.base) ∨ ∃ q, o = .threw q ∧ vx_T XC st q t mc ms free
/-- a callee that returns or throws -/
def vx_Met (l : Launch) (y : MethodName) (ws : List Cond) (rm : Room) (Pc : Array Value → State → Prop) (Qc : Array Value → State → Outcome → State → Prop) (XC : String → State → State → Prop) (mc ms : Nat) (free : Addr → Prop) : Prop :=
  MetFree l y (headSpec ws rm) Pc (fun _ _ _ _ _ => True) (vx_Q Qc XC mc ms free)
def vx_Post (XC : String → State → State → Prop) (mc ms : Nat) (free : Addr → Prop) : Pt → Array Value → Addr → Pt → Prop := fun A a q B =>
  ∃ (g : JFrame) (mk : MethodId) (t : State) (L : List Loc) (E : String) (ce : Cell), B.U.heap = t.heap ∧ B.U.vm = t.vm ∧ XC E (A.U.calling g mk a) t ∧ t.heap[q]? = some ce ∧ ce.vm = .none ∧ A.U.vm.findClass E = some ce.cls ∧ B.locs = A.locs ++ L ∧ (∀ z ∈ L, free z.base) ∧ B.cells = A.cells + mc ∧ B.slots = A.slots + ms
def vx_Back (l : Launch) (R : Room) (p : Program) (e : Env) (below : List Frame) (s : State) (sargs : Array Value) (y : MethodName) (len W9 : Nat)
    (Pre : Pt → Array Value → Prop) (Post : Pt → Array Value → Option Value → Pt → Prop) (PostX : Pt → Array Value → Addr → Pt → Prop) : Prop :=
  ∀ (m : MethodId) (meth : Method) (c : Code) (A : Pt) (g : JFrame) (ig : Instr) (mk : MethodId) (a : Array Value),
    Stand p l e R s m sargs below meth c A.U A.locs A.cells A.slots → g.method = m → g.locals.size = c.maxLocals → decode c.code g.pc = .ok (ig, len) →
    2 * g.monitorRoom + (g.stack.map fun v => v.category).sum ≤ W9 → A.U.methodNamed? y = some mk → Pre A a →
    (∃ (v : Option Value) (B : Pt), Stand p l e R s m sargs below meth c B.U B.locs B.cells B.slots ∧ Post A a v B ∧
      Steps p.tables e below (doInvoke e (A.U.setTop g) [] mk a).1 (B.U.setTop { g with pc := g.pc + len, stack := v.toList ++ g.stack })) ∨
    (∃ (q : Addr) (B : Pt), Stand p l e R s m sargs below meth c B.U B.locs B.cells B.slots ∧ PostX A a q B ∧
      Steps p.tables e below (doInvoke e (A.U.setTop g) [] mk a).1 ((B.U.setTop g).pushFrame (.throwing q)))
section Payer
variable {l : Launch} {R : Room} {p : Program} {e : Env} {below : List Frame} {s : State} {sargs : Array Value} {y : MethodName} {len W9 : Nat}
theorem vx_back {ws : List Cond} {rm : Room} {Pc : Array Value → State → Prop} {Qc : Array Value → State → Outcome → State → Prop} {XC : String → State → State → Prop} {mc ms : Nat} {free : Addr → Prop} {bytes : ByteArray} {maxL : Nat} {ret : Option FieldType}
    (hM : vx_Met l y ws rm Pc Qc XC mc ms free) (hblind : FrameBlind Pc) (hrc : rm.cells = mc) (hrs : rm.slots = ms)
    (hframes : rm.frames + 1 ≤ R.frames) (hlocals : W9 + (maxL + 11) + rm.locals ≤ R.locals)
    (hws : ∀ w ∈ ws, ∀ a' U, s.WarmedH U.vm → w.before a' U = true) (hcode : Cond.code y bytes maxL ret ∈ ws) (hinit : ∀ a' U, s.WarmedH U.vm → (Cond.initialized y.cls).before a' U = true) :
    vx_Back l R p e below s sargs y len W9 (PreOf R mc ms Pc) (PostOf Qc mc ms free) (vx_Post XC mc ms free) := by
  intro m meth c A g ig mk a X hg hsize hdg hW hn hp
  have h1 : (headSpec ws rm).pre.before a A.U = true := atoms_intro fun w hw => hws w hw _ _ X.warmed
  have h2 : (Cond.code y bytes maxL ret).before a A.U = true := hws _ hcode _ _ X.warmed
  have h3 : (Cond.initialized y.cls).before a A.U = true := hinit _ _ X.warmed
  have h4 : A.cells + (headSpec ws rm).room.cells ≤ R.cells := by rw [show (headSpec ws rm).room.cells = mc from hrc]; exact hp.1
  have h5 : A.slots + (headSpec ws rm).room.slots ≤ R.slots := by rw [show (headSpec ws rm).room.slots = ms from hrs]; exact hp.2.1
  have hPc : Pc a (A.U.calling g mk a) := hblind _ _ _ _ hp.2.2
  obtain ⟨U, Ls, c0, s0⟩ := A
  dsimp only [Pt.U, Pt.locs, Pt.cells, Pt.slots] at h1 h2 h3 h4 h5 X hn hPc ⊢
  obtain ⟨methY, cY, hmY, hcY, -, hlY, -, -, -, -⟩ := Cond.code_spec hn h2
  obtain ⟨kY, hkY, -⟩ := className_of_methodNamed hn
  have hinitY : kY.init = .initialized := Cond.initialized_spec (findClass_of_methodNamed hn) hkY h3
  have h : At U g.method c below := by rw [hg]; exact X.here
  have hlocals9 : W9 + (maxL + 11) + (headSpec ws rm).room.locals ≤ R.locals := hlocals
  have happ : (headSpec ws rm).appliesLoose y e.platform (U.calling g mk a) = true :=
    Spec.appliesLoose_calling (g := g) h hdg hn hkY hinitY
      (X.room_calling (g := g) (R' := (headSpec ws rm).room) hsize hmY hcY hframes (by rw [hlY]; omega) h4 h5) h1
  obtain ⟨mid, hmid⟩ := h.above
  have hfr : (U.setTop g).frames = (.java g :: mid) ++ below := by rw [State.frames_setTop' g h.top, hmid]; rfl
  obtain ⟨o, s₂, hsteps, -, hend, hq⟩ := Steps.callFree hM p X.admits X.cas X.clock (acts := []) hfr happ hPc trivial
  have hq' : vx_Q Qc XC mc ms free a (U.calling g mk a) o s₂ := hq
  rw [State.frames_setTop' g h.top] at hend
  obtain ⟨g₀, hg0⟩ := Option.isSome_iff_exists.mp h.top
  obtain ⟨r, hr⟩ := State.topJava?_eq_some.mp hg0
  have hr' : (({ U with heap := s₂.heap, slotsUsed := s₂.slotsUsed } : State).setVm s₂.vm).frames = .java g₀ :: r := hr
  rcases hq' with ⟨hqc, L, hfe, hL⟩ | ⟨q, rfl, E, ce, L, hx, hce, hcv, hcl, hW₂, hsm, hL⟩
  · obtain ⟨⟨v, rfl⟩, hW₂, e2, q2, q3, q4, q5, q6⟩ := id hfe
    have e3 : s₂ = ({ (U.calling g mk a).setFrames s₂.frames with heap := s₂.heap, slotsUsed := s₂.slotsUsed } : State).setVm s₂.vm := by
      have : s₂ = ({ s₂ with vm := (U.calling g mk a).vm } : State).setVm s₂.vm := rfl
      rw [e2] at this
      exact this
    obtain ⟨c₂, i₂, len₂, hc₂, hd₂, hf₂⟩ := hend
    have hW' : U.WarmedH s₂.vm := hW₂
    have hcc : c₂ = c := by
      have h1 : s₂.code? g.method = U.code? g.method := by
        rw [State.code?_eq, State.code?_eq, hW'.alike.method?]
      exact Option.some.inj (hc₂.symm.trans (h1.trans h.code))
    subst hcc
    have hlen : len₂ = len := by rw [hdg] at hd₂; cases hd₂; rfl
    subst hlen
    have hs₂ : s₂ = (({ U with heap := s₂.heap, slotsUsed := s₂.slotsUsed } : State).setVm s₂.vm).setTop { g with pc := g.pc + len₂, stack := v.toList ++ g.stack } := by
      refine e3.trans ?_
      rw [hf₂, State.calling_eq h.top, State.setFrames_setFrames, State.setTop_of_frames _ hr', hr]
      rfl
    have hsame : U.sameButNew ({ U with heap := s₂.heap, slotsUsed := s₂.slotsUsed } : State) L mc ms := by
      refine ⟨?_, q2, q3, q4, q5, q6⟩
      obtain ⟨t, ht, -⟩ := State.frames_cons hr
      show ({ U with heap := s₂.heap, slotsUsed := s₂.slotsUsed } : State) = { U.setFrames U.frames with heap := s₂.heap, slotsUsed := s₂.slotsUsed }
      rw [State.setFrames_self ht]
    subst hg
    refine Or.inl ⟨v, ⟨(({ U with heap := s₂.heap, slotsUsed := s₂.slotsUsed } : State).setVm s₂.vm), Ls ++ L, c0 + mc, s0 + ms⟩,
      ⟨X.admits, X.cas, X.clock, X.frames, X.room, X.hears, X.method, X.code, (X.here.setHeapUsed s₂.heap s₂.slotsUsed).setVm hW'.alike, X.tail, State.WarmedH.trans X.warmed hW', X.limits, X.bytes, X.same.trans (hsame.setVm s.vm)⟩,
      ⟨g, mk, s₂, L, rfl, rfl, hqc, rfl, hL, rfl, rfl⟩, ?_⟩
    show Steps p.tables e below _ ((({ U with heap := s₂.heap, slotsUsed := s₂.slotsUsed } : State).setVm s₂.vm).setTop { g with pc := g.pc + len₂, stack := v.toList ++ g.stack })
    rw [← hs₂]
    exact hsteps
  · obtain ⟨e2, q2, q3, q4, q5, q6⟩ := id hsm
    have e3 : s₂ = ({ (U.calling g mk a).setFrames s₂.frames with heap := s₂.heap, slotsUsed := s₂.slotsUsed } : State).setVm s₂.vm := by
      have : s₂ = ({ s₂ with vm := (U.calling g mk a).vm } : State).setVm s₂.vm := rfl
      rw [e2] at this
      exact this
    have hf₂ : s₂.frames = .throwing q :: .java g :: U.frames.tail := hend
    have hW' : U.WarmedH s₂.vm := hW₂
    have hs₂ : s₂ = ((({ U with heap := s₂.heap, slotsUsed := s₂.slotsUsed } : State).setVm s₂.vm).setTop g).pushFrame (.throwing q) := by
      refine e3.trans ?_
      rw [hf₂, State.calling_eq h.top, State.setFrames_setFrames, State.pushFrame, State.frames_setTop _ hr', State.setTop_of_frames _ hr', State.setFrames_setFrames, hr]
      rfl
    have hsame : U.sameButNew ({ U with heap := s₂.heap, slotsUsed := s₂.slotsUsed } : State) L mc ms := by
      refine ⟨?_, q2, q3, q4, q5, q6⟩
      obtain ⟨t, ht, -⟩ := State.frames_cons hr
      show ({ U with heap := s₂.heap, slotsUsed := s₂.slotsUsed } : State) = { U.setFrames U.frames with heap := s₂.heap, slotsUsed := s₂.slotsUsed }
      rw [State.setFrames_self ht]
    subst hg
    refine Or.inr ⟨q, ⟨(({ U with heap := s₂.heap, slotsUsed := s₂.slotsUsed } : State).setVm s₂.vm), Ls ++ L, c0 + mc, s0 + ms⟩,
      ⟨X.admits, X.cas, X.clock, X.frames, X.room, X.hears, X.method, X.code, (X.here.setHeapUsed s₂.heap s₂.slotsUsed).setVm hW'.alike, X.tail, State.WarmedH.trans X.warmed hW', X.limits, X.bytes, X.same.trans (hsame.setVm s.vm)⟩,
      ⟨g, mk, s₂, L, E, ce, rfl, rfl, hx, hce, hcv, hcl, rfl, hL, rfl, rfl⟩, ?_⟩
    show Steps p.tables e below _ (((({ U with heap := s₂.heap, slotsUsed := s₂.slotsUsed } : State).setVm s₂.vm).setTop g).pushFrame (.throwing q))
    rw [← hs₂]
    exact hsteps
end Payer
section Calls
variable {p : Program} {l : Launch} {e : Env} {R : Room} {s : State} {m : MethodId} {args : Array Value} {below : List Frame} {meth : Method} {c : Code} {T : State} {locs : List Loc} {cells slots : Nat}
theorem vx_callV (X : Stand p l e R s m args below meth c T locs cells slots) (hexec : p.tables.exec = Jvm.exec) {own C : String} {index : Nat} {y : MethodName} {bytes : ByteArray} {maxL : Nat} {ret : Option FieldType}
    (hown : s.vm.findClass own = some m.cls) (hlink : (Cond.methodLink own index y).before args s = true) (hinst : (Cond.instanceMethod y).before args s = true) (hsel : (Cond.selects C y y).before args s = true)
    (hcode : (Cond.code y bytes maxL ret).before args s = true) (hy : y.cls ≠ "java/lang/invoke/MethodHandle" ∧ y.cls ≠ "java/lang/invoke/VarHandle")
    {W9 : Nat} {Pre : Pt → Array Value → Prop} {Post : Pt → Array Value → Option Value → Pt → Prop} {PostX : Pt → Array Value → Addr → Pt → Prop} (hK : vx_Back l R p e below s args y 3 W9 Pre Post PostX)
    {b : Addr} {cellB : Cell} (hcell : T.heap[b]? = some cellB) (hobj : cellB.vm.isStatics = false) (hcls : s.vm.findClass C = some cellB.cls)
    {g : JFrame} (hg : g.method = m) (hsize : g.locals.size = c.maxLocals) {argsL rest : List Value} (hlen : ∀ sig, parseMethodDescriptor y.desc = some sig → argsL.length = sig.parameters.length)
    (hstack : g.stack = argsL.reverse ++ .ref b :: rest) (hW : 2 * g.monitorRoom + (rest.map fun v => v.category).sum ≤ W9) (hdg : decode c.code g.pc = .ok (.invokevirtual index, 3))
    (hpre : ∀ vm₁, s.WarmedH vm₁ → Pre ⟨T.setVm vm₁, locs, cells, slots⟩ (Value.ref b :: argsL).toArray) :
    (∃ (v : Option Value) (vm₁ : Vm) (B : Pt), s.WarmedH vm₁ ∧ Stand p l e R s m args below meth c B.U B.locs B.cells B.slots ∧ Post ⟨T.setVm vm₁, locs, cells, slots⟩ (Value.ref b :: argsL).toArray v B ∧
      ∀ target, Steps p.tables e below (B.U.setTop { g with pc := g.pc + 3, stack := v.toList ++ rest }) target → Steps p.tables e below (T.setTop g) target) ∨
    (∃ (q : Addr) (vm₁ : Vm) (B : Pt), s.WarmedH vm₁ ∧ Stand p l e R s m args below meth c B.U B.locs B.cells B.slots ∧ PostX ⟨T.setVm vm₁, locs, cells, slots⟩ (Value.ref b :: argsL).toArray q B ∧
      Steps p.tables e below (T.setTop g) ((B.U.setTop { g with stack := rest }).pushFrame (.throwing q))) := by
  obtain ⟨mk, methM, hnamed, hmethM, hstM, habM⟩ := Cond.instanceMethod_spec hinst
  obtain ⟨methM', cM, hmethM', -, -, -, -, -, -, hsigM⟩ := Cond.code_spec hnamed hcode
  cases hmethM.symm.trans hmethM'
  obtain ⟨c2, r2, m2, q1, q2, q3, q4, kP, hkP, hkPi⟩ := Cond.selects_spec hsel
  cases hcls.symm.trans q1
  cases (State.methodFound?_of_named hnamed hy).symm.trans q2
  cases hnamed.symm.trans q3
  have hselP : selectMethod e.platform s.vm cellB.cls mk = .method mk := by rw [Launch.admits_selectMethod X.admits]; exact q4
  obtain ⟨vm₁, X₁, hstep₁⟩ := X.invokevirtual hexec hown hlink hnamed hmethM hstM hkP hkPi hy (a := b) (cell := cellB) hcell
    (fun z h => by rw [h] at hobj; cases hobj) hselP hmethM habM hkP hkPi (g := g) hg (argsL := argsL) (rest := rest) (hlen _ hsigM) hstack hdg
  rcases hK m meth c ⟨T.setVm vm₁, locs, cells, slots⟩ { g with stack := rest } (.invokevirtual index) mk (Value.ref b :: argsL).toArray X₁ hg hsize hdg hW (X₁.named hnamed) (hpre vm₁ X₁.warmed) with ⟨v, B, X', hpost, hsteps⟩ | ⟨q, B, X', hpost, hsteps⟩
  · exact Or.inl ⟨v, vm₁, B, X₁.warmed, X', hpost, fun target h => hstep₁ _ fun acts => by rw [doInvoke_state]; exact hsteps.trans h⟩
  · exact Or.inr ⟨q, vm₁, B, X₁.warmed, X', hpost, hstep₁ _ fun acts => by rw [doInvoke_state]; exact hsteps⟩
theorem vx_callS (X : Stand p l e R s m args below meth c T locs cells slots) (hexec : p.tables.exec = Jvm.exec) {own : String} {index : Nat} {y : MethodName} {bytes : ByteArray} {maxL : Nat} {ret : Option FieldType}
    (hown : s.vm.findClass own = some m.cls) (hlink : (Cond.methodLink own index y).before args s = true) (hstat : (Cond.static y).before args s = true) (hinit : (Cond.initialized y.cls).before args s = true)
    (hcode : (Cond.code y bytes maxL ret).before args s = true) (hy : y.cls ≠ "java/lang/invoke/MethodHandle" ∧ y.cls ≠ "java/lang/invoke/VarHandle")
    {W9 : Nat} {Pre : Pt → Array Value → Prop} {Post : Pt → Array Value → Option Value → Pt → Prop} {PostX : Pt → Array Value → Addr → Pt → Prop} (hK : vx_Back l R p e below s args y 3 W9 Pre Post PostX)
    {g : JFrame} (hg : g.method = m) (hsize : g.locals.size = c.maxLocals) {argsL rest : List Value} (hlen : ∀ sig, parseMethodDescriptor y.desc = some sig → argsL.length = sig.parameters.length)
    (hstack : g.stack = argsL.reverse ++ rest) (hW : 2 * g.monitorRoom + (rest.map fun v => v.category).sum ≤ W9) (hdg : decode c.code g.pc = .ok (.invokestatic index, 3))
    (hpre : ∀ vm₁, s.WarmedH vm₁ → Pre ⟨T.setVm vm₁, locs, cells, slots⟩ argsL.toArray) :
    (∃ (v : Option Value) (vm₁ : Vm) (B : Pt), s.WarmedH vm₁ ∧ Stand p l e R s m args below meth c B.U B.locs B.cells B.slots ∧ Post ⟨T.setVm vm₁, locs, cells, slots⟩ argsL.toArray v B ∧
      ∀ target, Steps p.tables e below (B.U.setTop { g with pc := g.pc + 3, stack := v.toList ++ rest }) target → Steps p.tables e below (T.setTop g) target) ∨
    (∃ (q : Addr) (vm₁ : Vm) (B : Pt), s.WarmedH vm₁ ∧ Stand p l e R s m args below meth c B.U B.locs B.cells B.slots ∧ PostX ⟨T.setVm vm₁, locs, cells, slots⟩ argsL.toArray q B ∧
      Steps p.tables e below (T.setTop g) ((B.U.setTop { g with stack := rest }).pushFrame (.throwing q))) := by
  obtain ⟨mk, hnamed⟩ := Cond.code_named hcode
  obtain ⟨methM, cM, hmethM, -, -, -, -, -, -, hsigM⟩ := Cond.code_spec hnamed hcode
  have hstatic : methM.isStatic = true := Cond.static_spec hnamed hmethM hstat
  obtain ⟨kP, hkP, -⟩ := className_of_methodNamed hnamed
  have hinitP : kP.init = .initialized := Cond.initialized_spec (findClass_of_methodNamed hnamed) hkP hinit
  obtain ⟨vm₁, X₁, hstep₁⟩ := X.invokestatic hexec hown hlink hnamed hmethM hstatic hkP hinitP hy (g := g) hg (argsL := argsL) (rest := rest) (hlen _ hsigM) hstack hdg
  rcases hK m meth c ⟨T.setVm vm₁, locs, cells, slots⟩ { g with stack := rest } (.invokestatic index) mk argsL.toArray X₁ hg hsize hdg hW (X₁.named hnamed) (hpre vm₁ X₁.warmed) with ⟨v, B, X', hpost, hsteps⟩ | ⟨q, B, X', hpost, hsteps⟩
  · exact Or.inl ⟨v, vm₁, B, X₁.warmed, X', hpost, fun target h => hstep₁ _ fun acts => by rw [doInvoke_state]; exact hsteps.trans h⟩
  · exact Or.inr ⟨q, vm₁, B, X₁.warmed, X', hpost, hstep₁ _ fun acts => by rw [doInvoke_state]; exact hsteps⟩
end Calls
theorem vx_cls {s : State} {T : State} {vm₁ : Vm} {E : String} {k : ClassId} (hW : s.WarmedH vm₁) (h : (T.setVm vm₁).vm.findClass E = some k) : s.vm.findClass E = some k := by
  have h1 : vm₁.findClass E = some k := h
  rw [hW.alike.findClass] at h1
  exact h1
/-- the method's frame g, with q thrown over it -/
def vx_W (p : Program) (l : Launch) (e : Env) (R : Room) (s : State) (m : MethodId) (args : Array Value) (below : List Frame) (meth : Method) (c : Code) (H : Heap) (locs : List Loc) (cells slots : Nat) (Q : State → Prop) (g : JFrame) (q : Addr) : Prop :=
  ∀ T : State, T.heap = H → Stand p l e R s m args below meth c T locs cells slots → ∃ t, Steps p.tables e below ((T.setTop g).pushFrame (.throwing q)) t ∧ Q t
def vx_Run (p : Program) (l : Launch) (e : Env) (R : Room) (s : State) (m : MethodId) (args : Array Value) (below : List Frame) (meth : Method) (c : Code) (H : Heap) (locs : List Loc) (cells slots mc ms : Nat) (g : JFrame) (rest : List Value) (Qa : State → Outcome → State → Prop) (XC : String → State → State → Prop) (free : Addr → Prop) : Prop :=
  ∀ T : State, T.heap = H → Stand p l e R s m args below meth c T locs cells slots →
    (∃ (v : Option Value) (st₀ t T' : State) (L : List Loc), st₀.heap = H ∧ Stand p l e R s m args below meth c T' (locs ++ L) (cells + mc) (slots + ms) ∧ (∀ q ∈ L, free q.base) ∧ T'.heap = t.heap ∧ T'.vm = t.vm ∧ Qa st₀ (.returned v) t ∧
      Goes p e below T g T' { g with pc := g.pc + 3, stack := v.toList ++ rest }) ∨
    (∃ (q : Addr) (st₀ t T' : State) (L : List Loc) (E : String) (ce : Cell), st₀.heap = H ∧ Stand p l e R s m args below meth c T' (locs ++ L) (cells + mc) (slots + ms) ∧ (∀ z ∈ L, free z.base) ∧ T'.heap = t.heap ∧ T'.vm = t.vm ∧ XC E st₀ t ∧ t.heap[q]? = some ce ∧ ce.vm = .none ∧ s.vm.findClass E = some ce.cls ∧
      Steps p.tables e below (T.setTop g) ((T'.setTop { g with stack := rest }).pushFrame (.throwing q)))
def vx_X {S : Type} (px : S → Prop) (B : String → S → State → Prop) (A : Nat → Prop) : String → State → State → Prop := fun E st t => ∃ u : S, px u ∧ B E u t ∧ va_F A st t
section Runs
variable {p : Program} {l : Launch} {e : Env} {R : Room} {s : State} {m : MethodId} {args : Array Value} {below : List Frame} {meth : Method} {c : Code} {H : Heap} {locs : List Loc} {cells slots : Nat}
variable {y : MethodName} {bytes cc : ByteArray} {maxL nL mc ms n index : Nat} {ret : Option FieldType} {ws : List Cond} {rm : Room} {Pc : Array Value → State → Prop} {Qc : Array Value → State → Outcome → State → Prop} {XC : String → State → State → Prop} {free : Addr → Prop} {Ts : List Cond} {own C : String} {b : Addr} {As rest : List Value} {g : JFrame}
theorem vx_callBack (cb : CallB R s args own index y bytes maxL ret ws rm mc ms n) (hM : vx_Met l y ws rm Pc Qc XC mc ms free) (hbl : FrameBlind Pc) : vx_Back l R p e below s args y 3 8 (PreOf R mc ms Pc) (PostOf Qc mc ms free) (vx_Post XC mc ms free) := by
  obtain ⟨hrc, hrs, hfr, hlo, hws, hcw, -, hini, -⟩ := cb
  exact vx_back (bytes := bytes) (maxL := maxL) (ret := ret) hM hbl hrc hrs hfr hlo hws hcw (fun a' U hW => word_at hW (Or.inl (by first | rfl | simp [Cond.onTables, Cond.keeps, Cond.steady])) hini)
theorem vx_runV (S : CallFix p m c cc nL s args Ts own) (hM : vx_Met l y ws rm Pc Qc XC mc ms free) (cw : CallW R s args own C index y bytes maxL ret ws rm mc ms n) (hp : PreV s H C b Pc As)
    (hg : g.method = m) (hn : As.length = n) (hsize : g.locals.size = nL) (hstack : g.stack = As.reverse ++ .ref b :: rest) (hW : 2 * g.monitorRoom + (rest.map fun v => v.category).sum ≤ 8) (hdg : decode cc g.pc = .ok (.invokevirtual index, 3)) (hf : cells + mc ≤ R.cells ∧ slots + ms ≤ R.slots) :
    vx_Run p l e R s m args below meth c H locs cells slots mc ms g rest (Qc (Value.ref b :: As).toArray) XC free := by
  have hK : vx_Back l R p e below s args y 3 8 (PreOf R mc ms Pc) (PostOf Qc mc ms free) (vx_Post XC mc ms free) := vx_callBack cw.1 hM hp.1
  obtain ⟨⟨-, -, -, -, -, -, hcode, -, hy, hlen, hl⟩, hin, hse⟩ := cw
  obtain ⟨hx, hb, hml, ho, -⟩ := S
  obtain ⟨-, ⟨cellB, hcB, hoB, hclB⟩, hPc⟩ := hp
  intro T hT X
  rcases vx_callV X hx (C := C) (bytes := bytes) (maxL := maxL) (ret := ret) ho hl hin hse hcode hy hK (by rw [hT]; exact hcB) hoB hclB hg (hsize.trans hml.symm) (argsL := As) (rest := rest) (fun sig h => hn.trans (hlen sig h)) hstack hW (by rw [hb]; exact hdg)
    (fun vm₁ hW₁ => ⟨hf.1, hf.2, hPc (T.setVm vm₁) hT hW₁⟩) with ⟨v, vm₁, ⟨U', l2, c2, s2⟩, hW₁, X', ⟨g', mk, t, L, e1, e2, hq, h1, hL, h2, h3⟩, st⟩ | ⟨q, vm₁, ⟨U', l2, c2, s2⟩, hW₁, X', ⟨g', mk, t, L, E, ce, e1, e2, hq, hce, hcv, hcl, h1, hL, h2, h3⟩, st⟩
  · dsimp only [Pt.U, Pt.locs, Pt.cells, Pt.slots] at X' e1 e2 h1 h2 h3 st
    subst h1; subst h2; subst h3
    exact Or.inl ⟨v, (T.setVm vm₁).calling g' mk (Value.ref b :: As).toArray, t, U', L, hT, X', hL, e1, e2, hq, st⟩
  · dsimp only [Pt.U, Pt.locs, Pt.cells, Pt.slots] at X' e1 e2 h1 h2 h3 st hcl
    subst h1; subst h2; subst h3
    exact Or.inr ⟨q, (T.setVm vm₁).calling g' mk (Value.ref b :: As).toArray, t, U', L, E, ce, hT, X', hL, e1, e2, hq, hce, hcv, vx_cls hW₁ hcl, st⟩
theorem vx_runS (S : CallFix p m c cc nL s args Ts own) (hM : vx_Met l y ws rm Pc Qc XC mc ms free) (cw : CallB R s args own index y bytes maxL ret ws rm mc ms n ∧ (Cond.static y).before args s = true) (hp : PreS s H Pc As)
    (hg : g.method = m) (hn : As.length = n) (hsize : g.locals.size = nL) (hstack : g.stack = As.reverse ++ rest) (hW : 2 * g.monitorRoom + (rest.map fun v => v.category).sum ≤ 8) (hdg : decode cc g.pc = .ok (.invokestatic index, 3)) (hf : cells + mc ≤ R.cells ∧ slots + ms ≤ R.slots) :
    vx_Run p l e R s m args below meth c H locs cells slots mc ms g rest (Qc As.toArray) XC free := by
  have hK : vx_Back l R p e below s args y 3 8 (PreOf R mc ms Pc) (PostOf Qc mc ms free) (vx_Post XC mc ms free) := vx_callBack cw.1 hM hp.1
  obtain ⟨⟨-, -, -, -, -, -, hcode, hini, hy, hlen, hl⟩, hstt⟩ := cw
  obtain ⟨hx, hb, hml, ho, -⟩ := S
  intro T hT X
  rcases vx_callS X hx (bytes := bytes) (maxL := maxL) (ret := ret) ho hl hstt hini hcode hy hK hg (hsize.trans hml.symm) (argsL := As) (rest := rest) (fun sig h => hn.trans (hlen sig h)) hstack hW (by rw [hb]; exact hdg)
    (fun vm₁ hW₁ => ⟨hf.1, hf.2, hp.2 (T.setVm vm₁) hT hW₁⟩) with ⟨v, vm₁, ⟨U', l2, c2, s2⟩, hW₁, X', ⟨g', mk, t, L, e1, e2, hq, h1, hL, h2, h3⟩, st⟩ | ⟨q, vm₁, ⟨U', l2, c2, s2⟩, hW₁, X', ⟨g', mk, t, L, E, ce, e1, e2, hq, hce, hcv, hcl, h1, hL, h2, h3⟩, st⟩
  · dsimp only [Pt.U, Pt.locs, Pt.cells, Pt.slots] at X' e1 e2 h1 h2 h3 st
    subst h1; subst h2; subst h3
    exact Or.inl ⟨v, (T.setVm vm₁).calling g' mk As.toArray, t, U', L, hT, X', hL, e1, e2, hq, st⟩
  · dsimp only [Pt.U, Pt.locs, Pt.cells, Pt.slots] at X' e1 e2 h1 h2 h3 st hcl
    subst h1; subst h2; subst h3
    exact Or.inr ⟨q, (T.setVm vm₁).calling g' mk As.toArray, t, U', L, E, ce, hT, X', hL, e1, e2, hq, hce, hcv, vx_cls hW₁ hcl, st⟩
end Runs
section Rows
variable {p : Program} {l : Launch} {e : Env} {R : Room} {s : State} {m : MethodId} {args : Array Value} {below : List Frame} {meth : Method} {c : Code} {H : Heap} {locs : List Loc} {cells slots : Nat} {Q : State → Prop}
variable {mc ms : Nat} {free : Addr → Prop} {A0 A1 : Nat → Prop} {H0 : Heap} {a : Array Value} {pc : Nat} {ls : Array Slot} {st0 rest : List Value}
theorem vx_keep {st₀ t T' : State} {L : List Loc} (h0 : st₀.heap = H) (e1 : T'.heap = t.heap) (hS : va_S A0 H0 H locs) (hA : ∀ q, q < H.size → A1 q → A0 q) (hf : ∀ q, free q → A0 q) (hL : ∀ q ∈ L, free q.base) (hF : va_F A1 st₀ t) :
    H.size ≤ T'.heap.size ∧ (∀ q : Nat, q < H.size → ¬ A1 q → T'.heap[q]? = H[q]?) ∧ va_S A0 H0 T'.heap (locs ++ L) := by
  obtain ⟨hz, hk⟩ := hF
  rw [h0] at hz hk
  exact ⟨by rw [e1]; exact hz, fun q h1 h2 => by rw [e1]; exact hk q h1 h2,
    ⟨Nat.le_trans hS.1 (by rw [e1]; exact hz), fun q h1 h2 => by rw [e1, hk q (Nat.lt_of_lt_of_le h1 hS.1) (fun z => h2 (hA q (Nat.lt_of_lt_of_le h1 hS.1) z))]; exact hS.2.1 q h1 h2, fun q hq => by
      rcases List.mem_append.mp hq with h | h
      · exact hS.2.2 q h
      · exact hf _ (hL q h)⟩⟩
theorem vx_calli {S SX : Type} {post : Int32 → S → Prop} {px : SX → Prop} {B : S → State → Prop} {BX : String → SX → State → Prop} {AX : Nat → Prop} (hr : vx_Run p l e R s m args below meth c H locs cells slots mc ms (F0 m pc ls st0) rest (va_Qi post B A1 a) (vx_X px BX AX) free) (hS : va_S A0 H0 H locs) (hA : ∀ q, q < H.size → A1 q → A0 q) (hf : ∀ q, free q → A0 q) (hAX : ∀ q, q < H.size → AX q → A0 q)
    (kx : ∀ (E : String) (ce : Cell) (q9 : Addr) (u : SX) (t : State) (H1 : Heap) (locs1 : List Loc), t.heap = H1 → s.vm.Alike t.vm → px u → BX E u t → H.size ≤ H1.size → (∀ q : Nat, q < H.size → ¬ AX q → H1[q]? = H[q]?) → va_S A0 H0 H1 locs1 → H1[q9]? = some ce → ce.vm = .none → s.vm.findClass E = some ce.cls → vx_W p l e R s m args below meth c H1 locs1 (cells + mc) (slots + ms) Q (F0 m pc ls rest) q9)
    (kk : ∀ (r : Int32) (u : S) (t : State) (H1 : Heap) (locs1 : List Loc), t.heap = H1 → s.vm.Alike t.vm → post r u → B u t → H.size ≤ H1.size → (∀ q : Nat, q < H.size → ¬ A1 q → H1[q]? = H[q]?) → va_S A0 H0 H1 locs1 → W p l e R s m args below meth c H1 locs1 (cells + mc) (slots + ms) Q (F0 m (pc + 3) ls (.int r :: rest))) : W p l e R s m args below meth c H locs cells slots Q (F0 m pc ls st0) := by
  intro T hT X
  rcases hr T hT X with ⟨v, st₀, t, T', L, h0, X', hL, e1, e2, ⟨⟨r, u, hv, hp, hb⟩, hF⟩, st⟩ | ⟨q, st₀, t, T', L, E, ce, h0, X', hL, e1, e2, ⟨u, hp, hb, hF⟩, hce, hcv, hcl, st⟩
  · cases hv
    obtain ⟨k1, k2, k3⟩ := vx_keep h0 e1 hS hA hf hL hF
    obtain ⟨t2, a1, b1⟩ := kk r u t T'.heap (locs ++ L) e1.symm (by rw [← e2]; exact X'.warmed.alike) hp hb k1 k2 k3 T' rfl X'
    exact ⟨t2, st t2 a1, b1⟩
  · obtain ⟨k1, k2, k3⟩ := vx_keep h0 e1 hS hAX hf hL hF
    obtain ⟨t2, a1, b1⟩ := kx E ce q u t T'.heap (locs ++ L) e1.symm (by rw [← e2]; exact X'.warmed.alike) hp hb k1 k2 k3 (by rw [e1]; exact hce) hcv hcl T' rfl X'
    exact ⟨t2, st.trans a1, b1⟩
theorem vx_calll {S SX : Type} {post : Int64 → S → Prop} {px : SX → Prop} {B : S → State → Prop} {BX : String → SX → State → Prop} {AX : Nat → Prop} (hr : vx_Run p l e R s m args below meth c H locs cells slots mc ms (F0 m pc ls st0) rest (va_Ql post B A1 a) (vx_X px BX AX) free) (hS : va_S A0 H0 H locs) (hA : ∀ q, q < H.size → A1 q → A0 q) (hf : ∀ q, free q → A0 q) (hAX : ∀ q, q < H.size → AX q → A0 q)
    (kx : ∀ (E : String) (ce : Cell) (q9 : Addr) (u : SX) (t : State) (H1 : Heap) (locs1 : List Loc), t.heap = H1 → s.vm.Alike t.vm → px u → BX E u t → H.size ≤ H1.size → (∀ q : Nat, q < H.size → ¬ AX q → H1[q]? = H[q]?) → va_S A0 H0 H1 locs1 → H1[q9]? = some ce → ce.vm = .none → s.vm.findClass E = some ce.cls → vx_W p l e R s m args below meth c H1 locs1 (cells + mc) (slots + ms) Q (F0 m pc ls rest) q9)
    (kk : ∀ (r : Int64) (u : S) (t : State) (H1 : Heap) (locs1 : List Loc), t.heap = H1 → s.vm.Alike t.vm → post r u → B u t → H.size ≤ H1.size → (∀ q : Nat, q < H.size → ¬ A1 q → H1[q]? = H[q]?) → va_S A0 H0 H1 locs1 → W p l e R s m args below meth c H1 locs1 (cells + mc) (slots + ms) Q (F0 m (pc + 3) ls (.long r :: rest))) : W p l e R s m args below meth c H locs cells slots Q (F0 m pc ls st0) := by
  intro T hT X
  rcases hr T hT X with ⟨v, st₀, t, T', L, h0, X', hL, e1, e2, ⟨⟨r, u, hv, hp, hb⟩, hF⟩, st⟩ | ⟨q, st₀, t, T', L, E, ce, h0, X', hL, e1, e2, ⟨u, hp, hb, hF⟩, hce, hcv, hcl, st⟩
  · cases hv
    obtain ⟨k1, k2, k3⟩ := vx_keep h0 e1 hS hA hf hL hF
    obtain ⟨t2, a1, b1⟩ := kk r u t T'.heap (locs ++ L) e1.symm (by rw [← e2]; exact X'.warmed.alike) hp hb k1 k2 k3 T' rfl X'
    exact ⟨t2, st t2 a1, b1⟩
  · obtain ⟨k1, k2, k3⟩ := vx_keep h0 e1 hS hAX hf hL hF
    obtain ⟨t2, a1, b1⟩ := kx E ce q u t T'.heap (locs ++ L) e1.symm (by rw [← e2]; exact X'.warmed.alike) hp hb k1 k2 k3 (by rw [e1]; exact hce) hcv hcl T' rfl X'
    exact ⟨t2, st.trans a1, b1⟩
theorem vx_callf {S SX : Type} {post : UInt32 → S → Prop} {px : SX → Prop} {B : S → State → Prop} {BX : String → SX → State → Prop} {AX : Nat → Prop} (hr : vx_Run p l e R s m args below meth c H locs cells slots mc ms (F0 m pc ls st0) rest (va_Qf post B A1 a) (vx_X px BX AX) free) (hS : va_S A0 H0 H locs) (hA : ∀ q, q < H.size → A1 q → A0 q) (hf : ∀ q, free q → A0 q) (hAX : ∀ q, q < H.size → AX q → A0 q)
    (kx : ∀ (E : String) (ce : Cell) (q9 : Addr) (u : SX) (t : State) (H1 : Heap) (locs1 : List Loc), t.heap = H1 → s.vm.Alike t.vm → px u → BX E u t → H.size ≤ H1.size → (∀ q : Nat, q < H.size → ¬ AX q → H1[q]? = H[q]?) → va_S A0 H0 H1 locs1 → H1[q9]? = some ce → ce.vm = .none → s.vm.findClass E = some ce.cls → vx_W p l e R s m args below meth c H1 locs1 (cells + mc) (slots + ms) Q (F0 m pc ls rest) q9)
    (kk : ∀ (r : UInt32) (u : S) (t : State) (H1 : Heap) (locs1 : List Loc), t.heap = H1 → s.vm.Alike t.vm → post r u → B u t → H.size ≤ H1.size → (∀ q : Nat, q < H.size → ¬ A1 q → H1[q]? = H[q]?) → va_S A0 H0 H1 locs1 → W p l e R s m args below meth c H1 locs1 (cells + mc) (slots + ms) Q (F0 m (pc + 3) ls (.float r :: rest))) : W p l e R s m args below meth c H locs cells slots Q (F0 m pc ls st0) := by
  intro T hT X
  rcases hr T hT X with ⟨v, st₀, t, T', L, h0, X', hL, e1, e2, ⟨⟨r, u, hv, hp, hb⟩, hF⟩, st⟩ | ⟨q, st₀, t, T', L, E, ce, h0, X', hL, e1, e2, ⟨u, hp, hb, hF⟩, hce, hcv, hcl, st⟩
  · cases hv
    obtain ⟨k1, k2, k3⟩ := vx_keep h0 e1 hS hA hf hL hF
    obtain ⟨t2, a1, b1⟩ := kk r u t T'.heap (locs ++ L) e1.symm (by rw [← e2]; exact X'.warmed.alike) hp hb k1 k2 k3 T' rfl X'
    exact ⟨t2, st t2 a1, b1⟩
  · obtain ⟨k1, k2, k3⟩ := vx_keep h0 e1 hS hAX hf hL hF
    obtain ⟨t2, a1, b1⟩ := kx E ce q u t T'.heap (locs ++ L) e1.symm (by rw [← e2]; exact X'.warmed.alike) hp hb k1 k2 k3 (by rw [e1]; exact hce) hcv hcl T' rfl X'
    exact ⟨t2, st.trans a1, b1⟩
theorem vx_calld {S SX : Type} {post : UInt64 → S → Prop} {px : SX → Prop} {B : S → State → Prop} {BX : String → SX → State → Prop} {AX : Nat → Prop} (hr : vx_Run p l e R s m args below meth c H locs cells slots mc ms (F0 m pc ls st0) rest (va_Qd post B A1 a) (vx_X px BX AX) free) (hS : va_S A0 H0 H locs) (hA : ∀ q, q < H.size → A1 q → A0 q) (hf : ∀ q, free q → A0 q) (hAX : ∀ q, q < H.size → AX q → A0 q)
    (kx : ∀ (E : String) (ce : Cell) (q9 : Addr) (u : SX) (t : State) (H1 : Heap) (locs1 : List Loc), t.heap = H1 → s.vm.Alike t.vm → px u → BX E u t → H.size ≤ H1.size → (∀ q : Nat, q < H.size → ¬ AX q → H1[q]? = H[q]?) → va_S A0 H0 H1 locs1 → H1[q9]? = some ce → ce.vm = .none → s.vm.findClass E = some ce.cls → vx_W p l e R s m args below meth c H1 locs1 (cells + mc) (slots + ms) Q (F0 m pc ls rest) q9)
    (kk : ∀ (r : UInt64) (u : S) (t : State) (H1 : Heap) (locs1 : List Loc), t.heap = H1 → s.vm.Alike t.vm → post r u → B u t → H.size ≤ H1.size → (∀ q : Nat, q < H.size → ¬ A1 q → H1[q]? = H[q]?) → va_S A0 H0 H1 locs1 → W p l e R s m args below meth c H1 locs1 (cells + mc) (slots + ms) Q (F0 m (pc + 3) ls (.double r :: rest))) : W p l e R s m args below meth c H locs cells slots Q (F0 m pc ls st0) := by
  intro T hT X
  rcases hr T hT X with ⟨v, st₀, t, T', L, h0, X', hL, e1, e2, ⟨⟨r, u, hv, hp, hb⟩, hF⟩, st⟩ | ⟨q, st₀, t, T', L, E, ce, h0, X', hL, e1, e2, ⟨u, hp, hb, hF⟩, hce, hcv, hcl, st⟩
  · cases hv
    obtain ⟨k1, k2, k3⟩ := vx_keep h0 e1 hS hA hf hL hF
    obtain ⟨t2, a1, b1⟩ := kk r u t T'.heap (locs ++ L) e1.symm (by rw [← e2]; exact X'.warmed.alike) hp hb k1 k2 k3 T' rfl X'
    exact ⟨t2, st t2 a1, b1⟩
  · obtain ⟨k1, k2, k3⟩ := vx_keep h0 e1 hS hAX hf hL hF
    obtain ⟨t2, a1, b1⟩ := kx E ce q u t T'.heap (locs ++ L) e1.symm (by rw [← e2]; exact X'.warmed.alike) hp hb k1 k2 k3 (by rw [e1]; exact hce) hcv hcl T' rfl X'
    exact ⟨t2, st.trans a1, b1⟩
theorem vx_callv {S SX : Type} {post : S → Prop} {px : SX → Prop} {B : S → State → Prop} {BX : String → SX → State → Prop} {AX : Nat → Prop} (hr : vx_Run p l e R s m args below meth c H locs cells slots mc ms (F0 m pc ls st0) rest (va_Qv post B A1 a) (vx_X px BX AX) free) (hS : va_S A0 H0 H locs) (hA : ∀ q, q < H.size → A1 q → A0 q) (hf : ∀ q, free q → A0 q) (hAX : ∀ q, q < H.size → AX q → A0 q)
    (kx : ∀ (E : String) (ce : Cell) (q9 : Addr) (u : SX) (t : State) (H1 : Heap) (locs1 : List Loc), t.heap = H1 → s.vm.Alike t.vm → px u → BX E u t → H.size ≤ H1.size → (∀ q : Nat, q < H.size → ¬ AX q → H1[q]? = H[q]?) → va_S A0 H0 H1 locs1 → H1[q9]? = some ce → ce.vm = .none → s.vm.findClass E = some ce.cls → vx_W p l e R s m args below meth c H1 locs1 (cells + mc) (slots + ms) Q (F0 m pc ls rest) q9)
    (kk : ∀ (u : S) (t : State) (H1 : Heap) (locs1 : List Loc), t.heap = H1 → s.vm.Alike t.vm → post u → B u t → H.size ≤ H1.size → (∀ q : Nat, q < H.size → ¬ A1 q → H1[q]? = H[q]?) → va_S A0 H0 H1 locs1 → W p l e R s m args below meth c H1 locs1 (cells + mc) (slots + ms) Q (F0 m (pc + 3) ls (rest))) : W p l e R s m args below meth c H locs cells slots Q (F0 m pc ls st0) := by
  intro T hT X
  rcases hr T hT X with ⟨v, st₀, t, T', L, h0, X', hL, e1, e2, ⟨⟨u, hv, hp, hb⟩, hF⟩, st⟩ | ⟨q, st₀, t, T', L, E, ce, h0, X', hL, e1, e2, ⟨u, hp, hb, hF⟩, hce, hcv, hcl, st⟩
  · cases hv
    obtain ⟨k1, k2, k3⟩ := vx_keep h0 e1 hS hA hf hL hF
    obtain ⟨t2, a1, b1⟩ := kk u t T'.heap (locs ++ L) e1.symm (by rw [← e2]; exact X'.warmed.alike) hp hb k1 k2 k3 T' rfl X'
    exact ⟨t2, st t2 a1, b1⟩
  · obtain ⟨k1, k2, k3⟩ := vx_keep h0 e1 hS hAX hf hL hF
    obtain ⟨t2, a1, b1⟩ := kx E ce q u t T'.heap (locs ++ L) e1.symm (by rw [← e2]; exact X'.warmed.alike) hp hb k1 k2 k3 (by rw [e1]; exact hce) hcv hcl T' rfl X'
    exact ⟨t2, st.trans a1, b1⟩
/-- caught by the row x of this method's table; the rows ahead don't take it -/
theorem vx_catch {own name : String} {E : String} {ce : Cell} {q : Addr} (hown : s.vm.findClass own = some m.cls) (pre : List ExceptionTableEntry) (x : ExceptionTableEntry) (suf : List ExceptionTableEntry) (hsplit : c.exceptionTable.toList = pre ++ x :: suf)
    (hpass : ∀ z ∈ pre, covers z pc = false ∨ (z.catchType ≠ 0 ∧ ∃ nm : String, (Cond.classLink own z.catchType nm).before args s = true ∧ va_Nc E nm s)) (hx : covers x pc = true) (h0 : x.catchType ≠ 0)
    (hlink : (Cond.classLink own x.catchType name).before args s = true) (hcast : (Cond.castable E name).before args s = true) (hcell : H[q]? = some ce) (hv : ce.vm = .none) (hcl : s.vm.findClass E = some ce.cls)
    (kk : W p l e R s m args below meth c H locs cells slots Q (F0 m x.handlerPc ls [.ref q])) : vx_W p l e R s m args below meth c H locs cells slots Q (F0 m pc ls rest) q := by
  intro T hT X
  have hpl : e.platform.magicAccessors = ({} : Platform).magicAccessors := by rw [X.admits.platform]
  obtain ⟨c3, c4, hc3, hc4, hasg⟩ := Cond.castable_spec hcast
  cases Option.some.inj (hc3.symm.trans hcl)
  obtain ⟨c5, hc5, hcl5⟩ := Cond.classLink_spec hown hlink e.platform hpl
  cases Option.some.inj (hc4.symm.trans hc5)
  obtain ⟨vm', X', st⟩ := X.thenCaughtThrough q (g := F0 m pc ls rest) rfl (Steps.refl _) (by rw [hT]; exact hcell) (by rw [hv]; rfl) (by obtain ⟨k9, h9, -⟩ := Vm.findClass_spec hcl; exact ⟨k9, h9⟩) pre x suf hsplit
    (fun z hz => by
      rcases hpass z hz with h | ⟨hz0, nm, hl1, hn1⟩
      · exact Or.inl h
      · obtain ⟨c6, hc6, hcl6⟩ := Cond.classLink_spec hown hl1 e.platform hpl
        obtain ⟨a8, b8, h1, h2, h3⟩ := hn1
        cases Option.some.inj (h1.symm.trans hcl)
        cases Option.some.inj (h2.symm.trans hc6)
        exact Or.inr ⟨hz0, _, hcl6, h3⟩) hx (Or.inr ⟨h0, c4, hcl5, hasg⟩)
  obtain ⟨t, a1, b1⟩ := kk (T.setVm vm') hT X'
  exact ⟨t, st.trans a1, b1⟩
end Rows
section Ends
variable {p : Program} {l : Launch} {e : Env} {R : Room} {s : State} {m : MethodId} {args : Array Value} {below : List Frame} {meth : Method} {c : Code} {H : Heap} {locs : List Loc} {cells slots : Nat} {Q : State → Prop}
variable {mc ms : Nat} {free : Addr → Prop} {A0 A1 : Nat → Prop} {H0 : Heap} {a : Array Value} {ls : Array Slot} {st0 rest : List Value}
variable {Qc : Array Value → State → Outcome → State → Prop} {XC : String → State → State → Prop}
/-- what a body that may throw owes at its end -/
def vx_MQ (below : List Frame) (Qc : Array Value → State → Outcome → State → Prop) (XC : String → State → State → Prop) (a : Array Value) (s : State) (mc ms : Nat) (free : Addr → Prop) : State → Prop := fun t =>
  ∃ o, t.status = .running ∧ Ended t below o ∧ vx_Q Qc XC mc ms free a s o t
theorem vx_ret {g : JFrame} {mc ms : Nat} (k : W p l e R s m args below meth c H locs cells slots (MQ below Qc args s mc ms free) g) : W p l e R s m args below meth c H locs cells slots (vx_MQ below Qc XC args s mc ms free) g := by
  intro T hT X
  obtain ⟨t, a1, o, b1, b2, b3, b4⟩ := k T hT X
  exact ⟨t, a1, o, b1, b2, Or.inl ⟨b3, b4⟩⟩
/-- not caught here: it goes on to the caller -/
theorem vx_widen {g : JFrame} {q : Addr} {k n : Nat} (h1 : cells ≤ k) (h2 : slots ≤ n) (kk : vx_W p l e R s m args below meth c H locs k n Q g q) : vx_W p l e R s m args below meth c H locs cells slots Q g q := fun T hT X => kk T hT (stand_widen X h1 h2)
theorem vx_out {pc : Nat} {E : String} {ce : Cell} {q : Addr} {mc ms : Nat} (hout : ∀ x ∈ c.exceptionTable.toList, covers x pc = false) (hlocks : meth.locks = false) (hcell : H[q]? = some ce) (hv : ce.vm = .none) (hcl : s.vm.findClass E = some ce.cls)
    (hx : ∀ t : State, t.heap = H → s.vm.Alike t.vm → XC E s t) (hf : ∀ z ∈ locs, free z.base) (hc : cells ≤ mc) (hs : slots ≤ ms) :
    vx_W p l e R s m args below meth c H locs cells slots (vx_MQ below Qc XC args s mc ms free) (F0 m pc ls rest) q := by
  intro T hT X
  obtain ⟨st1, hrun, hend, hW, hsm⟩ := X.leaveThrown q (g := F0 m pc ls rest) rfl rfl rfl hout hlocks
  have hcell9 : (T.setFrames (.throwing q :: below)).heap[q]? = some ce := by
    show T.heap[q]? = some ce
    rw [hT]; exact hcell
  exact ⟨_, st1, .threw q, hrun, hend, Or.inr ⟨q, rfl, E, ce, locs, hx _ hT hW.alike, hcell9, hv, hcl, hW, hsm.mono hc hs, hf⟩⟩
theorem vx_frame {U : State} {k n : Nat} (h : s.sameButNew ({ U with vm := s.vm } : State) locs k n) : s.heap.size ≤ U.heap.size ∧ ∀ q : Nat, q < s.heap.size → (∀ z ∈ locs, z.base ≠ q) → U.heap[q]? = s.heap[q]? := by
  obtain ⟨-, h2, -, -, -, h6⟩ := h
  refine ⟨h2, fun q hq hz => ?_⟩
  obtain ⟨c9, e1, e2, e3, e4⟩ := h6 q _ (Array.getElem?_eq_getElem hq)
  have hs : c9.slots = (s.heap[q]).slots := Array.ext_getElem? fun i => e4 i fun hm => hz _ hm rfl
  have h9 : c9 = s.heap[q] := by
    rw [hs] at e2
    exact e2
  have e5 : U.heap[q]? = some c9 := e1
  rw [e5, h9, Array.getElem?_eq_getElem hq]
/-- the words of a throw but the four that speak of the heap -/
def vx_no (w : Cond) : Bool := decide (w ≠ .isRef (.static Bundle.tN "UNASSIGNED_STACK" Bundle.steD)) && decide (w ≠ .isRef (.static Bundle.tN "SUPPRESSED_SENTINEL" Bundle.listD)) && decide (w ≠ .laysStatic Bundle.tN "UNASSIGNED_STACK" Bundle.steD) && decide (w ≠ .laysStatic Bundle.tN "SUPPRESSED_SENTINEL" Bundle.listD)
def vx_at0 (own : String) (ic : Nat) (X : String) (names : List String) : List Cond := (Bundle.ownAtoms0 own ic X names).filter vx_no
def vx_atS (own : String) (ic : Nat) (X : String) (names : List String) : List Cond := (Bundle.ownAtoms own ic X names).filter vx_no
/-- a word that the tables alone decide, or a good one -/
def vx_ot (w : Cond) : Bool := w.onTables || goodWord w
theorem vx_ot_at {args a' : Array Value} {s U : State} {w : Cond} (hW : s.WarmedH U.vm) (hvm : s.vm = U.vm) (hg : vx_ot w = true) (h : w.before args s = true) : w.before a' U = true := by
  simp only [vx_ot, Bool.or_eq_true] at hg
  rcases hg with hg | hg
  · exact va_tabs hg hvm h
  · exact word_at hW (good_of_word hg) h
/-- a list's words: the good ones out of the method's own list, the others by premises of their own -/
theorem vx_hat {args : Array Value} {s : State} {L B : List Cond} (h1 : ∀ w ∈ L.filter goodWord, w.before args s = true) (h2 : ∀ w ∈ L.filter (fun w => !goodWord w), w ∈ B) (h3 : ∀ w ∈ B, w.before args s = true) : ∀ w ∈ L, w.before args s = true := by
  intro w hw
  by_cases g : goodWord w = true
  · exact h1 w (List.mem_filter.mpr ⟨hw, g⟩)
  · refine h3 w (h2 w (List.mem_filter.mpr ⟨hw, ?_⟩))
    show (!goodWord w) = true
    cases hgw : goodWord w
    · rfl
    · exact absurd hgw g
theorem vx_c {args : Array Value} {s : State} {w : Cond} {B : List Cond} (h : w.before args s = true) (t : ∀ w ∈ B, w.before args s = true) : ∀ w' ∈ w :: B, w'.before args s = true := fun w' h' => (List.mem_cons.mp h').elim (fun e => by rw [e]; exact h) (t w')
theorem vx_n {args : Array Value} {s : State} : ∀ w ∈ ([] : List Cond), w.before args s = true := fun _ h => nomatch h
theorem vx_own {args : Array Value} {s : State} {L : List Cond} (h1 : ∀ w ∈ L.filter vx_no, w.before args s = true)
    (hU : (Cond.isRef (.static Bundle.tN "UNASSIGNED_STACK" Bundle.steD)).before args s = true) (hN : (Cond.isRef (.static Bundle.tN "SUPPRESSED_SENTINEL" Bundle.listD)).before args s = true)
    (lU : (Cond.laysStatic Bundle.tN "UNASSIGNED_STACK" Bundle.steD).before args s = true) (lN : (Cond.laysStatic Bundle.tN "SUPPRESSED_SENTINEL" Bundle.listD).before args s = true) : ∀ w ∈ L, w.before args s = true := by
  intro w hw
  by_cases e1 : w = .isRef (.static Bundle.tN "UNASSIGNED_STACK" Bundle.steD)
  · rw [e1]; exact hU
  · by_cases e2 : w = .isRef (.static Bundle.tN "SUPPRESSED_SENTINEL" Bundle.listD)
    · rw [e2]; exact hN
    · by_cases e3 : w = .laysStatic Bundle.tN "UNASSIGNED_STACK" Bundle.steD
      · rw [e3]; exact lU
      · by_cases e4 : w = .laysStatic Bundle.tN "SUPPRESSED_SENTINEL" Bundle.listD
        · rw [e4]; exact lN
        · exact h1 w (List.mem_filter.mpr ⟨hw, by unfold vx_no; rw [decide_eq_true e1, decide_eq_true e2, decide_eq_true e3, decide_eq_true e4]; rfl⟩)
/-- where a static field lies, its class's statics cell in H -/
def vx_L (C n d : String) (A : Nat → Prop) (U : State) (H : Heap) : Prop := ∃ (c : ClassId) (k : Class) (i : Nat) (f : Field) (a : Nat) (cell : Cell), U.vm.findClass C = some c ∧ U.fieldFound? C n d = some (c, k, i, f) ∧ f.isStatic = true ∧ k.statics = some a ∧ H[a]? = some cell ∧ cell.vm.isStatics = true ∧ cell.cls = c ∧ f.slot < cell.slots.size ∧ k.staticTypes[f.slot]? = some f.type ∧ ¬ A a
theorem vx_L.moved {C n d : String} {A : Nat → Prop} {u U : State} {H : Heap} (hvm : u.vm.Alike U.vm) (h : vx_L C n d A u H) : vx_L C n d A U H := by
  obtain ⟨c, k, i, f, a, cell, h1, h2, h3, h4, h5, h6, h7, h8, h9, h10⟩ := h
  obtain ⟨k', hi', he⟩ := State.fieldFound?_setVm hvm h2
  exact ⟨c, k', i, f, a, cell, by rw [hvm.findClass]; exact h1, hi', h3, by rw [he]; exact h4, h5, h6, h7, h8, by rw [he]; exact h9, h10⟩
theorem vx_L.kept {C n d : String} {A : Nat → Prop} {U : State} {H H1 : Heap} (h : vx_L C n d A U H) (hq : ∀ a : Nat, a < H.size → ¬ A a → H1[a]? = H[a]?) : vx_L C n d A U H1 := by
  obtain ⟨c, k, i, f, a, cell, h1, h2, h3, h4, h5, h6, h7, h8, h9, h10⟩ := h
  exact ⟨c, k, i, f, a, cell, h1, h2, h3, h4, by rw [hq a (Array.getElem?_eq_some_iff.mp h5).1 h10]; exact h5, h6, h7, h8, h9, h10⟩
theorem vx_L.narrow {C n d : String} {A B : Nat → Prop} {U : State} {H : Heap} (h : vx_L C n d A U H) (hAB : ∀ q, B q → A q) : vx_L C n d B U H := by
  obtain ⟨c, k, i, f, a, cell, h1, h2, h3, h4, h5, h6, h7, h8, h9, h10⟩ := h
  exact ⟨c, k, i, f, a, cell, h1, h2, h3, h4, h5, h6, h7, h8, h9, fun z => h10 (hAB _ z)⟩
theorem vx_L.word {C n d : String} {A : Nat → Prop} {s : State} {args : Array Value} (h : vx_L C n d A s s.heap) : (Cond.laysStatic C n d).before args s = true := by
  obtain ⟨c, k, i, f, a, cell, h1, h2, h3, h4, h5, h6, h7, h8, h9, -⟩ := h
  show (Cond.laysStatic C n d).holds args s none s [] = true
  exact Cond.laysStatic_of h1 h2 h3 h4 h5 h6 h7 h8 h9
/-- .. and what it holds: null or some reference -/
def vx_Zq (C n d : String) (A : Nat → Prop) (U : State) (H : Heap) : Prop := va_Zq C n d A U H ∧ vx_L C n d A U H
theorem vx_Zq.moved {C n d : String} {A : Nat → Prop} {u U : State} {H : Heap} (hvm : u.vm.Alike U.vm) (h : vx_Zq C n d A u H) : vx_Zq C n d A U H := ⟨va_Zq.moved hvm h.1, vx_L.moved hvm h.2⟩
theorem vx_Zq.kept {C n d : String} {A : Nat → Prop} {U : State} {H H1 : Heap} (h : vx_Zq C n d A U H) (hq : ∀ a : Nat, a < H.size → ¬ A a → H1[a]? = H[a]?) : vx_Zq C n d A U H1 := ⟨va_Zq.kept h.1 hq, vx_L.kept h.2 hq⟩
theorem vx_Zq.narrow {C n d : String} {A B : Nat → Prop} {U : State} {H : Heap} (h : vx_Zq C n d A U H) (hAB : ∀ q, B q → A q) : vx_Zq C n d B U H := ⟨va_Zq.narrow h.1 hAB, vx_L.narrow h.2 hAB⟩
theorem vx_Zqof {args : Array Value} {s : State} {C n d : String} {A : Nat → Prop} (hl : (Cond.laysStatic C n d).before args s = true) (hini : (Cond.initialized C).before args s = true) (h : (Cond.isRef (.static C n d)).before args s = true) (hA : ∀ a : Nat, a < s.heap.size → ¬ A a) : vx_Zq C n d A s s.heap := by
  refine ⟨va_Zqof hl hini h hA, ?_⟩
  obtain ⟨c, k, i, f, a, cell, h1, h2, h3, h4, h5, h6, h7, h8, h9⟩ := Cond.laysStatic_spec hl
  exact ⟨c, k, i, f, a, cell, h1, h2, h3, h4, h5, h6, h7, h8, h9, hA a (Array.getElem?_eq_some_iff.mp h5).1⟩
theorem vx_isRef {C n d : String} {v : Value} {A : Nat → Prop} {s : State} {args : Array Value} (h : va_Z C n d v A s s.heap) (hv : v.isRef = true) : (Cond.isRef (.static C n d)).before args s = true := by
  obtain ⟨cf, kf, fi, f, a, cell, h1, h2, h3, h4, h5, h6, h7, -⟩ := h
  have he : (Term.static C n d).eval args s none [] s = some v := by
    simp [Term.eval, State.fieldNamed?, h1, h2, h4, h5, h6, h7]
  simp only [Cond.before, Cond.holds, Cond.value, he]
  cases v <;> simp_all [Value.isRef]
theorem vx_isRefq {C n d : String} {A : Nat → Prop} {s : State} {args : Array Value} (h : va_Zq C n d A s s.heap) : (Cond.isRef (.static C n d)).before args s = true := by
  rcases h with h | ⟨t, h⟩
  · exact vx_isRef h rfl
  · exact vx_isRef h rfl
/-- the same frame, seen from here: as if the method were called anew in this heap -/
theorem vx_rebase {T : State} (X : Stand p l e R s m args below meth c T locs cells slots) {R' : Room} (hf : R'.frames ≤ R.frames) (hl : R'.locals ≤ R.locals) (hc : cells + R'.cells ≤ R.cells) (hs : slots + R'.slots ≤ R.slots) :
    Stand p l e R' ((T.setVm s.vm).setFrames (.invoking m args :: below)) m args below meth c T [] 0 0 := by
  have htop : (T.setVm s.vm).topJava?.isSome := X.here.top
  have hF : ((T.setVm s.vm).setFrames (.invoking m args :: below)).frames = .invoking m args :: below := State.frames_setFrames _ (State.cur_lt_of_top htop)
  obtain ⟨g₀, hg0⟩ := Option.isSome_iff_exists.mp htop
  obtain ⟨r, hr⟩ := State.topJava?_eq_some.mp hg0
  have hl9 : e.platform.stackLimits (T.setVm s.vm).me = e.platform.stackLimits s.me := X.limits
  have hb9 : (T.setVm s.vm).me.stackBytes = s.me.stackBytes := X.bytes
  refine ⟨X.admits, X.cas, X.clock, hF, ?_, X.hears, X.method, X.code, X.here, X.tail, X.warmed, ?_, ?_, ?_⟩
  · have h := X.room
    have hU : ((T.setVm s.vm).setFrames (.invoking m args :: below)).localsInUse = s.localsInUse := by
      rw [State.localsInUse_invoking hF (meth := meth) (c := c) X.method X.code, State.localsInUse_invoking X.frames X.method X.code]
    simp only [State.hasRoom, Bool.and_eq_true, decide_eq_true_eq] at h ⊢
    obtain ⟨⟨⟨⟨h1, h2, h3, h4, h5, h6⟩, h7⟩, h8⟩, h9⟩ := h
    rw [X.frames, List.length_cons] at h2 h3
    have q1 := X.heapSize
    have q2 := X.used
    simp only [hF, hU, List.length_cons, State.stackLimits_setFrames, State.stackBytes_setFrames, hl9, hb9]
    refine ⟨⟨⟨⟨by omega, by omega, by omega, by omega, by omega, h6⟩, ?_⟩, ?_⟩, X.book⟩
    · show T.heap.size + R'.cells ≤ e.platform.maxCells
      omega
    · show T.slotsUsed + R'.slots ≤ e.platform.maxSlots
      omega
  · rw [State.stackLimits_setFrames]; rfl
  · rw [State.stackBytes_setFrames]; rfl
  · refine ⟨?_, Nat.le_refl _, Nat.le_refl _, ?_, ?_, fun a c9 h9 => ⟨c9, h9, rfl, rfl, fun _ _ => rfl⟩⟩
    · obtain ⟨t, ht, -⟩ := State.frames_cons hr
      show T.setVm s.vm = { ((T.setVm s.vm).setFrames (.invoking m args :: below)).setFrames (T.setVm s.vm).frames with heap := T.heap, slotsUsed := T.slotsUsed }
      rw [State.setFrames_setFrames, State.setFrames_self ht]
      rfl
    · show T.slotsUsed = T.slotsUsed + ((T.heap.toList.drop T.heap.size).map (·.slots.size)).sum
      rw [List.drop_eq_nil_of_le (Nat.le_of_eq Array.length_toList)]
      rfl
    · show ((T.heap.toList.drop T.heap.size).map (·.slots.size)).sum ≤ 0
      rw [List.drop_eq_nil_of_le (Nat.le_of_eq Array.length_toList)]
      exact Nat.le_refl _
/-- 'throw new E()': new; dup; invokespecial; athrow -/
theorem vx_throw0 {cc : ByteArray} {pc : Nat} (hexec : p.tables.exec = Jvm.exec) (hb : c.code = cc) (hl : l.stackTraces = false) {own cls : String} {names : List String} {ik ic mc ms : Nat} {A : Nat → Prop}
    (hown : s.vm.findClass own = some m.cls) (hcls : Bundle.fit cls = true) (hnames : ∀ n ∈ names, Bundle.fit n = true)
    (hk : (Cond.classLink own ik cls).before args s = true) (hini : (Cond.initialized cls).before args s = true) (hat : ∀ w ∈ vx_at0 own ic cls names, w.before args s = true)
    (hgood : ∀ w ∈ Cond.classLink own ik cls :: Cond.initialized cls :: vx_at0 own ic cls names, vx_ot w = true)
    (hU : vx_Zq Bundle.tN "UNASSIGNED_STACK" Bundle.steD A s s.heap) (hN : vx_Zq Bundle.tN "SUPPRESSED_SENTINEL" Bundle.listD A s s.heap) (hS : va_S A s.heap H locs) (hsize : ls.size = c.maxLocals)
    (d0 : decode cc pc = .ok (.new ik, 3)) (d3 : decode cc (pc + 3) = .ok (.dup, 1)) (d4 : decode cc (pc + 4) = .ok (.invokespecial ic, 3)) (d7 : decode cc (pc + 7) = .ok (.athrow, 1))
    (hout : ∀ x ∈ c.exceptionTable.toList, covers x (pc + 7) = false)
    (hRframes : names.length + 3 < R.frames) (hRlocals : (rest.map fun v => v.category).sum + (13 * (names.length + 1) + 42) ≤ R.locals) (hRcells : cells + 1 ≤ R.cells) (hRslots : slots + 6 ≤ R.slots) (hlocks : meth.locks = false)
    (hx : ∀ t : State, s.vm.Alike t.vm → H.size ≤ t.heap.size → (∀ q : Nat, q < H.size → t.heap[q]? = H[q]?) → XC cls s t)
    (hf : ∀ z ∈ locs, free z.base) (hc : cells + 1 ≤ mc) (hs : slots + 6 ≤ ms) :
    W p l e R s m args below meth c H locs cells slots (vx_MQ below Qc XC args s mc ms free) (F0 m pc ls rest) := by
  intro T hT X
  have htr : e.platform.stackTraces = false := (show e.platform.stackTraces = l.stackTraces by rw [X.admits.platform]).trans hl
  have Y := vx_rebase X (R' := { frames := R.frames, locals := R.locals, cells := 1, slots := 6 }) (Nat.le_refl _) (Nat.le_refl _) hRcells hRslots
  obtain ⟨s', hA⟩ : ∃ z, z = (T.setVm s.vm).setFrames (.invoking m args :: below) := ⟨_, rfl⟩
  rw [← hA] at Y
  have hvm : s'.vm = s.vm := by rw [hA]; rfl
  have hhp : s'.heap = H := by rw [hA]; exact hT
  have hW0 : s.WarmedH s'.vm := by rw [hvm]; exact State.WarmedH.refl s
  have hat' : ∀ w ∈ vx_at0 own ic cls names, w.before args s' = true := fun w hw => vx_ot_at hW0 hvm.symm (hgood w (List.mem_cons_of_mem _ (List.mem_cons_of_mem _ hw))) (hat w hw)
  have hk' : (Cond.classLink own ik cls).before args s' = true := vx_ot_at hW0 hvm.symm (hgood _ List.mem_cons_self) hk
  have hini' : (Cond.initialized cls).before args s' = true := vx_ot_at hW0 hvm.symm (hgood _ (List.mem_cons_of_mem _ List.mem_cons_self)) hini
  have hU' : vx_Zq Bundle.tN "UNASSIGNED_STACK" Bundle.steD A s' s'.heap := by rw [hhp]; exact vx_Zq.moved hW0.alike (hU.kept hS.2.1)
  have hN' : vx_Zq Bundle.tN "SUPPRESSED_SENTINEL" Bundle.listD A s' s'.heap := by rw [hhp]; exact vx_Zq.moved hW0.alike (hN.kept hS.2.1)
  have h : ∀ w ∈ Bundle.ownAtoms0 own ic cls names, w.before args s' = true := vx_own hat' (vx_isRefq hU'.1) (vx_isRefq hN'.1) hU'.2.word hN'.2.word
  have hown' : s'.vm.findClass own = some m.cls := by rw [hvm]; exact hown
  have hins : (Cond.instantiable cls 6).before args s' = true := h _ (by simp [Bundle.ownAtoms0])
  obtain ⟨vm₁, cX, kX, hfX, hkX, -, -, X₁, st1⟩ := Y.newCold hexec (own := own) (C := cls) (index := ik) (n := 6) hown' hk' hins hini'
    (g := F0 m pc ls rest) rfl (by rw [hb]; exact d0) (Nat.le_refl _) (Nat.le_refl _)
  generalize hT1 : (T.setVm vm₁).pushCell { cls := cX, slots := kX.instanceTypes.map defaultValue, vm := .none } = T1 at X₁ st1
  have hcat : (Value.ref T.heap.size).category = 1 := rfl
  have hcellA : T1.heap[T.heap.size]? = some (freshCell cX kX) := by rw [← hT1]; exact State.heap_pushCell_size _ _
  have d3' : decode c.code (pc + 3) = .ok (.dup, 1) := by rw [hb]; exact d3
  obtain ⟨U, hsteps, hrun, hend, hW, hsame, ce, hce, hO⟩ := X₁.ctorThrow0 hexec htr (own := own) (cls := cls) (names := names) (ic := ic) hown' hcls hnames h (fun x hx => nomatch hx) hfX hkX hcellA (by rw [hhp, hT]; exact Nat.le_refl _)
    (g := { method := m, pc := pc + 4, locals := ls, stack := .ref T.heap.size :: .ref T.heap.size :: rest, locked := none }) rfl hsize rfl rfl (rest := rest) rfl
    (by rw [hb]; exact d4) (by rw [hb]; exact d7) hout hRframes (by simp only [List.map_cons, List.sum_cons, hcat]; omega) hlocks
  obtain ⟨f1, f2⟩ := vx_frame hsame
  rw [hhp] at f1 f2
  have hWs : s.WarmedH U.vm := State.WarmedH.trans hW0 hW
  have hcl : s.vm.findClass cls = some ce.cls := by
    have h9 := hO.cls
    rw [hvm] at h9
    exact h9
  have hall : s.sameButNew ({ U with vm := s.vm } : State) locs mc ms := by
    subst hA
    obtain ⟨e1, e2⟩ := hsame
    rw [State.setFrames_setFrames] at e1
    have h2 : (T.setVm s.vm).sameButNew ({ U with vm := s.vm } : State) [] (0 + 1) (0 + 6) := ⟨e1, e2⟩
    have h3 := X.same.trans h2
    rw [List.append_nil] at h3
    exact h3.mono hc hs
  refine ⟨U, ?_, .threw T.heap.size, hrun, hend, Or.inr ⟨T.heap.size, rfl, cls, ce, locs, hx U hWs.alike f1 (fun q hq => f2 q hq (fun z hz => nomatch hz)), hce, hO.vm, hcl, hWs, hall, hf⟩⟩
  refine st1 _ ?_
  show Steps p.tables e below (T1.setTop { method := m, pc := pc + 3, locals := ls, stack := .ref T.heap.size :: rest, locked := none }) _
  jvm_step X₁.here [X₁.here.top, hexec, d3', Value.category]
  exact hsteps
/-- 'throw new E("text")': new; dup; ldc; invokespecial; athrow -/
theorem vx_throwS {cc : ByteArray} {pc : Nat} (hexec : p.tables.exec = Jvm.exec) (hb : c.code = cc) (hl : l.stackTraces = false) {own cls text : String} {names : List String} {ik is ic mc ms sa : Nat} {A : Nat → Prop}
    (hown : s.vm.findClass own = some m.cls) (hcls : Bundle.fit cls = true) (hnames : ∀ n ∈ names, Bundle.fit n = true)
    (hk : (Cond.classLink own ik cls).before args s = true) (hini : (Cond.initialized cls).before args s = true) (hstr : vk_R own is text sa s) (hat : ∀ w ∈ vx_atS own ic cls names, w.before args s = true)
    (hgood : ∀ w ∈ Cond.classLink own ik cls :: Cond.initialized cls :: vx_atS own ic cls names, vx_ot w = true)
    (hU : vx_Zq Bundle.tN "UNASSIGNED_STACK" Bundle.steD A s s.heap) (hN : vx_Zq Bundle.tN "SUPPRESSED_SENTINEL" Bundle.listD A s s.heap) (hS : va_S A s.heap H locs) (hsize : ls.size = c.maxLocals)
    (d0 : decode cc pc = .ok (.new ik, 3)) (d3 : decode cc (pc + 3) = .ok (.dup, 1)) (d4 : decode cc (pc + 4) = .ok (.ldc is, 2)) (d6 : decode cc (pc + 6) = .ok (.invokespecial ic, 3)) (d9 : decode cc (pc + 9) = .ok (.athrow, 1))
    (hout : ∀ x ∈ c.exceptionTable.toList, covers x (pc + 9) = false)
    (hRframes : names.length + 3 < R.frames) (hRlocals : (rest.map fun v => v.category).sum + (13 * (names.length + 1) + 43) ≤ R.locals) (hRcells : cells + 1 ≤ R.cells) (hRslots : slots + 6 ≤ R.slots) (hlocks : meth.locks = false)
    (hx : ∀ t : State, s.vm.Alike t.vm → H.size ≤ t.heap.size → (∀ q : Nat, q < H.size → t.heap[q]? = H[q]?) → XC cls s t)
    (hf : ∀ z ∈ locs, free z.base) (hc : cells + 1 ≤ mc) (hs : slots + 6 ≤ ms) :
    W p l e R s m args below meth c H locs cells slots (vx_MQ below Qc XC args s mc ms free) (F0 m pc ls rest) := by
  intro T hT X
  have htr : e.platform.stackTraces = false := (show e.platform.stackTraces = l.stackTraces by rw [X.admits.platform]).trans hl
  have Y := vx_rebase X (R' := { frames := R.frames, locals := R.locals, cells := 1, slots := 6 }) (Nat.le_refl _) (Nat.le_refl _) hRcells hRslots
  obtain ⟨s', hA⟩ : ∃ z, z = (T.setVm s.vm).setFrames (.invoking m args :: below) := ⟨_, rfl⟩
  rw [← hA] at Y
  have hvm : s'.vm = s.vm := by rw [hA]; rfl
  have hhp : s'.heap = H := by rw [hA]; exact hT
  have hW0 : s.WarmedH s'.vm := by rw [hvm]; exact State.WarmedH.refl s
  have hat' : ∀ w ∈ vx_atS own ic cls names, w.before args s' = true := fun w hw => vx_ot_at hW0 hvm.symm (hgood w (List.mem_cons_of_mem _ (List.mem_cons_of_mem _ hw))) (hat w hw)
  have hk' : (Cond.classLink own ik cls).before args s' = true := vx_ot_at hW0 hvm.symm (hgood _ List.mem_cons_self) hk
  have hini' : (Cond.initialized cls).before args s' = true := vx_ot_at hW0 hvm.symm (hgood _ (List.mem_cons_of_mem _ List.mem_cons_self)) hini
  have hU' : vx_Zq Bundle.tN "UNASSIGNED_STACK" Bundle.steD A s' s'.heap := by rw [hhp]; exact vx_Zq.moved hW0.alike (hU.kept hS.2.1)
  have hN' : vx_Zq Bundle.tN "SUPPRESSED_SENTINEL" Bundle.listD A s' s'.heap := by rw [hhp]; exact vx_Zq.moved hW0.alike (hN.kept hS.2.1)
  have h : ∀ w ∈ Bundle.ownAtoms own ic cls names, w.before args s' = true := vx_own hat' (vx_isRefq hU'.1) (vx_isRefq hN'.1) hU'.2.word hN'.2.word
  have hown' : s'.vm.findClass own = some m.cls := by rw [hvm]; exact hown
  have hins : (Cond.instantiable cls 6).before args s' = true := h _ (by simp [Bundle.ownAtoms])
  obtain ⟨vm₁, cX, kX, hfX, hkX, -, -, X₁, st1⟩ := Y.newCold hexec (own := own) (C := cls) (index := ik) (n := 6) hown' hk' hins hini'
    (g := F0 m pc ls rest) rfl (by rw [hb]; exact d0) (Nat.le_refl _) (Nat.le_refl _)
  generalize hT1 : (T.setVm vm₁).pushCell { cls := cX, slots := kX.instanceTypes.map defaultValue, vm := .none } = T1 at X₁ st1
  have hcat : (Value.ref T.heap.size).category = 1 := rfl
  have hcellA : T1.heap[T.heap.size]? = some (freshCell cX kX) := by rw [← hT1]; exact State.heap_pushCell_size _ _
  have d3' : decode c.code (pc + 3) = .ok (.dup, 1) := by rw [hb]; exact d3
  have d4' : decode c.code (pc + 4) = .ok (.ldc is, 2) := by rw [hb]; exact d4
  have hstr' : vk_R own is text sa s' := vk_R.warm hW0 hstr
  obtain ⟨U, hsteps, hrun, hend, hW, hsame, ce, hce, hO⟩ := X₁.ctorThrowS hexec htr (own := own) (cls := cls) (names := names) (ic := ic) hown' hcls hnames h (fun x hx => nomatch hx) hfX hkX hcellA (by rw [hhp, hT]; exact Nat.le_refl _) (msg := .ref sa) rfl
    (g := { method := m, pc := pc + 6, locals := ls, stack := .ref sa :: .ref T.heap.size :: .ref T.heap.size :: rest, locked := none }) rfl hsize rfl rfl (rest := rest) rfl
    (by rw [hb]; exact d6) (by rw [hb]; exact d9) hout hRframes (by simp only [List.map_cons, List.sum_cons, hcat]; omega) hlocks
  obtain ⟨f1, f2⟩ := vx_frame hsame
  rw [hhp] at f1 f2
  have hWs : s.WarmedH U.vm := State.WarmedH.trans hW0 hW
  have hcl : s.vm.findClass cls = some ce.cls := by
    have h9 := hO.cls
    rw [hvm] at h9
    exact h9
  have hall : s.sameButNew ({ U with vm := s.vm } : State) locs mc ms := by
    subst hA
    obtain ⟨e1, e2⟩ := hsame
    rw [State.setFrames_setFrames] at e1
    have h2 : (T.setVm s.vm).sameButNew ({ U with vm := s.vm } : State) [] (0 + 1) (0 + 6) := ⟨e1, e2⟩
    have h3 := X.same.trans h2
    rw [List.append_nil] at h3
    exact h3.mono hc hs
  refine ⟨U, ?_, .threw T.heap.size, hrun, hend, Or.inr ⟨T.heap.size, rfl, cls, ce, locs, hx U hWs.alike f1 (fun q hq => f2 q hq (fun z hz => nomatch hz)), hce, hO.vm, hcl, hWs, hall, hf⟩⟩
  refine st1 _ ?_
  show Steps p.tables e below (T1.setTop { method := m, pc := pc + 3, locals := ls, stack := .ref T.heap.size :: rest, locked := none }) _
  jvm_step X₁.here [X₁.here.top, hexec, d3', Value.category]
  exact X₁.ldcString hexec (own := own) (text := text) (index := is) (a := sa) hown' hstr'.1 hstr'.2
    (g := { method := m, pc := pc + 4, locals := ls, stack := .ref T.heap.size :: .ref T.heap.size :: rest, locked := none }) rfl d4' _ hsteps
/-- 'throw new E("text")', the text by a wide index -/
theorem vx_throwSW {cc : ByteArray} {pc : Nat} (hexec : p.tables.exec = Jvm.exec) (hb : c.code = cc) (hl : l.stackTraces = false) {own cls text : String} {names : List String} {ik is ic mc ms sa : Nat} {A : Nat → Prop}
    (hown : s.vm.findClass own = some m.cls) (hcls : Bundle.fit cls = true) (hnames : ∀ n ∈ names, Bundle.fit n = true)
    (hk : (Cond.classLink own ik cls).before args s = true) (hini : (Cond.initialized cls).before args s = true) (hstr : vk_R own is text sa s) (hat : ∀ w ∈ vx_atS own ic cls names, w.before args s = true)
    (hgood : ∀ w ∈ Cond.classLink own ik cls :: Cond.initialized cls :: vx_atS own ic cls names, vx_ot w = true)
    (hU : vx_Zq Bundle.tN "UNASSIGNED_STACK" Bundle.steD A s s.heap) (hN : vx_Zq Bundle.tN "SUPPRESSED_SENTINEL" Bundle.listD A s s.heap) (hS : va_S A s.heap H locs) (hsize : ls.size = c.maxLocals)
    (d0 : decode cc pc = .ok (.new ik, 3)) (d3 : decode cc (pc + 3) = .ok (.dup, 1)) (d4 : decode cc (pc + 4) = .ok (.ldc_w is, 3)) (d7 : decode cc (pc + 7) = .ok (.invokespecial ic, 3)) (d10 : decode cc (pc + 10) = .ok (.athrow, 1))
    (hout : ∀ x ∈ c.exceptionTable.toList, covers x (pc + 10) = false)
    (hRframes : names.length + 3 < R.frames) (hRlocals : (rest.map fun v => v.category).sum + (13 * (names.length + 1) + 43) ≤ R.locals) (hRcells : cells + 1 ≤ R.cells) (hRslots : slots + 6 ≤ R.slots) (hlocks : meth.locks = false)
    (hx : ∀ t : State, s.vm.Alike t.vm → H.size ≤ t.heap.size → (∀ q : Nat, q < H.size → t.heap[q]? = H[q]?) → XC cls s t)
    (hf : ∀ z ∈ locs, free z.base) (hc : cells + 1 ≤ mc) (hs : slots + 6 ≤ ms) :
    W p l e R s m args below meth c H locs cells slots (vx_MQ below Qc XC args s mc ms free) (F0 m pc ls rest) := by
  intro T hT X
  have htr : e.platform.stackTraces = false := (show e.platform.stackTraces = l.stackTraces by rw [X.admits.platform]).trans hl
  have Y := vx_rebase X (R' := { frames := R.frames, locals := R.locals, cells := 1, slots := 6 }) (Nat.le_refl _) (Nat.le_refl _) hRcells hRslots
  obtain ⟨s', hA⟩ : ∃ z, z = (T.setVm s.vm).setFrames (.invoking m args :: below) := ⟨_, rfl⟩
  rw [← hA] at Y
  have hvm : s'.vm = s.vm := by rw [hA]; rfl
  have hhp : s'.heap = H := by rw [hA]; exact hT
  have hW0 : s.WarmedH s'.vm := by rw [hvm]; exact State.WarmedH.refl s
  have hat' : ∀ w ∈ vx_atS own ic cls names, w.before args s' = true := fun w hw => vx_ot_at hW0 hvm.symm (hgood w (List.mem_cons_of_mem _ (List.mem_cons_of_mem _ hw))) (hat w hw)
  have hk' : (Cond.classLink own ik cls).before args s' = true := vx_ot_at hW0 hvm.symm (hgood _ List.mem_cons_self) hk
  have hini' : (Cond.initialized cls).before args s' = true := vx_ot_at hW0 hvm.symm (hgood _ (List.mem_cons_of_mem _ List.mem_cons_self)) hini
  have hU' : vx_Zq Bundle.tN "UNASSIGNED_STACK" Bundle.steD A s' s'.heap := by rw [hhp]; exact vx_Zq.moved hW0.alike (hU.kept hS.2.1)
  have hN' : vx_Zq Bundle.tN "SUPPRESSED_SENTINEL" Bundle.listD A s' s'.heap := by rw [hhp]; exact vx_Zq.moved hW0.alike (hN.kept hS.2.1)
  have h : ∀ w ∈ Bundle.ownAtoms own ic cls names, w.before args s' = true := vx_own hat' (vx_isRefq hU'.1) (vx_isRefq hN'.1) hU'.2.word hN'.2.word
  have hown' : s'.vm.findClass own = some m.cls := by rw [hvm]; exact hown
  have hins : (Cond.instantiable cls 6).before args s' = true := h _ (by simp [Bundle.ownAtoms])
  obtain ⟨vm₁, cX, kX, hfX, hkX, -, -, X₁, st1⟩ := Y.newCold hexec (own := own) (C := cls) (index := ik) (n := 6) hown' hk' hins hini'
    (g := F0 m pc ls rest) rfl (by rw [hb]; exact d0) (Nat.le_refl _) (Nat.le_refl _)
  generalize hT1 : (T.setVm vm₁).pushCell { cls := cX, slots := kX.instanceTypes.map defaultValue, vm := .none } = T1 at X₁ st1
  have hcat : (Value.ref T.heap.size).category = 1 := rfl
  have hcellA : T1.heap[T.heap.size]? = some (freshCell cX kX) := by rw [← hT1]; exact State.heap_pushCell_size _ _
  have d3' : decode c.code (pc + 3) = .ok (.dup, 1) := by rw [hb]; exact d3
  have d4' : decode c.code (pc + 4) = .ok (.ldc_w is, 3) := by rw [hb]; exact d4
  have hstr' : vk_R own is text sa s' := vk_R.warm hW0 hstr
  obtain ⟨U, hsteps, hrun, hend, hW, hsame, ce, hce, hO⟩ := X₁.ctorThrowS hexec htr (own := own) (cls := cls) (names := names) (ic := ic) hown' hcls hnames h (fun x hx => nomatch hx) hfX hkX hcellA (by rw [hhp, hT]; exact Nat.le_refl _) (msg := .ref sa) rfl
    (g := { method := m, pc := pc + 7, locals := ls, stack := .ref sa :: .ref T.heap.size :: .ref T.heap.size :: rest, locked := none }) rfl hsize rfl rfl (rest := rest) rfl
    (by rw [hb]; exact d7) (by rw [hb]; exact d10) hout hRframes (by simp only [List.map_cons, List.sum_cons, hcat]; omega) hlocks
  obtain ⟨f1, f2⟩ := vx_frame hsame
  rw [hhp] at f1 f2
  have hWs : s.WarmedH U.vm := State.WarmedH.trans hW0 hW
  have hcl : s.vm.findClass cls = some ce.cls := by
    have h9 := hO.cls
    rw [hvm] at h9
    exact h9
  have hall : s.sameButNew ({ U with vm := s.vm } : State) locs mc ms := by
    subst hA
    obtain ⟨e1, e2⟩ := hsame
    rw [State.setFrames_setFrames] at e1
    have h2 : (T.setVm s.vm).sameButNew ({ U with vm := s.vm } : State) [] (0 + 1) (0 + 6) := ⟨e1, e2⟩
    have h3 := X.same.trans h2
    rw [List.append_nil] at h3
    exact h3.mono hc hs
  refine ⟨U, ?_, .threw T.heap.size, hrun, hend, Or.inr ⟨T.heap.size, rfl, cls, ce, locs, hx U hWs.alike f1 (fun q hq => f2 q hq (fun z hz => nomatch hz)), hce, hO.vm, hcl, hWs, hall, hf⟩⟩
  refine st1 _ ?_
  show Steps p.tables e below (T1.setTop { method := m, pc := pc + 3, locals := ls, stack := .ref T.heap.size :: rest, locked := none }) _
  jvm_step X₁.here [X₁.here.top, hexec, d3', Value.category]
  exact X₁.ldcStringW hexec (own := own) (text := text) (index := is) (a := sa) hown' hstr'.1 hstr'.2
    (g := { method := m, pc := pc + 4, locals := ls, stack := .ref T.heap.size :: .ref T.heap.size :: rest, locked := none }) rfl d4' _ hsteps
end Ends
section Bodies
variable {l : Launch}
theorem vx_ofW {y : MethodName} {ws ws' : List Cond} {rm : Room} {Pc : Array Value → State → Prop} {Qc : Array Value → State → Outcome → State → Prop} {XC : String → State → State → Prop} {mc ms : Nat} {free : Addr → Prop} {cc : ByteArray} {maxL : Nat} {ret : Option FieldType}
    (hy : plainName y.cls = true) (hw : ws = Cond.code y cc maxL ret :: ws')
    (body : ∀ p e s m args below meth c s₁, BodyLoose p l y (headSpec ws rm) cc maxL ret e s m args below meth c s₁ → c.maxLocals = maxL → (∀ x ∈ c.exceptionTable.toList, False) → Pc args s →
      W p l e (headSpec ws rm).room s m args below meth c s.heap [] 0 0 (vx_MQ below Qc XC args s mc ms free) (entryFrame m args maxL)) : vx_Met l y ws rm Pc Qc XC mc ms free := by
  refine MetFree.of_bodyS (code := cc) (maxLocals := maxL) (ret := ret) hy ?_ ?_
  · intro args s m h hn
    obtain ⟨meth, c, h1, h2, h3, h4, h5, h6, -, -⟩ := Cond.code_spec hn (atoms_spec (ws := ws) h _ (by rw [hw]; exact List.mem_cons_self))
    exact ⟨meth, c, h1, h2, h3, h4, h5, h6⟩
  · intro p e s m args below meth c s₁ B hml hP _
    have hh0 : s₁.heap = s.heap := by rw [B.state]; rfl
    have ht : ∀ x ∈ c.exceptionTable.toList, False := by
      obtain ⟨meth9, c9, h1, h2, -, -, -, -, h7, -⟩ := Cond.code_spec B.named (atoms_spec (ws := ws) B.pre _ (by rw [hw]; exact List.mem_cons_self))
      cases Option.some.inj (h1.symm.trans B.method)
      cases Option.some.inj (h2.symm.trans (Stand.of_body B).code)
      intro x hx
      rw [Array.isEmpty_iff.mp h7] at hx
      cases hx
    obtain ⟨t, a1, o, b1, b2, b3⟩ := body p e s m args below meth c s₁ B hml ht hP s₁ hh0 (Stand.of_body B)
    exact ⟨t, o, a1, b1, b2, b3⟩
/-- the table of a body with handlers -/
theorem vx_table {p : Program} {x y : MethodName} {S : Spec} {cc bytes : ByteArray} {maxL maxL' : Nat} {ret ret' : Option FieldType} {e : Env} {s s₁ : State} {m : MethodId} {args : Array Value} {below : List Frame} {meth : Method} {c : Code} {hh : List (Nat × Nat × Nat × Nat)}
    (B : BodyLoose p l y S cc maxL ret e s m args below meth c s₁) (h : (Cond.codeWith y bytes maxL' ret' hh).before args s = true) : c.exceptionTable.toList = tableOf hh := by
  obtain ⟨m9, meth9, c9, hn9, h1, h2, -, -, h6, -⟩ := Cond.codeWith_spec h
  cases Option.some.inj (hn9.symm.trans B.named)
  cases Option.some.inj (h1.symm.trans B.method)
  cases Option.some.inj (h2.symm.trans (Stand.of_body B).code)
  rw [← h6, table_eq]
end Bodies
end VXA
/-! ===== END ===== -/
/-! ===== BEGIN a static call of a method with an exception table ===== -/
section VXS
variable {p : Program} {l : Launch} {e : Env} {R : Room} {s : State} {m : MethodId} {args : Array Value} {below : List Frame} {meth : Method} {c : Code} {T : State} {H : Heap} {locs : List Loc} {cells slots : Nat}
abbrev vx_CSW (R : Room) (s : State) (args : Array Value) (own : String) (index : Nat) (y : MethodName) (bytes : ByteArray) (maxL : Nat) (ret : Option FieldType) (hh : List (Nat × Nat × Nat × Nat)) (ws : List Cond) (rm : Room) (mc ms n : Nat) : Prop :=
  (rm.cells = mc ∧ rm.slots = ms ∧ rm.frames + 1 ≤ R.frames ∧ 8 + (maxL + 11) + rm.locals ≤ R.locals ∧ (∀ w ∈ ws, ∀ (a' : Array Value) (U : State), s.WarmedH U.vm → w.before a' U = true) ∧ Cond.codeWith y bytes maxL ret hh ∈ ws) ∧
  (Cond.codeWith y bytes maxL ret hh).before args s = true ∧ (Cond.initialized y.cls).before args s = true ∧ (y.cls ≠ "java/lang/invoke/MethodHandle" ∧ y.cls ≠ "java/lang/invoke/VarHandle") ∧
  (∀ sig, parseMethodDescriptor y.desc = some sig → n = sig.parameters.length) ∧ (Cond.methodLink own index y).before args s = true ∧ (Cond.static y).before args s = true
theorem vx_cwSW {own : String} {index maxL mc ms : Nat} {y : MethodName} {bytes : ByteArray} {ret : Option FieldType} {hh : List (Nat × Nat × Nat × Nat)} {Ts ws ws' : List Cond} {rm : Room} (n : Nat) (ht : ∀ w ∈ Ts, w.before args s = true) (hT : GoodIn Ts (va_wsS own index y ws)) (hw : ws = Cond.codeWith y bytes maxL ret hh :: ws') (hrc : rm.cells = mc) (hrs : rm.slots = ms)
    (hd : y.cls ≠ "java/lang/invoke/MethodHandle" ∧ y.cls ≠ "java/lang/invoke/VarHandle" ∧ (parseMethodDescriptor y.desc).map (fun d => d.parameters.length) = some n) (hR : rm.frames + 1 ≤ R.frames ∧ 8 + (maxL + 11) + rm.locals ≤ R.locals) :
    vx_CSW R s args own index y bytes maxL ret hh ws rm mc ms n := by
  have ok : ∀ w ∈ va_wsS own index y ws, w.before args s = true := fun w h => ht w (hT w h).1
  have hG : GoodIn Ts ws := fun w h => hT w (by unfold va_wsS; exact List.mem_append_right _ h)
  have hc : Cond.codeWith y bytes maxL ret hh ∈ ws := by rw [hw]; exact List.mem_cons_self
  refine ⟨⟨hrc, hrs, hR.1, hR.2, pay_in ht hG, hc⟩, ht _ (hG _ hc).1, ok _ (by simp [va_wsS]), ⟨hd.1, hd.2.1⟩, fun sig h => ?_, ok _ (by simp [va_wsS]), ok _ (by simp [va_wsS])⟩
  have h2 := hd.2.2
  rw [h] at h2
  exact (Option.some.inj h2).symm
theorem vx_callSW (X : Stand p l e R s m args below meth c T locs cells slots) (hexec : p.tables.exec = Jvm.exec) {own : String} {index : Nat} {y : MethodName} {bytes : ByteArray} {maxL : Nat} {ret : Option FieldType} {hh : List (Nat × Nat × Nat × Nat)}
    (hown : s.vm.findClass own = some m.cls) (hlink : (Cond.methodLink own index y).before args s = true) (hstat : (Cond.static y).before args s = true) (hinit : (Cond.initialized y.cls).before args s = true)
    (hcode : (Cond.codeWith y bytes maxL ret hh).before args s = true) (hy : y.cls ≠ "java/lang/invoke/MethodHandle" ∧ y.cls ≠ "java/lang/invoke/VarHandle")
    {W9 : Nat} {Pre : Pt → Array Value → Prop} {Post : Pt → Array Value → Option Value → Pt → Prop} (hK : Back l R p e below s args y 3 W9 Pre Post)
    {g : JFrame} (hg : g.method = m) (hsize : g.locals.size = c.maxLocals) {argsL rest : List Value} (hlen : ∀ sig, parseMethodDescriptor y.desc = some sig → argsL.length = sig.parameters.length)
    (hstack : g.stack = argsL.reverse ++ rest) (hW : 2 * g.monitorRoom + (rest.map fun v => v.category).sum ≤ W9) (hdg : decode c.code g.pc = .ok (.invokestatic index, 3))
    (hpre : ∀ vm₁, s.WarmedH vm₁ → Pre ⟨T.setVm vm₁, locs, cells, slots⟩ argsL.toArray) :
    ∃ (v : Option Value) (vm₁ : Vm) (B : Pt), s.WarmedH vm₁ ∧ Stand p l e R s m args below meth c B.U B.locs B.cells B.slots ∧ Post ⟨T.setVm vm₁, locs, cells, slots⟩ argsL.toArray v B ∧
      ∀ target, Steps p.tables e below (B.U.setTop { g with pc := g.pc + 3, stack := v.toList ++ rest }) target → Steps p.tables e below (T.setTop g) target := by
  obtain ⟨mk, methM, cM, hnamed, hmethM, -, -, -, -, -, -, hsigM⟩ := Cond.codeWith_spec hcode
  have hstatic : methM.isStatic = true := Cond.static_spec hnamed hmethM hstat
  obtain ⟨kP, hkP, -⟩ := className_of_methodNamed hnamed
  have hinitP : kP.init = .initialized := Cond.initialized_spec (findClass_of_methodNamed hnamed) hkP hinit
  obtain ⟨vm₁, X₁, hstep₁⟩ := X.invokestatic hexec hown hlink hnamed hmethM hstatic hkP hinitP hy (g := g) hg (argsL := argsL) (rest := rest) (hlen _ hsigM) hstack hdg
  obtain ⟨v, B, X', hpost, hsteps⟩ := hK m meth c ⟨T.setVm vm₁, locs, cells, slots⟩ { g with stack := rest } (.invokestatic index) mk argsL.toArray X₁ hg hsize hdg hW (X₁.named hnamed) (hpre vm₁ X₁.warmed)
  exact ⟨v, vm₁, B, X₁.warmed, X', hpost, fun target h => hstep₁ _ fun acts => by rw [doInvoke_state]; exact hsteps.trans h⟩
theorem vx_runSW {y : MethodName} {bytes cc : ByteArray} {maxL nL mc ms n index : Nat} {ret : Option FieldType} {hh : List (Nat × Nat × Nat × Nat)} {ws : List Cond} {rm : Room} {Pc : Array Value → State → Prop} {Qc : Array Value → State → Outcome → State → Prop} {free : Addr → Prop} {Ts : List Cond} {own : String} {As rest : List Value} {g : JFrame}
    (S : CallFix p m c cc nL s args Ts own) (hM : Met l y ws rm Pc Qc mc ms free) (cw : vx_CSW R s args own index y bytes maxL ret hh ws rm mc ms n) (hp : PreS s H Pc As)
    (hg : g.method = m) (hn : As.length = n) (hsize : g.locals.size = nL) (hstack : g.stack = As.reverse ++ rest) (hW : 2 * g.monitorRoom + (rest.map fun v => v.category).sum ≤ 8) (hdg : decode cc g.pc = .ok (.invokestatic index, 3)) (hf : cells + mc ≤ R.cells ∧ slots + ms ≤ R.slots) :
    va_Run p l e R s m args below meth c H locs cells slots mc ms g rest (Qc As.toArray) (free) := by
  obtain ⟨⟨hrc, hrs, hfr, hlo, hws, hcw⟩, hcode, hini, hy, hlen, hl, hstt⟩ := cw
  have hK : Back l R p e below s args y 3 8 (PreOf R mc ms Pc) (PostOf Qc mc ms free) := va_backW (hh := hh) (bytes := bytes) (maxL := maxL) (ret := ret) hM hp.1 hrc hrs hfr hlo hws hcw (fun a' U hW => word_at hW (Or.inl (by first | rfl | simp [Cond.onTables, Cond.keeps, Cond.steady])) hini)
  obtain ⟨hx, hb, hml, ho, -⟩ := S
  intro T hT X
  obtain ⟨v, vm₁, ⟨U', l2, c2, s2⟩, hW₁, X', ⟨g', mk, t, L, e1, e2, hq, h1, hL, h2, h3⟩, st⟩ := vx_callSW X hx (hh := hh) (bytes := bytes) (maxL := maxL) (ret := ret) ho hl hstt hini hcode hy hK hg (hsize.trans hml.symm) (argsL := As) (rest := rest) (fun sig h => hn.trans (hlen sig h)) hstack hW (by rw [hb]; exact hdg)
    (fun vm₁ hW₁ => ⟨hf.1, hf.2, hp.2 (T.setVm vm₁) hT hW₁⟩)
  dsimp only [Pt.U, Pt.locs, Pt.cells, Pt.slots] at X' e1 e2 h1 h2 h3 st
  subst h1; subst h2; subst h3
  exact ⟨v, (T.setVm vm₁).calling g' mk As.toArray, t, U', L, hT, X', hL, e1, e2, hq, st⟩
/-- not caught here, past rows that name other classes: it goes on to the caller -/
theorem vx_outP {p : Program} {l : Launch} {e : Env} {R : Room} {s : State} {m : MethodId} {args : Array Value} {below : List Frame} {meth : Method} {c : Code} {H : Heap} {locs : List Loc} {cells slots : Nat} {free : Addr → Prop} {ls : Array Slot} {rest : List Value} {Qc : Array Value → State → Outcome → State → Prop} {XC : String → State → State → Prop}
    {pc : Nat} {own E : String} {ce : Cell} {q : Addr} {mc ms : Nat} (hown : s.vm.findClass own = some m.cls) (hlocks : meth.locks = false)
    (hpass : ∀ z ∈ c.exceptionTable.toList, covers z pc = false ∨ (z.catchType ≠ 0 ∧ ∃ nm : String, (Cond.classLink own z.catchType nm).before args s = true ∧ va_Nc E nm s)) (hcell : H[q]? = some ce) (hv : ce.vm = .none) (hcl : s.vm.findClass E = some ce.cls)
    (hx : ∀ t : State, t.heap = H → s.vm.Alike t.vm → XC E s t) (hf : ∀ z ∈ locs, free z.base) (hc : cells ≤ mc) (hs : slots ≤ ms) :
    vx_W p l e R s m args below meth c H locs cells slots (vx_MQ below Qc XC args s mc ms free) (F0 m pc ls rest) q := by
  intro T hT X
  have hpl : e.platform.magicAccessors = ({} : Platform).magicAccessors := by rw [X.admits.platform]
  obtain ⟨vm', hW', X', st⟩ := X.outThrough hlocks q (g := F0 m pc ls rest) rfl rfl rfl (cell := ce) (by rw [hT]; exact hcell) (by rw [hv]; rfl)
    (by obtain ⟨k9, h9, -⟩ := Vm.findClass_spec hcl; exact ⟨k9, h9⟩) (fun z hz => by
      rcases hpass z hz with h | ⟨hz0, nm, hl1, hn1⟩
      · exact Or.inl h
      · obtain ⟨c6, hc6, hcl6⟩ := Cond.classLink_spec hown hl1 e.platform hpl
        obtain ⟨a8, b8, h1, h2, h3⟩ := hn1
        cases Option.some.inj (h1.symm.trans hcl)
        cases Option.some.inj (h2.symm.trans hc6)
        exact Or.inr ⟨hz0, _, hcl6, h3⟩)
  obtain ⟨g₀, hfr⟩ := X'.frames_eq
  have hcell9 : ((T.setVm vm').setFrames (.throwing q :: below)).heap[q]? = some ce := by
    show T.heap[q]? = some ce
    rw [hT]; exact hcell
  have hend : Ended ((T.setVm vm').setFrames (.throwing q :: below)) below (.threw q) := State.frames_setFrames _ (State.cur_lt_of_frames hfr)
  refine ⟨(T.setVm vm').setFrames (.throwing q :: below), ?_, .threw q, X'.here.running, hend, Or.inr ⟨q, rfl, E, ce, locs, hx _ hT (X'.ends _).1.alike, hcell9, hv, hcl, (X'.ends _).1, (X'.ends _).2.mono hc hs, hf⟩⟩
  rw [X.pushThrowing_eq]
  exact st
/-- a thing of a world lies in the heap -/
theorem vx_lt {D : va_G} {cl : List vw_C} {ws : va_W} {H1 : Heap} (h : va_P D cl ws H1) {k : Nat} {q : Nat × va_E} (hk : ws[k]? = some q) : q.1 < H1.size := (h k q hk).lt
end VXS
/-! ===== END ===== -/
/-! ===== BEGIN methods with a table of their own: called by a name, returning or throwing ===== -/
section VXH
/-! vx_backW, vx_callVX, vx_callSX, vx_callVW, vx_runVW, vx_runVX, vx_runSX, vx_ofWH follow the same proofs as their sisters above (Free/Laws.lean, Shelf42/LK1.lean); vx_outP calls Shelf42/NT130.lean (outThrough). -/
section
variable {l : Launch} {R : Room} {p : Program} {e : Env} {below : List Frame} {s : State} {sargs : Array Value} {y : MethodName} {len W9 : Nat}
theorem vx_backW {ws : List Cond} {rm : Room} {Pc : Array Value → State → Prop} {Qc : Array Value → State → Outcome → State → Prop} {XC : String → State → State → Prop} {mc ms : Nat} {free : Addr → Prop} {bytes : ByteArray} {maxL : Nat} {ret : Option FieldType} {hh : List (Nat × Nat × Nat × Nat)}
    (hM : vx_Met l y ws rm Pc Qc XC mc ms free) (hblind : FrameBlind Pc) (hrc : rm.cells = mc) (hrs : rm.slots = ms)
    (hframes : rm.frames + 1 ≤ R.frames) (hlocals : W9 + (maxL + 11) + rm.locals ≤ R.locals)
    (hws : ∀ w ∈ ws, ∀ a' U, s.WarmedH U.vm → w.before a' U = true) (hcode : Cond.codeWith y bytes maxL ret hh ∈ ws) (hinit : ∀ a' U, s.WarmedH U.vm → (Cond.initialized y.cls).before a' U = true) :
    vx_Back l R p e below s sargs y len W9 (PreOf R mc ms Pc) (PostOf Qc mc ms free) (vx_Post XC mc ms free) := by
  intro m meth c A g ig mk a X hg hsize hdg hW hn hp
  have h1 : (headSpec ws rm).pre.before a A.U = true := atoms_intro fun w hw => hws w hw _ _ X.warmed
  have h2 : (Cond.codeWith y bytes maxL ret hh).before a A.U = true := hws _ hcode _ _ X.warmed
  have h3 : (Cond.initialized y.cls).before a A.U = true := hinit _ _ X.warmed
  have h4 : A.cells + (headSpec ws rm).room.cells ≤ R.cells := by rw [show (headSpec ws rm).room.cells = mc from hrc]; exact hp.1
  have h5 : A.slots + (headSpec ws rm).room.slots ≤ R.slots := by rw [show (headSpec ws rm).room.slots = ms from hrs]; exact hp.2.1
  have hPc : Pc a (A.U.calling g mk a) := hblind _ _ _ _ hp.2.2
  obtain ⟨U, Ls, c0, s0⟩ := A
  dsimp only [Pt.U, Pt.locs, Pt.cells, Pt.slots] at h1 h2 h3 h4 h5 X hn hPc ⊢
  obtain ⟨m9, methY, cY, hn9, hmY, hcY, -, hlY, -⟩ := Cond.codeWith_spec h2
  cases Option.some.inj (hn9.symm.trans hn)
  obtain ⟨kY, hkY, -⟩ := className_of_methodNamed hn
  have hinitY : kY.init = .initialized := Cond.initialized_spec (findClass_of_methodNamed hn) hkY h3
  have h : At U g.method c below := by rw [hg]; exact X.here
  have hlocals9 : W9 + (maxL + 11) + (headSpec ws rm).room.locals ≤ R.locals := hlocals
  have happ : (headSpec ws rm).appliesLoose y e.platform (U.calling g mk a) = true :=
    Spec.appliesLoose_calling (g := g) h hdg hn hkY hinitY
      (X.room_calling (g := g) (R' := (headSpec ws rm).room) hsize hmY hcY hframes (by rw [hlY]; omega) h4 h5) h1
  obtain ⟨mid, hmid⟩ := h.above
  have hfr : (U.setTop g).frames = (.java g :: mid) ++ below := by rw [State.frames_setTop' g h.top, hmid]; rfl
  obtain ⟨o, s₂, hsteps, -, hend, hq⟩ := Steps.callFree hM p X.admits X.cas X.clock (acts := []) hfr happ hPc trivial
  have hq' : vx_Q Qc XC mc ms free a (U.calling g mk a) o s₂ := hq
  rw [State.frames_setTop' g h.top] at hend
  obtain ⟨g₀, hg0⟩ := Option.isSome_iff_exists.mp h.top
  obtain ⟨r, hr⟩ := State.topJava?_eq_some.mp hg0
  have hr' : (({ U with heap := s₂.heap, slotsUsed := s₂.slotsUsed } : State).setVm s₂.vm).frames = .java g₀ :: r := hr
  rcases hq' with ⟨hqc, L, hfe, hL⟩ | ⟨q, rfl, E, ce, L, hx, hce, hcv, hcl, hW₂, hsm, hL⟩
  · obtain ⟨⟨v, rfl⟩, hW₂, e2, q2, q3, q4, q5, q6⟩ := id hfe
    have e3 : s₂ = ({ (U.calling g mk a).setFrames s₂.frames with heap := s₂.heap, slotsUsed := s₂.slotsUsed } : State).setVm s₂.vm := by
      have : s₂ = ({ s₂ with vm := (U.calling g mk a).vm } : State).setVm s₂.vm := rfl
      rw [e2] at this
      exact this
    obtain ⟨c₂, i₂, len₂, hc₂, hd₂, hf₂⟩ := hend
    have hW' : U.WarmedH s₂.vm := hW₂
    have hcc : c₂ = c := by
      have h1 : s₂.code? g.method = U.code? g.method := by
        rw [State.code?_eq, State.code?_eq, hW'.alike.method?]
      exact Option.some.inj (hc₂.symm.trans (h1.trans h.code))
    subst hcc
    have hlen : len₂ = len := by rw [hdg] at hd₂; cases hd₂; rfl
    subst hlen
    have hs₂ : s₂ = (({ U with heap := s₂.heap, slotsUsed := s₂.slotsUsed } : State).setVm s₂.vm).setTop { g with pc := g.pc + len₂, stack := v.toList ++ g.stack } := by
      refine e3.trans ?_
      rw [hf₂, State.calling_eq h.top, State.setFrames_setFrames, State.setTop_of_frames _ hr', hr]
      rfl
    have hsame : U.sameButNew ({ U with heap := s₂.heap, slotsUsed := s₂.slotsUsed } : State) L mc ms := by
      refine ⟨?_, q2, q3, q4, q5, q6⟩
      obtain ⟨t, ht, -⟩ := State.frames_cons hr
      show ({ U with heap := s₂.heap, slotsUsed := s₂.slotsUsed } : State) = { U.setFrames U.frames with heap := s₂.heap, slotsUsed := s₂.slotsUsed }
      rw [State.setFrames_self ht]
    subst hg
    refine Or.inl ⟨v, ⟨(({ U with heap := s₂.heap, slotsUsed := s₂.slotsUsed } : State).setVm s₂.vm), Ls ++ L, c0 + mc, s0 + ms⟩,
      ⟨X.admits, X.cas, X.clock, X.frames, X.room, X.hears, X.method, X.code, (X.here.setHeapUsed s₂.heap s₂.slotsUsed).setVm hW'.alike, X.tail, State.WarmedH.trans X.warmed hW', X.limits, X.bytes, X.same.trans (hsame.setVm s.vm)⟩,
      ⟨g, mk, s₂, L, rfl, rfl, hqc, rfl, hL, rfl, rfl⟩, ?_⟩
    show Steps p.tables e below _ ((({ U with heap := s₂.heap, slotsUsed := s₂.slotsUsed } : State).setVm s₂.vm).setTop { g with pc := g.pc + len₂, stack := v.toList ++ g.stack })
    rw [← hs₂]
    exact hsteps
  · obtain ⟨e2, q2, q3, q4, q5, q6⟩ := id hsm
    have e3 : s₂ = ({ (U.calling g mk a).setFrames s₂.frames with heap := s₂.heap, slotsUsed := s₂.slotsUsed } : State).setVm s₂.vm := by
      have : s₂ = ({ s₂ with vm := (U.calling g mk a).vm } : State).setVm s₂.vm := rfl
      rw [e2] at this
      exact this
    have hf₂ : s₂.frames = .throwing q :: .java g :: U.frames.tail := hend
    have hW' : U.WarmedH s₂.vm := hW₂
    have hs₂ : s₂ = ((({ U with heap := s₂.heap, slotsUsed := s₂.slotsUsed } : State).setVm s₂.vm).setTop g).pushFrame (.throwing q) := by
      refine e3.trans ?_
      rw [hf₂, State.calling_eq h.top, State.setFrames_setFrames, State.pushFrame, State.frames_setTop _ hr', State.setTop_of_frames _ hr', State.setFrames_setFrames, hr]
      rfl
    have hsame : U.sameButNew ({ U with heap := s₂.heap, slotsUsed := s₂.slotsUsed } : State) L mc ms := by
      refine ⟨?_, q2, q3, q4, q5, q6⟩
      obtain ⟨t, ht, -⟩ := State.frames_cons hr
      show ({ U with heap := s₂.heap, slotsUsed := s₂.slotsUsed } : State) = { U.setFrames U.frames with heap := s₂.heap, slotsUsed := s₂.slotsUsed }
      rw [State.setFrames_self ht]
    subst hg
    refine Or.inr ⟨q, ⟨(({ U with heap := s₂.heap, slotsUsed := s₂.slotsUsed } : State).setVm s₂.vm), Ls ++ L, c0 + mc, s0 + ms⟩,
      ⟨X.admits, X.cas, X.clock, X.frames, X.room, X.hears, X.method, X.code, (X.here.setHeapUsed s₂.heap s₂.slotsUsed).setVm hW'.alike, X.tail, State.WarmedH.trans X.warmed hW', X.limits, X.bytes, X.same.trans (hsame.setVm s.vm)⟩,
      ⟨g, mk, s₂, L, E, ce, rfl, rfl, hx, hce, hcv, hcl, rfl, hL, rfl, rfl⟩, ?_⟩
    show Steps p.tables e below _ (((({ U with heap := s₂.heap, slotsUsed := s₂.slotsUsed } : State).setVm s₂.vm).setTop g).pushFrame (.throwing q))
    rw [← hs₂]
    exact hsteps
end
variable {p : Program} {l : Launch} {e : Env} {R : Room} {s : State} {m : MethodId} {args : Array Value} {below : List Frame} {meth : Method} {c : Code} {T : State} {H : Heap} {locs : List Loc} {cells slots : Nat}
theorem vx_callVX (X : Stand p l e R s m args below meth c T locs cells slots) (hexec : p.tables.exec = Jvm.exec) {own C : String} {index : Nat} {y : MethodName} {bytes : ByteArray} {maxL : Nat} {ret : Option FieldType} {hh : List (Nat × Nat × Nat × Nat)}
    (hown : s.vm.findClass own = some m.cls) (hlink : (Cond.methodLink own index y).before args s = true) (hinst : (Cond.instanceMethod y).before args s = true) (hsel : (Cond.selects C y y).before args s = true)
    (hcode : (Cond.codeWith y bytes maxL ret hh).before args s = true) (hy : y.cls ≠ "java/lang/invoke/MethodHandle" ∧ y.cls ≠ "java/lang/invoke/VarHandle")
    {W9 : Nat} {Pre : Pt → Array Value → Prop} {Post : Pt → Array Value → Option Value → Pt → Prop} {PostX : Pt → Array Value → Addr → Pt → Prop} (hK : vx_Back l R p e below s args y 3 W9 Pre Post PostX)
    {b : Addr} {cellB : Cell} (hcell : T.heap[b]? = some cellB) (hobj : cellB.vm.isStatics = false) (hcls : s.vm.findClass C = some cellB.cls)
    {g : JFrame} (hg : g.method = m) (hsize : g.locals.size = c.maxLocals) {argsL rest : List Value} (hlen : ∀ sig, parseMethodDescriptor y.desc = some sig → argsL.length = sig.parameters.length)
    (hstack : g.stack = argsL.reverse ++ .ref b :: rest) (hW : 2 * g.monitorRoom + (rest.map fun v => v.category).sum ≤ W9) (hdg : decode c.code g.pc = .ok (.invokevirtual index, 3))
    (hpre : ∀ vm₁, s.WarmedH vm₁ → Pre ⟨T.setVm vm₁, locs, cells, slots⟩ (Value.ref b :: argsL).toArray) :
    (∃ (v : Option Value) (vm₁ : Vm) (B : Pt), s.WarmedH vm₁ ∧ Stand p l e R s m args below meth c B.U B.locs B.cells B.slots ∧ Post ⟨T.setVm vm₁, locs, cells, slots⟩ (Value.ref b :: argsL).toArray v B ∧
      ∀ target, Steps p.tables e below (B.U.setTop { g with pc := g.pc + 3, stack := v.toList ++ rest }) target → Steps p.tables e below (T.setTop g) target) ∨
    (∃ (q : Addr) (vm₁ : Vm) (B : Pt), s.WarmedH vm₁ ∧ Stand p l e R s m args below meth c B.U B.locs B.cells B.slots ∧ PostX ⟨T.setVm vm₁, locs, cells, slots⟩ (Value.ref b :: argsL).toArray q B ∧
      Steps p.tables e below (T.setTop g) ((B.U.setTop { g with stack := rest }).pushFrame (.throwing q))) := by
  obtain ⟨mk, methM, hnamed, hmethM, hstM, habM⟩ := Cond.instanceMethod_spec hinst
  obtain ⟨m8, methM', cM, hn8, hmethM', -, -, -, -, -, -, hsigM⟩ := Cond.codeWith_spec hcode
  cases Option.some.inj (hn8.symm.trans hnamed)
  cases hmethM.symm.trans hmethM'
  obtain ⟨c2, r2, m2, q1, q2, q3, q4, kP, hkP, hkPi⟩ := Cond.selects_spec hsel
  cases hcls.symm.trans q1
  cases (State.methodFound?_of_named hnamed hy).symm.trans q2
  cases hnamed.symm.trans q3
  have hselP : selectMethod e.platform s.vm cellB.cls mk = .method mk := by rw [Launch.admits_selectMethod X.admits]; exact q4
  obtain ⟨vm₁, X₁, hstep₁⟩ := X.invokevirtual hexec hown hlink hnamed hmethM hstM hkP hkPi hy (a := b) (cell := cellB) hcell
    (fun z h => by rw [h] at hobj; cases hobj) hselP hmethM habM hkP hkPi (g := g) hg (argsL := argsL) (rest := rest) (hlen _ hsigM) hstack hdg
  rcases hK m meth c ⟨T.setVm vm₁, locs, cells, slots⟩ { g with stack := rest } (.invokevirtual index) mk (Value.ref b :: argsL).toArray X₁ hg hsize hdg hW (X₁.named hnamed) (hpre vm₁ X₁.warmed) with ⟨v, B, X', hpost, hsteps⟩ | ⟨q, B, X', hpost, hsteps⟩
  · exact Or.inl ⟨v, vm₁, B, X₁.warmed, X', hpost, fun target h => hstep₁ _ fun acts => by rw [doInvoke_state]; exact hsteps.trans h⟩
  · exact Or.inr ⟨q, vm₁, B, X₁.warmed, X', hpost, hstep₁ _ fun acts => by rw [doInvoke_state]; exact hsteps⟩
theorem vx_callSX (X : Stand p l e R s m args below meth c T locs cells slots) (hexec : p.tables.exec = Jvm.exec) {own : String} {index : Nat} {y : MethodName} {bytes : ByteArray} {maxL : Nat} {ret : Option FieldType} {hh : List (Nat × Nat × Nat × Nat)}
    (hown : s.vm.findClass own = some m.cls) (hlink : (Cond.methodLink own index y).before args s = true) (hstat : (Cond.static y).before args s = true) (hinit : (Cond.initialized y.cls).before args s = true)
    (hcode : (Cond.codeWith y bytes maxL ret hh).before args s = true) (hy : y.cls ≠ "java/lang/invoke/MethodHandle" ∧ y.cls ≠ "java/lang/invoke/VarHandle")
    {W9 : Nat} {Pre : Pt → Array Value → Prop} {Post : Pt → Array Value → Option Value → Pt → Prop} {PostX : Pt → Array Value → Addr → Pt → Prop} (hK : vx_Back l R p e below s args y 3 W9 Pre Post PostX)
    {g : JFrame} (hg : g.method = m) (hsize : g.locals.size = c.maxLocals) {argsL rest : List Value} (hlen : ∀ sig, parseMethodDescriptor y.desc = some sig → argsL.length = sig.parameters.length)
    (hstack : g.stack = argsL.reverse ++ rest) (hW : 2 * g.monitorRoom + (rest.map fun v => v.category).sum ≤ W9) (hdg : decode c.code g.pc = .ok (.invokestatic index, 3))
    (hpre : ∀ vm₁, s.WarmedH vm₁ → Pre ⟨T.setVm vm₁, locs, cells, slots⟩ argsL.toArray) :
    (∃ (v : Option Value) (vm₁ : Vm) (B : Pt), s.WarmedH vm₁ ∧ Stand p l e R s m args below meth c B.U B.locs B.cells B.slots ∧ Post ⟨T.setVm vm₁, locs, cells, slots⟩ argsL.toArray v B ∧
      ∀ target, Steps p.tables e below (B.U.setTop { g with pc := g.pc + 3, stack := v.toList ++ rest }) target → Steps p.tables e below (T.setTop g) target) ∨
    (∃ (q : Addr) (vm₁ : Vm) (B : Pt), s.WarmedH vm₁ ∧ Stand p l e R s m args below meth c B.U B.locs B.cells B.slots ∧ PostX ⟨T.setVm vm₁, locs, cells, slots⟩ argsL.toArray q B ∧
      Steps p.tables e below (T.setTop g) ((B.U.setTop { g with stack := rest }).pushFrame (.throwing q))) := by
  obtain ⟨mk, methM, cM, hnamed, hmethM, -, -, -, -, -, -, hsigM⟩ := Cond.codeWith_spec hcode
  have hstatic : methM.isStatic = true := Cond.static_spec hnamed hmethM hstat
  obtain ⟨kP, hkP, -⟩ := className_of_methodNamed hnamed
  have hinitP : kP.init = .initialized := Cond.initialized_spec (findClass_of_methodNamed hnamed) hkP hinit
  obtain ⟨vm₁, X₁, hstep₁⟩ := X.invokestatic hexec hown hlink hnamed hmethM hstatic hkP hinitP hy (g := g) hg (argsL := argsL) (rest := rest) (hlen _ hsigM) hstack hdg
  rcases hK m meth c ⟨T.setVm vm₁, locs, cells, slots⟩ { g with stack := rest } (.invokestatic index) mk argsL.toArray X₁ hg hsize hdg hW (X₁.named hnamed) (hpre vm₁ X₁.warmed) with ⟨v, B, X', hpost, hsteps⟩ | ⟨q, B, X', hpost, hsteps⟩
  · exact Or.inl ⟨v, vm₁, B, X₁.warmed, X', hpost, fun target h => hstep₁ _ fun acts => by rw [doInvoke_state]; exact hsteps.trans h⟩
  · exact Or.inr ⟨q, vm₁, B, X₁.warmed, X', hpost, hstep₁ _ fun acts => by rw [doInvoke_state]; exact hsteps⟩
theorem vx_callVW (X : Stand p l e R s m args below meth c T locs cells slots) (hexec : p.tables.exec = Jvm.exec) {own C : String} {index : Nat} {y : MethodName} {bytes : ByteArray} {maxL : Nat} {ret : Option FieldType} {hh : List (Nat × Nat × Nat × Nat)}
    (hown : s.vm.findClass own = some m.cls) (hlink : (Cond.methodLink own index y).before args s = true) (hinst : (Cond.instanceMethod y).before args s = true) (hsel : (Cond.selects C y y).before args s = true)
    (hcode : (Cond.codeWith y bytes maxL ret hh).before args s = true) (hy : y.cls ≠ "java/lang/invoke/MethodHandle" ∧ y.cls ≠ "java/lang/invoke/VarHandle")
    {W9 : Nat} {Pre : Pt → Array Value → Prop} {Post : Pt → Array Value → Option Value → Pt → Prop} (hK : Back l R p e below s args y 3 W9 Pre Post)
    {b : Addr} {cellB : Cell} (hcell : T.heap[b]? = some cellB) (hobj : cellB.vm.isStatics = false) (hcls : s.vm.findClass C = some cellB.cls)
    {g : JFrame} (hg : g.method = m) (hsize : g.locals.size = c.maxLocals) {argsL rest : List Value} (hlen : ∀ sig, parseMethodDescriptor y.desc = some sig → argsL.length = sig.parameters.length)
    (hstack : g.stack = argsL.reverse ++ .ref b :: rest) (hW : 2 * g.monitorRoom + (rest.map fun v => v.category).sum ≤ W9) (hdg : decode c.code g.pc = .ok (.invokevirtual index, 3))
    (hpre : ∀ vm₁, s.WarmedH vm₁ → Pre ⟨T.setVm vm₁, locs, cells, slots⟩ (Value.ref b :: argsL).toArray) :
    ∃ (v : Option Value) (vm₁ : Vm) (B : Pt), s.WarmedH vm₁ ∧ Stand p l e R s m args below meth c B.U B.locs B.cells B.slots ∧ Post ⟨T.setVm vm₁, locs, cells, slots⟩ (Value.ref b :: argsL).toArray v B ∧
      ∀ target, Steps p.tables e below (B.U.setTop { g with pc := g.pc + 3, stack := v.toList ++ rest }) target → Steps p.tables e below (T.setTop g) target := by
  obtain ⟨mk, methM, hnamed, hmethM, hstM, habM⟩ := Cond.instanceMethod_spec hinst
  obtain ⟨m8, methM', cM, hn8, hmethM', -, -, -, -, -, -, hsigM⟩ := Cond.codeWith_spec hcode
  cases Option.some.inj (hn8.symm.trans hnamed)
  cases hmethM.symm.trans hmethM'
  obtain ⟨c2, r2, m2, q1, q2, q3, q4, kP, hkP, hkPi⟩ := Cond.selects_spec hsel
  cases hcls.symm.trans q1
  cases (State.methodFound?_of_named hnamed hy).symm.trans q2
  cases hnamed.symm.trans q3
  have hselP : selectMethod e.platform s.vm cellB.cls mk = .method mk := by rw [Launch.admits_selectMethod X.admits]; exact q4
  obtain ⟨vm₁, X₁, hstep₁⟩ := X.invokevirtual hexec hown hlink hnamed hmethM hstM hkP hkPi hy (a := b) (cell := cellB) hcell
    (fun z h => by rw [h] at hobj; cases hobj) hselP hmethM habM hkP hkPi (g := g) hg (argsL := argsL) (rest := rest) (hlen _ hsigM) hstack hdg
  obtain ⟨v, B, X', hpost, hsteps⟩ := hK m meth c ⟨T.setVm vm₁, locs, cells, slots⟩ { g with stack := rest } (.invokevirtual index) mk (Value.ref b :: argsL).toArray X₁ hg hsize hdg hW (X₁.named hnamed) (hpre vm₁ X₁.warmed)
  exact ⟨v, vm₁, B, X₁.warmed, X', hpost, fun target h => hstep₁ _ fun acts => by rw [doInvoke_state]; exact hsteps.trans h⟩
abbrev vx_CVW (R : Room) (s : State) (args : Array Value) (own C : String) (index : Nat) (y : MethodName) (bytes : ByteArray) (maxL : Nat) (ret : Option FieldType) (hh : List (Nat × Nat × Nat × Nat)) (ws : List Cond) (rm : Room) (mc ms n : Nat) : Prop :=
  (rm.cells = mc ∧ rm.slots = ms ∧ rm.frames + 1 ≤ R.frames ∧ 8 + (maxL + 11) + rm.locals ≤ R.locals ∧ (∀ w ∈ ws, ∀ (a' : Array Value) (U : State), s.WarmedH U.vm → w.before a' U = true) ∧ Cond.codeWith y bytes maxL ret hh ∈ ws) ∧
  (Cond.codeWith y bytes maxL ret hh).before args s = true ∧ (Cond.initialized y.cls).before args s = true ∧ (y.cls ≠ "java/lang/invoke/MethodHandle" ∧ y.cls ≠ "java/lang/invoke/VarHandle") ∧
  (∀ sig, parseMethodDescriptor y.desc = some sig → n = sig.parameters.length) ∧ (Cond.methodLink own index y).before args s = true ∧ (Cond.instanceMethod y).before args s = true ∧ (Cond.selects C y y).before args s = true
theorem vx_cwVW {own C : String} {index maxL mc ms : Nat} {y : MethodName} {bytes : ByteArray} {ret : Option FieldType} {hh : List (Nat × Nat × Nat × Nat)} {Ts ws ws' : List Cond} {rm : Room} (n : Nat) (ht : ∀ w ∈ Ts, w.before args s = true) (hT : GoodIn Ts (wsV own index C y ws)) (hw : ws = Cond.codeWith y bytes maxL ret hh :: ws') (hrc : rm.cells = mc) (hrs : rm.slots = ms)
    (hd : y.cls = C ∧ y.cls ≠ "java/lang/invoke/MethodHandle" ∧ y.cls ≠ "java/lang/invoke/VarHandle" ∧ (parseMethodDescriptor y.desc).map (fun d => d.parameters.length) = some n) (hR : rm.frames + 1 ≤ R.frames ∧ 8 + (maxL + 11) + rm.locals ≤ R.locals) :
    vx_CVW R s args own C index y bytes maxL ret hh ws rm mc ms n := by
  obtain ⟨hC, hd⟩ := hd
  subst hC
  have ok : ∀ w ∈ wsV own index y.cls y ws, w.before args s = true := fun w h => ht w (hT w h).1
  have hG : GoodIn Ts ws := fun w h => hT w (by unfold wsV; exact List.mem_append_right _ h)
  have hc : Cond.codeWith y bytes maxL ret hh ∈ ws := by rw [hw]; exact List.mem_cons_self
  refine ⟨⟨hrc, hrs, hR.1, hR.2, pay_in ht hG, hc⟩, ht _ (hG _ hc).1, ok _ (by simp [wsV]), ⟨hd.1, hd.2.1⟩, fun sig h => ?_, ok _ (by simp [wsV]), ok _ (by simp [wsV]), ok _ (by simp [wsV])⟩
  have h2 := hd.2.2
  rw [h] at h2
  exact (Option.some.inj h2).symm
theorem vx_runVW {y : MethodName} {bytes cc : ByteArray} {maxL nL mc ms n index : Nat} {ret : Option FieldType} {hh : List (Nat × Nat × Nat × Nat)} {ws : List Cond} {rm : Room} {Pc : Array Value → State → Prop} {Qc : Array Value → State → Outcome → State → Prop} {free : Addr → Prop} {Ts : List Cond} {own C : String} {b : Addr} {As rest : List Value} {g : JFrame}
    (S : CallFix p m c cc nL s args Ts own) (hM : Met l y ws rm Pc Qc mc ms free) (cw : vx_CVW R s args own C index y bytes maxL ret hh ws rm mc ms n) (hp : PreV s H C b Pc As)
    (hg : g.method = m) (hn : As.length = n) (hsize : g.locals.size = nL) (hstack : g.stack = As.reverse ++ .ref b :: rest) (hW : 2 * g.monitorRoom + (rest.map fun v => v.category).sum ≤ 8) (hdg : decode cc g.pc = .ok (.invokevirtual index, 3)) (hf : cells + mc ≤ R.cells ∧ slots + ms ≤ R.slots) :
    va_Run p l e R s m args below meth c H locs cells slots mc ms g rest (Qc (Value.ref b :: As).toArray) free := by
  obtain ⟨⟨hrc, hrs, hfr, hlo, hws, hcw⟩, hcode, hini, hy, hlen, hl, hin, hse⟩ := cw
  have hK : Back l R p e below s args y 3 8 (PreOf R mc ms Pc) (PostOf Qc mc ms free) := va_backW (hh := hh) (bytes := bytes) (maxL := maxL) (ret := ret) hM hp.1 hrc hrs hfr hlo hws hcw (fun a' U hW => word_at hW (Or.inl (by first | rfl | simp [Cond.onTables, Cond.keeps, Cond.steady])) hini)
  obtain ⟨hx, hb, hml, ho, -⟩ := S
  obtain ⟨-, ⟨cellB, hcB, hoB, hclB⟩, hPc⟩ := hp
  intro T hT X
  obtain ⟨v, vm₁, ⟨U', l2, c2, s2⟩, hW₁, X', ⟨g', mk, t, L, e1, e2, hq, h1, hL, h2, h3⟩, st⟩ := vx_callVW X hx (C := C) (hh := hh) (bytes := bytes) (maxL := maxL) (ret := ret) ho hl hin hse hcode hy hK (by rw [hT]; exact hcB) hoB hclB hg (hsize.trans hml.symm) (argsL := As) (rest := rest) (fun sig h => hn.trans (hlen sig h)) hstack hW (by rw [hb]; exact hdg)
    (fun vm₁ hW₁ => ⟨hf.1, hf.2, hPc (T.setVm vm₁) hT hW₁⟩)
  dsimp only [Pt.U, Pt.locs, Pt.cells, Pt.slots] at X' e1 e2 h1 h2 h3 st
  subst h1; subst h2; subst h3
  exact ⟨v, (T.setVm vm₁).calling g' mk (Value.ref b :: As).toArray, t, U', L, hT, X', hL, e1, e2, hq, st⟩
section
variable {y : MethodName} {bytes cc : ByteArray} {maxL nL mc ms n index : Nat} {ret : Option FieldType} {ws : List Cond} {rm : Room} {Pc : Array Value → State → Prop} {Qc : Array Value → State → Outcome → State → Prop} {XC : String → State → State → Prop} {free : Addr → Prop} {Ts : List Cond} {own C : String} {b : Addr} {As rest : List Value} {g : JFrame}
theorem vx_runVX {hh : List (Nat × Nat × Nat × Nat)} (S : CallFix p m c cc nL s args Ts own) (hM : vx_Met l y ws rm Pc Qc XC mc ms free) (cw : vx_CVW R s args own C index y bytes maxL ret hh ws rm mc ms n) (hp : PreV s H C b Pc As)
    (hg : g.method = m) (hn : As.length = n) (hsize : g.locals.size = nL) (hstack : g.stack = As.reverse ++ .ref b :: rest) (hW : 2 * g.monitorRoom + (rest.map fun v => v.category).sum ≤ 8) (hdg : decode cc g.pc = .ok (.invokevirtual index, 3)) (hf : cells + mc ≤ R.cells ∧ slots + ms ≤ R.slots) :
    vx_Run p l e R s m args below meth c H locs cells slots mc ms g rest (Qc (Value.ref b :: As).toArray) XC free := by
  obtain ⟨⟨hrc, hrs, hfr, hlo, hws, hcw⟩, hcode, hini, hy, hlen, hl, hin, hse⟩ := cw
  have hK : vx_Back l R p e below s args y 3 8 (PreOf R mc ms Pc) (PostOf Qc mc ms free) (vx_Post XC mc ms free) := vx_backW (hh := hh) (bytes := bytes) (maxL := maxL) (ret := ret) hM hp.1 hrc hrs hfr hlo hws hcw (fun a' U hW => word_at hW (Or.inl (by first | rfl | simp [Cond.onTables, Cond.keeps, Cond.steady])) hini)
  obtain ⟨hx, hb, hml, ho, -⟩ := S
  obtain ⟨-, ⟨cellB, hcB, hoB, hclB⟩, hPc⟩ := hp
  intro T hT X
  rcases vx_callVX X hx (C := C) (hh := hh) (bytes := bytes) (maxL := maxL) (ret := ret) ho hl hin hse hcode hy hK (by rw [hT]; exact hcB) hoB hclB hg (hsize.trans hml.symm) (argsL := As) (rest := rest) (fun sig h => hn.trans (hlen sig h)) hstack hW (by rw [hb]; exact hdg)
    (fun vm₁ hW₁ => ⟨hf.1, hf.2, hPc (T.setVm vm₁) hT hW₁⟩) with ⟨v, vm₁, ⟨U', l2, c2, s2⟩, hW₁, X', ⟨g', mk, t, L, e1, e2, hq, h1, hL, h2, h3⟩, st⟩ | ⟨q, vm₁, ⟨U', l2, c2, s2⟩, hW₁, X', ⟨g', mk, t, L, E, ce, e1, e2, hq, hce, hcv, hcl, h1, hL, h2, h3⟩, st⟩
  · dsimp only [Pt.U, Pt.locs, Pt.cells, Pt.slots] at X' e1 e2 h1 h2 h3 st
    subst h1; subst h2; subst h3
    exact Or.inl ⟨v, (T.setVm vm₁).calling g' mk (Value.ref b :: As).toArray, t, U', L, hT, X', hL, e1, e2, hq, st⟩
  · dsimp only [Pt.U, Pt.locs, Pt.cells, Pt.slots] at X' e1 e2 h1 h2 h3 st hcl
    subst h1; subst h2; subst h3
    exact Or.inr ⟨q, (T.setVm vm₁).calling g' mk (Value.ref b :: As).toArray, t, U', L, E, ce, hT, X', hL, e1, e2, hq, hce, hcv, vx_cls hW₁ hcl, st⟩
theorem vx_runSX {hh : List (Nat × Nat × Nat × Nat)} (S : CallFix p m c cc nL s args Ts own) (hM : vx_Met l y ws rm Pc Qc XC mc ms free) (cw : vx_CSW R s args own index y bytes maxL ret hh ws rm mc ms n) (hp : PreS s H Pc As)
    (hg : g.method = m) (hn : As.length = n) (hsize : g.locals.size = nL) (hstack : g.stack = As.reverse ++ rest) (hW : 2 * g.monitorRoom + (rest.map fun v => v.category).sum ≤ 8) (hdg : decode cc g.pc = .ok (.invokestatic index, 3)) (hf : cells + mc ≤ R.cells ∧ slots + ms ≤ R.slots) :
    vx_Run p l e R s m args below meth c H locs cells slots mc ms g rest (Qc As.toArray) XC free := by
  obtain ⟨⟨hrc, hrs, hfr, hlo, hws, hcw⟩, hcode, hini, hy, hlen, hl, hstt⟩ := cw
  have hK : vx_Back l R p e below s args y 3 8 (PreOf R mc ms Pc) (PostOf Qc mc ms free) (vx_Post XC mc ms free) := vx_backW (hh := hh) (bytes := bytes) (maxL := maxL) (ret := ret) hM hp.1 hrc hrs hfr hlo hws hcw (fun a' U hW => word_at hW (Or.inl (by first | rfl | simp [Cond.onTables, Cond.keeps, Cond.steady])) hini)
  obtain ⟨hx, hb, hml, ho, -⟩ := S
  intro T hT X
  rcases vx_callSX X hx (hh := hh) (bytes := bytes) (maxL := maxL) (ret := ret) ho hl hstt hini hcode hy hK hg (hsize.trans hml.symm) (argsL := As) (rest := rest) (fun sig h => hn.trans (hlen sig h)) hstack hW (by rw [hb]; exact hdg)
    (fun vm₁ hW₁ => ⟨hf.1, hf.2, hp.2 (T.setVm vm₁) hT hW₁⟩) with ⟨v, vm₁, ⟨U', l2, c2, s2⟩, hW₁, X', ⟨g', mk, t, L, e1, e2, hq, h1, hL, h2, h3⟩, st⟩ | ⟨q, vm₁, ⟨U', l2, c2, s2⟩, hW₁, X', ⟨g', mk, t, L, E, ce, e1, e2, hq, hce, hcv, hcl, h1, hL, h2, h3⟩, st⟩
  · dsimp only [Pt.U, Pt.locs, Pt.cells, Pt.slots] at X' e1 e2 h1 h2 h3 st
    subst h1; subst h2; subst h3
    exact Or.inl ⟨v, (T.setVm vm₁).calling g' mk As.toArray, t, U', L, hT, X', hL, e1, e2, hq, st⟩
  · dsimp only [Pt.U, Pt.locs, Pt.cells, Pt.slots] at X' e1 e2 h1 h2 h3 st hcl
    subst h1; subst h2; subst h3
    exact Or.inr ⟨q, (T.setVm vm₁).calling g' mk As.toArray, t, U', L, E, ce, hT, X', hL, e1, e2, hq, hce, hcv, vx_cls hW₁ hcl, st⟩
end
end VXH
theorem vx_ofWH {l : Launch} {y : MethodName} {ws ws' : List Cond} {rm : Room} {Pc : Array Value → State → Prop} {Qc : Array Value → State → Outcome → State → Prop} {XC : String → State → State → Prop} {mc ms : Nat} {free : Addr → Prop} {cc : ByteArray} {maxL : Nat} {ret : Option FieldType} {hh : List (Nat × Nat × Nat × Nat)}
    (hy : plainName y.cls = true) (hw : ws = Cond.codeWith y cc maxL ret hh :: ws')
    (body : ∀ p e s m args below meth c s₁, BodyLoose p l y (headSpec ws rm) cc maxL ret e s m args below meth c s₁ → c.maxLocals = maxL → Pc args s →
      W p l e (headSpec ws rm).room s m args below meth c s.heap [] 0 0 (vx_MQ below Qc XC args s mc ms free) (entryFrame m args maxL)) : vx_Met l y ws rm Pc Qc XC mc ms free := by
  refine MetFree.of_bodyS (code := cc) (maxLocals := maxL) (ret := ret) hy ?_ ?_
  · intro args s m h hn
    obtain ⟨m9, meth, c, hn9, h1, h2, h3, h4, -, h5, h6, -⟩ := Cond.codeWith_spec (atoms_spec (ws := ws) h _ (by rw [hw]; exact List.mem_cons_self))
    cases hn.symm.trans hn9
    exact ⟨meth, c, h1, h2, h3, h4, h5, h6⟩
  · intro p e s m args below meth c s₁ B hml hP _
    have hh0 : s₁.heap = s.heap := by rw [B.state]; rfl
    obtain ⟨t, a1, o, b1, b2, b3⟩ := body p e s m args below meth c s₁ B hml hP s₁ hh0 (Stand.of_body B)
    exact ⟨t, o, a1, b1, b2, b3⟩
/-! ===== END ===== -/

/-! ===== BEGIN printed: names, fields, word lists, decode rows ===== -/
def RX0 : String := "SuffixWright$Automaton"
def TX0 : u_T := fun k => match k with
  | 0 => ("SuffixWright$Automaton", "ends", "LSuffixWright$Ends;", true)
  | 1 => ("SuffixWright$Automaton", "steps", "[I", true)
  | 2 => ("SuffixWright$Automaton", "longest", "[I", true)
  | 3 => ("SuffixWright$Automaton", "links", "[I", true)
  | 4 => ("SuffixWright$Automaton", "byLength", "[I", true)
  | 5 => ("SuffixWright$Automaton", "wholes", "[I", true)
  | _ => ("SuffixWright$Automaton", "states", "I", false)
def tyX0 : Nat → FieldType := fun k => match k with
  | 0 => .object "SuffixWright$Ends"
  | 1 => .array .int
  | 2 => .array .int
  | 3 => .array .int
  | 4 => .array .int
  | 5 => .array .int
  | _ => .int
abbrev wsX00 : List Cond := u_ws RX0 TX0 7
theorem nmX0 : ∀ a, a < 7 → ∀ b, b < 7 → a ≠ b → (TX0 a).2.1 ≠ (TX0 b).2.1 := by decide +kernel
theorem tyX0_ok : ∀ k, k < 7 → parseFieldDescriptor (TX0 k).2.2.1 = some (tyX0 k) := by decide +kernel
abbrev cX0_init : ByteArray := prog_2_method_1_code
def yX0_init : MethodName := ⟨RX0, "<init>", "()V"⟩
abbrev cX0_forget : ByteArray := prog_2_method_2_code
def yX0_forget : MethodName := ⟨RX0, "forget", "()V"⟩
abbrev cX0_stateCount : ByteArray := prog_2_method_3_code
def yX0_stateCount : MethodName := ⟨RX0, "stateCount", "()I"⟩
abbrev cX0_stateAt : ByteArray := prog_2_method_4_code
def yX0_stateAt : MethodName := ⟨RX0, "stateAt", "(I)I"⟩
abbrev cX0_partCount : ByteArray := prog_2_method_5_code
def yX0_partCount : MethodName := ⟨RX0, "partCount", "()I"⟩
abbrev cX0_longestOf : ByteArray := prog_2_method_6_code
def yX0_longestOf : MethodName := ⟨RX0, "longestOf", "(I)I"⟩
abbrev cX0_shortestOf : ByteArray := prog_2_method_7_code
def yX0_shortestOf : MethodName := ⟨RX0, "shortestOf", "(I)I"⟩
abbrev cX0_step : ByteArray := prog_2_method_8_code
def yX0_step : MethodName := ⟨RX0, "step", "(II)I"⟩
abbrev cX0_grow : ByteArray := prog_2_method_9_code
def yX0_grow : MethodName := ⟨RX0, "grow", "(III)V"⟩
abbrev cX0_extend : ByteArray := prog_2_method_10_code
def yX0_extend : MethodName := ⟨RX0, "extend", "(II)I"⟩
abbrev cX0_stateBehind : ByteArray := prog_2_method_11_code
def yX0_stateBehind : MethodName := ⟨RX0, "stateBehind", "(II)I"⟩
abbrev cX0_addState : ByteArray := prog_2_method_12_code
def yX0_addState : MethodName := ⟨RX0, "addState", "(II)I"⟩
abbrev cX0_sortIn : ByteArray := prog_2_method_13_code
def yX0_sortIn : MethodName := ⟨RX0, "sortIn", "(I)V"⟩
abbrev cX0_linkOf : ByteArray := prog_2_method_14_code
def yX0_linkOf : MethodName := ⟨RX0, "linkOf", "(I)I"⟩
abbrev cX0_putLink : ByteArray := prog_2_method_15_code
def yX0_putLink : MethodName := ⟨RX0, "putLink", "(II)V"⟩
abbrev cX0_putStep : ByteArray := prog_2_method_16_code
def yX0_putStep : MethodName := ⟨RX0, "putStep", "(III)V"⟩
def RX1 : String := "SuffixWright$Ends"
def TX1 : u_T := fun k => match k with
  | 0 => ("SuffixWright$Ends", "counts", "[I", true)
  | 1 => ("SuffixWright$Ends", "firsts", "[I", true)
  | _ => ("SuffixWright$Ends", "lasts", "[I", true)
def tyX1 : Nat → FieldType := fun k => match k with
  | 0 => .array .int
  | 1 => .array .int
  | _ => .array .int
abbrev wsX10 : List Cond := u_ws RX1 TX1 3
theorem nmX1 : ∀ a, a < 3 → ∀ b, b < 3 → a ≠ b → (TX1 a).2.1 ≠ (TX1 b).2.1 := by decide +kernel
theorem tyX1_ok : ∀ k, k < 3 → parseFieldDescriptor (TX1 k).2.2.1 = some (tyX1 k) := by decide +kernel
abbrev cX1_init : ByteArray := prog_3_method_1_code
def yX1_init : MethodName := ⟨RX1, "<init>", "()V"⟩
abbrev cX1_countOf : ByteArray := prog_3_method_2_code
def yX1_countOf : MethodName := ⟨RX1, "countOf", "(II)I"⟩
abbrev cX1_firstOf : ByteArray := prog_3_method_3_code
def yX1_firstOf : MethodName := ⟨RX1, "firstOf", "(II)I"⟩
abbrev cX1_lastOf : ByteArray := prog_3_method_4_code
def yX1_lastOf : MethodName := ⟨RX1, "lastOf", "(II)I"⟩
abbrev cX1_countInAll : ByteArray := prog_3_method_5_code
def yX1_countInAll : MethodName := ⟨RX1, "countInAll", "(I)I"⟩
abbrev cX1_standInEach : ByteArray := prog_3_method_6_code
def yX1_standInEach : MethodName := ⟨RX1, "standInEach", "(II)Z"⟩
abbrev cX1_note : ByteArray := prog_3_method_7_code
def yX1_note : MethodName := ⟨RX1, "note", "(III)V"⟩
abbrev cX1_takeOver : ByteArray := prog_3_method_8_code
def yX1_takeOver : MethodName := ⟨RX1, "takeOver", "(II)V"⟩
abbrev cX1_placeOf : ByteArray := prog_3_method_9_code
def yX1_placeOf : MethodName := ⟨RX1, "placeOf", "(II)I"⟩
def RX2 : String := "SuffixWright$Guide"
def TX2 : u_T := fun k => match k with
  | 0 => ("SuffixWright$Guide", "automaton", "LSuffixWright$Automaton;", true)
  | 1 => ("SuffixWright$Guide", "ahead", "[I", true)
  | _ => ("SuffixWright$Guide", "outside", "I", false)
def tyX2 : Nat → FieldType := fun k => match k with
  | 0 => .object "SuffixWright$Automaton"
  | 1 => .array .int
  | _ => .int
abbrev wsX20 : List Cond := u_ws RX2 TX2 3
theorem nmX2 : ∀ a, a < 3 → ∀ b, b < 3 → a ≠ b → (TX2 a).2.1 ≠ (TX2 b).2.1 := by decide +kernel
theorem tyX2_ok : ∀ k, k < 3 → parseFieldDescriptor (TX2 k).2.2.1 = some (tyX2 k) := by decide +kernel
abbrev cX2_init : ByteArray := prog_4_method_1_code
def yX2_init : MethodName := ⟨RX2, "<init>", "()V"⟩
abbrev cX2_countWords : ByteArray := prog_4_method_2_code
def yX2_countWords : MethodName := ⟨RX2, "countWords", "()V"⟩
abbrev cX2_measureReach : ByteArray := prog_4_method_3_code
def yX2_measureReach : MethodName := ⟨RX2, "measureReach", "(II)V"⟩
abbrev cX2_measureGaps : ByteArray := prog_4_method_4_code
def yX2_measureGaps : MethodName := ⟨RX2, "measureGaps", "(I)V"⟩
abbrev cX2_partsAheadOf : ByteArray := prog_4_method_5_code
def yX2_partsAheadOf : MethodName := ⟨RX2, "partsAheadOf", "(LSuffixWright$Word;)I"⟩
abbrev cX2_spellPart : ByteArray := prog_4_method_6_code
def yX2_spellPart : MethodName := ⟨RX2, "spellPart", "(ILSuffixWright$Word;)V"⟩
abbrev cX2_spellWay : ByteArray := prog_4_method_7_code
def yX2_spellWay : MethodName := ⟨RX2, "spellWay", "(LSuffixWright$Word;)V"⟩
abbrev cX2_suits : ByteArray := prog_4_method_8_code
def yX2_suits : MethodName := ⟨RX2, "suits", "(III)Z"⟩
abbrev cX2_aheadOf : ByteArray := prog_4_method_9_code
def yX2_aheadOf : MethodName := ⟨RX2, "aheadOf", "(I)I"⟩
abbrev cX2_putAhead : ByteArray := prog_4_method_10_code
def yX2_putAhead : MethodName := ⟨RX2, "putAhead", "(II)V"⟩
def RX3 : String := "SuffixWright$Word"
def TX3 : u_T := fun k => match k with
  | 0 => ("SuffixWright$Word", "letters", "[I", true)
  | _ => ("SuffixWright$Word", "size", "I", false)
def tyX3 : Nat → FieldType := fun k => match k with
  | 0 => .array .int
  | _ => .int
abbrev wsX30 : List Cond := u_ws RX3 TX3 2
theorem nmX3 : ∀ a, a < 2 → ∀ b, b < 2 → a ≠ b → (TX3 a).2.1 ≠ (TX3 b).2.1 := by decide +kernel
theorem tyX3_ok : ∀ k, k < 2 → parseFieldDescriptor (TX3 k).2.2.1 = some (tyX3 k) := by decide +kernel
abbrev cX3_init : ByteArray := prog_5_method_1_code
def yX3_init : MethodName := ⟨RX3, "<init>", "(I)V"⟩
abbrev cX3_size : ByteArray := prog_5_method_2_code
def yX3_size : MethodName := ⟨RX3, "size", "()I"⟩
abbrev cX3_letter : ByteArray := prog_5_method_3_code
def yX3_letter : MethodName := ⟨RX3, "letter", "(I)I"⟩
abbrev cX3_add : ByteArray := prog_5_method_4_code
def yX3_add : MethodName := ⟨RX3, "add", "(I)V"⟩
abbrev cX3_shorten : ByteArray := prog_5_method_5_code
def yX3_shorten : MethodName := ⟨RX3, "shorten", "()V"⟩
abbrev cX3_empty : ByteArray := prog_5_method_6_code
def yX3_empty : MethodName := ⟨RX3, "empty", "()V"⟩
def RX4 : String := "SuffixWright"
def TX4 : u_T := fun k => match k with
  | 0 => ("SuffixWright", "words", "[LSuffixWright$Word;", true)
  | 1 => ("SuffixWright", "pattern", "LSuffixWright$Word;", true)
  | 2 => ("SuffixWright", "guide", "LSuffixWright$Guide;", true)
  | 3 => ("SuffixWright", "automaton", "LSuffixWright$Automaton;", true)
  | 4 => ("SuffixWright", "opened", "I", false)
  | _ => ("SuffixWright", "together", "I", false)
def tyX4 : Nat → FieldType := fun k => match k with
  | 0 => .array (.object "SuffixWright$Word")
  | 1 => .object "SuffixWright$Word"
  | 2 => .object "SuffixWright$Guide"
  | 3 => .object "SuffixWright$Automaton"
  | 4 => .int
  | _ => .int
abbrev wsX40 : List Cond := u_ws RX4 TX4 6
theorem nmX4 : ∀ a, a < 6 → ∀ b, b < 6 → a ≠ b → (TX4 a).2.1 ≠ (TX4 b).2.1 := by decide +kernel
theorem tyX4_ok : ∀ k, k < 6 → parseFieldDescriptor (TX4 k).2.2.1 = some (tyX4 k) := by decide +kernel
abbrev cX4_init : ByteArray := prog_1_method_1_code
def yX4_init : MethodName := ⟨RX4, "<init>", "()V"⟩
abbrev cX4_open : ByteArray := prog_1_method_3_code
def yX4_open : MethodName := ⟨RX4, "open", "()I"⟩
abbrev cX4_append : ByteArray := prog_1_method_4_code
def yX4_append : MethodName := ⟨RX4, "append", "(II)I"⟩
abbrev cX4_texts : ByteArray := prog_1_method_5_code
def yX4_texts : MethodName := ⟨RX4, "texts", "()I"⟩
abbrev cX4_length : ByteArray := prog_1_method_6_code
def yX4_length : MethodName := ⟨RX4, "length", "(I)I"⟩
abbrev cX4_letterAt : ByteArray := prog_1_method_7_code
def yX4_letterAt : MethodName := ⟨RX4, "letterAt", "(II)I"⟩
abbrev cX4_type : ByteArray := prog_1_method_8_code
def yX4_type : MethodName := ⟨RX4, "type", "(I)I"⟩
abbrev cX4_erase : ByteArray := prog_1_method_9_code
def yX4_erase : MethodName := ⟨RX4, "erase", "()I"⟩
abbrev cX4_wipe : ByteArray := prog_1_method_10_code
def yX4_wipe : MethodName := ⟨RX4, "wipe", "()I"⟩
abbrev cX4_copy : ByteArray := prog_1_method_11_code
def yX4_copy : MethodName := ⟨RX4, "copy", "(III)V"⟩
abbrev cX4_patternLength : ByteArray := prog_1_method_12_code
def yX4_patternLength : MethodName := ⟨RX4, "patternLength", "()I"⟩
abbrev cX4_patternAt : ByteArray := prog_1_method_13_code
def yX4_patternAt : MethodName := ⟨RX4, "patternAt", "(I)I"⟩
abbrev cX4_isPart : ByteArray := prog_1_method_14_code
def yX4_isPart : MethodName := ⟨RX4, "isPart", "()Z"⟩
abbrev cX4_occurrences : ByteArray := prog_1_method_15_code
def yX4_occurrences : MethodName := ⟨RX4, "occurrences", "()I"⟩
abbrev cX4_occurrencesIn : ByteArray := prog_1_method_16_code
def yX4_occurrencesIn : MethodName := ⟨RX4, "occurrencesIn", "(I)I"⟩
abbrev cX4_first : ByteArray := prog_1_method_17_code
def yX4_first : MethodName := ⟨RX4, "first", "(I)I"⟩
abbrev cX4_last : ByteArray := prog_1_method_18_code
def yX4_last : MethodName := ⟨RX4, "last", "(I)I"⟩
abbrev cX4_followers : ByteArray := prog_1_method_19_code
def yX4_followers : MethodName := ⟨RX4, "followers", "()I"⟩
abbrev cX4_leaders : ByteArray := prog_1_method_20_code
def yX4_leaders : MethodName := ⟨RX4, "leaders", "()I"⟩
abbrev cX4_classes : ByteArray := prog_1_method_21_code
def yX4_classes : MethodName := ⟨RX4, "classes", "()I"⟩
abbrev cX4_longestAlike : ByteArray := prog_1_method_22_code
def yX4_longestAlike : MethodName := ⟨RX4, "longestAlike", "()I"⟩
abbrev cX4_shortestAlike : ByteArray := prog_1_method_23_code
def yX4_shortestAlike : MethodName := ⟨RX4, "shortestAlike", "()I"⟩
abbrev cX4_parts : ByteArray := prog_1_method_24_code
def yX4_parts : MethodName := ⟨RX4, "parts", "()I"⟩
abbrev cX4_rank : ByteArray := prog_1_method_25_code
def yX4_rank : MethodName := ⟨RX4, "rank", "()I"⟩
abbrev cX4_toPart : ByteArray := prog_1_method_26_code
def yX4_toPart : MethodName := ⟨RX4, "toPart", "(I)I"⟩
abbrev cX4_common : ByteArray := prog_1_method_27_code
def yX4_common : MethodName := ⟨RX4, "common", "(I)I"⟩
abbrev cX4_repeated : ByteArray := prog_1_method_28_code
def yX4_repeated : MethodName := ⟨RX4, "repeated", "(I)I"⟩
abbrev cX4_missing : ByteArray := prog_1_method_29_code
def yX4_missing : MethodName := ⟨RX4, "missing", "(I)I"⟩
abbrev cX4_within : ByteArray := prog_1_method_30_code
def yX4_within : MethodName := ⟨RX4, "within", "(II)Z"⟩
abbrev cX4_demandText : ByteArray := prog_1_method_31_code
def yX4_demandText : MethodName := ⟨RX4, "demandText", "(I)LSuffixWright$Word;"⟩
abbrev cX4_demandLetter : ByteArray := prog_1_method_32_code
def yX4_demandLetter : MethodName := ⟨RX4, "demandLetter", "(I)V"⟩
abbrev cX4_walkPattern : ByteArray := prog_1_method_33_code
def yX4_walkPattern : MethodName := ⟨RX4, "walkPattern", "(I)I"⟩
abbrev cX4_partState : ByteArray := prog_1_method_34_code
def yX4_partState : MethodName := ⟨RX4, "partState", "()I"⟩
abbrev cX4_beginOfPattern : ByteArray := prog_1_method_35_code
def yX4_beginOfPattern : MethodName := ⟨RX4, "beginOfPattern", "(I)I"⟩
def RX5 : String := "SuffixWrightModel"
def TX5 : u_T := fun k => match k with
  | _ => ("", "", "", false)
def tyX5 : Nat → FieldType := fun k => match k with
  | _ => .int
abbrev wsX50 : List Cond := u_ws RX5 TX5 0
theorem nmX5 : ∀ a, a < 0 → ∀ b, b < 0 → a ≠ b → (TX5 a).2.1 ≠ (TX5 b).2.1 := by decide +kernel
theorem tyX5_ok : ∀ k, k < 0 → parseFieldDescriptor (TX5 k).2.2.1 = some (tyX5 k) := by decide +kernel
def RJ9 : String := "java/lang/Math"
def TJ9 : u_T := fun k => match k with
  | _ => ("", "", "", false)
def tyJ9 : Nat → FieldType := fun k => match k with
  | _ => .int
abbrev wsJ90 : List Cond := u_ws RJ9 TJ9 0
theorem nmJ9 : ∀ a, a < 0 → ∀ b, b < 0 → a ≠ b → (TJ9 a).2.1 ≠ (TJ9 b).2.1 := by decide +kernel
theorem tyJ9_ok : ∀ k, k < 0 → parseFieldDescriptor (TJ9 k).2.2.1 = some (tyJ9 k) := by decide +kernel
abbrev cJ9_max_7cf53 : ByteArray := prog_12_method_65_code
def yJ9_max_7cf53 : MethodName := ⟨RJ9, "max", "(II)I"⟩
abbrev cJ9_min_7cf53 : ByteArray := prog_12_method_69_code
def yJ9_min_7cf53 : MethodName := ⟨RJ9, "min", "(II)I"⟩
def RJ0 : String := "java/lang/String"
def TJ0 : u_T := fun k => match k with
  | _ => ("", "", "", false)
def tyJ0 : Nat → FieldType := fun k => match k with
  | _ => .int
abbrev wsJ00 : List Cond := u_ws RJ0 TJ0 0
theorem nmJ0 : ∀ a, a < 0 → ∀ b, b < 0 → a ≠ b → (TJ0 a).2.1 ≠ (TJ0 b).2.1 := by decide +kernel
theorem tyJ0_ok : ∀ k, k < 0 → parseFieldDescriptor (TJ0 k).2.2.1 = some (tyJ0 k) := by decide +kernel
def RL : String := "SuffixWrightLaw"
abbrev cL_draw : ByteArray := method_2_code
def yL_draw : MethodName := ⟨RL, "draw", "([II)I"⟩
abbrev cL_letters : ByteArray := method_3_code
def yL_letters : MethodName := ⟨RL, "letters", "(LSuffixWright;)I"⟩
abbrev cL_step : ByteArray := method_4_code
def yL_step : MethodName := ⟨RL, "step", "(LSuffixWright;III)Z"⟩
abbrev cL_copies : ByteArray := method_5_code
def yL_copies : MethodName := ⟨RL, "copies", "(LSuffixWright;III)Z"⟩
abbrev cL_stands : ByteArray := method_6_code
def yL_stands : MethodName := ⟨RL, "stands", "(LSuffixWright;II)Z"⟩
abbrev cL_arePlaces : ByteArray := method_7_code
def yL_arePlaces : MethodName := ⟨RL, "arePlaces", "(LSuffixWright;)Z"⟩
abbrev cL_areParts : ByteArray := method_8_code
def yL_areParts : MethodName := ⟨RL, "areParts", "(LSuffixWright;)Z"⟩
abbrev cL_isFound : ByteArray := method_9_code
def yL_isFound : MethodName := ⟨RL, "isFound", "(LSuffixWright;II)Z"⟩
abbrev cL_isMissing : ByteArray := method_10_code
def yL_isMissing : MethodName := ⟨RL, "isMissing", "(LSuffixWright;I)Z"⟩
abbrev cL_law : ByteArray := code
def yL_law : MethodName := ⟨RL, "law", "([I)Z"⟩
end
section
/-! MM: a small machine over mathematical ints; values: int, long, null or cell -/
abbrev mm_V : Type := Int ⊕ (Int ⊕ Option Nat)
abbrev mm_I (z : Int) : mm_V := .inl z
abbrev mm_L (z : Int) : mm_V := .inr (.inl z)
abbrev mm_P (r : Nat) : mm_V := .inr (.inr (some r))
abbrev mm_N : mm_V := .inr (.inr none)
/-- cells (kind, values), cells made, slots made, the script behind a first entry that says that there is one -/
abbrev mm_H : Type := List (Nat × List mm_V) × (Nat × (Nat × List Int))
abbrev mm_rng (z : Int) : Prop := -2147483648 ≤ z ∧ z ≤ 2147483647
abbrev mm_F : Type := List (Option mm_V)
abbrev mm_Q : Type := Option (mm_F × (List mm_V × (mm_H × Option Nat)))
def mm_and (x y : Int) : Int := (Int32.ofInt x &&& Int32.ofInt y).toInt
def mm_or (x y : Int) : Int := (Int32.ofInt x ||| Int32.ofInt y).toInt
/-- the fields of a class: 0 int, 1 boolean, 2 a reference; all but the last kind are written at any time, references in constructors alone -/
def mm_fk (ci : Nat) : List Nat := match ci with
  | 0 => [2, 2, 2, 2, 2, 2, 0]
  | 1 => [2, 2, 2]
  | 2 => [2, 2, 0]
  | 3 => [2, 0]
  | 4 => [2, 2, 2, 2, 0, 0]
  | _ => []
def mm_df (k : Nat) : mm_V := if k = 2 then mm_N else mm_I 0
def mm_o_load (a : Nat) (ls : mm_F) (st : List mm_V) (h : mm_H) : mm_Q := match ls[a]? with
  | some (some (.inl z)) => some (ls, (mm_I z :: st, (h, none)))
  | _ => none
def mm_o_aload (a : Nat) (ls : mm_F) (st : List mm_V) (h : mm_H) : mm_Q := match ls[a]? with
  | some (some (.inr (.inr r))) => some (ls, (.inr (.inr r) :: st, (h, none)))
  | _ => none
def mm_o_store (a : Nat) (ls : mm_F) (st : List mm_V) (h : mm_H) : mm_Q := match st with
  | .inl z :: st => if a < ls.length then some (ls.set a (some (mm_I z)), (st, (h, none))) else none
  | _ => none
def mm_o_astore (a : Nat) (ls : mm_F) (st : List mm_V) (h : mm_H) : mm_Q := match st with
  | .inr (.inr r) :: st => if a < ls.length then some (ls.set a (some (.inr (.inr r))), (st, (h, none))) else none
  | _ => none
/-- two ints to one: 'g x y = some z' -/
def mm_o_bin (g : Int → Int → Option Int) (ls : mm_F) (st : List mm_V) (h : mm_H) : mm_Q := match st with
  | .inl y :: .inl x :: st => match g x y with
    | some z => if mm_rng z then some (ls, (mm_I z :: st, (h, none))) else none
    | none => none
  | _ => none
def mm_o_if (g : Int → Bool) (a : Nat) (ls : mm_F) (st : List mm_V) (h : mm_H) : mm_Q := match st with
  | .inl x :: st => some (ls, (st, (h, if g x then some a else none)))
  | _ => none
def mm_o_icmp (g : Int → Int → Bool) (a : Nat) (ls : mm_F) (st : List mm_V) (h : mm_H) : mm_Q := match st with
  | .inl y :: .inl x :: st => some (ls, (st, (h, if g x y then some a else none)))
  | _ => none
def mm_o_iinc (a : Nat) (b : Int) (ls : mm_F) (st : List mm_V) (h : mm_H) : mm_Q := match ls[a]? with
  | some (some (.inl z)) => if mm_rng (z + b) then some (ls.set a (some (mm_I (z + b))), (st, (h, none))) else none
  | _ => none
def mm_o_null (g : Bool) (a : Nat) (ls : mm_F) (st : List mm_V) (h : mm_H) : mm_Q := match st with
  | .inr (.inr r) :: st => some (ls, (st, (h, if r.isNone = g then some a else none)))
  | _ => none
def mm_o_get (ci k : Nat) (ls : mm_F) (st : List mm_V) (h : mm_H) : mm_Q := match st with
  | .inr (.inr (some r)) :: st => match h.1[r]? with
    | some (kd, l) => if kd = 10 + ci then match l[k]? with
      | some v => some (ls, (v :: st, (h, none)))
      | none => none
      else none
    | none => none
  | _ => none
def mm_o_put (ci k : Nat) (ls : mm_F) (st : List mm_V) (h : mm_H) : mm_Q := match st with
  | .inl z :: .inr (.inr (some r)) :: st => match h.1[r]? with
    | some (kd, l) => if kd = 10 + ci ∧ k < l.length ∧ ((mm_fk ci)[k]? = some 0 ∨ ((mm_fk ci)[k]? = some 1 ∧ (z = 0 ∨ z = 1))) then some (ls, (st, ((h.1.set r (kd, l.set k (mm_I z)), h.2), none))) else none
    | none => none
  | _ => none
def mm_o_putF (ci k : Nat) (ls : mm_F) (st : List mm_V) (h : mm_H) : mm_Q := match st with
  | .inr (.inr (some v)) :: .inr (.inr (some r)) :: st => match h.1[r]? with
    | some (kd, l) => if kd = 10 + ci ∧ k < l.length ∧ (mm_fk ci)[k]? = some 2 then some (ls, (st, ((h.1.set r (kd, l.set k (mm_P v)), h.2), none))) else none
    | none => none
  | _ => none
def mm_o_iald (ls : mm_F) (st : List mm_V) (h : mm_H) : mm_Q := match st with
  | .inl i :: .inr (.inr (some r)) :: st => if i < 0 then none else if r = 999 then match h.2.2.2[i.toNat + 1]? with
      | some z => some (ls, (mm_I z :: st, (h, none)))
      | none => none
    else match h.1[r]? with
    | some (0, l) => match l[i.toNat]? with
      | some (.inl z) => some (ls, (mm_I z :: st, (h, none)))
      | _ => none
    | _ => none
  | _ => none
def mm_o_iast (ls : mm_F) (st : List mm_V) (h : mm_H) : mm_Q := match st with
  | .inl z :: .inl i :: .inr (.inr (some r)) :: st => if i < 0 then none else match h.1[r]? with
    | some (0, l) => if i.toNat < l.length then some (ls, (st, ((h.1.set r (0, l.set i.toNat (mm_I z)), h.2), none))) else none
    | _ => none
  | _ => none
def mm_o_aald (ls : mm_F) (st : List mm_V) (h : mm_H) : mm_Q := match st with
  | .inl i :: .inr (.inr (some r)) :: st => if i < 0 then none else match h.1[r]? with
    | some (2, l) => match l[i.toNat]? with
      | some (.inr (.inr q)) => some (ls, (.inr (.inr q) :: st, (h, none)))
      | _ => none
    | _ => none
  | _ => none
/-- into an array of Words: a Word -/
def mm_o_aast (ls : mm_F) (st : List mm_V) (h : mm_H) : mm_Q := match st with
  | .inr (.inr (some v)) :: .inl i :: .inr (.inr (some r)) :: st => if i < 0 then none else match h.1[r]? with
    | some (2, l) => if i.toNat < l.length ∧ (h.1[v]?).map (·.1) = some 13 then some (ls, (st, ((h.1.set r (2, l.set i.toNat (mm_P v)), h.2), none))) else none
    | _ => none
  | _ => none
def mm_o_alen (ls : mm_F) (st : List mm_V) (h : mm_H) : mm_Q := match st with
  | .inr (.inr (some r)) :: st => if r = 999 then match h.2.2.2 with
    | _ :: t => some (ls, (mm_I t.length :: st, (h, none)))
    | [] => none
    else match h.1[r]? with
    | some (kd, l) => if kd < 3 ∧ l.length < 1000000 then some (ls, (mm_I l.length :: st, (h, none))) else none
    | none => none
  | _ => none
/-- a new cell, of the kind kd, holding l; none once something was thrown -/
def mm_push (kd : Nat) (l : List mm_V) (ls : mm_F) (st : List mm_V) (h : mm_H) : mm_Q :=
  if h.1.length = h.2.1 ∧ h.1.length < 900 then some (ls, (mm_P h.1.length :: st, ((h.1 ++ [(kd, l)], (h.2.1 + 1, (h.2.2.1 + l.length, h.2.2.2))), none))) else none
def mm_o_newa (kd : Nat) (v : mm_V) (ls : mm_F) (st : List mm_V) (h : mm_H) : mm_Q := match st with
  | .inl n :: st => if 0 ≤ n ∧ n < 100000 then mm_push kd (List.replicate n.toNat v) ls st h else none
  | _ => none
def mm_o_max (g : Int → Int → Int) (ls : mm_F) (st : List mm_V) (h : mm_H) : mm_Q := match st with
  | .inl y :: .inl x :: st => if st.length ≤ 4 then some (ls, (mm_I (g x y) :: st, (h, none))) else none
  | _ => none
/-- the rows' own instructions but calls, returns and throws; 'some j' at the end: a jump -/
def mm_op (fld : Nat → Nat × Nat) (op a : Nat) (b : Int) (ls : mm_F) (st : List mm_V) (h : mm_H) : mm_Q := match op with
  | 0 | 1 | 2 => if mm_rng b then some (ls, (mm_I b :: st, (h, none))) else none
  | 3 | 4 => mm_o_load a ls st h
  | 5 | 6 => mm_o_aload a ls st h
  | 7 | 8 => mm_o_store a ls st h
  | 9 | 10 => mm_o_astore a ls st h
  | 11 => mm_o_bin (fun x y => some (x + y)) ls st h
  | 12 => mm_o_bin (fun x y => some (x - y)) ls st h
  | 13 => mm_o_bin (fun x y => some (x * y)) ls st h
  | 14 => mm_o_bin (fun x y => if 0 ≤ x ∧ 0 < y then some (x / y) else none) ls st h
  | 15 => mm_o_bin (fun x y => if 0 ≤ x ∧ 0 < y then some (x % y) else none) ls st h
  | 16 => mm_o_bin (fun x y => if 0 ≤ x ∧ 0 ≤ y ∧ y < 31 then some (x * 2 ^ y.toNat) else none) ls st h
  | 17 => mm_o_bin (fun x y => if 0 ≤ x ∧ 0 ≤ y ∧ y < 31 then some (x / 2 ^ y.toNat) else none) ls st h
  | 18 => mm_o_bin (fun x y => some (mm_and x y)) ls st h
  | 19 => mm_o_bin (fun x y => some (mm_or x y)) ls st h
  | 20 => mm_o_iinc a b ls st h
  | 21 => match st with
    | .inl z :: st => some (ls, (mm_I z :: mm_I z :: st, (h, none)))
    | .inr (.inr r) :: st => some (ls, (.inr (.inr r) :: .inr (.inr r) :: st, (h, none)))
    | _ => none
  | 22 => match st with
    | .inl z :: .inr (.inr r) :: st => some (ls, (mm_I z :: .inr (.inr r) :: mm_I z :: .inr (.inr r) :: st, (h, none)))
    | _ => none
  | 23 => match st with
    | .inl _ :: st => some (ls, (st, (h, none)))
    | .inr (.inr _) :: st => some (ls, (st, (h, none)))
    | _ => none
  | 24 => some (ls, (st, (h, some a)))
  | 25 => mm_o_if (fun x => decide (x = 0)) a ls st h
  | 26 => mm_o_if (fun x => decide (¬ x = 0)) a ls st h
  | 27 => mm_o_if (fun x => decide (x < 0)) a ls st h
  | 28 => mm_o_if (fun x => decide (0 ≤ x)) a ls st h
  | 29 => mm_o_if (fun x => decide (0 < x)) a ls st h
  | 30 => mm_o_if (fun x => decide (x ≤ 0)) a ls st h
  | 31 => mm_o_icmp (fun x y => decide (x = y)) a ls st h
  | 32 => mm_o_icmp (fun x y => decide (¬ x = y)) a ls st h
  | 33 => mm_o_icmp (fun x y => decide (x < y)) a ls st h
  | 34 => mm_o_icmp (fun x y => decide (y ≤ x)) a ls st h
  | 35 => mm_o_icmp (fun x y => decide (y < x)) a ls st h
  | 36 => mm_o_icmp (fun x y => decide (x ≤ y)) a ls st h
  | 37 => mm_o_null true a ls st h
  | 38 => mm_o_null false a ls st h
  | 39 => some (ls, (mm_N :: st, (h, none)))
  | 40 => mm_o_get (fld a).1 (fld a).2 ls st h
  | 41 => mm_o_put (fld a).1 (fld a).2 ls st h
  | 42 => mm_o_putF (fld a).1 (fld a).2 ls st h
  | 43 => mm_o_iald ls st h
  | 44 => mm_o_iast ls st h
  | 47 => mm_o_aald ls st h
  | 48 => mm_o_aast ls st h
  | 49 => mm_o_alen ls st h
  | 50 => mm_push (10 + b.toNat) ((mm_fk b.toNat).map mm_df) ls st h
  | 51 => mm_o_newa 0 (mm_I 0) ls st h
  | 53 => mm_o_newa 2 mm_N ls st h
  | 55 => if mm_rng b then some (ls, (mm_I b :: st, (h, none))) else none
  | 57 => match st with
    | .inr (.inr (some _)) :: st => if st.length ≤ 4 then some (ls, (st, (h, none))) else none
    | _ => none
  | 58 => mm_o_max (fun x y => if x < y then y else x) ls st h
  | 59 => mm_o_max (fun x y => if y < x then y else x) ls st h
  | _ => none
abbrev mm_E : Type := Nat × (Nat × (Nat × Int))
abbrev mm_O : Type := Option mm_V ⊕ Nat
/-- a call: callee, how many arguments (the receiver with them), its locals, the receiver's kind (0: a static method) -/
abbrev mm_S : Type := Nat × (Nat × (Nat × Nat))
def mm_no2 (v : mm_V) : Bool := match v with
  | .inr (.inl _) => false
  | _ => true
def mm_rcv (kd : Nat) (args : List mm_V) (h : mm_H) : Bool := if kd = 0 then true else match args with
  | .inr (.inr (some r)) :: _ => decide ((h.1[r]?).map (·.1) = some kd)
  | _ => false
/-- code: the rows of a method; fld, site: what rows name; hand y E: what a method's handler of E answers, none where it has no handler; noH: a method without a table; sw: where a switch goes -/
def mm_run (code : Nat → Nat → Option mm_E) (fld : Nat → Nat × Nat) (site : Nat → mm_S) (hand : Nat → Nat → Option Int) (noH : Nat → Bool) (sw : Int → Nat) : Nat → Nat → Nat → mm_F → List mm_V → mm_H → Option (mm_O × mm_H)
  | 0, _, _, _, _, _ => none
  | n + 1, y, i, ls, st, h => match code y i with
    | none => none
    | some (_, (op, (a, b))) =>
      if op < 60 then
        if op = 56 then match st with
          | .inl x :: st => mm_run code fld site hand noH sw n y (sw x) ls st h
          | _ => none
        else match mm_op fld op a b ls st h with
        | none => none
        | some (ls', (st', (h', j))) => mm_run code fld site hand noH sw n y (j.getD (i + 1)) ls' st' h'
      else if op = 100 then match st with
        | [.inl z] => some (.inl (some (mm_I z)), h)
        | _ => none
      else if op = 101 then match st with
        | [.inl z] => if z = 0 ∨ z = 1 then some (.inl (some (mm_I z)), h) else none
        | _ => none
      else if op = 102 then match st with
        | [.inr (.inr (some r))] => some (.inl (some (mm_P r)), h)
        | _ => none
      else if op = 103 then match st with
        | [] => some (.inl none, h)
        | _ => none
      else if op = 104 then match st with
        | [] => some (.inr b.toNat, (h.1, (h.2.1 + 1, (h.2.2.1 + 6, h.2.2.2))))
        | _ => none
      else if op < 109 then
        let s := site a
        let args := (st.take s.2.1).reverse
        let rest := st.drop s.2.1
        if s.2.1 ≤ st.length ∧ rest.length ≤ 4 ∧ args.all mm_no2 = true ∧ s.2.1 ≤ s.2.2.1 ∧ mm_rcv s.2.2.2 args h = true then
          match mm_run code fld site hand noH sw n s.1 0 (args.map some ++ List.replicate (s.2.2.1 - s.2.1) none) [] h with
          | none => none
          | some (.inl v, h') => mm_run code fld site hand noH sw n y (i + 1) ls (v.toList ++ rest) h'
          | some (.inr E, h') => if op = 107 ∨ op = 108 then none else match hand y E with
            | some z => some (.inl (some (mm_I z)), h')
            | none => if noH y then some (.inr E, h') else none
        else none
      else none
end
section
/-! numbers: an int of the machine is Int32.ofInt of a mathematical one in range -/
theorem mm_ti {z : Int} (h : mm_rng z) : (Int32.ofInt z).toInt = z := Int32.toInt_ofInt_of_le (by have := h.1; omega) (by have := h.2; omega)
theorem mm_rT (x : Int32) : mm_rng x.toInt := ⟨by have := x.le_toInt; omega, by have := x.toInt_lt; omega⟩
theorem mm_eqI {x y : Int} (hx : mm_rng x) (hy : mm_rng y) : Int32.ofInt x = Int32.ofInt y ↔ x = y := by
  rw [← Int32.toInt_inj, mm_ti hx, mm_ti hy]
theorem mm_ltI {x y : Int} (hx : mm_rng x) (hy : mm_rng y) : Int32.ofInt x < Int32.ofInt y ↔ x < y := by
  rw [Int32.lt_iff_toInt_lt, mm_ti hx, mm_ti hy]
theorem mm_leI {x y : Int} (hx : mm_rng x) (hy : mm_rng y) : Int32.ofInt x ≤ Int32.ofInt y ↔ x ≤ y := by
  rw [Int32.le_iff_toInt_le, mm_ti hx, mm_ti hy]
theorem mm_rng0 : mm_rng 0 := by decide
theorem mm_lt0 {x : Int} (hx : mm_rng x) : Int32.ofInt x < 0 ↔ x < 0 := by have h := mm_ltI hx mm_rng0; simpa using h
theorem mm_eq0 {x : Int} (hx : mm_rng x) : Int32.ofInt x = 0 ↔ x = 0 := by have h := mm_eqI hx mm_rng0; simpa using h
theorem mm_le0 {x : Int} (hx : mm_rng x) : Int32.ofInt x ≤ 0 ↔ x ≤ 0 := by have h := mm_leI hx mm_rng0; simpa using h
theorem mm_0le {x : Int} (hx : mm_rng x) : 0 ≤ Int32.ofInt x ↔ 0 ≤ x := by have h := mm_leI mm_rng0 hx; simpa using h
theorem mm_0lt {x : Int} (hx : mm_rng x) : 0 < Int32.ofInt x ↔ 0 < x := by have h := mm_ltI mm_rng0 hx; simpa using h
theorem mm_nI (n : Nat) : Int32.ofInt (n : Int) = nI n := Int32.ofInt_eq_ofNat
theorem mm_clamp {i : Int} (h : mm_rng i) : (Int32.ofInt i).toNatClampNeg = i.toNat := Int32.toNatClampNeg_ofInt_of_le (by have := h.1; omega) (by have := h.2; omega)
theorem mm_vin {i : Int} {n : Nat} (h : mm_rng i) (h0 : 0 ≤ i) (hn : i.toNat < n) : vp_in (Int32.ofInt i) n := by
  unfold vp_in
  rw [mm_lt0 h, mm_clamp h]
  omega
theorem mm_div {x y : Int} (hx : mm_rng x) (hy : mm_rng y) (h0 : 0 ≤ x) (h1 : 0 < y) : Int32.ofInt x / Int32.ofInt y = Int32.ofInt (x / y) := by
  obtain ⟨a, rfl⟩ := Int.eq_ofNat_of_zero_le h0
  obtain ⟨d, rfl⟩ := Int.eq_ofNat_of_zero_le (Int.le_of_lt h1)
  have hx2 := hx.2
  have hy2 := hy.2
  rw [mm_nI, mm_nI, pk_div (by omega) (by omega) (by omega), show ((a : Int) / (d : Int)) = ((a / d : Nat) : Int) from rfl, mm_nI]
theorem mm_rem {x y : Int} (hx : mm_rng x) (hy : mm_rng y) (h0 : 0 ≤ x) (h1 : 0 < y) : Int32.ofInt x - Int32.ofInt x / Int32.ofInt y * Int32.ofInt y = Int32.ofInt (x % y) := by
  obtain ⟨a, rfl⟩ := Int.eq_ofNat_of_zero_le h0
  obtain ⟨d, rfl⟩ := Int.eq_ofNat_of_zero_le (Int.le_of_lt h1)
  have hx2 := hx.2
  have hy2 := hy.2
  rw [mm_nI, mm_nI, pk_rem (by omega) (by omega) (by omega), show ((a : Int) % (d : Int)) = ((a % d : Nat) : Int) from rfl, mm_nI]
theorem mm_sk : ∀ k : Nat, k < 31 → ((nI k &&& 31).toBitVec.smod 32).toNat = k := by decide +kernel
theorem mm_shl {x y : Int} (hx : mm_rng x) (h0 : 0 ≤ x) (h1 : 0 ≤ y) (h2 : y < 31) (hr : mm_rng (x * 2 ^ y.toNat)) : Int32.ofInt x <<< (Int32.ofInt y &&& 31) = Int32.ofInt (x * 2 ^ y.toNat) := by
  obtain ⟨a, rfl⟩ := Int.eq_ofNat_of_zero_le h0
  obtain ⟨d, rfl⟩ := Int.eq_ofNat_of_zero_le h1
  have e : ((a : Int) * 2 ^ (d : Int).toNat) = ((a * 2 ^ d : Nat) : Int) := by simp
  rw [e] at hr ⊢
  have hr2 := hr.2
  rw [mm_nI, mm_nI, mm_nI, pk_shlN _ d (mm_sk d (by omega)) (by omega)]
theorem mm_shr {x y : Int} (hx : mm_rng x) (h0 : 0 ≤ x) (h1 : 0 ≤ y) (h2 : y < 31) : Int32.ofInt x >>> (Int32.ofInt y &&& 31) = Int32.ofInt (x / 2 ^ y.toNat) := by
  obtain ⟨a, rfl⟩ := Int.eq_ofNat_of_zero_le h0
  obtain ⟨d, rfl⟩ := Int.eq_ofNat_of_zero_le h1
  have hx2 := hx.2
  have e : ((a : Int) / 2 ^ (d : Int).toNat) = ((a / 2 ^ d : Nat) : Int) := by simp
  rw [e, mm_nI, mm_nI, mm_nI, pk_shrN (by omega) _ d (mm_sk d (by omega))]
theorem mm_i64 {x : Int} (h : mm_rng x) : (Int32.ofInt x).toInt64 = Int64.ofInt x := Int32.toInt64_ofInt (by rw [Int32.toInt_minValue]; have := h.1; omega) (by rw [Int32.toInt_maxValue]; have := h.2; omega)
theorem mm_tL {z : Int} (h : mm_rng z) : (Int64.ofInt z).toInt = z := Int64.toInt_ofInt_of_le (by have := h.1; omega) (by have := h.2; omega)
/-! what a state of MM says of the machine's -/
def mm_ad (b b0 : Nat) (r : Nat) : Nat := if r = 999 then b else b0 + r
def mm_up (b b0 : Nat) : mm_V → Value
  | .inl z => .int (Int32.ofInt z)
  | .inr (.inl z) => .long (Int64.ofInt z)
  | .inr (.inr none) => .null
  | .inr (.inr (some r)) => .ref (mm_ad b b0 r)
def mm_ok : mm_V → Prop
  | .inl z => mm_rng z
  | .inr (.inl z) => mm_rng z
  | _ => True
def mm_gI (o : Option mm_V) : Int32 := match o with
  | some (.inl z) => Int32.ofInt z
  | _ => 0
def mm_gL (o : Option mm_V) : Int64 := match o with
  | some (.inr (.inl z)) => Int64.ofInt z
  | _ => 0
def mm_gR (b b0 : Nat) (o : Option mm_V) : Option Nat := match o with
  | some (.inr (.inr (some r))) => some (mm_ad b b0 r)
  | _ => none
/-- constants of a run: the script's cell, the first new cell, the classes of int[], long[], Word[] -/
abbrev mm_G : Type := Nat × (Nat × (ClassId × (ClassId × ClassId)))
def mm_ent (g : mm_G) (c : Nat × List mm_V) : va_E := match c.1 with
  | 0 => .inl (g.2.2.1, (c.2.length, .inl (fun j => mm_gI c.2[j]?)))
  | 1 => .inl (g.2.2.2.1, (c.2.length, .inr (.inl (fun j => mm_gL c.2[j]?))))
  | 2 => .inl (g.2.2.2.2, (c.2.length, .inr (.inr (.inr (.inr (fun j => mm_gR g.1 g.2.1 c.2[j]?))))))
  | k => .inr (k - 10, c.2.map (mm_up g.1 g.2.1))
def mm_ws (g : mm_G) (cs : List (Nat × List mm_V)) : va_W := cs.mapIdx fun i c => (g.2.1 + i, mm_ent g c)
abbrev vwCl : List vw_C := [(RX0, TX0, 7), (RX1, TX1, 3), (RX2, TX2, 3), (RX3, TX3, 2), (RX4, TX4, 6)]
def mm_tys (g : mm_G) : List (ClassId × FieldType) := [(g.2.2.1, .int), (g.2.2.2.1, .int), (g.2.2.2.2, .object RX3)]
abbrev mm_A (g : mm_G) : Nat → Prop := fun q => g.2.1 ≤ q
def mm_Rl (g : mm_G) (D : va_G) (h : mm_H) (H : Heap) : Prop := va_P D vwCl (mm_ws g h.1) H ∧ h.1.length ≤ 900 ∧ (∀ c ∈ h.1, ∀ v ∈ c.2, mm_ok v) ∧ (∀ z ∈ h.2.2.2, mm_rng z)
theorem mm_ws_len (g : mm_G) (cs : List (Nat × List mm_V)) : (mm_ws g cs).length = cs.length := List.length_mapIdx
theorem mm_ws_at (g : mm_G) {cs : List (Nat × List mm_V)} {r : Nat} {c : Nat × List mm_V} (h : cs[r]? = some c) : (mm_ws g cs)[r]? = some (g.2.1 + r, mm_ent g c) := by
  unfold mm_ws
  rw [List.getElem?_mapIdx, h]
  rfl
theorem mm_ws_set (g : mm_G) (cs : List (Nat × List mm_V)) (r : Nat) (c : Nat × List mm_V) : (mm_ws g cs).set r (g.2.1 + r, mm_ent g c) = mm_ws g (cs.set r c) := by
  apply List.ext_getElem?
  intro i
  unfold mm_ws
  rw [List.getElem?_set, List.getElem?_mapIdx, List.getElem?_mapIdx, List.getElem?_set, List.length_mapIdx]
  by_cases h : r = i
  · subst h
    by_cases h2 : r < cs.length
    · simp [h2]
    · simp [h2]
  · simp [h]
theorem mm_ws_push (g : mm_G) (cs : List (Nat × List mm_V)) (c : Nat × List mm_V) : mm_ws g cs ++ [(g.2.1 + cs.length, mm_ent g c)] = mm_ws g (cs ++ [c]) := by
  unfold mm_ws
  rw [List.mapIdx_append]
  simp
theorem mm_ws_D (g : mm_G) (cs : List (Nat × List mm_V)) : va_D (mm_A g) (mm_ws g cs) := by
  have key : ∀ (k : Nat) (q : Nat × va_E), (mm_ws g cs)[k]? = some q → q.1 = g.2.1 + k := by
    intro k q hk
    unfold mm_ws at hk
    rw [List.getElem?_mapIdx] at hk
    cases hc : cs[k]? with
    | none => rw [hc] at hk; cases hk
    | some c => rw [hc] at hk; cases hk; rfl
  refine ⟨fun i j p q hi hj hpq => ?_, fun k q hk => ?_⟩
  · have h1 := key i p hi
    have h2 := key j q hj
    omega
  · have h1 := key k q hk
    show g.2.1 ≤ q.1
    omega
/-- the locals -/
def mm_LR (g : mm_G) (nL : Nat) (ls : mm_F) (rls : Array Slot) : Prop := ls.length = nL ∧ rls.size = nL ∧ lv_wf rls ∧ ∀ (i : Nat) (v : mm_V), ls[i]? = some (some v) → rls[i]? = some (.val (mm_up g.1 g.2.1 v)) ∧ mm_no2 v = true ∧ mm_ok v
def mm_lv (g : mm_G) (ls : mm_F) : List (Nat × Value) := (List.range ls.length).filterMap fun i => match ls[i]? with
  | some (some v) => some (i, mm_up g.1 g.2.1 v)
  | _ => none
theorem mm_lv_in {g : mm_G} {ls : mm_F} {q : Nat × Value} : q ∈ mm_lv g ls ↔ ∃ v : mm_V, ls[q.1]? = some (some v) ∧ q.2 = mm_up g.1 g.2.1 v := by
  unfold mm_lv
  rw [List.mem_filterMap]
  constructor
  · rintro ⟨i, -, h⟩
    split at h
    · rename_i v hv
      cases h
      exact ⟨v, hv, rfl⟩
    · cases h
  · rintro ⟨v, hv, e⟩
    refine ⟨q.1, List.mem_range.mpr (List.getElem?_eq_some_iff.mp hv).1, ?_⟩
    rw [hv]
    obtain ⟨q1, q2⟩ := q
    dsimp only at e ⊢
    rw [e]
theorem mm_LR.has {g : mm_G} {nL : Nat} {ls : mm_F} {rls : Array Slot} (h : mm_LR g nL ls rls) : lv_has rls nL (mm_lv g ls) := by
  refine ⟨h.2.1, h.2.2.1, fun q hq => ?_⟩
  obtain ⟨v, hv, e⟩ := mm_lv_in.mp hq
  rw [e]
  exact (h.2.2.2 q.1 v hv).1
theorem mm_cat {b b0 : Nat} {v : mm_V} (h : mm_no2 v = true) : (mm_up b b0 v).category = 1 := by
  match v, h with
  | .inl z, _ => rfl
  | .inr (.inl z), h => cases h
  | .inr (.inr none), _ => rfl
  | .inr (.inr (some r)), _ => rfl
theorem mm_LR.set {g : mm_G} {nL : Nat} {ls : mm_F} {rls rls' : Array Slot} (h : mm_LR g nL ls rls) {i : Nat} {v : mm_V} (hv : mm_no2 v = true) (hk : mm_ok v)
    (h' : lv_has rls' nL ((i, mm_up g.1 g.2.1 v) :: (mm_lv g ls).filter (fun q => !(q.1 == i) && !(q.1 + 1 == i && q.2.category == 2)))) : mm_LR g nL (ls.set i (some v)) rls' := by
  obtain ⟨h1, h2, h3, h4⟩ := h
  refine ⟨by rw [List.length_set]; exact h1, h'.1, h'.2.1, fun j w hj => ?_⟩
  rw [List.getElem?_set] at hj
  by_cases e : i = j
  · subst e
    by_cases hl : i < ls.length
    · rw [if_pos rfl, if_pos hl] at hj
      cases hj
      exact ⟨h'.2.2 (i, _) List.mem_cons_self, hv, hk⟩
    · rw [if_pos rfl, if_neg hl] at hj
      cases hj
  · rw [if_neg e] at hj
    obtain ⟨a1, a2, a3⟩ := h4 j w hj
    refine ⟨?_, a2, a3⟩
    refine h'.2.2 (j, mm_up g.1 g.2.1 w) (List.mem_cons_of_mem _ (List.mem_filter.mpr ⟨mm_lv_in.mpr ⟨w, hj, rfl⟩, ?_⟩))
    have hc : (mm_up g.1 g.2.1 w).category = 1 := mm_cat a2
    simp [hc, Ne.symm e]
end
section
/-! printed by wip/whole/gen.py: the rows of every method (pc, operation, what it names, its number), and what they name -/
def mm_cn (k : Nat) : String := match k with
  | 0 => RX0
  | 1 => RX1
  | 2 => RX2
  | 3 => RX3
  | 4 => RX4
  | 5 => RX5
  | _ => RL
def mm_en (k : Nat) : String := match k with
  | 0 => "java/lang/IndexOutOfBoundsException"
  | 1 => "java/lang/IllegalArgumentException"
  | _ => "java/lang/IllegalStateException"
def mm_c_X0_init : List mm_E := [(0, 5, 0, 0), (1, 57, 3, 0), (4, 5, 0, 0), (5, 50, 9, 1), (8, 21, 0, 0), (9, 108, 0, 0), (12, 42, 0, 0), (15, 5, 0, 0), (16, 2, 0, 5226), (19, 51, 0, 0), (21, 42, 1, 0), (24, 5, 0, 0), (25, 2, 0, 201), (28, 51, 0, 0), (30, 42, 2, 0), (33, 5, 0, 0), (34, 2, 0, 201), (37, 51, 0, 0), (39, 42, 3, 0), (42, 5, 0, 0), (43, 2, 0, 201), (46, 51, 0, 0), (48, 42, 4, 0), (51, 5, 0, 0), (52, 0, 0, 4), (53, 51, 0, 0), (55, 42, 5, 0), (58, 5, 0, 0), (59, 105, 1, 0), (62, 103, 0, 0)]
def mm_c_X0_forget : List mm_E := [(0, 5, 0, 0), (1, 0, 0, 0), (2, 41, 6, 0), (5, 5, 0, 0), (6, 0, 0, 0), (7, 0, 0, (-1)), (8, 105, 2, 0), (11, 23, 0, 0), (12, 0, 0, 0), (13, 7, 1, 0), (14, 3, 1, 0), (15, 5, 0, 0), (16, 40, 5, 0), (19, 49, 0, 0), (20, 34, 22, 16), (23, 5, 0, 0), (24, 40, 5, 0), (27, 3, 1, 0), (28, 0, 0, 0), (29, 44, 0, 0), (30, 20, 1, 1), (33, 24, 10, (-19)), (36, 103, 0, 0)]
def mm_c_X0_stateCount : List mm_E := [(0, 5, 0, 0), (1, 40, 6, 0), (4, 100, 0, 0)]
def mm_c_X0_stateAt : List mm_E := [(0, 3, 1, 0), (1, 5, 0, 0), (2, 40, 6, 0), (5, 107, 3, 0), (8, 25, 15, 21), (11, 3, 1, 0), (12, 5, 0, 0), (13, 40, 4, 0), (16, 49, 0, 0), (17, 34, 15, 12), (20, 5, 0, 0), (21, 40, 4, 0), (24, 3, 1, 0), (25, 43, 0, 0), (26, 24, 16, 4), (29, 0, 0, (-1)), (30, 100, 0, 0)]
def mm_c_X0_partCount : List mm_E := [(0, 0, 0, 0), (1, 7, 1, 0), (2, 0, 0, 1), (3, 7, 2, 0), (4, 3, 2, 0), (5, 5, 0, 0), (6, 40, 6, 0), (9, 34, 22, 25), (12, 3, 1, 0), (13, 5, 0, 0), (14, 3, 2, 0), (15, 105, 4, 0), (18, 5, 0, 0), (19, 3, 2, 0), (20, 105, 5, 0), (23, 12, 0, 0), (24, 0, 0, 1), (25, 11, 0, 0), (26, 11, 0, 0), (27, 7, 1, 0), (28, 20, 2, 1), (31, 24, 4, (-27)), (34, 3, 1, 0), (35, 100, 0, 0)]
def mm_c_X0_longestOf : List mm_E := [(0, 3, 1, 0), (1, 27, 10, 19), (4, 3, 1, 0), (5, 2, 0, 201), (8, 34, 10, 12), (11, 5, 0, 0), (12, 40, 2, 0), (15, 3, 1, 0), (16, 43, 0, 0), (17, 24, 11, 4), (20, 0, 0, 0), (21, 100, 0, 0)]
def mm_c_X0_shortestOf : List mm_E := [(0, 5, 0, 0), (1, 5, 0, 0), (2, 3, 1, 0), (3, 105, 6, 0), (6, 105, 4, 0), (9, 0, 0, 1), (10, 11, 0, 0), (11, 100, 0, 0)]
def mm_c_X0_step : List mm_E := [(0, 3, 1, 0), (1, 27, 12, 24), (4, 3, 1, 0), (5, 2, 0, 201), (8, 34, 12, 17), (11, 3, 2, 0), (12, 27, 12, 13), (15, 3, 2, 0), (16, 1, 0, 26), (18, 34, 12, 7), (21, 0, 0, 1), (22, 24, 13, 4), (25, 0, 0, 0), (26, 7, 3, 0), (27, 3, 3, 0), (28, 25, 25, 17), (31, 5, 0, 0), (32, 40, 1, 0), (35, 3, 1, 0), (36, 1, 0, 26), (38, 13, 0, 0), (39, 3, 2, 0), (40, 11, 0, 0), (41, 43, 0, 0), (42, 24, 26, 4), (45, 0, 0, (-1)), (46, 100, 0, 0)]
def mm_c_X0_grow : List mm_E := [(0, 3, 1, 0), (1, 5, 0, 0), (2, 40, 5, 0), (5, 49, 0, 0), (6, 107, 3, 0), (9, 26, 7, 4), (12, 103, 0, 0), (13, 5, 0, 0), (14, 5, 0, 0), (15, 40, 5, 0), (18, 3, 1, 0), (19, 43, 0, 0), (20, 3, 3, 0), (21, 105, 7, 0), (24, 8, 4, 0), (26, 5, 0, 0), (27, 40, 5, 0), (30, 3, 1, 0), (31, 4, 4, 0), (33, 44, 0, 0), (34, 4, 4, 0), (36, 8, 5, 0), (38, 0, 0, 0), (39, 8, 6, 0), (41, 4, 6, 0), (43, 2, 0, 201), (46, 34, 41, 33), (49, 4, 5, 0), (51, 30, 41, 28), (54, 5, 0, 0), (55, 40, 0, 0), (58, 4, 5, 0), (60, 3, 1, 0), (61, 3, 2, 0), (62, 105, 8, 0), (65, 5, 0, 0), (66, 4, 5, 0), (68, 105, 6, 0), (71, 8, 5, 0), (73, 20, 6, 1), (76, 24, 24, (-35)), (79, 103, 0, 0)]
def mm_c_X0_extend : List mm_E := [(0, 5, 0, 0), (1, 3, 1, 0), (2, 3, 2, 0), (3, 105, 9, 0), (6, 0, 0, (-1)), (7, 31, 11, 10), (10, 5, 0, 0), (11, 3, 1, 0), (12, 3, 2, 0), (13, 105, 10, 0), (16, 100, 0, 0), (17, 5, 0, 0), (18, 5, 0, 0), (19, 3, 1, 0), (20, 105, 4, 0), (23, 0, 0, 1), (24, 11, 0, 0), (25, 0, 0, (-1)), (26, 105, 2, 0), (29, 7, 3, 0), (30, 3, 1, 0), (31, 8, 4, 0), (33, 0, 0, 0), (34, 8, 5, 0), (36, 4, 5, 0), (38, 2, 0, 201), (41, 34, 48, 45), (44, 4, 4, 0), (46, 0, 0, (-1)), (47, 31, 48, 39), (50, 5, 0, 0), (51, 4, 4, 0), (53, 3, 2, 0), (54, 105, 9, 0), (57, 0, 0, (-1)), (58, 31, 37, 6), (61, 24, 48, 25), (64, 5, 0, 0), (65, 4, 4, 0), (67, 3, 2, 0), (68, 3, 3, 0), (69, 105, 11, 0), (72, 5, 0, 0), (73, 4, 4, 0), (75, 105, 6, 0), (78, 8, 4, 0), (80, 20, 5, 1), (83, 24, 24, (-47)), (86, 5, 0, 0), (87, 3, 3, 0), (88, 4, 4, 0), (90, 0, 0, (-1)), (91, 32, 55, 7), (94, 0, 0, 0), (95, 24, 59, 10), (98, 5, 0, 0), (99, 4, 4, 0), (101, 3, 2, 0), (102, 105, 10, 0), (105, 105, 12, 0), (108, 3, 3, 0), (109, 100, 0, 0)]
def mm_c_X0_stateBehind : List mm_E := [(0, 5, 0, 0), (1, 3, 1, 0), (2, 3, 2, 0), (3, 105, 9, 0), (6, 7, 3, 0), (7, 5, 0, 0), (8, 3, 1, 0), (9, 105, 4, 0), (12, 0, 0, 1), (13, 11, 0, 0), (14, 8, 4, 0), (16, 5, 0, 0), (17, 3, 3, 0), (18, 105, 4, 0), (21, 4, 4, 0), (23, 32, 18, 5), (26, 3, 3, 0), (27, 100, 0, 0), (28, 5, 0, 0), (29, 4, 4, 0), (31, 3, 3, 0), (32, 105, 2, 0), (35, 8, 5, 0), (37, 5, 0, 0), (38, 4, 5, 0), (40, 5, 0, 0), (41, 3, 3, 0), (42, 105, 6, 0), (45, 105, 12, 0), (48, 5, 0, 0), (49, 3, 3, 0), (50, 4, 5, 0), (52, 105, 12, 0), (55, 3, 1, 0), (56, 8, 6, 0), (58, 0, 0, 0), (59, 8, 7, 0), (61, 4, 7, 0), (63, 2, 0, 201), (66, 34, 57, 37), (69, 5, 0, 0), (70, 4, 6, 0), (72, 3, 2, 0), (73, 105, 9, 0), (76, 3, 3, 0), (77, 32, 57, 26), (80, 5, 0, 0), (81, 4, 6, 0), (83, 3, 2, 0), (84, 4, 5, 0), (86, 105, 11, 0), (89, 5, 0, 0), (90, 4, 6, 0), (92, 105, 6, 0), (95, 8, 6, 0), (97, 20, 7, 1), (100, 24, 37, (-39)), (103, 4, 5, 0), (105, 100, 0, 0)]
def mm_c_X0_addState : List mm_E := [(0, 5, 0, 0), (1, 40, 6, 0), (4, 7, 3, 0), (5, 3, 3, 0), (6, 5, 0, 0), (7, 40, 2, 0), (10, 49, 0, 0), (11, 107, 3, 0), (14, 26, 11, 5), (17, 0, 0, (-1)), (18, 100, 0, 0), (19, 5, 0, 0), (20, 40, 2, 0), (23, 3, 3, 0), (24, 3, 1, 0), (25, 44, 0, 0), (26, 5, 0, 0), (27, 3, 3, 0), (28, 0, 0, (-1)), (29, 105, 12, 0), (32, 0, 0, 0), (33, 8, 4, 0), (35, 4, 4, 0), (37, 1, 0, 26), (39, 34, 35, 23), (42, 5, 0, 0), (43, 3, 3, 0), (44, 4, 4, 0), (46, 5, 0, 0), (47, 3, 2, 0), (48, 4, 4, 0), (50, 105, 9, 0), (53, 105, 11, 0), (56, 20, 4, 1), (59, 24, 22, (-24)), (62, 5, 0, 0), (63, 40, 0, 0), (66, 3, 3, 0), (67, 3, 2, 0), (68, 105, 13, 0), (71, 5, 0, 0), (72, 3, 3, 0), (73, 105, 14, 0), (76, 5, 0, 0), (77, 21, 0, 0), (78, 40, 6, 0), (81, 0, 0, 1), (82, 11, 0, 0), (83, 41, 6, 0), (86, 3, 3, 0), (87, 100, 0, 0)]
def mm_c_X0_sortIn : List mm_E := [(0, 3, 1, 0), (1, 7, 2, 0), (2, 3, 2, 0), (3, 5, 0, 0), (4, 40, 4, 0), (7, 49, 0, 0), (8, 107, 3, 0), (11, 26, 9, 4), (14, 103, 0, 0), (15, 3, 2, 0), (16, 30, 35, 43), (19, 5, 0, 0), (20, 5, 0, 0), (21, 40, 4, 0), (24, 3, 2, 0), (25, 0, 0, 1), (26, 12, 0, 0), (27, 43, 0, 0), (28, 105, 4, 0), (31, 5, 0, 0), (32, 3, 1, 0), (33, 105, 4, 0), (36, 36, 35, 23), (39, 5, 0, 0), (40, 40, 4, 0), (43, 3, 2, 0), (44, 5, 0, 0), (45, 40, 4, 0), (48, 3, 2, 0), (49, 0, 0, 1), (50, 12, 0, 0), (51, 43, 0, 0), (52, 44, 0, 0), (53, 20, 2, (-1)), (56, 24, 9, (-41)), (59, 5, 0, 0), (60, 40, 4, 0), (63, 3, 2, 0), (64, 3, 1, 0), (65, 44, 0, 0), (66, 103, 0, 0)]
def mm_c_X0_linkOf : List mm_E := [(0, 3, 1, 0), (1, 5, 0, 0), (2, 40, 3, 0), (5, 49, 0, 0), (6, 107, 3, 0), (9, 25, 11, 12), (12, 5, 0, 0), (13, 40, 3, 0), (16, 3, 1, 0), (17, 43, 0, 0), (18, 24, 12, 4), (21, 0, 0, (-1)), (22, 100, 0, 0)]
def mm_c_X0_putLink : List mm_E := [(0, 3, 1, 0), (1, 5, 0, 0), (2, 40, 3, 0), (5, 49, 0, 0), (6, 107, 3, 0), (9, 25, 11, 10), (12, 5, 0, 0), (13, 40, 3, 0), (16, 3, 1, 0), (17, 3, 2, 0), (18, 44, 0, 0), (19, 103, 0, 0)]
def mm_c_X0_putStep : List mm_E := [(0, 3, 1, 0), (1, 27, 12, 24), (4, 3, 1, 0), (5, 2, 0, 201), (8, 34, 12, 17), (11, 3, 2, 0), (12, 27, 12, 13), (15, 3, 2, 0), (16, 1, 0, 26), (18, 34, 12, 7), (21, 0, 0, 1), (22, 24, 13, 4), (25, 0, 0, 0), (26, 8, 4, 0), (28, 4, 4, 0), (30, 25, 25, 15), (33, 5, 0, 0), (34, 40, 1, 0), (37, 3, 1, 0), (38, 1, 0, 26), (40, 13, 0, 0), (41, 3, 2, 0), (42, 11, 0, 0), (43, 3, 3, 0), (44, 44, 0, 0), (45, 103, 0, 0)]
def mm_c_X1_init : List mm_E := [(0, 5, 0, 0), (1, 57, 3, 0), (4, 5, 0, 0), (5, 2, 0, 804), (8, 51, 0, 0), (10, 42, 7, 0), (13, 5, 0, 0), (14, 2, 0, 804), (17, 51, 0, 0), (19, 42, 8, 0), (22, 5, 0, 0), (23, 2, 0, 804), (26, 51, 0, 0), (28, 42, 9, 0), (31, 103, 0, 0)]
def mm_c_X1_countOf : List mm_E := [(0, 3, 1, 0), (1, 3, 2, 0), (2, 106, 15, 0), (5, 7, 3, 0), (6, 3, 3, 0), (7, 0, 0, (-1)), (8, 32, 9, 7), (11, 0, 0, 0), (12, 24, 13, 9), (15, 5, 0, 0), (16, 40, 7, 0), (19, 3, 3, 0), (20, 43, 0, 0), (21, 100, 0, 0)]
def mm_c_X1_firstOf : List mm_E := [(0, 3, 1, 0), (1, 3, 2, 0), (2, 106, 15, 0), (5, 7, 3, 0), (6, 3, 3, 0), (7, 0, 0, (-1)), (8, 32, 9, 7), (11, 0, 0, (-1)), (12, 24, 13, 9), (15, 5, 0, 0), (16, 40, 8, 0), (19, 3, 3, 0), (20, 43, 0, 0), (21, 100, 0, 0)]
def mm_c_X1_lastOf : List mm_E := [(0, 3, 1, 0), (1, 3, 2, 0), (2, 106, 15, 0), (5, 7, 3, 0), (6, 3, 3, 0), (7, 0, 0, (-1)), (8, 32, 9, 7), (11, 0, 0, (-1)), (12, 24, 13, 9), (15, 5, 0, 0), (16, 40, 9, 0), (19, 3, 3, 0), (20, 43, 0, 0), (21, 100, 0, 0)]
def mm_c_X1_countInAll : List mm_E := [(0, 0, 0, 0), (1, 7, 2, 0), (2, 0, 0, 0), (3, 7, 3, 0), (4, 3, 3, 0), (5, 0, 0, 4), (6, 34, 16, 18), (9, 3, 2, 0), (10, 5, 0, 0), (11, 3, 1, 0), (12, 3, 3, 0), (13, 105, 16, 0), (16, 11, 0, 0), (17, 7, 2, 0), (18, 20, 3, 1), (21, 24, 4, (-17)), (24, 3, 2, 0), (25, 100, 0, 0)]
def mm_c_X1_standInEach : List mm_E := [(0, 0, 0, 0), (1, 7, 3, 0), (2, 3, 3, 0), (3, 0, 0, 4), (4, 34, 27, 41), (7, 3, 2, 0), (8, 3, 3, 0), (9, 17, 0, 0), (10, 0, 0, 1), (11, 18, 0, 0), (12, 0, 0, 1), (13, 32, 14, 7), (16, 0, 0, 1), (17, 24, 15, 4), (20, 0, 0, 0), (21, 8, 4, 0), (23, 4, 4, 0), (25, 25, 25, 14), (28, 5, 0, 0), (29, 3, 1, 0), (30, 3, 3, 0), (31, 105, 16, 0), (34, 26, 25, 5), (37, 0, 0, 0), (38, 101, 0, 0), (39, 20, 3, 1), (42, 24, 2, (-40)), (45, 0, 0, 1), (46, 101, 0, 0)]
def mm_c_X1_note : List mm_E := [(0, 3, 1, 0), (1, 3, 2, 0), (2, 106, 15, 0), (5, 8, 4, 0), (7, 4, 4, 0), (9, 0, 0, (-1)), (10, 32, 8, 4), (13, 103, 0, 0), (14, 5, 0, 0), (15, 40, 7, 0), (18, 4, 4, 0), (20, 43, 0, 0), (21, 26, 18, 11), (24, 5, 0, 0), (25, 40, 8, 0), (28, 4, 4, 0), (30, 3, 3, 0), (31, 44, 0, 0), (32, 5, 0, 0), (33, 40, 9, 0), (36, 4, 4, 0), (38, 3, 3, 0), (39, 44, 0, 0), (40, 5, 0, 0), (41, 40, 7, 0), (44, 4, 4, 0), (46, 22, 0, 0), (47, 43, 0, 0), (48, 0, 0, 1), (49, 11, 0, 0), (50, 44, 0, 0), (51, 103, 0, 0)]
def mm_c_X1_takeOver : List mm_E := [(0, 0, 0, 0), (1, 7, 3, 0), (2, 3, 3, 0), (3, 0, 0, 4), (4, 34, 57, 101), (7, 3, 1, 0), (8, 3, 3, 0), (9, 106, 15, 0), (12, 8, 4, 0), (14, 3, 2, 0), (15, 3, 3, 0), (16, 106, 15, 0), (19, 8, 5, 0), (21, 4, 4, 0), (23, 0, 0, (-1)), (24, 31, 55, 75), (27, 5, 0, 0), (28, 40, 7, 0), (31, 4, 4, 0), (33, 4, 5, 0), (35, 0, 0, (-1)), (36, 32, 24, 7), (39, 0, 0, 0), (40, 24, 28, 10), (43, 5, 0, 0), (44, 40, 7, 0), (47, 4, 5, 0), (49, 43, 0, 0), (50, 44, 0, 0), (51, 5, 0, 0), (52, 40, 8, 0), (55, 4, 4, 0), (57, 4, 5, 0), (59, 0, 0, (-1)), (60, 32, 37, 7), (63, 0, 0, (-1)), (64, 24, 41, 10), (67, 5, 0, 0), (68, 40, 8, 0), (71, 4, 5, 0), (73, 43, 0, 0), (74, 44, 0, 0), (75, 5, 0, 0), (76, 40, 9, 0), (79, 4, 4, 0), (81, 4, 5, 0), (83, 0, 0, (-1)), (84, 32, 50, 7), (87, 0, 0, (-1)), (88, 24, 54, 10), (91, 5, 0, 0), (92, 40, 9, 0), (95, 4, 5, 0), (97, 43, 0, 0), (98, 44, 0, 0), (99, 20, 3, 1), (102, 24, 2, (-100)), (105, 103, 0, 0)]
def mm_c_X1_placeOf : List mm_E := [(0, 3, 0, 0), (1, 27, 12, 23), (4, 3, 0, 0), (5, 2, 0, 201), (8, 34, 12, 16), (11, 3, 1, 0), (12, 27, 12, 12), (15, 3, 1, 0), (16, 0, 0, 4), (17, 34, 12, 7), (20, 0, 0, 1), (21, 24, 13, 4), (24, 0, 0, 0), (25, 7, 2, 0), (26, 3, 2, 0), (27, 25, 22, 11), (30, 3, 0, 0), (31, 0, 0, 4), (32, 13, 0, 0), (33, 3, 1, 0), (34, 11, 0, 0), (35, 24, 23, 4), (38, 0, 0, (-1)), (39, 100, 0, 0)]
def mm_c_X2_init : List mm_E := [(0, 5, 0, 0), (1, 57, 3, 0), (4, 5, 0, 0), (5, 50, 9, 0), (8, 21, 0, 0), (9, 108, 17, 0), (12, 42, 10, 0), (15, 5, 0, 0), (16, 2, 0, 201), (19, 51, 0, 0), (21, 42, 11, 0), (24, 5, 0, 0), (25, 0, 0, 0), (26, 41, 12, 0), (29, 103, 0, 0)]
def mm_c_X2_countWords : List mm_E := [(0, 5, 0, 0), (1, 0, 0, 0), (2, 41, 12, 0), (5, 5, 0, 0), (6, 40, 10, 0), (9, 105, 18, 0), (12, 0, 0, 1), (13, 12, 0, 0), (14, 7, 1, 0), (15, 3, 1, 0), (16, 27, 41, 59), (19, 5, 0, 0), (20, 40, 10, 0), (23, 3, 1, 0), (24, 105, 19, 0), (27, 7, 2, 0), (28, 0, 0, 1), (29, 7, 3, 0), (30, 0, 0, 0), (31, 8, 4, 0), (33, 4, 4, 0), (35, 1, 0, 26), (37, 34, 35, 26), (40, 3, 3, 0), (41, 5, 0, 0), (42, 5, 0, 0), (43, 40, 10, 0), (46, 3, 2, 0), (47, 4, 4, 0), (49, 105, 20, 0), (52, 105, 21, 0), (55, 11, 0, 0), (56, 7, 3, 0), (57, 20, 4, 1), (60, 24, 20, (-27)), (63, 5, 0, 0), (64, 3, 2, 0), (65, 3, 3, 0), (66, 105, 22, 0), (69, 20, 1, (-1)), (72, 24, 9, (-57)), (75, 103, 0, 0)]
def mm_c_X2_measureReach : List mm_E := [(0, 5, 0, 0), (1, 0, 0, (-1)), (2, 41, 12, 0), (5, 5, 0, 0), (6, 40, 10, 0), (9, 105, 18, 0), (12, 0, 0, 1), (13, 12, 0, 0), (14, 7, 3, 0), (15, 3, 3, 0), (16, 27, 51, 85), (19, 5, 0, 0), (20, 40, 10, 0), (23, 3, 3, 0), (24, 105, 19, 0), (27, 8, 4, 0), (29, 0, 0, (-1)), (30, 8, 5, 0), (32, 0, 0, 0), (33, 8, 6, 0), (35, 4, 6, 0), (37, 1, 0, 26), (39, 34, 35, 31), (42, 4, 5, 0), (44, 5, 0, 0), (45, 5, 0, 0), (46, 40, 10, 0), (49, 4, 4, 0), (51, 4, 6, 0), (53, 105, 20, 0), (56, 105, 21, 0), (59, 58, 45, 0), (62, 8, 5, 0), (64, 20, 6, 1), (67, 24, 20, (-32)), (70, 5, 0, 0), (71, 4, 4, 0), (73, 5, 0, 0), (74, 4, 4, 0), (76, 3, 1, 0), (77, 3, 2, 0), (78, 105, 23, 0), (81, 25, 47, 10), (84, 4, 5, 0), (86, 0, 0, 1), (87, 11, 0, 0), (88, 24, 48, 4), (91, 0, 0, (-1)), (92, 105, 22, 0), (95, 20, 3, (-1)), (98, 24, 9, (-83)), (101, 103, 0, 0)]
def mm_c_X2_measureGaps : List mm_E := [(0, 5, 0, 0), (1, 0, 0, 0), (2, 41, 12, 0), (5, 5, 0, 0), (6, 40, 10, 0), (9, 105, 18, 0), (12, 0, 0, 1), (13, 12, 0, 0), (14, 7, 2, 0), (15, 3, 2, 0), (16, 27, 43, 67), (19, 5, 0, 0), (20, 40, 10, 0), (23, 3, 2, 0), (24, 105, 19, 0), (27, 7, 3, 0), (28, 1, 0, 100), (30, 8, 4, 0), (32, 0, 0, 0), (33, 8, 5, 0), (35, 4, 5, 0), (37, 3, 1, 0), (38, 34, 35, 30), (41, 4, 4, 0), (43, 5, 0, 0), (44, 5, 0, 0), (45, 40, 10, 0), (48, 3, 3, 0), (49, 4, 5, 0), (51, 105, 20, 0), (54, 105, 21, 0), (57, 59, 54, 0), (60, 8, 4, 0), (62, 20, 5, 1), (65, 24, 20, (-30)), (68, 5, 0, 0), (69, 3, 3, 0), (70, 4, 4, 0), (72, 0, 0, 1), (73, 11, 0, 0), (74, 105, 22, 0), (77, 20, 2, (-1)), (80, 24, 9, (-65)), (83, 103, 0, 0)]
def mm_c_X2_partsAheadOf : List mm_E := [(0, 0, 0, 0), (1, 7, 2, 0), (2, 0, 0, 0), (3, 7, 3, 0), (4, 5, 1, 0), (5, 38, 8, 7), (8, 0, 0, 0), (9, 24, 10, 7), (12, 5, 1, 0), (13, 105, 24, 0), (16, 8, 4, 0), (18, 0, 0, 0), (19, 8, 5, 0), (21, 4, 5, 0), (23, 4, 4, 0), (25, 34, 57, 83), (28, 3, 3, 0), (29, 0, 0, (-1)), (30, 31, 57, 78), (33, 5, 1, 0), (34, 4, 5, 0), (36, 105, 25, 0), (39, 8, 6, 0), (41, 0, 0, 0), (42, 8, 7, 0), (44, 4, 7, 0), (46, 4, 6, 0), (48, 34, 40, 26), (51, 3, 2, 0), (52, 5, 0, 0), (53, 5, 0, 0), (54, 40, 10, 0), (57, 3, 3, 0), (58, 4, 7, 0), (60, 105, 20, 0), (63, 105, 21, 0), (66, 11, 0, 0), (67, 7, 2, 0), (68, 20, 7, 1), (71, 24, 25, (-27)), (74, 5, 0, 0), (75, 40, 10, 0), (78, 3, 3, 0), (79, 4, 6, 0), (81, 105, 20, 0), (84, 7, 3, 0), (85, 3, 3, 0), (86, 0, 0, (-1)), (87, 31, 55, 15), (90, 4, 5, 0), (92, 4, 4, 0), (94, 0, 0, 1), (95, 12, 0, 0), (96, 34, 55, 6), (99, 20, 2, 1), (102, 20, 5, 1), (105, 24, 13, (-84)), (108, 3, 2, 0), (109, 100, 0, 0)]
def mm_c_X2_spellPart : List mm_E := [(0, 5, 2, 0), (1, 38, 3, 4), (4, 103, 0, 0), (5, 5, 2, 0), (6, 105, 26, 0), (9, 0, 0, 0), (10, 7, 3, 0), (11, 3, 1, 0), (12, 8, 4, 0), (14, 0, 0, 0), (15, 8, 5, 0), (17, 4, 5, 0), (19, 1, 0, 100), (21, 34, 61, 101), (24, 4, 4, 0), (26, 27, 61, 96), (29, 3, 3, 0), (30, 0, 0, (-1)), (31, 31, 61, 91), (34, 0, 0, 0), (35, 8, 6, 0), (37, 5, 0, 0), (38, 5, 0, 0), (39, 40, 10, 0), (42, 3, 3, 0), (43, 4, 6, 0), (45, 105, 20, 0), (48, 105, 21, 0), (51, 8, 7, 0), (53, 4, 6, 0), (55, 1, 0, 26), (57, 34, 49, 39), (60, 4, 7, 0), (62, 4, 4, 0), (64, 35, 49, 32), (67, 4, 4, 0), (69, 4, 7, 0), (71, 12, 0, 0), (72, 8, 4, 0), (74, 20, 6, 1), (77, 5, 0, 0), (78, 5, 0, 0), (79, 40, 10, 0), (82, 3, 3, 0), (83, 4, 6, 0), (85, 105, 20, 0), (88, 105, 21, 0), (91, 8, 7, 0), (93, 24, 29, (-40)), (96, 5, 2, 0), (97, 4, 6, 0), (99, 105, 27, 0), (102, 5, 0, 0), (103, 40, 10, 0), (106, 3, 3, 0), (107, 4, 6, 0), (109, 105, 20, 0), (112, 7, 3, 0), (113, 20, 4, (-1)), (116, 20, 5, 1), (119, 24, 11, (-102)), (122, 103, 0, 0)]
def mm_c_X2_spellWay : List mm_E := [(0, 5, 1, 0), (1, 38, 3, 4), (4, 103, 0, 0), (5, 5, 1, 0), (6, 105, 26, 0), (9, 0, 0, 0), (10, 7, 2, 0), (11, 5, 0, 0), (12, 0, 0, 0), (13, 105, 21, 0), (16, 0, 0, 1), (17, 12, 0, 0), (18, 7, 3, 0), (19, 3, 3, 0), (20, 27, 42, 60), (23, 0, 0, 0), (24, 8, 4, 0), (26, 4, 4, 0), (28, 1, 0, 26), (30, 34, 31, 27), (33, 5, 0, 0), (34, 5, 0, 0), (35, 40, 10, 0), (38, 3, 2, 0), (39, 4, 4, 0), (41, 105, 20, 0), (44, 105, 21, 0), (47, 3, 3, 0), (48, 31, 31, 9), (51, 20, 4, 1), (54, 24, 17, (-28)), (57, 5, 1, 0), (58, 4, 4, 0), (60, 105, 27, 0), (63, 5, 0, 0), (64, 40, 10, 0), (67, 3, 2, 0), (68, 4, 4, 0), (70, 105, 20, 0), (73, 7, 2, 0), (74, 20, 3, (-1)), (77, 24, 13, (-58)), (80, 103, 0, 0)]
def mm_c_X2_suits : List mm_E := [(0, 3, 1, 0), (1, 25, 16, 33), (4, 5, 0, 0), (5, 40, 10, 0), (8, 40, 13, 0), (11, 3, 1, 0), (12, 3, 2, 0), (13, 105, 28, 0), (16, 25, 18, 22), (19, 5, 0, 0), (20, 40, 10, 0), (23, 40, 13, 0), (26, 3, 1, 0), (27, 105, 29, 0), (30, 3, 3, 0), (31, 33, 18, 7), (34, 0, 0, 1), (35, 24, 19, 4), (38, 0, 0, 0), (39, 101, 0, 0)]
def mm_c_X2_aheadOf : List mm_E := [(0, 3, 1, 0), (1, 5, 0, 0), (2, 40, 11, 0), (5, 49, 0, 0), (6, 107, 30, 0), (9, 25, 11, 12), (12, 5, 0, 0), (13, 40, 11, 0), (16, 3, 1, 0), (17, 43, 0, 0), (18, 24, 13, 7), (21, 5, 0, 0), (22, 40, 12, 0), (25, 100, 0, 0)]
def mm_c_X2_putAhead : List mm_E := [(0, 3, 1, 0), (1, 5, 0, 0), (2, 40, 11, 0), (5, 49, 0, 0), (6, 107, 30, 0), (9, 25, 11, 10), (12, 5, 0, 0), (13, 40, 11, 0), (16, 3, 1, 0), (17, 3, 2, 0), (18, 44, 0, 0), (19, 103, 0, 0)]
def mm_c_X3_init : List mm_E := [(0, 5, 0, 0), (1, 57, 3, 0), (4, 5, 0, 0), (5, 3, 1, 0), (6, 0, 0, 0), (7, 58, 9, 0), (10, 51, 0, 0), (12, 42, 14, 0), (15, 5, 0, 0), (16, 0, 0, 0), (17, 41, 15, 0), (20, 103, 0, 0)]
def mm_c_X3_size : List mm_E := [(0, 5, 0, 0), (1, 40, 15, 0), (4, 100, 0, 0)]
def mm_c_X3_letter : List mm_E := [(0, 3, 1, 0), (1, 5, 0, 0), (2, 40, 15, 0), (5, 107, 31, 0), (8, 25, 15, 21), (11, 3, 1, 0), (12, 5, 0, 0), (13, 40, 14, 0), (16, 49, 0, 0), (17, 34, 15, 12), (20, 5, 0, 0), (21, 40, 14, 0), (24, 3, 1, 0), (25, 43, 0, 0), (26, 24, 16, 4), (29, 0, 0, (-1)), (30, 100, 0, 0)]
def mm_c_X3_add : List mm_E := [(0, 5, 0, 0), (1, 40, 15, 0), (4, 5, 0, 0), (5, 40, 14, 0), (8, 49, 0, 0), (9, 107, 31, 0), (12, 25, 23, 32), (15, 3, 1, 0), (16, 1, 0, 26), (18, 107, 31, 0), (21, 25, 23, 23), (24, 5, 0, 0), (25, 40, 14, 0), (28, 5, 0, 0), (29, 40, 15, 0), (32, 3, 1, 0), (33, 44, 0, 0), (34, 5, 0, 0), (35, 21, 0, 0), (36, 40, 15, 0), (39, 0, 0, 1), (40, 11, 0, 0), (41, 41, 15, 0), (44, 103, 0, 0)]
def mm_c_X3_shorten : List mm_E := [(0, 5, 0, 0), (1, 40, 15, 0), (4, 30, 9, 13), (7, 5, 0, 0), (8, 21, 0, 0), (9, 40, 15, 0), (12, 0, 0, 1), (13, 12, 0, 0), (14, 41, 15, 0), (17, 103, 0, 0)]
def mm_c_X3_empty : List mm_E := [(0, 5, 0, 0), (1, 0, 0, 0), (2, 41, 15, 0), (5, 103, 0, 0)]
def mm_c_X4_init : List mm_E := [(0, 5, 0, 0), (1, 57, 3, 0), (4, 5, 0, 0), (5, 0, 0, 4), (6, 53, 9, 0), (9, 42, 16, 0), (12, 0, 0, 0), (13, 7, 1, 0), (14, 3, 1, 0), (15, 5, 0, 0), (16, 40, 16, 0), (19, 49, 0, 0), (20, 34, 23, 24), (23, 5, 0, 0), (24, 40, 16, 0), (27, 3, 1, 0), (28, 50, 9, 3), (31, 21, 0, 0), (32, 1, 0, 100), (34, 108, 32, 0), (37, 48, 0, 0), (38, 20, 1, 1), (41, 24, 8, (-27)), (44, 5, 0, 0), (45, 50, 9, 3), (48, 21, 0, 0), (49, 1, 0, 120), (51, 108, 32, 0), (54, 42, 17, 0), (57, 5, 0, 0), (58, 50, 22, 2), (61, 21, 0, 0), (62, 108, 33, 0), (65, 42, 18, 0), (68, 5, 0, 0), (69, 5, 0, 0), (70, 40, 18, 0), (73, 40, 19, 0), (76, 42, 20, 0), (79, 5, 0, 0), (80, 0, 0, 0), (81, 41, 21, 0), (84, 5, 0, 0), (85, 0, 0, 0), (86, 41, 22, 0), (89, 103, 0, 0)]
def mm_c_L_draw : List mm_E := [(0, 3, 1, 0), (1, 5, 0, 0), (2, 49, 0, 0), (3, 34, 10, 12), (6, 5, 0, 0), (7, 3, 1, 0), (8, 43, 0, 0), (9, 55, 7, 2147483647), (11, 18, 0, 0), (12, 24, 17, 12), (15, 55, 8, 104729), (17, 3, 1, 0), (18, 0, 0, 2), (19, 11, 0, 0), (20, 13, 0, 0), (21, 55, 9, 65521), (23, 15, 0, 0), (24, 100, 0, 0)]
def mm_c_X4_open : List mm_E := [(0, 5, 0, 0), (1, 40, 21, 0), (4, 0, 0, 4), (5, 33, 9, 13), (8, 104, 0, 2), (11, 111, 0, 0), (12, 111, 0, 0), (14, 111, 0, 0), (17, 111, 0, 0), (18, 5, 0, 0), (19, 21, 0, 0), (20, 40, 21, 0), (23, 0, 0, 1), (24, 11, 0, 0), (25, 41, 21, 0), (28, 5, 0, 0), (29, 40, 21, 0), (32, 0, 0, 1), (33, 12, 0, 0), (34, 100, 0, 0)]
def mm_c_X4_append : List mm_E := [(0, 5, 0, 0), (1, 3, 1, 0), (2, 105, 34, 0), (5, 9, 3, 0), (6, 3, 2, 0), (7, 106, 35, 0), (10, 5, 0, 0), (11, 40, 22, 0), (14, 1, 0, 100), (16, 33, 15, 13), (19, 104, 1, 2), (22, 111, 0, 0), (23, 111, 0, 0), (25, 111, 0, 0), (28, 111, 0, 0), (29, 5, 0, 0), (30, 40, 20, 0), (33, 3, 1, 0), (34, 5, 3, 0), (35, 105, 36, 0), (38, 3, 2, 0), (39, 105, 37, 0), (42, 5, 3, 0), (43, 3, 2, 0), (44, 105, 38, 0), (47, 5, 0, 0), (48, 21, 0, 0), (49, 40, 22, 0), (52, 0, 0, 1), (53, 11, 0, 0), (54, 41, 22, 0), (57, 5, 3, 0), (58, 105, 36, 0), (61, 100, 0, 0)]
def mm_c_X4_texts : List mm_E := [(0, 5, 0, 0), (1, 40, 21, 0), (4, 100, 0, 0)]
def mm_c_X4_length : List mm_E := [(0, 5, 0, 0), (1, 3, 1, 0), (2, 105, 34, 0), (5, 105, 36, 0), (8, 100, 0, 0)]
def mm_c_X4_letterAt : List mm_E := [(0, 5, 0, 0), (1, 3, 1, 0), (2, 105, 34, 0), (5, 9, 3, 0), (6, 3, 2, 0), (7, 5, 3, 0), (8, 105, 36, 0), (11, 106, 39, 0), (14, 26, 14, 13), (17, 104, 2, 0), (20, 111, 0, 0), (21, 111, 0, 0), (23, 111, 0, 0), (26, 111, 0, 0), (27, 5, 3, 0), (28, 3, 2, 0), (29, 105, 40, 0), (32, 100, 0, 0)]
def mm_c_X4_type : List mm_E := [(0, 3, 1, 0), (1, 106, 35, 0), (4, 5, 0, 0), (5, 40, 17, 0), (8, 105, 36, 0), (11, 1, 0, 120), (13, 33, 12, 13), (16, 104, 3, 2), (19, 111, 0, 0), (20, 111, 0, 0), (22, 111, 0, 0), (25, 111, 0, 0), (26, 5, 0, 0), (27, 40, 17, 0), (30, 3, 1, 0), (31, 105, 38, 0), (34, 5, 0, 0), (35, 40, 17, 0), (38, 105, 36, 0), (41, 100, 0, 0)]
def mm_c_X4_erase : List mm_E := [(0, 5, 0, 0), (1, 40, 17, 0), (4, 105, 36, 0), (7, 26, 9, 13), (10, 104, 4, 2), (13, 111, 0, 0), (14, 111, 0, 0), (16, 111, 0, 0), (19, 111, 0, 0), (20, 5, 0, 0), (21, 40, 17, 0), (24, 5, 0, 0), (25, 40, 17, 0), (28, 105, 36, 0), (31, 0, 0, 1), (32, 12, 0, 0), (33, 105, 40, 0), (36, 7, 1, 0), (37, 5, 0, 0), (38, 40, 17, 0), (41, 105, 41, 0), (44, 3, 1, 0), (45, 100, 0, 0)]
def mm_c_X4_wipe : List mm_E := [(0, 5, 0, 0), (1, 40, 17, 0), (4, 105, 36, 0), (7, 7, 1, 0), (8, 5, 0, 0), (9, 40, 17, 0), (12, 105, 42, 0), (15, 3, 1, 0), (16, 100, 0, 0)]
def mm_c_X4_copy : List mm_E := [(0, 5, 0, 0), (1, 3, 1, 0), (2, 105, 34, 0), (5, 10, 4, 0), (7, 3, 2, 0), (8, 27, 14, 18), (11, 3, 3, 0), (12, 27, 14, 14), (15, 3, 3, 0), (16, 6, 4, 0), (18, 105, 36, 0), (21, 3, 2, 0), (22, 12, 0, 0), (23, 36, 19, 13), (26, 104, 5, 1), (29, 111, 0, 0), (30, 111, 0, 0), (32, 111, 0, 0), (35, 111, 0, 0), (36, 5, 0, 0), (37, 40, 17, 0), (40, 105, 42, 0), (43, 0, 0, 0), (44, 8, 5, 0), (46, 4, 5, 0), (48, 3, 3, 0), (49, 34, 37, 25), (52, 5, 0, 0), (53, 40, 17, 0), (56, 6, 4, 0), (58, 3, 2, 0), (59, 4, 5, 0), (61, 11, 0, 0), (62, 105, 40, 0), (65, 105, 38, 0), (68, 20, 5, 1), (71, 24, 24, (-25)), (74, 103, 0, 0)]
def mm_c_X4_patternLength : List mm_E := [(0, 5, 0, 0), (1, 40, 17, 0), (4, 105, 36, 0), (7, 100, 0, 0)]
def mm_c_X4_patternAt : List mm_E := [(0, 3, 1, 0), (1, 5, 0, 0), (2, 40, 17, 0), (5, 105, 36, 0), (8, 106, 39, 0), (11, 26, 11, 13), (14, 104, 6, 0), (17, 111, 0, 0), (18, 111, 0, 0), (20, 111, 0, 0), (23, 111, 0, 0), (24, 5, 0, 0), (25, 40, 17, 0), (28, 3, 1, 0), (29, 105, 40, 0), (32, 100, 0, 0)]
def mm_c_X4_isPart : List mm_E := [(0, 5, 0, 0), (1, 105, 43, 0), (4, 0, 0, (-1)), (5, 31, 6, 7), (8, 0, 0, 1), (9, 24, 7, 4), (12, 0, 0, 0), (13, 101, 0, 0)]
def mm_c_X4_occurrences : List mm_E := [(0, 5, 0, 0), (1, 40, 20, 0), (4, 40, 23, 0), (7, 5, 0, 0), (8, 105, 43, 0), (11, 105, 44, 0), (14, 100, 0, 0)]
def mm_c_X4_occurrencesIn : List mm_E := [(0, 5, 0, 0), (1, 3, 1, 0), (2, 105, 34, 0), (5, 23, 0, 0), (6, 5, 0, 0), (7, 40, 20, 0), (10, 40, 23, 0), (13, 5, 0, 0), (14, 105, 43, 0), (17, 3, 1, 0), (18, 105, 45, 0), (21, 100, 0, 0)]
def mm_c_X4_first : List mm_E := [(0, 5, 0, 0), (1, 3, 1, 0), (2, 105, 34, 0), (5, 23, 0, 0), (6, 5, 0, 0), (7, 5, 0, 0), (8, 40, 20, 0), (11, 40, 23, 0), (14, 5, 0, 0), (15, 105, 43, 0), (18, 3, 1, 0), (19, 105, 46, 0), (22, 105, 47, 0), (25, 100, 0, 0)]
def mm_c_X4_last : List mm_E := [(0, 5, 0, 0), (1, 3, 1, 0), (2, 105, 34, 0), (5, 23, 0, 0), (6, 5, 0, 0), (7, 5, 0, 0), (8, 40, 20, 0), (11, 40, 23, 0), (14, 5, 0, 0), (15, 105, 43, 0), (18, 3, 1, 0), (19, 105, 48, 0), (22, 105, 47, 0), (25, 100, 0, 0)]
def mm_c_X4_followers : List mm_E := [(0, 5, 0, 0), (1, 0, 0, 0), (2, 105, 49, 0), (5, 7, 1, 0), (6, 0, 0, 0), (7, 7, 2, 0), (8, 0, 0, 0), (9, 7, 3, 0), (10, 3, 3, 0), (11, 1, 0, 26), (13, 34, 26, 28), (16, 5, 0, 0), (17, 40, 20, 0), (20, 3, 1, 0), (21, 3, 3, 0), (22, 105, 50, 0), (25, 0, 0, (-1)), (26, 31, 24, 9), (29, 3, 2, 0), (30, 0, 0, 1), (31, 3, 3, 0), (32, 16, 0, 0), (33, 19, 0, 0), (34, 7, 2, 0), (35, 20, 3, 1), (38, 24, 8, (-28)), (41, 3, 2, 0), (42, 100, 0, 0)]
def mm_c_X4_leaders : List mm_E := [(0, 0, 0, 0), (1, 7, 1, 0), (2, 0, 0, 0), (3, 7, 2, 0), (4, 3, 2, 0), (5, 1, 0, 26), (7, 34, 24, 32), (10, 5, 0, 0), (11, 5, 0, 0), (12, 40, 20, 0), (15, 0, 0, 0), (16, 3, 2, 0), (17, 105, 50, 0), (20, 105, 49, 0), (23, 0, 0, (-1)), (24, 31, 22, 9), (27, 3, 1, 0), (28, 0, 0, 1), (29, 3, 2, 0), (30, 16, 0, 0), (31, 19, 0, 0), (32, 7, 1, 0), (33, 20, 2, 1), (36, 24, 4, (-32)), (39, 3, 1, 0), (40, 100, 0, 0)]
def mm_c_X4_classes : List mm_E := [(0, 5, 0, 0), (1, 40, 20, 0), (4, 105, 51, 0), (7, 0, 0, 1), (8, 12, 0, 0), (9, 100, 0, 0)]
def mm_c_X4_longestAlike : List mm_E := [(0, 5, 0, 0), (1, 105, 43, 0), (4, 7, 1, 0), (5, 3, 1, 0), (6, 0, 0, (-1)), (7, 32, 8, 7), (10, 0, 0, (-1)), (11, 24, 12, 11), (14, 5, 0, 0), (15, 40, 20, 0), (18, 3, 1, 0), (19, 105, 52, 0), (22, 100, 0, 0)]
def mm_c_X4_shortestAlike : List mm_E := [(0, 5, 0, 0), (1, 105, 43, 0), (4, 7, 1, 0), (5, 3, 1, 0), (6, 0, 0, (-1)), (7, 32, 8, 7), (10, 0, 0, (-1)), (11, 24, 12, 11), (14, 5, 0, 0), (15, 40, 20, 0), (18, 3, 1, 0), (19, 105, 53, 0), (22, 100, 0, 0)]
def mm_c_X4_parts : List mm_E := [(0, 5, 0, 0), (1, 40, 20, 0), (4, 105, 54, 0), (7, 100, 0, 0)]
def mm_c_X4_rank : List mm_E := [(0, 5, 0, 0), (1, 40, 18, 0), (4, 105, 55, 0), (7, 5, 0, 0), (8, 40, 18, 0), (11, 5, 0, 0), (12, 40, 17, 0), (15, 105, 56, 0), (18, 100, 0, 0)]
def mm_c_X4_toPart : List mm_E := [(0, 3, 1, 0), (1, 5, 0, 0), (2, 40, 20, 0), (5, 105, 54, 0), (8, 106, 39, 0), (11, 26, 11, 13), (14, 104, 7, 0), (17, 111, 0, 0), (18, 111, 0, 0), (20, 111, 0, 0), (23, 111, 0, 0), (24, 5, 0, 0), (25, 40, 18, 0), (28, 105, 55, 0), (31, 5, 0, 0), (32, 40, 18, 0), (35, 3, 1, 0), (36, 5, 0, 0), (37, 40, 17, 0), (40, 105, 57, 0), (43, 5, 0, 0), (44, 40, 17, 0), (47, 105, 36, 0), (50, 100, 0, 0)]
def mm_c_X4_common : List mm_E := [(0, 3, 1, 0), (1, 0, 0, 1), (2, 33, 9, 13), (5, 3, 1, 0), (6, 0, 0, 1), (7, 5, 0, 0), (8, 40, 21, 0), (11, 16, 0, 0), (12, 33, 14, 13), (15, 104, 8, 1), (18, 111, 0, 0), (19, 111, 0, 0), (21, 111, 0, 0), (24, 111, 0, 0), (25, 5, 0, 0), (26, 40, 18, 0), (29, 3, 1, 0), (30, 0, 0, 1), (31, 105, 58, 0), (34, 5, 0, 0), (35, 40, 18, 0), (38, 5, 0, 0), (39, 40, 17, 0), (42, 105, 59, 0), (45, 5, 0, 0), (46, 40, 17, 0), (49, 105, 36, 0), (52, 100, 0, 0)]
def mm_c_X4_repeated : List mm_E := [(0, 3, 1, 0), (1, 0, 0, 1), (2, 34, 8, 13), (5, 104, 9, 1), (8, 111, 0, 0), (9, 111, 0, 0), (11, 111, 0, 0), (14, 111, 0, 0), (15, 5, 0, 0), (16, 40, 18, 0), (19, 0, 0, 0), (20, 3, 1, 0), (21, 105, 58, 0), (24, 5, 0, 0), (25, 40, 18, 0), (28, 5, 0, 0), (29, 40, 17, 0), (32, 105, 59, 0), (35, 5, 0, 0), (36, 40, 17, 0), (39, 105, 36, 0), (42, 100, 0, 0)]
def mm_c_X4_missing : List mm_E := [(0, 3, 1, 0), (1, 0, 0, 1), (2, 33, 6, 9), (5, 3, 1, 0), (6, 1, 0, 26), (8, 36, 11, 13), (11, 104, 10, 1), (14, 111, 0, 0), (15, 111, 0, 0), (17, 111, 0, 0), (20, 111, 0, 0), (21, 5, 0, 0), (22, 40, 18, 0), (25, 3, 1, 0), (26, 105, 60, 0), (29, 5, 0, 0), (30, 40, 18, 0), (33, 5, 0, 0), (34, 40, 17, 0), (37, 105, 59, 0), (40, 5, 0, 0), (41, 40, 17, 0), (44, 105, 36, 0), (47, 100, 0, 0)]
def mm_c_X4_within : List mm_E := [(0, 3, 0, 0), (1, 27, 7, 12), (4, 3, 0, 0), (5, 3, 1, 0), (6, 34, 7, 7), (9, 0, 0, 1), (10, 24, 8, 4), (13, 0, 0, 0), (14, 101, 0, 0)]
def mm_c_X4_demandText : List mm_E := [(0, 3, 1, 0), (1, 5, 0, 0), (2, 40, 21, 0), (5, 106, 39, 0), (8, 25, 15, 21), (11, 3, 1, 0), (12, 5, 0, 0), (13, 40, 16, 0), (16, 49, 0, 0), (17, 34, 15, 12), (20, 5, 0, 0), (21, 40, 16, 0), (24, 3, 1, 0), (25, 47, 0, 0), (26, 24, 16, 4), (29, 39, 0, 0), (30, 9, 2, 0), (31, 5, 2, 0), (32, 38, 24, 13), (35, 104, 11, 0), (38, 111, 0, 0), (39, 111, 0, 0), (41, 111, 0, 0), (44, 111, 0, 0), (45, 5, 2, 0), (46, 102, 0, 0)]
def mm_c_X4_demandLetter : List mm_E := [(0, 3, 0, 0), (1, 1, 0, 26), (3, 106, 39, 0), (6, 26, 9, 13), (9, 104, 12, 1), (12, 111, 0, 0), (13, 111, 0, 0), (15, 111, 0, 0), (18, 111, 0, 0), (19, 103, 0, 0)]
def mm_c_X4_walkPattern : List mm_E := [(0, 3, 1, 0), (1, 7, 2, 0), (2, 0, 0, 0), (3, 7, 3, 0), (4, 3, 3, 0), (5, 5, 0, 0), (6, 40, 17, 0), (9, 105, 36, 0), (12, 34, 23, 31), (15, 3, 2, 0), (16, 0, 0, (-1)), (17, 31, 23, 26), (20, 5, 0, 0), (21, 40, 20, 0), (24, 3, 2, 0), (25, 5, 0, 0), (26, 40, 17, 0), (29, 3, 3, 0), (30, 105, 40, 0), (33, 105, 50, 0), (36, 7, 2, 0), (37, 20, 3, 1), (40, 24, 4, (-36)), (43, 3, 2, 0), (44, 100, 0, 0)]
def mm_c_X4_partState : List mm_E := [(0, 5, 0, 0), (1, 40, 17, 0), (4, 105, 36, 0), (7, 26, 6, 7), (10, 0, 0, (-1)), (11, 24, 9, 8), (14, 5, 0, 0), (15, 0, 0, 0), (16, 105, 49, 0), (19, 100, 0, 0)]
def mm_c_X4_beginOfPattern : List mm_E := [(0, 3, 1, 0), (1, 0, 0, (-1)), (2, 32, 5, 7), (5, 0, 0, (-1)), (6, 24, 12, 14), (9, 3, 1, 0), (10, 5, 0, 0), (11, 40, 17, 0), (14, 105, 36, 0), (17, 12, 0, 0), (18, 0, 0, 1), (19, 11, 0, 0), (20, 100, 0, 0)]
def mm_c_L_letters : List mm_E := [(0, 0, 0, 0), (1, 7, 1, 0), (2, 0, 0, 0), (3, 7, 2, 0), (4, 3, 2, 0), (5, 5, 0, 0), (6, 105, 61, 0), (9, 34, 16, 17), (12, 3, 1, 0), (13, 5, 0, 0), (14, 3, 2, 0), (15, 105, 62, 0), (18, 11, 0, 0), (19, 7, 1, 0), (20, 20, 2, 1), (23, 24, 4, (-19)), (26, 3, 1, 0), (27, 100, 0, 0)]
def mm_c_L_step : List mm_E := [(0, 5, 0, 0), (1, 105, 61, 0), (4, 8, 4, 0), (6, 4, 4, 0), (8, 25, 12, 16), (11, 3, 1, 0), (12, 1, 0, 9), (14, 15, 0, 0), (15, 26, 30, 44), (18, 4, 4, 0), (20, 0, 0, 4), (21, 34, 30, 38), (24, 5, 0, 0), (25, 105, 63, 0), (28, 4, 4, 0), (30, 32, 28, 27), (33, 5, 0, 0), (34, 105, 61, 0), (37, 4, 4, 0), (39, 0, 0, 1), (40, 11, 0, 0), (41, 32, 28, 16), (44, 5, 0, 0), (45, 4, 4, 0), (47, 105, 62, 0), (50, 26, 28, 7), (53, 0, 0, 1), (54, 24, 29, 4), (57, 0, 0, 0), (58, 101, 0, 0), (59, 3, 2, 0), (60, 4, 4, 0), (62, 15, 0, 0), (63, 8, 5, 0), (65, 3, 1, 0), (66, 1, 0, 9), (68, 15, 0, 0), (69, 1, 0, 6), (71, 34, 82, 83), (74, 5, 0, 0), (75, 106, 64, 0), (78, 1, 0, 24), (80, 34, 82, 74), (83, 5, 0, 0), (84, 4, 5, 0), (86, 105, 62, 0), (89, 8, 6, 0), (91, 3, 3, 0), (92, 3, 3, 0), (93, 0, 0, 5), (94, 15, 0, 0), (95, 26, 54, 8), (98, 1, 0, 26), (100, 24, 55, 4), (103, 0, 0, 3), (104, 15, 0, 0), (105, 8, 7, 0), (107, 5, 0, 0), (108, 4, 5, 0), (110, 4, 7, 0), (112, 105, 65, 0), (115, 4, 6, 0), (117, 0, 0, 1), (118, 11, 0, 0), (119, 32, 80, 33), (122, 5, 0, 0), (123, 4, 5, 0), (125, 105, 62, 0), (128, 4, 6, 0), (130, 0, 0, 1), (131, 11, 0, 0), (132, 32, 80, 20), (135, 5, 0, 0), (136, 4, 5, 0), (138, 4, 6, 0), (140, 105, 66, 0), (143, 4, 7, 0), (145, 32, 80, 7), (148, 0, 0, 1), (149, 24, 81, 4), (152, 0, 0, 0), (153, 101, 0, 0), (154, 5, 0, 0), (155, 105, 67, 0), (158, 8, 6, 0), (160, 3, 1, 0), (161, 1, 0, 9), (163, 15, 0, 0), (164, 1, 0, 6), (166, 32, 113, 42), (169, 4, 6, 0), (171, 1, 0, 120), (173, 34, 113, 35), (176, 5, 0, 0), (177, 3, 3, 0), (178, 0, 0, 4), (179, 15, 0, 0), (180, 105, 68, 0), (183, 4, 6, 0), (185, 0, 0, 1), (186, 11, 0, 0), (187, 32, 111, 19), (190, 5, 0, 0), (191, 4, 6, 0), (193, 105, 69, 0), (196, 3, 3, 0), (197, 0, 0, 4), (198, 15, 0, 0), (199, 32, 111, 7), (202, 0, 0, 1), (203, 24, 112, 4), (206, 0, 0, 0), (207, 101, 0, 0), (208, 3, 1, 0), (209, 1, 0, 9), (211, 15, 0, 0), (212, 1, 0, 7), (214, 32, 140, 44), (217, 4, 6, 0), (219, 30, 140, 39), (222, 5, 0, 0), (223, 4, 6, 0), (225, 0, 0, 1), (226, 12, 0, 0), (227, 105, 69, 0), (230, 8, 7, 0), (232, 5, 0, 0), (233, 105, 70, 0), (236, 4, 7, 0), (238, 32, 138, 18), (241, 5, 0, 0), (242, 105, 67, 0), (245, 4, 6, 0), (247, 0, 0, 1), (248, 12, 0, 0), (249, 32, 138, 7), (252, 0, 0, 1), (253, 24, 139, 4), (256, 0, 0, 0), (257, 101, 0, 0), (258, 5, 0, 0), (259, 4, 5, 0), (261, 5, 0, 0), (262, 4, 5, 0), (264, 105, 62, 0), (267, 26, 148, 7), (270, 0, 0, 0), (271, 24, 153, 11), (274, 3, 3, 0), (275, 5, 0, 0), (276, 4, 5, 0), (278, 105, 62, 0), (281, 15, 0, 0), (282, 3, 3, 0), (283, 1, 0, 25), (285, 14, 0, 0), (286, 106, 71, 0), (289, 101, 0, 0)]
def mm_c_L_copies : List mm_E := [(0, 3, 3, 0), (1, 5, 0, 0), (2, 3, 1, 0), (3, 105, 62, 0), (6, 3, 2, 0), (7, 12, 0, 0), (8, 0, 0, 1), (9, 11, 0, 0), (10, 15, 0, 0), (11, 8, 4, 0), (13, 5, 0, 0), (14, 3, 1, 0), (15, 3, 2, 0), (16, 4, 4, 0), (18, 105, 72, 0), (21, 5, 0, 0), (22, 105, 67, 0), (25, 4, 4, 0), (27, 32, 21, 7), (30, 0, 0, 1), (31, 24, 22, 4), (34, 0, 0, 0), (35, 8, 5, 0), (37, 0, 0, 0), (38, 8, 6, 0), (40, 4, 6, 0), (42, 4, 4, 0), (44, 34, 46, 39), (47, 4, 5, 0), (49, 25, 42, 25), (52, 5, 0, 0), (53, 4, 6, 0), (55, 105, 69, 0), (58, 5, 0, 0), (59, 3, 1, 0), (60, 3, 2, 0), (61, 4, 6, 0), (63, 11, 0, 0), (64, 105, 66, 0), (67, 32, 42, 7), (70, 0, 0, 1), (71, 24, 43, 4), (74, 0, 0, 0), (75, 8, 5, 0), (77, 20, 6, 1), (80, 24, 25, (-40)), (83, 4, 5, 0), (85, 25, 82, 74), (88, 4, 4, 0), (90, 26, 57, 20), (93, 5, 0, 0), (94, 105, 73, 0), (97, 26, 82, 62), (100, 5, 0, 0), (101, 105, 74, 0), (104, 26, 82, 55), (107, 24, 80, 48), (110, 5, 0, 0), (111, 105, 73, 0), (114, 25, 82, 45), (117, 5, 0, 0), (118, 3, 1, 0), (119, 105, 75, 0), (122, 3, 2, 0), (123, 35, 82, 36), (126, 5, 0, 0), (127, 3, 1, 0), (128, 105, 76, 0), (131, 3, 2, 0), (132, 33, 82, 27), (135, 5, 0, 0), (136, 3, 1, 0), (137, 105, 77, 0), (140, 0, 0, 1), (141, 33, 82, 18), (144, 5, 0, 0), (145, 105, 74, 0), (148, 5, 0, 0), (149, 105, 78, 0), (152, 34, 82, 7), (155, 0, 0, 1), (156, 24, 83, 4), (159, 0, 0, 0), (160, 101, 0, 0)]
def mm_c_L_stands : List mm_E := [(0, 5, 0, 0), (1, 105, 67, 0), (4, 30, 13, 21), (7, 3, 2, 0), (8, 5, 0, 0), (9, 105, 67, 0), (12, 11, 0, 0), (13, 5, 0, 0), (14, 3, 1, 0), (15, 105, 62, 0), (18, 35, 13, 7), (21, 0, 0, 1), (22, 24, 14, 4), (25, 0, 0, 0), (26, 7, 3, 0), (27, 0, 0, 0), (28, 8, 4, 0), (30, 4, 4, 0), (32, 5, 0, 0), (33, 105, 67, 0), (36, 34, 39, 37), (39, 3, 3, 0), (40, 25, 39, 33), (43, 5, 0, 0), (44, 3, 1, 0), (45, 3, 2, 0), (46, 4, 4, 0), (48, 11, 0, 0), (49, 105, 66, 0), (52, 5, 0, 0), (53, 4, 4, 0), (55, 105, 69, 0), (58, 32, 35, 7), (61, 0, 0, 1), (62, 24, 36, 4), (65, 0, 0, 0), (66, 7, 3, 0), (67, 20, 4, 1), (70, 24, 17, (-40)), (73, 3, 3, 0), (74, 101, 0, 0)]
def mm_c_L_arePlaces : List mm_E := [(0, 0, 0, 0), (1, 7, 1, 0), (2, 0, 0, 1), (3, 7, 2, 0), (4, 0, 0, 0), (5, 7, 3, 0), (6, 0, 0, 0), (7, 8, 4, 0), (9, 0, 0, 0), (10, 8, 5, 0), (12, 4, 5, 0), (14, 5, 0, 0), (15, 105, 61, 0), (18, 34, 108, 183), (21, 0, 0, 0), (22, 8, 6, 0), (24, 0, 0, (-1)), (25, 8, 7, 0), (27, 0, 0, (-1)), (28, 8, 8, 0), (30, 0, 0, 0), (31, 8, 9, 0), (33, 4, 9, 0), (35, 5, 0, 0), (36, 4, 5, 0), (38, 105, 62, 0), (41, 34, 81, 106), (44, 5, 0, 0), (45, 4, 5, 0), (47, 4, 9, 0), (49, 106, 79, 0), (52, 25, 79, 89), (55, 20, 6, 1), (58, 4, 7, 0), (60, 0, 0, (-1)), (61, 32, 38, 8), (64, 4, 9, 0), (66, 24, 39, 5), (69, 4, 7, 0), (71, 8, 7, 0), (73, 4, 9, 0), (75, 8, 8, 0), (77, 3, 3, 0), (78, 4, 9, 0), (80, 5, 0, 0), (81, 105, 67, 0), (84, 11, 0, 0), (85, 5, 0, 0), (86, 4, 5, 0), (88, 105, 62, 0), (91, 34, 61, 21), (94, 0, 0, 1), (95, 5, 0, 0), (96, 4, 5, 0), (98, 4, 9, 0), (100, 5, 0, 0), (101, 105, 67, 0), (104, 11, 0, 0), (105, 105, 66, 0), (108, 16, 0, 0), (109, 24, 62, 4), (112, 0, 0, 0), (113, 19, 0, 0), (114, 7, 3, 0), (115, 4, 4, 0), (117, 4, 9, 0), (119, 30, 76, 18), (122, 0, 0, 1), (123, 5, 0, 0), (124, 4, 5, 0), (126, 4, 9, 0), (128, 0, 0, 1), (129, 12, 0, 0), (130, 105, 66, 0), (133, 16, 0, 0), (134, 24, 77, 4), (137, 0, 0, 0), (138, 19, 0, 0), (139, 8, 4, 0), (141, 20, 9, 1), (144, 24, 22, (-111)), (147, 3, 1, 0), (148, 4, 6, 0), (150, 11, 0, 0), (151, 7, 1, 0), (152, 3, 2, 0), (153, 25, 104, 40), (156, 5, 0, 0), (157, 4, 5, 0), (159, 105, 77, 0), (162, 4, 6, 0), (164, 32, 104, 29), (167, 5, 0, 0), (168, 4, 5, 0), (170, 105, 75, 0), (173, 4, 7, 0), (175, 32, 104, 18), (178, 5, 0, 0), (179, 4, 5, 0), (181, 105, 76, 0), (184, 4, 8, 0), (186, 32, 104, 7), (189, 0, 0, 1), (190, 24, 105, 4), (193, 0, 0, 0), (194, 7, 2, 0), (195, 20, 5, 1), (198, 24, 10, (-186)), (201, 5, 0, 0), (202, 105, 67, 0), (205, 26, 113, 7), (208, 0, 0, 1), (209, 24, 114, 4), (212, 0, 0, 0), (213, 8, 5, 0), (215, 3, 2, 0), (216, 25, 147, 67), (219, 5, 0, 0), (220, 105, 80, 0), (223, 3, 1, 0), (224, 32, 147, 59), (227, 5, 0, 0), (228, 105, 73, 0), (231, 3, 1, 0), (232, 30, 127, 7), (235, 0, 0, 1), (236, 24, 128, 4), (239, 0, 0, 0), (240, 32, 147, 43), (243, 4, 5, 0), (245, 25, 137, 17), (248, 5, 0, 0), (249, 105, 81, 0), (252, 5, 0, 0), (253, 105, 82, 0), (256, 32, 147, 27), (259, 24, 145, 20), (262, 5, 0, 0), (263, 105, 81, 0), (266, 3, 3, 0), (267, 32, 147, 16), (270, 5, 0, 0), (271, 105, 82, 0), (274, 4, 4, 0), (276, 32, 147, 7), (279, 0, 0, 1), (280, 24, 148, 4), (283, 0, 0, 0), (284, 7, 2, 0), (285, 3, 2, 0), (286, 25, 178, 60), (289, 3, 1, 0), (290, 26, 162, 22), (293, 5, 0, 0), (294, 105, 83, 0), (297, 0, 0, (-1)), (298, 32, 178, 48), (301, 5, 0, 0), (302, 105, 84, 0), (305, 0, 0, (-1)), (306, 32, 178, 40), (309, 24, 176, 33), (312, 5, 0, 0), (313, 105, 83, 0), (316, 5, 0, 0), (317, 105, 67, 0), (320, 33, 178, 26), (323, 5, 0, 0), (324, 105, 84, 0), (327, 5, 0, 0), (328, 105, 67, 0), (331, 35, 178, 15), (334, 5, 0, 0), (335, 105, 84, 0), (338, 0, 0, 1), (339, 33, 178, 7), (342, 0, 0, 1), (343, 24, 179, 4), (346, 0, 0, 0), (347, 101, 0, 0)]
def mm_c_L_areParts : List mm_E := [(0, 0, 0, 0), (1, 7, 1, 0), (2, 0, 0, 0), (3, 7, 2, 0), (4, 0, 0, 1), (5, 7, 3, 0), (6, 0, 0, 0), (7, 8, 4, 0), (9, 0, 0, 0), (10, 8, 5, 0), (12, 4, 5, 0), (14, 5, 0, 0), (15, 105, 78, 0), (18, 34, 73, 118), (21, 3, 3, 0), (22, 25, 73, 114), (25, 5, 0, 0), (26, 4, 5, 0), (28, 105, 85, 0), (31, 8, 6, 0), (33, 4, 6, 0), (35, 0, 0, 1), (36, 33, 39, 39), (39, 5, 0, 0), (40, 105, 67, 0), (43, 4, 6, 0), (45, 32, 39, 30), (48, 5, 0, 0), (49, 105, 73, 0), (52, 25, 39, 23), (55, 5, 0, 0), (56, 105, 74, 0), (59, 4, 5, 0), (61, 32, 39, 14), (64, 5, 0, 0), (65, 105, 81, 0), (68, 27, 39, 7), (71, 0, 0, 1), (72, 24, 40, 4), (75, 0, 0, 0), (76, 7, 3, 0), (77, 3, 3, 0), (78, 25, 50, 16), (81, 4, 6, 0), (83, 4, 4, 0), (85, 0, 0, 1), (86, 11, 0, 0), (87, 35, 50, 7), (90, 0, 0, 1), (91, 24, 51, 4), (94, 0, 0, 0), (95, 7, 3, 0), (96, 3, 1, 0), (97, 5, 0, 0), (98, 105, 83, 0), (101, 4, 6, 0), (103, 32, 59, 7), (106, 0, 0, 1), (107, 24, 60, 4), (110, 0, 0, 0), (111, 11, 0, 0), (112, 7, 1, 0), (113, 4, 6, 0), (115, 3, 2, 0), (116, 36, 67, 8), (119, 4, 6, 0), (121, 24, 68, 4), (124, 3, 2, 0), (125, 7, 2, 0), (126, 4, 6, 0), (128, 8, 4, 0), (130, 20, 5, 1), (133, 24, 10, (-121)), (136, 3, 3, 0), (137, 25, 88, 28), (140, 5, 0, 0), (141, 105, 86, 0), (144, 3, 1, 0), (145, 32, 88, 20), (148, 5, 0, 0), (149, 105, 86, 0), (152, 0, 0, 2), (153, 5, 0, 0), (154, 106, 64, 0), (157, 13, 0, 0), (158, 35, 88, 7), (161, 0, 0, 1), (162, 24, 89, 4), (165, 0, 0, 0), (166, 7, 3, 0), (167, 3, 3, 0), (168, 25, 103, 24), (171, 5, 0, 0), (172, 0, 0, 1), (173, 105, 87, 0), (176, 3, 2, 0), (177, 32, 103, 15), (180, 5, 0, 0), (181, 105, 67, 0), (184, 3, 2, 0), (185, 32, 103, 7), (188, 0, 0, 1), (189, 24, 104, 4), (192, 0, 0, 0), (193, 101, 0, 0)]
def mm_c_L_isFound : List mm_E := [(0, 3, 1, 0), (1, 30, 6, 11), (4, 5, 0, 0), (5, 3, 1, 0), (6, 105, 88, 0), (9, 24, 9, 8), (12, 5, 0, 0), (13, 3, 2, 0), (14, 105, 87, 0), (17, 7, 3, 0), (18, 5, 0, 0), (19, 105, 67, 0), (22, 3, 3, 0), (23, 32, 21, 18), (26, 3, 3, 0), (27, 25, 19, 10), (30, 5, 0, 0), (31, 105, 73, 0), (34, 25, 21, 7), (37, 0, 0, 1), (38, 24, 22, 4), (41, 0, 0, 0), (42, 8, 4, 0), (44, 0, 0, 0), (45, 8, 5, 0), (47, 4, 5, 0), (49, 5, 0, 0), (50, 105, 61, 0), (53, 34, 49, 43), (56, 4, 4, 0), (58, 25, 45, 29), (61, 3, 3, 0), (62, 25, 43, 21), (65, 3, 1, 0), (66, 4, 5, 0), (68, 17, 0, 0), (69, 0, 0, 1), (70, 18, 0, 0), (71, 25, 43, 12), (74, 5, 0, 0), (75, 4, 5, 0), (77, 105, 77, 0), (80, 30, 45, 7), (83, 0, 0, 1), (84, 24, 46, 4), (87, 0, 0, 0), (88, 8, 4, 0), (90, 20, 5, 1), (93, 24, 25, (-46)), (96, 4, 4, 0), (98, 25, 61, 23), (101, 3, 3, 0), (102, 25, 59, 15), (105, 3, 1, 0), (106, 29, 59, 11), (109, 5, 0, 0), (110, 105, 80, 0), (113, 3, 2, 0), (114, 33, 61, 7), (117, 0, 0, 1), (118, 24, 62, 4), (121, 0, 0, 0), (122, 8, 4, 0), (124, 5, 0, 0), (125, 105, 74, 0), (128, 8, 5, 0), (130, 0, 0, 0), (131, 8, 6, 0), (133, 4, 6, 0), (135, 5, 0, 0), (136, 105, 78, 0), (139, 34, 129, 120), (142, 4, 4, 0), (144, 25, 129, 115), (147, 5, 0, 0), (148, 4, 6, 0), (150, 105, 85, 0), (153, 8, 7, 0), (155, 3, 1, 0), (156, 29, 84, 11), (159, 5, 0, 0), (160, 105, 80, 0), (163, 3, 2, 0), (164, 33, 86, 7), (167, 0, 0, 1), (168, 24, 87, 4), (171, 0, 0, 0), (172, 8, 8, 0), (174, 0, 0, 0), (175, 8, 9, 0), (177, 4, 9, 0), (179, 5, 0, 0), (180, 105, 61, 0), (183, 34, 112, 39), (186, 4, 8, 0), (188, 25, 108, 25), (191, 3, 1, 0), (192, 4, 9, 0), (194, 17, 0, 0), (195, 0, 0, 1), (196, 18, 0, 0), (197, 25, 106, 12), (200, 5, 0, 0), (201, 4, 9, 0), (203, 105, 77, 0), (206, 30, 108, 7), (209, 0, 0, 1), (210, 24, 109, 4), (213, 0, 0, 0), (214, 8, 8, 0), (216, 20, 9, 1), (219, 24, 90, (-42)), (222, 4, 8, 0), (224, 25, 123, 22), (227, 4, 7, 0), (229, 3, 3, 0), (230, 33, 123, 16), (233, 4, 7, 0), (235, 3, 3, 0), (236, 32, 125, 14), (239, 4, 6, 0), (241, 4, 5, 0), (243, 33, 125, 7), (246, 0, 0, 1), (247, 24, 126, 4), (250, 0, 0, 0), (251, 8, 4, 0), (253, 20, 6, 1), (256, 24, 68, (-123)), (259, 4, 4, 0), (261, 101, 0, 0)]
def mm_c_L_isMissing : List mm_E := [(0, 5, 0, 0), (1, 3, 1, 0), (2, 105, 89, 0), (5, 7, 2, 0), (6, 5, 0, 0), (7, 105, 67, 0), (10, 3, 2, 0), (11, 32, 16, 19), (14, 5, 0, 0), (15, 105, 73, 0), (18, 26, 16, 12), (21, 3, 2, 0), (22, 0, 0, 1), (23, 33, 16, 7), (26, 0, 0, 1), (27, 24, 17, 4), (30, 0, 0, 0), (31, 7, 3, 0), (32, 0, 0, 0), (33, 8, 4, 0), (35, 4, 4, 0), (37, 3, 2, 0), (38, 34, 36, 29), (41, 3, 3, 0), (42, 25, 32, 17), (45, 5, 0, 0), (46, 4, 4, 0), (48, 105, 69, 0), (51, 3, 1, 0), (52, 34, 32, 7), (55, 0, 0, 1), (56, 24, 33, 4), (59, 0, 0, 0), (60, 7, 3, 0), (61, 20, 4, 1), (64, 24, 20, (-29)), (67, 5, 0, 0), (68, 105, 70, 0), (71, 8, 4, 0), (73, 3, 3, 0), (74, 25, 49, 19), (77, 3, 2, 0), (78, 0, 0, 1), (79, 31, 47, 10), (82, 5, 0, 0), (83, 105, 73, 0), (86, 25, 49, 7), (89, 0, 0, 1), (90, 24, 50, 4), (93, 0, 0, 0), (94, 7, 3, 0), (95, 4, 4, 0), (97, 30, 59, 14), (100, 5, 0, 0), (101, 4, 4, 0), (103, 0, 0, 1), (104, 12, 0, 0), (105, 105, 68, 0), (108, 24, 60, 4), (111, 0, 0, 0), (112, 8, 5, 0), (114, 3, 3, 0), (115, 25, 70, 19), (118, 4, 4, 0), (120, 25, 68, 10), (123, 5, 0, 0), (124, 105, 73, 0), (127, 25, 70, 7), (130, 0, 0, 1), (131, 24, 71, 4), (134, 0, 0, 0), (135, 101, 0, 0)]
def mm_c_L_law : List mm_E := [(0, 50, 11, 4), (3, 21, 0, 0), (4, 108, 90, 0), (7, 9, 1, 0), (8, 5, 1, 0), (9, 105, 78, 0), (12, 26, 24, 38), (15, 5, 1, 0), (16, 105, 86, 0), (19, 26, 24, 31), (22, 5, 1, 0), (23, 0, 0, 3), (24, 105, 89, 0), (27, 0, 0, 1), (28, 32, 24, 22), (31, 5, 1, 0), (32, 105, 91, 0), (35, 0, 0, 1), (36, 32, 24, 14), (39, 5, 1, 0), (40, 106, 92, 0), (43, 25, 24, 7), (46, 0, 0, 1), (47, 24, 25, 4), (50, 0, 0, 0), (51, 7, 2, 0), (52, 5, 0, 0), (53, 49, 0, 0), (54, 0, 0, 3), (55, 14, 0, 0), (56, 1, 0, 40), (58, 36, 34, 8), (61, 1, 0, 40), (63, 24, 38, 7), (66, 5, 0, 0), (67, 49, 0, 0), (68, 0, 0, 3), (69, 14, 0, 0), (70, 7, 3, 0), (71, 0, 0, 0), (72, 8, 4, 0), (74, 4, 4, 0), (76, 3, 3, 0), (77, 34, 124, 140), (80, 3, 2, 0), (81, 25, 124, 136), (84, 5, 0, 0), (85, 0, 0, 3), (86, 4, 4, 0), (88, 13, 0, 0), (89, 0, 0, 2), (90, 11, 0, 0), (91, 106, 93, 0), (94, 8, 5, 0), (96, 5, 1, 0), (97, 5, 0, 0), (98, 0, 0, 3), (99, 4, 4, 0), (101, 13, 0, 0), (102, 106, 93, 0), (105, 5, 0, 0), (106, 0, 0, 3), (107, 4, 4, 0), (109, 13, 0, 0), (110, 0, 0, 1), (111, 11, 0, 0), (112, 106, 93, 0), (115, 4, 5, 0), (117, 106, 94, 0), (120, 25, 75, 14), (123, 5, 1, 0), (124, 106, 92, 0), (127, 25, 75, 7), (130, 0, 0, 1), (131, 24, 76, 4), (134, 0, 0, 0), (135, 7, 2, 0), (136, 3, 2, 0), (137, 25, 122, 74), (140, 4, 4, 0), (142, 1, 0, 8), (144, 15, 0, 0), (145, 1, 0, 7), (147, 32, 122, 64), (150, 5, 1, 0), (151, 106, 95, 0), (154, 25, 120, 55), (157, 5, 1, 0), (158, 0, 0, 1), (159, 4, 5, 0), (161, 0, 0, 1), (162, 5, 1, 0), (163, 105, 61, 0), (166, 16, 0, 0), (167, 0, 0, 1), (168, 12, 0, 0), (169, 15, 0, 0), (170, 11, 0, 0), (171, 0, 0, 0), (172, 106, 96, 0), (175, 25, 120, 34), (178, 5, 1, 0), (179, 0, 0, 0), (180, 0, 0, 1), (181, 4, 5, 0), (183, 0, 0, 4), (184, 15, 0, 0), (185, 11, 0, 0), (186, 106, 96, 0), (189, 25, 120, 20), (192, 5, 1, 0), (193, 0, 0, 1), (194, 4, 5, 0), (196, 0, 0, 4), (197, 15, 0, 0), (198, 11, 0, 0), (199, 106, 97, 0), (202, 25, 120, 7), (205, 0, 0, 1), (206, 24, 121, 4), (209, 0, 0, 0), (210, 7, 2, 0), (211, 20, 4, 1), (214, 24, 41, (-140)), (217, 3, 2, 0), (218, 101, 0, 0)]
def mm_codeT : List (List mm_E) := [mm_c_X0_init, mm_c_X0_forget, mm_c_X0_stateCount, mm_c_X0_stateAt, mm_c_X0_partCount, mm_c_X0_longestOf, mm_c_X0_shortestOf, mm_c_X0_step, mm_c_X0_grow, mm_c_X0_extend, mm_c_X0_stateBehind, mm_c_X0_addState, mm_c_X0_sortIn, mm_c_X0_linkOf, mm_c_X0_putLink, mm_c_X0_putStep, mm_c_X1_init, mm_c_X1_countOf, mm_c_X1_firstOf, mm_c_X1_lastOf, mm_c_X1_countInAll, mm_c_X1_standInEach, mm_c_X1_note, mm_c_X1_takeOver, mm_c_X1_placeOf, mm_c_X2_init, mm_c_X2_countWords, mm_c_X2_measureReach, mm_c_X2_measureGaps, mm_c_X2_partsAheadOf, mm_c_X2_spellPart, mm_c_X2_spellWay, mm_c_X2_suits, mm_c_X2_aheadOf, mm_c_X2_putAhead, mm_c_X3_init, mm_c_X3_size, mm_c_X3_letter, mm_c_X3_add, mm_c_X3_shorten, mm_c_X3_empty, mm_c_X4_init, mm_c_L_draw, mm_c_X4_open, mm_c_X4_append, mm_c_X4_texts, mm_c_X4_length, mm_c_X4_letterAt, mm_c_X4_type, mm_c_X4_erase, mm_c_X4_wipe, mm_c_X4_copy, mm_c_X4_patternLength, mm_c_X4_patternAt, mm_c_X4_isPart, mm_c_X4_occurrences, mm_c_X4_occurrencesIn, mm_c_X4_first, mm_c_X4_last, mm_c_X4_followers, mm_c_X4_leaders, mm_c_X4_classes, mm_c_X4_longestAlike, mm_c_X4_shortestAlike, mm_c_X4_parts, mm_c_X4_rank, mm_c_X4_toPart, mm_c_X4_common, mm_c_X4_repeated, mm_c_X4_missing, mm_c_X4_within, mm_c_X4_demandText, mm_c_X4_demandLetter, mm_c_X4_walkPattern, mm_c_X4_partState, mm_c_X4_beginOfPattern, mm_c_L_letters, mm_c_L_step, mm_c_L_copies, mm_c_L_stands, mm_c_L_arePlaces, mm_c_L_areParts, mm_c_L_isFound, mm_c_L_isMissing, mm_c_L_law]
def mm_code (y i : Nat) : Option mm_E := match mm_codeT[y]? with
  | some l => l[i]?
  | none => none
abbrev mm_M : Type := Nat × (MethodName × (ByteArray × (Nat × (Option FieldType × (List (Nat × Nat × Nat × Nat) × (Nat × Nat))))))
def mm_MT : List mm_M := [(0, yX0_init, cX0_init, 1, none, [], 4, 92),
  (0, yX0_forget, cX0_forget, 2, none, [], 3, 71),
  (0, yX0_stateCount, cX0_stateCount, 1, (some .int), [], 0, 0),
  (0, yX0_stateAt, cX0_stateAt, 2, (some .int), [], 1, 21),
  (0, yX0_partCount, cX0_partCount, 3, (some .int), [], 3, 63),
  (0, yX0_longestOf, cX0_longestOf, 2, (some .int), [], 0, 0),
  (0, yX0_shortestOf, cX0_shortestOf, 2, (some .int), [], 2, 42),
  (0, yX0_step, cX0_step, 4, (some .int), [], 0, 0),
  (0, yX0_grow, cX0_grow, 7, none, [], 5, 123),
  (0, yX0_extend, cX0_extend, 6, (some .int), [], 4, 98),
  (0, yX0_stateBehind, cX0_stateBehind, 8, (some .int), [], 3, 71),
  (0, yX0_addState, cX0_addState, 5, (some .int), [], 2, 47),
  (0, yX0_sortIn, cX0_sortIn, 3, none, [], 1, 21),
  (0, yX0_linkOf, cX0_linkOf, 2, (some .int), [], 1, 21),
  (0, yX0_putLink, cX0_putLink, 3, none, [], 1, 21),
  (0, yX0_putStep, cX0_putStep, 5, none, [], 0, 0),
  (1, yX1_init, cX1_init, 1, none, [], 1, 21),
  (1, yX1_countOf, cX1_countOf, 4, (some .int), [], 1, 22),
  (1, yX1_firstOf, cX1_firstOf, 4, (some .int), [], 1, 22),
  (1, yX1_lastOf, cX1_lastOf, 4, (some .int), [], 1, 22),
  (1, yX1_countInAll, cX1_countInAll, 4, (some .int), [], 2, 45),
  (1, yX1_standInEach, cX1_standInEach, 5, (some .boolean), [], 2, 45),
  (1, yX1_note, cX1_note, 5, none, [], 1, 22),
  (1, yX1_takeOver, cX1_takeOver, 6, none, [], 1, 22),
  (1, yX1_placeOf, cX1_placeOf, 3, (some .int), [], 0, 0),
  (2, yX2_init, cX2_init, 1, none, [], 5, 112),
  (2, yX2_countWords, cX2_countWords, 5, none, [], 2, 43),
  (2, yX2_measureReach, cX2_measureReach, 7, none, [], 4, 92),
  (2, yX2_measureGaps, cX2_measureGaps, 6, none, [], 2, 43),
  (2, yX2_partsAheadOf, cX2_partsAheadOf, 8, (some .int), [], 2, 42),
  (2, yX2_spellPart, cX2_spellPart, 8, none, [], 2, 42),
  (2, yX2_spellWay, cX2_spellWay, 5, none, [], 2, 42),
  (2, yX2_suits, cX2_suits, 4, (some .boolean), [], 3, 69),
  (2, yX2_aheadOf, cX2_aheadOf, 2, (some .int), [], 1, 21),
  (2, yX2_putAhead, cX2_putAhead, 3, none, [], 1, 21),
  (3, yX3_init, cX3_init, 2, none, [], 1, 21),
  (3, yX3_size, cX3_size, 1, (some .int), [], 0, 0),
  (3, yX3_letter, cX3_letter, 2, (some .int), [], 1, 21),
  (3, yX3_add, cX3_add, 2, none, [], 1, 21),
  (3, yX3_shorten, cX3_shorten, 1, none, [], 0, 0),
  (3, yX3_empty, cX3_empty, 1, none, [], 0, 0),
  (4, yX4_init, cX4_init, 2, none, [], 6, 132),
  (6, yL_draw, cL_draw, 2, (some .int), [], 0, 0),
  (4, yX4_open, cX4_open, 1, (some .int), [], 6, 82),
  (4, yX4_append, cX4_append, 4, (some .int), [], 7, 149),
  (4, yX4_texts, cX4_texts, 1, (some .int), [], 0, 0),
  (4, yX4_length, cX4_length, 2, (some .int), [], 7, 104),
  (4, yX4_letterAt, cX4_letterAt, 4, (some .int), [], 7, 104),
  (4, yX4_type, cX4_type, 2, (some .int), [], 7, 102),
  (4, yX4_erase, cX4_erase, 2, (some .int), [], 6, 82),
  (4, yX4_wipe, cX4_wipe, 2, (some .int), [], 1, 20),
  (4, yX4_copy, cX4_copy, 6, none, [], 7, 104),
  (4, yX4_patternLength, cX4_patternLength, 1, (some .int), [], 1, 20),
  (4, yX4_patternAt, cX4_patternAt, 2, (some .int), [], 6, 82),
  (4, yX4_isPart, cX4_isPart, 1, (some .boolean), [], 4, 85),
  (4, yX4_occurrences, cX4_occurrences, 1, (some .int), [], 4, 85),
  (4, yX4_occurrencesIn, cX4_occurrencesIn, 2, (some .int), [], 7, 104),
  (4, yX4_first, cX4_first, 2, (some .int), [], 7, 104),
  (4, yX4_last, cX4_last, 2, (some .int), [], 7, 104),
  (4, yX4_followers, cX4_followers, 4, (some .int), [], 3, 65),
  (4, yX4_leaders, cX4_leaders, 3, (some .int), [], 3, 65),
  (4, yX4_classes, cX4_classes, 1, (some .int), [], 1, 20),
  (4, yX4_longestAlike, cX4_longestAlike, 2, (some .int), [], 4, 85),
  (4, yX4_shortestAlike, cX4_shortestAlike, 2, (some .int), [], 4, 85),
  (4, yX4_parts, cX4_parts, 1, (some .int), [], 4, 85),
  (4, yX4_rank, cX4_rank, 1, (some .int), [], 3, 69),
  (4, yX4_toPart, cX4_toPart, 2, (some .int), [], 6, 85),
  (4, yX4_common, cX4_common, 2, (some .int), [], 6, 118),
  (4, yX4_repeated, cX4_repeated, 2, (some .int), [], 6, 118),
  (4, yX4_missing, cX4_missing, 2, (some .int), [], 6, 82),
  (4, yX4_within, cX4_within, 2, (some .boolean), [], 0, 0),
  (4, yX4_demandText, cX4_demandText, 3, (some (.object "SuffixWright$Word")), [], 6, 82),
  (4, yX4_demandLetter, cX4_demandLetter, 1, none, [], 6, 82),
  (4, yX4_walkPattern, cX4_walkPattern, 4, (some .int), [], 2, 42),
  (4, yX4_partState, cX4_partState, 1, (some .int), [], 3, 65),
  (4, yX4_beginOfPattern, cX4_beginOfPattern, 2, (some .int), [], 1, 20),
  (6, yL_letters, cL_letters, 3, (some .int), [], 8, 125),
  (6, yL_step, cL_step, 8, (some .boolean), [], 9, 172),
  (6, yL_copies, cL_copies, 7, (some .boolean), [], 8, 129),
  (6, yL_stands, cL_stands, 5, (some .boolean), [], 8, 127),
  (6, yL_arePlaces, cL_arePlaces, 10, (some .boolean), [], 9, 151),
  (6, yL_areParts, cL_areParts, 7, (some .boolean), [], 9, 147),
  (6, yL_isFound, cL_isFound, 10, (some .boolean), [], 8, 139),
  (6, yL_isMissing, cL_isMissing, 6, (some .boolean), [], 8, 123),
  (6, yL_law, cL_law, 6, (some .boolean), [], 10, 199)]
def mm_m (y : Nat) : mm_M := mm_MT.getD y (0, yX0_init, cX0_init, 1, none, [], 0, 0)
abbrev mm_own (y : Nat) := (mm_m y).1
abbrev mm_yn (y : Nat) := (mm_m y).2.1
abbrev mm_by (y : Nat) := (mm_m y).2.2.1
abbrev mm_mL (y : Nat) := (mm_m y).2.2.2.1
abbrev mm_rt (y : Nat) := (mm_m y).2.2.2.2.1
abbrev mm_hh (y : Nat) := (mm_m y).2.2.2.2.2.1
abbrev mm_nF (y : Nat) := (mm_m y).2.2.2.2.2.2.1
abbrev mm_nL (y : Nat) := (mm_m y).2.2.2.2.2.2.2
/-- the fields that rows name: (class, field), the naming class, its pool number -/
def mm_fldT : List ((Nat × Nat) × (Nat × Nat)) := [((0, 0), 0, 12), ((0, 1), 0, 18), ((0, 2), 0, 22), ((0, 3), 0, 25), ((0, 4), 0, 28), ((0, 5), 0, 31), ((0, 6), 0, 37), ((1, 0), 1, 9), ((1, 1), 1, 15), ((1, 2), 1, 18), ((2, 0), 2, 12), ((2, 1), 2, 18), ((2, 2), 2, 22), ((0, 0), 2, 72), ((3, 0), 3, 15), ((3, 1), 3, 21), ((4, 0), 4, 11), ((4, 1), 4, 18), ((4, 2), 4, 25), ((2, 0), 4, 29), ((4, 3), 4, 33), ((4, 4), 4, 34), ((4, 5), 4, 38), ((0, 0), 4, 106)]
def mm_fd (a : Nat) : (Nat × Nat) × (Nat × Nat) := mm_fldT.getD a ((0, 0), 0, 0)
abbrev mm_fld (a : Nat) : Nat × Nat := (mm_fd a).1
/-- the calls: (callee, arguments, its locals, the receiver's kind), the calling class, its pool number, how -/
def mm_siteT : List (mm_S × (Nat × (Nat × Nat))) := [((16, 1, 1, 11), 0, 11, 108), ((1, 1, 2, 10), 0, 34, 105), ((11, 3, 5, 10), 0, 41, 105), ((70, 2, 2, 0), 0, 45, 107), ((5, 2, 2, 10), 0, 49, 105), ((6, 2, 2, 10), 0, 53, 105), ((13, 2, 2, 10), 0, 56, 105), ((9, 3, 6, 10), 0, 59, 105), ((22, 4, 5, 11), 0, 62, 105), ((7, 3, 4, 10), 0, 66, 105), ((10, 3, 8, 10), 0, 69, 105), ((15, 4, 5, 10), 0, 72, 105), ((14, 3, 3, 10), 0, 75, 105), ((23, 3, 6, 11), 0, 79, 105), ((12, 2, 3, 10), 0, 82, 105), ((24, 2, 3, 0), 1, 21, 106), ((17, 3, 4, 11), 1, 25, 105), ((0, 1, 1, 10), 2, 11, 108), ((2, 1, 1, 10), 2, 26, 105), ((3, 2, 2, 10), 2, 30, 105), ((7, 3, 4, 10), 2, 34, 105), ((33, 2, 2, 12), 2, 38, 105), ((34, 3, 3, 12), 2, 41, 105), ((32, 4, 4, 12), 2, 50, 105), ((36, 1, 1, 13), 2, 57, 105), ((37, 2, 2, 13), 2, 62, 105), ((40, 1, 1, 13), 2, 65, 105), ((38, 2, 2, 13), 2, 68, 105), ((21, 3, 5, 11), 2, 76, 105), ((20, 2, 4, 11), 2, 82, 105), ((70, 2, 2, 0), 2, 85, 107), ((70, 2, 2, 0), 3, 25, 107), ((35, 2, 2, 13), 4, 15, 108), ((25, 1, 1, 12), 4, 24, 108), ((71, 2, 3, 14), 4, 56, 105), ((72, 1, 1, 0), 4, 60, 106), ((36, 1, 1, 13), 4, 65, 105), ((8, 4, 7, 10), 4, 69, 105), ((38, 2, 2, 13), 4, 73, 105), ((70, 2, 2, 0), 4, 76, 106), ((37, 2, 2, 13), 4, 85, 105), ((39, 1, 1, 13), 4, 93, 105), ((40, 1, 1, 13), 4, 41, 105), ((74, 1, 1, 14), 4, 103, 105), ((20, 2, 4, 11), 4, 110, 105), ((17, 3, 4, 11), 4, 115, 105), ((18, 3, 4, 11), 4, 119, 105), ((75, 2, 2, 14), 4, 122, 105), ((19, 3, 4, 11), 4, 125, 105), ((73, 2, 4, 14), 4, 128, 105), ((7, 3, 4, 10), 4, 131, 105), ((2, 1, 1, 10), 4, 134, 105), ((5, 2, 2, 10), 4, 137, 105), ((6, 2, 2, 10), 4, 140, 105), ((4, 1, 3, 10), 4, 143, 105), ((26, 1, 5, 12), 4, 146, 105), ((29, 2, 8, 12), 4, 149, 105), ((30, 3, 8, 12), 4, 155, 105), ((27, 3, 7, 12), 4, 161, 105), ((31, 2, 5, 12), 4, 165, 105), ((28, 2, 6, 12), 4, 173, 105), ((45, 1, 1, 14), 6, 10, 105), ((46, 2, 2, 14), 6, 16, 105), ((43, 1, 1, 14), 6, 20, 105), ((76, 1, 3, 0), 6, 23, 106), ((44, 3, 4, 14), 6, 29, 105), ((47, 3, 4, 14), 6, 33, 105), ((52, 1, 1, 14), 6, 36, 105), ((48, 2, 2, 14), 6, 39, 105), ((53, 2, 2, 14), 6, 42, 105), ((49, 1, 2, 14), 6, 45, 105), ((78, 4, 7, 0), 6, 48, 106), ((51, 4, 6, 14), 6, 52, 105), ((54, 1, 1, 14), 6, 56, 105), ((65, 1, 1, 14), 6, 60, 105), ((57, 2, 2, 14), 6, 63, 105), ((58, 2, 2, 14), 6, 66, 105), ((56, 2, 2, 14), 6, 69, 105), ((64, 1, 1, 14), 6, 72, 105), ((79, 3, 5, 0), 6, 75, 106), ((55, 1, 1, 14), 6, 79, 105), ((59, 1, 4, 14), 6, 82, 105), ((60, 1, 3, 14), 6, 85, 105), ((62, 1, 2, 14), 6, 88, 105), ((63, 1, 2, 14), 6, 91, 105), ((66, 2, 2, 14), 6, 94, 105), ((61, 1, 1, 14), 6, 97, 105), ((68, 2, 2, 14), 6, 100, 105), ((67, 2, 2, 14), 6, 103, 105), ((69, 2, 2, 14), 6, 106, 105), ((41, 1, 2, 14), 6, 109, 108), ((50, 1, 2, 14), 6, 110, 105), ((80, 1, 10, 0), 6, 113, 106), ((42, 2, 2, 0), 6, 117, 106), ((77, 4, 8, 0), 6, 121, 106), ((81, 1, 7, 0), 6, 124, 106), ((82, 3, 10, 0), 6, 127, 106), ((83, 2, 6, 0), 6, 130, 106)]
def mm_sd (a : Nat) : mm_S × (Nat × (Nat × Nat)) := mm_siteT.getD a ((0, 0, 0, 0), 0, 0, 0)
abbrev mm_site (a : Nat) : mm_S := (mm_sd a).1
/-- the throws: pool numbers of class, text, constructor; the exception; the text -/
def mm_thrT : List (Nat × (Nat × (Nat × (Nat × String)))) := [(49, 51, 53, 2, "there are as many texts as there may be"), (49, 63, 53, 2, "the texts have as many letters as they may have"), (80, 82, 84, 0, "the text has no such letter"), (49, 89, 53, 2, "the pattern has as many letters as it may have"), (49, 91, 53, 2, "the pattern is empty"), (96, 98, 100, 1, "the text has no such letters"), (80, 101, 84, 0, "the pattern has no such letter"), (80, 153, 84, 0, "there is no such part"), (96, 159, 100, 1, "the set has no text, or one that is not there"), (96, 169, 100, 1, "occurrences are 1 or more"), (96, 171, 100, 1, "a word may have 1 to 26 letters"), (80, 176, 84, 0, "there is no such text"), (96, 178, 100, 1, "a letter is 0 to 25")]
def mm_th (a : Nat) : Nat × (Nat × (Nat × (Nat × String))) := mm_thrT.getD a (0, 0, 0, 0, "")
def mm_handT : List ((Nat × Nat) × Int) := []
def mm_hand (y E : Nat) : Option Int := mm_handT.lookup (y, E)
def mm_noH (y : Nat) : Bool := (mm_hh y).isEmpty
def mm_sw (_ : Int) : Nat := 0
abbrev mm_go (n y i : Nat) (ls : mm_F) (st : List mm_V) (h : mm_H) : Option (mm_O × mm_H) := mm_run mm_code mm_fld mm_site mm_hand mm_noH mm_sw n y i ls st h
abbrev mi_X0_init : Nat := 0
abbrev mi_X0_forget : Nat := 1
abbrev mi_X0_stateCount : Nat := 2
abbrev mi_X0_stateAt : Nat := 3
abbrev mi_X0_partCount : Nat := 4
abbrev mi_X0_longestOf : Nat := 5
abbrev mi_X0_shortestOf : Nat := 6
abbrev mi_X0_step : Nat := 7
abbrev mi_X0_grow : Nat := 8
abbrev mi_X0_extend : Nat := 9
abbrev mi_X0_stateBehind : Nat := 10
abbrev mi_X0_addState : Nat := 11
abbrev mi_X0_sortIn : Nat := 12
abbrev mi_X0_linkOf : Nat := 13
abbrev mi_X0_putLink : Nat := 14
abbrev mi_X0_putStep : Nat := 15
abbrev mi_X1_init : Nat := 16
abbrev mi_X1_countOf : Nat := 17
abbrev mi_X1_firstOf : Nat := 18
abbrev mi_X1_lastOf : Nat := 19
abbrev mi_X1_countInAll : Nat := 20
abbrev mi_X1_standInEach : Nat := 21
abbrev mi_X1_note : Nat := 22
abbrev mi_X1_takeOver : Nat := 23
abbrev mi_X1_placeOf : Nat := 24
abbrev mi_X2_init : Nat := 25
abbrev mi_X2_countWords : Nat := 26
abbrev mi_X2_measureReach : Nat := 27
abbrev mi_X2_measureGaps : Nat := 28
abbrev mi_X2_partsAheadOf : Nat := 29
abbrev mi_X2_spellPart : Nat := 30
abbrev mi_X2_spellWay : Nat := 31
abbrev mi_X2_suits : Nat := 32
abbrev mi_X2_aheadOf : Nat := 33
abbrev mi_X2_putAhead : Nat := 34
abbrev mi_X3_init : Nat := 35
abbrev mi_X3_size : Nat := 36
abbrev mi_X3_letter : Nat := 37
abbrev mi_X3_add : Nat := 38
abbrev mi_X3_shorten : Nat := 39
abbrev mi_X3_empty : Nat := 40
abbrev mi_X4_init : Nat := 41
abbrev mi_L_draw : Nat := 42
abbrev mi_X4_open : Nat := 43
abbrev mi_X4_append : Nat := 44
abbrev mi_X4_texts : Nat := 45
abbrev mi_X4_length : Nat := 46
abbrev mi_X4_letterAt : Nat := 47
abbrev mi_X4_type : Nat := 48
abbrev mi_X4_erase : Nat := 49
abbrev mi_X4_wipe : Nat := 50
abbrev mi_X4_copy : Nat := 51
abbrev mi_X4_patternLength : Nat := 52
abbrev mi_X4_patternAt : Nat := 53
abbrev mi_X4_isPart : Nat := 54
abbrev mi_X4_occurrences : Nat := 55
abbrev mi_X4_occurrencesIn : Nat := 56
abbrev mi_X4_first : Nat := 57
abbrev mi_X4_last : Nat := 58
abbrev mi_X4_followers : Nat := 59
abbrev mi_X4_leaders : Nat := 60
abbrev mi_X4_classes : Nat := 61
abbrev mi_X4_longestAlike : Nat := 62
abbrev mi_X4_shortestAlike : Nat := 63
abbrev mi_X4_parts : Nat := 64
abbrev mi_X4_rank : Nat := 65
abbrev mi_X4_toPart : Nat := 66
abbrev mi_X4_common : Nat := 67
abbrev mi_X4_repeated : Nat := 68
abbrev mi_X4_missing : Nat := 69
abbrev mi_X4_within : Nat := 70
abbrev mi_X4_demandText : Nat := 71
abbrev mi_X4_demandLetter : Nat := 72
abbrev mi_X4_walkPattern : Nat := 73
abbrev mi_X4_partState : Nat := 74
abbrev mi_X4_beginOfPattern : Nat := 75
abbrev mi_L_letters : Nat := 76
abbrev mi_L_step : Nat := 77
abbrev mi_L_copies : Nat := 78
abbrev mi_L_stands : Nat := 79
abbrev mi_L_arePlaces : Nat := 80
abbrev mi_L_areParts : Nat := 81
abbrev mi_L_isFound : Nat := 82
abbrev mi_L_isMissing : Nat := 83
abbrev mi_L_law : Nat := 84
end
section
/-! every row of MM is the instruction that stands there -/
def mm_ins (op a : Nat) (b : Int) : Instr × Nat := match op with
  | 0 => (.iconst b, 1)
  | 1 => (.bipush b, 2)
  | 2 => (.sipush b, 3)
  | 3 => (.iload_n (Fin.ofNat 4 a), 1)
  | 4 => (.iload a, 2)
  | 5 => (.aload_n (Fin.ofNat 4 a), 1)
  | 6 => (.aload a, 2)
  | 7 => (.istore_n (Fin.ofNat 4 a), 1)
  | 8 => (.istore a, 2)
  | 9 => (.astore_n (Fin.ofNat 4 a), 1)
  | 10 => (.astore a, 2)
  | 11 => (.iadd, 1)
  | 12 => (.isub, 1)
  | 13 => (.imul, 1)
  | 14 => (.idiv, 1)
  | 15 => (.irem, 1)
  | 16 => (.ishl, 1)
  | 17 => (.ishr, 1)
  | 18 => (.iand, 1)
  | 19 => (.ior, 1)
  | 20 => (.iinc a b, 3)
  | 21 => (.dup, 1)
  | 22 => (.dup2, 1)
  | 23 => (.pop, 1)
  | 24 => (.goto b, 3)
  | 25 => (.ifCond .eq b, 3)
  | 26 => (.ifCond .ne b, 3)
  | 27 => (.ifCond .lt b, 3)
  | 28 => (.ifCond .ge b, 3)
  | 29 => (.ifCond .gt b, 3)
  | 30 => (.ifCond .le b, 3)
  | 31 => (.if_icmp .eq b, 3)
  | 32 => (.if_icmp .ne b, 3)
  | 33 => (.if_icmp .lt b, 3)
  | 34 => (.if_icmp .ge b, 3)
  | 35 => (.if_icmp .gt b, 3)
  | 36 => (.if_icmp .le b, 3)
  | 37 => (.ifnull b, 3)
  | 38 => (.ifnonnull b, 3)
  | 39 => (.aconst_null, 1)
  | 40 => (.getfield (mm_fd a).2.2, 3)
  | 41 => (.putfield (mm_fd a).2.2, 3)
  | 42 => (.putfield (mm_fd a).2.2, 3)
  | 43 => (.iaload, 1)
  | 44 => (.iastore, 1)
  | 47 => (.aaload, 1)
  | 48 => (.aastore, 1)
  | 49 => (.arraylength, 1)
  | 50 => (.new a, 3)
  | 51 => (.newarray .int, 2)
  | 53 => (.anewarray a, 3)
  | 55 => (.ldc a, 2)
  | 57 => (.invokespecial a, 3)
  | 58 => (.invokestatic a, 3)
  | 59 => (.invokestatic a, 3)
  | 100 => (.ireturn, 1)
  | 101 => (.ireturn, 1)
  | 102 => (.areturn, 1)
  | 103 => (.return_, 1)
  | 104 => (.new (mm_th a).1, 3)
  | 105 => (.invokevirtual (mm_sd a).2.2.1, 3)
  | 106 => (.invokestatic (mm_sd a).2.2.1, 3)
  | 107 => (.invokestatic (mm_sd a).2.2.1, 3)
  | 108 => (.invokespecial (mm_sd a).2.2.1, 3)
  | _ => (.nop, 1)
def mm_nx (y i : Nat) : Nat := match mm_code y i with
  | some q => q.1
  | none => 0
def mm_okB (y i : Nat) (q : mm_E) : Bool :=
  if q.2.1 = 111 then true else
  decide (decode (mm_by y) q.1 = .ok (mm_ins q.2.1 q.2.2.1 q.2.2.2)) &&
  (if q.2.1 = 24 ∨ q.2.1 = 56 ∨ (100 ≤ q.2.1 ∧ q.2.1 ≤ 104) then true else decide (mm_nx y (i + 1) = q.1 + (mm_ins q.2.1 q.2.2.1 q.2.2.2).2)) &&
  (if 24 ≤ q.2.1 ∧ q.2.1 ≤ 38 then decide ((q.1 : Int) + q.2.2.2 = (mm_nx y q.2.2.1 : Int)) else true) &&
  (if q.2.1 = 3 ∨ q.2.1 = 5 ∨ q.2.1 = 7 ∨ q.2.1 = 9 then decide (q.2.2.1 < 4) else true) &&
  (if 40 ≤ q.2.1 ∧ q.2.1 ≤ 42 then decide ((mm_fd q.2.2.1).2.1 = mm_own y ∧ q.2.2.1 < mm_fldT.length) else true) &&
  (if 105 ≤ q.2.1 ∧ q.2.1 ≤ 108 then decide ((mm_sd q.2.2.1).2.1 = mm_own y ∧ (mm_sd q.2.2.1).2.2.2 = q.2.1 ∧ q.2.2.1 < mm_siteT.length ∧ mm_nF (mm_sd q.2.2.1).1.1 + 1 ≤ mm_nF y ∧ 8 + (mm_mL (mm_sd q.2.2.1).1.1 + 11) + mm_nL (mm_sd q.2.2.1).1.1 ≤ mm_nL y) else true) &&
  (if 57 ≤ q.2.1 ∧ q.2.1 ≤ 59 then decide (1 ≤ mm_nF y ∧ 21 ≤ mm_nL y) else true) &&
  (if q.2.1 = 104 then decide (6 ≤ mm_nF y ∧ 82 ≤ mm_nL y ∧ q.2.2.1 < mm_thrT.length ∧ mm_own y = 4 ∧ (mm_th q.2.2.1).2.2.2.1 = q.2.2.2.toNat ∧ mm_hh y = [] ∧ decode (mm_by y) (q.1 + 3) = .ok (.dup, 1) ∧ decode (mm_by y) (q.1 + 4) = .ok (.ldc (mm_th q.2.2.1).2.1, 2) ∧ decode (mm_by y) (q.1 + 6) = .ok (.invokespecial (mm_th q.2.2.1).2.2.1, 3) ∧ decode (mm_by y) (q.1 + 9) = .ok (.athrow, 1)) else true) &&
  (if q.2.1 = 100 then decide (mm_rt y = some .int) else true) && (if q.2.1 = 101 then decide (mm_rt y = some .boolean) else true) && (if q.2.1 = 102 then decide (mm_rt y = some (.object RX3)) else true) && (if q.2.1 = 103 then decide (mm_rt y = none) else true)

set_option maxRecDepth 20000 in
theorem mm_ck_0 : ((mm_codeT.getD 0 []).zipIdx.all fun p => mm_okB 0 p.2 p.1) = true := by decide +kernel
set_option maxRecDepth 20000 in
theorem mm_ck_1 : ((mm_codeT.getD 1 []).zipIdx.all fun p => mm_okB 1 p.2 p.1) = true := by decide +kernel
set_option maxRecDepth 20000 in
theorem mm_ck_2 : ((mm_codeT.getD 2 []).zipIdx.all fun p => mm_okB 2 p.2 p.1) = true := by decide +kernel
set_option maxRecDepth 20000 in
theorem mm_ck_3 : ((mm_codeT.getD 3 []).zipIdx.all fun p => mm_okB 3 p.2 p.1) = true := by decide +kernel
set_option maxRecDepth 20000 in
theorem mm_ck_4 : ((mm_codeT.getD 4 []).zipIdx.all fun p => mm_okB 4 p.2 p.1) = true := by decide +kernel
set_option maxRecDepth 20000 in
theorem mm_ck_5 : ((mm_codeT.getD 5 []).zipIdx.all fun p => mm_okB 5 p.2 p.1) = true := by decide +kernel
set_option maxRecDepth 20000 in
theorem mm_ck_6 : ((mm_codeT.getD 6 []).zipIdx.all fun p => mm_okB 6 p.2 p.1) = true := by decide +kernel
set_option maxRecDepth 20000 in
theorem mm_ck_7 : ((mm_codeT.getD 7 []).zipIdx.all fun p => mm_okB 7 p.2 p.1) = true := by decide +kernel
set_option maxRecDepth 20000 in
theorem mm_ck_8 : ((mm_codeT.getD 8 []).zipIdx.all fun p => mm_okB 8 p.2 p.1) = true := by decide +kernel
set_option maxRecDepth 20000 in
theorem mm_ck_9 : ((mm_codeT.getD 9 []).zipIdx.all fun p => mm_okB 9 p.2 p.1) = true := by decide +kernel
set_option maxRecDepth 20000 in
theorem mm_ck_10 : ((mm_codeT.getD 10 []).zipIdx.all fun p => mm_okB 10 p.2 p.1) = true := by decide +kernel
set_option maxRecDepth 20000 in
theorem mm_ck_11 : ((mm_codeT.getD 11 []).zipIdx.all fun p => mm_okB 11 p.2 p.1) = true := by decide +kernel
set_option maxRecDepth 20000 in
theorem mm_ck_12 : ((mm_codeT.getD 12 []).zipIdx.all fun p => mm_okB 12 p.2 p.1) = true := by decide +kernel
set_option maxRecDepth 20000 in
theorem mm_ck_13 : ((mm_codeT.getD 13 []).zipIdx.all fun p => mm_okB 13 p.2 p.1) = true := by decide +kernel
set_option maxRecDepth 20000 in
theorem mm_ck_14 : ((mm_codeT.getD 14 []).zipIdx.all fun p => mm_okB 14 p.2 p.1) = true := by decide +kernel
set_option maxRecDepth 20000 in
theorem mm_ck_15 : ((mm_codeT.getD 15 []).zipIdx.all fun p => mm_okB 15 p.2 p.1) = true := by decide +kernel
set_option maxRecDepth 20000 in
theorem mm_ck_16 : ((mm_codeT.getD 16 []).zipIdx.all fun p => mm_okB 16 p.2 p.1) = true := by decide +kernel
set_option maxRecDepth 20000 in
theorem mm_ck_17 : ((mm_codeT.getD 17 []).zipIdx.all fun p => mm_okB 17 p.2 p.1) = true := by decide +kernel
set_option maxRecDepth 20000 in
theorem mm_ck_18 : ((mm_codeT.getD 18 []).zipIdx.all fun p => mm_okB 18 p.2 p.1) = true := by decide +kernel
set_option maxRecDepth 20000 in
theorem mm_ck_19 : ((mm_codeT.getD 19 []).zipIdx.all fun p => mm_okB 19 p.2 p.1) = true := by decide +kernel
set_option maxRecDepth 20000 in
theorem mm_ck_20 : ((mm_codeT.getD 20 []).zipIdx.all fun p => mm_okB 20 p.2 p.1) = true := by decide +kernel
set_option maxRecDepth 20000 in
theorem mm_ck_21 : ((mm_codeT.getD 21 []).zipIdx.all fun p => mm_okB 21 p.2 p.1) = true := by decide +kernel
set_option maxRecDepth 20000 in
theorem mm_ck_22 : ((mm_codeT.getD 22 []).zipIdx.all fun p => mm_okB 22 p.2 p.1) = true := by decide +kernel
set_option maxRecDepth 20000 in
theorem mm_ck_23 : ((mm_codeT.getD 23 []).zipIdx.all fun p => mm_okB 23 p.2 p.1) = true := by decide +kernel
set_option maxRecDepth 20000 in
theorem mm_ck_24 : ((mm_codeT.getD 24 []).zipIdx.all fun p => mm_okB 24 p.2 p.1) = true := by decide +kernel
set_option maxRecDepth 20000 in
theorem mm_ck_25 : ((mm_codeT.getD 25 []).zipIdx.all fun p => mm_okB 25 p.2 p.1) = true := by decide +kernel
set_option maxRecDepth 20000 in
theorem mm_ck_26 : ((mm_codeT.getD 26 []).zipIdx.all fun p => mm_okB 26 p.2 p.1) = true := by decide +kernel
set_option maxRecDepth 20000 in
theorem mm_ck_27 : ((mm_codeT.getD 27 []).zipIdx.all fun p => mm_okB 27 p.2 p.1) = true := by decide +kernel
set_option maxRecDepth 20000 in
theorem mm_ck_28 : ((mm_codeT.getD 28 []).zipIdx.all fun p => mm_okB 28 p.2 p.1) = true := by decide +kernel
set_option maxRecDepth 20000 in
theorem mm_ck_29 : ((mm_codeT.getD 29 []).zipIdx.all fun p => mm_okB 29 p.2 p.1) = true := by decide +kernel
set_option maxRecDepth 20000 in
theorem mm_ck_30 : ((mm_codeT.getD 30 []).zipIdx.all fun p => mm_okB 30 p.2 p.1) = true := by decide +kernel
set_option maxRecDepth 20000 in
theorem mm_ck_31 : ((mm_codeT.getD 31 []).zipIdx.all fun p => mm_okB 31 p.2 p.1) = true := by decide +kernel
set_option maxRecDepth 20000 in
theorem mm_ck_32 : ((mm_codeT.getD 32 []).zipIdx.all fun p => mm_okB 32 p.2 p.1) = true := by decide +kernel
set_option maxRecDepth 20000 in
theorem mm_ck_33 : ((mm_codeT.getD 33 []).zipIdx.all fun p => mm_okB 33 p.2 p.1) = true := by decide +kernel
set_option maxRecDepth 20000 in
theorem mm_ck_34 : ((mm_codeT.getD 34 []).zipIdx.all fun p => mm_okB 34 p.2 p.1) = true := by decide +kernel
set_option maxRecDepth 20000 in
theorem mm_ck_35 : ((mm_codeT.getD 35 []).zipIdx.all fun p => mm_okB 35 p.2 p.1) = true := by decide +kernel
set_option maxRecDepth 20000 in
theorem mm_ck_36 : ((mm_codeT.getD 36 []).zipIdx.all fun p => mm_okB 36 p.2 p.1) = true := by decide +kernel
set_option maxRecDepth 20000 in
theorem mm_ck_37 : ((mm_codeT.getD 37 []).zipIdx.all fun p => mm_okB 37 p.2 p.1) = true := by decide +kernel
set_option maxRecDepth 20000 in
theorem mm_ck_38 : ((mm_codeT.getD 38 []).zipIdx.all fun p => mm_okB 38 p.2 p.1) = true := by decide +kernel
set_option maxRecDepth 20000 in
theorem mm_ck_39 : ((mm_codeT.getD 39 []).zipIdx.all fun p => mm_okB 39 p.2 p.1) = true := by decide +kernel
set_option maxRecDepth 20000 in
theorem mm_ck_40 : ((mm_codeT.getD 40 []).zipIdx.all fun p => mm_okB 40 p.2 p.1) = true := by decide +kernel
set_option maxRecDepth 20000 in
theorem mm_ck_41 : ((mm_codeT.getD 41 []).zipIdx.all fun p => mm_okB 41 p.2 p.1) = true := by decide +kernel
set_option maxRecDepth 20000 in
theorem mm_ck_42 : ((mm_codeT.getD 42 []).zipIdx.all fun p => mm_okB 42 p.2 p.1) = true := by decide +kernel
set_option maxRecDepth 20000 in
theorem mm_ck_43 : ((mm_codeT.getD 43 []).zipIdx.all fun p => mm_okB 43 p.2 p.1) = true := by decide +kernel
set_option maxRecDepth 20000 in
theorem mm_ck_44 : ((mm_codeT.getD 44 []).zipIdx.all fun p => mm_okB 44 p.2 p.1) = true := by decide +kernel
set_option maxRecDepth 20000 in
theorem mm_ck_45 : ((mm_codeT.getD 45 []).zipIdx.all fun p => mm_okB 45 p.2 p.1) = true := by decide +kernel
set_option maxRecDepth 20000 in
theorem mm_ck_46 : ((mm_codeT.getD 46 []).zipIdx.all fun p => mm_okB 46 p.2 p.1) = true := by decide +kernel
set_option maxRecDepth 20000 in
theorem mm_ck_47 : ((mm_codeT.getD 47 []).zipIdx.all fun p => mm_okB 47 p.2 p.1) = true := by decide +kernel
set_option maxRecDepth 20000 in
theorem mm_ck_48 : ((mm_codeT.getD 48 []).zipIdx.all fun p => mm_okB 48 p.2 p.1) = true := by decide +kernel
set_option maxRecDepth 20000 in
theorem mm_ck_49 : ((mm_codeT.getD 49 []).zipIdx.all fun p => mm_okB 49 p.2 p.1) = true := by decide +kernel
set_option maxRecDepth 20000 in
theorem mm_ck_50 : ((mm_codeT.getD 50 []).zipIdx.all fun p => mm_okB 50 p.2 p.1) = true := by decide +kernel
set_option maxRecDepth 20000 in
theorem mm_ck_51 : ((mm_codeT.getD 51 []).zipIdx.all fun p => mm_okB 51 p.2 p.1) = true := by decide +kernel
set_option maxRecDepth 20000 in
theorem mm_ck_52 : ((mm_codeT.getD 52 []).zipIdx.all fun p => mm_okB 52 p.2 p.1) = true := by decide +kernel
set_option maxRecDepth 20000 in
theorem mm_ck_53 : ((mm_codeT.getD 53 []).zipIdx.all fun p => mm_okB 53 p.2 p.1) = true := by decide +kernel
set_option maxRecDepth 20000 in
theorem mm_ck_54 : ((mm_codeT.getD 54 []).zipIdx.all fun p => mm_okB 54 p.2 p.1) = true := by decide +kernel
set_option maxRecDepth 20000 in
theorem mm_ck_55 : ((mm_codeT.getD 55 []).zipIdx.all fun p => mm_okB 55 p.2 p.1) = true := by decide +kernel
set_option maxRecDepth 20000 in
theorem mm_ck_56 : ((mm_codeT.getD 56 []).zipIdx.all fun p => mm_okB 56 p.2 p.1) = true := by decide +kernel
set_option maxRecDepth 20000 in
theorem mm_ck_57 : ((mm_codeT.getD 57 []).zipIdx.all fun p => mm_okB 57 p.2 p.1) = true := by decide +kernel
set_option maxRecDepth 20000 in
theorem mm_ck_58 : ((mm_codeT.getD 58 []).zipIdx.all fun p => mm_okB 58 p.2 p.1) = true := by decide +kernel
set_option maxRecDepth 20000 in
theorem mm_ck_59 : ((mm_codeT.getD 59 []).zipIdx.all fun p => mm_okB 59 p.2 p.1) = true := by decide +kernel
set_option maxRecDepth 20000 in
theorem mm_ck_60 : ((mm_codeT.getD 60 []).zipIdx.all fun p => mm_okB 60 p.2 p.1) = true := by decide +kernel
set_option maxRecDepth 20000 in
theorem mm_ck_61 : ((mm_codeT.getD 61 []).zipIdx.all fun p => mm_okB 61 p.2 p.1) = true := by decide +kernel
set_option maxRecDepth 20000 in
theorem mm_ck_62 : ((mm_codeT.getD 62 []).zipIdx.all fun p => mm_okB 62 p.2 p.1) = true := by decide +kernel
set_option maxRecDepth 20000 in
theorem mm_ck_63 : ((mm_codeT.getD 63 []).zipIdx.all fun p => mm_okB 63 p.2 p.1) = true := by decide +kernel
set_option maxRecDepth 20000 in
theorem mm_ck_64 : ((mm_codeT.getD 64 []).zipIdx.all fun p => mm_okB 64 p.2 p.1) = true := by decide +kernel
set_option maxRecDepth 20000 in
theorem mm_ck_65 : ((mm_codeT.getD 65 []).zipIdx.all fun p => mm_okB 65 p.2 p.1) = true := by decide +kernel
set_option maxRecDepth 20000 in
theorem mm_ck_66 : ((mm_codeT.getD 66 []).zipIdx.all fun p => mm_okB 66 p.2 p.1) = true := by decide +kernel
set_option maxRecDepth 20000 in
theorem mm_ck_67 : ((mm_codeT.getD 67 []).zipIdx.all fun p => mm_okB 67 p.2 p.1) = true := by decide +kernel
set_option maxRecDepth 20000 in
theorem mm_ck_68 : ((mm_codeT.getD 68 []).zipIdx.all fun p => mm_okB 68 p.2 p.1) = true := by decide +kernel
set_option maxRecDepth 20000 in
theorem mm_ck_69 : ((mm_codeT.getD 69 []).zipIdx.all fun p => mm_okB 69 p.2 p.1) = true := by decide +kernel
set_option maxRecDepth 20000 in
theorem mm_ck_70 : ((mm_codeT.getD 70 []).zipIdx.all fun p => mm_okB 70 p.2 p.1) = true := by decide +kernel
set_option maxRecDepth 20000 in
theorem mm_ck_71 : ((mm_codeT.getD 71 []).zipIdx.all fun p => mm_okB 71 p.2 p.1) = true := by decide +kernel
set_option maxRecDepth 20000 in
theorem mm_ck_72 : ((mm_codeT.getD 72 []).zipIdx.all fun p => mm_okB 72 p.2 p.1) = true := by decide +kernel
set_option maxRecDepth 20000 in
theorem mm_ck_73 : ((mm_codeT.getD 73 []).zipIdx.all fun p => mm_okB 73 p.2 p.1) = true := by decide +kernel
set_option maxRecDepth 20000 in
theorem mm_ck_74 : ((mm_codeT.getD 74 []).zipIdx.all fun p => mm_okB 74 p.2 p.1) = true := by decide +kernel
set_option maxRecDepth 20000 in
theorem mm_ck_75 : ((mm_codeT.getD 75 []).zipIdx.all fun p => mm_okB 75 p.2 p.1) = true := by decide +kernel
set_option maxRecDepth 20000 in
theorem mm_ck_76 : ((mm_codeT.getD 76 []).zipIdx.all fun p => mm_okB 76 p.2 p.1) = true := by decide +kernel
set_option maxRecDepth 20000 in
theorem mm_ck_77 : ((mm_codeT.getD 77 []).zipIdx.all fun p => mm_okB 77 p.2 p.1) = true := by decide +kernel
set_option maxRecDepth 20000 in
theorem mm_ck_78 : ((mm_codeT.getD 78 []).zipIdx.all fun p => mm_okB 78 p.2 p.1) = true := by decide +kernel
set_option maxRecDepth 20000 in
theorem mm_ck_79 : ((mm_codeT.getD 79 []).zipIdx.all fun p => mm_okB 79 p.2 p.1) = true := by decide +kernel
set_option maxRecDepth 20000 in
theorem mm_ck_80 : ((mm_codeT.getD 80 []).zipIdx.all fun p => mm_okB 80 p.2 p.1) = true := by decide +kernel
set_option maxRecDepth 20000 in
theorem mm_ck_81 : ((mm_codeT.getD 81 []).zipIdx.all fun p => mm_okB 81 p.2 p.1) = true := by decide +kernel
set_option maxRecDepth 20000 in
theorem mm_ck_82 : ((mm_codeT.getD 82 []).zipIdx.all fun p => mm_okB 82 p.2 p.1) = true := by decide +kernel
set_option maxRecDepth 20000 in
theorem mm_ck_83 : ((mm_codeT.getD 83 []).zipIdx.all fun p => mm_okB 83 p.2 p.1) = true := by decide +kernel
set_option maxRecDepth 20000 in
theorem mm_ckl_0 : (((mm_codeT.getD 84 []).zipIdx.drop 0).take 80).all (fun p => mm_okB 84 p.2 p.1) = true := by decide +kernel
set_option maxRecDepth 20000 in
theorem mm_ckl_1 : (((mm_codeT.getD 84 []).zipIdx.drop 80).take 80).all (fun p => mm_okB 84 p.2 p.1) = true := by decide +kernel
theorem mm_cut {α : Type} (f : α → Bool) (l : List α) (n : Nat) (h1 : (l.take n).all f = true) (h2 : (l.drop n).all f = true) : l.all f = true := by
  rw [← List.take_append_drop n l, List.all_append, h1, h2]
  rfl
set_option maxRecDepth 20000 in
theorem mm_ck_84 : ((mm_codeT.getD 84 []).zipIdx.all fun p => mm_okB 84 p.2 p.1) = true := by
  have e : ∀ j : Nat, ((mm_codeT.getD 84 []).zipIdx.drop j).drop 80 = (mm_codeT.getD 84 []).zipIdx.drop (j + 80) := fun j => by rw [List.drop_drop]
  have z : ((mm_codeT.getD 84 []).zipIdx.drop 160) = [] := List.drop_eq_nil_of_le (by decide +kernel)
  have h1 : ((mm_codeT.getD 84 []).zipIdx.drop 80).all (fun p => mm_okB 84 p.2 p.1) = true := mm_cut _ _ 80 mm_ckl_1 (by rw [e]; rw [z]; rfl)
  have h0 : ((mm_codeT.getD 84 []).zipIdx.drop 0).all (fun p => mm_okB 84 p.2 p.1) = true := mm_cut _ _ 80 mm_ckl_0 (by rw [e]; exact h1)
  rw [List.drop_zero] at h0
  exact h0
theorem mm_ck_s0 : ∀ a, a < 0 → ((mm_codeT.getD a []).zipIdx.all fun p => mm_okB a p.2 p.1) = true := lt_0
theorem mm_ck_s20 : ∀ a, a < 20 → ((mm_codeT.getD a []).zipIdx.all fun p => mm_okB a p.2 p.1) = true := lt_s (lt_s (lt_s (lt_s (lt_s (lt_s (lt_s (lt_s (lt_s (lt_s (lt_s (lt_s (lt_s (lt_s (lt_s (lt_s (lt_s (lt_s (lt_s (lt_s (mm_ck_s0) mm_ck_0) mm_ck_1) mm_ck_2) mm_ck_3) mm_ck_4) mm_ck_5) mm_ck_6) mm_ck_7) mm_ck_8) mm_ck_9) mm_ck_10) mm_ck_11) mm_ck_12) mm_ck_13) mm_ck_14) mm_ck_15) mm_ck_16) mm_ck_17) mm_ck_18) mm_ck_19
theorem mm_ck_s40 : ∀ a, a < 40 → ((mm_codeT.getD a []).zipIdx.all fun p => mm_okB a p.2 p.1) = true := lt_s (lt_s (lt_s (lt_s (lt_s (lt_s (lt_s (lt_s (lt_s (lt_s (lt_s (lt_s (lt_s (lt_s (lt_s (lt_s (lt_s (lt_s (lt_s (lt_s (mm_ck_s20) mm_ck_20) mm_ck_21) mm_ck_22) mm_ck_23) mm_ck_24) mm_ck_25) mm_ck_26) mm_ck_27) mm_ck_28) mm_ck_29) mm_ck_30) mm_ck_31) mm_ck_32) mm_ck_33) mm_ck_34) mm_ck_35) mm_ck_36) mm_ck_37) mm_ck_38) mm_ck_39
theorem mm_ck_s60 : ∀ a, a < 60 → ((mm_codeT.getD a []).zipIdx.all fun p => mm_okB a p.2 p.1) = true := lt_s (lt_s (lt_s (lt_s (lt_s (lt_s (lt_s (lt_s (lt_s (lt_s (lt_s (lt_s (lt_s (lt_s (lt_s (lt_s (lt_s (lt_s (lt_s (lt_s (mm_ck_s40) mm_ck_40) mm_ck_41) mm_ck_42) mm_ck_43) mm_ck_44) mm_ck_45) mm_ck_46) mm_ck_47) mm_ck_48) mm_ck_49) mm_ck_50) mm_ck_51) mm_ck_52) mm_ck_53) mm_ck_54) mm_ck_55) mm_ck_56) mm_ck_57) mm_ck_58) mm_ck_59
theorem mm_ck_s80 : ∀ a, a < 80 → ((mm_codeT.getD a []).zipIdx.all fun p => mm_okB a p.2 p.1) = true := lt_s (lt_s (lt_s (lt_s (lt_s (lt_s (lt_s (lt_s (lt_s (lt_s (lt_s (lt_s (lt_s (lt_s (lt_s (lt_s (lt_s (lt_s (lt_s (lt_s (mm_ck_s60) mm_ck_60) mm_ck_61) mm_ck_62) mm_ck_63) mm_ck_64) mm_ck_65) mm_ck_66) mm_ck_67) mm_ck_68) mm_ck_69) mm_ck_70) mm_ck_71) mm_ck_72) mm_ck_73) mm_ck_74) mm_ck_75) mm_ck_76) mm_ck_77) mm_ck_78) mm_ck_79
theorem mm_ck_s85 : ∀ a, a < 85 → ((mm_codeT.getD a []).zipIdx.all fun p => mm_okB a p.2 p.1) = true := lt_s (lt_s (lt_s (lt_s (lt_s (mm_ck_s80) mm_ck_80) mm_ck_81) mm_ck_82) mm_ck_83) mm_ck_84
theorem mm_okA {y i : Nat} {q : mm_E} (h : mm_code y i = some q) : mm_okB y i q = true ∧ y < 85 := by
  unfold mm_code at h
  have hl : mm_codeT.length = 85 := by decide +kernel
  cases hy : mm_codeT[y]? with
  | none => rw [hy] at h; cases h
  | some l =>
    rw [hy] at h
    have hy1 : y < mm_codeT.length := (List.getElem?_eq_some_iff.mp hy).1
    rw [hl] at hy1
    have h1 := mm_ck_s85 y hy1
    have e : mm_codeT.getD y [] = l := by rw [List.getD_eq_getElem?_getD, hy]; rfl
    rw [e, List.all_eq_true] at h1
    refine ⟨h1 (q, i) ?_, hy1⟩
    rw [List.mem_zipIdx_iff_getElem?]
    exact h
end
section
/-! the tables' words that rows need: their places -/
def mm_w : List Cond := lw_tbl.filter goodWord
theorem mm_wi {w : Cond} (i : Nat) (h : lw_tbl[i]? = some w) (hg : goodWord w = true) : w ∈ mm_w := List.mem_filter.mpr ⟨List.mem_of_getElem? h, hg⟩
theorem mm_w_good : GoodIn lw_tbl mm_w := fun w h => ⟨(List.mem_filter.mp h).1, good_of_word (List.mem_filter.mp h).2⟩
theorem mm_ww : GoodIn mm_w mm_w := fun w h => ⟨h, good_of_word (List.mem_filter.mp h).2⟩
theorem mm_wl {ws : List Cond} (is : List Nat) (h : ws = is.filterMap (fun i => lw_tbl[i]?)) (hg : ws.all goodWord = true) : ∀ w ∈ ws, w ∈ mm_w := by
  intro w hw
  refine List.mem_filter.mpr ⟨?_, List.all_eq_true.mp hg w hw⟩
  rw [h] at hw
  obtain ⟨i, -, hi⟩ := List.mem_filterMap.mp hw
  exact List.mem_of_getElem? hi
def mm_cl (ci : Nat) : vw_C := vwCl.getD ci (RX0, TX0, 7)
def mm_ty (ci : Nat) : Nat → FieldType := match ci with
  | 0 => tyX0
  | 1 => tyX1
  | 2 => tyX2
  | 3 => tyX3
  | _ => tyX4
def mm_kOK (ci k : Nat) : Bool := match (mm_fk ci)[k]? with
  | some 0 => decide (mm_ty ci k = .int) && !((mm_cl ci).2.1 k).2.2.2
  | some 1 => decide (mm_ty ci k = .boolean) && !((mm_cl ci).2.1 k).2.2.2
  | some 2 => (match mm_ty ci k with
    | .object _ => true
    | .array _ => true
    | _ => false) && ((mm_cl ci).2.1 k).2.2.2
  | _ => false
def mm_okC (ci : Nat) : Prop := vwCl[ci]? = some (mm_cl ci) ∧ (∀ w ∈ u_ws (mm_cl ci).1 (mm_cl ci).2.1 (mm_cl ci).2.2, w ∈ mm_w) ∧ (∀ k, k < (mm_cl ci).2.2 → parseFieldDescriptor ((mm_cl ci).2.1 k).2.2.1 = some (mm_ty ci k)) ∧ (∀ a, a < (mm_cl ci).2.2 → ∀ b, b < (mm_cl ci).2.2 → a ≠ b → ((mm_cl ci).2.1 a).2.1 ≠ ((mm_cl ci).2.1 b).2.1) ∧ (mm_fk ci).length = (mm_cl ci).2.2 ∧ (∀ k, k < (mm_cl ci).2.2 → mm_kOK ci k = true ∧ ((mm_cl ci).2.1 k).1 = (mm_cl ci).1) ∧ (mm_cl ci).1 = mm_cn ci
theorem mm_C0 : mm_okC 0 := ⟨rfl, mm_wl [129, 131, 133, 135, 137, 139, 141] (by decide +kernel) (by decide +kernel), tyX0_ok, nmX0, rfl, by decide +kernel, rfl⟩
theorem mm_C1 : mm_okC 1 := ⟨rfl, mm_wl [75, 77, 79] (by decide +kernel) (by decide +kernel), tyX1_ok, nmX1, rfl, by decide +kernel, rfl⟩
theorem mm_C2 : mm_okC 2 := ⟨rfl, mm_wl [148, 150, 152] (by decide +kernel) (by decide +kernel), tyX2_ok, nmX2, rfl, by decide +kernel, rfl⟩
theorem mm_C3 : mm_okC 3 := ⟨rfl, mm_wl [48, 50] (by decide +kernel) (by decide +kernel), tyX3_ok, nmX3, rfl, by decide +kernel, rfl⟩
theorem mm_C4 : mm_okC 4 := ⟨rfl, mm_wl [161, 163, 165, 167, 169, 171] (by decide +kernel) (by decide +kernel), tyX4_ok, nmX4, rfl, by decide +kernel, rfl⟩
theorem mm_CA : ∀ ci, ci < 5 → mm_okC ci := lt_s (lt_s (lt_s (lt_s (lt_s (lt_0) mm_C0) mm_C1) mm_C2) mm_C3) mm_C4
def mm_okF (a : Nat) : Prop := (mm_fd a).1.1 < 5 ∧ (mm_fd a).1.2 < (mm_cl (mm_fd a).1.1).2.2 ∧ Cond.fieldLink (mm_cn (mm_fd a).2.1) (mm_fd a).2.2 (mm_cl (mm_fd a).1.1).1 ((mm_cl (mm_fd a).1.1).2.1 (mm_fd a).1.2).2.1 ((mm_cl (mm_fd a).1.1).2.1 (mm_fd a).1.2).2.2.1 ∈ mm_w
theorem mm_F0 : mm_okF 0 := ⟨by decide +kernel, by decide +kernel, mm_wi 120 (by decide +kernel) (by decide +kernel)⟩
theorem mm_F1 : mm_okF 1 := ⟨by decide +kernel, by decide +kernel, mm_wi 123 (by decide +kernel) (by decide +kernel)⟩
theorem mm_F2 : mm_okF 2 := ⟨by decide +kernel, by decide +kernel, mm_wi 124 (by decide +kernel) (by decide +kernel)⟩
theorem mm_F3 : mm_okF 3 := ⟨by decide +kernel, by decide +kernel, mm_wi 125 (by decide +kernel) (by decide +kernel)⟩
theorem mm_F4 : mm_okF 4 := ⟨by decide +kernel, by decide +kernel, mm_wi 126 (by decide +kernel) (by decide +kernel)⟩
theorem mm_F5 : mm_okF 5 := ⟨by decide +kernel, by decide +kernel, mm_wi 127 (by decide +kernel) (by decide +kernel)⟩
theorem mm_F6 : mm_okF 6 := ⟨by decide +kernel, by decide +kernel, mm_wi 128 (by decide +kernel) (by decide +kernel)⟩
theorem mm_F7 : mm_okF 7 := ⟨by decide +kernel, by decide +kernel, mm_wi 72 (by decide +kernel) (by decide +kernel)⟩
theorem mm_F8 : mm_okF 8 := ⟨by decide +kernel, by decide +kernel, mm_wi 73 (by decide +kernel) (by decide +kernel)⟩
theorem mm_F9 : mm_okF 9 := ⟨by decide +kernel, by decide +kernel, mm_wi 74 (by decide +kernel) (by decide +kernel)⟩
theorem mm_F10 : mm_okF 10 := ⟨by decide +kernel, by decide +kernel, mm_wi 144 (by decide +kernel) (by decide +kernel)⟩
theorem mm_F11 : mm_okF 11 := ⟨by decide +kernel, by decide +kernel, mm_wi 146 (by decide +kernel) (by decide +kernel)⟩
theorem mm_F12 : mm_okF 12 := ⟨by decide +kernel, by decide +kernel, mm_wi 147 (by decide +kernel) (by decide +kernel)⟩
theorem mm_F13 : mm_okF 13 := ⟨by decide +kernel, by decide +kernel, mm_wi 121 (by decide +kernel) (by decide +kernel)⟩
theorem mm_F14 : mm_okF 14 := ⟨by decide +kernel, by decide +kernel, mm_wi 46 (by decide +kernel) (by decide +kernel)⟩
theorem mm_F15 : mm_okF 15 := ⟨by decide +kernel, by decide +kernel, mm_wi 47 (by decide +kernel) (by decide +kernel)⟩
theorem mm_F16 : mm_okF 16 := ⟨by decide +kernel, by decide +kernel, mm_wi 155 (by decide +kernel) (by decide +kernel)⟩
theorem mm_F17 : mm_okF 17 := ⟨by decide +kernel, by decide +kernel, mm_wi 156 (by decide +kernel) (by decide +kernel)⟩
theorem mm_F18 : mm_okF 18 := ⟨by decide +kernel, by decide +kernel, mm_wi 157 (by decide +kernel) (by decide +kernel)⟩
theorem mm_F19 : mm_okF 19 := ⟨by decide +kernel, by decide +kernel, mm_wi 145 (by decide +kernel) (by decide +kernel)⟩
theorem mm_F20 : mm_okF 20 := ⟨by decide +kernel, by decide +kernel, mm_wi 158 (by decide +kernel) (by decide +kernel)⟩
theorem mm_F21 : mm_okF 21 := ⟨by decide +kernel, by decide +kernel, mm_wi 159 (by decide +kernel) (by decide +kernel)⟩
theorem mm_F22 : mm_okF 22 := ⟨by decide +kernel, by decide +kernel, mm_wi 160 (by decide +kernel) (by decide +kernel)⟩
theorem mm_F23 : mm_okF 23 := ⟨by decide +kernel, by decide +kernel, mm_wi 122 (by decide +kernel) (by decide +kernel)⟩
theorem mm_Fs_0 : ∀ a, a < 0 → mm_okF a := lt_0
theorem mm_Fs_20 : ∀ a, a < 20 → mm_okF a := lt_s (lt_s (lt_s (lt_s (lt_s (lt_s (lt_s (lt_s (lt_s (lt_s (lt_s (lt_s (lt_s (lt_s (lt_s (lt_s (lt_s (lt_s (lt_s (lt_s (mm_Fs_0) mm_F0) mm_F1) mm_F2) mm_F3) mm_F4) mm_F5) mm_F6) mm_F7) mm_F8) mm_F9) mm_F10) mm_F11) mm_F12) mm_F13) mm_F14) mm_F15) mm_F16) mm_F17) mm_F18) mm_F19
theorem mm_Fs_24 : ∀ a, a < 24 → mm_okF a := lt_s (lt_s (lt_s (lt_s (mm_Fs_20) mm_F20) mm_F21) mm_F22) mm_F23
theorem mm_FA {a : Nat} (h : a < mm_fldT.length) : mm_okF a := mm_Fs_24 a h
/-- a method but the law: its code is a word, its class is its own -/
def mm_okM (y : Nat) : Prop := (mm_hh y = [] → Cond.code (mm_yn y) (mm_by y) (mm_mL y) (mm_rt y) ∈ mm_w) ∧ (¬ mm_hh y = [] → Cond.codeWith (mm_yn y) (mm_by y) (mm_mL y) (mm_rt y) (mm_hh y) ∈ mm_w) ∧ plainName (mm_yn y).cls = true ∧ Cond.initialized (mm_yn y).cls ∈ mm_w ∧ mm_cn (mm_own y) = (mm_yn y).cls ∧ (mm_yn y).cls ≠ "java/lang/invoke/MethodHandle" ∧ (mm_yn y).cls ≠ "java/lang/invoke/VarHandle" ∧ mm_own y < 7
theorem mm_M0 : mm_okM 0 := ⟨fun _ => mm_wi 64 (by decide +kernel) (by decide +kernel), fun h => absurd (by decide +kernel) h, by decide +kernel, mm_wi 20 (by decide +kernel) (by decide +kernel), by decide +kernel, by decide +kernel, by decide +kernel, by decide +kernel⟩
theorem mm_M1 : mm_okM 1 := ⟨fun _ => mm_wi 85 (by decide +kernel) (by decide +kernel), fun h => absurd (by decide +kernel) h, by decide +kernel, mm_wi 20 (by decide +kernel) (by decide +kernel), by decide +kernel, by decide +kernel, by decide +kernel, by decide +kernel⟩
theorem mm_M2 : mm_okM 2 := ⟨fun _ => mm_wi 197 (by decide +kernel) (by decide +kernel), fun h => absurd (by decide +kernel) h, by decide +kernel, mm_wi 20 (by decide +kernel) (by decide +kernel), by decide +kernel, by decide +kernel, by decide +kernel, by decide +kernel⟩
theorem mm_M3 : mm_okM 3 := ⟨fun _ => mm_wi 294 (by decide +kernel) (by decide +kernel), fun h => absurd (by decide +kernel) h, by decide +kernel, mm_wi 20 (by decide +kernel) (by decide +kernel), by decide +kernel, by decide +kernel, by decide +kernel, by decide +kernel⟩
theorem mm_M4 : mm_okM 4 := ⟨fun _ => mm_wi 205 (by decide +kernel) (by decide +kernel), fun h => absurd (by decide +kernel) h, by decide +kernel, mm_wi 20 (by decide +kernel) (by decide +kernel), by decide +kernel, by decide +kernel, by decide +kernel, by decide +kernel⟩
theorem mm_M5 : mm_okM 5 := ⟨fun _ => mm_wi 119 (by decide +kernel) (by decide +kernel), fun h => absurd (by decide +kernel) h, by decide +kernel, mm_wi 20 (by decide +kernel) (by decide +kernel), by decide +kernel, by decide +kernel, by decide +kernel, by decide +kernel⟩
theorem mm_M6 : mm_okM 6 := ⟨fun _ => mm_wi 209 (by decide +kernel) (by decide +kernel), fun h => absurd (by decide +kernel) h, by decide +kernel, mm_wi 20 (by decide +kernel) (by decide +kernel), by decide +kernel, by decide +kernel, by decide +kernel, by decide +kernel⟩
theorem mm_M7 : mm_okM 7 := ⟨fun _ => mm_wi 100 (by decide +kernel) (by decide +kernel), fun h => absurd (by decide +kernel) h, by decide +kernel, mm_wi 20 (by decide +kernel) (by decide +kernel), by decide +kernel, by decide +kernel, by decide +kernel, by decide +kernel⟩
theorem mm_M8 : mm_okM 8 := ⟨fun _ => mm_wi 387 (by decide +kernel) (by decide +kernel), fun h => absurd (by decide +kernel) h, by decide +kernel, mm_wi 20 (by decide +kernel) (by decide +kernel), by decide +kernel, by decide +kernel, by decide +kernel, by decide +kernel⟩
theorem mm_M9 : mm_okM 9 := ⟨fun _ => mm_wi 391 (by decide +kernel) (by decide +kernel), fun h => absurd (by decide +kernel) h, by decide +kernel, mm_wi 20 (by decide +kernel) (by decide +kernel), by decide +kernel, by decide +kernel, by decide +kernel, by decide +kernel⟩
theorem mm_M10 : mm_okM 10 := ⟨fun _ => mm_wi 395 (by decide +kernel) (by decide +kernel), fun h => absurd (by decide +kernel) h, by decide +kernel, mm_wi 20 (by decide +kernel) (by decide +kernel), by decide +kernel, by decide +kernel, by decide +kernel, by decide +kernel⟩
theorem mm_M11 : mm_okM 11 := ⟨fun _ => mm_wi 89 (by decide +kernel) (by decide +kernel), fun h => absurd (by decide +kernel) h, by decide +kernel, mm_wi 20 (by decide +kernel) (by decide +kernel), by decide +kernel, by decide +kernel, by decide +kernel, by decide +kernel⟩
theorem mm_M12 : mm_okM 12 := ⟨fun _ => mm_wi 115 (by decide +kernel) (by decide +kernel), fun h => absurd (by decide +kernel) h, by decide +kernel, mm_wi 20 (by decide +kernel) (by decide +kernel), by decide +kernel, by decide +kernel, by decide +kernel, by decide +kernel⟩
theorem mm_M13 : mm_okM 13 := ⟨fun _ => mm_wi 213 (by decide +kernel) (by decide +kernel), fun h => absurd (by decide +kernel) h, by decide +kernel, mm_wi 20 (by decide +kernel) (by decide +kernel), by decide +kernel, by decide +kernel, by decide +kernel, by decide +kernel⟩
theorem mm_M14 : mm_okM 14 := ⟨fun _ => mm_wi 96 (by decide +kernel) (by decide +kernel), fun h => absurd (by decide +kernel) h, by decide +kernel, mm_wi 20 (by decide +kernel) (by decide +kernel), by decide +kernel, by decide +kernel, by decide +kernel, by decide +kernel⟩
theorem mm_M15 : mm_okM 15 := ⟨fun _ => mm_wi 104 (by decide +kernel) (by decide +kernel), fun h => absurd (by decide +kernel) h, by decide +kernel, mm_wi 20 (by decide +kernel) (by decide +kernel), by decide +kernel, by decide +kernel, by decide +kernel, by decide +kernel⟩
theorem mm_M16 : mm_okM 16 := ⟨fun _ => mm_wi 70 (by decide +kernel) (by decide +kernel), fun h => absurd (by decide +kernel) h, by decide +kernel, mm_wi 21 (by decide +kernel) (by decide +kernel), by decide +kernel, by decide +kernel, by decide +kernel, by decide +kernel⟩
theorem mm_M17 : mm_okM 17 := ⟨fun _ => mm_wi 495 (by decide +kernel) (by decide +kernel), fun h => absurd (by decide +kernel) h, by decide +kernel, mm_wi 21 (by decide +kernel) (by decide +kernel), by decide +kernel, by decide +kernel, by decide +kernel, by decide +kernel⟩
theorem mm_M18 : mm_okM 18 := ⟨fun _ => mm_wi 475 (by decide +kernel) (by decide +kernel), fun h => absurd (by decide +kernel) h, by decide +kernel, mm_wi 21 (by decide +kernel) (by decide +kernel), by decide +kernel, by decide +kernel, by decide +kernel, by decide +kernel⟩
theorem mm_M19 : mm_okM 19 := ⟨fun _ => mm_wi 487 (by decide +kernel) (by decide +kernel), fun h => absurd (by decide +kernel) h, by decide +kernel, mm_wi 21 (by decide +kernel) (by decide +kernel), by decide +kernel, by decide +kernel, by decide +kernel, by decide +kernel⟩
theorem mm_M20 : mm_okM 20 := ⟨fun _ => mm_wi 509 (by decide +kernel) (by decide +kernel), fun h => absurd (by decide +kernel) h, by decide +kernel, mm_wi 21 (by decide +kernel) (by decide +kernel), by decide +kernel, by decide +kernel, by decide +kernel, by decide +kernel⟩
theorem mm_M21 : mm_okM 21 := ⟨fun _ => mm_wi 558 (by decide +kernel) (by decide +kernel), fun h => absurd (by decide +kernel) h, by decide +kernel, mm_wi 21 (by decide +kernel) (by decide +kernel), by decide +kernel, by decide +kernel, by decide +kernel, by decide +kernel⟩
theorem mm_M22 : mm_okM 22 := ⟨fun _ => mm_wi 399 (by decide +kernel) (by decide +kernel), fun h => absurd (by decide +kernel) h, by decide +kernel, mm_wi 21 (by decide +kernel) (by decide +kernel), by decide +kernel, by decide +kernel, by decide +kernel, by decide +kernel⟩
theorem mm_M23 : mm_okM 23 := ⟨fun _ => mm_wi 108 (by decide +kernel) (by decide +kernel), fun h => absurd (by decide +kernel) h, by decide +kernel, mm_wi 21 (by decide +kernel) (by decide +kernel), by decide +kernel, by decide +kernel, by decide +kernel, by decide +kernel⟩
theorem mm_M24 : mm_okM 24 := ⟨fun _ => mm_wi 111 (by decide +kernel) (by decide +kernel), fun h => absurd (by decide +kernel) h, by decide +kernel, mm_wi 21 (by decide +kernel) (by decide +kernel), by decide +kernel, by decide +kernel, by decide +kernel, by decide +kernel⟩
theorem mm_M25 : mm_okM 25 := ⟨fun _ => mm_wi 58 (by decide +kernel) (by decide +kernel), fun h => absurd (by decide +kernel) h, by decide +kernel, mm_wi 19 (by decide +kernel) (by decide +kernel), by decide +kernel, by decide +kernel, by decide +kernel, by decide +kernel⟩
theorem mm_M26 : mm_okM 26 := ⟨fun _ => mm_wi 461 (by decide +kernel) (by decide +kernel), fun h => absurd (by decide +kernel) h, by decide +kernel, mm_wi 19 (by decide +kernel) (by decide +kernel), by decide +kernel, by decide +kernel, by decide +kernel, by decide +kernel⟩
theorem mm_M27 : mm_okM 27 := ⟨fun _ => mm_wi 549 (by decide +kernel) (by decide +kernel), fun h => absurd (by decide +kernel) h, by decide +kernel, mm_wi 19 (by decide +kernel) (by decide +kernel), by decide +kernel, by decide +kernel, by decide +kernel, by decide +kernel⟩
theorem mm_M28 : mm_okM 28 := ⟨fun _ => mm_wi 289 (by decide +kernel) (by decide +kernel), fun h => absurd (by decide +kernel) h, by decide +kernel, mm_wi 19 (by decide +kernel) (by decide +kernel), by decide +kernel, by decide +kernel, by decide +kernel, by decide +kernel⟩
theorem mm_M29 : mm_okM 29 := ⟨fun _ => mm_wi 465 (by decide +kernel) (by decide +kernel), fun h => absurd (by decide +kernel) h, by decide +kernel, mm_wi 19 (by decide +kernel) (by decide +kernel), by decide +kernel, by decide +kernel, by decide +kernel, by decide +kernel⟩
theorem mm_M30 : mm_okM 30 := ⟨fun _ => mm_wi 540 (by decide +kernel) (by decide +kernel), fun h => absurd (by decide +kernel) h, by decide +kernel, mm_wi 19 (by decide +kernel) (by decide +kernel), by decide +kernel, by decide +kernel, by decide +kernel, by decide +kernel⟩
theorem mm_M31 : mm_okM 31 := ⟨fun _ => mm_wi 311 (by decide +kernel) (by decide +kernel), fun h => absurd (by decide +kernel) h, by decide +kernel, mm_wi 19 (by decide +kernel) (by decide +kernel), by decide +kernel, by decide +kernel, by decide +kernel, by decide +kernel⟩
theorem mm_M32 : mm_okM 32 := ⟨fun _ => mm_wi 554 (by decide +kernel) (by decide +kernel), fun h => absurd (by decide +kernel) h, by decide +kernel, mm_wi 19 (by decide +kernel) (by decide +kernel), by decide +kernel, by decide +kernel, by decide +kernel, by decide +kernel⟩
theorem mm_M33 : mm_okM 33 := ⟨fun _ => mm_wi 299 (by decide +kernel) (by decide +kernel), fun h => absurd (by decide +kernel) h, by decide +kernel, mm_wi 19 (by decide +kernel) (by decide +kernel), by decide +kernel, by decide +kernel, by decide +kernel, by decide +kernel⟩
theorem mm_M34 : mm_okM 34 := ⟨fun _ => mm_wi 307 (by decide +kernel) (by decide +kernel), fun h => absurd (by decide +kernel) h, by decide +kernel, mm_wi 19 (by decide +kernel) (by decide +kernel), by decide +kernel, by decide +kernel, by decide +kernel, by decide +kernel⟩
theorem mm_M35 : mm_okM 35 := ⟨fun _ => mm_wi 41 (by decide +kernel) (by decide +kernel), fun h => absurd (by decide +kernel) h, by decide +kernel, mm_wi 17 (by decide +kernel) (by decide +kernel), by decide +kernel, by decide +kernel, by decide +kernel, by decide +kernel⟩
theorem mm_M36 : mm_okM 36 := ⟨fun _ => mm_wi 185 (by decide +kernel) (by decide +kernel), fun h => absurd (by decide +kernel) h, by decide +kernel, mm_wi 17 (by decide +kernel) (by decide +kernel), by decide +kernel, by decide +kernel, by decide +kernel, by decide +kernel⟩
theorem mm_M37 : mm_okM 37 := ⟨fun _ => mm_wi 409 (by decide +kernel) (by decide +kernel), fun h => absurd (by decide +kernel) h, by decide +kernel, mm_wi 17 (by decide +kernel) (by decide +kernel), by decide +kernel, by decide +kernel, by decide +kernel, by decide +kernel⟩
theorem mm_M38 : mm_okM 38 := ⟨fun _ => mm_wi 316 (by decide +kernel) (by decide +kernel), fun h => absurd (by decide +kernel) h, by decide +kernel, mm_wi 17 (by decide +kernel) (by decide +kernel), by decide +kernel, by decide +kernel, by decide +kernel, by decide +kernel⟩
theorem mm_M39 : mm_okM 39 := ⟨fun _ => mm_wi 432 (by decide +kernel) (by decide +kernel), fun h => absurd (by decide +kernel) h, by decide +kernel, mm_wi 17 (by decide +kernel) (by decide +kernel), by decide +kernel, by decide +kernel, by decide +kernel, by decide +kernel⟩
theorem mm_M40 : mm_okM 40 := ⟨fun _ => mm_wi 189 (by decide +kernel) (by decide +kernel), fun h => absurd (by decide +kernel) h, by decide +kernel, mm_wi 17 (by decide +kernel) (by decide +kernel), by decide +kernel, by decide +kernel, by decide +kernel, by decide +kernel⟩
theorem mm_M41 : mm_okM 41 := ⟨fun _ => mm_wi 32 (by decide +kernel) (by decide +kernel), fun h => absurd (by decide +kernel) h, by decide +kernel, mm_wi 16 (by decide +kernel) (by decide +kernel), by decide +kernel, by decide +kernel, by decide +kernel, by decide +kernel⟩
theorem mm_M42 : mm_okM 42 := ⟨fun _ => mm_wi 320 (by decide +kernel) (by decide +kernel), fun h => absurd (by decide +kernel) h, by decide +kernel, mm_wi 15 (by decide +kernel) (by decide +kernel), by decide +kernel, by decide +kernel, by decide +kernel, by decide +kernel⟩
theorem mm_M43 : mm_okM 43 := ⟨fun _ => mm_wi 330 (by decide +kernel) (by decide +kernel), fun h => absurd (by decide +kernel) h, by decide +kernel, mm_wi 16 (by decide +kernel) (by decide +kernel), by decide +kernel, by decide +kernel, by decide +kernel, by decide +kernel⟩
theorem mm_M44 : mm_okM 44 := ⟨fun _ => mm_wi 378 (by decide +kernel) (by decide +kernel), fun h => absurd (by decide +kernel) h, by decide +kernel, mm_wi 16 (by decide +kernel) (by decide +kernel), by decide +kernel, by decide +kernel, by decide +kernel, by decide +kernel⟩
theorem mm_M45 : mm_okM 45 := ⟨fun _ => mm_wi 177 (by decide +kernel) (by decide +kernel), fun h => absurd (by decide +kernel) h, by decide +kernel, mm_wi 16 (by decide +kernel) (by decide +kernel), by decide +kernel, by decide +kernel, by decide +kernel, by decide +kernel⟩
theorem mm_M46 : mm_okM 46 := ⟨fun _ => mm_wi 350 (by decide +kernel) (by decide +kernel), fun h => absurd (by decide +kernel) h, by decide +kernel, mm_wi 16 (by decide +kernel) (by decide +kernel), by decide +kernel, by decide +kernel, by decide +kernel, by decide +kernel⟩
theorem mm_M47 : mm_okM 47 := ⟨fun _ => mm_wi 404 (by decide +kernel) (by decide +kernel), fun h => absurd (by decide +kernel) h, by decide +kernel, mm_wi 16 (by decide +kernel) (by decide +kernel), by decide +kernel, by decide +kernel, by decide +kernel, by decide +kernel⟩
theorem mm_M48 : mm_okM 48 := ⟨fun _ => mm_wi 417 (by decide +kernel) (by decide +kernel), fun h => absurd (by decide +kernel) h, by decide +kernel, mm_wi 16 (by decide +kernel) (by decide +kernel), by decide +kernel, by decide +kernel, by decide +kernel, by decide +kernel⟩
theorem mm_M49 : mm_okM 49 := ⟨fun _ => mm_wi 427 (by decide +kernel) (by decide +kernel), fun h => absurd (by decide +kernel) h, by decide +kernel, mm_wi 16 (by decide +kernel) (by decide +kernel), by decide +kernel, by decide +kernel, by decide +kernel, by decide +kernel⟩
theorem mm_M50 : mm_okM 50 := ⟨fun _ => mm_wi 181 (by decide +kernel) (by decide +kernel), fun h => absurd (by decide +kernel) h, by decide +kernel, mm_wi 16 (by decide +kernel) (by decide +kernel), by decide +kernel, by decide +kernel, by decide +kernel, by decide +kernel⟩
theorem mm_M51 : mm_okM 51 := ⟨fun _ => mm_wi 439 (by decide +kernel) (by decide +kernel), fun h => absurd (by decide +kernel) h, by decide +kernel, mm_wi 16 (by decide +kernel) (by decide +kernel), by decide +kernel, by decide +kernel, by decide +kernel, by decide +kernel⟩
theorem mm_M52 : mm_okM 52 := ⟨fun _ => mm_wi 413 (by decide +kernel) (by decide +kernel), fun h => absurd (by decide +kernel) h, by decide +kernel, mm_wi 16 (by decide +kernel) (by decide +kernel), by decide +kernel, by decide +kernel, by decide +kernel, by decide +kernel⟩
theorem mm_M53 : mm_okM 53 := ⟨fun _ => mm_wi 422 (by decide +kernel) (by decide +kernel), fun h => absurd (by decide +kernel) h, by decide +kernel, mm_wi 16 (by decide +kernel) (by decide +kernel), by decide +kernel, by decide +kernel, by decide +kernel, by decide +kernel⟩
theorem mm_M54 : mm_okM 54 := ⟨fun _ => mm_wi 444 (by decide +kernel) (by decide +kernel), fun h => absurd (by decide +kernel) h, by decide +kernel, mm_wi 16 (by decide +kernel) (by decide +kernel), by decide +kernel, by decide +kernel, by decide +kernel, by decide +kernel⟩
theorem mm_M55 : mm_okM 55 := ⟨fun _ => mm_wi 505 (by decide +kernel) (by decide +kernel), fun h => absurd (by decide +kernel) h, by decide +kernel, mm_wi 16 (by decide +kernel) (by decide +kernel), by decide +kernel, by decide +kernel, by decide +kernel, by decide +kernel⟩
theorem mm_M56 : mm_okM 56 := ⟨fun _ => mm_wi 491 (by decide +kernel) (by decide +kernel), fun h => absurd (by decide +kernel) h, by decide +kernel, mm_wi 16 (by decide +kernel) (by decide +kernel), by decide +kernel, by decide +kernel, by decide +kernel, by decide +kernel⟩
theorem mm_M57 : mm_okM 57 := ⟨fun _ => mm_wi 471 (by decide +kernel) (by decide +kernel), fun h => absurd (by decide +kernel) h, by decide +kernel, mm_wi 16 (by decide +kernel) (by decide +kernel), by decide +kernel, by decide +kernel, by decide +kernel, by decide +kernel⟩
theorem mm_M58 : mm_okM 58 := ⟨fun _ => mm_wi 483 (by decide +kernel) (by decide +kernel), fun h => absurd (by decide +kernel) h, by decide +kernel, mm_wi 16 (by decide +kernel) (by decide +kernel), by decide +kernel, by decide +kernel, by decide +kernel, by decide +kernel⟩
theorem mm_M59 : mm_okM 59 := ⟨fun _ => mm_wi 514 (by decide +kernel) (by decide +kernel), fun h => absurd (by decide +kernel) h, by decide +kernel, mm_wi 16 (by decide +kernel) (by decide +kernel), by decide +kernel, by decide +kernel, by decide +kernel, by decide +kernel⟩
theorem mm_M60 : mm_okM 60 := ⟨fun _ => mm_wi 518 (by decide +kernel) (by decide +kernel), fun h => absurd (by decide +kernel) h, by decide +kernel, mm_wi 16 (by decide +kernel) (by decide +kernel), by decide +kernel, by decide +kernel, by decide +kernel, by decide +kernel⟩
theorem mm_M61 : mm_okM 61 := ⟨fun _ => mm_wi 193 (by decide +kernel) (by decide +kernel), fun h => absurd (by decide +kernel) h, by decide +kernel, mm_wi 16 (by decide +kernel) (by decide +kernel), by decide +kernel, by decide +kernel, by decide +kernel, by decide +kernel⟩
theorem mm_M62 : mm_okM 62 := ⟨fun _ => mm_wi 522 (by decide +kernel) (by decide +kernel), fun h => absurd (by decide +kernel) h, by decide +kernel, mm_wi 16 (by decide +kernel) (by decide +kernel), by decide +kernel, by decide +kernel, by decide +kernel, by decide +kernel⟩
theorem mm_M63 : mm_okM 63 := ⟨fun _ => mm_wi 527 (by decide +kernel) (by decide +kernel), fun h => absurd (by decide +kernel) h, by decide +kernel, mm_wi 16 (by decide +kernel) (by decide +kernel), by decide +kernel, by decide +kernel, by decide +kernel, by decide +kernel⟩
theorem mm_M64 : mm_okM 64 := ⟨fun _ => mm_wi 201 (by decide +kernel) (by decide +kernel), fun h => absurd (by decide +kernel) h, by decide +kernel, mm_wi 16 (by decide +kernel) (by decide +kernel), by decide +kernel, by decide +kernel, by decide +kernel, by decide +kernel⟩
theorem mm_M65 : mm_okM 65 := ⟨fun _ => mm_wi 457 (by decide +kernel) (by decide +kernel), fun h => absurd (by decide +kernel) h, by decide +kernel, mm_wi 16 (by decide +kernel) (by decide +kernel), by decide +kernel, by decide +kernel, by decide +kernel, by decide +kernel⟩
theorem mm_M66 : mm_okM 66 := ⟨fun _ => mm_wi 535 (by decide +kernel) (by decide +kernel), fun h => absurd (by decide +kernel) h, by decide +kernel, mm_wi 16 (by decide +kernel) (by decide +kernel), by decide +kernel, by decide +kernel, by decide +kernel, by decide +kernel⟩
theorem mm_M67 : mm_okM 67 := ⟨fun _ => mm_wi 566 (by decide +kernel) (by decide +kernel), fun h => absurd (by decide +kernel) h, by decide +kernel, mm_wi 16 (by decide +kernel) (by decide +kernel), by decide +kernel, by decide +kernel, by decide +kernel, by decide +kernel⟩
theorem mm_M68 : mm_okM 68 := ⟨fun _ => mm_wi 544 (by decide +kernel) (by decide +kernel), fun h => absurd (by decide +kernel) h, by decide +kernel, mm_wi 16 (by decide +kernel) (by decide +kernel), by decide +kernel, by decide +kernel, by decide +kernel, by decide +kernel⟩
theorem mm_M69 : mm_okM 69 := ⟨fun _ => mm_wi 217 (by decide +kernel) (by decide +kernel), fun h => absurd (by decide +kernel) h, by decide +kernel, mm_wi 16 (by decide +kernel) (by decide +kernel), by decide +kernel, by decide +kernel, by decide +kernel, by decide +kernel⟩
theorem mm_M70 : mm_okM 70 := ⟨fun _ => mm_wi 92 (by decide +kernel) (by decide +kernel), fun h => absurd (by decide +kernel) h, by decide +kernel, mm_wi 16 (by decide +kernel) (by decide +kernel), by decide +kernel, by decide +kernel, by decide +kernel, by decide +kernel⟩
theorem mm_M71 : mm_okM 71 := ⟨fun _ => mm_wi 354 (by decide +kernel) (by decide +kernel), fun h => absurd (by decide +kernel) h, by decide +kernel, mm_wi 16 (by decide +kernel) (by decide +kernel), by decide +kernel, by decide +kernel, by decide +kernel, by decide +kernel⟩
theorem mm_M72 : mm_okM 72 := ⟨fun _ => mm_wi 381 (by decide +kernel) (by decide +kernel), fun h => absurd (by decide +kernel) h, by decide +kernel, mm_wi 16 (by decide +kernel) (by decide +kernel), by decide +kernel, by decide +kernel, by decide +kernel, by decide +kernel⟩
theorem mm_M73 : mm_okM 73 := ⟨fun _ => mm_wi 452 (by decide +kernel) (by decide +kernel), fun h => absurd (by decide +kernel) h, by decide +kernel, mm_wi 16 (by decide +kernel) (by decide +kernel), by decide +kernel, by decide +kernel, by decide +kernel, by decide +kernel⟩
theorem mm_M74 : mm_okM 74 := ⟨fun _ => mm_wi 448 (by decide +kernel) (by decide +kernel), fun h => absurd (by decide +kernel) h, by decide +kernel, mm_wi 16 (by decide +kernel) (by decide +kernel), by decide +kernel, by decide +kernel, by decide +kernel, by decide +kernel⟩
theorem mm_M75 : mm_okM 75 := ⟨fun _ => mm_wi 479 (by decide +kernel) (by decide +kernel), fun h => absurd (by decide +kernel) h, by decide +kernel, mm_wi 16 (by decide +kernel) (by decide +kernel), by decide +kernel, by decide +kernel, by decide +kernel, by decide +kernel⟩
theorem mm_M76 : mm_okM 76 := ⟨fun _ => mm_wi 374 (by decide +kernel) (by decide +kernel), fun h => absurd (by decide +kernel) h, by decide +kernel, mm_wi 15 (by decide +kernel) (by decide +kernel), by decide +kernel, by decide +kernel, by decide +kernel, by decide +kernel⟩
theorem mm_M77 : mm_okM 77 := ⟨fun _ => mm_wi 326 (by decide +kernel) (by decide +kernel), fun h => absurd (by decide +kernel) h, by decide +kernel, mm_wi 15 (by decide +kernel) (by decide +kernel), by decide +kernel, by decide +kernel, by decide +kernel, by decide +kernel⟩
theorem mm_M78 : mm_okM 78 := ⟨fun _ => mm_wi 435 (by decide +kernel) (by decide +kernel), fun h => absurd (by decide +kernel) h, by decide +kernel, mm_wi 15 (by decide +kernel) (by decide +kernel), by decide +kernel, by decide +kernel, by decide +kernel, by decide +kernel⟩
theorem mm_M79 : mm_okM 79 := ⟨fun _ => mm_wi 501 (by decide +kernel) (by decide +kernel), fun h => absurd (by decide +kernel) h, by decide +kernel, mm_wi 15 (by decide +kernel) (by decide +kernel), by decide +kernel, by decide +kernel, by decide +kernel, by decide +kernel⟩
theorem mm_M80 : mm_okM 80 := ⟨fun _ => mm_wi 498 (by decide +kernel) (by decide +kernel), fun h => absurd (by decide +kernel) h, by decide +kernel, mm_wi 15 (by decide +kernel) (by decide +kernel), by decide +kernel, by decide +kernel, by decide +kernel, by decide +kernel⟩
theorem mm_M81 : mm_okM 81 := ⟨fun _ => mm_wi 531 (by decide +kernel) (by decide +kernel), fun h => absurd (by decide +kernel) h, by decide +kernel, mm_wi 15 (by decide +kernel) (by decide +kernel), by decide +kernel, by decide +kernel, by decide +kernel, by decide +kernel⟩
theorem mm_M82 : mm_okM 82 := ⟨fun _ => mm_wi 562 (by decide +kernel) (by decide +kernel), fun h => absurd (by decide +kernel) h, by decide +kernel, mm_wi 15 (by decide +kernel) (by decide +kernel), by decide +kernel, by decide +kernel, by decide +kernel, by decide +kernel⟩
theorem mm_M83 : mm_okM 83 := ⟨fun _ => mm_wi 570 (by decide +kernel) (by decide +kernel), fun h => absurd (by decide +kernel) h, by decide +kernel, mm_wi 15 (by decide +kernel) (by decide +kernel), by decide +kernel, by decide +kernel, by decide +kernel, by decide +kernel⟩
theorem mm_Ms_0 : ∀ a, a < 0 → mm_okM a := lt_0
theorem mm_Ms_20 : ∀ a, a < 20 → mm_okM a := lt_s (lt_s (lt_s (lt_s (lt_s (lt_s (lt_s (lt_s (lt_s (lt_s (lt_s (lt_s (lt_s (lt_s (lt_s (lt_s (lt_s (lt_s (lt_s (lt_s (mm_Ms_0) mm_M0) mm_M1) mm_M2) mm_M3) mm_M4) mm_M5) mm_M6) mm_M7) mm_M8) mm_M9) mm_M10) mm_M11) mm_M12) mm_M13) mm_M14) mm_M15) mm_M16) mm_M17) mm_M18) mm_M19
theorem mm_Ms_40 : ∀ a, a < 40 → mm_okM a := lt_s (lt_s (lt_s (lt_s (lt_s (lt_s (lt_s (lt_s (lt_s (lt_s (lt_s (lt_s (lt_s (lt_s (lt_s (lt_s (lt_s (lt_s (lt_s (lt_s (mm_Ms_20) mm_M20) mm_M21) mm_M22) mm_M23) mm_M24) mm_M25) mm_M26) mm_M27) mm_M28) mm_M29) mm_M30) mm_M31) mm_M32) mm_M33) mm_M34) mm_M35) mm_M36) mm_M37) mm_M38) mm_M39
theorem mm_Ms_60 : ∀ a, a < 60 → mm_okM a := lt_s (lt_s (lt_s (lt_s (lt_s (lt_s (lt_s (lt_s (lt_s (lt_s (lt_s (lt_s (lt_s (lt_s (lt_s (lt_s (lt_s (lt_s (lt_s (lt_s (mm_Ms_40) mm_M40) mm_M41) mm_M42) mm_M43) mm_M44) mm_M45) mm_M46) mm_M47) mm_M48) mm_M49) mm_M50) mm_M51) mm_M52) mm_M53) mm_M54) mm_M55) mm_M56) mm_M57) mm_M58) mm_M59
theorem mm_Ms_80 : ∀ a, a < 80 → mm_okM a := lt_s (lt_s (lt_s (lt_s (lt_s (lt_s (lt_s (lt_s (lt_s (lt_s (lt_s (lt_s (lt_s (lt_s (lt_s (lt_s (lt_s (lt_s (lt_s (lt_s (mm_Ms_60) mm_M60) mm_M61) mm_M62) mm_M63) mm_M64) mm_M65) mm_M66) mm_M67) mm_M68) mm_M69) mm_M70) mm_M71) mm_M72) mm_M73) mm_M74) mm_M75) mm_M76) mm_M77) mm_M78) mm_M79
theorem mm_Ms_84 : ∀ a, a < 84 → mm_okM a := lt_s (lt_s (lt_s (lt_s (mm_Ms_80) mm_M80) mm_M81) mm_M82) mm_M83
theorem mm_MA {y : Nat} (h : y < 84) : mm_okM y := mm_Ms_84 y h
def mm_okS (a : Nat) : Prop := (mm_sd a).1.1 < 84 ∧ (mm_sd a).1.2.2.1 = mm_mL (mm_sd a).1.1 ∧
  (parseMethodDescriptor (mm_yn (mm_sd a).1.1).desc).map (fun d => d.parameters.length) = some ((mm_sd a).1.2.1 - if (mm_sd a).2.2.2 = 105 ∨ (mm_sd a).2.2.2 = 108 then 1 else 0) ∧
  (¬ (mm_sd a).2.2.2 = 107 → Cond.methodLink (mm_cn (mm_sd a).2.1) (mm_sd a).2.2.1 (mm_yn (mm_sd a).1.1) ∈ mm_w) ∧
  ((mm_sd a).2.2.2 = 105 ∨ (mm_sd a).2.2.2 = 108 → Cond.instanceMethod (mm_yn (mm_sd a).1.1) ∈ mm_w ∧ 0 < (mm_sd a).1.2.1 ∧ (mm_sd a).1.2.2.2 = 10 + mm_own (mm_sd a).1.1 ∧ mm_own (mm_sd a).1.1 < 5) ∧
  ((mm_sd a).2.2.2 = 106 ∨ (mm_sd a).2.2.2 = 107 → Cond.static (mm_yn (mm_sd a).1.1) ∈ mm_w) ∧
  ((mm_sd a).2.2.2 = 105 → Cond.selects (mm_yn (mm_sd a).1.1).cls (mm_yn (mm_sd a).1.1) (mm_yn (mm_sd a).1.1) ∈ mm_w) ∧
  ((mm_sd a).2.2.2 = 108 → (mm_yn (mm_sd a).1.1).name = "<init>" ∧ mm_rt (mm_sd a).1.1 = none ∧ mm_hh (mm_sd a).1.1 = []) ∧
  ((mm_sd a).2.2.2 = 107 → mm_hh (mm_sd a).1.1 = [] ∧ (mm_yn (mm_sd a).1.1) = yX4_within)
theorem mm_S0 : mm_okS 0 := ⟨by decide +kernel, by decide +kernel, by decide +kernel, fun _ => mm_wi 68 (by decide +kernel) (by decide +kernel), fun _ => ⟨mm_wi 69 (by decide +kernel) (by decide +kernel), by decide +kernel, by decide +kernel, by decide +kernel⟩, fun h => absurd h (by decide +kernel), fun h => absurd h (by decide +kernel), fun _ => ⟨by decide +kernel, by decide +kernel, by decide +kernel⟩, fun h => absurd h (by decide +kernel)⟩
theorem mm_S1 : mm_okS 1 := ⟨by decide +kernel, by decide +kernel, by decide +kernel, fun _ => mm_wi 82 (by decide +kernel) (by decide +kernel), fun _ => ⟨mm_wi 83 (by decide +kernel) (by decide +kernel), by decide +kernel, by decide +kernel, by decide +kernel⟩, fun h => absurd h (by decide +kernel), fun _ => mm_wi 84 (by decide +kernel) (by decide +kernel), fun h => absurd h (by decide +kernel), fun h => absurd h (by decide +kernel)⟩
theorem mm_S2 : mm_okS 2 := ⟨by decide +kernel, by decide +kernel, by decide +kernel, fun _ => mm_wi 86 (by decide +kernel) (by decide +kernel), fun _ => ⟨mm_wi 88 (by decide +kernel) (by decide +kernel), by decide +kernel, by decide +kernel, by decide +kernel⟩, fun h => absurd h (by decide +kernel), fun _ => mm_wi 0 (by decide +kernel) (by decide +kernel), fun h => absurd h (by decide +kernel), fun h => absurd h (by decide +kernel)⟩
theorem mm_S3 : mm_okS 3 := ⟨by decide +kernel, by decide +kernel, by decide +kernel, fun h => absurd (by decide +kernel) h, fun h => absurd h (by decide +kernel), fun _ => mm_wi 91 (by decide +kernel) (by decide +kernel), fun h => absurd h (by decide +kernel), fun h => absurd h (by decide +kernel), fun _ => ⟨by decide +kernel, rfl⟩⟩
theorem mm_S4 : mm_okS 4 := ⟨by decide +kernel, by decide +kernel, by decide +kernel, fun _ => mm_wi 116 (by decide +kernel) (by decide +kernel), fun _ => ⟨mm_wi 117 (by decide +kernel) (by decide +kernel), by decide +kernel, by decide +kernel, by decide +kernel⟩, fun h => absurd h (by decide +kernel), fun _ => mm_wi 118 (by decide +kernel) (by decide +kernel), fun h => absurd h (by decide +kernel), fun h => absurd h (by decide +kernel)⟩
theorem mm_S5 : mm_okS 5 := ⟨by decide +kernel, by decide +kernel, by decide +kernel, fun _ => mm_wi 206 (by decide +kernel) (by decide +kernel), fun _ => ⟨mm_wi 207 (by decide +kernel) (by decide +kernel), by decide +kernel, by decide +kernel, by decide +kernel⟩, fun h => absurd h (by decide +kernel), fun _ => mm_wi 208 (by decide +kernel) (by decide +kernel), fun h => absurd h (by decide +kernel), fun h => absurd h (by decide +kernel)⟩
theorem mm_S6 : mm_okS 6 := ⟨by decide +kernel, by decide +kernel, by decide +kernel, fun _ => mm_wi 210 (by decide +kernel) (by decide +kernel), fun _ => ⟨mm_wi 212 (by decide +kernel) (by decide +kernel), by decide +kernel, by decide +kernel, by decide +kernel⟩, fun h => absurd h (by decide +kernel), fun _ => mm_wi 4 (by decide +kernel) (by decide +kernel), fun h => absurd h (by decide +kernel), fun h => absurd h (by decide +kernel)⟩
theorem mm_S7 : mm_okS 7 := ⟨by decide +kernel, by decide +kernel, by decide +kernel, fun _ => mm_wi 388 (by decide +kernel) (by decide +kernel), fun _ => ⟨mm_wi 390 (by decide +kernel) (by decide +kernel), by decide +kernel, by decide +kernel, by decide +kernel⟩, fun h => absurd h (by decide +kernel), fun _ => mm_wi 9 (by decide +kernel) (by decide +kernel), fun h => absurd h (by decide +kernel), fun h => absurd h (by decide +kernel)⟩
theorem mm_S8 : mm_okS 8 := ⟨by decide +kernel, by decide +kernel, by decide +kernel, fun _ => mm_wi 396 (by decide +kernel) (by decide +kernel), fun _ => ⟨mm_wi 397 (by decide +kernel) (by decide +kernel), by decide +kernel, by decide +kernel, by decide +kernel⟩, fun h => absurd h (by decide +kernel), fun _ => mm_wi 398 (by decide +kernel) (by decide +kernel), fun h => absurd h (by decide +kernel), fun h => absurd h (by decide +kernel)⟩
theorem mm_S9 : mm_okS 9 := ⟨by decide +kernel, by decide +kernel, by decide +kernel, fun _ => mm_wi 97 (by decide +kernel) (by decide +kernel), fun _ => ⟨mm_wi 98 (by decide +kernel) (by decide +kernel), by decide +kernel, by decide +kernel, by decide +kernel⟩, fun h => absurd h (by decide +kernel), fun _ => mm_wi 99 (by decide +kernel) (by decide +kernel), fun h => absurd h (by decide +kernel), fun h => absurd h (by decide +kernel)⟩
theorem mm_S10 : mm_okS 10 := ⟨by decide +kernel, by decide +kernel, by decide +kernel, fun _ => mm_wi 392 (by decide +kernel) (by decide +kernel), fun _ => ⟨mm_wi 394 (by decide +kernel) (by decide +kernel), by decide +kernel, by decide +kernel, by decide +kernel⟩, fun h => absurd h (by decide +kernel), fun _ => mm_wi 10 (by decide +kernel) (by decide +kernel), fun h => absurd h (by decide +kernel), fun h => absurd h (by decide +kernel)⟩
theorem mm_S11 : mm_okS 11 := ⟨by decide +kernel, by decide +kernel, by decide +kernel, fun _ => mm_wi 101 (by decide +kernel) (by decide +kernel), fun _ => ⟨mm_wi 103 (by decide +kernel) (by decide +kernel), by decide +kernel, by decide +kernel, by decide +kernel⟩, fun h => absurd h (by decide +kernel), fun _ => mm_wi 2 (by decide +kernel) (by decide +kernel), fun h => absurd h (by decide +kernel), fun h => absurd h (by decide +kernel)⟩
theorem mm_S12 : mm_okS 12 := ⟨by decide +kernel, by decide +kernel, by decide +kernel, fun _ => mm_wi 93 (by decide +kernel) (by decide +kernel), fun _ => ⟨mm_wi 95 (by decide +kernel) (by decide +kernel), by decide +kernel, by decide +kernel, by decide +kernel⟩, fun h => absurd h (by decide +kernel), fun _ => mm_wi 1 (by decide +kernel) (by decide +kernel), fun h => absurd h (by decide +kernel), fun h => absurd h (by decide +kernel)⟩
theorem mm_S13 : mm_okS 13 := ⟨by decide +kernel, by decide +kernel, by decide +kernel, fun _ => mm_wi 105 (by decide +kernel) (by decide +kernel), fun _ => ⟨mm_wi 106 (by decide +kernel) (by decide +kernel), by decide +kernel, by decide +kernel, by decide +kernel⟩, fun h => absurd h (by decide +kernel), fun _ => mm_wi 107 (by decide +kernel) (by decide +kernel), fun h => absurd h (by decide +kernel), fun h => absurd h (by decide +kernel)⟩
theorem mm_S14 : mm_okS 14 := ⟨by decide +kernel, by decide +kernel, by decide +kernel, fun _ => mm_wi 112 (by decide +kernel) (by decide +kernel), fun _ => ⟨mm_wi 114 (by decide +kernel) (by decide +kernel), by decide +kernel, by decide +kernel, by decide +kernel⟩, fun h => absurd h (by decide +kernel), fun _ => mm_wi 3 (by decide +kernel) (by decide +kernel), fun h => absurd h (by decide +kernel), fun h => absurd h (by decide +kernel)⟩
theorem mm_S15 : mm_okS 15 := ⟨by decide +kernel, by decide +kernel, by decide +kernel, fun _ => mm_wi 109 (by decide +kernel) (by decide +kernel), fun h => absurd h (by decide +kernel), fun _ => mm_wi 110 (by decide +kernel) (by decide +kernel), fun h => absurd h (by decide +kernel), fun h => absurd h (by decide +kernel), fun h => absurd h (by decide +kernel)⟩
theorem mm_S16 : mm_okS 16 := ⟨by decide +kernel, by decide +kernel, by decide +kernel, fun _ => mm_wi 510 (by decide +kernel) (by decide +kernel), fun _ => ⟨mm_wi 493 (by decide +kernel) (by decide +kernel), by decide +kernel, by decide +kernel, by decide +kernel⟩, fun h => absurd h (by decide +kernel), fun _ => mm_wi 494 (by decide +kernel) (by decide +kernel), fun h => absurd h (by decide +kernel), fun h => absurd h (by decide +kernel)⟩
theorem mm_S17 : mm_okS 17 := ⟨by decide +kernel, by decide +kernel, by decide +kernel, fun _ => mm_wi 62 (by decide +kernel) (by decide +kernel), fun _ => ⟨mm_wi 63 (by decide +kernel) (by decide +kernel), by decide +kernel, by decide +kernel, by decide +kernel⟩, fun h => absurd h (by decide +kernel), fun h => absurd h (by decide +kernel), fun _ => ⟨by decide +kernel, by decide +kernel, by decide +kernel⟩, fun h => absurd h (by decide +kernel)⟩
theorem mm_S18 : mm_okS 18 := ⟨by decide +kernel, by decide +kernel, by decide +kernel, fun _ => mm_wi 290 (by decide +kernel) (by decide +kernel), fun _ => ⟨mm_wi 195 (by decide +kernel) (by decide +kernel), by decide +kernel, by decide +kernel, by decide +kernel⟩, fun h => absurd h (by decide +kernel), fun _ => mm_wi 196 (by decide +kernel) (by decide +kernel), fun h => absurd h (by decide +kernel), fun h => absurd h (by decide +kernel)⟩
theorem mm_S19 : mm_okS 19 := ⟨by decide +kernel, by decide +kernel, by decide +kernel, fun _ => mm_wi 291 (by decide +kernel) (by decide +kernel), fun _ => ⟨mm_wi 292 (by decide +kernel) (by decide +kernel), by decide +kernel, by decide +kernel, by decide +kernel⟩, fun h => absurd h (by decide +kernel), fun _ => mm_wi 293 (by decide +kernel) (by decide +kernel), fun h => absurd h (by decide +kernel), fun h => absurd h (by decide +kernel)⟩
theorem mm_S20 : mm_okS 20 := ⟨by decide +kernel, by decide +kernel, by decide +kernel, fun _ => mm_wi 295 (by decide +kernel) (by decide +kernel), fun _ => ⟨mm_wi 98 (by decide +kernel) (by decide +kernel), by decide +kernel, by decide +kernel, by decide +kernel⟩, fun h => absurd h (by decide +kernel), fun _ => mm_wi 99 (by decide +kernel) (by decide +kernel), fun h => absurd h (by decide +kernel), fun h => absurd h (by decide +kernel)⟩
theorem mm_S21 : mm_okS 21 := ⟨by decide +kernel, by decide +kernel, by decide +kernel, fun _ => mm_wi 296 (by decide +kernel) (by decide +kernel), fun _ => ⟨mm_wi 298 (by decide +kernel) (by decide +kernel), by decide +kernel, by decide +kernel, by decide +kernel⟩, fun h => absurd h (by decide +kernel), fun _ => mm_wi 6 (by decide +kernel) (by decide +kernel), fun h => absurd h (by decide +kernel), fun h => absurd h (by decide +kernel)⟩
theorem mm_S22 : mm_okS 22 := ⟨by decide +kernel, by decide +kernel, by decide +kernel, fun _ => mm_wi 304 (by decide +kernel) (by decide +kernel), fun _ => ⟨mm_wi 306 (by decide +kernel) (by decide +kernel), by decide +kernel, by decide +kernel, by decide +kernel⟩, fun h => absurd h (by decide +kernel), fun _ => mm_wi 7 (by decide +kernel) (by decide +kernel), fun h => absurd h (by decide +kernel), fun h => absurd h (by decide +kernel)⟩
theorem mm_S23 : mm_okS 23 := ⟨by decide +kernel, by decide +kernel, by decide +kernel, fun _ => mm_wi 551 (by decide +kernel) (by decide +kernel), fun _ => ⟨mm_wi 553 (by decide +kernel) (by decide +kernel), by decide +kernel, by decide +kernel, by decide +kernel⟩, fun h => absurd h (by decide +kernel), fun _ => mm_wi 14 (by decide +kernel) (by decide +kernel), fun h => absurd h (by decide +kernel), fun h => absurd h (by decide +kernel)⟩
theorem mm_S24 : mm_okS 24 := ⟨by decide +kernel, by decide +kernel, by decide +kernel, fun _ => mm_wi 466 (by decide +kernel) (by decide +kernel), fun _ => ⟨mm_wi 183 (by decide +kernel) (by decide +kernel), by decide +kernel, by decide +kernel, by decide +kernel⟩, fun h => absurd h (by decide +kernel), fun _ => mm_wi 184 (by decide +kernel) (by decide +kernel), fun h => absurd h (by decide +kernel), fun h => absurd h (by decide +kernel)⟩
theorem mm_S25 : mm_okS 25 := ⟨by decide +kernel, by decide +kernel, by decide +kernel, fun _ => mm_wi 467 (by decide +kernel) (by decide +kernel), fun _ => ⟨mm_wi 407 (by decide +kernel) (by decide +kernel), by decide +kernel, by decide +kernel, by decide +kernel⟩, fun h => absurd h (by decide +kernel), fun _ => mm_wi 408 (by decide +kernel) (by decide +kernel), fun h => absurd h (by decide +kernel), fun h => absurd h (by decide +kernel)⟩
theorem mm_S26 : mm_okS 26 := ⟨by decide +kernel, by decide +kernel, by decide +kernel, fun _ => mm_wi 312 (by decide +kernel) (by decide +kernel), fun _ => ⟨mm_wi 187 (by decide +kernel) (by decide +kernel), by decide +kernel, by decide +kernel, by decide +kernel⟩, fun h => absurd h (by decide +kernel), fun _ => mm_wi 188 (by decide +kernel) (by decide +kernel), fun h => absurd h (by decide +kernel), fun h => absurd h (by decide +kernel)⟩
theorem mm_S27 : mm_okS 27 := ⟨by decide +kernel, by decide +kernel, by decide +kernel, fun _ => mm_wi 313 (by decide +kernel) (by decide +kernel), fun _ => ⟨mm_wi 314 (by decide +kernel) (by decide +kernel), by decide +kernel, by decide +kernel, by decide +kernel⟩, fun h => absurd h (by decide +kernel), fun _ => mm_wi 315 (by decide +kernel) (by decide +kernel), fun h => absurd h (by decide +kernel), fun h => absurd h (by decide +kernel)⟩
theorem mm_S28 : mm_okS 28 := ⟨by decide +kernel, by decide +kernel, by decide +kernel, fun _ => mm_wi 555 (by decide +kernel) (by decide +kernel), fun _ => ⟨mm_wi 556 (by decide +kernel) (by decide +kernel), by decide +kernel, by decide +kernel, by decide +kernel⟩, fun h => absurd h (by decide +kernel), fun _ => mm_wi 557 (by decide +kernel) (by decide +kernel), fun h => absurd h (by decide +kernel), fun h => absurd h (by decide +kernel)⟩
theorem mm_S29 : mm_okS 29 := ⟨by decide +kernel, by decide +kernel, by decide +kernel, fun _ => mm_wi 559 (by decide +kernel) (by decide +kernel), fun _ => ⟨mm_wi 507 (by decide +kernel) (by decide +kernel), by decide +kernel, by decide +kernel, by decide +kernel⟩, fun h => absurd h (by decide +kernel), fun _ => mm_wi 508 (by decide +kernel) (by decide +kernel), fun h => absurd h (by decide +kernel), fun h => absurd h (by decide +kernel)⟩
theorem mm_S30 : mm_okS 30 := ⟨by decide +kernel, by decide +kernel, by decide +kernel, fun h => absurd (by decide +kernel) h, fun h => absurd h (by decide +kernel), fun _ => mm_wi 91 (by decide +kernel) (by decide +kernel), fun h => absurd h (by decide +kernel), fun h => absurd h (by decide +kernel), fun _ => ⟨by decide +kernel, rfl⟩⟩
theorem mm_S31 : mm_okS 31 := ⟨by decide +kernel, by decide +kernel, by decide +kernel, fun h => absurd (by decide +kernel) h, fun h => absurd h (by decide +kernel), fun _ => mm_wi 91 (by decide +kernel) (by decide +kernel), fun h => absurd h (by decide +kernel), fun h => absurd h (by decide +kernel), fun _ => ⟨by decide +kernel, rfl⟩⟩
theorem mm_S32 : mm_okS 32 := ⟨by decide +kernel, by decide +kernel, by decide +kernel, fun _ => mm_wi 39 (by decide +kernel) (by decide +kernel), fun _ => ⟨mm_wi 40 (by decide +kernel) (by decide +kernel), by decide +kernel, by decide +kernel, by decide +kernel⟩, fun h => absurd h (by decide +kernel), fun h => absurd h (by decide +kernel), fun _ => ⟨by decide +kernel, by decide +kernel, by decide +kernel⟩, fun h => absurd h (by decide +kernel)⟩
theorem mm_S33 : mm_okS 33 := ⟨by decide +kernel, by decide +kernel, by decide +kernel, fun _ => mm_wi 56 (by decide +kernel) (by decide +kernel), fun _ => ⟨mm_wi 57 (by decide +kernel) (by decide +kernel), by decide +kernel, by decide +kernel, by decide +kernel⟩, fun h => absurd h (by decide +kernel), fun h => absurd h (by decide +kernel), fun _ => ⟨by decide +kernel, by decide +kernel, by decide +kernel⟩, fun h => absurd h (by decide +kernel)⟩
theorem mm_S34 : mm_okS 34 := ⟨by decide +kernel, by decide +kernel, by decide +kernel, fun _ => mm_wi 351 (by decide +kernel) (by decide +kernel), fun _ => ⟨mm_wi 353 (by decide +kernel) (by decide +kernel), by decide +kernel, by decide +kernel, by decide +kernel⟩, fun h => absurd h (by decide +kernel), fun _ => mm_wi 8 (by decide +kernel) (by decide +kernel), fun h => absurd h (by decide +kernel), fun h => absurd h (by decide +kernel)⟩
theorem mm_S35 : mm_okS 35 := ⟨by decide +kernel, by decide +kernel, by decide +kernel, fun _ => mm_wi 379 (by decide +kernel) (by decide +kernel), fun h => absurd h (by decide +kernel), fun _ => mm_wi 380 (by decide +kernel) (by decide +kernel), fun h => absurd h (by decide +kernel), fun h => absurd h (by decide +kernel), fun h => absurd h (by decide +kernel)⟩
theorem mm_S36 : mm_okS 36 := ⟨by decide +kernel, by decide +kernel, by decide +kernel, fun _ => mm_wi 182 (by decide +kernel) (by decide +kernel), fun _ => ⟨mm_wi 183 (by decide +kernel) (by decide +kernel), by decide +kernel, by decide +kernel, by decide +kernel⟩, fun h => absurd h (by decide +kernel), fun _ => mm_wi 184 (by decide +kernel) (by decide +kernel), fun h => absurd h (by decide +kernel), fun h => absurd h (by decide +kernel)⟩
theorem mm_S37 : mm_okS 37 := ⟨by decide +kernel, by decide +kernel, by decide +kernel, fun _ => mm_wi 384 (by decide +kernel) (by decide +kernel), fun _ => ⟨mm_wi 385 (by decide +kernel) (by decide +kernel), by decide +kernel, by decide +kernel, by decide +kernel⟩, fun h => absurd h (by decide +kernel), fun _ => mm_wi 386 (by decide +kernel) (by decide +kernel), fun h => absurd h (by decide +kernel), fun h => absurd h (by decide +kernel)⟩
theorem mm_S38 : mm_okS 38 := ⟨by decide +kernel, by decide +kernel, by decide +kernel, fun _ => mm_wi 400 (by decide +kernel) (by decide +kernel), fun _ => ⟨mm_wi 314 (by decide +kernel) (by decide +kernel), by decide +kernel, by decide +kernel, by decide +kernel⟩, fun h => absurd h (by decide +kernel), fun _ => mm_wi 315 (by decide +kernel) (by decide +kernel), fun h => absurd h (by decide +kernel), fun h => absurd h (by decide +kernel)⟩
theorem mm_S39 : mm_okS 39 := ⟨by decide +kernel, by decide +kernel, by decide +kernel, fun _ => mm_wi 355 (by decide +kernel) (by decide +kernel), fun h => absurd h (by decide +kernel), fun _ => mm_wi 91 (by decide +kernel) (by decide +kernel), fun h => absurd h (by decide +kernel), fun h => absurd h (by decide +kernel), fun h => absurd h (by decide +kernel)⟩
theorem mm_S40 : mm_okS 40 := ⟨by decide +kernel, by decide +kernel, by decide +kernel, fun _ => mm_wi 406 (by decide +kernel) (by decide +kernel), fun _ => ⟨mm_wi 407 (by decide +kernel) (by decide +kernel), by decide +kernel, by decide +kernel, by decide +kernel⟩, fun h => absurd h (by decide +kernel), fun _ => mm_wi 408 (by decide +kernel) (by decide +kernel), fun h => absurd h (by decide +kernel), fun h => absurd h (by decide +kernel)⟩
theorem mm_S41 : mm_okS 41 := ⟨by decide +kernel, by decide +kernel, by decide +kernel, fun _ => mm_wi 429 (by decide +kernel) (by decide +kernel), fun _ => ⟨mm_wi 430 (by decide +kernel) (by decide +kernel), by decide +kernel, by decide +kernel, by decide +kernel⟩, fun h => absurd h (by decide +kernel), fun _ => mm_wi 431 (by decide +kernel) (by decide +kernel), fun h => absurd h (by decide +kernel), fun h => absurd h (by decide +kernel)⟩
theorem mm_S42 : mm_okS 42 := ⟨by decide +kernel, by decide +kernel, by decide +kernel, fun _ => mm_wi 186 (by decide +kernel) (by decide +kernel), fun _ => ⟨mm_wi 187 (by decide +kernel) (by decide +kernel), by decide +kernel, by decide +kernel, by decide +kernel⟩, fun h => absurd h (by decide +kernel), fun _ => mm_wi 188 (by decide +kernel) (by decide +kernel), fun h => absurd h (by decide +kernel), fun h => absurd h (by decide +kernel)⟩
theorem mm_S43 : mm_okS 43 := ⟨by decide +kernel, by decide +kernel, by decide +kernel, fun _ => mm_wi 445 (by decide +kernel) (by decide +kernel), fun _ => ⟨mm_wi 447 (by decide +kernel) (by decide +kernel), by decide +kernel, by decide +kernel, by decide +kernel⟩, fun h => absurd h (by decide +kernel), fun _ => mm_wi 11 (by decide +kernel) (by decide +kernel), fun h => absurd h (by decide +kernel), fun h => absurd h (by decide +kernel)⟩
theorem mm_S44 : mm_okS 44 := ⟨by decide +kernel, by decide +kernel, by decide +kernel, fun _ => mm_wi 506 (by decide +kernel) (by decide +kernel), fun _ => ⟨mm_wi 507 (by decide +kernel) (by decide +kernel), by decide +kernel, by decide +kernel, by decide +kernel⟩, fun h => absurd h (by decide +kernel), fun _ => mm_wi 508 (by decide +kernel) (by decide +kernel), fun h => absurd h (by decide +kernel), fun h => absurd h (by decide +kernel)⟩
theorem mm_S45 : mm_okS 45 := ⟨by decide +kernel, by decide +kernel, by decide +kernel, fun _ => mm_wi 492 (by decide +kernel) (by decide +kernel), fun _ => ⟨mm_wi 493 (by decide +kernel) (by decide +kernel), by decide +kernel, by decide +kernel, by decide +kernel⟩, fun h => absurd h (by decide +kernel), fun _ => mm_wi 494 (by decide +kernel) (by decide +kernel), fun h => absurd h (by decide +kernel), fun h => absurd h (by decide +kernel)⟩
theorem mm_S46 : mm_okS 46 := ⟨by decide +kernel, by decide +kernel, by decide +kernel, fun _ => mm_wi 472 (by decide +kernel) (by decide +kernel), fun _ => ⟨mm_wi 473 (by decide +kernel) (by decide +kernel), by decide +kernel, by decide +kernel, by decide +kernel⟩, fun h => absurd h (by decide +kernel), fun _ => mm_wi 474 (by decide +kernel) (by decide +kernel), fun h => absurd h (by decide +kernel), fun h => absurd h (by decide +kernel)⟩
theorem mm_S47 : mm_okS 47 := ⟨by decide +kernel, by decide +kernel, by decide +kernel, fun _ => mm_wi 476 (by decide +kernel) (by decide +kernel), fun _ => ⟨mm_wi 478 (by decide +kernel) (by decide +kernel), by decide +kernel, by decide +kernel, by decide +kernel⟩, fun h => absurd h (by decide +kernel), fun _ => mm_wi 13 (by decide +kernel) (by decide +kernel), fun h => absurd h (by decide +kernel), fun h => absurd h (by decide +kernel)⟩
theorem mm_S48 : mm_okS 48 := ⟨by decide +kernel, by decide +kernel, by decide +kernel, fun _ => mm_wi 484 (by decide +kernel) (by decide +kernel), fun _ => ⟨mm_wi 485 (by decide +kernel) (by decide +kernel), by decide +kernel, by decide +kernel, by decide +kernel⟩, fun h => absurd h (by decide +kernel), fun _ => mm_wi 486 (by decide +kernel) (by decide +kernel), fun h => absurd h (by decide +kernel), fun h => absurd h (by decide +kernel)⟩
theorem mm_S49 : mm_okS 49 := ⟨by decide +kernel, by decide +kernel, by decide +kernel, fun _ => mm_wi 449 (by decide +kernel) (by decide +kernel), fun _ => ⟨mm_wi 451 (by decide +kernel) (by decide +kernel), by decide +kernel, by decide +kernel, by decide +kernel⟩, fun h => absurd h (by decide +kernel), fun _ => mm_wi 12 (by decide +kernel) (by decide +kernel), fun h => absurd h (by decide +kernel), fun h => absurd h (by decide +kernel)⟩
theorem mm_S50 : mm_okS 50 := ⟨by decide +kernel, by decide +kernel, by decide +kernel, fun _ => mm_wi 453 (by decide +kernel) (by decide +kernel), fun _ => ⟨mm_wi 98 (by decide +kernel) (by decide +kernel), by decide +kernel, by decide +kernel, by decide +kernel⟩, fun h => absurd h (by decide +kernel), fun _ => mm_wi 99 (by decide +kernel) (by decide +kernel), fun h => absurd h (by decide +kernel), fun h => absurd h (by decide +kernel)⟩
theorem mm_S51 : mm_okS 51 := ⟨by decide +kernel, by decide +kernel, by decide +kernel, fun _ => mm_wi 194 (by decide +kernel) (by decide +kernel), fun _ => ⟨mm_wi 195 (by decide +kernel) (by decide +kernel), by decide +kernel, by decide +kernel, by decide +kernel⟩, fun h => absurd h (by decide +kernel), fun _ => mm_wi 196 (by decide +kernel) (by decide +kernel), fun h => absurd h (by decide +kernel), fun h => absurd h (by decide +kernel)⟩
theorem mm_S52 : mm_okS 52 := ⟨by decide +kernel, by decide +kernel, by decide +kernel, fun _ => mm_wi 523 (by decide +kernel) (by decide +kernel), fun _ => ⟨mm_wi 117 (by decide +kernel) (by decide +kernel), by decide +kernel, by decide +kernel, by decide +kernel⟩, fun h => absurd h (by decide +kernel), fun _ => mm_wi 118 (by decide +kernel) (by decide +kernel), fun h => absurd h (by decide +kernel), fun h => absurd h (by decide +kernel)⟩
theorem mm_S53 : mm_okS 53 := ⟨by decide +kernel, by decide +kernel, by decide +kernel, fun _ => mm_wi 528 (by decide +kernel) (by decide +kernel), fun _ => ⟨mm_wi 207 (by decide +kernel) (by decide +kernel), by decide +kernel, by decide +kernel, by decide +kernel⟩, fun h => absurd h (by decide +kernel), fun _ => mm_wi 208 (by decide +kernel) (by decide +kernel), fun h => absurd h (by decide +kernel), fun h => absurd h (by decide +kernel)⟩
theorem mm_S54 : mm_okS 54 := ⟨by decide +kernel, by decide +kernel, by decide +kernel, fun _ => mm_wi 202 (by decide +kernel) (by decide +kernel), fun _ => ⟨mm_wi 203 (by decide +kernel) (by decide +kernel), by decide +kernel, by decide +kernel, by decide +kernel⟩, fun h => absurd h (by decide +kernel), fun _ => mm_wi 204 (by decide +kernel) (by decide +kernel), fun h => absurd h (by decide +kernel), fun h => absurd h (by decide +kernel)⟩
theorem mm_S55 : mm_okS 55 := ⟨by decide +kernel, by decide +kernel, by decide +kernel, fun _ => mm_wi 458 (by decide +kernel) (by decide +kernel), fun _ => ⟨mm_wi 459 (by decide +kernel) (by decide +kernel), by decide +kernel, by decide +kernel, by decide +kernel⟩, fun h => absurd h (by decide +kernel), fun _ => mm_wi 460 (by decide +kernel) (by decide +kernel), fun h => absurd h (by decide +kernel), fun h => absurd h (by decide +kernel)⟩
theorem mm_S56 : mm_okS 56 := ⟨by decide +kernel, by decide +kernel, by decide +kernel, fun _ => mm_wi 462 (by decide +kernel) (by decide +kernel), fun _ => ⟨mm_wi 463 (by decide +kernel) (by decide +kernel), by decide +kernel, by decide +kernel, by decide +kernel⟩, fun h => absurd h (by decide +kernel), fun _ => mm_wi 464 (by decide +kernel) (by decide +kernel), fun h => absurd h (by decide +kernel), fun h => absurd h (by decide +kernel)⟩
theorem mm_S57 : mm_okS 57 := ⟨by decide +kernel, by decide +kernel, by decide +kernel, fun _ => mm_wi 537 (by decide +kernel) (by decide +kernel), fun _ => ⟨mm_wi 538 (by decide +kernel) (by decide +kernel), by decide +kernel, by decide +kernel, by decide +kernel⟩, fun h => absurd h (by decide +kernel), fun _ => mm_wi 539 (by decide +kernel) (by decide +kernel), fun h => absurd h (by decide +kernel), fun h => absurd h (by decide +kernel)⟩
theorem mm_S58 : mm_okS 58 := ⟨by decide +kernel, by decide +kernel, by decide +kernel, fun _ => mm_wi 546 (by decide +kernel) (by decide +kernel), fun _ => ⟨mm_wi 547 (by decide +kernel) (by decide +kernel), by decide +kernel, by decide +kernel, by decide +kernel⟩, fun h => absurd h (by decide +kernel), fun _ => mm_wi 548 (by decide +kernel) (by decide +kernel), fun h => absurd h (by decide +kernel), fun h => absurd h (by decide +kernel)⟩
theorem mm_S59 : mm_okS 59 := ⟨by decide +kernel, by decide +kernel, by decide +kernel, fun _ => mm_wi 308 (by decide +kernel) (by decide +kernel), fun _ => ⟨mm_wi 309 (by decide +kernel) (by decide +kernel), by decide +kernel, by decide +kernel, by decide +kernel⟩, fun h => absurd h (by decide +kernel), fun _ => mm_wi 310 (by decide +kernel) (by decide +kernel), fun h => absurd h (by decide +kernel), fun h => absurd h (by decide +kernel)⟩
theorem mm_S60 : mm_okS 60 := ⟨by decide +kernel, by decide +kernel, by decide +kernel, fun _ => mm_wi 286 (by decide +kernel) (by decide +kernel), fun _ => ⟨mm_wi 287 (by decide +kernel) (by decide +kernel), by decide +kernel, by decide +kernel, by decide +kernel⟩, fun h => absurd h (by decide +kernel), fun _ => mm_wi 288 (by decide +kernel) (by decide +kernel), fun h => absurd h (by decide +kernel), fun h => absurd h (by decide +kernel)⟩
theorem mm_S61 : mm_okS 61 := ⟨by decide +kernel, by decide +kernel, by decide +kernel, fun _ => mm_wi 174 (by decide +kernel) (by decide +kernel), fun _ => ⟨mm_wi 175 (by decide +kernel) (by decide +kernel), by decide +kernel, by decide +kernel, by decide +kernel⟩, fun h => absurd h (by decide +kernel), fun _ => mm_wi 176 (by decide +kernel) (by decide +kernel), fun h => absurd h (by decide +kernel), fun h => absurd h (by decide +kernel)⟩
theorem mm_S62 : mm_okS 62 := ⟨by decide +kernel, by decide +kernel, by decide +kernel, fun _ => mm_wi 347 (by decide +kernel) (by decide +kernel), fun _ => ⟨mm_wi 348 (by decide +kernel) (by decide +kernel), by decide +kernel, by decide +kernel, by decide +kernel⟩, fun h => absurd h (by decide +kernel), fun _ => mm_wi 349 (by decide +kernel) (by decide +kernel), fun h => absurd h (by decide +kernel), fun h => absurd h (by decide +kernel)⟩
theorem mm_S63 : mm_okS 63 := ⟨by decide +kernel, by decide +kernel, by decide +kernel, fun _ => mm_wi 327 (by decide +kernel) (by decide +kernel), fun _ => ⟨mm_wi 328 (by decide +kernel) (by decide +kernel), by decide +kernel, by decide +kernel, by decide +kernel⟩, fun h => absurd h (by decide +kernel), fun _ => mm_wi 329 (by decide +kernel) (by decide +kernel), fun h => absurd h (by decide +kernel), fun h => absurd h (by decide +kernel)⟩
theorem mm_S64 : mm_okS 64 := ⟨by decide +kernel, by decide +kernel, by decide +kernel, fun _ => mm_wi 372 (by decide +kernel) (by decide +kernel), fun h => absurd h (by decide +kernel), fun _ => mm_wi 373 (by decide +kernel) (by decide +kernel), fun h => absurd h (by decide +kernel), fun h => absurd h (by decide +kernel), fun h => absurd h (by decide +kernel)⟩
theorem mm_S65 : mm_okS 65 := ⟨by decide +kernel, by decide +kernel, by decide +kernel, fun _ => mm_wi 375 (by decide +kernel) (by decide +kernel), fun _ => ⟨mm_wi 376 (by decide +kernel) (by decide +kernel), by decide +kernel, by decide +kernel, by decide +kernel⟩, fun h => absurd h (by decide +kernel), fun _ => mm_wi 377 (by decide +kernel) (by decide +kernel), fun h => absurd h (by decide +kernel), fun h => absurd h (by decide +kernel)⟩
theorem mm_S66 : mm_okS 66 := ⟨by decide +kernel, by decide +kernel, by decide +kernel, fun _ => mm_wi 401 (by decide +kernel) (by decide +kernel), fun _ => ⟨mm_wi 402 (by decide +kernel) (by decide +kernel), by decide +kernel, by decide +kernel, by decide +kernel⟩, fun h => absurd h (by decide +kernel), fun _ => mm_wi 403 (by decide +kernel) (by decide +kernel), fun h => absurd h (by decide +kernel), fun h => absurd h (by decide +kernel)⟩
theorem mm_S67 : mm_okS 67 := ⟨by decide +kernel, by decide +kernel, by decide +kernel, fun _ => mm_wi 410 (by decide +kernel) (by decide +kernel), fun _ => ⟨mm_wi 411 (by decide +kernel) (by decide +kernel), by decide +kernel, by decide +kernel, by decide +kernel⟩, fun h => absurd h (by decide +kernel), fun _ => mm_wi 412 (by decide +kernel) (by decide +kernel), fun h => absurd h (by decide +kernel), fun h => absurd h (by decide +kernel)⟩
theorem mm_S68 : mm_okS 68 := ⟨by decide +kernel, by decide +kernel, by decide +kernel, fun _ => mm_wi 414 (by decide +kernel) (by decide +kernel), fun _ => ⟨mm_wi 415 (by decide +kernel) (by decide +kernel), by decide +kernel, by decide +kernel, by decide +kernel⟩, fun h => absurd h (by decide +kernel), fun _ => mm_wi 416 (by decide +kernel) (by decide +kernel), fun h => absurd h (by decide +kernel), fun h => absurd h (by decide +kernel)⟩
theorem mm_S69 : mm_okS 69 := ⟨by decide +kernel, by decide +kernel, by decide +kernel, fun _ => mm_wi 419 (by decide +kernel) (by decide +kernel), fun _ => ⟨mm_wi 420 (by decide +kernel) (by decide +kernel), by decide +kernel, by decide +kernel, by decide +kernel⟩, fun h => absurd h (by decide +kernel), fun _ => mm_wi 421 (by decide +kernel) (by decide +kernel), fun h => absurd h (by decide +kernel), fun h => absurd h (by decide +kernel)⟩
theorem mm_S70 : mm_okS 70 := ⟨by decide +kernel, by decide +kernel, by decide +kernel, fun _ => mm_wi 424 (by decide +kernel) (by decide +kernel), fun _ => ⟨mm_wi 425 (by decide +kernel) (by decide +kernel), by decide +kernel, by decide +kernel, by decide +kernel⟩, fun h => absurd h (by decide +kernel), fun _ => mm_wi 426 (by decide +kernel) (by decide +kernel), fun h => absurd h (by decide +kernel), fun h => absurd h (by decide +kernel)⟩
theorem mm_S71 : mm_okS 71 := ⟨by decide +kernel, by decide +kernel, by decide +kernel, fun _ => mm_wi 433 (by decide +kernel) (by decide +kernel), fun h => absurd h (by decide +kernel), fun _ => mm_wi 434 (by decide +kernel) (by decide +kernel), fun h => absurd h (by decide +kernel), fun h => absurd h (by decide +kernel), fun h => absurd h (by decide +kernel)⟩
theorem mm_S72 : mm_okS 72 := ⟨by decide +kernel, by decide +kernel, by decide +kernel, fun _ => mm_wi 436 (by decide +kernel) (by decide +kernel), fun _ => ⟨mm_wi 437 (by decide +kernel) (by decide +kernel), by decide +kernel, by decide +kernel, by decide +kernel⟩, fun h => absurd h (by decide +kernel), fun _ => mm_wi 438 (by decide +kernel) (by decide +kernel), fun h => absurd h (by decide +kernel), fun h => absurd h (by decide +kernel)⟩
theorem mm_S73 : mm_okS 73 := ⟨by decide +kernel, by decide +kernel, by decide +kernel, fun _ => mm_wi 441 (by decide +kernel) (by decide +kernel), fun _ => ⟨mm_wi 442 (by decide +kernel) (by decide +kernel), by decide +kernel, by decide +kernel, by decide +kernel⟩, fun h => absurd h (by decide +kernel), fun _ => mm_wi 443 (by decide +kernel) (by decide +kernel), fun h => absurd h (by decide +kernel), fun h => absurd h (by decide +kernel)⟩
theorem mm_S74 : mm_okS 74 := ⟨by decide +kernel, by decide +kernel, by decide +kernel, fun _ => mm_wi 454 (by decide +kernel) (by decide +kernel), fun _ => ⟨mm_wi 455 (by decide +kernel) (by decide +kernel), by decide +kernel, by decide +kernel, by decide +kernel⟩, fun h => absurd h (by decide +kernel), fun _ => mm_wi 456 (by decide +kernel) (by decide +kernel), fun h => absurd h (by decide +kernel), fun h => absurd h (by decide +kernel)⟩
theorem mm_S75 : mm_okS 75 := ⟨by decide +kernel, by decide +kernel, by decide +kernel, fun _ => mm_wi 468 (by decide +kernel) (by decide +kernel), fun _ => ⟨mm_wi 469 (by decide +kernel) (by decide +kernel), by decide +kernel, by decide +kernel, by decide +kernel⟩, fun h => absurd h (by decide +kernel), fun _ => mm_wi 470 (by decide +kernel) (by decide +kernel), fun h => absurd h (by decide +kernel), fun h => absurd h (by decide +kernel)⟩
theorem mm_S76 : mm_okS 76 := ⟨by decide +kernel, by decide +kernel, by decide +kernel, fun _ => mm_wi 480 (by decide +kernel) (by decide +kernel), fun _ => ⟨mm_wi 481 (by decide +kernel) (by decide +kernel), by decide +kernel, by decide +kernel, by decide +kernel⟩, fun h => absurd h (by decide +kernel), fun _ => mm_wi 482 (by decide +kernel) (by decide +kernel), fun h => absurd h (by decide +kernel), fun h => absurd h (by decide +kernel)⟩
theorem mm_S77 : mm_okS 77 := ⟨by decide +kernel, by decide +kernel, by decide +kernel, fun _ => mm_wi 488 (by decide +kernel) (by decide +kernel), fun _ => ⟨mm_wi 489 (by decide +kernel) (by decide +kernel), by decide +kernel, by decide +kernel, by decide +kernel⟩, fun h => absurd h (by decide +kernel), fun _ => mm_wi 490 (by decide +kernel) (by decide +kernel), fun h => absurd h (by decide +kernel), fun h => absurd h (by decide +kernel)⟩
theorem mm_S78 : mm_okS 78 := ⟨by decide +kernel, by decide +kernel, by decide +kernel, fun _ => mm_wi 198 (by decide +kernel) (by decide +kernel), fun _ => ⟨mm_wi 199 (by decide +kernel) (by decide +kernel), by decide +kernel, by decide +kernel, by decide +kernel⟩, fun h => absurd h (by decide +kernel), fun _ => mm_wi 200 (by decide +kernel) (by decide +kernel), fun h => absurd h (by decide +kernel), fun h => absurd h (by decide +kernel)⟩
theorem mm_S79 : mm_okS 79 := ⟨by decide +kernel, by decide +kernel, by decide +kernel, fun _ => mm_wi 499 (by decide +kernel) (by decide +kernel), fun h => absurd h (by decide +kernel), fun _ => mm_wi 500 (by decide +kernel) (by decide +kernel), fun h => absurd h (by decide +kernel), fun h => absurd h (by decide +kernel), fun h => absurd h (by decide +kernel)⟩
theorem mm_S80 : mm_okS 80 := ⟨by decide +kernel, by decide +kernel, by decide +kernel, fun _ => mm_wi 502 (by decide +kernel) (by decide +kernel), fun _ => ⟨mm_wi 503 (by decide +kernel) (by decide +kernel), by decide +kernel, by decide +kernel, by decide +kernel⟩, fun h => absurd h (by decide +kernel), fun _ => mm_wi 504 (by decide +kernel) (by decide +kernel), fun h => absurd h (by decide +kernel), fun h => absurd h (by decide +kernel)⟩
theorem mm_S81 : mm_okS 81 := ⟨by decide +kernel, by decide +kernel, by decide +kernel, fun _ => mm_wi 511 (by decide +kernel) (by decide +kernel), fun _ => ⟨mm_wi 512 (by decide +kernel) (by decide +kernel), by decide +kernel, by decide +kernel, by decide +kernel⟩, fun h => absurd h (by decide +kernel), fun _ => mm_wi 513 (by decide +kernel) (by decide +kernel), fun h => absurd h (by decide +kernel), fun h => absurd h (by decide +kernel)⟩
theorem mm_S82 : mm_okS 82 := ⟨by decide +kernel, by decide +kernel, by decide +kernel, fun _ => mm_wi 515 (by decide +kernel) (by decide +kernel), fun _ => ⟨mm_wi 516 (by decide +kernel) (by decide +kernel), by decide +kernel, by decide +kernel, by decide +kernel⟩, fun h => absurd h (by decide +kernel), fun _ => mm_wi 517 (by decide +kernel) (by decide +kernel), fun h => absurd h (by decide +kernel), fun h => absurd h (by decide +kernel)⟩
theorem mm_S83 : mm_okS 83 := ⟨by decide +kernel, by decide +kernel, by decide +kernel, fun _ => mm_wi 519 (by decide +kernel) (by decide +kernel), fun _ => ⟨mm_wi 520 (by decide +kernel) (by decide +kernel), by decide +kernel, by decide +kernel, by decide +kernel⟩, fun h => absurd h (by decide +kernel), fun _ => mm_wi 521 (by decide +kernel) (by decide +kernel), fun h => absurd h (by decide +kernel), fun h => absurd h (by decide +kernel)⟩
theorem mm_S84 : mm_okS 84 := ⟨by decide +kernel, by decide +kernel, by decide +kernel, fun _ => mm_wi 524 (by decide +kernel) (by decide +kernel), fun _ => ⟨mm_wi 525 (by decide +kernel) (by decide +kernel), by decide +kernel, by decide +kernel, by decide +kernel⟩, fun h => absurd h (by decide +kernel), fun _ => mm_wi 526 (by decide +kernel) (by decide +kernel), fun h => absurd h (by decide +kernel), fun h => absurd h (by decide +kernel)⟩
theorem mm_S85 : mm_okS 85 := ⟨by decide +kernel, by decide +kernel, by decide +kernel, fun _ => mm_wi 532 (by decide +kernel) (by decide +kernel), fun _ => ⟨mm_wi 533 (by decide +kernel) (by decide +kernel), by decide +kernel, by decide +kernel, by decide +kernel⟩, fun h => absurd h (by decide +kernel), fun _ => mm_wi 534 (by decide +kernel) (by decide +kernel), fun h => absurd h (by decide +kernel), fun h => absurd h (by decide +kernel)⟩
theorem mm_S86 : mm_okS 86 := ⟨by decide +kernel, by decide +kernel, by decide +kernel, fun _ => mm_wi 190 (by decide +kernel) (by decide +kernel), fun _ => ⟨mm_wi 191 (by decide +kernel) (by decide +kernel), by decide +kernel, by decide +kernel, by decide +kernel⟩, fun h => absurd h (by decide +kernel), fun _ => mm_wi 192 (by decide +kernel) (by decide +kernel), fun h => absurd h (by decide +kernel), fun h => absurd h (by decide +kernel)⟩
theorem mm_S87 : mm_okS 87 := ⟨by decide +kernel, by decide +kernel, by decide +kernel, fun _ => mm_wi 541 (by decide +kernel) (by decide +kernel), fun _ => ⟨mm_wi 542 (by decide +kernel) (by decide +kernel), by decide +kernel, by decide +kernel, by decide +kernel⟩, fun h => absurd h (by decide +kernel), fun _ => mm_wi 543 (by decide +kernel) (by decide +kernel), fun h => absurd h (by decide +kernel), fun h => absurd h (by decide +kernel)⟩
theorem mm_S88 : mm_okS 88 := ⟨by decide +kernel, by decide +kernel, by decide +kernel, fun _ => mm_wi 563 (by decide +kernel) (by decide +kernel), fun _ => ⟨mm_wi 564 (by decide +kernel) (by decide +kernel), by decide +kernel, by decide +kernel, by decide +kernel⟩, fun h => absurd h (by decide +kernel), fun _ => mm_wi 565 (by decide +kernel) (by decide +kernel), fun h => absurd h (by decide +kernel), fun h => absurd h (by decide +kernel)⟩
theorem mm_S89 : mm_okS 89 := ⟨by decide +kernel, by decide +kernel, by decide +kernel, fun _ => mm_wi 214 (by decide +kernel) (by decide +kernel), fun _ => ⟨mm_wi 215 (by decide +kernel) (by decide +kernel), by decide +kernel, by decide +kernel, by decide +kernel⟩, fun h => absurd h (by decide +kernel), fun _ => mm_wi 216 (by decide +kernel) (by decide +kernel), fun h => absurd h (by decide +kernel), fun h => absurd h (by decide +kernel)⟩
theorem mm_S90 : mm_okS 90 := ⟨by decide +kernel, by decide +kernel, by decide +kernel, fun _ => mm_wi 30 (by decide +kernel) (by decide +kernel), fun _ => ⟨mm_wi 31 (by decide +kernel) (by decide +kernel), by decide +kernel, by decide +kernel, by decide +kernel⟩, fun h => absurd h (by decide +kernel), fun h => absurd h (by decide +kernel), fun _ => ⟨by decide +kernel, by decide +kernel, by decide +kernel⟩, fun h => absurd h (by decide +kernel)⟩
theorem mm_S91 : mm_okS 91 := ⟨by decide +kernel, by decide +kernel, by decide +kernel, fun _ => mm_wi 178 (by decide +kernel) (by decide +kernel), fun _ => ⟨mm_wi 179 (by decide +kernel) (by decide +kernel), by decide +kernel, by decide +kernel, by decide +kernel⟩, fun h => absurd h (by decide +kernel), fun _ => mm_wi 180 (by decide +kernel) (by decide +kernel), fun h => absurd h (by decide +kernel), fun h => absurd h (by decide +kernel)⟩
theorem mm_S92 : mm_okS 92 := ⟨by decide +kernel, by decide +kernel, by decide +kernel, fun _ => mm_wi 496 (by decide +kernel) (by decide +kernel), fun h => absurd h (by decide +kernel), fun _ => mm_wi 497 (by decide +kernel) (by decide +kernel), fun h => absurd h (by decide +kernel), fun h => absurd h (by decide +kernel), fun h => absurd h (by decide +kernel)⟩
theorem mm_S93 : mm_okS 93 := ⟨by decide +kernel, by decide +kernel, by decide +kernel, fun _ => mm_wi 318 (by decide +kernel) (by decide +kernel), fun h => absurd h (by decide +kernel), fun _ => mm_wi 319 (by decide +kernel) (by decide +kernel), fun h => absurd h (by decide +kernel), fun h => absurd h (by decide +kernel), fun h => absurd h (by decide +kernel)⟩
theorem mm_S94 : mm_okS 94 := ⟨by decide +kernel, by decide +kernel, by decide +kernel, fun _ => mm_wi 324 (by decide +kernel) (by decide +kernel), fun h => absurd h (by decide +kernel), fun _ => mm_wi 325 (by decide +kernel) (by decide +kernel), fun h => absurd h (by decide +kernel), fun h => absurd h (by decide +kernel), fun h => absurd h (by decide +kernel)⟩
theorem mm_S95 : mm_okS 95 := ⟨by decide +kernel, by decide +kernel, by decide +kernel, fun _ => mm_wi 529 (by decide +kernel) (by decide +kernel), fun h => absurd h (by decide +kernel), fun _ => mm_wi 530 (by decide +kernel) (by decide +kernel), fun h => absurd h (by decide +kernel), fun h => absurd h (by decide +kernel), fun h => absurd h (by decide +kernel)⟩
theorem mm_S96 : mm_okS 96 := ⟨by decide +kernel, by decide +kernel, by decide +kernel, fun _ => mm_wi 560 (by decide +kernel) (by decide +kernel), fun h => absurd h (by decide +kernel), fun _ => mm_wi 561 (by decide +kernel) (by decide +kernel), fun h => absurd h (by decide +kernel), fun h => absurd h (by decide +kernel), fun h => absurd h (by decide +kernel)⟩
theorem mm_S97 : mm_okS 97 := ⟨by decide +kernel, by decide +kernel, by decide +kernel, fun _ => mm_wi 568 (by decide +kernel) (by decide +kernel), fun h => absurd h (by decide +kernel), fun _ => mm_wi 569 (by decide +kernel) (by decide +kernel), fun h => absurd h (by decide +kernel), fun h => absurd h (by decide +kernel), fun h => absurd h (by decide +kernel)⟩
theorem mm_Ss_0 : ∀ a, a < 0 → mm_okS a := lt_0
theorem mm_Ss_20 : ∀ a, a < 20 → mm_okS a := lt_s (lt_s (lt_s (lt_s (lt_s (lt_s (lt_s (lt_s (lt_s (lt_s (lt_s (lt_s (lt_s (lt_s (lt_s (lt_s (lt_s (lt_s (lt_s (lt_s (mm_Ss_0) mm_S0) mm_S1) mm_S2) mm_S3) mm_S4) mm_S5) mm_S6) mm_S7) mm_S8) mm_S9) mm_S10) mm_S11) mm_S12) mm_S13) mm_S14) mm_S15) mm_S16) mm_S17) mm_S18) mm_S19
theorem mm_Ss_40 : ∀ a, a < 40 → mm_okS a := lt_s (lt_s (lt_s (lt_s (lt_s (lt_s (lt_s (lt_s (lt_s (lt_s (lt_s (lt_s (lt_s (lt_s (lt_s (lt_s (lt_s (lt_s (lt_s (lt_s (mm_Ss_20) mm_S20) mm_S21) mm_S22) mm_S23) mm_S24) mm_S25) mm_S26) mm_S27) mm_S28) mm_S29) mm_S30) mm_S31) mm_S32) mm_S33) mm_S34) mm_S35) mm_S36) mm_S37) mm_S38) mm_S39
theorem mm_Ss_60 : ∀ a, a < 60 → mm_okS a := lt_s (lt_s (lt_s (lt_s (lt_s (lt_s (lt_s (lt_s (lt_s (lt_s (lt_s (lt_s (lt_s (lt_s (lt_s (lt_s (lt_s (lt_s (lt_s (lt_s (mm_Ss_40) mm_S40) mm_S41) mm_S42) mm_S43) mm_S44) mm_S45) mm_S46) mm_S47) mm_S48) mm_S49) mm_S50) mm_S51) mm_S52) mm_S53) mm_S54) mm_S55) mm_S56) mm_S57) mm_S58) mm_S59
theorem mm_Ss_80 : ∀ a, a < 80 → mm_okS a := lt_s (lt_s (lt_s (lt_s (lt_s (lt_s (lt_s (lt_s (lt_s (lt_s (lt_s (lt_s (lt_s (lt_s (lt_s (lt_s (lt_s (lt_s (lt_s (lt_s (mm_Ss_60) mm_S60) mm_S61) mm_S62) mm_S63) mm_S64) mm_S65) mm_S66) mm_S67) mm_S68) mm_S69) mm_S70) mm_S71) mm_S72) mm_S73) mm_S74) mm_S75) mm_S76) mm_S77) mm_S78) mm_S79
theorem mm_Ss_98 : ∀ a, a < 98 → mm_okS a := lt_s (lt_s (lt_s (lt_s (lt_s (lt_s (lt_s (lt_s (lt_s (lt_s (lt_s (lt_s (lt_s (lt_s (lt_s (lt_s (lt_s (lt_s (mm_Ss_80) mm_S80) mm_S81) mm_S82) mm_S83) mm_S84) mm_S85) mm_S86) mm_S87) mm_S88) mm_S89) mm_S90) mm_S91) mm_S92) mm_S93) mm_S94) mm_S95) mm_S96) mm_S97
theorem mm_SA {a : Nat} (h : a < mm_siteT.length) : mm_okS a := mm_Ss_98 a h
def mm_newT : List (Nat × (Nat × (Nat × Int))) := [(0, 57, 3, 0), (0, 50, 9, 1), (1, 57, 3, 0), (2, 57, 3, 0), (2, 50, 9, 0), (2, 58, 45, 0), (2, 59, 54, 0), (3, 57, 3, 0), (3, 58, 9, 0), (4, 57, 3, 0), (4, 53, 9, 0), (4, 50, 9, 3), (4, 50, 22, 2), (6, 55, 7, 2147483647), (6, 55, 8, 104729), (6, 55, 9, 65521), (6, 50, 11, 4)]
def mm_isN (op : Nat) : Bool := op == 50 || op == 53 || op == 55 || op == 57 || op == 58 || op == 59
theorem mm_n_0 : (mm_codeT.getD 0 []).all (fun q => !mm_isN q.2.1 || decide ((mm_own 0, q.2) ∈ mm_newT)) = true := by decide +kernel
theorem mm_n_1 : (mm_codeT.getD 1 []).all (fun q => !mm_isN q.2.1 || decide ((mm_own 1, q.2) ∈ mm_newT)) = true := by decide +kernel
theorem mm_n_2 : (mm_codeT.getD 2 []).all (fun q => !mm_isN q.2.1 || decide ((mm_own 2, q.2) ∈ mm_newT)) = true := by decide +kernel
theorem mm_n_3 : (mm_codeT.getD 3 []).all (fun q => !mm_isN q.2.1 || decide ((mm_own 3, q.2) ∈ mm_newT)) = true := by decide +kernel
theorem mm_n_4 : (mm_codeT.getD 4 []).all (fun q => !mm_isN q.2.1 || decide ((mm_own 4, q.2) ∈ mm_newT)) = true := by decide +kernel
theorem mm_n_5 : (mm_codeT.getD 5 []).all (fun q => !mm_isN q.2.1 || decide ((mm_own 5, q.2) ∈ mm_newT)) = true := by decide +kernel
theorem mm_n_6 : (mm_codeT.getD 6 []).all (fun q => !mm_isN q.2.1 || decide ((mm_own 6, q.2) ∈ mm_newT)) = true := by decide +kernel
theorem mm_n_7 : (mm_codeT.getD 7 []).all (fun q => !mm_isN q.2.1 || decide ((mm_own 7, q.2) ∈ mm_newT)) = true := by decide +kernel
theorem mm_n_8 : (mm_codeT.getD 8 []).all (fun q => !mm_isN q.2.1 || decide ((mm_own 8, q.2) ∈ mm_newT)) = true := by decide +kernel
theorem mm_n_9 : (mm_codeT.getD 9 []).all (fun q => !mm_isN q.2.1 || decide ((mm_own 9, q.2) ∈ mm_newT)) = true := by decide +kernel
theorem mm_n_10 : (mm_codeT.getD 10 []).all (fun q => !mm_isN q.2.1 || decide ((mm_own 10, q.2) ∈ mm_newT)) = true := by decide +kernel
theorem mm_n_11 : (mm_codeT.getD 11 []).all (fun q => !mm_isN q.2.1 || decide ((mm_own 11, q.2) ∈ mm_newT)) = true := by decide +kernel
theorem mm_n_12 : (mm_codeT.getD 12 []).all (fun q => !mm_isN q.2.1 || decide ((mm_own 12, q.2) ∈ mm_newT)) = true := by decide +kernel
theorem mm_n_13 : (mm_codeT.getD 13 []).all (fun q => !mm_isN q.2.1 || decide ((mm_own 13, q.2) ∈ mm_newT)) = true := by decide +kernel
theorem mm_n_14 : (mm_codeT.getD 14 []).all (fun q => !mm_isN q.2.1 || decide ((mm_own 14, q.2) ∈ mm_newT)) = true := by decide +kernel
theorem mm_n_15 : (mm_codeT.getD 15 []).all (fun q => !mm_isN q.2.1 || decide ((mm_own 15, q.2) ∈ mm_newT)) = true := by decide +kernel
theorem mm_n_16 : (mm_codeT.getD 16 []).all (fun q => !mm_isN q.2.1 || decide ((mm_own 16, q.2) ∈ mm_newT)) = true := by decide +kernel
theorem mm_n_17 : (mm_codeT.getD 17 []).all (fun q => !mm_isN q.2.1 || decide ((mm_own 17, q.2) ∈ mm_newT)) = true := by decide +kernel
theorem mm_n_18 : (mm_codeT.getD 18 []).all (fun q => !mm_isN q.2.1 || decide ((mm_own 18, q.2) ∈ mm_newT)) = true := by decide +kernel
theorem mm_n_19 : (mm_codeT.getD 19 []).all (fun q => !mm_isN q.2.1 || decide ((mm_own 19, q.2) ∈ mm_newT)) = true := by decide +kernel
theorem mm_n_20 : (mm_codeT.getD 20 []).all (fun q => !mm_isN q.2.1 || decide ((mm_own 20, q.2) ∈ mm_newT)) = true := by decide +kernel
theorem mm_n_21 : (mm_codeT.getD 21 []).all (fun q => !mm_isN q.2.1 || decide ((mm_own 21, q.2) ∈ mm_newT)) = true := by decide +kernel
theorem mm_n_22 : (mm_codeT.getD 22 []).all (fun q => !mm_isN q.2.1 || decide ((mm_own 22, q.2) ∈ mm_newT)) = true := by decide +kernel
theorem mm_n_23 : (mm_codeT.getD 23 []).all (fun q => !mm_isN q.2.1 || decide ((mm_own 23, q.2) ∈ mm_newT)) = true := by decide +kernel
theorem mm_n_24 : (mm_codeT.getD 24 []).all (fun q => !mm_isN q.2.1 || decide ((mm_own 24, q.2) ∈ mm_newT)) = true := by decide +kernel
theorem mm_n_25 : (mm_codeT.getD 25 []).all (fun q => !mm_isN q.2.1 || decide ((mm_own 25, q.2) ∈ mm_newT)) = true := by decide +kernel
theorem mm_n_26 : (mm_codeT.getD 26 []).all (fun q => !mm_isN q.2.1 || decide ((mm_own 26, q.2) ∈ mm_newT)) = true := by decide +kernel
theorem mm_n_27 : (mm_codeT.getD 27 []).all (fun q => !mm_isN q.2.1 || decide ((mm_own 27, q.2) ∈ mm_newT)) = true := by decide +kernel
theorem mm_n_28 : (mm_codeT.getD 28 []).all (fun q => !mm_isN q.2.1 || decide ((mm_own 28, q.2) ∈ mm_newT)) = true := by decide +kernel
theorem mm_n_29 : (mm_codeT.getD 29 []).all (fun q => !mm_isN q.2.1 || decide ((mm_own 29, q.2) ∈ mm_newT)) = true := by decide +kernel
theorem mm_n_30 : (mm_codeT.getD 30 []).all (fun q => !mm_isN q.2.1 || decide ((mm_own 30, q.2) ∈ mm_newT)) = true := by decide +kernel
theorem mm_n_31 : (mm_codeT.getD 31 []).all (fun q => !mm_isN q.2.1 || decide ((mm_own 31, q.2) ∈ mm_newT)) = true := by decide +kernel
theorem mm_n_32 : (mm_codeT.getD 32 []).all (fun q => !mm_isN q.2.1 || decide ((mm_own 32, q.2) ∈ mm_newT)) = true := by decide +kernel
theorem mm_n_33 : (mm_codeT.getD 33 []).all (fun q => !mm_isN q.2.1 || decide ((mm_own 33, q.2) ∈ mm_newT)) = true := by decide +kernel
theorem mm_n_34 : (mm_codeT.getD 34 []).all (fun q => !mm_isN q.2.1 || decide ((mm_own 34, q.2) ∈ mm_newT)) = true := by decide +kernel
theorem mm_n_35 : (mm_codeT.getD 35 []).all (fun q => !mm_isN q.2.1 || decide ((mm_own 35, q.2) ∈ mm_newT)) = true := by decide +kernel
theorem mm_n_36 : (mm_codeT.getD 36 []).all (fun q => !mm_isN q.2.1 || decide ((mm_own 36, q.2) ∈ mm_newT)) = true := by decide +kernel
theorem mm_n_37 : (mm_codeT.getD 37 []).all (fun q => !mm_isN q.2.1 || decide ((mm_own 37, q.2) ∈ mm_newT)) = true := by decide +kernel
theorem mm_n_38 : (mm_codeT.getD 38 []).all (fun q => !mm_isN q.2.1 || decide ((mm_own 38, q.2) ∈ mm_newT)) = true := by decide +kernel
theorem mm_n_39 : (mm_codeT.getD 39 []).all (fun q => !mm_isN q.2.1 || decide ((mm_own 39, q.2) ∈ mm_newT)) = true := by decide +kernel
theorem mm_n_40 : (mm_codeT.getD 40 []).all (fun q => !mm_isN q.2.1 || decide ((mm_own 40, q.2) ∈ mm_newT)) = true := by decide +kernel
theorem mm_n_41 : (mm_codeT.getD 41 []).all (fun q => !mm_isN q.2.1 || decide ((mm_own 41, q.2) ∈ mm_newT)) = true := by decide +kernel
theorem mm_n_42 : (mm_codeT.getD 42 []).all (fun q => !mm_isN q.2.1 || decide ((mm_own 42, q.2) ∈ mm_newT)) = true := by decide +kernel
theorem mm_n_43 : (mm_codeT.getD 43 []).all (fun q => !mm_isN q.2.1 || decide ((mm_own 43, q.2) ∈ mm_newT)) = true := by decide +kernel
theorem mm_n_44 : (mm_codeT.getD 44 []).all (fun q => !mm_isN q.2.1 || decide ((mm_own 44, q.2) ∈ mm_newT)) = true := by decide +kernel
theorem mm_n_45 : (mm_codeT.getD 45 []).all (fun q => !mm_isN q.2.1 || decide ((mm_own 45, q.2) ∈ mm_newT)) = true := by decide +kernel
theorem mm_n_46 : (mm_codeT.getD 46 []).all (fun q => !mm_isN q.2.1 || decide ((mm_own 46, q.2) ∈ mm_newT)) = true := by decide +kernel
theorem mm_n_47 : (mm_codeT.getD 47 []).all (fun q => !mm_isN q.2.1 || decide ((mm_own 47, q.2) ∈ mm_newT)) = true := by decide +kernel
theorem mm_n_48 : (mm_codeT.getD 48 []).all (fun q => !mm_isN q.2.1 || decide ((mm_own 48, q.2) ∈ mm_newT)) = true := by decide +kernel
theorem mm_n_49 : (mm_codeT.getD 49 []).all (fun q => !mm_isN q.2.1 || decide ((mm_own 49, q.2) ∈ mm_newT)) = true := by decide +kernel
theorem mm_n_50 : (mm_codeT.getD 50 []).all (fun q => !mm_isN q.2.1 || decide ((mm_own 50, q.2) ∈ mm_newT)) = true := by decide +kernel
theorem mm_n_51 : (mm_codeT.getD 51 []).all (fun q => !mm_isN q.2.1 || decide ((mm_own 51, q.2) ∈ mm_newT)) = true := by decide +kernel
theorem mm_n_52 : (mm_codeT.getD 52 []).all (fun q => !mm_isN q.2.1 || decide ((mm_own 52, q.2) ∈ mm_newT)) = true := by decide +kernel
theorem mm_n_53 : (mm_codeT.getD 53 []).all (fun q => !mm_isN q.2.1 || decide ((mm_own 53, q.2) ∈ mm_newT)) = true := by decide +kernel
theorem mm_n_54 : (mm_codeT.getD 54 []).all (fun q => !mm_isN q.2.1 || decide ((mm_own 54, q.2) ∈ mm_newT)) = true := by decide +kernel
theorem mm_n_55 : (mm_codeT.getD 55 []).all (fun q => !mm_isN q.2.1 || decide ((mm_own 55, q.2) ∈ mm_newT)) = true := by decide +kernel
theorem mm_n_56 : (mm_codeT.getD 56 []).all (fun q => !mm_isN q.2.1 || decide ((mm_own 56, q.2) ∈ mm_newT)) = true := by decide +kernel
theorem mm_n_57 : (mm_codeT.getD 57 []).all (fun q => !mm_isN q.2.1 || decide ((mm_own 57, q.2) ∈ mm_newT)) = true := by decide +kernel
theorem mm_n_58 : (mm_codeT.getD 58 []).all (fun q => !mm_isN q.2.1 || decide ((mm_own 58, q.2) ∈ mm_newT)) = true := by decide +kernel
theorem mm_n_59 : (mm_codeT.getD 59 []).all (fun q => !mm_isN q.2.1 || decide ((mm_own 59, q.2) ∈ mm_newT)) = true := by decide +kernel
theorem mm_n_60 : (mm_codeT.getD 60 []).all (fun q => !mm_isN q.2.1 || decide ((mm_own 60, q.2) ∈ mm_newT)) = true := by decide +kernel
theorem mm_n_61 : (mm_codeT.getD 61 []).all (fun q => !mm_isN q.2.1 || decide ((mm_own 61, q.2) ∈ mm_newT)) = true := by decide +kernel
theorem mm_n_62 : (mm_codeT.getD 62 []).all (fun q => !mm_isN q.2.1 || decide ((mm_own 62, q.2) ∈ mm_newT)) = true := by decide +kernel
theorem mm_n_63 : (mm_codeT.getD 63 []).all (fun q => !mm_isN q.2.1 || decide ((mm_own 63, q.2) ∈ mm_newT)) = true := by decide +kernel
theorem mm_n_64 : (mm_codeT.getD 64 []).all (fun q => !mm_isN q.2.1 || decide ((mm_own 64, q.2) ∈ mm_newT)) = true := by decide +kernel
theorem mm_n_65 : (mm_codeT.getD 65 []).all (fun q => !mm_isN q.2.1 || decide ((mm_own 65, q.2) ∈ mm_newT)) = true := by decide +kernel
theorem mm_n_66 : (mm_codeT.getD 66 []).all (fun q => !mm_isN q.2.1 || decide ((mm_own 66, q.2) ∈ mm_newT)) = true := by decide +kernel
theorem mm_n_67 : (mm_codeT.getD 67 []).all (fun q => !mm_isN q.2.1 || decide ((mm_own 67, q.2) ∈ mm_newT)) = true := by decide +kernel
theorem mm_n_68 : (mm_codeT.getD 68 []).all (fun q => !mm_isN q.2.1 || decide ((mm_own 68, q.2) ∈ mm_newT)) = true := by decide +kernel
theorem mm_n_69 : (mm_codeT.getD 69 []).all (fun q => !mm_isN q.2.1 || decide ((mm_own 69, q.2) ∈ mm_newT)) = true := by decide +kernel
theorem mm_n_70 : (mm_codeT.getD 70 []).all (fun q => !mm_isN q.2.1 || decide ((mm_own 70, q.2) ∈ mm_newT)) = true := by decide +kernel
theorem mm_n_71 : (mm_codeT.getD 71 []).all (fun q => !mm_isN q.2.1 || decide ((mm_own 71, q.2) ∈ mm_newT)) = true := by decide +kernel
theorem mm_n_72 : (mm_codeT.getD 72 []).all (fun q => !mm_isN q.2.1 || decide ((mm_own 72, q.2) ∈ mm_newT)) = true := by decide +kernel
theorem mm_n_73 : (mm_codeT.getD 73 []).all (fun q => !mm_isN q.2.1 || decide ((mm_own 73, q.2) ∈ mm_newT)) = true := by decide +kernel
theorem mm_n_74 : (mm_codeT.getD 74 []).all (fun q => !mm_isN q.2.1 || decide ((mm_own 74, q.2) ∈ mm_newT)) = true := by decide +kernel
theorem mm_n_75 : (mm_codeT.getD 75 []).all (fun q => !mm_isN q.2.1 || decide ((mm_own 75, q.2) ∈ mm_newT)) = true := by decide +kernel
theorem mm_n_76 : (mm_codeT.getD 76 []).all (fun q => !mm_isN q.2.1 || decide ((mm_own 76, q.2) ∈ mm_newT)) = true := by decide +kernel
theorem mm_n_77 : (mm_codeT.getD 77 []).all (fun q => !mm_isN q.2.1 || decide ((mm_own 77, q.2) ∈ mm_newT)) = true := by decide +kernel
theorem mm_n_78 : (mm_codeT.getD 78 []).all (fun q => !mm_isN q.2.1 || decide ((mm_own 78, q.2) ∈ mm_newT)) = true := by decide +kernel
theorem mm_n_79 : (mm_codeT.getD 79 []).all (fun q => !mm_isN q.2.1 || decide ((mm_own 79, q.2) ∈ mm_newT)) = true := by decide +kernel
theorem mm_n_80 : (mm_codeT.getD 80 []).all (fun q => !mm_isN q.2.1 || decide ((mm_own 80, q.2) ∈ mm_newT)) = true := by decide +kernel
theorem mm_n_81 : (mm_codeT.getD 81 []).all (fun q => !mm_isN q.2.1 || decide ((mm_own 81, q.2) ∈ mm_newT)) = true := by decide +kernel
theorem mm_n_82 : (mm_codeT.getD 82 []).all (fun q => !mm_isN q.2.1 || decide ((mm_own 82, q.2) ∈ mm_newT)) = true := by decide +kernel
theorem mm_n_83 : (mm_codeT.getD 83 []).all (fun q => !mm_isN q.2.1 || decide ((mm_own 83, q.2) ∈ mm_newT)) = true := by decide +kernel
theorem mm_n_84 : (mm_codeT.getD 84 []).all (fun q => !mm_isN q.2.1 || decide ((mm_own 84, q.2) ∈ mm_newT)) = true := by decide +kernel
theorem mm_ns_0 : ∀ a, a < 0 → (fun y => (mm_codeT.getD y []).all (fun q => !mm_isN q.2.1 || decide ((mm_own y, q.2) ∈ mm_newT)) = true) a := lt_0
theorem mm_ns_20 : ∀ a, a < 20 → (fun y => (mm_codeT.getD y []).all (fun q => !mm_isN q.2.1 || decide ((mm_own y, q.2) ∈ mm_newT)) = true) a := lt_s (lt_s (lt_s (lt_s (lt_s (lt_s (lt_s (lt_s (lt_s (lt_s (lt_s (lt_s (lt_s (lt_s (lt_s (lt_s (lt_s (lt_s (lt_s (lt_s (mm_ns_0) mm_n_0) mm_n_1) mm_n_2) mm_n_3) mm_n_4) mm_n_5) mm_n_6) mm_n_7) mm_n_8) mm_n_9) mm_n_10) mm_n_11) mm_n_12) mm_n_13) mm_n_14) mm_n_15) mm_n_16) mm_n_17) mm_n_18) mm_n_19
theorem mm_ns_40 : ∀ a, a < 40 → (fun y => (mm_codeT.getD y []).all (fun q => !mm_isN q.2.1 || decide ((mm_own y, q.2) ∈ mm_newT)) = true) a := lt_s (lt_s (lt_s (lt_s (lt_s (lt_s (lt_s (lt_s (lt_s (lt_s (lt_s (lt_s (lt_s (lt_s (lt_s (lt_s (lt_s (lt_s (lt_s (lt_s (mm_ns_20) mm_n_20) mm_n_21) mm_n_22) mm_n_23) mm_n_24) mm_n_25) mm_n_26) mm_n_27) mm_n_28) mm_n_29) mm_n_30) mm_n_31) mm_n_32) mm_n_33) mm_n_34) mm_n_35) mm_n_36) mm_n_37) mm_n_38) mm_n_39
theorem mm_ns_60 : ∀ a, a < 60 → (fun y => (mm_codeT.getD y []).all (fun q => !mm_isN q.2.1 || decide ((mm_own y, q.2) ∈ mm_newT)) = true) a := lt_s (lt_s (lt_s (lt_s (lt_s (lt_s (lt_s (lt_s (lt_s (lt_s (lt_s (lt_s (lt_s (lt_s (lt_s (lt_s (lt_s (lt_s (lt_s (lt_s (mm_ns_40) mm_n_40) mm_n_41) mm_n_42) mm_n_43) mm_n_44) mm_n_45) mm_n_46) mm_n_47) mm_n_48) mm_n_49) mm_n_50) mm_n_51) mm_n_52) mm_n_53) mm_n_54) mm_n_55) mm_n_56) mm_n_57) mm_n_58) mm_n_59
theorem mm_ns_80 : ∀ a, a < 80 → (fun y => (mm_codeT.getD y []).all (fun q => !mm_isN q.2.1 || decide ((mm_own y, q.2) ∈ mm_newT)) = true) a := lt_s (lt_s (lt_s (lt_s (lt_s (lt_s (lt_s (lt_s (lt_s (lt_s (lt_s (lt_s (lt_s (lt_s (lt_s (lt_s (lt_s (lt_s (lt_s (lt_s (mm_ns_60) mm_n_60) mm_n_61) mm_n_62) mm_n_63) mm_n_64) mm_n_65) mm_n_66) mm_n_67) mm_n_68) mm_n_69) mm_n_70) mm_n_71) mm_n_72) mm_n_73) mm_n_74) mm_n_75) mm_n_76) mm_n_77) mm_n_78) mm_n_79
theorem mm_ns_85 : ∀ a, a < 85 → (fun y => (mm_codeT.getD y []).all (fun q => !mm_isN q.2.1 || decide ((mm_own y, q.2) ∈ mm_newT)) = true) a := lt_s (lt_s (lt_s (lt_s (lt_s (mm_ns_80) mm_n_80) mm_n_81) mm_n_82) mm_n_83) mm_n_84
theorem mm_nA {y i : Nat} {q : mm_E} (h : mm_code y i = some q) (hn : mm_isN q.2.1 = true) : (mm_own y, q.2) ∈ mm_newT := by
  have h0 := (mm_okA h).2
  unfold mm_code at h
  cases hy : mm_codeT[y]? with
  | none => rw [hy] at h; cases h
  | some l =>
    rw [hy] at h
    have h1 := mm_ns_85 y h0
    have e : mm_codeT.getD y [] = l := by rw [List.getD_eq_getElem?_getD, hy]; rfl
    dsimp only at h1
    rw [e, List.all_eq_true] at h1
    have h2 := h1 q (List.mem_of_getElem? h)
    rw [hn] at h2
    simpa using h2
def mm_okN (q : Nat × (Nat × (Nat × Int))) : Prop :=
  (q.2.1 = 50 → q.2.2.2.toNat < 5 ∧ Cond.classLink (mm_cn q.1) q.2.2.1 (mm_cl q.2.2.2.toNat).1 ∈ mm_w ∧ Cond.instantiable (mm_cl q.2.2.2.toNat).1 (mm_cl q.2.2.2.toNat).2.2 ∈ mm_w ∧ Cond.initialized (mm_cl q.2.2.2.toNat).1 ∈ mm_w) ∧
  (q.2.1 = 53 → Cond.classLink (mm_cn q.1) q.2.2.1 RX3 ∈ mm_w) ∧
  (q.2.1 = 57 → Cond.methodLink (mm_cn q.1) q.2.2.1 objectInit ∈ mm_w) ∧
  (q.2.1 = 58 → Cond.methodLink (mm_cn q.1) q.2.2.1 Lib.Math.max.name ∈ mm_w) ∧
  (q.2.1 = 59 → Cond.methodLink (mm_cn q.1) q.2.2.1 Lib.Math.min.name ∈ mm_w) ∧
  (q.2.1 = 55 → Cond.constant (mm_cn q.1) q.2.2.1 (Int32.ofInt q.2.2.2) ∈ mm_w)
theorem mm_N0 : mm_okN (0, 57, 3, 0) := ⟨fun h => absurd h (by decide +kernel), fun h => absurd h (by decide +kernel), fun _ => mm_wi 65 (by decide +kernel) (by decide +kernel), fun h => absurd h (by decide +kernel), fun h => absurd h (by decide +kernel), fun h => absurd h (by decide +kernel)⟩
theorem mm_N1 : mm_okN (0, 50, 9, 1) := ⟨fun _ => ⟨by decide +kernel, mm_wi 66 (by decide +kernel) (by decide +kernel), mm_wi 67 (by decide +kernel) (by decide +kernel), mm_wi 21 (by decide +kernel) (by decide +kernel)⟩, fun h => absurd h (by decide +kernel), fun h => absurd h (by decide +kernel), fun h => absurd h (by decide +kernel), fun h => absurd h (by decide +kernel), fun h => absurd h (by decide +kernel)⟩
theorem mm_N2 : mm_okN (1, 57, 3, 0) := ⟨fun h => absurd h (by decide +kernel), fun h => absurd h (by decide +kernel), fun _ => mm_wi 71 (by decide +kernel) (by decide +kernel), fun h => absurd h (by decide +kernel), fun h => absurd h (by decide +kernel), fun h => absurd h (by decide +kernel)⟩
theorem mm_N3 : mm_okN (2, 57, 3, 0) := ⟨fun h => absurd h (by decide +kernel), fun h => absurd h (by decide +kernel), fun _ => mm_wi 59 (by decide +kernel) (by decide +kernel), fun h => absurd h (by decide +kernel), fun h => absurd h (by decide +kernel), fun h => absurd h (by decide +kernel)⟩
theorem mm_N4 : mm_okN (2, 50, 9, 0) := ⟨fun _ => ⟨by decide +kernel, mm_wi 60 (by decide +kernel) (by decide +kernel), mm_wi 61 (by decide +kernel) (by decide +kernel), mm_wi 20 (by decide +kernel) (by decide +kernel)⟩, fun h => absurd h (by decide +kernel), fun h => absurd h (by decide +kernel), fun h => absurd h (by decide +kernel), fun h => absurd h (by decide +kernel), fun h => absurd h (by decide +kernel)⟩
theorem mm_N5 : mm_okN (2, 58, 45, 0) := ⟨fun h => absurd h (by decide +kernel), fun h => absurd h (by decide +kernel), fun h => absurd h (by decide +kernel), fun _ => mm_wi 550 (by decide +kernel) (by decide +kernel), fun h => absurd h (by decide +kernel), fun h => absurd h (by decide +kernel)⟩
theorem mm_N6 : mm_okN (2, 59, 54, 0) := ⟨fun h => absurd h (by decide +kernel), fun h => absurd h (by decide +kernel), fun h => absurd h (by decide +kernel), fun h => absurd h (by decide +kernel), fun _ => mm_wi 301 (by decide +kernel) (by decide +kernel), fun h => absurd h (by decide +kernel)⟩
theorem mm_N7 : mm_okN (3, 57, 3, 0) := ⟨fun h => absurd h (by decide +kernel), fun h => absurd h (by decide +kernel), fun _ => mm_wi 42 (by decide +kernel) (by decide +kernel), fun h => absurd h (by decide +kernel), fun h => absurd h (by decide +kernel), fun h => absurd h (by decide +kernel)⟩
theorem mm_N8 : mm_okN (3, 58, 9, 0) := ⟨fun h => absurd h (by decide +kernel), fun h => absurd h (by decide +kernel), fun h => absurd h (by decide +kernel), fun _ => mm_wi 43 (by decide +kernel) (by decide +kernel), fun h => absurd h (by decide +kernel), fun h => absurd h (by decide +kernel)⟩
theorem mm_N9 : mm_okN (4, 57, 3, 0) := ⟨fun h => absurd h (by decide +kernel), fun h => absurd h (by decide +kernel), fun _ => mm_wi 33 (by decide +kernel) (by decide +kernel), fun h => absurd h (by decide +kernel), fun h => absurd h (by decide +kernel), fun h => absurd h (by decide +kernel)⟩
theorem mm_N10 : mm_okN (4, 53, 9, 0) := ⟨fun h => absurd h (by decide +kernel), fun _ => mm_wi 36 (by decide +kernel) (by decide +kernel), fun h => absurd h (by decide +kernel), fun h => absurd h (by decide +kernel), fun h => absurd h (by decide +kernel), fun h => absurd h (by decide +kernel)⟩
theorem mm_N11 : mm_okN (4, 50, 9, 3) := ⟨fun _ => ⟨by decide +kernel, mm_wi 36 (by decide +kernel) (by decide +kernel), mm_wi 38 (by decide +kernel) (by decide +kernel), mm_wi 17 (by decide +kernel) (by decide +kernel)⟩, fun h => absurd h (by decide +kernel), fun h => absurd h (by decide +kernel), fun h => absurd h (by decide +kernel), fun h => absurd h (by decide +kernel), fun h => absurd h (by decide +kernel)⟩
theorem mm_N12 : mm_okN (4, 50, 22, 2) := ⟨fun _ => ⟨by decide +kernel, mm_wi 54 (by decide +kernel) (by decide +kernel), mm_wi 55 (by decide +kernel) (by decide +kernel), mm_wi 19 (by decide +kernel) (by decide +kernel)⟩, fun h => absurd h (by decide +kernel), fun h => absurd h (by decide +kernel), fun h => absurd h (by decide +kernel), fun h => absurd h (by decide +kernel), fun h => absurd h (by decide +kernel)⟩
theorem mm_N13 : mm_okN (6, 55, 7, 2147483647) := ⟨fun h => absurd h (by decide +kernel), fun h => absurd h (by decide +kernel), fun h => absurd h (by decide +kernel), fun h => absurd h (by decide +kernel), fun h => absurd h (by decide +kernel), fun _ => mm_wi 321 (by decide +kernel) (by decide +kernel)⟩
theorem mm_N14 : mm_okN (6, 55, 8, 104729) := ⟨fun h => absurd h (by decide +kernel), fun h => absurd h (by decide +kernel), fun h => absurd h (by decide +kernel), fun h => absurd h (by decide +kernel), fun h => absurd h (by decide +kernel), fun _ => mm_wi 322 (by decide +kernel) (by decide +kernel)⟩
theorem mm_N15 : mm_okN (6, 55, 9, 65521) := ⟨fun h => absurd h (by decide +kernel), fun h => absurd h (by decide +kernel), fun h => absurd h (by decide +kernel), fun h => absurd h (by decide +kernel), fun h => absurd h (by decide +kernel), fun _ => mm_wi 323 (by decide +kernel) (by decide +kernel)⟩
theorem mm_N16 : mm_okN (6, 50, 11, 4) := ⟨fun _ => ⟨by decide +kernel, mm_wi 28 (by decide +kernel) (by decide +kernel), mm_wi 29 (by decide +kernel) (by decide +kernel), mm_wi 16 (by decide +kernel) (by decide +kernel)⟩, fun h => absurd h (by decide +kernel), fun h => absurd h (by decide +kernel), fun h => absurd h (by decide +kernel), fun h => absurd h (by decide +kernel), fun h => absurd h (by decide +kernel)⟩
theorem mm_NA : ∀ q ∈ mm_newT, mm_okN q := List.forall_mem_cons.mpr ⟨mm_N0, List.forall_mem_cons.mpr ⟨mm_N1, List.forall_mem_cons.mpr ⟨mm_N2, List.forall_mem_cons.mpr ⟨mm_N3, List.forall_mem_cons.mpr ⟨mm_N4, List.forall_mem_cons.mpr ⟨mm_N5, List.forall_mem_cons.mpr ⟨mm_N6, List.forall_mem_cons.mpr ⟨mm_N7, List.forall_mem_cons.mpr ⟨mm_N8, List.forall_mem_cons.mpr ⟨mm_N9, List.forall_mem_cons.mpr ⟨mm_N10, List.forall_mem_cons.mpr ⟨mm_N11, List.forall_mem_cons.mpr ⟨mm_N12, List.forall_mem_cons.mpr ⟨mm_N13, List.forall_mem_cons.mpr ⟨mm_N14, List.forall_mem_cons.mpr ⟨mm_N15, List.forall_mem_cons.mpr ⟨mm_N16, fun _ h => absurd h List.not_mem_nil⟩⟩⟩⟩⟩⟩⟩⟩⟩⟩⟩⟩⟩⟩⟩⟩⟩
theorem mm_wOI : Cond.instanceMethod objectInit ∈ mm_w ∧ Cond.code objectInit ⟨#[0xb1]⟩ 1 none ∈ mm_w := ⟨mm_wi 34 (by decide +kernel) (by decide +kernel), mm_wi 35 (by decide +kernel) (by decide +kernel)⟩
theorem mm_w_max : Cond.static Lib.Math.max.name ∈ mm_w ∧ Cond.code Lib.Math.max.name Lib.Math.max.code 2 (some .int) ∈ mm_w := ⟨mm_wi 44 (by decide +kernel) (by decide +kernel), mm_wi 45 (by decide +kernel) (by decide +kernel)⟩
theorem mm_w_min : Cond.static Lib.Math.min.name ∈ mm_w ∧ Cond.code Lib.Math.min.name Lib.Math.min.code 2 (some .int) ∈ mm_w := ⟨mm_wi 302 (by decide +kernel) (by decide +kernel), mm_wi 303 (by decide +kernel) (by decide +kernel)⟩
theorem mm_wMath : Cond.initialized "java/lang/Math" ∈ mm_w := mm_wi 18 (by decide +kernel) (by decide +kernel)
theorem mm_wAr : Cond.arrayClass .int ∈ mm_w := mm_wi 53 (by decide +kernel) (by decide +kernel)
def mm_nms : List String := ["java/lang/RuntimeException", "java/lang/Exception"]
def mm_bad (E : String) : List Cond := [Cond.castable E E, Cond.declares (Bundle.initS "java/lang/RuntimeException"), Cond.declares (Bundle.initS "java/lang/Exception"), Cond.declares (Bundle.initS "java/lang/Throwable")]
def mm_okT (a : Nat) : Prop := (mm_th a).2.2.2.1 < 3 ∧ Cond.classLink RX4 (mm_th a).1 (mm_en (mm_th a).2.2.2.1) ∈ mm_w ∧ Cond.initialized (mm_en (mm_th a).2.2.2.1) ∈ mm_w ∧ (∀ w ∈ (vx_atS RX4 (mm_th a).2.2.1 (mm_en (mm_th a).2.2.2.1) mm_nms).filter goodWord, w ∈ mm_w) ∧ (∀ w ∈ (vx_atS RX4 (mm_th a).2.2.1 (mm_en (mm_th a).2.2.2.1) mm_nms).filter (fun w => !goodWord w), w ∈ mm_bad (mm_en (mm_th a).2.2.2.1)) ∧ (∀ w ∈ Cond.classLink RX4 (mm_th a).1 (mm_en (mm_th a).2.2.2.1) :: Cond.initialized (mm_en (mm_th a).2.2.2.1) :: vx_atS RX4 (mm_th a).2.2.1 (mm_en (mm_th a).2.2.2.1) mm_nms, vx_ot w = true) ∧ Bundle.fit (mm_en (mm_th a).2.2.2.1) = true
theorem mm_fm {L : List Cond} (h : ∀ w ∈ L.filter goodWord, w ∈ lw_tbl) : ∀ w ∈ L.filter goodWord, w ∈ mm_w := fun w hw => List.mem_filter.mpr ⟨h w hw, (List.mem_filter.mp hw).2⟩
set_option maxRecDepth 20000 in
theorem mm_T0 : mm_okT 0 := ⟨by decide +kernel, mm_wi 331 (by decide +kernel) (by decide +kernel), mm_wi 27 (by decide +kernel) (by decide +kernel), mm_fm (by decide +kernel), by decide +kernel, by decide +kernel, by decide +kernel⟩
theorem mm_T1 : mm_okT 1 := mm_T0
set_option maxRecDepth 20000 in
theorem mm_T2 : mm_okT 2 := ⟨by decide +kernel, mm_wi 356 (by decide +kernel) (by decide +kernel), mm_wi 26 (by decide +kernel) (by decide +kernel), mm_fm (by decide +kernel), by decide +kernel, by decide +kernel, by decide +kernel⟩
theorem mm_T3 : mm_okT 3 := mm_T0
theorem mm_T4 : mm_okT 4 := mm_T0
set_option maxRecDepth 20000 in
theorem mm_T5 : mm_okT 5 := ⟨by decide +kernel, mm_wi 218 (by decide +kernel) (by decide +kernel), mm_wi 25 (by decide +kernel) (by decide +kernel), mm_fm (by decide +kernel), by decide +kernel, by decide +kernel, by decide +kernel⟩
theorem mm_T6 : mm_okT 6 := mm_T2
theorem mm_T7 : mm_okT 7 := mm_T2
theorem mm_T8 : mm_okT 8 := mm_T5
theorem mm_T9 : mm_okT 9 := mm_T5
theorem mm_T10 : mm_okT 10 := mm_T5
theorem mm_T11 : mm_okT 11 := mm_T2
theorem mm_T12 : mm_okT 12 := mm_T5
theorem mm_Ts_0 : ∀ a, a < 0 → mm_okT a := lt_0
theorem mm_Ts_13 : ∀ a, a < 13 → mm_okT a := lt_s (lt_s (lt_s (lt_s (lt_s (lt_s (lt_s (lt_s (lt_s (lt_s (lt_s (lt_s (lt_s (mm_Ts_0) mm_T0) mm_T1) mm_T2) mm_T3) mm_T4) mm_T5) mm_T6) mm_T7) mm_T8) mm_T9) mm_T10) mm_T11) mm_T12
theorem mm_TA {a : Nat} (h : a < mm_thrT.length) : mm_okT a := mm_Ts_13 a h
theorem mm_fitN : ∀ n ∈ mm_nms, Bundle.fit n = true := by decide +kernel
/-- a handler: the call stands at pc; the row of the table that takes E; rows ahead name other exceptions; astore, iconst, ireturn -/
def mm_okH (y pc E : Nat) (z : Int) : Prop := ∃ (pre : List ExceptionTableEntry) (x : ExceptionTableEntry) (suf : List ExceptionTableEntry) (k : Nat), tableOf (mm_hh y) = pre ++ x :: suf ∧ (∀ q ∈ pre, q.catchType ≠ 0 ∧ ∃ F, F < 3 ∧ E ≠ F ∧ Cond.classLink (mm_cn (mm_own y)) q.catchType (mm_en F) ∈ mm_w) ∧ covers x pc = true ∧ x.catchType ≠ 0 ∧ E < 3 ∧ Cond.classLink (mm_cn (mm_own y)) x.catchType (mm_en E) ∈ mm_w ∧ mm_rng z ∧ mm_rt y = some .int ∧ k < mm_mL y ∧
  ((decode (mm_by y) x.handlerPc = .ok (.astore_n (Fin.ofNat 4 k), 1) ∧ k < 4 ∧ decode (mm_by y) (x.handlerPc + 1) = .ok (.iconst z, 1) ∧ decode (mm_by y) (x.handlerPc + 2) = .ok (.ireturn, 1)) ∨ (decode (mm_by y) x.handlerPc = .ok (.astore k, 2) ∧ decode (mm_by y) (x.handlerPc + 2) = .ok (.iconst z, 1) ∧ decode (mm_by y) (x.handlerPc + 3) = .ok (.ireturn, 1)))
/-- where the one call of a method with a table stands -/
def mm_hpc (y : Nat) : Nat := match y with
  | _ => 0
theorem mm_HA0 : ∀ q ∈ mm_handT, mm_okH q.1.1 (mm_hpc q.1.1) q.1.2 q.2 := fun _ h => absurd h List.not_mem_nil
def mm_hy : List Nat := []
theorem mm_hpA : ∀ y ∈ mm_hy, (mm_codeT.getD y []).all (fun q => decide (105 ≤ q.2.1 ∧ q.2.1 ≤ 108 → q.1 = mm_hpc y)) = true := fun _ h => absurd h List.not_mem_nil
theorem mm_hyA : ∀ q ∈ mm_handT, q.1.1 ∈ mm_hy := by decide +kernel
def mm_nestT : List (Nat × Nat) := [(0, 45), (2, 85), (3, 25)]
theorem mm_nestA : ∀ a, a < mm_siteT.length → (mm_sd a).2.2.2 = 107 → ((mm_sd a).2.1, (mm_sd a).2.2.1) ∈ mm_nestT := by decide +kernel
theorem mm_nestW : ∀ q ∈ mm_nestT, Cond.methodLinkNest (mm_cn q.1) q.2 yX4_within RX4 ∈ lw_tbl := List.forall_mem_cons.mpr ⟨List.mem_of_getElem? (i := 90) (by decide +kernel), List.forall_mem_cons.mpr ⟨List.mem_of_getElem? (i := 300) (by decide +kernel), List.forall_mem_cons.mpr ⟨List.mem_of_getElem? (i := 317) (by decide +kernel), fun _ h => absurd h List.not_mem_nil⟩⟩⟩
theorem mm_castW : ∀ E, E < 3 → Cond.castable (mm_en E) (mm_en E) ∈ lw_tbl := lt_s (lt_s (lt_s lt_0 (List.mem_of_getElem? (i := 358) (by decide +kernel))) (List.mem_of_getElem? (i := 220) (by decide +kernel))) (List.mem_of_getElem? (i := 333) (by decide +kernel))
theorem mm_decW0 : Cond.declares (Bundle.initS "java/lang/RuntimeException") ∈ lw_tbl := List.mem_of_getElem? (i := 222) (by decide +kernel)
theorem mm_decW1 : Cond.declares (Bundle.initS "java/lang/Exception") ∈ lw_tbl := List.mem_of_getElem? (i := 224) (by decide +kernel)
theorem mm_decW2 : Cond.declares (Bundle.initS "java/lang/Throwable") ∈ lw_tbl := List.mem_of_getElem? (i := 226) (by decide +kernel)
theorem mm_aoW : Cond.arrayOver (.object RX3) ∈ lw_tbl := List.mem_of_getElem? (i := 37) (by decide +kernel)
theorem mm_str_0 : Cond.stringRef RX4 (mm_th 0).2.1 (mm_th 0).2.2.2.2 ∈ lw_tbl := List.mem_of_getElem? (i := 340) (by decide +kernel)
theorem mm_str_1 : Cond.stringRef RX4 (mm_th 1).2.1 (mm_th 1).2.2.2.2 ∈ lw_tbl := List.mem_of_getElem? (i := 383) (by decide +kernel)
theorem mm_str_2 : Cond.stringRef RX4 (mm_th 2).2.1 (mm_th 2).2.2.2.2 ∈ lw_tbl := List.mem_of_getElem? (i := 405) (by decide +kernel)
theorem mm_str_3 : Cond.stringRef RX4 (mm_th 3).2.1 (mm_th 3).2.2.2.2 ∈ lw_tbl := List.mem_of_getElem? (i := 418) (by decide +kernel)
theorem mm_str_4 : Cond.stringRef RX4 (mm_th 4).2.1 (mm_th 4).2.2.2.2 ∈ lw_tbl := List.mem_of_getElem? (i := 428) (by decide +kernel)
theorem mm_str_5 : Cond.stringRef RX4 (mm_th 5).2.1 (mm_th 5).2.2.2.2 ∈ lw_tbl := List.mem_of_getElem? (i := 440) (by decide +kernel)
theorem mm_str_6 : Cond.stringRef RX4 (mm_th 6).2.1 (mm_th 6).2.2.2.2 ∈ lw_tbl := List.mem_of_getElem? (i := 423) (by decide +kernel)
theorem mm_str_7 : Cond.stringRef RX4 (mm_th 7).2.1 (mm_th 7).2.2.2.2 ∈ lw_tbl := List.mem_of_getElem? (i := 536) (by decide +kernel)
theorem mm_str_8 : Cond.stringRef RX4 (mm_th 8).2.1 (mm_th 8).2.2.2.2 ∈ lw_tbl := List.mem_of_getElem? (i := 567) (by decide +kernel)
theorem mm_str_9 : Cond.stringRef RX4 (mm_th 9).2.1 (mm_th 9).2.2.2.2 ∈ lw_tbl := List.mem_of_getElem? (i := 545) (by decide +kernel)
theorem mm_str_10 : Cond.stringRef RX4 (mm_th 10).2.1 (mm_th 10).2.2.2.2 ∈ lw_tbl := List.mem_of_getElem? (i := 259) (by decide +kernel)
theorem mm_str_11 : Cond.stringRef RX4 (mm_th 11).2.1 (mm_th 11).2.2.2.2 ∈ lw_tbl := List.mem_of_getElem? (i := 365) (by decide +kernel)
theorem mm_str_12 : Cond.stringRef RX4 (mm_th 12).2.1 (mm_th 12).2.2.2.2 ∈ lw_tbl := List.mem_of_getElem? (i := 382) (by decide +kernel)
theorem mm_strs_0 : ∀ a, a < 0 → (fun a => Cond.stringRef RX4 (mm_th a).2.1 (mm_th a).2.2.2.2 ∈ lw_tbl) a := lt_0
theorem mm_strs_13 : ∀ a, a < 13 → (fun a => Cond.stringRef RX4 (mm_th a).2.1 (mm_th a).2.2.2.2 ∈ lw_tbl) a := lt_s (lt_s (lt_s (lt_s (lt_s (lt_s (lt_s (lt_s (lt_s (lt_s (lt_s (lt_s (lt_s (mm_strs_0) mm_str_0) mm_str_1) mm_str_2) mm_str_3) mm_str_4) mm_str_5) mm_str_6) mm_str_7) mm_str_8) mm_str_9) mm_str_10) mm_str_11) mm_str_12
theorem mm_strA {a : Nat} (h : a < mm_thrT.length) : Cond.stringRef RX4 (mm_th a).2.1 (mm_th a).2.2.2.2 ∈ lw_tbl := mm_strs_13 a h
end
section
/-! what holds of the tables and of what nobody writes, at a method's entry -/
def mm_scr (L : Nat) (xs : Nat → Int32) : List Int := 0 :: (List.range L).map fun j => (xs j).toInt
def mm_K (g : mm_G) (D : va_G) (L : Nat) (xs : Nat → Int32) (s : State) : Prop :=
  va_K D vwCl (mm_tys g) s ∧ vx_Zq Bundle.tN "UNASSIGNED_STACK" Bundle.steD (mm_A g) s s.heap ∧ vx_Zq Bundle.tN "SUPPRESSED_SENTINEL" Bundle.listD (mm_A g) s s.heap ∧
  (∀ a, a < mm_thrT.length → ∃ sa, vk_R RX4 (mm_th a).2.1 (mm_th a).2.2.2.2 sa s) ∧ (∀ E, E < 3 → ∀ w ∈ mm_bad (mm_en E), va_Nw w s) ∧
  True ∧ (∀ q ∈ mm_nestT, va_Nw (Cond.methodLinkNest (mm_cn q.1) q.2 yX4_within RX4) s) ∧
  va_AO RX3 s ∧ va_X g.1 L xs s s.heap ∧ g.1 < g.2.1 ∧ g.2.1 ≤ s.heap.size ∧ L ≤ 260
theorem mm_K.move {g : mm_G} {D : va_G} {L : Nat} {xs : Nat → Int32} {s U : State} (hW : s.WarmedH U.vm) (hz : s.heap.size ≤ U.heap.size) (hq : ∀ q : Nat, q < s.heap.size → ¬ mm_A g q → U.heap[q]? = s.heap[q]?) (h : mm_K g D L xs s) : mm_K g D L xs U := by
  obtain ⟨h1, h2, h3, h4, h5, h6, h7, h8, h9, h10, h11, h12⟩ := h
  refine ⟨va_K.moved hW.alike h1, vx_Zq.moved hW.alike (h2.kept hq), vx_Zq.moved hW.alike (h3.kept hq), fun a ha => ?_, fun E hE w hw => ?_, h6, fun q hq => va_Nw.warmM hW (h7 q hq), va_AO.moved hW.alike h8, ?_, h10, Nat.le_trans h11 hz, h12⟩
  · obtain ⟨sa, h⟩ := h4 a ha
    exact ⟨sa, vk_R.warm hW h⟩
  · have hz := h5 E hE w hw
    unfold mm_bad at hw
    rcases List.mem_cons.mp hw with rfl | hw
    · exact va_Nw.warmC hW hz
    rcases List.mem_cons.mp hw with rfl | hw
    · exact va_Nw.warmD hW hz
    rcases List.mem_cons.mp hw with rfl | hw
    · exact va_Nw.warmD hW hz
    rcases List.mem_cons.mp hw with rfl | hw
    · exact va_Nw.warmD hW hz
    cases hw
  · exact va_X.moved hW.alike (h9.kept (hq _ (Nat.lt_of_lt_of_le h10 h11) (Nat.not_le.mpr h10)))
/-- what holds of the method that runs -/
def mm_X (y : Nat) (l : Launch) (p : Program) (R : Room) (s : State) (m : MethodId) (args : Array Value) (meth : Method) (c : Code) : Prop :=
  p.tables.exec = Jvm.exec ∧ c.code = mm_by y ∧ c.maxLocals = mm_mL y ∧ meth.sig.returnType = mm_rt y ∧ meth.locks = false ∧ meth.name = (mm_yn y).name ∧ s.vm.findClass (mm_cn (mm_own y)) = some m.cls ∧ (∀ w ∈ mm_w, w.before args s = true) ∧ c.exceptionTable.toList = tableOf (mm_hh y) ∧ mm_nF y ≤ R.frames ∧ mm_nL y ≤ R.locals ∧ l.stackTraces = false
theorem mm_okc {v : mm_V} {st : List mm_V} (hv : mm_ok v) (h : ∀ w ∈ st, mm_ok w) : ∀ w ∈ v :: st, mm_ok w := fun w hw => (List.mem_cons.mp hw).elim (fun e => e ▸ hv) (h w)
theorem mm_okt {v : mm_V} {st : List mm_V} (h : ∀ w ∈ v :: st, mm_ok w) : mm_ok v ∧ ∀ w ∈ st, mm_ok w := ⟨h v List.mem_cons_self, fun w hw => h w (List.mem_cons_of_mem _ hw)⟩
theorem mm_and_r (x y : Int) : mm_rng (mm_and x y) := mm_rT _
theorem mm_or_r (x y : Int) : mm_rng (mm_or x y) := mm_rT _
theorem mm_okB_dec {y i : Nat} {pc op a : Nat} {b : Int} (hc : mm_code y i = some (pc, (op, (a, b)))) (h : ¬ op = 111) : decode (mm_by y) pc = .ok (mm_ins op a b) ∧ (¬ (op = 24 ∨ op = 56 ∨ (100 ≤ op ∧ op ≤ 104)) → mm_nx y (i + 1) = pc + (mm_ins op a b).2) ∧ (24 ≤ op ∧ op ≤ 38 → (pc : Int) + b = (mm_nx y a : Int)) ∧ (op = 3 ∨ op = 5 ∨ op = 7 ∨ op = 9 → a < 4) ∧ (40 ≤ op ∧ op ≤ 42 → (mm_fd a).2.1 = mm_own y ∧ a < mm_fldT.length) ∧
    (105 ≤ op ∧ op ≤ 108 → (mm_sd a).2.1 = mm_own y ∧ (mm_sd a).2.2.2 = op ∧ a < mm_siteT.length ∧ mm_nF (mm_sd a).1.1 + 1 ≤ mm_nF y ∧ 8 + (mm_mL (mm_sd a).1.1 + 11) + mm_nL (mm_sd a).1.1 ≤ mm_nL y) ∧ (57 ≤ op ∧ op ≤ 59 → 1 ≤ mm_nF y ∧ 21 ≤ mm_nL y) ∧
    (op = 104 → 6 ≤ mm_nF y ∧ 82 ≤ mm_nL y ∧ a < mm_thrT.length ∧ mm_own y = 4 ∧ (mm_th a).2.2.2.1 = b.toNat ∧ mm_hh y = [] ∧ decode (mm_by y) (pc + 3) = .ok (.dup, 1) ∧ decode (mm_by y) (pc + 4) = .ok (.ldc (mm_th a).2.1, 2) ∧ decode (mm_by y) (pc + 6) = .ok (.invokespecial (mm_th a).2.2.1, 3) ∧ decode (mm_by y) (pc + 9) = .ok (.athrow, 1)) ∧
    (op = 100 → mm_rt y = some .int) ∧ (op = 101 → mm_rt y = some .boolean) ∧ (op = 102 → mm_rt y = some (.object RX3)) ∧ (op = 103 → mm_rt y = none) := by
  have hk := (mm_okA hc).1
  unfold mm_okB at hk
  dsimp only at hk
  rw [if_neg h] at hk
  simp only [Bool.and_eq_true] at hk
  obtain ⟨⟨⟨⟨⟨⟨⟨⟨⟨⟨⟨k1, k2⟩, k3⟩, k4⟩, k5⟩, k6⟩, k7⟩, k8⟩, k9⟩, k10⟩, k11⟩, k12⟩ := hk
  refine ⟨of_decide_eq_true k1, fun q => ?_, fun q => ?_, fun q => ?_, fun q => ?_, fun q => ?_, fun q => ?_, fun q => ?_, fun q => ?_, fun q => ?_, fun q => ?_, fun q => ?_⟩
  · rw [if_neg q] at k2; exact of_decide_eq_true k2
  · rw [if_pos q] at k3; exact of_decide_eq_true k3
  · rw [if_pos q] at k4; exact of_decide_eq_true k4
  · rw [if_pos q] at k5; exact of_decide_eq_true k5
  · rw [if_pos q] at k6; exact of_decide_eq_true k6
  · rw [if_pos q] at k7; exact of_decide_eq_true k7
  · rw [if_pos q] at k8; exact of_decide_eq_true k8
  · rw [if_pos q] at k9; exact of_decide_eq_true k9
  · rw [if_pos q] at k10; exact of_decide_eq_true k10
  · rw [if_pos q] at k11; exact of_decide_eq_true k11
  · rw [if_pos q] at k12; exact of_decide_eq_true k12
theorem mm_bA : mm_codeT.all (fun l => l.all (fun q => decide ((q.2.1 = 1 → (Int8.ofInt q.2.2.2).toInt32 = Int32.ofInt q.2.2.2) ∧ (q.2.1 = 2 → (Int16.ofInt q.2.2.2).toInt32 = Int32.ofInt q.2.2.2)))) = true := by decide +kernel
theorem mm_bB {y i : Nat} {q : mm_E} (h : mm_code y i = some q) : (q.2.1 = 1 → (Int8.ofInt q.2.2.2).toInt32 = Int32.ofInt q.2.2.2) ∧ (q.2.1 = 2 → (Int16.ofInt q.2.2.2).toInt32 = Int32.ofInt q.2.2.2) := by
  unfold mm_code at h
  cases hy : mm_codeT[y]? with
  | none => rw [hy] at h; cases h
  | some l =>
    rw [hy] at h
    have h1 := List.all_eq_true.mp mm_bA l (List.mem_of_getElem? hy)
    exact of_decide_eq_true (List.all_eq_true.mp h1 q (List.mem_of_getElem? h))
theorem mm_b8 {y i pc a : Nat} {b : Int} (h : mm_code y i = some (pc, (1, (a, b)))) : (Int8.ofInt b).toInt32 = Int32.ofInt b := (mm_bB h).1 rfl
theorem mm_b16 {y i pc a : Nat} {b : Int} (h : mm_code y i = some (pc, (2, (a, b)))) : (Int16.ofInt b).toInt32 = Int32.ofInt b := (mm_bB h).2 rfl
section MMS
variable {p : Program} {l : Launch} {e : Env} {R : Room} {s : State} {m : MethodId} {args : Array Value} {below : List Frame} {meth : Method} {c : Code} {H : Heap} {locs : List Loc} {cells slots : Nat} {Q : State → Prop}
variable {g : mm_G} {D : va_G} {y i pc op a : Nat} {b : Int} {ls ls' : mm_F} {st st' : List mm_V} {h h' : mm_H} {j : Option Nat} {rls : Array Slot} {n0 s0 L : Nat} {xs : Nat → Int32}
/-- what the rest of the run may take as given -/
def mm_KK (p : Program) (l : Launch) (e : Env) (R : Room) (s : State) (m : MethodId) (args : Array Value) (below : List Frame) (meth : Method) (c : Code) (Q : State → Prop) (g : mm_G) (D : va_G) (y n0 s0 L : Nat) (xs : Nat → Int32) (pc : Nat) (ls : mm_F) (st : List mm_V) (h : mm_H) : Prop :=
  ∀ (H : Heap) (locs : List Loc) (cells slots : Nat) (rls : Array Slot), va_S (mm_A g) s.heap H locs → mm_Rl g D h H → mm_LR g (mm_mL y) ls rls → (∀ v ∈ st, mm_ok v) → cells + n0 = h.2.1 → slots + s0 = h.2.2.1 → h.2.2.2 = mm_scr L xs →
    W p l e R s m args below meth c H locs cells slots Q (F0 m pc rls (st.map (mm_up g.1 g.2.1)))
theorem mm_step_iconst (hc : mm_code y i = some (pc, (0, (a, b)))) (hop : mm_op mm_fld 0 a b ls st h = some (ls', (st', (h', j)))) (X : mm_X y l p R s m args meth c) (K : mm_K g D L xs s) (hS : va_S (mm_A g) s.heap H locs) (hR : mm_Rl g D h H) (hL : mm_LR g (mm_mL y) ls rls) (hst : ∀ v ∈ st, mm_ok v) (hcc : cells + n0 = h.2.1) (hss : slots + s0 = h.2.2.1) (hsc : h.2.2.2 = mm_scr L xs) (hz0 : s.heap.size ≤ g.2.1 + n0) (rc : h'.2.1 ≤ R.cells + n0) (rs : h'.2.2.1 ≤ R.slots + s0)
    (kk : mm_KK p l e R s m args below meth c Q g D y n0 s0 L xs (mm_nx y (j.getD (i + 1))) ls' st' h') : W p l e R s m args below meth c H locs cells slots Q (F0 m pc rls (st.map (mm_up g.1 g.2.1))) := by
  obtain ⟨hx, hb, hml, -, -, hnm, hown, hts, -, hnF, hnL, -⟩ := X
  obtain ⟨hd, hn, hj, ha4, hfo, -, hroom, -⟩ := mm_okB_dec hc (by decide)
  have hn := hn (by decide)
  replace hop : (if mm_rng b then some (ls, (mm_I b :: st, (h, none))) else none) = some (ls', (st', (h', j))) := hop
  by_cases hr : mm_rng b
  · rw [if_pos hr] at hop
    cases hop
    have k := kk H locs cells slots rls hS hR hL (mm_okc hr hst) hcc hss hsc
    rw [show (none : Option Nat).getD (i + 1) = i + 1 from rfl, hn] at k
    exact lv_iconst hx hb hd rfl k
  · rw [if_neg hr] at hop
    cases hop

theorem mm_step_bipush (hc : mm_code y i = some (pc, (1, (a, b)))) (hop : mm_op mm_fld 1 a b ls st h = some (ls', (st', (h', j)))) (X : mm_X y l p R s m args meth c) (K : mm_K g D L xs s) (hS : va_S (mm_A g) s.heap H locs) (hR : mm_Rl g D h H) (hL : mm_LR g (mm_mL y) ls rls) (hst : ∀ v ∈ st, mm_ok v) (hcc : cells + n0 = h.2.1) (hss : slots + s0 = h.2.2.1) (hsc : h.2.2.2 = mm_scr L xs) (hz0 : s.heap.size ≤ g.2.1 + n0) (rc : h'.2.1 ≤ R.cells + n0) (rs : h'.2.2.1 ≤ R.slots + s0)
    (kk : mm_KK p l e R s m args below meth c Q g D y n0 s0 L xs (mm_nx y (j.getD (i + 1))) ls' st' h') : W p l e R s m args below meth c H locs cells slots Q (F0 m pc rls (st.map (mm_up g.1 g.2.1))) := by
  obtain ⟨hx, hb, hml, -, -, hnm, hown, hts, -, hnF, hnL, -⟩ := X
  obtain ⟨hd, hn, hj, ha4, hfo, -, hroom, -⟩ := mm_okB_dec hc (by decide)
  have hn := hn (by decide)
  replace hop : (if mm_rng b then some (ls, (mm_I b :: st, (h, none))) else none) = some (ls', (st', (h', j))) := hop
  by_cases hr : mm_rng b
  · rw [if_pos hr] at hop
    cases hop
    have k := kk H locs cells slots rls hS hR hL (mm_okc hr hst) hcc hss hsc
    rw [show (none : Option Nat).getD (i + 1) = i + 1 from rfl, hn] at k
    exact lv_bipush hx hb hd (mm_b8 hc) k
  · rw [if_neg hr] at hop
    cases hop

theorem mm_step_sipush (hc : mm_code y i = some (pc, (2, (a, b)))) (hop : mm_op mm_fld 2 a b ls st h = some (ls', (st', (h', j)))) (X : mm_X y l p R s m args meth c) (K : mm_K g D L xs s) (hS : va_S (mm_A g) s.heap H locs) (hR : mm_Rl g D h H) (hL : mm_LR g (mm_mL y) ls rls) (hst : ∀ v ∈ st, mm_ok v) (hcc : cells + n0 = h.2.1) (hss : slots + s0 = h.2.2.1) (hsc : h.2.2.2 = mm_scr L xs) (hz0 : s.heap.size ≤ g.2.1 + n0) (rc : h'.2.1 ≤ R.cells + n0) (rs : h'.2.2.1 ≤ R.slots + s0)
    (kk : mm_KK p l e R s m args below meth c Q g D y n0 s0 L xs (mm_nx y (j.getD (i + 1))) ls' st' h') : W p l e R s m args below meth c H locs cells slots Q (F0 m pc rls (st.map (mm_up g.1 g.2.1))) := by
  obtain ⟨hx, hb, hml, -, -, hnm, hown, hts, -, hnF, hnL, -⟩ := X
  obtain ⟨hd, hn, hj, ha4, hfo, -, hroom, -⟩ := mm_okB_dec hc (by decide)
  have hn := hn (by decide)
  replace hop : (if mm_rng b then some (ls, (mm_I b :: st, (h, none))) else none) = some (ls', (st', (h', j))) := hop
  by_cases hr : mm_rng b
  · rw [if_pos hr] at hop
    cases hop
    have k := kk H locs cells slots rls hS hR hL (mm_okc hr hst) hcc hss hsc
    rw [show (none : Option Nat).getD (i + 1) = i + 1 from rfl, hn] at k
    exact lv_sipush hx hb hd (mm_b16 hc) k
  · rw [if_neg hr] at hop
    cases hop

theorem mm_step_iload_n (hc : mm_code y i = some (pc, (3, (a, b)))) (hop : mm_op mm_fld 3 a b ls st h = some (ls', (st', (h', j)))) (X : mm_X y l p R s m args meth c) (K : mm_K g D L xs s) (hS : va_S (mm_A g) s.heap H locs) (hR : mm_Rl g D h H) (hL : mm_LR g (mm_mL y) ls rls) (hst : ∀ v ∈ st, mm_ok v) (hcc : cells + n0 = h.2.1) (hss : slots + s0 = h.2.2.1) (hsc : h.2.2.2 = mm_scr L xs) (hz0 : s.heap.size ≤ g.2.1 + n0) (rc : h'.2.1 ≤ R.cells + n0) (rs : h'.2.2.1 ≤ R.slots + s0)
    (kk : mm_KK p l e R s m args below meth c Q g D y n0 s0 L xs (mm_nx y (j.getD (i + 1))) ls' st' h') : W p l e R s m args below meth c H locs cells slots Q (F0 m pc rls (st.map (mm_up g.1 g.2.1))) := by
  obtain ⟨hx, hb, hml, -, -, hnm, hown, hts, -, hnF, hnL, -⟩ := X
  obtain ⟨hd, hn, hj, ha4, hfo, -, hroom, -⟩ := mm_okB_dec hc (by decide)
  have hn := hn (by decide)
  replace hop : mm_o_load a ls st h = some (ls', (st', (h', j))) := hop
  unfold mm_o_load at hop
  split at hop
  · rename_i z hz
    cases hop
    obtain ⟨h1, -, h3⟩ := hL.2.2.2 a _ hz
    have k := kk H locs cells slots rls hS hR hL (mm_okc h3 hst) hcc hss hsc
    rw [show (none : Option Nat).getD (i + 1) = i + 1 from rfl, hn] at k
    exact lv_iload_n hx hb hd (Nat.mod_eq_of_lt (ha4 (by decide))) h1 k
  · cases hop

theorem mm_step_iload (hc : mm_code y i = some (pc, (4, (a, b)))) (hop : mm_op mm_fld 4 a b ls st h = some (ls', (st', (h', j)))) (X : mm_X y l p R s m args meth c) (K : mm_K g D L xs s) (hS : va_S (mm_A g) s.heap H locs) (hR : mm_Rl g D h H) (hL : mm_LR g (mm_mL y) ls rls) (hst : ∀ v ∈ st, mm_ok v) (hcc : cells + n0 = h.2.1) (hss : slots + s0 = h.2.2.1) (hsc : h.2.2.2 = mm_scr L xs) (hz0 : s.heap.size ≤ g.2.1 + n0) (rc : h'.2.1 ≤ R.cells + n0) (rs : h'.2.2.1 ≤ R.slots + s0)
    (kk : mm_KK p l e R s m args below meth c Q g D y n0 s0 L xs (mm_nx y (j.getD (i + 1))) ls' st' h') : W p l e R s m args below meth c H locs cells slots Q (F0 m pc rls (st.map (mm_up g.1 g.2.1))) := by
  obtain ⟨hx, hb, hml, -, -, hnm, hown, hts, -, hnF, hnL, -⟩ := X
  obtain ⟨hd, hn, hj, ha4, hfo, -, hroom, -⟩ := mm_okB_dec hc (by decide)
  have hn := hn (by decide)
  replace hop : mm_o_load a ls st h = some (ls', (st', (h', j))) := hop
  unfold mm_o_load at hop
  split at hop
  · rename_i z hz
    cases hop
    obtain ⟨h1, -, h3⟩ := hL.2.2.2 a _ hz
    have k := kk H locs cells slots rls hS hR hL (mm_okc h3 hst) hcc hss hsc
    rw [show (none : Option Nat).getD (i + 1) = i + 1 from rfl, hn] at k
    exact lv_iload hx hb hd h1 k
  · cases hop

theorem mm_step_aload_n (hc : mm_code y i = some (pc, (5, (a, b)))) (hop : mm_op mm_fld 5 a b ls st h = some (ls', (st', (h', j)))) (X : mm_X y l p R s m args meth c) (K : mm_K g D L xs s) (hS : va_S (mm_A g) s.heap H locs) (hR : mm_Rl g D h H) (hL : mm_LR g (mm_mL y) ls rls) (hst : ∀ v ∈ st, mm_ok v) (hcc : cells + n0 = h.2.1) (hss : slots + s0 = h.2.2.1) (hsc : h.2.2.2 = mm_scr L xs) (hz0 : s.heap.size ≤ g.2.1 + n0) (rc : h'.2.1 ≤ R.cells + n0) (rs : h'.2.2.1 ≤ R.slots + s0)
    (kk : mm_KK p l e R s m args below meth c Q g D y n0 s0 L xs (mm_nx y (j.getD (i + 1))) ls' st' h') : W p l e R s m args below meth c H locs cells slots Q (F0 m pc rls (st.map (mm_up g.1 g.2.1))) := by
  obtain ⟨hx, hb, hml, -, -, hnm, hown, hts, -, hnF, hnL, -⟩ := X
  obtain ⟨hd, hn, hj, ha4, hfo, -, hroom, -⟩ := mm_okB_dec hc (by decide)
  have hn := hn (by decide)
  replace hop : mm_o_aload a ls st h = some (ls', (st', (h', j))) := hop
  unfold mm_o_aload at hop
  split at hop
  · rename_i r hz
    cases hop
    obtain ⟨h1, -, h3⟩ := hL.2.2.2 a _ hz
    have k := kk H locs cells slots rls hS hR hL (mm_okc h3 hst) hcc hss hsc
    rw [show (none : Option Nat).getD (i + 1) = i + 1 from rfl, hn] at k
    cases r with
    | none => exact lv_aload_nN hx hb hd (Nat.mod_eq_of_lt (ha4 (by decide))) h1 k
    | some r => exact lv_aload_n hx hb hd (Nat.mod_eq_of_lt (ha4 (by decide))) h1 k
  · cases hop

theorem mm_step_aload (hc : mm_code y i = some (pc, (6, (a, b)))) (hop : mm_op mm_fld 6 a b ls st h = some (ls', (st', (h', j)))) (X : mm_X y l p R s m args meth c) (K : mm_K g D L xs s) (hS : va_S (mm_A g) s.heap H locs) (hR : mm_Rl g D h H) (hL : mm_LR g (mm_mL y) ls rls) (hst : ∀ v ∈ st, mm_ok v) (hcc : cells + n0 = h.2.1) (hss : slots + s0 = h.2.2.1) (hsc : h.2.2.2 = mm_scr L xs) (hz0 : s.heap.size ≤ g.2.1 + n0) (rc : h'.2.1 ≤ R.cells + n0) (rs : h'.2.2.1 ≤ R.slots + s0)
    (kk : mm_KK p l e R s m args below meth c Q g D y n0 s0 L xs (mm_nx y (j.getD (i + 1))) ls' st' h') : W p l e R s m args below meth c H locs cells slots Q (F0 m pc rls (st.map (mm_up g.1 g.2.1))) := by
  obtain ⟨hx, hb, hml, -, -, hnm, hown, hts, -, hnF, hnL, -⟩ := X
  obtain ⟨hd, hn, hj, ha4, hfo, -, hroom, -⟩ := mm_okB_dec hc (by decide)
  have hn := hn (by decide)
  replace hop : mm_o_aload a ls st h = some (ls', (st', (h', j))) := hop
  unfold mm_o_aload at hop
  split at hop
  · rename_i r hz
    cases hop
    obtain ⟨h1, -, h3⟩ := hL.2.2.2 a _ hz
    have k := kk H locs cells slots rls hS hR hL (mm_okc h3 hst) hcc hss hsc
    rw [show (none : Option Nat).getD (i + 1) = i + 1 from rfl, hn] at k
    cases r with
    | none => exact lv_aloadN hx hb hd h1 k
    | some r => exact lv_aload hx hb hd h1 k
  · cases hop

theorem mm_step_istore_n (hc : mm_code y i = some (pc, (7, (a, b)))) (hop : mm_op mm_fld 7 a b ls st h = some (ls', (st', (h', j)))) (X : mm_X y l p R s m args meth c) (K : mm_K g D L xs s) (hS : va_S (mm_A g) s.heap H locs) (hR : mm_Rl g D h H) (hL : mm_LR g (mm_mL y) ls rls) (hst : ∀ v ∈ st, mm_ok v) (hcc : cells + n0 = h.2.1) (hss : slots + s0 = h.2.2.1) (hsc : h.2.2.2 = mm_scr L xs) (hz0 : s.heap.size ≤ g.2.1 + n0) (rc : h'.2.1 ≤ R.cells + n0) (rs : h'.2.2.1 ≤ R.slots + s0)
    (kk : mm_KK p l e R s m args below meth c Q g D y n0 s0 L xs (mm_nx y (j.getD (i + 1))) ls' st' h') : W p l e R s m args below meth c H locs cells slots Q (F0 m pc rls (st.map (mm_up g.1 g.2.1))) := by
  obtain ⟨hx, hb, hml, -, -, hnm, hown, hts, -, hnF, hnL, -⟩ := X
  obtain ⟨hd, hn, hj, ha4, hfo, -, hroom, -⟩ := mm_okB_dec hc (by decide)
  have hn := hn (by decide)
  replace hop : mm_o_store a ls st h = some (ls', (st', (h', j))) := hop
  unfold mm_o_store at hop
  split at hop
  · rename_i z st
    have hz := (mm_okt hst).1
    replace hst := (mm_okt hst).2
    by_cases hl : a < ls.length
    · rw [if_pos hl] at hop
      cases hop
      refine lv_istore_n hx hb hd (Nat.mod_eq_of_lt (ha4 (by decide))) hL.has (by rw [← hL.1]; exact hl) rfl (fun rls' h9 => ?_)
      have k := kk H locs cells slots rls' hS hR (hL.set (v := mm_I z) rfl hz h9) hst hcc hss hsc
      rw [show (none : Option Nat).getD (i + 1) = i + 1 from rfl, hn] at k
      exact k
    · rw [if_neg hl] at hop
      cases hop
  · cases hop

theorem mm_step_istore (hc : mm_code y i = some (pc, (8, (a, b)))) (hop : mm_op mm_fld 8 a b ls st h = some (ls', (st', (h', j)))) (X : mm_X y l p R s m args meth c) (K : mm_K g D L xs s) (hS : va_S (mm_A g) s.heap H locs) (hR : mm_Rl g D h H) (hL : mm_LR g (mm_mL y) ls rls) (hst : ∀ v ∈ st, mm_ok v) (hcc : cells + n0 = h.2.1) (hss : slots + s0 = h.2.2.1) (hsc : h.2.2.2 = mm_scr L xs) (hz0 : s.heap.size ≤ g.2.1 + n0) (rc : h'.2.1 ≤ R.cells + n0) (rs : h'.2.2.1 ≤ R.slots + s0)
    (kk : mm_KK p l e R s m args below meth c Q g D y n0 s0 L xs (mm_nx y (j.getD (i + 1))) ls' st' h') : W p l e R s m args below meth c H locs cells slots Q (F0 m pc rls (st.map (mm_up g.1 g.2.1))) := by
  obtain ⟨hx, hb, hml, -, -, hnm, hown, hts, -, hnF, hnL, -⟩ := X
  obtain ⟨hd, hn, hj, ha4, hfo, -, hroom, -⟩ := mm_okB_dec hc (by decide)
  have hn := hn (by decide)
  replace hop : mm_o_store a ls st h = some (ls', (st', (h', j))) := hop
  unfold mm_o_store at hop
  split at hop
  · rename_i z st
    have hz := (mm_okt hst).1
    replace hst := (mm_okt hst).2
    by_cases hl : a < ls.length
    · rw [if_pos hl] at hop
      cases hop
      refine lv_istore hx hb hd hL.has (by rw [← hL.1]; exact hl) rfl (fun rls' h9 => ?_)
      have k := kk H locs cells slots rls' hS hR (hL.set (v := mm_I z) rfl hz h9) hst hcc hss hsc
      rw [show (none : Option Nat).getD (i + 1) = i + 1 from rfl, hn] at k
      exact k
    · rw [if_neg hl] at hop
      cases hop
  · cases hop

theorem mm_step_astore_n (hc : mm_code y i = some (pc, (9, (a, b)))) (hop : mm_op mm_fld 9 a b ls st h = some (ls', (st', (h', j)))) (X : mm_X y l p R s m args meth c) (K : mm_K g D L xs s) (hS : va_S (mm_A g) s.heap H locs) (hR : mm_Rl g D h H) (hL : mm_LR g (mm_mL y) ls rls) (hst : ∀ v ∈ st, mm_ok v) (hcc : cells + n0 = h.2.1) (hss : slots + s0 = h.2.2.1) (hsc : h.2.2.2 = mm_scr L xs) (hz0 : s.heap.size ≤ g.2.1 + n0) (rc : h'.2.1 ≤ R.cells + n0) (rs : h'.2.2.1 ≤ R.slots + s0)
    (kk : mm_KK p l e R s m args below meth c Q g D y n0 s0 L xs (mm_nx y (j.getD (i + 1))) ls' st' h') : W p l e R s m args below meth c H locs cells slots Q (F0 m pc rls (st.map (mm_up g.1 g.2.1))) := by
  obtain ⟨hx, hb, hml, -, -, hnm, hown, hts, -, hnF, hnL, -⟩ := X
  obtain ⟨hd, hn, hj, ha4, hfo, -, hroom, -⟩ := mm_okB_dec hc (by decide)
  have hn := hn (by decide)
  replace hop : mm_o_astore a ls st h = some (ls', (st', (h', j))) := hop
  unfold mm_o_astore at hop
  split at hop
  · rename_i r st
    have hz := (mm_okt hst).1
    replace hst := (mm_okt hst).2
    by_cases hl : a < ls.length
    · rw [if_pos hl] at hop
      cases hop
      cases r with
      | none =>
        refine lv_astore_nN hx hb hd (Nat.mod_eq_of_lt (ha4 (by decide))) hL.has (by rw [← hL.1]; exact hl) rfl (fun rls' h9 => ?_)
        have k := kk H locs cells slots rls' hS hR (hL.set (v := mm_N) rfl hz h9) hst hcc hss hsc
        rw [show (none : Option Nat).getD (i + 1) = i + 1 from rfl, hn] at k
        exact k
      | some r =>
        refine lv_astore_n hx hb hd (Nat.mod_eq_of_lt (ha4 (by decide))) hL.has (by rw [← hL.1]; exact hl) rfl (fun rls' h9 => ?_)
        have k := kk H locs cells slots rls' hS hR (hL.set (v := mm_P r) rfl hz h9) hst hcc hss hsc
        rw [show (none : Option Nat).getD (i + 1) = i + 1 from rfl, hn] at k
        exact k
    · rw [if_neg hl] at hop
      cases hop
  · cases hop

theorem mm_step_astore (hc : mm_code y i = some (pc, (10, (a, b)))) (hop : mm_op mm_fld 10 a b ls st h = some (ls', (st', (h', j)))) (X : mm_X y l p R s m args meth c) (K : mm_K g D L xs s) (hS : va_S (mm_A g) s.heap H locs) (hR : mm_Rl g D h H) (hL : mm_LR g (mm_mL y) ls rls) (hst : ∀ v ∈ st, mm_ok v) (hcc : cells + n0 = h.2.1) (hss : slots + s0 = h.2.2.1) (hsc : h.2.2.2 = mm_scr L xs) (hz0 : s.heap.size ≤ g.2.1 + n0) (rc : h'.2.1 ≤ R.cells + n0) (rs : h'.2.2.1 ≤ R.slots + s0)
    (kk : mm_KK p l e R s m args below meth c Q g D y n0 s0 L xs (mm_nx y (j.getD (i + 1))) ls' st' h') : W p l e R s m args below meth c H locs cells slots Q (F0 m pc rls (st.map (mm_up g.1 g.2.1))) := by
  obtain ⟨hx, hb, hml, -, -, hnm, hown, hts, -, hnF, hnL, -⟩ := X
  obtain ⟨hd, hn, hj, ha4, hfo, -, hroom, -⟩ := mm_okB_dec hc (by decide)
  have hn := hn (by decide)
  replace hop : mm_o_astore a ls st h = some (ls', (st', (h', j))) := hop
  unfold mm_o_astore at hop
  split at hop
  · rename_i r st
    have hz := (mm_okt hst).1
    replace hst := (mm_okt hst).2
    by_cases hl : a < ls.length
    · rw [if_pos hl] at hop
      cases hop
      cases r with
      | none =>
        refine lv_astoreN hx hb hd hL.has (by rw [← hL.1]; exact hl) rfl (fun rls' h9 => ?_)
        have k := kk H locs cells slots rls' hS hR (hL.set (v := mm_N) rfl hz h9) hst hcc hss hsc
        rw [show (none : Option Nat).getD (i + 1) = i + 1 from rfl, hn] at k
        exact k
      | some r =>
        refine lv_astore hx hb hd hL.has (by rw [← hL.1]; exact hl) rfl (fun rls' h9 => ?_)
        have k := kk H locs cells slots rls' hS hR (hL.set (v := mm_P r) rfl hz h9) hst hcc hss hsc
        rw [show (none : Option Nat).getD (i + 1) = i + 1 from rfl, hn] at k
        exact k
    · rw [if_neg hl] at hop
      cases hop
  · cases hop

theorem mm_step_iadd (hc : mm_code y i = some (pc, (11, (a, b)))) (hop : mm_op mm_fld 11 a b ls st h = some (ls', (st', (h', j)))) (X : mm_X y l p R s m args meth c) (K : mm_K g D L xs s) (hS : va_S (mm_A g) s.heap H locs) (hR : mm_Rl g D h H) (hL : mm_LR g (mm_mL y) ls rls) (hst : ∀ v ∈ st, mm_ok v) (hcc : cells + n0 = h.2.1) (hss : slots + s0 = h.2.2.1) (hsc : h.2.2.2 = mm_scr L xs) (hz0 : s.heap.size ≤ g.2.1 + n0) (rc : h'.2.1 ≤ R.cells + n0) (rs : h'.2.2.1 ≤ R.slots + s0)
    (kk : mm_KK p l e R s m args below meth c Q g D y n0 s0 L xs (mm_nx y (j.getD (i + 1))) ls' st' h') : W p l e R s m args below meth c H locs cells slots Q (F0 m pc rls (st.map (mm_up g.1 g.2.1))) := by
  obtain ⟨hx, hb, hml, -, -, hnm, hown, hts, -, hnF, hnL, -⟩ := X
  obtain ⟨hd, hn, hj, ha4, hfo, -, hroom, -⟩ := mm_okB_dec hc (by decide)
  have hn := hn (by decide)
  replace hop : mm_o_bin (fun x y => some (x + y)) ls st h = some (ls', (st', (h', j))) := hop
  unfold mm_o_bin at hop
  split at hop
  · rename_i y9 x9 st
    have hy := (mm_okt hst).1
    replace hst := (mm_okt hst).2
    have hx9 := (mm_okt hst).1
    replace hst := (mm_okt hst).2
    have hy : mm_rng y9 := hy
    have hx9 : mm_rng x9 := hx9
    split at hop
    · rename_i z hz
      by_cases hr : mm_rng z
      · rw [if_pos hr] at hop
        cases hop
        cases hz
        have k := kk H locs cells slots rls hS hR hL (mm_okc hr hst) hcc hss hsc
        rw [show (none : Option Nat).getD (i + 1) = i + 1 from rfl, hn] at k
        have e9 : mm_up g.1 g.2.1 (mm_I (x9 + y9)) = .int _ := congrArg Value.int (Int32.ofInt_add x9 y9)
        rw [List.map_cons, e9] at k
        exact lv_iadd hx hb hd k
      · rw [if_neg hr] at hop
        cases hop
    · cases hop
  · cases hop

theorem mm_step_isub (hc : mm_code y i = some (pc, (12, (a, b)))) (hop : mm_op mm_fld 12 a b ls st h = some (ls', (st', (h', j)))) (X : mm_X y l p R s m args meth c) (K : mm_K g D L xs s) (hS : va_S (mm_A g) s.heap H locs) (hR : mm_Rl g D h H) (hL : mm_LR g (mm_mL y) ls rls) (hst : ∀ v ∈ st, mm_ok v) (hcc : cells + n0 = h.2.1) (hss : slots + s0 = h.2.2.1) (hsc : h.2.2.2 = mm_scr L xs) (hz0 : s.heap.size ≤ g.2.1 + n0) (rc : h'.2.1 ≤ R.cells + n0) (rs : h'.2.2.1 ≤ R.slots + s0)
    (kk : mm_KK p l e R s m args below meth c Q g D y n0 s0 L xs (mm_nx y (j.getD (i + 1))) ls' st' h') : W p l e R s m args below meth c H locs cells slots Q (F0 m pc rls (st.map (mm_up g.1 g.2.1))) := by
  obtain ⟨hx, hb, hml, -, -, hnm, hown, hts, -, hnF, hnL, -⟩ := X
  obtain ⟨hd, hn, hj, ha4, hfo, -, hroom, -⟩ := mm_okB_dec hc (by decide)
  have hn := hn (by decide)
  replace hop : mm_o_bin (fun x y => some (x - y)) ls st h = some (ls', (st', (h', j))) := hop
  unfold mm_o_bin at hop
  split at hop
  · rename_i y9 x9 st
    have hy := (mm_okt hst).1
    replace hst := (mm_okt hst).2
    have hx9 := (mm_okt hst).1
    replace hst := (mm_okt hst).2
    have hy : mm_rng y9 := hy
    have hx9 : mm_rng x9 := hx9
    split at hop
    · rename_i z hz
      by_cases hr : mm_rng z
      · rw [if_pos hr] at hop
        cases hop
        cases hz
        have k := kk H locs cells slots rls hS hR hL (mm_okc hr hst) hcc hss hsc
        rw [show (none : Option Nat).getD (i + 1) = i + 1 from rfl, hn] at k
        have e9 : mm_up g.1 g.2.1 (mm_I (x9 - y9)) = .int _ := congrArg Value.int (Int32.ofInt_sub x9 y9)
        rw [List.map_cons, e9] at k
        exact lv_isub hx hb hd k
      · rw [if_neg hr] at hop
        cases hop
    · cases hop
  · cases hop

theorem mm_step_imul (hc : mm_code y i = some (pc, (13, (a, b)))) (hop : mm_op mm_fld 13 a b ls st h = some (ls', (st', (h', j)))) (X : mm_X y l p R s m args meth c) (K : mm_K g D L xs s) (hS : va_S (mm_A g) s.heap H locs) (hR : mm_Rl g D h H) (hL : mm_LR g (mm_mL y) ls rls) (hst : ∀ v ∈ st, mm_ok v) (hcc : cells + n0 = h.2.1) (hss : slots + s0 = h.2.2.1) (hsc : h.2.2.2 = mm_scr L xs) (hz0 : s.heap.size ≤ g.2.1 + n0) (rc : h'.2.1 ≤ R.cells + n0) (rs : h'.2.2.1 ≤ R.slots + s0)
    (kk : mm_KK p l e R s m args below meth c Q g D y n0 s0 L xs (mm_nx y (j.getD (i + 1))) ls' st' h') : W p l e R s m args below meth c H locs cells slots Q (F0 m pc rls (st.map (mm_up g.1 g.2.1))) := by
  obtain ⟨hx, hb, hml, -, -, hnm, hown, hts, -, hnF, hnL, -⟩ := X
  obtain ⟨hd, hn, hj, ha4, hfo, -, hroom, -⟩ := mm_okB_dec hc (by decide)
  have hn := hn (by decide)
  replace hop : mm_o_bin (fun x y => some (x * y)) ls st h = some (ls', (st', (h', j))) := hop
  unfold mm_o_bin at hop
  split at hop
  · rename_i y9 x9 st
    have hy := (mm_okt hst).1
    replace hst := (mm_okt hst).2
    have hx9 := (mm_okt hst).1
    replace hst := (mm_okt hst).2
    have hy : mm_rng y9 := hy
    have hx9 : mm_rng x9 := hx9
    split at hop
    · rename_i z hz
      by_cases hr : mm_rng z
      · rw [if_pos hr] at hop
        cases hop
        cases hz
        have k := kk H locs cells slots rls hS hR hL (mm_okc hr hst) hcc hss hsc
        rw [show (none : Option Nat).getD (i + 1) = i + 1 from rfl, hn] at k
        have e9 : mm_up g.1 g.2.1 (mm_I (x9 * y9)) = .int _ := congrArg Value.int (Int32.ofInt_mul x9 y9)
        rw [List.map_cons, e9] at k
        exact lv_imul hx hb hd k
      · rw [if_neg hr] at hop
        cases hop
    · cases hop
  · cases hop

theorem mm_step_idiv (hc : mm_code y i = some (pc, (14, (a, b)))) (hop : mm_op mm_fld 14 a b ls st h = some (ls', (st', (h', j)))) (X : mm_X y l p R s m args meth c) (K : mm_K g D L xs s) (hS : va_S (mm_A g) s.heap H locs) (hR : mm_Rl g D h H) (hL : mm_LR g (mm_mL y) ls rls) (hst : ∀ v ∈ st, mm_ok v) (hcc : cells + n0 = h.2.1) (hss : slots + s0 = h.2.2.1) (hsc : h.2.2.2 = mm_scr L xs) (hz0 : s.heap.size ≤ g.2.1 + n0) (rc : h'.2.1 ≤ R.cells + n0) (rs : h'.2.2.1 ≤ R.slots + s0)
    (kk : mm_KK p l e R s m args below meth c Q g D y n0 s0 L xs (mm_nx y (j.getD (i + 1))) ls' st' h') : W p l e R s m args below meth c H locs cells slots Q (F0 m pc rls (st.map (mm_up g.1 g.2.1))) := by
  obtain ⟨hx, hb, hml, -, -, hnm, hown, hts, -, hnF, hnL, -⟩ := X
  obtain ⟨hd, hn, hj, ha4, hfo, -, hroom, -⟩ := mm_okB_dec hc (by decide)
  have hn := hn (by decide)
  replace hop : mm_o_bin (fun x y => if 0 ≤ x ∧ 0 < y then some (x / y) else none) ls st h = some (ls', (st', (h', j))) := hop
  unfold mm_o_bin at hop
  split at hop
  · rename_i y9 x9 st
    have hy := (mm_okt hst).1
    replace hst := (mm_okt hst).2
    have hx9 := (mm_okt hst).1
    replace hst := (mm_okt hst).2
    have hy : mm_rng y9 := hy
    have hx9 : mm_rng x9 := hx9
    split at hop
    · rename_i z hz
      by_cases hr : mm_rng z
      · rw [if_pos hr] at hop
        cases hop
        dsimp only at hz
        split at hz
        · rename_i hg
          cases hz
          have k := kk H locs cells slots rls hS hR hL (mm_okc hr hst) hcc hss hsc
          rw [show (none : Option Nat).getD (i + 1) = i + 1 from rfl, hn] at k
          have e9 : mm_up g.1 g.2.1 (mm_I _) = .int _ := congrArg Value.int (mm_div hx9 hy hg.1 hg.2).symm
          rw [List.map_cons, e9] at k
          exact lv_idiv hx hb hd (fun q => by have := (mm_eq0 hy).mp q; omega) k
        · cases hz
      · rw [if_neg hr] at hop
        cases hop
    · cases hop
  · cases hop

theorem mm_step_irem (hc : mm_code y i = some (pc, (15, (a, b)))) (hop : mm_op mm_fld 15 a b ls st h = some (ls', (st', (h', j)))) (X : mm_X y l p R s m args meth c) (K : mm_K g D L xs s) (hS : va_S (mm_A g) s.heap H locs) (hR : mm_Rl g D h H) (hL : mm_LR g (mm_mL y) ls rls) (hst : ∀ v ∈ st, mm_ok v) (hcc : cells + n0 = h.2.1) (hss : slots + s0 = h.2.2.1) (hsc : h.2.2.2 = mm_scr L xs) (hz0 : s.heap.size ≤ g.2.1 + n0) (rc : h'.2.1 ≤ R.cells + n0) (rs : h'.2.2.1 ≤ R.slots + s0)
    (kk : mm_KK p l e R s m args below meth c Q g D y n0 s0 L xs (mm_nx y (j.getD (i + 1))) ls' st' h') : W p l e R s m args below meth c H locs cells slots Q (F0 m pc rls (st.map (mm_up g.1 g.2.1))) := by
  obtain ⟨hx, hb, hml, -, -, hnm, hown, hts, -, hnF, hnL, -⟩ := X
  obtain ⟨hd, hn, hj, ha4, hfo, -, hroom, -⟩ := mm_okB_dec hc (by decide)
  have hn := hn (by decide)
  replace hop : mm_o_bin (fun x y => if 0 ≤ x ∧ 0 < y then some (x % y) else none) ls st h = some (ls', (st', (h', j))) := hop
  unfold mm_o_bin at hop
  split at hop
  · rename_i y9 x9 st
    have hy := (mm_okt hst).1
    replace hst := (mm_okt hst).2
    have hx9 := (mm_okt hst).1
    replace hst := (mm_okt hst).2
    have hy : mm_rng y9 := hy
    have hx9 : mm_rng x9 := hx9
    split at hop
    · rename_i z hz
      by_cases hr : mm_rng z
      · rw [if_pos hr] at hop
        cases hop
        dsimp only at hz
        split at hz
        · rename_i hg
          cases hz
          have k := kk H locs cells slots rls hS hR hL (mm_okc hr hst) hcc hss hsc
          rw [show (none : Option Nat).getD (i + 1) = i + 1 from rfl, hn] at k
          have e9 : mm_up g.1 g.2.1 (mm_I _) = .int _ := congrArg Value.int (mm_rem hx9 hy hg.1 hg.2).symm
          rw [List.map_cons, e9] at k
          exact lv_irem hx hb hd (fun q => by have := (mm_eq0 hy).mp q; omega) k
        · cases hz
      · rw [if_neg hr] at hop
        cases hop
    · cases hop
  · cases hop

theorem mm_step_ishl (hc : mm_code y i = some (pc, (16, (a, b)))) (hop : mm_op mm_fld 16 a b ls st h = some (ls', (st', (h', j)))) (X : mm_X y l p R s m args meth c) (K : mm_K g D L xs s) (hS : va_S (mm_A g) s.heap H locs) (hR : mm_Rl g D h H) (hL : mm_LR g (mm_mL y) ls rls) (hst : ∀ v ∈ st, mm_ok v) (hcc : cells + n0 = h.2.1) (hss : slots + s0 = h.2.2.1) (hsc : h.2.2.2 = mm_scr L xs) (hz0 : s.heap.size ≤ g.2.1 + n0) (rc : h'.2.1 ≤ R.cells + n0) (rs : h'.2.2.1 ≤ R.slots + s0)
    (kk : mm_KK p l e R s m args below meth c Q g D y n0 s0 L xs (mm_nx y (j.getD (i + 1))) ls' st' h') : W p l e R s m args below meth c H locs cells slots Q (F0 m pc rls (st.map (mm_up g.1 g.2.1))) := by
  obtain ⟨hx, hb, hml, -, -, hnm, hown, hts, -, hnF, hnL, -⟩ := X
  obtain ⟨hd, hn, hj, ha4, hfo, -, hroom, -⟩ := mm_okB_dec hc (by decide)
  have hn := hn (by decide)
  replace hop : mm_o_bin (fun x y => if 0 ≤ x ∧ 0 ≤ y ∧ y < 31 then some (x * 2 ^ y.toNat) else none) ls st h = some (ls', (st', (h', j))) := hop
  unfold mm_o_bin at hop
  split at hop
  · rename_i y9 x9 st
    have hy := (mm_okt hst).1
    replace hst := (mm_okt hst).2
    have hx9 := (mm_okt hst).1
    replace hst := (mm_okt hst).2
    have hy : mm_rng y9 := hy
    have hx9 : mm_rng x9 := hx9
    split at hop
    · rename_i z hz
      by_cases hr : mm_rng z
      · rw [if_pos hr] at hop
        cases hop
        dsimp only at hz
        split at hz
        · rename_i hg
          cases hz
          have k := kk H locs cells slots rls hS hR hL (mm_okc hr hst) hcc hss hsc
          rw [show (none : Option Nat).getD (i + 1) = i + 1 from rfl, hn] at k
          have e9 : mm_up g.1 g.2.1 (mm_I _) = .int _ := congrArg Value.int (mm_shl hx9 hg.1 hg.2.1 hg.2.2 hr).symm
          rw [List.map_cons, e9] at k
          exact lv_ishl hx hb hd k
        · cases hz
      · rw [if_neg hr] at hop
        cases hop
    · cases hop
  · cases hop

theorem mm_step_ishr (hc : mm_code y i = some (pc, (17, (a, b)))) (hop : mm_op mm_fld 17 a b ls st h = some (ls', (st', (h', j)))) (X : mm_X y l p R s m args meth c) (K : mm_K g D L xs s) (hS : va_S (mm_A g) s.heap H locs) (hR : mm_Rl g D h H) (hL : mm_LR g (mm_mL y) ls rls) (hst : ∀ v ∈ st, mm_ok v) (hcc : cells + n0 = h.2.1) (hss : slots + s0 = h.2.2.1) (hsc : h.2.2.2 = mm_scr L xs) (hz0 : s.heap.size ≤ g.2.1 + n0) (rc : h'.2.1 ≤ R.cells + n0) (rs : h'.2.2.1 ≤ R.slots + s0)
    (kk : mm_KK p l e R s m args below meth c Q g D y n0 s0 L xs (mm_nx y (j.getD (i + 1))) ls' st' h') : W p l e R s m args below meth c H locs cells slots Q (F0 m pc rls (st.map (mm_up g.1 g.2.1))) := by
  obtain ⟨hx, hb, hml, -, -, hnm, hown, hts, -, hnF, hnL, -⟩ := X
  obtain ⟨hd, hn, hj, ha4, hfo, -, hroom, -⟩ := mm_okB_dec hc (by decide)
  have hn := hn (by decide)
  replace hop : mm_o_bin (fun x y => if 0 ≤ x ∧ 0 ≤ y ∧ y < 31 then some (x / 2 ^ y.toNat) else none) ls st h = some (ls', (st', (h', j))) := hop
  unfold mm_o_bin at hop
  split at hop
  · rename_i y9 x9 st
    have hy := (mm_okt hst).1
    replace hst := (mm_okt hst).2
    have hx9 := (mm_okt hst).1
    replace hst := (mm_okt hst).2
    have hy : mm_rng y9 := hy
    have hx9 : mm_rng x9 := hx9
    split at hop
    · rename_i z hz
      by_cases hr : mm_rng z
      · rw [if_pos hr] at hop
        cases hop
        dsimp only at hz
        split at hz
        · rename_i hg
          cases hz
          have k := kk H locs cells slots rls hS hR hL (mm_okc hr hst) hcc hss hsc
          rw [show (none : Option Nat).getD (i + 1) = i + 1 from rfl, hn] at k
          have e9 : mm_up g.1 g.2.1 (mm_I _) = .int _ := congrArg Value.int (mm_shr hx9 hg.1 hg.2.1 hg.2.2).symm
          rw [List.map_cons, e9] at k
          exact lv_ishr hx hb hd k
        · cases hz
      · rw [if_neg hr] at hop
        cases hop
    · cases hop
  · cases hop

theorem mm_step_iand (hc : mm_code y i = some (pc, (18, (a, b)))) (hop : mm_op mm_fld 18 a b ls st h = some (ls', (st', (h', j)))) (X : mm_X y l p R s m args meth c) (K : mm_K g D L xs s) (hS : va_S (mm_A g) s.heap H locs) (hR : mm_Rl g D h H) (hL : mm_LR g (mm_mL y) ls rls) (hst : ∀ v ∈ st, mm_ok v) (hcc : cells + n0 = h.2.1) (hss : slots + s0 = h.2.2.1) (hsc : h.2.2.2 = mm_scr L xs) (hz0 : s.heap.size ≤ g.2.1 + n0) (rc : h'.2.1 ≤ R.cells + n0) (rs : h'.2.2.1 ≤ R.slots + s0)
    (kk : mm_KK p l e R s m args below meth c Q g D y n0 s0 L xs (mm_nx y (j.getD (i + 1))) ls' st' h') : W p l e R s m args below meth c H locs cells slots Q (F0 m pc rls (st.map (mm_up g.1 g.2.1))) := by
  obtain ⟨hx, hb, hml, -, -, hnm, hown, hts, -, hnF, hnL, -⟩ := X
  obtain ⟨hd, hn, hj, ha4, hfo, -, hroom, -⟩ := mm_okB_dec hc (by decide)
  have hn := hn (by decide)
  replace hop : mm_o_bin (fun x y => some (mm_and x y)) ls st h = some (ls', (st', (h', j))) := hop
  unfold mm_o_bin at hop
  split at hop
  · rename_i y9 x9 st
    have hy := (mm_okt hst).1
    replace hst := (mm_okt hst).2
    have hx9 := (mm_okt hst).1
    replace hst := (mm_okt hst).2
    have hy : mm_rng y9 := hy
    have hx9 : mm_rng x9 := hx9
    split at hop
    · rename_i z hz
      by_cases hr : mm_rng z
      · rw [if_pos hr] at hop
        cases hop
        cases hz
        have k := kk H locs cells slots rls hS hR hL (mm_okc hr hst) hcc hss hsc
        rw [show (none : Option Nat).getD (i + 1) = i + 1 from rfl, hn] at k
        have e9 : mm_up g.1 g.2.1 (mm_I (mm_and x9 y9)) = .int _ := congrArg Value.int (Int32.ofInt_toInt (Int32.ofInt x9 &&& Int32.ofInt y9))
        rw [List.map_cons, e9] at k
        exact lv_iand hx hb hd k
      · rw [if_neg hr] at hop
        cases hop
    · cases hop
  · cases hop

theorem mm_step_ior (hc : mm_code y i = some (pc, (19, (a, b)))) (hop : mm_op mm_fld 19 a b ls st h = some (ls', (st', (h', j)))) (X : mm_X y l p R s m args meth c) (K : mm_K g D L xs s) (hS : va_S (mm_A g) s.heap H locs) (hR : mm_Rl g D h H) (hL : mm_LR g (mm_mL y) ls rls) (hst : ∀ v ∈ st, mm_ok v) (hcc : cells + n0 = h.2.1) (hss : slots + s0 = h.2.2.1) (hsc : h.2.2.2 = mm_scr L xs) (hz0 : s.heap.size ≤ g.2.1 + n0) (rc : h'.2.1 ≤ R.cells + n0) (rs : h'.2.2.1 ≤ R.slots + s0)
    (kk : mm_KK p l e R s m args below meth c Q g D y n0 s0 L xs (mm_nx y (j.getD (i + 1))) ls' st' h') : W p l e R s m args below meth c H locs cells slots Q (F0 m pc rls (st.map (mm_up g.1 g.2.1))) := by
  obtain ⟨hx, hb, hml, -, -, hnm, hown, hts, -, hnF, hnL, -⟩ := X
  obtain ⟨hd, hn, hj, ha4, hfo, -, hroom, -⟩ := mm_okB_dec hc (by decide)
  have hn := hn (by decide)
  replace hop : mm_o_bin (fun x y => some (mm_or x y)) ls st h = some (ls', (st', (h', j))) := hop
  unfold mm_o_bin at hop
  split at hop
  · rename_i y9 x9 st
    have hy := (mm_okt hst).1
    replace hst := (mm_okt hst).2
    have hx9 := (mm_okt hst).1
    replace hst := (mm_okt hst).2
    have hy : mm_rng y9 := hy
    have hx9 : mm_rng x9 := hx9
    split at hop
    · rename_i z hz
      by_cases hr : mm_rng z
      · rw [if_pos hr] at hop
        cases hop
        cases hz
        have k := kk H locs cells slots rls hS hR hL (mm_okc hr hst) hcc hss hsc
        rw [show (none : Option Nat).getD (i + 1) = i + 1 from rfl, hn] at k
        have e9 : mm_up g.1 g.2.1 (mm_I (mm_or x9 y9)) = .int _ := congrArg Value.int (Int32.ofInt_toInt (Int32.ofInt x9 ||| Int32.ofInt y9))
        rw [List.map_cons, e9] at k
        exact lv_ior hx hb hd k
      · rw [if_neg hr] at hop
        cases hop
    · cases hop
  · cases hop

theorem mm_step_iinc (hc : mm_code y i = some (pc, (20, (a, b)))) (hop : mm_op mm_fld 20 a b ls st h = some (ls', (st', (h', j)))) (X : mm_X y l p R s m args meth c) (K : mm_K g D L xs s) (hS : va_S (mm_A g) s.heap H locs) (hR : mm_Rl g D h H) (hL : mm_LR g (mm_mL y) ls rls) (hst : ∀ v ∈ st, mm_ok v) (hcc : cells + n0 = h.2.1) (hss : slots + s0 = h.2.2.1) (hsc : h.2.2.2 = mm_scr L xs) (hz0 : s.heap.size ≤ g.2.1 + n0) (rc : h'.2.1 ≤ R.cells + n0) (rs : h'.2.2.1 ≤ R.slots + s0)
    (kk : mm_KK p l e R s m args below meth c Q g D y n0 s0 L xs (mm_nx y (j.getD (i + 1))) ls' st' h') : W p l e R s m args below meth c H locs cells slots Q (F0 m pc rls (st.map (mm_up g.1 g.2.1))) := by
  obtain ⟨hx, hb, hml, -, -, hnm, hown, hts, -, hnF, hnL, -⟩ := X
  obtain ⟨hd, hn, hj, ha4, hfo, -, hroom, -⟩ := mm_okB_dec hc (by decide)
  have hn := hn (by decide)
  replace hop : mm_o_iinc a b ls st h = some (ls', (st', (h', j))) := hop
  unfold mm_o_iinc at hop
  split at hop
  · rename_i z hz
    by_cases hr : mm_rng (z + b)
    · rw [if_pos hr] at hop
      cases hop
      obtain ⟨q, hq⟩ := List.getElem?_of_mem (mm_lv_in (g := g) (q := (a, mm_up g.1 g.2.1 (mm_I z))).mpr ⟨mm_I z, hz, rfl⟩)
      refine lv_iinc hx hb hd hL.has hq (by rw [← Int32.ofInt_add]) (by rw [← hL.1]; exact (List.getElem?_eq_some_iff.mp hz).1) rfl (fun rls' h9 => ?_)
      have k := kk H locs cells slots rls' hS hR (hL.set (v := mm_I (z + b)) rfl hr h9) hst hcc hss hsc
      rw [show (none : Option Nat).getD (i + 1) = i + 1 from rfl, hn] at k
      exact k
    · rw [if_neg hr] at hop
      cases hop
  · cases hop

theorem mm_step_dup (hc : mm_code y i = some (pc, (21, (a, b)))) (hop : mm_op mm_fld 21 a b ls st h = some (ls', (st', (h', j)))) (X : mm_X y l p R s m args meth c) (K : mm_K g D L xs s) (hS : va_S (mm_A g) s.heap H locs) (hR : mm_Rl g D h H) (hL : mm_LR g (mm_mL y) ls rls) (hst : ∀ v ∈ st, mm_ok v) (hcc : cells + n0 = h.2.1) (hss : slots + s0 = h.2.2.1) (hsc : h.2.2.2 = mm_scr L xs) (hz0 : s.heap.size ≤ g.2.1 + n0) (rc : h'.2.1 ≤ R.cells + n0) (rs : h'.2.2.1 ≤ R.slots + s0)
    (kk : mm_KK p l e R s m args below meth c Q g D y n0 s0 L xs (mm_nx y (j.getD (i + 1))) ls' st' h') : W p l e R s m args below meth c H locs cells slots Q (F0 m pc rls (st.map (mm_up g.1 g.2.1))) := by
  obtain ⟨hx, hb, hml, -, -, hnm, hown, hts, -, hnF, hnL, -⟩ := X
  obtain ⟨hd, hn, hj, ha4, hfo, -, hroom, -⟩ := mm_okB_dec hc (by decide)
  have hn := hn (by decide)
  match st, hst, hop with
  | .inl z :: st, hst, hop =>
    cases hop
    have k := kk H locs cells slots rls hS hR hL (mm_okc (mm_okt hst).1 hst) hcc hss hsc
    rw [show (none : Option Nat).getD (i + 1) = i + 1 from rfl, hn] at k
    exact lv_dup hx hb hd rfl k
  | .inr (.inr r) :: st, hst, hop =>
    cases hop
    have k := kk H locs cells slots rls hS hR hL (mm_okc (mm_okt hst).1 hst) hcc hss hsc
    rw [show (none : Option Nat).getD (i + 1) = i + 1 from rfl, hn] at k
    exact lv_dup hx hb hd (by cases r <;> rfl) k
  | .inr (.inl z) :: st, hst, hop => cases hop
  | [], hst, hop => cases hop

theorem mm_step_dup2 (hc : mm_code y i = some (pc, (22, (a, b)))) (hop : mm_op mm_fld 22 a b ls st h = some (ls', (st', (h', j)))) (X : mm_X y l p R s m args meth c) (K : mm_K g D L xs s) (hS : va_S (mm_A g) s.heap H locs) (hR : mm_Rl g D h H) (hL : mm_LR g (mm_mL y) ls rls) (hst : ∀ v ∈ st, mm_ok v) (hcc : cells + n0 = h.2.1) (hss : slots + s0 = h.2.2.1) (hsc : h.2.2.2 = mm_scr L xs) (hz0 : s.heap.size ≤ g.2.1 + n0) (rc : h'.2.1 ≤ R.cells + n0) (rs : h'.2.2.1 ≤ R.slots + s0)
    (kk : mm_KK p l e R s m args below meth c Q g D y n0 s0 L xs (mm_nx y (j.getD (i + 1))) ls' st' h') : W p l e R s m args below meth c H locs cells slots Q (F0 m pc rls (st.map (mm_up g.1 g.2.1))) := by
  obtain ⟨hx, hb, hml, -, -, hnm, hown, hts, -, hnF, hnL, -⟩ := X
  obtain ⟨hd, hn, hj, ha4, hfo, -, hroom, -⟩ := mm_okB_dec hc (by decide)
  have hn := hn (by decide)
  match st, hst, hop with
  | .inl z :: .inr (.inr r) :: st, hst, hop =>
    cases hop
    have k := kk H locs cells slots rls hS hR hL (mm_okc (mm_okt hst).1 (mm_okc (mm_okt (mm_okt hst).2).1 hst)) hcc hss hsc
    rw [show (none : Option Nat).getD (i + 1) = i + 1 from rfl, hn] at k
    exact lv_dup2_11 hx hb hd rfl (by cases r <;> rfl) k
  | .inl z :: .inr (.inl r) :: st, hst, hop => cases hop
  | .inl z :: .inl r :: st, hst, hop => cases hop
  | [.inl z], hst, hop => cases hop
  | .inr z :: st, hst, hop => cases hop
  | [], hst, hop => cases hop

theorem mm_step_pop (hc : mm_code y i = some (pc, (23, (a, b)))) (hop : mm_op mm_fld 23 a b ls st h = some (ls', (st', (h', j)))) (X : mm_X y l p R s m args meth c) (K : mm_K g D L xs s) (hS : va_S (mm_A g) s.heap H locs) (hR : mm_Rl g D h H) (hL : mm_LR g (mm_mL y) ls rls) (hst : ∀ v ∈ st, mm_ok v) (hcc : cells + n0 = h.2.1) (hss : slots + s0 = h.2.2.1) (hsc : h.2.2.2 = mm_scr L xs) (hz0 : s.heap.size ≤ g.2.1 + n0) (rc : h'.2.1 ≤ R.cells + n0) (rs : h'.2.2.1 ≤ R.slots + s0)
    (kk : mm_KK p l e R s m args below meth c Q g D y n0 s0 L xs (mm_nx y (j.getD (i + 1))) ls' st' h') : W p l e R s m args below meth c H locs cells slots Q (F0 m pc rls (st.map (mm_up g.1 g.2.1))) := by
  obtain ⟨hx, hb, hml, -, -, hnm, hown, hts, -, hnF, hnL, -⟩ := X
  obtain ⟨hd, hn, hj, ha4, hfo, -, hroom, -⟩ := mm_okB_dec hc (by decide)
  have hn := hn (by decide)
  match st, hst, hop with
  | .inl z :: st, hst, hop =>
    cases hop
    have k := kk H locs cells slots rls hS hR hL (mm_okt hst).2 hcc hss hsc
    rw [show (none : Option Nat).getD (i + 1) = i + 1 from rfl, hn] at k
    exact lv_pop hx hb hd rfl k
  | .inr (.inr r) :: st, hst, hop =>
    cases hop
    have k := kk H locs cells slots rls hS hR hL (mm_okt hst).2 hcc hss hsc
    rw [show (none : Option Nat).getD (i + 1) = i + 1 from rfl, hn] at k
    exact lv_pop hx hb hd (by cases r <;> rfl) k
  | .inr (.inl z) :: st, hst, hop => cases hop
  | [], hst, hop => cases hop

theorem mm_step_goto (hc : mm_code y i = some (pc, (24, (a, b)))) (hop : mm_op mm_fld 24 a b ls st h = some (ls', (st', (h', j)))) (X : mm_X y l p R s m args meth c) (K : mm_K g D L xs s) (hS : va_S (mm_A g) s.heap H locs) (hR : mm_Rl g D h H) (hL : mm_LR g (mm_mL y) ls rls) (hst : ∀ v ∈ st, mm_ok v) (hcc : cells + n0 = h.2.1) (hss : slots + s0 = h.2.2.1) (hsc : h.2.2.2 = mm_scr L xs) (hz0 : s.heap.size ≤ g.2.1 + n0) (rc : h'.2.1 ≤ R.cells + n0) (rs : h'.2.2.1 ≤ R.slots + s0)
    (kk : mm_KK p l e R s m args below meth c Q g D y n0 s0 L xs (mm_nx y (j.getD (i + 1))) ls' st' h') : W p l e R s m args below meth c H locs cells slots Q (F0 m pc rls (st.map (mm_up g.1 g.2.1))) := by
  obtain ⟨hx, hb, hml, -, -, hnm, hown, hts, -, hnF, hnL, -⟩ := X
  obtain ⟨hd, hn, hj, ha4, hfo, -, hroom, -⟩ := mm_okB_dec hc (by decide)
  have hj := hj (by decide)
  cases hop
  have k := kk H locs cells slots rls hS hR hL hst hcc hss hsc
  exact lv_goto hx hb hd hj k

theorem mm_step_if_eq (hc : mm_code y i = some (pc, (25, (a, b)))) (hop : mm_op mm_fld 25 a b ls st h = some (ls', (st', (h', j)))) (X : mm_X y l p R s m args meth c) (K : mm_K g D L xs s) (hS : va_S (mm_A g) s.heap H locs) (hR : mm_Rl g D h H) (hL : mm_LR g (mm_mL y) ls rls) (hst : ∀ v ∈ st, mm_ok v) (hcc : cells + n0 = h.2.1) (hss : slots + s0 = h.2.2.1) (hsc : h.2.2.2 = mm_scr L xs) (hz0 : s.heap.size ≤ g.2.1 + n0) (rc : h'.2.1 ≤ R.cells + n0) (rs : h'.2.2.1 ≤ R.slots + s0)
    (kk : mm_KK p l e R s m args below meth c Q g D y n0 s0 L xs (mm_nx y (j.getD (i + 1))) ls' st' h') : W p l e R s m args below meth c H locs cells slots Q (F0 m pc rls (st.map (mm_up g.1 g.2.1))) := by
  obtain ⟨hx, hb, hml, -, -, hnm, hown, hts, -, hnF, hnL, -⟩ := X
  obtain ⟨hd, hn, hj, ha4, hfo, -, hroom, -⟩ := mm_okB_dec hc (by decide)
  have hn := hn (by decide)
  have hj := hj (by decide)
  replace hop : mm_o_if (fun x => decide (x = 0)) a ls st h = some (ls', (st', (h', j))) := hop
  unfold mm_o_if at hop
  split at hop
  · rename_i x st
    have hy := (mm_okt hst).1
    replace hst := (mm_okt hst).2
    have hy : mm_rng x := hy
    cases hop
    refine lv_if_eq (tgt := mm_nx y a) hx hb hd hj (fun q => ?_) (fun q => ?_)
    · have k := kk H locs cells slots rls hS hR hL hst hcc hss hsc
      have q2 : (x = 0) := by exact (mm_eq0 hy).mp q
      rw [if_pos (decide_eq_true q2)] at k
      exact k
    · have k := kk H locs cells slots rls hS hR hL hst hcc hss hsc
      have q2 : ¬ (x = 0) := by exact fun z => q ((mm_eq0 hy).mpr z)
      rw [if_neg (by rw [decide_eq_true_eq]; exact q2)] at k
      rw [show (none : Option Nat).getD (i + 1) = i + 1 from rfl, hn] at k
      exact k
  · cases hop

theorem mm_step_if_ne (hc : mm_code y i = some (pc, (26, (a, b)))) (hop : mm_op mm_fld 26 a b ls st h = some (ls', (st', (h', j)))) (X : mm_X y l p R s m args meth c) (K : mm_K g D L xs s) (hS : va_S (mm_A g) s.heap H locs) (hR : mm_Rl g D h H) (hL : mm_LR g (mm_mL y) ls rls) (hst : ∀ v ∈ st, mm_ok v) (hcc : cells + n0 = h.2.1) (hss : slots + s0 = h.2.2.1) (hsc : h.2.2.2 = mm_scr L xs) (hz0 : s.heap.size ≤ g.2.1 + n0) (rc : h'.2.1 ≤ R.cells + n0) (rs : h'.2.2.1 ≤ R.slots + s0)
    (kk : mm_KK p l e R s m args below meth c Q g D y n0 s0 L xs (mm_nx y (j.getD (i + 1))) ls' st' h') : W p l e R s m args below meth c H locs cells slots Q (F0 m pc rls (st.map (mm_up g.1 g.2.1))) := by
  obtain ⟨hx, hb, hml, -, -, hnm, hown, hts, -, hnF, hnL, -⟩ := X
  obtain ⟨hd, hn, hj, ha4, hfo, -, hroom, -⟩ := mm_okB_dec hc (by decide)
  have hn := hn (by decide)
  have hj := hj (by decide)
  replace hop : mm_o_if (fun x => decide (¬ x = 0)) a ls st h = some (ls', (st', (h', j))) := hop
  unfold mm_o_if at hop
  split at hop
  · rename_i x st
    have hy := (mm_okt hst).1
    replace hst := (mm_okt hst).2
    have hy : mm_rng x := hy
    cases hop
    refine lv_if_ne (tgt := mm_nx y a) hx hb hd hj (fun q => ?_) (fun q => ?_)
    · have k := kk H locs cells slots rls hS hR hL hst hcc hss hsc
      have q2 : (¬ x = 0) := by exact (not_congr (mm_eq0 hy)).mp q
      rw [if_pos (decide_eq_true q2)] at k
      exact k
    · have k := kk H locs cells slots rls hS hR hL hst hcc hss hsc
      have q2 : ¬ (¬ x = 0) := by exact fun z => z ((mm_eq0 hy).mp q)
      rw [if_neg (by rw [decide_eq_true_eq]; exact q2)] at k
      rw [show (none : Option Nat).getD (i + 1) = i + 1 from rfl, hn] at k
      exact k
  · cases hop

theorem mm_step_if_lt (hc : mm_code y i = some (pc, (27, (a, b)))) (hop : mm_op mm_fld 27 a b ls st h = some (ls', (st', (h', j)))) (X : mm_X y l p R s m args meth c) (K : mm_K g D L xs s) (hS : va_S (mm_A g) s.heap H locs) (hR : mm_Rl g D h H) (hL : mm_LR g (mm_mL y) ls rls) (hst : ∀ v ∈ st, mm_ok v) (hcc : cells + n0 = h.2.1) (hss : slots + s0 = h.2.2.1) (hsc : h.2.2.2 = mm_scr L xs) (hz0 : s.heap.size ≤ g.2.1 + n0) (rc : h'.2.1 ≤ R.cells + n0) (rs : h'.2.2.1 ≤ R.slots + s0)
    (kk : mm_KK p l e R s m args below meth c Q g D y n0 s0 L xs (mm_nx y (j.getD (i + 1))) ls' st' h') : W p l e R s m args below meth c H locs cells slots Q (F0 m pc rls (st.map (mm_up g.1 g.2.1))) := by
  obtain ⟨hx, hb, hml, -, -, hnm, hown, hts, -, hnF, hnL, -⟩ := X
  obtain ⟨hd, hn, hj, ha4, hfo, -, hroom, -⟩ := mm_okB_dec hc (by decide)
  have hn := hn (by decide)
  have hj := hj (by decide)
  replace hop : mm_o_if (fun x => decide (x < 0)) a ls st h = some (ls', (st', (h', j))) := hop
  unfold mm_o_if at hop
  split at hop
  · rename_i x st
    have hy := (mm_okt hst).1
    replace hst := (mm_okt hst).2
    have hy : mm_rng x := hy
    cases hop
    refine lv_if_lt (tgt := mm_nx y a) hx hb hd hj (fun q => ?_) (fun q => ?_)
    · have k := kk H locs cells slots rls hS hR hL hst hcc hss hsc
      have q2 : (x < 0) := by exact (mm_lt0 hy).mp q
      rw [if_pos (decide_eq_true q2)] at k
      exact k
    · have k := kk H locs cells slots rls hS hR hL hst hcc hss hsc
      have q2 : ¬ (x < 0) := by exact fun z => q ((mm_lt0 hy).mpr z)
      rw [if_neg (by rw [decide_eq_true_eq]; exact q2)] at k
      rw [show (none : Option Nat).getD (i + 1) = i + 1 from rfl, hn] at k
      exact k
  · cases hop

theorem mm_step_if_ge (hc : mm_code y i = some (pc, (28, (a, b)))) (hop : mm_op mm_fld 28 a b ls st h = some (ls', (st', (h', j)))) (X : mm_X y l p R s m args meth c) (K : mm_K g D L xs s) (hS : va_S (mm_A g) s.heap H locs) (hR : mm_Rl g D h H) (hL : mm_LR g (mm_mL y) ls rls) (hst : ∀ v ∈ st, mm_ok v) (hcc : cells + n0 = h.2.1) (hss : slots + s0 = h.2.2.1) (hsc : h.2.2.2 = mm_scr L xs) (hz0 : s.heap.size ≤ g.2.1 + n0) (rc : h'.2.1 ≤ R.cells + n0) (rs : h'.2.2.1 ≤ R.slots + s0)
    (kk : mm_KK p l e R s m args below meth c Q g D y n0 s0 L xs (mm_nx y (j.getD (i + 1))) ls' st' h') : W p l e R s m args below meth c H locs cells slots Q (F0 m pc rls (st.map (mm_up g.1 g.2.1))) := by
  obtain ⟨hx, hb, hml, -, -, hnm, hown, hts, -, hnF, hnL, -⟩ := X
  obtain ⟨hd, hn, hj, ha4, hfo, -, hroom, -⟩ := mm_okB_dec hc (by decide)
  have hn := hn (by decide)
  have hj := hj (by decide)
  replace hop : mm_o_if (fun x => decide (0 ≤ x)) a ls st h = some (ls', (st', (h', j))) := hop
  unfold mm_o_if at hop
  split at hop
  · rename_i x st
    have hy := (mm_okt hst).1
    replace hst := (mm_okt hst).2
    have hy : mm_rng x := hy
    cases hop
    refine lv_if_ge (tgt := mm_nx y a) hx hb hd hj (fun q => ?_) (fun q => ?_)
    · have k := kk H locs cells slots rls hS hR hL hst hcc hss hsc
      have q2 : (0 ≤ x) := by exact (mm_0le hy).mp q
      rw [if_pos (decide_eq_true q2)] at k
      exact k
    · have k := kk H locs cells slots rls hS hR hL hst hcc hss hsc
      have q2 : ¬ (0 ≤ x) := by exact fun z => q ((mm_0le hy).mpr z)
      rw [if_neg (by rw [decide_eq_true_eq]; exact q2)] at k
      rw [show (none : Option Nat).getD (i + 1) = i + 1 from rfl, hn] at k
      exact k
  · cases hop

theorem mm_step_if_gt (hc : mm_code y i = some (pc, (29, (a, b)))) (hop : mm_op mm_fld 29 a b ls st h = some (ls', (st', (h', j)))) (X : mm_X y l p R s m args meth c) (K : mm_K g D L xs s) (hS : va_S (mm_A g) s.heap H locs) (hR : mm_Rl g D h H) (hL : mm_LR g (mm_mL y) ls rls) (hst : ∀ v ∈ st, mm_ok v) (hcc : cells + n0 = h.2.1) (hss : slots + s0 = h.2.2.1) (hsc : h.2.2.2 = mm_scr L xs) (hz0 : s.heap.size ≤ g.2.1 + n0) (rc : h'.2.1 ≤ R.cells + n0) (rs : h'.2.2.1 ≤ R.slots + s0)
    (kk : mm_KK p l e R s m args below meth c Q g D y n0 s0 L xs (mm_nx y (j.getD (i + 1))) ls' st' h') : W p l e R s m args below meth c H locs cells slots Q (F0 m pc rls (st.map (mm_up g.1 g.2.1))) := by
  obtain ⟨hx, hb, hml, -, -, hnm, hown, hts, -, hnF, hnL, -⟩ := X
  obtain ⟨hd, hn, hj, ha4, hfo, -, hroom, -⟩ := mm_okB_dec hc (by decide)
  have hn := hn (by decide)
  have hj := hj (by decide)
  replace hop : mm_o_if (fun x => decide (0 < x)) a ls st h = some (ls', (st', (h', j))) := hop
  unfold mm_o_if at hop
  split at hop
  · rename_i x st
    have hy := (mm_okt hst).1
    replace hst := (mm_okt hst).2
    have hy : mm_rng x := hy
    cases hop
    refine lv_if_gt (tgt := mm_nx y a) hx hb hd hj (fun q => ?_) (fun q => ?_)
    · have k := kk H locs cells slots rls hS hR hL hst hcc hss hsc
      have q2 : (0 < x) := by exact (mm_0lt hy).mp q
      rw [if_pos (decide_eq_true q2)] at k
      exact k
    · have k := kk H locs cells slots rls hS hR hL hst hcc hss hsc
      have q2 : ¬ (0 < x) := by exact fun z => q ((mm_0lt hy).mpr z)
      rw [if_neg (by rw [decide_eq_true_eq]; exact q2)] at k
      rw [show (none : Option Nat).getD (i + 1) = i + 1 from rfl, hn] at k
      exact k
  · cases hop

theorem mm_step_if_le (hc : mm_code y i = some (pc, (30, (a, b)))) (hop : mm_op mm_fld 30 a b ls st h = some (ls', (st', (h', j)))) (X : mm_X y l p R s m args meth c) (K : mm_K g D L xs s) (hS : va_S (mm_A g) s.heap H locs) (hR : mm_Rl g D h H) (hL : mm_LR g (mm_mL y) ls rls) (hst : ∀ v ∈ st, mm_ok v) (hcc : cells + n0 = h.2.1) (hss : slots + s0 = h.2.2.1) (hsc : h.2.2.2 = mm_scr L xs) (hz0 : s.heap.size ≤ g.2.1 + n0) (rc : h'.2.1 ≤ R.cells + n0) (rs : h'.2.2.1 ≤ R.slots + s0)
    (kk : mm_KK p l e R s m args below meth c Q g D y n0 s0 L xs (mm_nx y (j.getD (i + 1))) ls' st' h') : W p l e R s m args below meth c H locs cells slots Q (F0 m pc rls (st.map (mm_up g.1 g.2.1))) := by
  obtain ⟨hx, hb, hml, -, -, hnm, hown, hts, -, hnF, hnL, -⟩ := X
  obtain ⟨hd, hn, hj, ha4, hfo, -, hroom, -⟩ := mm_okB_dec hc (by decide)
  have hn := hn (by decide)
  have hj := hj (by decide)
  replace hop : mm_o_if (fun x => decide (x ≤ 0)) a ls st h = some (ls', (st', (h', j))) := hop
  unfold mm_o_if at hop
  split at hop
  · rename_i x st
    have hy := (mm_okt hst).1
    replace hst := (mm_okt hst).2
    have hy : mm_rng x := hy
    cases hop
    refine lv_if_le (tgt := mm_nx y a) hx hb hd hj (fun q => ?_) (fun q => ?_)
    · have k := kk H locs cells slots rls hS hR hL hst hcc hss hsc
      have q2 : (x ≤ 0) := by exact (mm_le0 hy).mp q
      rw [if_pos (decide_eq_true q2)] at k
      exact k
    · have k := kk H locs cells slots rls hS hR hL hst hcc hss hsc
      have q2 : ¬ (x ≤ 0) := by exact fun z => q ((mm_le0 hy).mpr z)
      rw [if_neg (by rw [decide_eq_true_eq]; exact q2)] at k
      rw [show (none : Option Nat).getD (i + 1) = i + 1 from rfl, hn] at k
      exact k
  · cases hop

theorem mm_step_icmp_eq (hc : mm_code y i = some (pc, (31, (a, b)))) (hop : mm_op mm_fld 31 a b ls st h = some (ls', (st', (h', j)))) (X : mm_X y l p R s m args meth c) (K : mm_K g D L xs s) (hS : va_S (mm_A g) s.heap H locs) (hR : mm_Rl g D h H) (hL : mm_LR g (mm_mL y) ls rls) (hst : ∀ v ∈ st, mm_ok v) (hcc : cells + n0 = h.2.1) (hss : slots + s0 = h.2.2.1) (hsc : h.2.2.2 = mm_scr L xs) (hz0 : s.heap.size ≤ g.2.1 + n0) (rc : h'.2.1 ≤ R.cells + n0) (rs : h'.2.2.1 ≤ R.slots + s0)
    (kk : mm_KK p l e R s m args below meth c Q g D y n0 s0 L xs (mm_nx y (j.getD (i + 1))) ls' st' h') : W p l e R s m args below meth c H locs cells slots Q (F0 m pc rls (st.map (mm_up g.1 g.2.1))) := by
  obtain ⟨hx, hb, hml, -, -, hnm, hown, hts, -, hnF, hnL, -⟩ := X
  obtain ⟨hd, hn, hj, ha4, hfo, -, hroom, -⟩ := mm_okB_dec hc (by decide)
  have hn := hn (by decide)
  have hj := hj (by decide)
  replace hop : mm_o_icmp (fun x y => decide (x = y)) a ls st h = some (ls', (st', (h', j))) := hop
  unfold mm_o_icmp at hop
  split at hop
  · rename_i y9 x9 st
    have hy := (mm_okt hst).1
    replace hst := (mm_okt hst).2
    have hx9 := (mm_okt hst).1
    replace hst := (mm_okt hst).2
    have hy : mm_rng y9 := hy
    have hx9 : mm_rng x9 := hx9
    cases hop
    refine lv_icmp_eq (tgt := mm_nx y a) hx hb hd hj (fun q => ?_) (fun q => ?_)
    · have k := kk H locs cells slots rls hS hR hL hst hcc hss hsc
      have q2 : (x9 = y9) := by exact (mm_eqI hx9 hy).mp q
      rw [if_pos (decide_eq_true q2)] at k
      exact k
    · have k := kk H locs cells slots rls hS hR hL hst hcc hss hsc
      have q2 : ¬ (x9 = y9) := by exact fun z => q ((mm_eqI hx9 hy).mpr z)
      rw [if_neg (by rw [decide_eq_true_eq]; exact q2)] at k
      rw [show (none : Option Nat).getD (i + 1) = i + 1 from rfl, hn] at k
      exact k
  · cases hop

theorem mm_step_icmp_ne (hc : mm_code y i = some (pc, (32, (a, b)))) (hop : mm_op mm_fld 32 a b ls st h = some (ls', (st', (h', j)))) (X : mm_X y l p R s m args meth c) (K : mm_K g D L xs s) (hS : va_S (mm_A g) s.heap H locs) (hR : mm_Rl g D h H) (hL : mm_LR g (mm_mL y) ls rls) (hst : ∀ v ∈ st, mm_ok v) (hcc : cells + n0 = h.2.1) (hss : slots + s0 = h.2.2.1) (hsc : h.2.2.2 = mm_scr L xs) (hz0 : s.heap.size ≤ g.2.1 + n0) (rc : h'.2.1 ≤ R.cells + n0) (rs : h'.2.2.1 ≤ R.slots + s0)
    (kk : mm_KK p l e R s m args below meth c Q g D y n0 s0 L xs (mm_nx y (j.getD (i + 1))) ls' st' h') : W p l e R s m args below meth c H locs cells slots Q (F0 m pc rls (st.map (mm_up g.1 g.2.1))) := by
  obtain ⟨hx, hb, hml, -, -, hnm, hown, hts, -, hnF, hnL, -⟩ := X
  obtain ⟨hd, hn, hj, ha4, hfo, -, hroom, -⟩ := mm_okB_dec hc (by decide)
  have hn := hn (by decide)
  have hj := hj (by decide)
  replace hop : mm_o_icmp (fun x y => decide (¬ x = y)) a ls st h = some (ls', (st', (h', j))) := hop
  unfold mm_o_icmp at hop
  split at hop
  · rename_i y9 x9 st
    have hy := (mm_okt hst).1
    replace hst := (mm_okt hst).2
    have hx9 := (mm_okt hst).1
    replace hst := (mm_okt hst).2
    have hy : mm_rng y9 := hy
    have hx9 : mm_rng x9 := hx9
    cases hop
    refine lv_icmp_ne (tgt := mm_nx y a) hx hb hd hj (fun q => ?_) (fun q => ?_)
    · have k := kk H locs cells slots rls hS hR hL hst hcc hss hsc
      have q2 : (¬ x9 = y9) := by exact (not_congr (mm_eqI hx9 hy)).mp q
      rw [if_pos (decide_eq_true q2)] at k
      exact k
    · have k := kk H locs cells slots rls hS hR hL hst hcc hss hsc
      have q2 : ¬ (¬ x9 = y9) := by exact fun z => z ((mm_eqI hx9 hy).mp q)
      rw [if_neg (by rw [decide_eq_true_eq]; exact q2)] at k
      rw [show (none : Option Nat).getD (i + 1) = i + 1 from rfl, hn] at k
      exact k
  · cases hop

theorem mm_step_icmp_lt (hc : mm_code y i = some (pc, (33, (a, b)))) (hop : mm_op mm_fld 33 a b ls st h = some (ls', (st', (h', j)))) (X : mm_X y l p R s m args meth c) (K : mm_K g D L xs s) (hS : va_S (mm_A g) s.heap H locs) (hR : mm_Rl g D h H) (hL : mm_LR g (mm_mL y) ls rls) (hst : ∀ v ∈ st, mm_ok v) (hcc : cells + n0 = h.2.1) (hss : slots + s0 = h.2.2.1) (hsc : h.2.2.2 = mm_scr L xs) (hz0 : s.heap.size ≤ g.2.1 + n0) (rc : h'.2.1 ≤ R.cells + n0) (rs : h'.2.2.1 ≤ R.slots + s0)
    (kk : mm_KK p l e R s m args below meth c Q g D y n0 s0 L xs (mm_nx y (j.getD (i + 1))) ls' st' h') : W p l e R s m args below meth c H locs cells slots Q (F0 m pc rls (st.map (mm_up g.1 g.2.1))) := by
  obtain ⟨hx, hb, hml, -, -, hnm, hown, hts, -, hnF, hnL, -⟩ := X
  obtain ⟨hd, hn, hj, ha4, hfo, -, hroom, -⟩ := mm_okB_dec hc (by decide)
  have hn := hn (by decide)
  have hj := hj (by decide)
  replace hop : mm_o_icmp (fun x y => decide (x < y)) a ls st h = some (ls', (st', (h', j))) := hop
  unfold mm_o_icmp at hop
  split at hop
  · rename_i y9 x9 st
    have hy := (mm_okt hst).1
    replace hst := (mm_okt hst).2
    have hx9 := (mm_okt hst).1
    replace hst := (mm_okt hst).2
    have hy : mm_rng y9 := hy
    have hx9 : mm_rng x9 := hx9
    cases hop
    refine lv_icmp_lt (tgt := mm_nx y a) hx hb hd hj (fun q => ?_) (fun q => ?_)
    · have k := kk H locs cells slots rls hS hR hL hst hcc hss hsc
      have q2 : (x9 < y9) := by exact (mm_ltI hx9 hy).mp q
      rw [if_pos (decide_eq_true q2)] at k
      exact k
    · have k := kk H locs cells slots rls hS hR hL hst hcc hss hsc
      have q2 : ¬ (x9 < y9) := by exact fun z => q ((mm_ltI hx9 hy).mpr z)
      rw [if_neg (by rw [decide_eq_true_eq]; exact q2)] at k
      rw [show (none : Option Nat).getD (i + 1) = i + 1 from rfl, hn] at k
      exact k
  · cases hop

theorem mm_step_icmp_ge (hc : mm_code y i = some (pc, (34, (a, b)))) (hop : mm_op mm_fld 34 a b ls st h = some (ls', (st', (h', j)))) (X : mm_X y l p R s m args meth c) (K : mm_K g D L xs s) (hS : va_S (mm_A g) s.heap H locs) (hR : mm_Rl g D h H) (hL : mm_LR g (mm_mL y) ls rls) (hst : ∀ v ∈ st, mm_ok v) (hcc : cells + n0 = h.2.1) (hss : slots + s0 = h.2.2.1) (hsc : h.2.2.2 = mm_scr L xs) (hz0 : s.heap.size ≤ g.2.1 + n0) (rc : h'.2.1 ≤ R.cells + n0) (rs : h'.2.2.1 ≤ R.slots + s0)
    (kk : mm_KK p l e R s m args below meth c Q g D y n0 s0 L xs (mm_nx y (j.getD (i + 1))) ls' st' h') : W p l e R s m args below meth c H locs cells slots Q (F0 m pc rls (st.map (mm_up g.1 g.2.1))) := by
  obtain ⟨hx, hb, hml, -, -, hnm, hown, hts, -, hnF, hnL, -⟩ := X
  obtain ⟨hd, hn, hj, ha4, hfo, -, hroom, -⟩ := mm_okB_dec hc (by decide)
  have hn := hn (by decide)
  have hj := hj (by decide)
  replace hop : mm_o_icmp (fun x y => decide (y ≤ x)) a ls st h = some (ls', (st', (h', j))) := hop
  unfold mm_o_icmp at hop
  split at hop
  · rename_i y9 x9 st
    have hy := (mm_okt hst).1
    replace hst := (mm_okt hst).2
    have hx9 := (mm_okt hst).1
    replace hst := (mm_okt hst).2
    have hy : mm_rng y9 := hy
    have hx9 : mm_rng x9 := hx9
    cases hop
    refine lv_icmp_ge (tgt := mm_nx y a) hx hb hd hj (fun q => ?_) (fun q => ?_)
    · have k := kk H locs cells slots rls hS hR hL hst hcc hss hsc
      have q2 : (y9 ≤ x9) := by exact (mm_leI hy hx9).mp q
      rw [if_pos (decide_eq_true q2)] at k
      exact k
    · have k := kk H locs cells slots rls hS hR hL hst hcc hss hsc
      have q2 : ¬ (y9 ≤ x9) := by exact fun z => q ((mm_leI hy hx9).mpr z)
      rw [if_neg (by rw [decide_eq_true_eq]; exact q2)] at k
      rw [show (none : Option Nat).getD (i + 1) = i + 1 from rfl, hn] at k
      exact k
  · cases hop

theorem mm_step_icmp_gt (hc : mm_code y i = some (pc, (35, (a, b)))) (hop : mm_op mm_fld 35 a b ls st h = some (ls', (st', (h', j)))) (X : mm_X y l p R s m args meth c) (K : mm_K g D L xs s) (hS : va_S (mm_A g) s.heap H locs) (hR : mm_Rl g D h H) (hL : mm_LR g (mm_mL y) ls rls) (hst : ∀ v ∈ st, mm_ok v) (hcc : cells + n0 = h.2.1) (hss : slots + s0 = h.2.2.1) (hsc : h.2.2.2 = mm_scr L xs) (hz0 : s.heap.size ≤ g.2.1 + n0) (rc : h'.2.1 ≤ R.cells + n0) (rs : h'.2.2.1 ≤ R.slots + s0)
    (kk : mm_KK p l e R s m args below meth c Q g D y n0 s0 L xs (mm_nx y (j.getD (i + 1))) ls' st' h') : W p l e R s m args below meth c H locs cells slots Q (F0 m pc rls (st.map (mm_up g.1 g.2.1))) := by
  obtain ⟨hx, hb, hml, -, -, hnm, hown, hts, -, hnF, hnL, -⟩ := X
  obtain ⟨hd, hn, hj, ha4, hfo, -, hroom, -⟩ := mm_okB_dec hc (by decide)
  have hn := hn (by decide)
  have hj := hj (by decide)
  replace hop : mm_o_icmp (fun x y => decide (y < x)) a ls st h = some (ls', (st', (h', j))) := hop
  unfold mm_o_icmp at hop
  split at hop
  · rename_i y9 x9 st
    have hy := (mm_okt hst).1
    replace hst := (mm_okt hst).2
    have hx9 := (mm_okt hst).1
    replace hst := (mm_okt hst).2
    have hy : mm_rng y9 := hy
    have hx9 : mm_rng x9 := hx9
    cases hop
    refine lv_icmp_gt (tgt := mm_nx y a) hx hb hd hj (fun q => ?_) (fun q => ?_)
    · have k := kk H locs cells slots rls hS hR hL hst hcc hss hsc
      have q2 : (y9 < x9) := by exact (mm_ltI hy hx9).mp q
      rw [if_pos (decide_eq_true q2)] at k
      exact k
    · have k := kk H locs cells slots rls hS hR hL hst hcc hss hsc
      have q2 : ¬ (y9 < x9) := by exact fun z => q ((mm_ltI hy hx9).mpr z)
      rw [if_neg (by rw [decide_eq_true_eq]; exact q2)] at k
      rw [show (none : Option Nat).getD (i + 1) = i + 1 from rfl, hn] at k
      exact k
  · cases hop

theorem mm_step_icmp_le (hc : mm_code y i = some (pc, (36, (a, b)))) (hop : mm_op mm_fld 36 a b ls st h = some (ls', (st', (h', j)))) (X : mm_X y l p R s m args meth c) (K : mm_K g D L xs s) (hS : va_S (mm_A g) s.heap H locs) (hR : mm_Rl g D h H) (hL : mm_LR g (mm_mL y) ls rls) (hst : ∀ v ∈ st, mm_ok v) (hcc : cells + n0 = h.2.1) (hss : slots + s0 = h.2.2.1) (hsc : h.2.2.2 = mm_scr L xs) (hz0 : s.heap.size ≤ g.2.1 + n0) (rc : h'.2.1 ≤ R.cells + n0) (rs : h'.2.2.1 ≤ R.slots + s0)
    (kk : mm_KK p l e R s m args below meth c Q g D y n0 s0 L xs (mm_nx y (j.getD (i + 1))) ls' st' h') : W p l e R s m args below meth c H locs cells slots Q (F0 m pc rls (st.map (mm_up g.1 g.2.1))) := by
  obtain ⟨hx, hb, hml, -, -, hnm, hown, hts, -, hnF, hnL, -⟩ := X
  obtain ⟨hd, hn, hj, ha4, hfo, -, hroom, -⟩ := mm_okB_dec hc (by decide)
  have hn := hn (by decide)
  have hj := hj (by decide)
  replace hop : mm_o_icmp (fun x y => decide (x ≤ y)) a ls st h = some (ls', (st', (h', j))) := hop
  unfold mm_o_icmp at hop
  split at hop
  · rename_i y9 x9 st
    have hy := (mm_okt hst).1
    replace hst := (mm_okt hst).2
    have hx9 := (mm_okt hst).1
    replace hst := (mm_okt hst).2
    have hy : mm_rng y9 := hy
    have hx9 : mm_rng x9 := hx9
    cases hop
    refine lv_icmp_le (tgt := mm_nx y a) hx hb hd hj (fun q => ?_) (fun q => ?_)
    · have k := kk H locs cells slots rls hS hR hL hst hcc hss hsc
      have q2 : (x9 ≤ y9) := by exact (mm_leI hx9 hy).mp q
      rw [if_pos (decide_eq_true q2)] at k
      exact k
    · have k := kk H locs cells slots rls hS hR hL hst hcc hss hsc
      have q2 : ¬ (x9 ≤ y9) := by exact fun z => q ((mm_leI hx9 hy).mpr z)
      rw [if_neg (by rw [decide_eq_true_eq]; exact q2)] at k
      rw [show (none : Option Nat).getD (i + 1) = i + 1 from rfl, hn] at k
      exact k
  · cases hop

theorem mm_step_ifnull (hc : mm_code y i = some (pc, (37, (a, b)))) (hop : mm_op mm_fld 37 a b ls st h = some (ls', (st', (h', j)))) (X : mm_X y l p R s m args meth c) (K : mm_K g D L xs s) (hS : va_S (mm_A g) s.heap H locs) (hR : mm_Rl g D h H) (hL : mm_LR g (mm_mL y) ls rls) (hst : ∀ v ∈ st, mm_ok v) (hcc : cells + n0 = h.2.1) (hss : slots + s0 = h.2.2.1) (hsc : h.2.2.2 = mm_scr L xs) (hz0 : s.heap.size ≤ g.2.1 + n0) (rc : h'.2.1 ≤ R.cells + n0) (rs : h'.2.2.1 ≤ R.slots + s0)
    (kk : mm_KK p l e R s m args below meth c Q g D y n0 s0 L xs (mm_nx y (j.getD (i + 1))) ls' st' h') : W p l e R s m args below meth c H locs cells slots Q (F0 m pc rls (st.map (mm_up g.1 g.2.1))) := by
  obtain ⟨hx, hb, hml, -, -, hnm, hown, hts, -, hnF, hnL, -⟩ := X
  obtain ⟨hd, hn, hj, ha4, hfo, -, hroom, -⟩ := mm_okB_dec hc (by decide)
  have hn := hn (by decide)
  have hj := hj (by decide)
  replace hop : mm_o_null true a ls st h = some (ls', (st', (h', j))) := hop
  unfold mm_o_null at hop
  split at hop
  · rename_i r st
    cases hop
    have k := kk H locs cells slots rls hS hR hL (mm_okt hst).2 hcc hss hsc
    cases r with
    | none => exact lv_ifnullN hx hb hd hj k
    | some r =>
      have k : W p l e R s m args below meth c H locs cells slots Q (F0 m (mm_nx y (i + 1)) rls (st'.map (mm_up g.1 g.2.1))) := k
      rw [hn] at k
      exact lv_ifnull hx hb hd k
  · cases hop

theorem mm_step_ifnonnull (hc : mm_code y i = some (pc, (38, (a, b)))) (hop : mm_op mm_fld 38 a b ls st h = some (ls', (st', (h', j)))) (X : mm_X y l p R s m args meth c) (K : mm_K g D L xs s) (hS : va_S (mm_A g) s.heap H locs) (hR : mm_Rl g D h H) (hL : mm_LR g (mm_mL y) ls rls) (hst : ∀ v ∈ st, mm_ok v) (hcc : cells + n0 = h.2.1) (hss : slots + s0 = h.2.2.1) (hsc : h.2.2.2 = mm_scr L xs) (hz0 : s.heap.size ≤ g.2.1 + n0) (rc : h'.2.1 ≤ R.cells + n0) (rs : h'.2.2.1 ≤ R.slots + s0)
    (kk : mm_KK p l e R s m args below meth c Q g D y n0 s0 L xs (mm_nx y (j.getD (i + 1))) ls' st' h') : W p l e R s m args below meth c H locs cells slots Q (F0 m pc rls (st.map (mm_up g.1 g.2.1))) := by
  obtain ⟨hx, hb, hml, -, -, hnm, hown, hts, -, hnF, hnL, -⟩ := X
  obtain ⟨hd, hn, hj, ha4, hfo, -, hroom, -⟩ := mm_okB_dec hc (by decide)
  have hn := hn (by decide)
  have hj := hj (by decide)
  replace hop : mm_o_null false a ls st h = some (ls', (st', (h', j))) := hop
  unfold mm_o_null at hop
  split at hop
  · rename_i r st
    cases hop
    have k := kk H locs cells slots rls hS hR hL (mm_okt hst).2 hcc hss hsc
    cases r with
    | none =>
      have k : W p l e R s m args below meth c H locs cells slots Q (F0 m (mm_nx y (i + 1)) rls (st'.map (mm_up g.1 g.2.1))) := k
      rw [hn] at k
      exact lv_ifnonnullN hx hb hd k
    | some r => exact lv_ifnonnull hx hb hd hj k
  · cases hop

theorem mm_step_aconst_null (hc : mm_code y i = some (pc, (39, (a, b)))) (hop : mm_op mm_fld 39 a b ls st h = some (ls', (st', (h', j)))) (X : mm_X y l p R s m args meth c) (K : mm_K g D L xs s) (hS : va_S (mm_A g) s.heap H locs) (hR : mm_Rl g D h H) (hL : mm_LR g (mm_mL y) ls rls) (hst : ∀ v ∈ st, mm_ok v) (hcc : cells + n0 = h.2.1) (hss : slots + s0 = h.2.2.1) (hsc : h.2.2.2 = mm_scr L xs) (hz0 : s.heap.size ≤ g.2.1 + n0) (rc : h'.2.1 ≤ R.cells + n0) (rs : h'.2.2.1 ≤ R.slots + s0)
    (kk : mm_KK p l e R s m args below meth c Q g D y n0 s0 L xs (mm_nx y (j.getD (i + 1))) ls' st' h') : W p l e R s m args below meth c H locs cells slots Q (F0 m pc rls (st.map (mm_up g.1 g.2.1))) := by
  obtain ⟨hx, hb, hml, -, -, hnm, hown, hts, -, hnF, hnL, -⟩ := X
  obtain ⟨hd, hn, hj, ha4, hfo, -, hroom, -⟩ := mm_okB_dec hc (by decide)
  have hn := hn (by decide)
  cases hop
  have k := kk H locs cells slots rls hS hR hL (mm_okc trivial hst) hcc hss hsc
  rw [show (none : Option Nat).getD (i + 1) = i + 1 from rfl, hn] at k
  exact lv_null hx hb hd k

theorem mm_step_ldc (hc : mm_code y i = some (pc, (55, (a, b)))) (hop : mm_op mm_fld 55 a b ls st h = some (ls', (st', (h', j)))) (X : mm_X y l p R s m args meth c) (K : mm_K g D L xs s) (hS : va_S (mm_A g) s.heap H locs) (hR : mm_Rl g D h H) (hL : mm_LR g (mm_mL y) ls rls) (hst : ∀ v ∈ st, mm_ok v) (hcc : cells + n0 = h.2.1) (hss : slots + s0 = h.2.2.1) (hsc : h.2.2.2 = mm_scr L xs) (hz0 : s.heap.size ≤ g.2.1 + n0) (rc : h'.2.1 ≤ R.cells + n0) (rs : h'.2.2.1 ≤ R.slots + s0)
    (kk : mm_KK p l e R s m args below meth c Q g D y n0 s0 L xs (mm_nx y (j.getD (i + 1))) ls' st' h') : W p l e R s m args below meth c H locs cells slots Q (F0 m pc rls (st.map (mm_up g.1 g.2.1))) := by
  obtain ⟨hx, hb, hml, -, -, hnm, hown, hts, -, hnF, hnL, -⟩ := X
  obtain ⟨hd, hn, hj, ha4, hfo, -, hroom, -⟩ := mm_okB_dec hc (by decide)
  have hn := hn (by decide)
  replace hop : (if mm_rng b then some (ls, (mm_I b :: st, (h, none))) else none) = some (ls', (st', (h', j))) := hop
  by_cases hr : mm_rng b
  · rw [if_pos hr] at hop
    cases hop
    have k := kk H locs cells slots rls hS hR hL (mm_okc hr hst) hcc hss hsc
    rw [show (none : Option Nat).getD (i + 1) = i + 1 from rfl, hn] at k
    exact lv_ldc hx hb hown (hts _ ((mm_NA _ (mm_nA hc rfl)).2.2.2.2.2 rfl)) hd k
  · rw [if_neg hr] at hop
    cases hop
end MMS
end
section
section MMH
variable {p : Program} {l : Launch} {e : Env} {R : Room} {s : State} {m : MethodId} {args : Array Value} {below : List Frame} {meth : Method} {c : Code} {H : Heap} {locs : List Loc} {cells slots : Nat} {Q : State → Prop}
variable {g : mm_G} {D : va_G} {y i pc op a : Nat} {b : Int} {ls ls' : mm_F} {st st' : List mm_V} {h h' : mm_H} {j : Option Nat} {rls : Array Slot} {n0 s0 L : Nat} {xs : Nat → Int32}
theorem mm_ent_o (g : mm_G) (ci : Nat) (l : List mm_V) : mm_ent g (10 + ci, l) = .inr (ci, l.map (mm_up g.1 g.2.1)) := by
  have e : (10 + ci) = (ci + 7) + 3 := by omega
  rw [e]
  show Sum.inr (ci + 7 + 3 - 10, _) = _
  rw [show ci + 7 + 3 - 10 = ci by omega]
theorem mm_ad_lt {b b0 r : Nat} (h : r < 999) : mm_ad b b0 r = b0 + r := if_neg (by omega)
theorem mm_Rl.set {g : mm_G} {D : va_G} {h : mm_H} {H H1 : Heap} {r : Nat} {c : Nat × List mm_V} (hR : mm_Rl g D h H) (hok : ∀ v ∈ c.2, mm_ok v) (hP : va_P D vwCl (mm_ws g (h.1.set r c)) H1) : mm_Rl g D (h.1.set r c, h.2) H1 := by
  obtain ⟨-, h2, h3, h4⟩ := hR
  refine ⟨hP, by rw [List.length_set]; exact h2, fun c1 hc1 v hv => ?_, h4⟩
  rcases List.mem_or_eq_of_mem_set hc1 with q | q
  · exact h3 c1 q v hv
  · rw [q] at hv; exact hok v hv
theorem mm_oks {l : List mm_V} {k : Nat} {v : mm_V} (h : ∀ w ∈ l, mm_ok w) (hv : mm_ok v) : ∀ w ∈ l.set k v, mm_ok w := by
  intro w hw
  rcases List.mem_or_eq_of_mem_set hw with q | q
  · exact h w q
  · rw [q]; exact hv
theorem mm_Rl.okl {g : mm_G} {D : va_G} {h : mm_H} {H : Heap} (hR : mm_Rl g D h H) {r : Nat} {c : Nat × List mm_V} (hr : h.1[r]? = some c) : r < 900 ∧ ∀ v ∈ c.2, mm_ok v := by
  have h1 := (List.getElem?_eq_some_iff.mp hr).1
  have h2 := hR.2.1
  exact ⟨by omega, hR.2.2.1 c (List.mem_of_getElem? hr)⟩
theorem mm_size {fr : JFrame} (k : H.size ≤ s.heap.size + cells → W p l e R s m args below meth c H locs cells slots Q fr) : W p l e R s m args below meth c H locs cells slots Q fr := by
  intro T hT X
  have h1 := X.same.2.2.1
  exact k (by rw [← hT]; exact h1) T hT X
/-- a new cell's address -/
theorem mm_adr {ws : va_W} {H1 : Heap} {q n : Nat} {x : va_E} (hD : va_D (mm_A g) (ws ++ [(q, x)])) (hP : va_P D vwCl (ws ++ [(q, x)]) H1) (hl : ws.length = n) (ha : ∀ (k : Nat) (z : Nat × va_E), ws[k]? = some z → z.1 = g.2.1 + k) (hz : H1.size ≤ g.2.1 + n + 1) : q = g.2.1 + n := by
  have e1 : (ws ++ [(q, x)])[n]? = some (q, x) := by rw [List.getElem?_append_right (by omega), hl]; simp
  have h1 : q < H1.size := (hP n _ e1).lt
  have h2 : g.2.1 ≤ q := hD.2 n _ e1
  by_cases hq : q = g.2.1 + n
  · exact hq
  · exfalso
    have hk : q - g.2.1 < ws.length := by omega
    have e2 : (ws ++ [(q, x)])[q - g.2.1]? = some ws[q - g.2.1] := by rw [List.getElem?_append_left hk, List.getElem?_eq_getElem hk]
    have e3 := ha (q - g.2.1) _ (List.getElem?_eq_getElem hk)
    have e4 := hD.1 (q - g.2.1) n _ _ e2 e1 (by rw [e3]; show g.2.1 + (q - g.2.1) = q; omega)
    omega
theorem mm_ws_ad {cs : List (Nat × List mm_V)} (k : Nat) (z : Nat × va_E) (hk : (mm_ws g cs)[k]? = some z) : z.1 = g.2.1 + k := by
  unfold mm_ws at hk
  rw [List.getElem?_mapIdx] at hk
  cases hc : cs[k]? with
  | none => rw [hc] at hk; cases hk
  | some c => rw [hc] at hk; cases hk; rfl
theorem mm_Rl.push {H1 : Heap} {kd : Nat} {lv : List mm_V} {q : Nat} {t : Nat × (Nat × List Int)} (hR : mm_Rl g D h H) (hlt : h.1.length < 900) (hok : ∀ v ∈ lv, mm_ok v) (ht : t.2.2 = h.2.2.2) (hD : va_D (mm_A g) (mm_ws g h.1 ++ [(q, mm_ent g (kd, lv))])) (hP : va_P D vwCl (mm_ws g h.1 ++ [(q, mm_ent g (kd, lv))]) H1) (hz : H1.size ≤ g.2.1 + h.1.length + 1) :
    q = g.2.1 + h.1.length ∧ mm_Rl g D (h.1 ++ [(kd, lv)], t) H1 := by
  have e := mm_adr hD hP (mm_ws_len g h.1) (fun k z hk => mm_ws_ad k z hk) hz
  refine ⟨e, ?_, by rw [List.length_append]; show h.1.length + 1 ≤ 900; omega, fun c1 hc1 v hv => ?_, by show ∀ z ∈ t.2.2, mm_rng z; rw [ht]; exact hR.2.2.2⟩
  · show va_P D vwCl (mm_ws g (h.1 ++ [(kd, lv)])) H1
    rw [← mm_ws_push, ← e]
    exact hP
  · rcases List.mem_append.mp hc1 with w | w
    · exact hR.2.2.1 c1 w v hv
    · rw [List.mem_singleton.mp w] at hv; exact hok v hv
theorem mm_kk1 {D : va_G} (hR : mm_Rl g D h H) {r : Nat} {c : Nat × List mm_V} (hr : h.1[r]? = some c) : (mm_ws g h.1)[r]? = some (g.2.1 + r, mm_ent g c) := mm_ws_at g hr
theorem mm_catS {b b0 : Nat} (st : List mm_V) : ((st.map (mm_up b b0)).map fun v => v.category).sum ≤ 2 * st.length := by
  induction st with
  | nil => exact Nat.le_refl 0
  | cons v st ih =>
    have h1 : (mm_up b b0 v).category ≤ 2 := by rcases lv_cat (mm_up b b0 v) with h | h <;> omega
    rw [List.map_cons, List.map_cons, List.sum_cons, List.length_cons]
    omega
theorem mm_pF0 : ((List.range mm_codeT.length).all fun y => (mm_codeT.getD y []).all fun q => decide (q.2.1 = 42 → (mm_yn y).name = "<init>" ∧ (mm_fd q.2.2.1).1.1 = mm_own y)) = true := by decide +kernel
theorem mm_pF {y i pc a : Nat} {b : Int} (h : mm_code y i = some (pc, (42, (a, b)))) : (mm_yn y).name = "<init>" ∧ (mm_fd a).1.1 = mm_own y := by
  unfold mm_code at h
  cases hy : mm_codeT[y]? with
  | none => rw [hy] at h; cases h
  | some l =>
    rw [hy] at h
    have e : mm_codeT.getD y [] = l := by rw [List.getD_eq_getElem?_getD, hy]; rfl
    have h1 := List.all_eq_true.mp mm_pF0 y (List.mem_range.mpr (List.getElem?_eq_some_iff.mp hy).1)
    rw [e] at h1
    exact of_decide_eq_true (List.all_eq_true.mp h1 _ (List.mem_of_getElem? h)) rfl
theorem mm_step_getfield (hc : mm_code y i = some (pc, (40, (a, b)))) (hop : mm_op mm_fld 40 a b ls st h = some (ls', (st', (h', j)))) (X : mm_X y l p R s m args meth c) (K : mm_K g D L xs s) (hS : va_S (mm_A g) s.heap H locs) (hR : mm_Rl g D h H) (hL : mm_LR g (mm_mL y) ls rls) (hst : ∀ v ∈ st, mm_ok v) (hcc : cells + n0 = h.2.1) (hss : slots + s0 = h.2.2.1) (hsc : h.2.2.2 = mm_scr L xs) (hz0 : s.heap.size ≤ g.2.1 + n0) (rc : h'.2.1 ≤ R.cells + n0) (rs : h'.2.2.1 ≤ R.slots + s0)
    (kk : mm_KK p l e R s m args below meth c Q g D y n0 s0 L xs (mm_nx y (j.getD (i + 1))) ls' st' h') : W p l e R s m args below meth c H locs cells slots Q (F0 m pc rls (st.map (mm_up g.1 g.2.1))) := by
  obtain ⟨hx, hb, hml, -, -, hnm, hown, hts, -, hnF, hnL, -⟩ := X
  obtain ⟨hd, hn, hj, ha4, hfo, -, hroom, -⟩ := mm_okB_dec hc (by decide)
  have hn := hn (by decide)
  obtain ⟨hf1, hf2⟩ := hfo (by decide)
  obtain ⟨f1, f2, f3⟩ := mm_FA hf2
  obtain ⟨c1, c2, c3, c4, c5, c6, c7⟩ := mm_CA _ f1
  replace hop : mm_o_get (mm_fld a).1 (mm_fld a).2 ls st h = some (ls', (st', (h', j))) := hop
  unfold mm_o_get at hop
  split at hop
  · rename_i r st
    split at hop
    · rename_i kd lv hr
      split at hop
      · rename_i hk
        subst hk
        split at hop
        · rename_i v hv
          cases hop
          obtain ⟨r9, hok⟩ := hR.okl hr
          have he := mm_ws_at g hr
          rw [mm_ent_o] at he
          have k := kk H locs cells slots rls hS hR hL (mm_okc (hok v (List.mem_of_getElem? hv)) (mm_okt hst).2) hcc hss hsc
          rw [show (none : Option Nat).getD (i + 1) = i + 1 from rfl, hn] at k
          show W p l e R s m args below meth c H locs cells slots Q (F0 m pc rls (.ref (mm_ad g.1 g.2.1 r) :: st.map (mm_up g.1 g.2.1)))
          rw [mm_ad_lt (by omega)]
          rw [hf1] at f3
          exact va_get (D := D) (ci := (mm_fd a).1.1) (v := mm_up g.1 g.2.1 v) (C := (mm_cl (mm_fd a).1.1).1) (T := (mm_cl (mm_fd a).1.1).2.1) (N := (mm_cl (mm_fd a).1.1).2.2) hx hb hts c2 hown K.1 hR.1 r he c1 (mm_fd a).1.2 f2 (hts _ f3) (fun x hx => by rw [(c6 _ f2).2] at hx; exact hx) (by rw [List.getElem?_map, hv]; rfl) hd k
        · cases hop
      · cases hop
    · cases hop
  · cases hop
theorem mm_step_putfield (hc : mm_code y i = some (pc, (41, (a, b)))) (hop : mm_op mm_fld 41 a b ls st h = some (ls', (st', (h', j)))) (X : mm_X y l p R s m args meth c) (K : mm_K g D L xs s) (hS : va_S (mm_A g) s.heap H locs) (hR : mm_Rl g D h H) (hL : mm_LR g (mm_mL y) ls rls) (hst : ∀ v ∈ st, mm_ok v) (hcc : cells + n0 = h.2.1) (hss : slots + s0 = h.2.2.1) (hsc : h.2.2.2 = mm_scr L xs) (hz0 : s.heap.size ≤ g.2.1 + n0) (rc : h'.2.1 ≤ R.cells + n0) (rs : h'.2.2.1 ≤ R.slots + s0)
    (kk : mm_KK p l e R s m args below meth c Q g D y n0 s0 L xs (mm_nx y (j.getD (i + 1))) ls' st' h') : W p l e R s m args below meth c H locs cells slots Q (F0 m pc rls (st.map (mm_up g.1 g.2.1))) := by
  obtain ⟨hx, hb, hml, -, -, hnm, hown, hts, -, hnF, hnL, -⟩ := X
  obtain ⟨hd, hn, hj, ha4, hfo, -, hroom, -⟩ := mm_okB_dec hc (by decide)
  have hn := hn (by decide)
  obtain ⟨hf1, hf2⟩ := hfo (by decide)
  obtain ⟨f1, f2, f3⟩ := mm_FA hf2
  obtain ⟨c1, c2, c3, c4, c5, c6, c7⟩ := mm_CA _ f1
  replace hop : mm_o_put (mm_fld a).1 (mm_fld a).2 ls st h = some (ls', (st', (h', j))) := hop
  unfold mm_o_put at hop
  split at hop
  · rename_i z r st
    split at hop
    · rename_i kd lv hr
      split at hop
      · rename_i hk
        obtain ⟨hk, hlt, hkd⟩ := hk
        subst hk
        cases hop
        obtain ⟨r9, hok⟩ := hR.okl hr
        have he := mm_ws_at g hr
        rw [mm_ent_o] at he
        have hzr := (mm_okt hst).1
        replace hst := (mm_okt hst).2
        replace hst := (mm_okt hst).2
        show W p l e R s m args below meth c H locs cells slots Q (F0 m pc rls (.int (Int32.ofInt z) :: .ref (mm_ad g.1 g.2.1 r) :: st'.map (mm_up g.1 g.2.1)))
        rw [mm_ad_lt (by omega)]
        rw [hf1] at f3
        have c6a := (c6 _ f2).1
        have h9 : mm_ty (mm_fd a).1.1 (mm_fd a).1.2 = .int ∧ ((mm_cl (mm_fd a).1.1).2.1 (mm_fd a).1.2).2.2.2 = false ∨ mm_ty (mm_fd a).1.1 (mm_fd a).1.2 = .boolean ∧ ((mm_cl (mm_fd a).1.1).2.1 (mm_fd a).1.2).2.2.2 = false ∧ (z = 0 ∨ z = 1) := by
          unfold mm_kOK at c6a
          rcases hkd with e9 | ⟨e9, hz⟩
          · rw [show (mm_fk (mm_fd a).1.1)[(mm_fd a).1.2]? = some 0 from e9] at c6a
            simp only [Bool.and_eq_true, decide_eq_true_eq, Bool.not_eq_true'] at c6a
            exact Or.inl c6a
          · rw [show (mm_fk (mm_fd a).1.1)[(mm_fd a).1.2]? = some 1 from e9] at c6a
            simp only [Bool.and_eq_true, decide_eq_true_eq, Bool.not_eq_true'] at c6a
            exact Or.inr ⟨c6a.1, c6a.2, hz⟩
        have hfin : ((mm_cl (mm_fd a).1.1).2.1 (mm_fd a).1.2).2.2.2 = false := h9.elim (·.2) (·.2.1)
        have hnf : narrow (mm_ty (mm_fd a).1.1 (mm_fd a).1.2) (.int (Int32.ofInt z)) = .int (Int32.ofInt z) ∧ fits (mm_ty (mm_fd a).1.1 (mm_fd a).1.2) (.int (Int32.ofInt z)) = true := by
          rcases h9 with ⟨e9, -⟩ | ⟨e9, -, hz⟩
          · rw [e9]; exact ⟨rfl, rfl⟩
          · rw [e9]
            rcases hz with rfl | rfl
            · exact ⟨rfl, rfl⟩
            · exact ⟨rfl, rfl⟩
        refine va_put (D := D) (ci := (mm_fd a).1.1) (v := .int (Int32.ofInt z)) (C := (mm_cl (mm_fd a).1.1).1) (T := (mm_cl (mm_fd a).1.1).2.1) (N := (mm_cl (mm_fd a).1.1).2.2) hx hb hts c2 (mm_ty (mm_fd a).1.1) c3 c4 hown K.1 hR.1 (mm_ws_D g h.1) hS r he c1 (mm_fd a).1.2 f2 (hts _ f3) (fun x hx => by rw [(c6 _ f2).2] at hx; exact hx) hfin (c3 _ f2) hnf.1 hnf.2 (by rw [List.length_map]; exact hlt) hd (fun H1 locs1 hP1 hD1 hS1 => ?_)
        rw [show (lv.map (mm_up g.1 g.2.1)).set (mm_fd a).1.2 (.int (Int32.ofInt z)) = (lv.set (mm_fd a).1.2 (mm_I z)).map (mm_up g.1 g.2.1) from by rw [List.map_set]; rfl, ← mm_ent_o, mm_ws_set] at hP1
        have k := kk H1 locs1 cells slots rls hS1 (hR.set (mm_oks hok hzr) hP1) hL hst hcc hss hsc
        rw [show (none : Option Nat).getD (i + 1) = i + 1 from rfl, hn] at k
        exact k
      · cases hop
    · cases hop
  · cases hop
theorem mm_step_putfieldF (hc : mm_code y i = some (pc, (42, (a, b)))) (hop : mm_op mm_fld 42 a b ls st h = some (ls', (st', (h', j)))) (X : mm_X y l p R s m args meth c) (K : mm_K g D L xs s) (hS : va_S (mm_A g) s.heap H locs) (hR : mm_Rl g D h H) (hL : mm_LR g (mm_mL y) ls rls) (hst : ∀ v ∈ st, mm_ok v) (hcc : cells + n0 = h.2.1) (hss : slots + s0 = h.2.2.1) (hsc : h.2.2.2 = mm_scr L xs) (hz0 : s.heap.size ≤ g.2.1 + n0) (rc : h'.2.1 ≤ R.cells + n0) (rs : h'.2.2.1 ≤ R.slots + s0)
    (kk : mm_KK p l e R s m args below meth c Q g D y n0 s0 L xs (mm_nx y (j.getD (i + 1))) ls' st' h') : W p l e R s m args below meth c H locs cells slots Q (F0 m pc rls (st.map (mm_up g.1 g.2.1))) := by
  obtain ⟨hx, hb, hml, -, -, hnm, hown, hts, -, hnF, hnL, -⟩ := X
  obtain ⟨hd, hn, hj, ha4, hfo, -, hroom, -⟩ := mm_okB_dec hc (by decide)
  have hn := hn (by decide)
  obtain ⟨hf1, hf2⟩ := hfo (by decide)
  obtain ⟨f1, f2, f3⟩ := mm_FA hf2
  obtain ⟨c1, c2, c3, c4, c5, c6, c7⟩ := mm_CA _ f1
  obtain ⟨hin, hdc⟩ := mm_pF hc
  replace hop : mm_o_putF (mm_fld a).1 (mm_fld a).2 ls st h = some (ls', (st', (h', j))) := hop
  unfold mm_o_putF at hop
  split at hop
  · rename_i v r st
    split at hop
    · rename_i kd lv hr
      split at hop
      · rename_i hk
        obtain ⟨hk, hlt, hkd⟩ := hk
        subst hk
        cases hop
        obtain ⟨r9, hok⟩ := hR.okl hr
        have he := mm_ws_at g hr
        rw [mm_ent_o] at he
        have hzr := (mm_okt hst).1
        replace hst := (mm_okt hst).2
        replace hst := (mm_okt hst).2
        show W p l e R s m args below meth c H locs cells slots Q (F0 m pc rls (.ref (mm_ad g.1 g.2.1 v) :: .ref (mm_ad g.1 g.2.1 r) :: st'.map (mm_up g.1 g.2.1)))
        rw [mm_ad_lt (r := r) (by omega)]
        rw [hf1] at f3
        have c6a := (c6 _ f2).1
        have h9 : ((mm_cl (mm_fd a).1.1).2.1 (mm_fd a).1.2).2.2.2 = true ∧ narrow (mm_ty (mm_fd a).1.1 (mm_fd a).1.2) (.ref (mm_ad g.1 g.2.1 v)) = .ref (mm_ad g.1 g.2.1 v) ∧ fits (mm_ty (mm_fd a).1.1 (mm_fd a).1.2) (.ref (mm_ad g.1 g.2.1 v)) = true := by
          unfold mm_kOK at c6a
          rw [show (mm_fk (mm_fd a).1.1)[(mm_fd a).1.2]? = some 2 from hkd] at c6a
          simp only [Bool.and_eq_true] at c6a
          refine ⟨c6a.2, ?_⟩
          have c6b := c6a.1
          generalize mm_ty (mm_fd a).1.1 (mm_fd a).1.2 = t9 at c6b
          cases t9 <;> first | exact ⟨rfl, rfl⟩ | cases c6b
        have hdc : ((mm_cl (mm_fd a).1.1).2.1 (mm_fd a).1.2).1 = mm_cn (mm_own y) := by rw [(c6 _ f2).2, c7]; rw [hdc]
        refine va_putF (D := D) (ci := (mm_fd a).1.1) (v := .ref (mm_ad g.1 g.2.1 v)) (C := (mm_cl (mm_fd a).1.1).1) (T := (mm_cl (mm_fd a).1.1).2.1) (N := (mm_cl (mm_fd a).1.1).2.2) hx hb hts c2 (mm_ty (mm_fd a).1.1) c3 c4 hown K.1 hR.1 (mm_ws_D g h.1) hS r he c1 (mm_fd a).1.2 f2 (hts _ f3) (fun x hx => by rw [(c6 _ f2).2] at hx; exact hx) h9.1 (by rw [hnm]; exact hin) hdc (c3 _ f2) h9.2.1 h9.2.2 (by rw [List.length_map]; exact hlt) hd (fun H1 locs1 hP1 hD1 hS1 => ?_)
        rw [show (lv.map (mm_up g.1 g.2.1)).set (mm_fd a).1.2 (.ref (mm_ad g.1 g.2.1 v)) = (lv.set (mm_fd a).1.2 (mm_P v)).map (mm_up g.1 g.2.1) from by rw [List.map_set]; rfl, ← mm_ent_o, mm_ws_set] at hP1
        have k := kk H1 locs1 cells slots rls hS1 (hR.set (mm_oks hok hzr) hP1) hL hst hcc hss hsc
        rw [show (none : Option Nat).getD (i + 1) = i + 1 from rfl, hn] at k
        exact k
      · cases hop
    · cases hop
  · cases hop
theorem mm_step_iaload (hc : mm_code y i = some (pc, (43, (a, b)))) (hop : mm_op mm_fld 43 a b ls st h = some (ls', (st', (h', j)))) (X : mm_X y l p R s m args meth c) (K : mm_K g D L xs s) (hS : va_S (mm_A g) s.heap H locs) (hR : mm_Rl g D h H) (hL : mm_LR g (mm_mL y) ls rls) (hst : ∀ v ∈ st, mm_ok v) (hcc : cells + n0 = h.2.1) (hss : slots + s0 = h.2.2.1) (hsc : h.2.2.2 = mm_scr L xs) (hz0 : s.heap.size ≤ g.2.1 + n0) (rc : h'.2.1 ≤ R.cells + n0) (rs : h'.2.2.1 ≤ R.slots + s0)
    (kk : mm_KK p l e R s m args below meth c Q g D y n0 s0 L xs (mm_nx y (j.getD (i + 1))) ls' st' h') : W p l e R s m args below meth c H locs cells slots Q (F0 m pc rls (st.map (mm_up g.1 g.2.1))) := by
  obtain ⟨hx, hb, hml, -, -, hnm, hown, hts, -, hnF, hnL, -⟩ := X
  obtain ⟨hd, hn, hj, ha4, hfo, -, hroom, -⟩ := mm_okB_dec hc (by decide)
  have hn := hn (by decide)
  replace hop : mm_o_iald ls st h = some (ls', (st', (h', j))) := hop
  unfold mm_o_iald at hop
  split at hop
  · rename_i i9 r st
    have hi := (mm_okt hst).1
    replace hst := (mm_okt hst).2
    have hi : mm_rng i9 := hi
    replace hst := (mm_okt hst).2
    by_cases h0 : i9 < 0
    · rw [if_pos h0] at hop
      cases hop
    rw [if_neg h0] at hop
    by_cases hr9 : r = 999
    · rw [if_pos hr9] at hop
      subst hr9
      split at hop
      · rename_i z hz
        cases hop
        rw [hsc] at hz
        unfold mm_scr at hz
        rw [List.getElem?_cons_succ, List.getElem?_map] at hz
        obtain ⟨n9, hn9, e9⟩ := Option.map_eq_some_iff.mp hz
        obtain ⟨hlt, hge⟩ := List.getElem?_eq_some_iff.mp hn9
        rw [List.length_range] at hlt
        rw [List.getElem_range] at hge
        subst hge
        obtain ⟨-, -, -, -, -, -, -, -, hX, hbl, hbz, -⟩ := K
        have k := kk H locs cells slots rls hS hR hL (mm_okc (by rw [← e9]; exact mm_rT _) hst) hcc hss hsc
        rw [show (none : Option Nat).getD (i + 1) = i + 1 from rfl, hn] at k
        have e8 : mm_up g.1 g.2.1 (mm_I z) = .int (xs (Int32.ofInt i9).toNatClampNeg) := by
          rw [mm_clamp hi, ← e9]
          exact congrArg Value.int (Int32.ofInt_toInt _)
        rw [List.map_cons, e8] at k
        exact va_sld hx hb hX (Nat.lt_of_lt_of_le hbl hbz) (Nat.not_le.mpr hbl) hS (mm_vin hi (by omega) hlt) hd k
      · cases hop
    rw [if_neg hr9] at hop
    split at hop
    · rename_i lv hr
      split at hop
      · rename_i z hz
        cases hop
        obtain ⟨r9, hok⟩ := hR.okl hr
        have he := mm_ws_at g hr
        have k := kk H locs cells slots rls hS hR hL (mm_okc (hok _ (List.mem_of_getElem? hz)) hst) hcc hss hsc
        rw [show (none : Option Nat).getD (i + 1) = i + 1 from rfl, hn] at k
        have e8 : mm_up g.1 g.2.1 (mm_I z) = .int (mm_gI lv[(Int32.ofInt i9).toNatClampNeg]?) := by
          rw [mm_clamp hi, hz]
          rfl
        rw [List.map_cons, e8] at k
        show W p l e R s m args below meth c H locs cells slots Q (F0 m pc rls (.int (Int32.ofInt i9) :: .ref (mm_ad g.1 g.2.1 r) :: st.map (mm_up g.1 g.2.1)))
        rw [mm_ad_lt (by omega)]
        exact va_iald hx hb K.1 hR.1 r 0 he rfl (mm_vin hi (by omega) (List.getElem?_eq_some_iff.mp hz).1) hd k
      · cases hop
    · cases hop
  · cases hop
theorem mm_step_aaload (hc : mm_code y i = some (pc, (47, (a, b)))) (hop : mm_op mm_fld 47 a b ls st h = some (ls', (st', (h', j)))) (X : mm_X y l p R s m args meth c) (K : mm_K g D L xs s) (hS : va_S (mm_A g) s.heap H locs) (hR : mm_Rl g D h H) (hL : mm_LR g (mm_mL y) ls rls) (hst : ∀ v ∈ st, mm_ok v) (hcc : cells + n0 = h.2.1) (hss : slots + s0 = h.2.2.1) (hsc : h.2.2.2 = mm_scr L xs) (hz0 : s.heap.size ≤ g.2.1 + n0) (rc : h'.2.1 ≤ R.cells + n0) (rs : h'.2.2.1 ≤ R.slots + s0)
    (kk : mm_KK p l e R s m args below meth c Q g D y n0 s0 L xs (mm_nx y (j.getD (i + 1))) ls' st' h') : W p l e R s m args below meth c H locs cells slots Q (F0 m pc rls (st.map (mm_up g.1 g.2.1))) := by
  obtain ⟨hx, hb, hml, -, -, hnm, hown, hts, -, hnF, hnL, -⟩ := X
  obtain ⟨hd, hn, hj, ha4, hfo, -, hroom, -⟩ := mm_okB_dec hc (by decide)
  have hn := hn (by decide)
  replace hop : mm_o_aald ls st h = some (ls', (st', (h', j))) := hop
  unfold mm_o_aald at hop
  split at hop
  · rename_i i9 r st
    have hi := (mm_okt hst).1
    replace hst := (mm_okt hst).2
    have hi : mm_rng i9 := hi
    replace hst := (mm_okt hst).2
    by_cases h0 : i9 < 0
    · rw [if_pos h0] at hop
      cases hop
    rw [if_neg h0] at hop
    split at hop
    · rename_i lv hr
      split at hop
      · rename_i z hz
        cases hop
        obtain ⟨r9, hok⟩ := hR.okl hr
        have he := mm_ws_at g hr
        have k := kk H locs cells slots rls hS hR hL (mm_okc (hok _ (List.mem_of_getElem? hz)) hst) hcc hss hsc
        rw [show (none : Option Nat).getD (i + 1) = i + 1 from rfl, hn] at k
        have e8 : mm_up g.1 g.2.1 (.inr (.inr z)) = va_rf (mm_gR g.1 g.2.1 lv[(Int32.ofInt i9).toNatClampNeg]?) := by
          rw [mm_clamp hi, hz]
          cases z <;> rfl
        rw [List.map_cons, e8] at k
        show W p l e R s m args below meth c H locs cells slots Q (F0 m pc rls (.int (Int32.ofInt i9) :: .ref (mm_ad g.1 g.2.1 r) :: st.map (mm_up g.1 g.2.1)))
        rw [mm_ad_lt (by omega)]
        exact va_aldq (C := RX3) hx hb K.1 hR.1 r 2 he rfl (mm_vin hi (by omega) (List.getElem?_eq_some_iff.mp hz).1) hd k
      · cases hop
    · cases hop
  · cases hop
theorem mm_step_iastore (hc : mm_code y i = some (pc, (44, (a, b)))) (hop : mm_op mm_fld 44 a b ls st h = some (ls', (st', (h', j)))) (X : mm_X y l p R s m args meth c) (K : mm_K g D L xs s) (hS : va_S (mm_A g) s.heap H locs) (hR : mm_Rl g D h H) (hL : mm_LR g (mm_mL y) ls rls) (hst : ∀ v ∈ st, mm_ok v) (hcc : cells + n0 = h.2.1) (hss : slots + s0 = h.2.2.1) (hsc : h.2.2.2 = mm_scr L xs) (hz0 : s.heap.size ≤ g.2.1 + n0) (rc : h'.2.1 ≤ R.cells + n0) (rs : h'.2.2.1 ≤ R.slots + s0)
    (kk : mm_KK p l e R s m args below meth c Q g D y n0 s0 L xs (mm_nx y (j.getD (i + 1))) ls' st' h') : W p l e R s m args below meth c H locs cells slots Q (F0 m pc rls (st.map (mm_up g.1 g.2.1))) := by
  obtain ⟨hx, hb, hml, -, -, hnm, hown, hts, -, hnF, hnL, -⟩ := X
  obtain ⟨hd, hn, hj, ha4, hfo, -, hroom, -⟩ := mm_okB_dec hc (by decide)
  have hn := hn (by decide)
  replace hop : mm_o_iast ls st h = some (ls', (st', (h', j))) := hop
  unfold mm_o_iast at hop
  split at hop
  · rename_i z i9 r st
    have hzr := (mm_okt hst).1
    replace hst := (mm_okt hst).2
    have hi := (mm_okt hst).1
    replace hst := (mm_okt hst).2
    have hi : mm_rng i9 := hi
    replace hst := (mm_okt hst).2
    by_cases h0 : i9 < 0
    · rw [if_pos h0] at hop
      cases hop
    rw [if_neg h0] at hop
    split at hop
    · rename_i lv hr
      split at hop
      · rename_i hlt
        cases hop
        obtain ⟨r9, hok⟩ := hR.okl hr
        have he := mm_ws_at g hr
        show W p l e R s m args below meth c H locs cells slots Q (F0 m pc rls (.int (Int32.ofInt z) :: .int (Int32.ofInt i9) :: .ref (mm_ad g.1 g.2.1 r) :: st'.map (mm_up g.1 g.2.1)))
        rw [mm_ad_lt (r := r) (by omega)]
        refine va_iast hx hb K.1 hR.1 (mm_ws_D g h.1) hS r 0 he rfl (mm_vin hi (by omega) hlt) hd (fun H1 locs1 hP1 hD1 hS1 => ?_)
        have e8 : ((.inl (g.2.2.1, (lv.length, .inl (upd (fun j => mm_gI lv[j]?) (Int32.ofInt i9).toNatClampNeg (Int32.ofInt z)))) : va_E)) = mm_ent g (0, lv.set i9.toNat (mm_I z)) := by
          show (_ : va_E) = Sum.inl (_, ((lv.set i9.toNat (mm_I z)).length, .inl (fun j => mm_gI (lv.set i9.toNat (mm_I z))[j]?)))
          rw [List.length_set]
          congr 4
          funext q
          rw [mm_clamp hi]
          unfold upd
          rw [List.getElem?_set]
          by_cases hq : q = i9.toNat
          · subst hq
            rw [if_pos rfl, if_pos rfl, if_pos (by exact hlt)]
            rfl
          · rw [if_neg hq, if_neg (fun z => hq z.symm)]
        rw [e8, mm_ws_set] at hP1
        have k := kk H1 locs1 cells slots rls hS1 (hR.set (mm_oks hok hzr) hP1) hL hst hcc hss hsc
        rw [show (none : Option Nat).getD (i + 1) = i + 1 from rfl, hn] at k
        exact k
      · cases hop
    · cases hop
  · cases hop
theorem mm_step_aastore (hc : mm_code y i = some (pc, (48, (a, b)))) (hop : mm_op mm_fld 48 a b ls st h = some (ls', (st', (h', j)))) (X : mm_X y l p R s m args meth c) (K : mm_K g D L xs s) (hS : va_S (mm_A g) s.heap H locs) (hR : mm_Rl g D h H) (hL : mm_LR g (mm_mL y) ls rls) (hst : ∀ v ∈ st, mm_ok v) (hcc : cells + n0 = h.2.1) (hss : slots + s0 = h.2.2.1) (hsc : h.2.2.2 = mm_scr L xs) (hz0 : s.heap.size ≤ g.2.1 + n0) (rc : h'.2.1 ≤ R.cells + n0) (rs : h'.2.2.1 ≤ R.slots + s0)
    (kk : mm_KK p l e R s m args below meth c Q g D y n0 s0 L xs (mm_nx y (j.getD (i + 1))) ls' st' h') : W p l e R s m args below meth c H locs cells slots Q (F0 m pc rls (st.map (mm_up g.1 g.2.1))) := by
  obtain ⟨hx, hb, hml, -, -, hnm, hown, hts, -, hnF, hnL, -⟩ := X
  obtain ⟨hd, hn, hj, ha4, hfo, -, hroom, -⟩ := mm_okB_dec hc (by decide)
  have hn := hn (by decide)
  replace hop : mm_o_aast ls st h = some (ls', (st', (h', j))) := hop
  unfold mm_o_aast at hop
  split at hop
  · rename_i v i9 r st
    have hzr := (mm_okt hst).1
    replace hst := (mm_okt hst).2
    have hi := (mm_okt hst).1
    replace hst := (mm_okt hst).2
    have hi : mm_rng i9 := hi
    replace hst := (mm_okt hst).2
    by_cases h0 : i9 < 0
    · rw [if_pos h0] at hop
      cases hop
    rw [if_neg h0] at hop
    split at hop
    · rename_i lv hr
      split at hop
      · rename_i hlt
        obtain ⟨hlt, hv⟩ := hlt
        cases hop
        obtain ⟨r9, hok⟩ := hR.okl hr
        have he := mm_ws_at g hr
        obtain ⟨cv, hcv, ecv⟩ := Option.map_eq_some_iff.mp hv
        obtain ⟨kv, lvv⟩ := cv
        have ecv : kv = 13 := ecv
        subst ecv
        obtain ⟨v9, -⟩ := hR.okl hcv
        have hev := mm_ws_at g hcv
        rw [mm_ent_o g 3] at hev
        show W p l e R s m args below meth c H locs cells slots Q (F0 m pc rls (.ref (mm_ad g.1 g.2.1 v) :: .int (Int32.ofInt i9) :: .ref (mm_ad g.1 g.2.1 r) :: st'.map (mm_up g.1 g.2.1)))
        rw [mm_ad_lt (r := r) (by omega), mm_ad_lt (r := v) (by omega)]
        refine va_astq (r := (RX3, TX3, 2)) hx hb K.1 hR.1 (mm_ws_D g h.1) hS r 2 v 3 he rfl hev rfl (mm_vin hi (by omega) hlt) hd (fun H1 locs1 hP1 hD1 hS1 => ?_)
        have e8 : ((.inl (g.2.2.2.2, (lv.length, .inr (.inr (.inr (.inr (va_up (fun j => mm_gR g.1 g.2.1 lv[j]?) (Int32.ofInt i9).toNatClampNeg (some (g.2.1 + v)))))))) : va_E)) = mm_ent g (2, lv.set i9.toNat (mm_P v)) := by
          show (_ : va_E) = Sum.inl (_, ((lv.set i9.toNat (mm_P v)).length, .inr (.inr (.inr (.inr (fun j => mm_gR g.1 g.2.1 (lv.set i9.toNat (mm_P v))[j]?))))))
          rw [List.length_set]
          congr 7
          funext q
          rw [mm_clamp hi]
          unfold va_up
          rw [List.getElem?_set]
          by_cases hq : q = i9.toNat
          · subst hq
            rw [if_pos rfl, if_pos rfl, if_pos hlt]
            show some (g.2.1 + v) = some (mm_ad g.1 g.2.1 v)
            rw [mm_ad_lt (by omega)]
          · rw [if_neg hq, if_neg (fun z => hq z.symm)]
        rw [e8, mm_ws_set] at hP1
        have k := kk H1 locs1 cells slots rls hS1 (hR.set (mm_oks hok hzr) hP1) hL hst hcc hss hsc
        rw [show (none : Option Nat).getD (i + 1) = i + 1 from rfl, hn] at k
        exact k
      · cases hop
    · cases hop
  · cases hop
theorem mm_step_arraylength (hc : mm_code y i = some (pc, (49, (a, b)))) (hop : mm_op mm_fld 49 a b ls st h = some (ls', (st', (h', j)))) (X : mm_X y l p R s m args meth c) (K : mm_K g D L xs s) (hS : va_S (mm_A g) s.heap H locs) (hR : mm_Rl g D h H) (hL : mm_LR g (mm_mL y) ls rls) (hst : ∀ v ∈ st, mm_ok v) (hcc : cells + n0 = h.2.1) (hss : slots + s0 = h.2.2.1) (hsc : h.2.2.2 = mm_scr L xs) (hz0 : s.heap.size ≤ g.2.1 + n0) (rc : h'.2.1 ≤ R.cells + n0) (rs : h'.2.2.1 ≤ R.slots + s0)
    (kk : mm_KK p l e R s m args below meth c Q g D y n0 s0 L xs (mm_nx y (j.getD (i + 1))) ls' st' h') : W p l e R s m args below meth c H locs cells slots Q (F0 m pc rls (st.map (mm_up g.1 g.2.1))) := by
  obtain ⟨hx, hb, hml, -, -, hnm, hown, hts, -, hnF, hnL, -⟩ := X
  obtain ⟨hd, hn, hj, ha4, hfo, -, hroom, -⟩ := mm_okB_dec hc (by decide)
  have hn := hn (by decide)
  replace hop : mm_o_alen ls st h = some (ls', (st', (h', j))) := hop
  unfold mm_o_alen at hop
  split at hop
  · rename_i r st
    replace hst := (mm_okt hst).2
    by_cases hr9 : r = 999
    · rw [if_pos hr9] at hop
      subst hr9
      rw [hsc] at hop
      unfold mm_scr at hop
      dsimp only at hop
      rw [List.length_map, List.length_range] at hop
      cases hop
      obtain ⟨-, -, -, -, -, -, -, -, hX, hbl, hbz, hL9⟩ := K
      have k := kk H locs cells slots rls hS hR hL (mm_okc (v := mm_I (L : Int)) ⟨by omega, by omega⟩ hst) hcc hss hsc
      rw [show (none : Option Nat).getD (i + 1) = i + 1 from rfl, hn] at k
      have e8 : mm_up g.1 g.2.1 (mm_I (L : Int)) = .int (Int32.ofNat L) := congrArg Value.int (mm_nI L)
      rw [List.map_cons, e8] at k
      exact va_slen hx hb hX (Nat.lt_of_lt_of_le hbl hbz) (Nat.not_le.mpr hbl) hS hd k
    rw [if_neg hr9] at hop
    split at hop
    · rename_i kd lv hr
      split at hop
      · rename_i hk
        obtain ⟨hk, hlen⟩ := hk
        cases hop
        obtain ⟨r9, hok⟩ := hR.okl hr
        have he := mm_ws_at g hr
        have k := kk H locs cells slots rls hS hR hL (mm_okc (v := mm_I (lv.length : Int)) ⟨by omega, by omega⟩ hst) hcc hss hsc
        rw [show (none : Option Nat).getD (i + 1) = i + 1 from rfl, hn] at k
        have e8 : mm_up g.1 g.2.1 (mm_I (lv.length : Int)) = .int (Int32.ofNat lv.length) := congrArg Value.int (mm_nI lv.length)
        rw [List.map_cons, e8] at k
        show W p l e R s m args below meth c H locs cells slots Q (F0 m pc rls (.ref (mm_ad g.1 g.2.1 r) :: st.map (mm_up g.1 g.2.1)))
        rw [mm_ad_lt (r := r) (by omega)]
        have hk3 : kd = 0 ∨ kd = 1 ∨ kd = 2 := by omega
        rcases hk3 with rfl | rfl | rfl
        · exact va_alen (ty := .int) hx hb K.1 hR.1 r 0 he rfl rfl hd k
        · exact va_alen (ty := .int) hx hb K.1 hR.1 r 1 he rfl rfl hd k
        · exact va_alen (ty := .object RX3) hx hb K.1 hR.1 r 2 he rfl rfl hd k
      · cases hop
    · cases hop
  · cases hop
theorem mm_step_new (hc : mm_code y i = some (pc, (50, (a, b)))) (hop : mm_op mm_fld 50 a b ls st h = some (ls', (st', (h', j)))) (X : mm_X y l p R s m args meth c) (K : mm_K g D L xs s) (hS : va_S (mm_A g) s.heap H locs) (hR : mm_Rl g D h H) (hL : mm_LR g (mm_mL y) ls rls) (hst : ∀ v ∈ st, mm_ok v) (hcc : cells + n0 = h.2.1) (hss : slots + s0 = h.2.2.1) (hsc : h.2.2.2 = mm_scr L xs) (hz0 : s.heap.size ≤ g.2.1 + n0) (rc : h'.2.1 ≤ R.cells + n0) (rs : h'.2.2.1 ≤ R.slots + s0)
    (kk : mm_KK p l e R s m args below meth c Q g D y n0 s0 L xs (mm_nx y (j.getD (i + 1))) ls' st' h') : W p l e R s m args below meth c H locs cells slots Q (F0 m pc rls (st.map (mm_up g.1 g.2.1))) := by
  obtain ⟨hx, hb, hml, -, -, hnm, hown, hts, -, hnF, hnL, -⟩ := X
  obtain ⟨hd, hn, hj, ha4, hfo, -, hroom, -⟩ := mm_okB_dec hc (by decide)
  have hn := hn (by decide)
  have hN := mm_NA _ (mm_nA hc rfl)
  obtain ⟨n1, n2, n3, n4⟩ := hN.1 rfl
  replace n1 : b.toNat < 5 := n1
  obtain ⟨c1, c2, c3, c4, c5, c6, c7⟩ := mm_CA _ n1
  replace hop : mm_push (10 + b.toNat) ((mm_fk b.toNat).map mm_df) ls st h = some (ls', (st', (h', j))) := hop
  unfold mm_push at hop
  split at hop
  · rename_i hp
    obtain ⟨hp1, hp2⟩ := hp
    cases hop
    have hlen : ((mm_fk b.toNat).map mm_df).length = (mm_cl b.toNat).2.2 := by rw [List.length_map]; exact c5
    dsimp only at rc rs
    rw [hlen] at rs
    refine va_new (ci := b.toNat) (fs := ((mm_fk b.toNat).map mm_df).map (mm_up g.1 g.2.1)) (C := (mm_cl b.toNat).1) (T := (mm_cl b.toNat).2.1) (N := (mm_cl b.toNat).2.2) hx hb hts c2 (mm_ty b.toNat) c3 hown (hts _ n2) (hts _ n3) (hts _ n4) K.1 hR.1 (mm_ws_D g h.1) hS (fun q hq => Nat.le_trans K.2.2.2.2.2.2.2.2.2.2.1 hq) c1 (fun k hk => ?_) (by omega) (by omega) hd (fun q H1 hP1 hD1 hS1 => mm_size (fun hsz => ?_))
    · have c6a := (c6 _ hk).1
      have hk5 : k < (mm_fk b.toNat).length := by rw [c5]; exact hk
      have e5 : (mm_fk b.toNat)[k]? = some (mm_fk b.toNat)[k] := List.getElem?_eq_getElem hk5
      unfold vp_V
      rw [List.getD_eq_getElem?_getD, List.getElem?_map, List.getElem?_map, e5]
      unfold mm_kOK at c6a
      rw [e5] at c6a
      generalize (mm_fk b.toNat)[k] = t9 at c6a
      match t9, c6a with
      | 0, c6a =>
        simp only [Bool.and_eq_true, decide_eq_true_eq] at c6a
        rw [c6a.1]
        rfl
      | 1, c6a =>
        simp only [Bool.and_eq_true, decide_eq_true_eq] at c6a
        rw [c6a.1]
        rfl
      | 2, c6a =>
        simp only [Bool.and_eq_true] at c6a
        have c6b := c6a.1
        generalize mm_ty b.toNat k = t8 at c6b
        cases t8 <;> first | rfl | cases c6b
      | t + 3, c6a => cases c6a
    · rw [← mm_ent_o] at hP1 hD1
      have hok0 : ∀ v ∈ (mm_fk b.toNat).map mm_df, mm_ok v := by
        intro v hv
        obtain ⟨t, -, rfl⟩ := List.mem_map.mp hv
        unfold mm_df
        split
        · trivial
        · exact mm_rng0
      obtain ⟨e9, hR9⟩ := mm_Rl.push (t := (h.2.1 + 1, (h.2.2.1 + ((mm_fk b.toNat).map mm_df).length, h.2.2.2))) hR hp2 hok0 rfl hD1 hP1 (by omega)
      have k := kk H1 locs (cells + 1) (slots + (mm_cl b.toNat).2.2) rls hS1 hR9 hL (mm_okc (v := mm_P h.1.length) trivial hst) (by show cells + 1 + n0 = h.2.1 + 1; omega) (by show slots + (mm_cl b.toNat).2.2 + s0 = h.2.2.1 + ((mm_fk b.toNat).map mm_df).length; omega) hsc
      rw [show (none : Option Nat).getD (i + 1) = i + 1 from rfl, hn] at k
      rw [e9, ← mm_ad_lt (b := g.1) (b0 := g.2.1) (r := h.1.length) (by omega)]
      exact k
  · cases hop
theorem mm_step_newarray (hc : mm_code y i = some (pc, (51, (a, b)))) (hop : mm_op mm_fld 51 a b ls st h = some (ls', (st', (h', j)))) (X : mm_X y l p R s m args meth c) (K : mm_K g D L xs s) (hS : va_S (mm_A g) s.heap H locs) (hR : mm_Rl g D h H) (hL : mm_LR g (mm_mL y) ls rls) (hst : ∀ v ∈ st, mm_ok v) (hcc : cells + n0 = h.2.1) (hss : slots + s0 = h.2.2.1) (hsc : h.2.2.2 = mm_scr L xs) (hz0 : s.heap.size ≤ g.2.1 + n0) (rc : h'.2.1 ≤ R.cells + n0) (rs : h'.2.2.1 ≤ R.slots + s0)
    (kk : mm_KK p l e R s m args below meth c Q g D y n0 s0 L xs (mm_nx y (j.getD (i + 1))) ls' st' h') : W p l e R s m args below meth c H locs cells slots Q (F0 m pc rls (st.map (mm_up g.1 g.2.1))) := by
  obtain ⟨hx, hb, hml, -, -, hnm, hown, hts, -, hnF, hnL, -⟩ := X
  obtain ⟨hd, hn, hj, ha4, hfo, -, hroom, -⟩ := mm_okB_dec hc (by decide)
  have hn := hn (by decide)
  replace hop : mm_o_newa 0 (mm_I 0) ls st h = some (ls', (st', (h', j))) := hop
  unfold mm_o_newa at hop
  split at hop
  · rename_i n st
    have hnr := (mm_okt hst).1
    replace hst := (mm_okt hst).2
    have hnr : mm_rng n := hnr
    by_cases hn9 : 0 ≤ n ∧ n < 100000
    · rw [if_pos hn9] at hop
      unfold mm_push at hop
      split at hop
      · rename_i hp
        obtain ⟨hp1, hp2⟩ := hp
        cases hop
        have hlen : (List.replicate n.toNat (mm_I 0 : mm_V)).length = n.toNat := List.length_replicate
        dsimp only at rc rs
        rw [hlen] at rs
        refine va_newa (atype := .int) hx hb (hts _ mm_wAr) rfl K.1 hR.1 (mm_ws_D g h.1) hS (fun q hq => Nat.le_trans K.2.2.2.2.2.2.2.2.2.2.1 hq) (a0 := (n.toNat, .inl (fun _ => 0))) (fun _ => rfl) (by rw [mm_lt0 hnr]; omega) (mm_clamp hnr) (by show n.toNat * 4 ≤ _; omega) (by omega) (by omega) hd (fun q cA H1 hK1 hP1 hD1 hS1 => mm_size (fun hsz => ?_))
        have hcA : cA = g.2.2.1 := by
          have z1 := (hK1.2 3 (cA, .int) rfl).2
          have z2 := (K.1.2 0 (g.2.2.1, .int) rfl).2
          exact Option.some.inj (z1.symm.trans z2)
        rw [hcA] at hP1 hD1
        have e8 : ((.inl (g.2.2.1, (n.toNat, .inl (fun _ => 0))) : va_E)) = mm_ent g (0, List.replicate n.toNat (mm_I 0)) := by
          show (_ : va_E) = Sum.inl (_, ((List.replicate n.toNat (mm_I 0 : mm_V)).length, .inl (fun j => mm_gI (List.replicate n.toNat (mm_I 0))[j]?)))
          rw [List.length_replicate]
          congr 4
          funext q
          rw [List.getElem?_replicate]
          split <;> rfl
        rw [e8] at hP1 hD1
        obtain ⟨e9, hR9⟩ := mm_Rl.push (t := (h.2.1 + 1, (h.2.2.1 + (List.replicate n.toNat (mm_I 0 : mm_V)).length, h.2.2.2))) hR hp2 (fun v hv => by rw [(List.mem_replicate.mp hv).2]; exact mm_rng0) rfl hD1 hP1 (by omega)
        have k := kk H1 locs (cells + 1) (slots + n.toNat) rls hS1 hR9 hL (mm_okc (v := mm_P h.1.length) trivial hst) (by show cells + 1 + n0 = h.2.1 + 1; omega) (by show slots + n.toNat + s0 = h.2.2.1 + (List.replicate n.toNat (mm_I 0 : mm_V)).length; omega) hsc
        rw [show (none : Option Nat).getD (i + 1) = i + 1 from rfl, hn] at k
        rw [e9, ← mm_ad_lt (b := g.1) (b0 := g.2.1) (r := h.1.length) (by omega)]
        exact k
      · cases hop
    · rw [if_neg hn9] at hop
      cases hop
  · cases hop
theorem mm_step_anewarray (hc : mm_code y i = some (pc, (53, (a, b)))) (hop : mm_op mm_fld 53 a b ls st h = some (ls', (st', (h', j)))) (X : mm_X y l p R s m args meth c) (K : mm_K g D L xs s) (hS : va_S (mm_A g) s.heap H locs) (hR : mm_Rl g D h H) (hL : mm_LR g (mm_mL y) ls rls) (hst : ∀ v ∈ st, mm_ok v) (hcc : cells + n0 = h.2.1) (hss : slots + s0 = h.2.2.1) (hsc : h.2.2.2 = mm_scr L xs) (hz0 : s.heap.size ≤ g.2.1 + n0) (rc : h'.2.1 ≤ R.cells + n0) (rs : h'.2.2.1 ≤ R.slots + s0)
    (kk : mm_KK p l e R s m args below meth c Q g D y n0 s0 L xs (mm_nx y (j.getD (i + 1))) ls' st' h') : W p l e R s m args below meth c H locs cells slots Q (F0 m pc rls (st.map (mm_up g.1 g.2.1))) := by
  obtain ⟨hx, hb, hml, -, -, hnm, hown, hts, -, hnF, hnL, -⟩ := X
  obtain ⟨hd, hn, hj, ha4, hfo, -, hroom, -⟩ := mm_okB_dec hc (by decide)
  have hn := hn (by decide)
  replace hop : mm_o_newa 2 (mm_N) ls st h = some (ls', (st', (h', j))) := hop
  unfold mm_o_newa at hop
  split at hop
  · rename_i n st
    have hnr := (mm_okt hst).1
    replace hst := (mm_okt hst).2
    have hnr : mm_rng n := hnr
    by_cases hn9 : 0 ≤ n ∧ n < 100000
    · rw [if_pos hn9] at hop
      unfold mm_push at hop
      split at hop
      · rename_i hp
        obtain ⟨hp1, hp2⟩ := hp
        cases hop
        have hlen : (List.replicate n.toNat (mm_N : mm_V)).length = n.toNat := List.length_replicate
        dsimp only at rc rs
        rw [hlen] at rs
        refine va_newq hx hb hown (hts _ ((mm_NA _ (mm_nA hc rfl)).2.1 rfl)) K.2.2.2.2.2.2.2.1 K.1 hR.1 (mm_ws_D g h.1) hS (fun q hq => Nat.le_trans K.2.2.2.2.2.2.2.2.2.2.1 hq) (by rw [mm_lt0 hnr]; omega) (mm_clamp hnr) (by omega) (by omega) (by omega) hd (fun q cA H1 hK1 hP1 hD1 hS1 => mm_size (fun hsz => ?_))
        have hcA : cA = g.2.2.2.2 := by
          have z1 := (hK1.2 3 (cA, .object RX3) rfl).2
          have z2 := (K.1.2 2 (g.2.2.2.2, .object RX3) rfl).2
          obtain ⟨_, _, _, _, _, z1⟩ := z1
          obtain ⟨_, _, _, _, _, z2⟩ := z2
          exact Option.some.inj (z1.symm.trans z2)
        rw [hcA] at hP1 hD1
        have e8 : ((.inl (g.2.2.2.2, (n.toNat, .inr (.inr (.inr (.inr (fun _ => none)))))) : va_E)) = mm_ent g (2, List.replicate n.toNat (mm_N)) := by
          show (_ : va_E) = Sum.inl (_, ((List.replicate n.toNat (mm_N : mm_V)).length, .inr (.inr (.inr (.inr (fun j => mm_gR g.1 g.2.1 (List.replicate n.toNat mm_N)[j]?))))))
          rw [List.length_replicate]
          congr 7
          funext q
          rw [List.getElem?_replicate]
          split <;> rfl
        rw [e8] at hP1 hD1
        obtain ⟨e9, hR9⟩ := mm_Rl.push (t := (h.2.1 + 1, (h.2.2.1 + (List.replicate n.toNat (mm_N : mm_V)).length, h.2.2.2))) hR hp2 (fun v hv => by rw [(List.mem_replicate.mp hv).2]; trivial) rfl hD1 hP1 (by omega)
        have k := kk H1 locs (cells + 1) (slots + n.toNat) rls hS1 hR9 hL (mm_okc (v := mm_P h.1.length) trivial hst) (by show cells + 1 + n0 = h.2.1 + 1; omega) (by show slots + n.toNat + s0 = h.2.2.1 + (List.replicate n.toNat (mm_N : mm_V)).length; omega) hsc
        rw [show (none : Option Nat).getD (i + 1) = i + 1 from rfl, hn] at k
        rw [e9, ← mm_ad_lt (b := g.1) (b0 := g.2.1) (r := h.1.length) (by omega)]
        exact k
      · cases hop
    · rw [if_neg hn9] at hop
      cases hop
  · cases hop
theorem mm_step_objInit (hc : mm_code y i = some (pc, (57, (a, b)))) (hop : mm_op mm_fld 57 a b ls st h = some (ls', (st', (h', j)))) (X : mm_X y l p R s m args meth c) (K : mm_K g D L xs s) (hS : va_S (mm_A g) s.heap H locs) (hR : mm_Rl g D h H) (hL : mm_LR g (mm_mL y) ls rls) (hst : ∀ v ∈ st, mm_ok v) (hcc : cells + n0 = h.2.1) (hss : slots + s0 = h.2.2.1) (hsc : h.2.2.2 = mm_scr L xs) (hz0 : s.heap.size ≤ g.2.1 + n0) (rc : h'.2.1 ≤ R.cells + n0) (rs : h'.2.2.1 ≤ R.slots + s0)
    (kk : mm_KK p l e R s m args below meth c Q g D y n0 s0 L xs (mm_nx y (j.getD (i + 1))) ls' st' h') : W p l e R s m args below meth c H locs cells slots Q (F0 m pc rls (st.map (mm_up g.1 g.2.1))) := by
  obtain ⟨hx, hb, hml, -, -, hnm, hown, hts, -, hnF, hnL, -⟩ := X
  obtain ⟨hd, hn, hj, ha4, hfo, -, hroom, -⟩ := mm_okB_dec hc (by decide)
  have hn := hn (by decide)
  obtain ⟨hr1, hr2⟩ := hroom (by decide)
  have hN := (mm_NA _ (mm_nA hc rfl)).2.2.1 rfl
  match st, hst, hop with
  | .inr (.inr (some r)) :: st, hst, hop =>
    replace hop : (if st.length ≤ 4 then some (ls, (st, (h, (none : Option Nat)))) else none) = some (ls', (st', (h', j))) := hop
    by_cases hl : st.length ≤ 4
    · rw [if_pos hl] at hop
      cases hop
      have k := kk H locs cells slots rls hS hR hL (mm_okt hst).2 hcc hss hsc
      rw [show (none : Option Nat).getD (i + 1) = i + 1 from rfl, hn] at k
      exact W.objInit hx hb hown (hts _ hN) (hts _ mm_wOI.1) (hts _ mm_wOI.2) rfl (by show rls.size = _; rw [hL.2.1, hml]) rfl hd (by omega) (by have := mm_catS (b := g.1) (b0 := g.2.1) st'; show 2 * 0 + _ + 12 ≤ _; omega) k
    · rw [if_neg hl] at hop
      cases hop
  | .inr (.inr none) :: st, hst, hop => cases hop
  | .inr (.inl z) :: st, hst, hop => cases hop
  | .inl z :: st, hst, hop => cases hop
  | [], hst, hop => cases hop
theorem mm_step_mmax (hc : mm_code y i = some (pc, (58, (a, b)))) (hop : mm_op mm_fld 58 a b ls st h = some (ls', (st', (h', j)))) (X : mm_X y l p R s m args meth c) (K : mm_K g D L xs s) (hS : va_S (mm_A g) s.heap H locs) (hR : mm_Rl g D h H) (hL : mm_LR g (mm_mL y) ls rls) (hst : ∀ v ∈ st, mm_ok v) (hcc : cells + n0 = h.2.1) (hss : slots + s0 = h.2.2.1) (hsc : h.2.2.2 = mm_scr L xs) (hz0 : s.heap.size ≤ g.2.1 + n0) (rc : h'.2.1 ≤ R.cells + n0) (rs : h'.2.2.1 ≤ R.slots + s0)
    (kk : mm_KK p l e R s m args below meth c Q g D y n0 s0 L xs (mm_nx y (j.getD (i + 1))) ls' st' h') : W p l e R s m args below meth c H locs cells slots Q (F0 m pc rls (st.map (mm_up g.1 g.2.1))) := by
  obtain ⟨hx, hb, hml, -, -, hnm, hown, hts, -, hnF, hnL, -⟩ := X
  obtain ⟨hd, hn, hj, ha4, hfo, -, hroom, -⟩ := mm_okB_dec hc (by decide)
  have hn := hn (by decide)
  obtain ⟨hr1, hr2⟩ := hroom (by decide)
  have hN := (mm_NA _ (mm_nA hc rfl)).2.2.2.1 rfl
  replace hop : mm_o_max (fun x y => if x < y then y else x) ls st h = some (ls', (st', (h', j))) := hop
  unfold mm_o_max at hop
  split at hop
  · rename_i y9 x9 st
    have hy := (mm_okt hst).1
    replace hst := (mm_okt hst).2
    have hx9 := (mm_okt hst).1
    replace hst := (mm_okt hst).2
    have hy : mm_rng y9 := hy
    have hx9 : mm_rng x9 := hx9
    by_cases hl : st.length ≤ 4
    · rw [if_pos hl] at hop
      cases hop
      have hr : mm_rng (if x9 < y9 then y9 else x9) := by split <;> assumption
      have k := kk H locs cells slots rls hS hR hL (mm_okc hr hst) hcc hss hsc
      rw [show (none : Option Nat).getD (i + 1) = i + 1 from rfl, hn] at k
      have e8 : mm_up g.1 g.2.1 (mm_I (if x9 < y9 then y9 else x9)) = .int (if Int32.ofInt x9 < Int32.ofInt y9 then Int32.ofInt y9 else Int32.ofInt x9) := by
        by_cases q : x9 < y9
        · rw [if_pos q, if_pos ((mm_ltI hx9 hy).mpr q)]; rfl
        · rw [if_neg q, if_neg (fun z => q ((mm_ltI hx9 hy).mp z))]; rfl
      rw [List.map_cons, e8] at k
      exact va_mmax hx hb (by rw [hL.2.1, hml]) hown (hts _ hN) (hts _ mm_w_max.1) (hts _ mm_wMath) (hts _ mm_w_max.2) (by omega) (by have := mm_catS (b := g.1) (b0 := g.2.1) st; omega) (by omega) (by omega) hd k
    · rw [if_neg hl] at hop
      cases hop
  · cases hop
theorem mm_step_mmin (hc : mm_code y i = some (pc, (59, (a, b)))) (hop : mm_op mm_fld 59 a b ls st h = some (ls', (st', (h', j)))) (X : mm_X y l p R s m args meth c) (K : mm_K g D L xs s) (hS : va_S (mm_A g) s.heap H locs) (hR : mm_Rl g D h H) (hL : mm_LR g (mm_mL y) ls rls) (hst : ∀ v ∈ st, mm_ok v) (hcc : cells + n0 = h.2.1) (hss : slots + s0 = h.2.2.1) (hsc : h.2.2.2 = mm_scr L xs) (hz0 : s.heap.size ≤ g.2.1 + n0) (rc : h'.2.1 ≤ R.cells + n0) (rs : h'.2.2.1 ≤ R.slots + s0)
    (kk : mm_KK p l e R s m args below meth c Q g D y n0 s0 L xs (mm_nx y (j.getD (i + 1))) ls' st' h') : W p l e R s m args below meth c H locs cells slots Q (F0 m pc rls (st.map (mm_up g.1 g.2.1))) := by
  obtain ⟨hx, hb, hml, -, -, hnm, hown, hts, -, hnF, hnL, -⟩ := X
  obtain ⟨hd, hn, hj, ha4, hfo, -, hroom, -⟩ := mm_okB_dec hc (by decide)
  have hn := hn (by decide)
  obtain ⟨hr1, hr2⟩ := hroom (by decide)
  have hN := (mm_NA _ (mm_nA hc rfl)).2.2.2.2.1 rfl
  replace hop : mm_o_max (fun x y => if y < x then y else x) ls st h = some (ls', (st', (h', j))) := hop
  unfold mm_o_max at hop
  split at hop
  · rename_i y9 x9 st
    have hy := (mm_okt hst).1
    replace hst := (mm_okt hst).2
    have hx9 := (mm_okt hst).1
    replace hst := (mm_okt hst).2
    have hy : mm_rng y9 := hy
    have hx9 : mm_rng x9 := hx9
    by_cases hl : st.length ≤ 4
    · rw [if_pos hl] at hop
      cases hop
      have hr : mm_rng (if y9 < x9 then y9 else x9) := by split <;> assumption
      have k := kk H locs cells slots rls hS hR hL (mm_okc hr hst) hcc hss hsc
      rw [show (none : Option Nat).getD (i + 1) = i + 1 from rfl, hn] at k
      have e8 : mm_up g.1 g.2.1 (mm_I (if y9 < x9 then y9 else x9)) = .int (if Int32.ofInt y9 < Int32.ofInt x9 then Int32.ofInt y9 else Int32.ofInt x9) := by
        by_cases q : y9 < x9
        · rw [if_pos q, if_pos ((mm_ltI hy hx9).mpr q)]; rfl
        · rw [if_neg q, if_neg (fun z => q ((mm_ltI hy hx9).mp z))]; rfl
      rw [List.map_cons, e8] at k
      exact va_mmin hx hb (by rw [hL.2.1, hml]) hown (hts _ hN) (hts _ mm_w_min.1) (hts _ mm_wMath) (hts _ mm_w_min.2) (by omega) (by have := mm_catS (b := g.1) (b0 := g.2.1) st; omega) (by omega) (by omega) hd k
    · rw [if_neg hl] at hop
      cases hop
  · cases hop
end MMH
end
section
section MMO
theorem mm_op_mono {fld : Nat → Nat × Nat} {op a : Nat} {b : Int} {ls ls' : mm_F} {st st' : List mm_V} {h h' : mm_H} {j : Option Nat} (hop : mm_op fld op a b ls st h = some (ls', (st', (h', j)))) : h.2.1 ≤ h'.2.1 ∧ h.2.2.1 ≤ h'.2.2.1 ∧ h'.2.2.2 = h.2.2.2 := by
  unfold mm_op mm_o_load mm_o_aload mm_o_store mm_o_astore mm_o_bin mm_o_if mm_o_icmp mm_o_iinc mm_o_null mm_o_get mm_o_put mm_o_putF mm_o_iald mm_o_iast mm_o_aald mm_o_aast mm_o_alen mm_o_newa mm_push mm_o_max at hop
  repeat' split at hop
  all_goals first
    | (cases hop; exact ⟨Nat.le_refl _, Nat.le_refl _, rfl⟩)
    | (cases hop; exact ⟨Nat.le_succ _, Nat.le_add_right _ _, rfl⟩)
    | cases hop
theorem mm_mono : ∀ (n y i : Nat) (ls : mm_F) (st : List mm_V) (h : mm_H) (o : mm_O) (h' : mm_H), mm_go n y i ls st h = some (o, h') → h.2.1 ≤ h'.2.1 ∧ h.2.2.1 ≤ h'.2.2.1 ∧ h'.2.2.2 = h.2.2.2 := by
  intro n
  induction n with
  | zero => intro y i ls st h o h' hr; cases hr
  | succ n ih =>
    intro y i ls st h o h' hr
    unfold mm_go mm_run at hr
    split at hr
    · cases hr
    · rename_i pc op a b hc
      split at hr
      · split at hr
        · split at hr
          · exact ih _ _ _ _ _ _ _ hr
          · cases hr
        · split at hr
          · cases hr
          · rename_i ls1 st1 h1 j hop
            obtain ⟨a1, a2, a3⟩ := mm_op_mono hop
            obtain ⟨b1, b2, b3⟩ := ih _ _ _ _ _ _ _ hr
            exact ⟨Nat.le_trans a1 b1, Nat.le_trans a2 b2, b3.trans a3⟩
      · split at hr
        · split at hr
          · cases hr; exact ⟨Nat.le_refl _, Nat.le_refl _, rfl⟩
          · cases hr
        · split at hr
          · split at hr
            · split at hr
              · cases hr; exact ⟨Nat.le_refl _, Nat.le_refl _, rfl⟩
              · cases hr
            · cases hr
          · split at hr
            · split at hr
              · cases hr; exact ⟨Nat.le_refl _, Nat.le_refl _, rfl⟩
              · cases hr
            · split at hr
              · split at hr
                · cases hr; exact ⟨Nat.le_refl _, Nat.le_refl _, rfl⟩
                · cases hr
              · split at hr
                · split at hr
                  · cases hr; exact ⟨Nat.le_succ _, Nat.le_add_right _ _, rfl⟩
                  · cases hr
                · split at hr
                  · dsimp only at hr
                    split at hr
                    · split at hr
                      · cases hr
                      · rename_i v h1 hcal
                        obtain ⟨a1, a2, a3⟩ := ih _ _ _ _ _ _ _ hcal
                        obtain ⟨b1, b2, b3⟩ := ih _ _ _ _ _ _ _ hr
                        exact ⟨Nat.le_trans a1 b1, Nat.le_trans a2 b2, b3.trans a3⟩
                      · rename_i E h1 hcal
                        split at hr
                        · cases hr
                        · split at hr
                          · cases hr
                            exact ih _ _ _ _ _ _ _ hcal
                          · split at hr
                            · cases hr
                              exact ih _ _ _ _ _ _ _ hcal
                            · cases hr
                    · cases hr
                  · cases hr
variable {p : Program} {l : Launch} {e : Env} {R : Room} {s : State} {m : MethodId} {args : Array Value} {below : List Frame} {meth : Method} {c : Code} {H : Heap} {locs : List Loc} {cells slots : Nat} {Q : State → Prop}
variable {g : mm_G} {D : va_G} {y i pc op a : Nat} {b : Int} {ls ls' : mm_F} {st st' : List mm_V} {h h' : mm_H} {j : Option Nat} {rls : Array Slot} {n0 s0 L : Nat} {xs : Nat → Int32}
theorem mm_step (hc : mm_code y i = some (pc, (op, (a, b)))) (h60 : op < 60) (h56 : ¬ op = 56) (hop : mm_op mm_fld op a b ls st h = some (ls', (st', (h', j)))) (X : mm_X y l p R s m args meth c) (K : mm_K g D L xs s) (hS : va_S (mm_A g) s.heap H locs) (hR : mm_Rl g D h H) (hL : mm_LR g (mm_mL y) ls rls) (hst : ∀ v ∈ st, mm_ok v) (hcc : cells + n0 = h.2.1) (hss : slots + s0 = h.2.2.1) (hsc : h.2.2.2 = mm_scr L xs) (hz0 : s.heap.size ≤ g.2.1 + n0) (rc : h'.2.1 ≤ R.cells + n0) (rs : h'.2.2.1 ≤ R.slots + s0)
    (kk : mm_KK p l e R s m args below meth c Q g D y n0 s0 L xs (mm_nx y (j.getD (i + 1))) ls' st' h') : W p l e R s m args below meth c H locs cells slots Q (F0 m pc rls (st.map (mm_up g.1 g.2.1))) := by
  have ho : op = 0 ∨ op = 1 ∨ op = 2 ∨ op = 3 ∨ op = 4 ∨ op = 5 ∨ op = 6 ∨ op = 7 ∨ op = 8 ∨ op = 9 ∨ op = 10 ∨ op = 11 ∨ op = 12 ∨ op = 13 ∨ op = 14 ∨ op = 15 ∨ op = 16 ∨ op = 17 ∨ op = 18 ∨ op = 19 ∨ op = 20 ∨ op = 21 ∨ op = 22 ∨ op = 23 ∨ op = 24 ∨ op = 25 ∨ op = 26 ∨ op = 27 ∨ op = 28 ∨ op = 29 ∨ op = 30 ∨ op = 31 ∨ op = 32 ∨ op = 33 ∨ op = 34 ∨ op = 35 ∨ op = 36 ∨ op = 37 ∨ op = 38 ∨ op = 39 ∨ op = 40 ∨ op = 41 ∨ op = 42 ∨ op = 43 ∨ op = 44 ∨ op = 45 ∨ op = 46 ∨ op = 47 ∨ op = 48 ∨ op = 49 ∨ op = 50 ∨ op = 51 ∨ op = 52 ∨ op = 53 ∨ op = 54 ∨ op = 55 ∨ op = 57 ∨ op = 58 ∨ op = 59 := by omega
  rcases ho with rfl | rfl | rfl | rfl | rfl | rfl | rfl | rfl | rfl | rfl | rfl | rfl | rfl | rfl | rfl | rfl | rfl | rfl | rfl | rfl | rfl | rfl | rfl | rfl | rfl | rfl | rfl | rfl | rfl | rfl | rfl | rfl | rfl | rfl | rfl | rfl | rfl | rfl | rfl | rfl | rfl | rfl | rfl | rfl | rfl | rfl | rfl | rfl | rfl | rfl | rfl | rfl | rfl | rfl | rfl | rfl | rfl | rfl | rfl
  · exact mm_step_iconst hc hop X K hS hR hL hst hcc hss hsc hz0 rc rs kk
  · exact mm_step_bipush hc hop X K hS hR hL hst hcc hss hsc hz0 rc rs kk
  · exact mm_step_sipush hc hop X K hS hR hL hst hcc hss hsc hz0 rc rs kk
  · exact mm_step_iload_n hc hop X K hS hR hL hst hcc hss hsc hz0 rc rs kk
  · exact mm_step_iload hc hop X K hS hR hL hst hcc hss hsc hz0 rc rs kk
  · exact mm_step_aload_n hc hop X K hS hR hL hst hcc hss hsc hz0 rc rs kk
  · exact mm_step_aload hc hop X K hS hR hL hst hcc hss hsc hz0 rc rs kk
  · exact mm_step_istore_n hc hop X K hS hR hL hst hcc hss hsc hz0 rc rs kk
  · exact mm_step_istore hc hop X K hS hR hL hst hcc hss hsc hz0 rc rs kk
  · exact mm_step_astore_n hc hop X K hS hR hL hst hcc hss hsc hz0 rc rs kk
  · exact mm_step_astore hc hop X K hS hR hL hst hcc hss hsc hz0 rc rs kk
  · exact mm_step_iadd hc hop X K hS hR hL hst hcc hss hsc hz0 rc rs kk
  · exact mm_step_isub hc hop X K hS hR hL hst hcc hss hsc hz0 rc rs kk
  · exact mm_step_imul hc hop X K hS hR hL hst hcc hss hsc hz0 rc rs kk
  · exact mm_step_idiv hc hop X K hS hR hL hst hcc hss hsc hz0 rc rs kk
  · exact mm_step_irem hc hop X K hS hR hL hst hcc hss hsc hz0 rc rs kk
  · exact mm_step_ishl hc hop X K hS hR hL hst hcc hss hsc hz0 rc rs kk
  · exact mm_step_ishr hc hop X K hS hR hL hst hcc hss hsc hz0 rc rs kk
  · exact mm_step_iand hc hop X K hS hR hL hst hcc hss hsc hz0 rc rs kk
  · exact mm_step_ior hc hop X K hS hR hL hst hcc hss hsc hz0 rc rs kk
  · exact mm_step_iinc hc hop X K hS hR hL hst hcc hss hsc hz0 rc rs kk
  · exact mm_step_dup hc hop X K hS hR hL hst hcc hss hsc hz0 rc rs kk
  · exact mm_step_dup2 hc hop X K hS hR hL hst hcc hss hsc hz0 rc rs kk
  · exact mm_step_pop hc hop X K hS hR hL hst hcc hss hsc hz0 rc rs kk
  · exact mm_step_goto hc hop X K hS hR hL hst hcc hss hsc hz0 rc rs kk
  · exact mm_step_if_eq hc hop X K hS hR hL hst hcc hss hsc hz0 rc rs kk
  · exact mm_step_if_ne hc hop X K hS hR hL hst hcc hss hsc hz0 rc rs kk
  · exact mm_step_if_lt hc hop X K hS hR hL hst hcc hss hsc hz0 rc rs kk
  · exact mm_step_if_ge hc hop X K hS hR hL hst hcc hss hsc hz0 rc rs kk
  · exact mm_step_if_gt hc hop X K hS hR hL hst hcc hss hsc hz0 rc rs kk
  · exact mm_step_if_le hc hop X K hS hR hL hst hcc hss hsc hz0 rc rs kk
  · exact mm_step_icmp_eq hc hop X K hS hR hL hst hcc hss hsc hz0 rc rs kk
  · exact mm_step_icmp_ne hc hop X K hS hR hL hst hcc hss hsc hz0 rc rs kk
  · exact mm_step_icmp_lt hc hop X K hS hR hL hst hcc hss hsc hz0 rc rs kk
  · exact mm_step_icmp_ge hc hop X K hS hR hL hst hcc hss hsc hz0 rc rs kk
  · exact mm_step_icmp_gt hc hop X K hS hR hL hst hcc hss hsc hz0 rc rs kk
  · exact mm_step_icmp_le hc hop X K hS hR hL hst hcc hss hsc hz0 rc rs kk
  · exact mm_step_ifnull hc hop X K hS hR hL hst hcc hss hsc hz0 rc rs kk
  · exact mm_step_ifnonnull hc hop X K hS hR hL hst hcc hss hsc hz0 rc rs kk
  · exact mm_step_aconst_null hc hop X K hS hR hL hst hcc hss hsc hz0 rc rs kk
  · exact mm_step_getfield hc hop X K hS hR hL hst hcc hss hsc hz0 rc rs kk
  · exact mm_step_putfield hc hop X K hS hR hL hst hcc hss hsc hz0 rc rs kk
  · exact mm_step_putfieldF hc hop X K hS hR hL hst hcc hss hsc hz0 rc rs kk
  · exact mm_step_iaload hc hop X K hS hR hL hst hcc hss hsc hz0 rc rs kk
  · exact mm_step_iastore hc hop X K hS hR hL hst hcc hss hsc hz0 rc rs kk
  · cases hop
  · cases hop
  · exact mm_step_aaload hc hop X K hS hR hL hst hcc hss hsc hz0 rc rs kk
  · exact mm_step_aastore hc hop X K hS hR hL hst hcc hss hsc hz0 rc rs kk
  · exact mm_step_arraylength hc hop X K hS hR hL hst hcc hss hsc hz0 rc rs kk
  · exact mm_step_new hc hop X K hS hR hL hst hcc hss hsc hz0 rc rs kk
  · exact mm_step_newarray hc hop X K hS hR hL hst hcc hss hsc hz0 rc rs kk
  · cases hop
  · exact mm_step_anewarray hc hop X K hS hR hL hst hcc hss hsc hz0 rc rs kk
  · cases hop
  · exact mm_step_ldc hc hop X K hS hR hL hst hcc hss hsc hz0 rc rs kk
  · exact mm_step_objInit hc hop X K hS hR hL hst hcc hss hsc hz0 rc rs kk
  · exact mm_step_mmax hc hop X K hS hR hL hst hcc hss hsc hz0 rc rs kk
  · exact mm_step_mmin hc hop X K hS hR hL hst hcc hss hsc hz0 rc rs kk
end MMO
end
section
section MMC
variable {p : Program} {l : Launch} {e : Env} {R : Room} {s : State} {m : MethodId} {args : Array Value} {below : List Frame} {meth : Method} {c : Code} {H : Heap} {locs : List Loc} {cells slots : Nat} {Q : State → Prop}
variable {g : mm_G} {D : va_G} {y i pc op a : Nat} {b : Int} {ls ls' : mm_F} {st st' : List mm_V} {h h' : mm_H} {j : Option Nat} {rls : Array Slot} {n0 s0 L : Nat} {xs : Nat → Int32}
/-- a method's start and ends -/
def mm_Pc (g : mm_G) (D : va_G) (L : Nat) (xs : Nat → Int32) (av : List mm_V) (h : mm_H) : Array Value → State → Prop := fun v U => v = (av.map (mm_up g.1 g.2.1)).toArray ∧ mm_Rl g D h U.heap ∧ mm_K g D L xs U ∧ U.heap.size ≤ g.2.1 + h.2.1
def mm_Qc (g : mm_G) (D : va_G) (o : mm_O) (h' : mm_H) : Array Value → State → Outcome → State → Prop := fun _ st oc t => (∃ v : Option mm_V, o = .inl v ∧ oc = .returned (v.map (mm_up g.1 g.2.1)) ∧ mm_Rl g D h' t.heap ∧ ∀ w ∈ v, mm_ok w) ∧ va_F (mm_A g) st t
def mm_XC (g : mm_G) (D : va_G) (o : mm_O) (h' : mm_H) : String → State → State → Prop := fun E st t => (∃ k : Nat, o = .inr k ∧ E = mm_en k ∧ k < 3 ∧ mm_Rl g D h' t.heap) ∧ va_F (mm_A g) st t
theorem mm_blind (g : mm_G) (D : va_G) (L : Nat) (xs : Nat → Int32) (av : List mm_V) (h : mm_H) : FrameBlind (mm_Pc g D L xs av h) := fun a U gg mk q =>
  ⟨q.1, q.2.1, mm_K.move (U := U.calling gg mk a) (State.WarmedH.refl U) (Nat.le_refl _) (fun _ _ _ => rfl) q.2.2.1, q.2.2.2⟩
/-- what the run at fuel n says, the machine does -/
def mm_B (l : Launch) (n : Nat) : Prop := ∀ (y i : Nat) (ls : mm_F) (st : List mm_V) (h : mm_H) (o : mm_O) (h' : mm_H), mm_go n y i ls st h = some (o, h') →
  ∀ (p : Program) (e : Env) (R : Room) (s : State) (m : MethodId) (args : Array Value) (below : List Frame) (meth : Method) (c : Code) (g : mm_G) (D : va_G) (n0 s0 L : Nat) (xs : Nat → Int32) (mc ms : Nat),
    mm_X y l p R s m args meth c → mm_K g D L xs s → s.heap.size ≤ g.2.1 + n0 → mc + n0 = h'.2.1 → ms + s0 = h'.2.2.1 → mc ≤ R.cells → ms ≤ R.slots →
    mm_KK p l e R s m args below meth c (vx_MQ below (mm_Qc g D o h') (mm_XC g D o h') args s mc ms (mm_A g)) g D y n0 s0 L xs (mm_nx y i) ls st h
theorem mm_largs : ∀ (vs : List Value) (k i : Nat) (v : Value), (∀ w ∈ vs, w.category = 1) → vs[i]? = some v → (k + i, v) ∈ lv_args k vs
  | [], k, i, v, _, h => by simp at h
  | w :: vs, k, i, v, hc, h => by
    have h1 : ¬ w.category = 2 := by rw [hc w List.mem_cons_self]; decide
    rw [lv_args, if_neg h1]
    cases i with
    | zero =>
      rw [List.getElem?_cons_zero] at h
      cases h
      exact List.mem_cons_self
    | succ i =>
      rw [List.getElem?_cons_succ] at h
      have := mm_largs vs (k + 1) i v (fun x hx => hc x (List.mem_cons_of_mem _ hx)) h
      rw [show k + (i + 1) = k + 1 + i by omega]
      exact List.mem_cons_of_mem _ this
theorem mm_lsl : ∀ (vs : List Value), (∀ w ∈ vs, w.category = 1) → (lg_sl vs).length = vs.length
  | [], _ => rfl
  | w :: vs, hc => by
    have h1 : ¬ w.category = 2 := by rw [hc w List.mem_cons_self]; decide
    have := mm_lsl vs (fun x hx => hc x (List.mem_cons_of_mem _ hx))
    unfold lg_sl at this ⊢
    rw [List.flatMap_cons, if_neg h1, List.length_append, this]
    simp [Nat.add_comm]
theorem mm_cat1 {av : List mm_V} (hv : av.all mm_no2 = true) : ∀ w ∈ av.map (mm_up g.1 g.2.1), w.category = 1 := by
  intro w hw
  obtain ⟨v, hv2, rfl⟩ := List.mem_map.mp hw
  exact mm_cat (List.all_eq_true.mp hv v hv2)
/-- the locals at a method's entry -/
theorem mm_entry {av : List mm_V} {nL : Nat} (hv : av.all mm_no2 = true) (hok : ∀ v ∈ av, mm_ok v) (hl : av.length ≤ nL) :
    mm_LR g nL (av.map some ++ List.replicate (nL - av.length) none) ((lg_sl (av.map (mm_up g.1 g.2.1)) ++ List.replicate (nL - (lg_sl (av.map (mm_up g.1 g.2.1))).length) Slot.unset).toArray) := by
  have hc := mm_cat1 (g := g) hv
  have e1 := mm_lsl _ hc
  have h9 := lv_entry (av.map (mm_up g.1 g.2.1)) (n := nL) (by rw [e1, List.length_map]; exact hl)
  refine ⟨by simp; omega, h9.1, h9.2.1, fun i v hi => ?_⟩
  have hlt : i < av.length := by
    by_cases q : i < av.length
    · exact q
    · rw [List.getElem?_append_right (by rw [List.length_map]; omega), List.getElem?_replicate] at hi
      split at hi <;> cases hi
  rw [List.getElem?_append_left (by rw [List.length_map]; exact hlt), List.getElem?_map] at hi
  obtain ⟨w, hw, e⟩ := Option.map_eq_some_iff.mp hi
  cases e
  have hm := List.mem_of_getElem? hw
  refine ⟨?_, List.all_eq_true.mp hv v hm, hok v hm⟩
  have h8 := mm_largs (av.map (mm_up g.1 g.2.1)) 0 i (mm_up g.1 g.2.1 v) hc (by rw [List.getElem?_map, hw]; rfl)
  rw [Nat.zero_add] at h8
  exact h9.2.2 _ h8
theorem mm_nx0 : ∀ y, y < 85 → mm_nx y 0 = 0 := by decide +kernel
def mm_cw (y : Nat) : Cond := if mm_hh y = [] then Cond.code (mm_yn y) (mm_by y) (mm_mL y) (mm_rt y) else Cond.codeWith (mm_yn y) (mm_by y) (mm_mL y) (mm_rt y) (mm_hh y)
abbrev mm_wy (y : Nat) : List Cond := mm_cw y :: mm_w
theorem mm_cw_in {y : Nat} (hy : y < 84) : mm_cw y ∈ mm_w := by
  unfold mm_cw
  split
  · rename_i q; exact (mm_MA hy).1 q
  · rename_i q; exact (mm_MA hy).2.1 q
theorem mm_wy_good {y : Nat} (hy : y < 84) : GoodIn mm_w (mm_wy y) := fun w hw => (List.mem_cons.mp hw).elim (fun q => mm_ww w (by rw [q]; exact mm_cw_in hy)) (fun q => mm_ww w q)
/-- a method's contract out of its body's run -/
theorem mm_meth {n : Nat} (hB : mm_B l n) (hst : l.stackTraces = false) {av : List mm_V} {o : mm_O} (hy : y < 84) (hrun : mm_go n y 0 (av.map some ++ List.replicate (mm_mL y - av.length) none) [] h = some (o, h')) (hv : av.all mm_no2 = true) (hok : ∀ v ∈ av, mm_ok v) (hl : av.length ≤ mm_mL y) (hsc : h.2.2.2 = mm_scr L xs) {mc ms : Nat} (hmc : mc + h.2.1 = h'.2.1) (hms : ms + h.2.2.1 = h'.2.2.1) :
    vx_Met l (mm_yn y) (mm_wy y) { frames := mm_nF y, cells := mc, slots := ms, locals := mm_nL y } (mm_Pc g D L xs av h) (mm_Qc g D o h') (mm_XC g D o h') mc ms (mm_A g) := by
  obtain ⟨m1, m2, m3, m4, m5, m6, m7, m8⟩ := mm_MA hy
  have main : ∀ (p : Program) (e : Env) (s : State) (m : MethodId) (args : Array Value) (below : List Frame) (meth : Method) (c : Code) (s₁ : State), BodyLoose p l (mm_yn y) (headSpec (mm_wy y) { frames := mm_nF y, cells := mc, slots := ms, locals := mm_nL y }) (mm_by y) (mm_mL y) (mm_rt y) e s m args below meth c s₁ → c.maxLocals = mm_mL y → c.exceptionTable.toList = tableOf (mm_hh y) → mm_Pc g D L xs av h args s →
      W p l e (headSpec (mm_wy y) { frames := mm_nF y, cells := mc, slots := ms, locals := mm_nL y }).room s m args below meth c s.heap [] 0 0 (vx_MQ below (mm_Qc g D o h') (mm_XC g D o h') args s mc ms (mm_A g)) (entryFrame m args (mm_mL y)) := by
    intro p e s m args below meth c s₁ B hml htab hP
    obtain ⟨rfl, hR, K, hz⟩ := hP
    have hts := atoms_spec (ws := mm_wy y) B.pre
    have X : mm_X y l p { frames := mm_nF y, cells := mc, slots := ms, locals := mm_nL y } s m (av.map (mm_up g.1 g.2.1)).toArray meth c :=
      ⟨B.exec, B.bytes, hml, B.returns, B.notSynchronized, (name_of_methodNamed B.named B.method).1, by rw [m5]; exact findClass_of_methodNamed B.named, fun w hw => hts w (List.mem_cons_of_mem _ hw), htab, Nat.le_refl _, Nat.le_refl _, hst⟩
    have k := hB y 0 _ _ h o h' hrun p e { frames := mm_nF y, cells := mc, slots := ms, locals := mm_nL y } s m _ below meth c g D h.2.1 h.2.2.1 L xs mc ms X K hz hmc hms (Nat.le_refl _) (Nat.le_refl _)
    rw [mm_nx0 y (by omega)] at k
    have k2 := k s.heap [] 0 0 _ va_S.rf hR (mm_entry hv hok hl) (fun v hv => by cases hv) (Nat.zero_add _) (Nat.zero_add _) hsc
    rw [lg_entry_eq]
    exact k2
  by_cases q : mm_hh y = []
  · have ecw : mm_cw y = Cond.code (mm_yn y) (mm_by y) (mm_mL y) (mm_rt y) := if_pos q
    refine vx_ofW (cc := mm_by y) (maxL := mm_mL y) (ret := mm_rt y) (ws' := mm_w) m3 (by rw [← ecw]) ?_
    intro p e s m args below meth c s₁ B hml ht hP
    refine main p e s m args below meth c s₁ B hml ?_ hP
    rw [q]
    cases hl9 : c.exceptionTable.toList with
    | nil => rfl
    | cons x t => exact (ht x (by rw [hl9]; exact List.mem_cons_self)).elim
  · have ecw : mm_cw y = Cond.codeWith (mm_yn y) (mm_by y) (mm_mL y) (mm_rt y) (mm_hh y) := if_neg q
    refine vx_ofWH (cc := mm_by y) (maxL := mm_mL y) (ret := mm_rt y) (hh := mm_hh y) (ws' := mm_w) m3 (by rw [← ecw]) ?_
    intro p e s m args below meth c s₁ B hml hP
    refine main p e s m args below meth c s₁ B hml ?_ hP
    refine vx_table (x := mm_yn y) (y := mm_yn y) (bytes := mm_by y) (maxL' := mm_mL y) (ret' := mm_rt y) (hh := mm_hh y) B ?_
    have hts := atoms_spec (ws := mm_wy y) B.pre
    rw [← ecw]
    exact hts _ List.mem_cons_self
/-- behind a call -/
theorem mm_call {o1 : mm_O} {h1 : mm_H} {mc1 ms1 : Nat} {rest st0 : List Value} {av : Array Value} (hr : vx_Run p l e R s m args below meth c H locs cells slots mc1 ms1 (F0 m pc rls st0) rest (mm_Qc g D o1 h1 av) (mm_XC g D o1 h1) (mm_A g)) (hS : va_S (mm_A g) s.heap H locs)
    (kx : ∀ (k q9 : Nat) (ce : Cell) (H1 : Heap) (locs1 : List Loc), o1 = .inr k → k < 3 → va_S (mm_A g) s.heap H1 locs1 → mm_Rl g D h1 H1 → H1[q9]? = some ce → ce.vm = .none → s.vm.findClass (mm_en k) = some ce.cls → vx_W p l e R s m args below meth c H1 locs1 (cells + mc1) (slots + ms1) Q (F0 m pc rls rest) q9)
    (kk : ∀ (v : Option mm_V) (H1 : Heap) (locs1 : List Loc), o1 = .inl v → va_S (mm_A g) s.heap H1 locs1 → mm_Rl g D h1 H1 → (∀ w ∈ v, mm_ok w) → W p l e R s m args below meth c H1 locs1 (cells + mc1) (slots + ms1) Q (F0 m (pc + 3) rls ((v.map (mm_up g.1 g.2.1)).toList ++ rest))) :
    W p l e R s m args below meth c H locs cells slots Q (F0 m pc rls st0) := by
  intro T hT X
  rcases hr T hT X with ⟨v, st₀, t, T', L9, h0, X', hL, e1, e2, ⟨⟨v1, hv1, hv2, hp, hb⟩, hF⟩, st⟩ | ⟨q, st₀, t, T', L9, E, ce, h0, X', hL, e1, e2, ⟨⟨k, hk1, hk2, hk3, hp⟩, hF⟩, hce, hcv, hcl, st⟩
  · cases hv2
    obtain ⟨k1, k2, k3⟩ := vx_keep h0 e1 hS (fun _ _ z => z) (fun _ z => z) hL hF
    obtain ⟨t2, a1, b1⟩ := kk v1 T'.heap (locs ++ L9) hv1 k3 (by rw [e1]; exact hp) hb T' rfl X'
    exact ⟨t2, st t2 a1, b1⟩
  · subst hk2
    obtain ⟨k1, k2, k3⟩ := vx_keep h0 e1 hS (fun _ _ z => z) (fun _ z => z) hL hF
    obtain ⟨t2, a1, b1⟩ := kx k q ce T'.heap (locs ++ L9) hk1 hk3 k3 (by rw [e1]; exact hp) (by rw [e1]; exact hce) hcv hcl T' rfl X'
    exact ⟨t2, st.trans a1, b1⟩
theorem mm_callM {v0 : Option mm_V} {h1 : mm_H} {mc1 ms1 : Nat} {rest st0 : List Value} {av : Array Value} (hr : va_Run p l e R s m args below meth c H locs cells slots mc1 ms1 (F0 m pc rls st0) rest (mm_Qc g D (.inl v0) h1 av) (mm_A g)) (hS : va_S (mm_A g) s.heap H locs)
    (kk : ∀ (H1 : Heap) (locs1 : List Loc), va_S (mm_A g) s.heap H1 locs1 → mm_Rl g D h1 H1 → (∀ w ∈ v0, mm_ok w) → W p l e R s m args below meth c H1 locs1 (cells + mc1) (slots + ms1) Q (F0 m (pc + 3) rls ((v0.map (mm_up g.1 g.2.1)).toList ++ rest))) :
    W p l e R s m args below meth c H locs cells slots Q (F0 m pc rls st0) := by
  intro T hT X
  obtain ⟨v, st₀, t, T', L9, h0, X', hL, e1, e2, ⟨⟨v1, hv1, hv2, hp, hb⟩, hF⟩, st⟩ := hr T hT X
  cases hv1
  cases hv2
  obtain ⟨k1, k2, k3⟩ := vx_keep h0 e1 hS (fun _ _ z => z) (fun _ z => z) hL hF
  obtain ⟨t2, a1, b1⟩ := kk T'.heap (locs ++ L9) k3 (by rw [e1]; exact hp) hb T' rfl X'
  exact ⟨t2, st t2 a1, b1⟩
theorem mm_toMet {ws : List Cond} {rm : Room} {Pc : Array Value → State → Prop} {v0 : Option mm_V} {h1 : mm_H} {mc ms : Nat} {yn : MethodName} (hM : vx_Met l yn ws rm Pc (mm_Qc g D (.inl v0) h1) (mm_XC g D (.inl v0) h1) mc ms (mm_A g)) : Met l yn ws rm Pc (mm_Qc g D (.inl v0) h1) mc ms (mm_A g) := by
  intro p e ha hc hk s m args below hf happ hP hT
  obtain ⟨k, o, z1, z2, z3, hQ⟩ := hM p e ha hc hk s m args below hf happ hP hT
  refine ⟨k, o, z1, z2, z3, ?_⟩
  rcases hQ with hQ | ⟨q, -, E, ce, L9, ⟨⟨k9, hk9, -⟩, -⟩, -⟩
  · exact hQ
  · cases hk9
end MMC
end
section
theorem mm_badT {E : String} : ∀ w ∈ mm_bad E, w.onTables = true := by
  intro w hw
  unfold mm_bad at hw
  rcases List.mem_cons.mp hw with rfl | hw
  · rfl
  rcases List.mem_cons.mp hw with rfl | hw
  · rfl
  rcases List.mem_cons.mp hw with rfl | hw
  · rfl
  rcases List.mem_cons.mp hw with rfl | hw
  · rfl
  cases hw
theorem mm_siteH : ∀ a, a < mm_siteT.length → ((mm_sd a).2.2.2 ≠ 106 → mm_hh (mm_sd a).1.1 = []) ∧ ((mm_sd a).2.2.2 = 106 → mm_own (mm_sd a).1.1 = (mm_sd a).2.1) ∧ (mm_sd a).1.1 < 84 := by decide +kernel
theorem mm_handA : ∀ y E z, mm_hand y E = some z → ((y, E), z) ∈ mm_handT := by
  intro y E z h
  unfold mm_hand at h
  exact List.lookup_eq_some_iff.mp h |>.elim (fun l1 h2 => by obtain ⟨l2, h3, -⟩ := h2; rw [h3]; simp)
section MMM
variable {p : Program} {l : Launch} {e : Env} {R : Room} {s : State} {m : MethodId} {args : Array Value} {below : List Frame} {meth : Method} {c : Code} {H : Heap} {locs : List Loc} {cells slots : Nat} {Q : State → Prop}
variable {g : mm_G} {D : va_G} {y i pc op a : Nat} {b : Int} {ls ls' : mm_F} {st st' : List mm_V} {h h' : mm_H} {j : Option Nat} {rls : Array Slot} {n0 s0 L : Nat} {xs : Nat → Int32}
/-- the rows that end a method -/
theorem mm_end {mc ms : Nat} {o : mm_O} (hc : mm_code y i = some (pc, (op, (a, b)))) (X : mm_X y l p R s m args meth c) (K : mm_K g D L xs s) (hS : va_S (mm_A g) s.heap H locs) (hR : mm_Rl g D h H) (hL : mm_LR g (mm_mL y) ls rls) (hst : ∀ v ∈ st, mm_ok v) (hmc : cells = mc) (hms : slots = ms)
    (ho : (op = 100 ∧ ∃ z, st = [.inl z] ∧ o = .inl (some (mm_I z))) ∨ (op = 101 ∧ ∃ z, st = [.inl z] ∧ (z = 0 ∨ z = 1) ∧ o = .inl (some (mm_I z))) ∨ (op = 102 ∧ ∃ r, st = [.inr (.inr (some r))] ∧ o = .inl (some (mm_P r))) ∨ (op = 103 ∧ st = [] ∧ o = .inl none)) :
    W p l e R s m args below meth c H locs cells slots (vx_MQ below (mm_Qc g D o h) (mm_XC g D o h) args s mc ms (mm_A g)) (F0 m pc rls (st.map (mm_up g.1 g.2.1))) := by
  subst hmc; subst hms
  obtain ⟨hx, hb, hml, hr, hlk, hnm, hown, hts, htab, hnF, hnL, htr⟩ := X
  rcases ho with ⟨rfl, z, rfl, rfl⟩ | ⟨rfl, z, rfl, hz, rfl⟩ | ⟨rfl, r, rfl, rfl⟩ | ⟨rfl, rfl, rfl⟩
  · obtain ⟨hd, -, -, -, -, -, -, -, h100, -⟩ := mm_okB_dec hc (by decide)
    exact vx_ret (W.iret (v := Int32.ofInt z) hx hb (hr.trans (h100 rfl)) (fun t ht hW => ⟨⟨some (mm_I z), rfl, rfl, by rw [ht]; exact hR, fun w hw => by cases hw; exact hst _ List.mem_cons_self⟩, hS.F ht⟩) hS.2.2 hd hlk)
  · obtain ⟨hd, -, -, -, -, -, -, -, -, h101, -⟩ := mm_okB_dec hc (by decide)
    exact vx_ret (W.zret (v := Int32.ofInt z) hx hb (hr.trans (h101 rfl)) (by rcases hz with rfl | rfl <;> rfl) (fun t ht hW => ⟨⟨some (mm_I z), rfl, rfl, by rw [ht]; exact hR, fun w hw => by cases hw; exact hst _ List.mem_cons_self⟩, hS.F ht⟩) hS.2.2 hd hlk)
  · obtain ⟨hd, -, -, -, -, -, -, -, -, -, h102, -⟩ := mm_okB_dec hc (by decide)
    exact vx_ret (W.aret (v := .ref (mm_ad g.1 g.2.1 r)) hx hb (hr.trans (h102 rfl)) (Or.inl ⟨_, rfl⟩) (Or.inr ⟨_, rfl⟩) (fun t ht hW => ⟨⟨some (mm_P r), rfl, rfl, by rw [ht]; exact hR, fun w hw => by cases hw; trivial⟩, hS.F ht⟩) hS.2.2 hd hlk)
  · obtain ⟨hd, -, -, -, -, -, -, -, -, -, -, h103⟩ := mm_okB_dec hc (by decide)
    exact vx_ret (W.vret hx hb (hr.trans (h103 rfl)) (fun t ht hW => ⟨⟨none, rfl, rfl, by rw [ht]; exact hR, fun w hw => by cases hw⟩, hS.F ht⟩) hS.2.2 hd hlk)
theorem mm_thr {mc ms : Nat} (hc : mm_code y i = some (pc, (104, (a, b)))) (X : mm_X y l p R s m args meth c) (K : mm_K g D L xs s) (hS : va_S (mm_A g) s.heap H locs) (hR : mm_Rl g D h H) (hL : mm_LR g (mm_mL y) ls rls) (hmc : cells + 1 = mc) (hms : slots + 6 = ms) (rc : mc ≤ R.cells) (rs : ms ≤ R.slots) {t4 : Nat × (Nat × List Int)} (ht4 : t4.2.2 = h.2.2.2) :
    W p l e R s m args below meth c H locs cells slots (vx_MQ below (mm_Qc g D (.inr b.toNat) (h.1, t4)) (mm_XC g D (.inr b.toNat) (h.1, t4)) args s mc ms (mm_A g)) (F0 m pc rls []) := by
  subst hmc; subst hms
  obtain ⟨hx, hb, hml, hr, hlk, hnm, hown, hts, htab, hnF, hnL, htr⟩ := X
  obtain ⟨hd, -, -, -, -, -, -, h104, -⟩ := mm_okB_dec hc (by decide)
  obtain ⟨q1, q2, q3, q4, q5, q6, d3, d4, d6, d9⟩ := h104 rfl
  obtain ⟨t1, t2, t3, t5, t6, t7, t8⟩ := mm_TA q3
  obtain ⟨K1, K2, K3, K4, K5, K6, K7, K8, K9, K10, K11, K12⟩ := K
  obtain ⟨sa, hsa⟩ := K4 a q3
  rw [q4] at hown
  refine vx_throwS (A := mm_A g) (own := RX4) (cls := mm_en (mm_th a).2.2.2.1) (text := (mm_th a).2.2.2.2) (names := mm_nms) (ik := (mm_th a).1) (is := (mm_th a).2.1) (ic := (mm_th a).2.2.1) (sa := sa) hx hb htr hown t8 mm_fitN (hts _ t2) (hts _ t3) hsa (vx_hat (fun w hw => hts w (t5 w hw)) t6 (fun w hw => va_Nw.use (mm_badT w hw) (K5 _ t1 w hw))) t7 K2 K3 hS (by rw [hL.2.1, hml]) hd d3 d4 d6 d9 ?_ (by show 2 + 3 < R.frames; omega) (by show 0 + (13 * (2 + 1) + 43) ≤ R.locals; omega) rc rs hlk ?_ hS.2.2 (Nat.le_refl _) (Nat.le_refl _)
  · intro x hx9
    rw [htab, q6] at hx9
    cases hx9
  · intro t ha hz hq
    refine ⟨⟨b.toNat, rfl, by rw [q5], by rw [← q5]; exact t1, ?_⟩, ?_⟩
    · refine ⟨hR.1.kept (fun k q hk => hq _ (hR.1 k q hk).lt), hR.2.1, hR.2.2.1, by show ∀ z ∈ t4.2.2, mm_rng z; rw [ht4]; exact hR.2.2.2⟩
    · exact ⟨Nat.le_trans hS.1 hz, fun q h1 h2 => (hq q (Nat.lt_of_lt_of_le h1 hS.1)).trans (hS.2.1 q h1 h2)⟩
/-- a call, whatever the callee does -/
theorem mm_callA {n : Nat} (hB : mm_B l n) {o1 : mm_O} {h1 : mm_H} (h105 : 105 ≤ op ∧ op ≤ 108) (hc : mm_code y i = some (pc, (op, (a, b)))) (X : mm_X y l p R s m args meth c) (K : mm_K g D L xs s) (hz0 : s.heap.size ≤ g.2.1 + n0) (hS : va_S (mm_A g) s.heap H locs) (hR : mm_Rl g D h H) (hL : mm_LR g (mm_mL y) ls rls) (hst : ∀ v ∈ st, mm_ok v) (hcc : cells + n0 = h.2.1) (hss : slots + s0 = h.2.2.1) (hsc : h.2.2.2 = mm_scr L xs)
    (hg : (mm_site a).2.1 ≤ st.length ∧ (st.drop (mm_site a).2.1).length ≤ 4 ∧ ((st.take (mm_site a).2.1).reverse).all mm_no2 = true ∧ (mm_site a).2.1 ≤ (mm_site a).2.2.1 ∧ mm_rcv (mm_site a).2.2.2 (st.take (mm_site a).2.1).reverse h = true)
    (hrun : mm_go n (mm_site a).1 0 ((st.take (mm_site a).2.1).reverse.map some ++ List.replicate ((mm_site a).2.2.1 - (mm_site a).2.1) none) [] h = some (o1, h1)) (h107 : op = 107 ∨ op = 108 → ∃ v, o1 = .inl v) (rc : h1.2.1 ≤ R.cells + n0) (rs : h1.2.2.1 ≤ R.slots + s0)
    (kx : ∀ (k q9 : Nat) (ce : Cell) (H1 : Heap) (locs1 : List Loc) (cells1 slots1 : Nat), o1 = .inr k → k < 3 → cells1 + n0 = h1.2.1 → slots1 + s0 = h1.2.2.1 → va_S (mm_A g) s.heap H1 locs1 → mm_Rl g D h1 H1 → H1[q9]? = some ce → ce.vm = .none → s.vm.findClass (mm_en k) = some ce.cls → vx_W p l e R s m args below meth c H1 locs1 cells1 slots1 Q (F0 m pc rls ((st.drop (mm_site a).2.1).map (mm_up g.1 g.2.1))) q9)
    (kk : ∀ v : Option mm_V, o1 = .inl v → mm_KK p l e R s m args below meth c Q g D y n0 s0 L xs (mm_nx y (i + 1)) ls (v.toList ++ st.drop (mm_site a).2.1) h1) :
    W p l e R s m args below meth c H locs cells slots Q (F0 m pc rls (st.map (mm_up g.1 g.2.1))) := by
  obtain ⟨hx, hb, hml, hr, hlk, hnm, hown, hts, htab, hnF, hnL, htr⟩ := id X
  obtain ⟨hd, hn, -, -, -, hsite, -⟩ := mm_okB_dec hc (by omega)
  have hn := hn (by omega)
  obtain ⟨s1, s2, s3, s4, s5⟩ := hsite h105
  obtain ⟨t1, t2, t3, t4, t5, t6, t7, t8, t9⟩ := mm_SA s3
  obtain ⟨u1, u2, u3⟩ := mm_siteH a s3
  obtain ⟨m1, m2, m3, m4, m5, m6, m7, m8⟩ := mm_MA u3
  obtain ⟨g1, g2, g3, g4, g5⟩ := hg
  obtain ⟨mo1, mo2, mo3⟩ := mm_mono _ _ _ _ _ _ _ _ hrun
  obtain ⟨mc1, hmc1⟩ : ∃ z, z + h.2.1 = h1.2.1 := ⟨h1.2.1 - h.2.1, by omega⟩
  obtain ⟨ms1, hms1⟩ : ∃ z, z + h.2.2.1 = h1.2.2.1 := ⟨h1.2.2.1 - h.2.2.1, by omega⟩
  obtain ⟨av, hav⟩ : ∃ z, z = (st.take (mm_site a).2.1).reverse := ⟨_, rfl⟩
  obtain ⟨rest, hrest⟩ : ∃ z, z = st.drop (mm_site a).2.1 := ⟨_, rfl⟩
  rw [← hav] at g3 g5 hrun
  rw [← hrest] at g2 kk kx
  have est : st = av.reverse ++ rest := by rw [hav, hrest, List.reverse_reverse, List.take_append_drop]
  have hlen : av.length = (mm_site a).2.1 := by rw [hav, List.length_reverse, List.length_take]; omega
  have hoka : ∀ v ∈ av, mm_ok v := fun v hv => hst v (by rw [est]; exact List.mem_append_left _ (List.mem_reverse.mpr hv))
  have hokr : ∀ v ∈ rest, mm_ok v := fun v hv => hst v (by rw [est]; exact List.mem_append_right _ hv)
  rw [← hlen, show (mm_site a).2.2.1 = mm_mL (mm_sd a).1.1 from t2] at hrun
  have hM := mm_meth (g := g) (D := D) (L := L) (xs := xs) hB htr u3 hrun g3 hoka (by rw [hlen]; rw [show (mm_site a).2.2.1 = mm_mL (mm_sd a).1.1 from t2] at g4; exact g4) hsc hmc1 hms1
  have hcat : 2 * (F0 m pc rls (st.map (mm_up g.1 g.2.1))).monitorRoom + ((rest.map (mm_up g.1 g.2.1)).map fun v => v.category).sum ≤ 8 := lv_room (by have := mm_catS (b := g.1) (b0 := g.2.1) rest; omega)
  have hRm : mm_nF (mm_sd a).1.1 + 1 ≤ R.frames ∧ 8 + (mm_mL (mm_sd a).1.1 + 11) + mm_nL (mm_sd a).1.1 ≤ R.locals := ⟨by omega, by omega⟩
  have hsz9 : rls.size = mm_mL y := hL.2.1
  have hGw := mm_wy_good u3
  rw [s1] at t4
  have hcode : mm_hh (mm_sd a).1.1 = [] → mm_cw (mm_sd a).1.1 = Cond.code (mm_yn (mm_sd a).1.1) (mm_by (mm_sd a).1.1) (mm_mL (mm_sd a).1.1) (mm_rt (mm_sd a).1.1) := fun q => if_pos q
  have hkk2 : ∀ (v : Option mm_V) (H1 : Heap) (locs1 : List Loc), o1 = .inl v → va_S (mm_A g) s.heap H1 locs1 → mm_Rl g D h1 H1 → (∀ w ∈ v, mm_ok w) → W p l e R s m args below meth c H1 locs1 (cells + mc1) (slots + ms1) Q (F0 m (pc + 3) rls ((v.map (mm_up g.1 g.2.1)).toList ++ rest.map (mm_up g.1 g.2.1))) := by
    intro v H1 locs1 ho hS1 hR1 hv
    have k := kk v ho H1 locs1 (cells + mc1) (slots + ms1) rls hS1 hR1 hL (fun w hw => (List.mem_append.mp hw).elim (fun q => hv w (Option.mem_toList.mp q)) (hokr w)) (by omega) (by omega) (mo3.trans hsc)
    have e3 : (mm_ins op a b).2 = 3 := by
      rcases (show op = 105 ∨ op = 106 ∨ op = 107 ∨ op = 108 by omega) with rfl | rfl | rfl | rfl <;> rfl
    rw [hn, e3, List.map_append] at k
    have e4 : v.toList.map (mm_up g.1 g.2.1) = (v.map (mm_up g.1 g.2.1)).toList := by cases v <;> rfl
    rw [e4] at k
    exact k
  have hkx2 : ∀ (k q9 : Nat) (ce : Cell) (H1 : Heap) (locs1 : List Loc), o1 = .inr k → k < 3 → va_S (mm_A g) s.heap H1 locs1 → mm_Rl g D h1 H1 → H1[q9]? = some ce → ce.vm = .none → s.vm.findClass (mm_en k) = some ce.cls → vx_W p l e R s m args below meth c H1 locs1 (cells + mc1) (slots + ms1) Q (F0 m pc rls (rest.map (mm_up g.1 g.2.1))) q9 :=
    fun k q9 ce H1 locs1 z1 z2 z3 z4 z5 z6 z7 => kx k q9 ce H1 locs1 _ _ z1 z2 (by omega) (by omega) z3 z4 z5 z6 z7
  have hfit : cells + mc1 ≤ R.cells ∧ slots + ms1 ≤ R.slots := ⟨by omega, by omega⟩
  refine mm_size (fun hsz => ?_)
  have hPc : ∀ U : State, U.heap = H → s.WarmedH U.vm → mm_Pc g D L xs av h (av.map (mm_up g.1 g.2.1)).toArray U := fun U hU hW =>
    ⟨rfl, by rw [hU]; exact hR, mm_K.move hW (by rw [hU]; exact hS.1) (fun q h1 h2 => by rw [hU]; exact hS.2.1 q h1 h2) K, by rw [hU]; omega⟩
  have hdesc := t3
  rcases (show op = 105 ∨ op = 106 ∨ op = 107 ∨ op = 108 by omega) with rfl | rfl | rfl | rfl
  · -- invokevirtual
    obtain ⟨v1, v2, v3, v4⟩ := t5 (Or.inl s2)
    have hnil := u1 (by rw [s2]; decide)
    rw [s2, if_pos (Or.inl rfl)] at hdesc
    have hlk := t4 (by rw [s2]; decide)
    have hsel := t7 s2
    cases av with
    | nil => rw [← hlen] at v2; cases v2
    | cons rv As =>
      rw [show (mm_site a).2.2.2 = 10 + mm_own (mm_sd a).1.1 from v3] at g5
      unfold mm_rcv at g5
      rw [if_neg (by omega)] at g5
      split at g5
      · rename_i r As2 heq
        cases heq
        replace g5 := of_decide_eq_true g5
        obtain ⟨c9, hc9, e9⟩ := Option.map_eq_some_iff.mp g5
        obtain ⟨kd9, lv9⟩ := c9
        have e9 : kd9 = 10 + mm_own (mm_sd a).1.1 := e9
        subst e9
        have he := mm_ws_at g hc9
        rw [mm_ent_o] at he
        have hr9 := (hR.okl hc9).1
        obtain ⟨cc1, cc2, cc3, cc4, cc5, cc6, cc7⟩ := mm_CA _ v4
        have hrec := va_recv K.1 hR.1 cc1 he
        rw [cc7, m5] at hrec
        have eadr : mm_ad g.1 g.2.1 r = g.2.1 + r := mm_ad_lt (by omega)
        have hstk : st.map (mm_up g.1 g.2.1) = (As.map (mm_up g.1 g.2.1)).reverse ++ .ref (g.2.1 + r) :: rest.map (mm_up g.1 g.2.1) := by
          rw [est, List.map_append, List.reverse_cons, List.map_append, List.map_reverse, List.append_assoc, ← eadr]
          rfl
        have earr : ((.inr (.inr (some r)) :: As).map (mm_up g.1 g.2.1)).toArray = (Value.ref (g.2.1 + r) :: As.map (mm_up g.1 g.2.1)).toArray := by
          rw [List.map_cons, ← eadr]; rfl
        refine mm_call (st0 := st.map (mm_up g.1 g.2.1)) (rest := rest.map (mm_up g.1 g.2.1)) (vx_runV (C := (mm_yn (mm_sd a).1.1).cls) (n := As.length) (As := As.map (mm_up g.1 g.2.1)) (b := g.2.1 + r) (Ts := mm_w) (own := mm_cn (mm_own y)) (nL := mm_mL y) (bytes := mm_by (mm_sd a).1.1) (maxL := mm_mL (mm_sd a).1.1) (ret := mm_rt (mm_sd a).1.1) ⟨hx, hb, hml, hown, hts⟩ hM (cwV As.length hts ?_ (congrArg (fun x => x :: mm_w) (hcode hnil)) rfl rfl ⟨rfl, m6, m7, ?_⟩ hRm) ⟨mm_blind g D L xs _ h, hrec, ?_⟩ rfl (List.length_map _) hsz9 hstk hcat hd hfit) hS hkx2 hkk2
        · intro w hw
          unfold wsV at hw
          rcases List.mem_append.mp hw with hw | hw
          · simp only [List.mem_cons, List.not_mem_nil, or_false] at hw
            rcases hw with rfl | rfl | rfl | rfl
            · exact mm_ww _ hlk
            · exact mm_ww _ v1
            · exact mm_ww _ hsel
            · exact mm_ww _ m4
          · exact hGw w hw
        · rw [hdesc]; congr 1; rw [← hlen]; rfl
        · rw [← earr]; exact hPc
      · cases g5
  · -- invokestatic
    have hst9 := t6 (Or.inl s2)
    have hlk := t4 (by rw [s2]; decide)
    rw [s2, if_neg (by decide), Nat.sub_zero] at hdesc
    have hown9 := u2 s2
    have hstk : st.map (mm_up g.1 g.2.1) = (av.map (mm_up g.1 g.2.1)).reverse ++ rest.map (mm_up g.1 g.2.1) := by
      rw [est, List.map_append, List.map_reverse]
    have ecls : (mm_yn (mm_sd a).1.1).cls = mm_cn (mm_own y) := by rw [← m5, hown9, s1]
    by_cases hnil : mm_hh (mm_sd a).1.1 = []
    · refine mm_call (st0 := st.map (mm_up g.1 g.2.1)) (rest := rest.map (mm_up g.1 g.2.1)) (vx_runS (n := av.length) (As := av.map (mm_up g.1 g.2.1)) (Ts := mm_w) (own := mm_cn (mm_own y)) (nL := mm_mL y) (bytes := mm_by (mm_sd a).1.1) (maxL := mm_mL (mm_sd a).1.1) (ret := mm_rt (mm_sd a).1.1) ⟨hx, hb, hml, hown, hts⟩ hM (cwS av.length hts ?_ (congrArg (fun x => x :: mm_w) (hcode hnil)) rfl rfl ⟨ecls, m6, m7, ?_⟩ hRm) ⟨mm_blind g D L xs _ h, hPc⟩ rfl (List.length_map _) hsz9 hstk hcat hd hfit) hS hkx2 hkk2
      · intro w hw
        unfold wsS at hw
        rcases List.mem_append.mp hw with hw | hw
        · simp only [List.mem_cons, List.not_mem_nil, or_false] at hw
          rcases hw with rfl | rfl | rfl
          · exact mm_ww _ hlk
          · exact mm_ww _ hst9
          · rw [← ecls]; exact mm_ww _ m4
        · exact hGw w hw
      · rw [hdesc, hlen]
    · have ecw : mm_cw (mm_sd a).1.1 = Cond.codeWith (mm_yn (mm_sd a).1.1) (mm_by (mm_sd a).1.1) (mm_mL (mm_sd a).1.1) (mm_rt (mm_sd a).1.1) (mm_hh (mm_sd a).1.1) := if_neg hnil
      refine mm_call (st0 := st.map (mm_up g.1 g.2.1)) (rest := rest.map (mm_up g.1 g.2.1)) (vx_runSX (n := av.length) (As := av.map (mm_up g.1 g.2.1)) (Ts := mm_w) (own := mm_cn (mm_own y)) (nL := mm_mL y) (bytes := mm_by (mm_sd a).1.1) (maxL := mm_mL (mm_sd a).1.1) (ret := mm_rt (mm_sd a).1.1) (hh := mm_hh (mm_sd a).1.1) ⟨hx, hb, hml, hown, hts⟩ hM (vx_cwSW av.length hts ?_ (congrArg (fun x => x :: mm_w) ecw) rfl rfl ⟨m6, m7, ?_⟩ hRm) ⟨mm_blind g D L xs _ h, hPc⟩ rfl (List.length_map _) hsz9 hstk hcat hd hfit) hS hkx2 hkk2
      · intro w hw
        unfold va_wsS at hw
        rcases List.mem_append.mp hw with hw | hw
        · simp only [List.mem_cons, List.not_mem_nil, or_false] at hw
          rcases hw with rfl | rfl | rfl
          · exact mm_ww _ hlk
          · exact mm_ww _ hst9
          · exact mm_ww _ m4
        · exact hGw w hw
      · rw [hdesc, hlen]
  · -- invokestatic, a nest mate's
    have hst9 := t6 (Or.inr s2)
    rw [s2, if_neg (by decide), Nat.sub_zero] at hdesc
    have hnil := (t9 s2).1
    have hyn := (t9 s2).2
    have hstk : st.map (mm_up g.1 g.2.1) = (av.map (mm_up g.1 g.2.1)).reverse ++ rest.map (mm_up g.1 g.2.1) := by
      rw [est, List.map_append, List.map_reverse]
    obtain ⟨v0, rfl⟩ := h107 (Or.inl rfl)
    have hnw := K.2.2.2.2.2.2.1 _ (mm_nestA a s3 s2)
    dsimp only at hnw
    rw [← hyn, s1] at hnw
    exact mm_callM (st0 := st.map (mm_up g.1 g.2.1)) (rest := rest.map (mm_up g.1 g.2.1)) (va_runSN (n := av.length) (As := av.map (mm_up g.1 g.2.1)) (Ts := mm_w) (own := mm_cn (mm_own y)) (host := RX4) (nL := mm_mL y) (bytes := mm_by (mm_sd a).1.1) (maxL := mm_mL (mm_sd a).1.1) (ret := mm_rt (mm_sd a).1.1) ⟨hx, hb, hml, hown, hts⟩ (mm_toMet hM) ⟨va_cnB av.length hts hGw (congrArg (fun x => x :: mm_w) (hcode hnil)) rfl rfl hnw (hts _ m4) ⟨m6, m7, by rw [hdesc, hlen]⟩ hRm, hts _ hst9, trivial⟩ ⟨mm_blind g D L xs _ h, hPc⟩ rfl (List.length_map _) hsz9 hstk hcat hd hfit) hS (fun H1 locs1 => hkk2 v0 H1 locs1 rfl)
  · -- invokespecial
    obtain ⟨v1, v2, v3, v4⟩ := t5 (Or.inr s2)
    obtain ⟨w1, w2, hnil⟩ := t8 s2
    rw [s2, if_pos (Or.inr rfl)] at hdesc
    have hlk := t4 (by rw [s2]; decide)
    obtain ⟨v0, rfl⟩ := h107 (Or.inr rfl)
    cases av with
    | nil => rw [← hlen] at v2; cases v2
    | cons rv As =>
      rw [show (mm_site a).2.2.2 = 10 + mm_own (mm_sd a).1.1 from v3] at g5
      unfold mm_rcv at g5
      rw [if_neg (by omega)] at g5
      split at g5
      · rename_i r As2 heq
        cases heq
        replace g5 := of_decide_eq_true g5
        obtain ⟨c9, hc9, e9⟩ := Option.map_eq_some_iff.mp g5
        have hr9 := (hR.okl hc9).1
        have eadr : mm_ad g.1 g.2.1 r = g.2.1 + r := mm_ad_lt (by omega)
        have hstk : st.map (mm_up g.1 g.2.1) = (As.map (mm_up g.1 g.2.1)).reverse ++ .ref (g.2.1 + r) :: rest.map (mm_up g.1 g.2.1) := by
          rw [est, List.map_append, List.reverse_cons, List.map_append, List.map_reverse, List.append_assoc, ← eadr]
          rfl
        have earr : ((.inr (.inr (some r)) :: As).map (mm_up g.1 g.2.1)).toArray = (Value.ref (g.2.1 + r) :: As.map (mm_up g.1 g.2.1)).toArray := by
          rw [List.map_cons, ← eadr]; rfl
        exact mm_callM (st0 := st.map (mm_up g.1 g.2.1)) (rest := rest.map (mm_up g.1 g.2.1)) (va_runI (n := As.length) (As := As.map (mm_up g.1 g.2.1)) (b := g.2.1 + r) (Ts := mm_w) (own := mm_cn (mm_own y)) (nL := mm_mL y) (bytes := mm_by (mm_sd a).1.1) (maxL := mm_mL (mm_sd a).1.1) ⟨hx, hb, hml, hown, hts⟩ (mm_toMet hM) (cwI As.length hts hGw (congrArg (fun x => x :: mm_w) ((hcode hnil).trans (by rw [w2]))) rfl rfl (hts _ m4) (hts _ hlk) (hts _ v1) w1 ⟨m6, m7, by rw [hdesc]; congr 1; rw [← hlen]; rfl⟩ hRm) ⟨mm_blind g D L xs _ h, by rw [← earr]; exact hPc⟩ rfl (List.length_map _) hsz9 hstk hcat hd hfit) hS (fun H1 locs1 => hkk2 v0 H1 locs1 rfl)
      · cases g5
end MMM
end
section
section MMB
variable {l : Launch}
theorem mm_hnoH {y : Nat} (h : mm_noH y = true) : mm_hh y = [] := by
  unfold mm_noH at h
  exact List.isEmpty_iff.mp h
theorem mm_hp0 {y i pc op a : Nat} {b : Int} {E : Nat} {z : Int} (hc : mm_code y i = some (pc, (op, (a, b)))) (h105 : 105 ≤ op ∧ op ≤ 108) (hh : mm_hand y E = some z) : mm_okH y pc E z := by
  have hm := mm_handA y E z hh
  have h1 := mm_HA0 _ hm
  have h2 := mm_hpA y (mm_hyA _ hm)
  have h3 : pc = mm_hpc y := by
    unfold mm_code at hc
    cases hy : mm_codeT[y]? with
    | none => rw [hy] at hc; cases hc
    | some l9 =>
      rw [hy] at hc
      have e : mm_codeT.getD y [] = l9 := by rw [List.getD_eq_getElem?_getD, hy]; rfl
      rw [e] at h2
      exact of_decide_eq_true (List.all_eq_true.mp h2 _ (List.mem_of_getElem? hc)) h105
  rw [h3]
  exact h1
theorem mm_no0 : mm_codeT.all (fun l => l.all (fun q => decide (q.2.1 < 60 ∨ 100 ≤ q.2.1))) = true := by decide +kernel
theorem mm_noop {y i pc op a : Nat} {b : Int} (h : mm_code y i = some (pc, (op, (a, b)))) (h1 : ¬ op < 60) (h2 : op < 100) : False := by
  unfold mm_code at h
  cases hy : mm_codeT[y]? with
  | none => rw [hy] at h; cases h
  | some l =>
    rw [hy] at h
    have h3 := of_decide_eq_true (List.all_eq_true.mp (List.all_eq_true.mp mm_no0 l (List.mem_of_getElem? hy)) _ (List.mem_of_getElem? h))
    dsimp only at h3
    omega
theorem mm_no560 : mm_codeT.all (fun l => l.all (fun q => decide (q.2.1 ≠ 56))) = true := by decide +kernel
theorem mm_no56 {y i pc op a : Nat} {b : Int} (h : mm_code y i = some (pc, (op, (a, b)))) : op ≠ 56 := by
  unfold mm_code at h
  cases hy : mm_codeT[y]? with
  | none => rw [hy] at h; cases h
  | some l =>
    rw [hy] at h
    exact of_decide_eq_true (List.all_eq_true.mp (List.all_eq_true.mp mm_no560 l (List.mem_of_getElem? hy)) _ (List.mem_of_getElem? h))
theorem mm_all (n : Nat) : mm_B l n := by
  induction n with
  | zero => intro y i ls st h o h' hr; cases hr
  | succ n ih =>
    intro y i ls st h o h' hr p e R s m args below meth c g D n0 s0 L xs mc ms X K hz0 hmc hms rc rs H locs cells slots rls hS hR hL hst hcc hss hsc
    obtain ⟨mo1, mo2, mo3⟩ := mm_mono _ _ _ _ _ _ _ _ hr
    unfold mm_go mm_run at hr
    cases hc : mm_code y i with
    | none => rw [hc] at hr; cases hr
    | some q =>
      obtain ⟨pc, op, a, b⟩ := q
      have epc : mm_nx y i = pc := by unfold mm_nx; rw [hc]
      rw [epc]
      rw [hc] at hr
      dsimp only at hr
      by_cases h60 : op < 60
      · rw [if_pos h60] at hr
        by_cases h56 : op = 56
        · rw [if_pos h56] at hr
          subst h56
          exact absurd rfl (mm_no56 hc)
        · rw [if_neg h56] at hr
          split at hr
          · cases hr
          · rename_i ls1 st1 h1 j hop
            obtain ⟨a1, a2, a3⟩ := mm_op_mono hop
            obtain ⟨b1, b2, b3⟩ := mm_mono _ _ _ _ _ _ _ _ hr
            exact mm_step hc h60 h56 hop X K hS hR hL hst hcc hss hsc hz0 (by omega) (by omega) (ih _ _ _ _ _ _ _ hr p e R s m args below meth c g D n0 s0 L xs mc ms X K hz0 hmc hms rc rs)
      · rw [if_neg h60] at hr
        by_cases h100 : op = 100
        · rw [if_pos h100] at hr
          split at hr
          · rename_i z
            cases hr
            exact mm_end hc X K hS hR hL hst (by omega) (by omega) (Or.inl ⟨h100, z, rfl, rfl⟩)
          · cases hr
        · rw [if_neg h100] at hr
          by_cases h101 : op = 101
          · rw [if_pos h101] at hr
            split at hr
            · rename_i z
              split at hr
              · rename_i hz
                cases hr
                exact mm_end hc X K hS hR hL hst (by omega) (by omega) (Or.inr (Or.inl ⟨h101, z, rfl, hz, rfl⟩))
              · cases hr
            · cases hr
          · rw [if_neg h101] at hr
            by_cases h102 : op = 102
            · rw [if_pos h102] at hr
              split at hr
              · rename_i r
                cases hr
                exact mm_end hc X K hS hR hL hst (by omega) (by omega) (Or.inr (Or.inr (Or.inl ⟨h102, r, rfl, rfl⟩)))
              · cases hr
            · rw [if_neg h102] at hr
              by_cases h103 : op = 103
              · rw [if_pos h103] at hr
                split at hr
                · cases hr
                  exact mm_end hc X K hS hR hL hst (by omega) (by omega) (Or.inr (Or.inr (Or.inr ⟨h103, rfl, rfl⟩)))
                · cases hr
              · rw [if_neg h103] at hr
                by_cases h104 : op = 104
                · rw [if_pos h104] at hr
                  subst h104
                  split at hr
                  · cases hr
                    dsimp only at hmc hms
                    exact mm_thr hc X K hS hR hL (by omega) (by omega) rc rs rfl
                  · cases hr
                · rw [if_neg h104] at hr
                  by_cases h109 : op < 109
                  · rw [if_pos h109] at hr
                    try dsimp only at hr
                    split at hr
                    · rename_i hg
                      have h105 : 105 ≤ op ∧ op ≤ 108 := by
                        refine ⟨?_, by omega⟩
                        by_cases q : 105 ≤ op
                        · exact q
                        · exfalso
                          have hlt : op < 100 := by omega
                          exact mm_noop hc h60 hlt
                      split at hr
                      · cases hr
                      · rename_i v h1 hcal
                        obtain ⟨b1, b2, b3⟩ := mm_mono _ _ _ _ _ _ _ _ hr
                        refine mm_callA ih h105 hc X K hz0 hS hR hL hst hcc hss hsc hg hcal (fun _ => ⟨v, rfl⟩) (by omega) (by omega) (fun k q9 ce H1 locs1 c1 s1 hk => by cases hk) (fun v2 hv2 => ?_)
                        cases hv2
                        exact ih _ _ _ _ _ _ _ hr p e R s m args below meth c g D n0 s0 L xs mc ms X K hz0 hmc hms rc rs
                      · rename_i E h1 hcal
                        by_cases h107 : op = 107 ∨ op = 108
                        · rw [if_pos h107] at hr
                          cases hr
                        · rw [if_neg h107] at hr
                          cases hh : mm_hand y E with
                          | some z =>
                            have hh9 : mm_hand y E = none := rfl
                            rw [hh9] at hh
                            cases hh
                          | none =>
                            rw [hh] at hr
                            dsimp only at hr
                            split at hr
                            · rename_i hno
                              cases hr
                              refine mm_callA ih h105 hc X K hz0 hS hR hL hst hcc hss hsc hg hcal (fun q => absurd q h107) (by omega) (by omega) (fun k q9 ce H1 locs1 c1 s1 hk hk3 hc1 hs1 hS1 hR1 hq1 hq2 hq3 => ?_) (fun v2 hv2 => by cases hv2)
                              cases hk
                              obtain ⟨hx, hb, hml, hr9, hlk, hnm, hown, hts, htab, hnF, hnL, htr⟩ := id X
                              refine vx_out (fun x hx9 => ?_) hlk hq1 hq2 hq3 (fun t ht ha => ⟨⟨E, rfl, rfl, hk3, by rw [ht]; exact hR1⟩, hS1.F ht⟩) hS1.2.2 (by omega) (by omega)
                              rw [htab, mm_hnoH hno] at hx9
                              cases hx9
                            · cases hr
                    · cases hr
                  · rw [if_neg h109] at hr
                    cases hr
end MMB
end
section
def R_law : String := "SuffixWrightLaw"
def lw_P (b : Addr) (xs : List Int32) (args : Array Value) (s : State) : Prop := args = #[.ref b] ∧ s.IntsAt b xs ∧ xs.length ≤ 260 ∧ (Jvm.Cond.and given_1 narrow_1).before args s = true
def lw_Q (_ : Array Value) (s : State) (o : Outcome) (t : State) : Prop := o = .returned (some (.int 1)) ∧ Framed s o t [] 600130 7301079
def lw_Z (below : List Frame) (a : Array Value) (s : State) : State → Prop := fun t => ∃ o, t.status = .running ∧ Ended t below o ∧ lw_Q a s o t
/-- the law's own end, with 1 on the stack, nothing written that was there before, its room as the claim has it -/
theorem lw_ret {p : Program} {l : Launch} {e : Env} {s : State} {m : MethodId} {below : List Frame} {meth : Method} {c : Code} {b : Nat} (hx : p.tables.exec = Jvm.exec) (hb : c.code = code) (hr : meth.sig.returnType = ret) (hlocks : meth.locks = false) {pc : Nat} {H : Heap} {ls : Array Slot} (hdg : decode code pc = .ok (.ireturn, 1)) : W p l e room_1 s m #[Value.ref b] below meth c H [] 600130 7301079 (lw_Z below #[Value.ref b] s) (F0 m pc ls [.int 1]) := by
  intro T hT X
  obtain ⟨fs, hret, hrun, hended, hW, hframe⟩ := X.leave (v := some (.int 1)) (hlocks := hlocks) (fun h => by rw [hr] at h; cases h)
  have hmeth' : T.vm.method? m = some meth := X.method'
  refine ⟨T.setFrames fs, ?_, .returned (some (.int 1)), hrun, hended, rfl, ⟨_, rfl⟩, hW, hframe⟩
  jvm_step X.here [X.here.top, hx, hb, hdg, hmeth', hr, ret, narrow_b1]
  (try refine ⟨rfl, ?_⟩); (try refine ⟨rfl, ?_⟩)
  first | (intro acts; rw [hret _ acts rfl rfl rfl]) | rw [hret _ _ rfl rfl rfl]
  exact Steps.refl _
/-- what holds at the law's entry: the machine, the code, the tables' words (any of lw_tbl by 'hts w (by decide +kernel)'), the script of L ints xs at the cell b, what the Statement gives of the start (any of its parts by flat_of_before) -/
def lw_At (p : Program) (s : State) (m : MethodId) (meth : Method) (c : Code) (b L : Nat) (xs : Nat → Int32) : Prop :=
  p.tables.exec = Jvm.exec ∧ c.code = code ∧ meth.sig.returnType = ret ∧ c.maxLocals = 6 ∧ s.vm.findClass R_law = some m.cls ∧ (∀ w ∈ lw_tbl, w.before #[Value.ref b] s = true) ∧ va_X b L xs s s.heap ∧ b < s.heap.size ∧ meth.locks = false ∧ (Jvm.Cond.and given_1 narrow_1).before #[Value.ref b] s = true
theorem mm_insA : ∀ ci, ci < 5 → Cond.instantiable (mm_cl ci).1 (mm_cl ci).2.2 ∈ mm_w := lt_s (lt_s (lt_s (lt_s (lt_s lt_0 ((mm_NA (2, 50, 9, 0) (by decide)).1 rfl).2.2.1) ((mm_NA (0, 50, 9, 1) (by decide)).1 rfl).2.2.1) ((mm_NA (4, 50, 22, 2) (by decide)).1 rfl).2.2.1) ((mm_NA (4, 50, 9, 3) (by decide)).1 rfl).2.2.1) ((mm_NA (6, 50, 11, 4) (by decide)).1 rfl).2.2.1
/-- THE PURE CLAIM: the law's run, in MM -/
def mm_LAW : Prop := ∀ scr : List Int, scr.length ≤ 260 → (∀ z ∈ scr, mm_rng z) → ∃ (n : Nat) (h' : mm_H), mm_go n 84 0 ([mm_P 999].map some ++ List.replicate (6 - [mm_P 999].length) none) [] ([], (0, (0, 0 :: scr))) = some (.inl (some (mm_I 1)), h') ∧ h'.2.1 ≤ 600130 ∧ h'.2.2.1 ≤ 7301079
theorem mm_forget {s t : State} {Ls : List Loc} {mc ms k n : Nat} (h : s.sameButNew ({ t with vm := s.vm } : State) Ls mc ms) (hL : ∀ q ∈ Ls, s.heap.size ≤ q.base) (h1 : mc ≤ k) (h2 : ms ≤ n) : s.sameButNew ({ t with vm := s.vm } : State) [] k n := by
  obtain ⟨e1, e2, e3, e4, e5, e6⟩ := h
  refine ⟨e1, e2, by omega, e4, by omega, fun a c hc => ?_⟩
  obtain ⟨c', q1, q2, q3, q4⟩ := e6 a c hc
  refine ⟨c', q1, q2, q3, fun i _ => q4 i (fun hm => ?_)⟩
  have h3 := hL _ hm
  have h4 : a < s.heap.size := (Array.getElem?_eq_some_iff.mp hc).1
  have h5 : s.heap.size ≤ a := h3
  exact Nat.not_lt.mpr h5 h4
set_option maxHeartbeats 4000000 in
theorem whole_start (hLAW : mm_LAW) {p : Program} {e : Env} {s : State} {m : MethodId} {below : List Frame} {meth : Method} {c : Code} (l : Launch) (hflags : l.flags = flags0) {b L : Nat} {xs : Nat → Int32} (hL : L ≤ 260) (C0 : lw_At p s m meth c b L xs) (hname : meth.name = "law") (htab : c.exceptionTable.toList = []) : W p l e room_1 s m #[Value.ref b] below meth c s.heap [] 0 0 (lw_Z below #[Value.ref b] s) (entryFrame m ([Value.ref b] : List Value).toArray 6) := by
  obtain ⟨hx, hb, hr, hml, hown, hts, hX, hbl, hlocks, hgv⟩ := id C0
  have htr : l.stackTraces = false := by
    rw [Launch.stackTraces, hflags]
    decide +kernel
  have htw : ∀ w ∈ mm_w, w.before #[Value.ref b] s = true := fun w hw => hts w (List.mem_filter.mp hw).1
  have hfl := flat_of_before _ hgv
  have hC : ∀ ci, ∃ (cC : ClassId) (iS : Nat → Nat), ci < 5 → u_Kn s (mm_cl ci).1 (mm_cl ci).2.1 (mm_cl ci).2.2 cC iS := by
    intro ci
    by_cases h6 : ci < 5
    · obtain ⟨cC, iS, hK⟩ := u_known (C := (mm_cl ci).1) (T := (mm_cl ci).2.1) (N := (mm_cl ci).2.2) (n := (mm_cl ci).2.2) htw (mm_CA ci h6).2.1 (htw _ (mm_insA ci h6))
      exact ⟨cC, iS, fun _ => hK⟩
    · exact ⟨m.cls, fun _ => 0, fun h => absurd h h6⟩
  obtain ⟨D, hD⟩ : ∃ D : va_G, ∀ (k : Nat) (q : vw_C), vwCl[k]? = some q → u_Kn s q.1 q.2.1 q.2.2 (D.1 k) (D.2 k) := by
    refine ⟨(fun k => Classical.choose (hC k), fun k => Classical.choose (Classical.choose_spec (hC k))), fun k q hq => ?_⟩
    have h6 : k < 5 := (List.getElem?_eq_some_iff.mp hq).1
    have e1 := (mm_CA k h6).1
    have e2 : q = mm_cl k := Option.some.inj (hq.symm.trans e1)
    rw [e2]
    exact Classical.choose_spec (Classical.choose_spec (hC k)) h6
  obtain ⟨cI, kI, cpI, i1, i2, i3⟩ := Cond.arrayClass_spec (htw _ mm_wAr)
  obtain ⟨cL, kL, cpL, l1, l2, l3⟩ := Cond.arrayClass_spec (htw _ mm_wAr)
  obtain ⟨cpW, cW, kW, w1, w2, w3, w4, w5⟩ := Cond.arrayOver_spec (hts _ mm_aoW)
  have hKt : va_K D vwCl (mm_tys (b, (s.heap.size, (cI, (cL, cW))))) s := by
    refine ⟨hD, fun k q hq => ?_⟩
    match k, hq with
    | 0, hq => cases hq; exact ⟨fun n z => ⟨fun k h => (by cases h), kI, i2, cpI, i3⟩, i1⟩
    | 1, hq => cases hq; exact ⟨fun n z => ⟨fun k h => (by cases h), kL, l2, cpL, l3⟩, l1⟩
    | 2, hq => cases hq; exact ⟨fun n z => ⟨fun k h => (by cases h), kW, w3, cpW, w4⟩, kW, cpW, w3, w4, w1, w5⟩
    | k + 3, hq => simp [mm_tys] at hq
  have hnA : ∀ a : Nat, a < s.heap.size → ¬ mm_A (b, (s.heap.size, (cI, (cL, cW)))) a := fun a ha => Nat.not_le.mpr ha
  have hini : (Cond.initialized Bundle.tN).before #[Value.ref b] s = true := hts _ (List.mem_of_getElem? (i := 22) (by decide +kernel))
  have K : mm_K (b, (s.heap.size, (cI, (cL, cW)))) D L xs s := by
    refine ⟨hKt, vx_Zqof (hts _ (List.mem_of_getElem? (i := 245) (by decide +kernel))) hini (hfl _ (by decide +kernel)) hnA, vx_Zqof (hts _ (List.mem_of_getElem? (i := 247) (by decide +kernel))) hini (hfl _ (by decide +kernel)) hnA, fun a ha => ?_, fun E hE w hw => ?_, ?_, fun q hq => va_Nw.of rfl (hts _ (mm_nestW q hq)), va_AO.of (hts _ mm_aoW), hX, hbl, Nat.le_refl _, hL⟩
    · have h1 := hts _ (mm_strA ha)
      have h0 : ∃ cur, s.vm.findClass RX4 = some cur := ⟨_, (hD 4 _ rfl).2.1⟩
      obtain ⟨cur, hcur⟩ := h0
      obtain ⟨-, -, -, sa, -, -, -, -, -, hev⟩ := Cond.stringRef_spec hcur h1
      exact ⟨sa, vk_R.of h1 hev⟩
    · refine va_Nw.of (mm_badT w hw) (hts _ ?_)
      unfold mm_bad at hw
      rcases List.mem_cons.mp hw with rfl | hw
      · exact mm_castW E hE
      rcases List.mem_cons.mp hw with rfl | hw
      · exact mm_decW0
      rcases List.mem_cons.mp hw with rfl | hw
      · exact mm_decW1
      rcases List.mem_cons.mp hw with rfl | hw
      · exact mm_decW2
      cases hw
    · trivial
  obtain ⟨n, h', hrun, hc1, hc2⟩ := hLAW ((List.range L).map fun j => (xs j).toInt) (by rw [List.length_map, List.length_range]; exact hL) (fun z hz => by
    obtain ⟨j, -, rfl⟩ := List.mem_map.mp hz
    exact mm_rT _)
  have X : mm_X 84 l p room_1 s m #[Value.ref b] meth c := ⟨hx, hb, hml, hr, hlocks, hname, hown, htw, htab, by decide +kernel, by decide +kernel, htr⟩
  have hsr : ∀ z ∈ mm_scr L xs, mm_rng z := by
    intro z hz
    unfold mm_scr at hz
    rcases List.mem_cons.mp hz with rfl | hz
    · exact mm_rng0
    obtain ⟨j, -, rfl⟩ := List.mem_map.mp hz
    exact mm_rT _
  have hR0 : mm_Rl (b, (s.heap.size, (cI, (cL, cW)))) D ([], (0, (0, mm_scr L xs))) s.heap := ⟨fun k q hk => by simp [mm_ws] at hk, Nat.zero_le _, (fun c hc => absurd hc List.not_mem_nil), hsr⟩
  have hok0 : ∀ v ∈ [mm_P 999], mm_ok v := by
    intro v hv
    rcases List.mem_cons.mp hv with rfl | hv
    · trivial
    · cases hv
  have k := mm_all n 84 0 _ _ _ _ h' hrun p e room_1 s m #[Value.ref b] below meth c (b, (s.heap.size, (cI, (cL, cW)))) D 0 0 L xs h'.2.1 h'.2.2.1 X K (Nat.le_refl _) rfl rfl hc1 hc2 s.heap [] 0 0 _ va_S.rf hR0 (mm_entry (nL := 6) (av := [mm_P 999]) rfl hok0 (by decide)) (fun v hv => by cases hv) rfl rfl rfl
  rw [mm_nx0 84 (by decide)] at k
  rw [lg_entry_eq]
  intro T hT X9
  obtain ⟨t, a1, o, b1, b2, b3⟩ := k T hT X9
  refine ⟨t, a1, o, b1, b2, ?_⟩
  rcases b3 with ⟨⟨⟨v, hv, ho, -, -⟩, -⟩, Ls, ⟨f1, f2, f3⟩, hLs⟩ | ⟨q, -, E, ce, L9, ⟨⟨k9, hk9, -⟩, -⟩, -⟩
  · cases hv
    exact ⟨ho, f1, f2, mm_forget f3 (fun q hq => hLs q hq) hc1 hc2⟩
  · cases hk9
end
section
set_option maxHeartbeats 4000000 in
theorem lw_walk (hLAW : mm_LAW) (l : Launch) (hflags : l.flags = flags0) (b : Addr) (xs : List Int32) : MetFree l x (headSpec (Jvm.Cond.code x code maxLocals ret :: tables_1) room_1) (lw_P b xs) (fun _ _ _ _ _ => True) lw_Q := by
  refine MetFree.of_bodyS (code := code) (maxLocals := maxLocals) (ret := ret) (by decide) ?_ ?_
  · intro args s m h hn
    obtain ⟨meth, c, h1, h2, h3, h4, h5, h6, -, -⟩ := Cond.code_spec hn (atoms_spec (ws := Jvm.Cond.code x code maxLocals ret :: tables_1) h _ List.mem_cons_self)
    exact ⟨meth, c, h1, h2, h3, h4, h5, h6⟩
  · intro p e s m args below meth c s₁ B hml0 hP _
    obtain ⟨rfl, hx, hbd, hgv⟩ := hP
    obtain ⟨scr, harrAt, hlist, hof, hsmall⟩ := hx
    obtain ⟨hcb, hkn, -, -⟩ := State.arrayAt?_spec harrAt
    have hown : s.vm.findClass R_law = some m.cls := findClass_of_methodNamed B.named
    have hts0 : ∀ c ∈ (Jvm.Cond.code x code maxLocals ret :: tables_1), c.before #[Value.ref b] s = true := atoms_spec (ws := Jvm.Cond.code x code maxLocals ret :: tables_1) B.pre
    have hts : ∀ w ∈ lw_tbl, w.before #[Value.ref b] s = true := k2_hts_sels lw_privs (fun w hw => hts0 w (List.mem_cons_of_mem _ hw)) lw_privs_ok
    have hml : c.maxLocals = 6 := B.maxLocals_eq (hts0 _ List.mem_cons_self)
    have htab : c.exceptionTable.toList = [] := by
      obtain ⟨meth9, c9, h1, h2, -, -, -, -, h7, -⟩ := Cond.code_spec B.named (hts0 _ List.mem_cons_self)
      cases Option.some.inj (h1.symm.trans B.method)
      cases Option.some.inj (h2.symm.trans (Stand.of_body B).code)
      exact Array.isEmpty_iff.mp h7 ▸ rfl
    have X₀ : Stand p l e room_1 s m #[Value.ref b] below meth c s₁ [] 0 0 := Stand.of_body B
    have hh0 : s₁.heap = s.heap := by rw [B.state]; rfl
    have hsz : scr.slots.size = xs.length := by rw [← Array.length_toList, hlist, List.length_map]
    have hval : ∀ j : Nat, j < xs.length → scr.slots[j]? = some (.int (xs.getD j 0)) := fun j hj => by
      rw [← Array.getElem?_toList, hlist]
      simp [hj]
    have hbl : b < s.heap.size := (Array.getElem?_eq_some_iff.mp hcb).1
    have hX : va_X b xs.length (fun j => xs.getD j 0) s s.heap := ⟨scr, hcb, hof, hkn, hsz, hval⟩
    have K : W p l e room_1 s m #[Value.ref b] below meth c s₁.heap [] 0 0 (lw_Z below #[Value.ref b] s) (entryFrame m ([Value.ref b] : List Value).toArray 6) := by
      rw [hh0]
      exact whole_start hLAW l hflags hbd ⟨B.exec, B.bytes, B.returns, hml, hown, hts, hX, hbl, B.notSynchronized, hgv⟩ (name_of_methodNamed B.named B.method).1 htab
    obtain ⟨t, a1, o, b1, b2, b3⟩ := K s₁ rfl X₀
    exact ⟨t, o, a1, b1, b2, b3⟩
theorem lw_pre_spec {args : Array Value} {s : State} (h : (Jvm.Cond.and given_1 narrow_1).before args s = true) (hr : rest_1_c.before args s = true) : ∃ (b : Addr) (xs : List Int32), lw_P b xs args s := by
  have hs := flat_of_before _ h
  have hq := flat_of_before _ hr
  have hc : (Cond.count 1).before args s = true := hs _ (by decide +kernel)
  have harr : (Cond.arrayOf (.arg 0) .int).before args s = true := hs _ (by decide +kernel)
  have hle : (Cond.le (.length (.arg 0)) (.int 260)).before args s = true := hs _ (by decide +kernel)
  have hlen : (Cond.isInt (.length (.arg 0))).before args s = true := hq _ (by decide +kernel)
  have hall : (Cond.all (.arg 0) (.isInt (.elem (.arg 0) (.index 0)))).before args s = true := hq _ (by decide +kernel)
  obtain ⟨b, xs, hb, hx⟩ := State.ints_of_pre rfl harr hlen hall
  have hsm : xs.length < 2 ^ 31 := hx.choose_spec.2.2.2
  have hev : (Term.length (.arg 0)).eval args s none [] s = some (.int xs.length.toInt32) := hx.length_eval hb
  have hv := Cond.le_ints hev (show (Term.int 260).eval args s none [] s = some (.int 260) from rfl)
  have hd : xs.length.toInt32 ≤ 260 := by
    simpa [Cond.before, Cond.holds, hv] using hle
  have hN : xs.length ≤ 260 := (Int32.ofNat_le_ofNat hsm (by decide)).mp (show Int32.ofNat xs.length ≤ Int32.ofNat 260 from hd)
  exact ⟨b, xs, Cond.one_arg hc (show args[0]? = some (.ref b) from hb), hx, hN, h⟩
theorem lw_comes (hLAW : mm_LAW) (l : Launch) (hflags : l.flags = flags0) : Comes l x (Jvm.Cond.code x code maxLocals ret :: tables_1) room_1 (fun tb e args s => Calls_1 tb e args s ∧ rest_1 tb e args s ∧ Pre_1 tb e args s)
    (fun _ _ args s o t => lw_Q args s o t) := by
  intro p e ha hc hk s m args below hf hfit hheap happ hpre
  obtain ⟨b, xs, hP⟩ := lw_pre_spec hpre.2.2 hpre.2.1
  obtain ⟨k, o, h1, h2, h3, hQ⟩ := lw_walk hLAW l hflags b xs p e ha hc hk s m args below hf ((Spec.applies_iff_loose hf).mp happ).1 hP trivial
  exact ⟨k, o, h1, h2, h3, hQ⟩
theorem lw_frame {s t : State} {o : Outcome} {args : Array Value} (h : Framed s o t [] 600130 7301079) :
    Framed s o t (fieldLocs frame_1_writes args s ++ arrayLocs frame_1_arrays args s ++ staticLocs frame_1_statics s) 600130 7301079 := h
theorem lw_limb (hLAW : mm_LAW) (L : Cond) (hL : ∀ (args : Array Value) (s t : State), L.after args s (.returned (some (.int 1))) t = true) :
    ArmFor flags0 classFile x code maxLocals ret World_1 tables_1 room_1 Calls_1 rest_1 Pre_1
      (fun tb e a s o t => postC L tb e a s o t ∧ Framed s o t (fieldLocs frame_1_writes a s ++ arrayLocs frame_1_arrays a s ++ staticLocs frame_1_statics s) 600130 7301079) := by
  intro l hflags _ _ p e ha hc hk s m args below hf hfit hheap happ hpre
  obtain ⟨k, o, h1, h2, h3, rfl, hF⟩ := lw_comes hLAW l hflags p e ha hc hk s m args below hf hfit hheap happ hpre
  exact ⟨k, _, h1, h2, h3, hL args s _, lw_frame hF⟩
end
section
/-! printed by wip/whole/gen19.py: each row of each method -/
theorem mc_0_0 : mm_code 0 0 = some (0, (5, (0, 0))) := by decide +kernel
theorem mc_0_1 : mm_code 0 1 = some (1, (57, (3, 0))) := by decide +kernel
theorem mc_0_2 : mm_code 0 2 = some (4, (5, (0, 0))) := by decide +kernel
theorem mc_0_3 : mm_code 0 3 = some (5, (50, (9, 1))) := by decide +kernel
theorem mc_0_4 : mm_code 0 4 = some (8, (21, (0, 0))) := by decide +kernel
theorem mc_0_5 : mm_code 0 5 = some (9, (108, (0, 0))) := by decide +kernel
theorem mc_0_6 : mm_code 0 6 = some (12, (42, (0, 0))) := by decide +kernel
theorem mc_0_7 : mm_code 0 7 = some (15, (5, (0, 0))) := by decide +kernel
theorem mc_0_8 : mm_code 0 8 = some (16, (2, (0, 5226))) := by decide +kernel
theorem mc_0_9 : mm_code 0 9 = some (19, (51, (0, 0))) := by decide +kernel
theorem mc_0_10 : mm_code 0 10 = some (21, (42, (1, 0))) := by decide +kernel
theorem mc_0_11 : mm_code 0 11 = some (24, (5, (0, 0))) := by decide +kernel
theorem mc_0_12 : mm_code 0 12 = some (25, (2, (0, 201))) := by decide +kernel
theorem mc_0_13 : mm_code 0 13 = some (28, (51, (0, 0))) := by decide +kernel
theorem mc_0_14 : mm_code 0 14 = some (30, (42, (2, 0))) := by decide +kernel
theorem mc_0_15 : mm_code 0 15 = some (33, (5, (0, 0))) := by decide +kernel
theorem mc_0_16 : mm_code 0 16 = some (34, (2, (0, 201))) := by decide +kernel
theorem mc_0_17 : mm_code 0 17 = some (37, (51, (0, 0))) := by decide +kernel
theorem mc_0_18 : mm_code 0 18 = some (39, (42, (3, 0))) := by decide +kernel
theorem mc_0_19 : mm_code 0 19 = some (42, (5, (0, 0))) := by decide +kernel
theorem mc_0_20 : mm_code 0 20 = some (43, (2, (0, 201))) := by decide +kernel
theorem mc_0_21 : mm_code 0 21 = some (46, (51, (0, 0))) := by decide +kernel
theorem mc_0_22 : mm_code 0 22 = some (48, (42, (4, 0))) := by decide +kernel
theorem mc_0_23 : mm_code 0 23 = some (51, (5, (0, 0))) := by decide +kernel
theorem mc_0_24 : mm_code 0 24 = some (52, (0, (0, 4))) := by decide +kernel
theorem mc_0_25 : mm_code 0 25 = some (53, (51, (0, 0))) := by decide +kernel
theorem mc_0_26 : mm_code 0 26 = some (55, (42, (5, 0))) := by decide +kernel
theorem mc_0_27 : mm_code 0 27 = some (58, (5, (0, 0))) := by decide +kernel
theorem mc_0_28 : mm_code 0 28 = some (59, (105, (1, 0))) := by decide +kernel
theorem mc_0_29 : mm_code 0 29 = some (62, (103, (0, 0))) := by decide +kernel
theorem mc_1_0 : mm_code 1 0 = some (0, (5, (0, 0))) := by decide +kernel
theorem mc_1_1 : mm_code 1 1 = some (1, (0, (0, 0))) := by decide +kernel
theorem mc_1_2 : mm_code 1 2 = some (2, (41, (6, 0))) := by decide +kernel
theorem mc_1_3 : mm_code 1 3 = some (5, (5, (0, 0))) := by decide +kernel
theorem mc_1_4 : mm_code 1 4 = some (6, (0, (0, 0))) := by decide +kernel
theorem mc_1_5 : mm_code 1 5 = some (7, (0, (0, (-1)))) := by decide +kernel
theorem mc_1_6 : mm_code 1 6 = some (8, (105, (2, 0))) := by decide +kernel
theorem mc_1_7 : mm_code 1 7 = some (11, (23, (0, 0))) := by decide +kernel
theorem mc_1_8 : mm_code 1 8 = some (12, (0, (0, 0))) := by decide +kernel
theorem mc_1_9 : mm_code 1 9 = some (13, (7, (1, 0))) := by decide +kernel
theorem mc_1_10 : mm_code 1 10 = some (14, (3, (1, 0))) := by decide +kernel
theorem mc_1_11 : mm_code 1 11 = some (15, (5, (0, 0))) := by decide +kernel
theorem mc_1_12 : mm_code 1 12 = some (16, (40, (5, 0))) := by decide +kernel
theorem mc_1_13 : mm_code 1 13 = some (19, (49, (0, 0))) := by decide +kernel
theorem mc_1_14 : mm_code 1 14 = some (20, (34, (22, 16))) := by decide +kernel
theorem mc_1_15 : mm_code 1 15 = some (23, (5, (0, 0))) := by decide +kernel
theorem mc_1_16 : mm_code 1 16 = some (24, (40, (5, 0))) := by decide +kernel
theorem mc_1_17 : mm_code 1 17 = some (27, (3, (1, 0))) := by decide +kernel
theorem mc_1_18 : mm_code 1 18 = some (28, (0, (0, 0))) := by decide +kernel
theorem mc_1_19 : mm_code 1 19 = some (29, (44, (0, 0))) := by decide +kernel
theorem mc_1_20 : mm_code 1 20 = some (30, (20, (1, 1))) := by decide +kernel
theorem mc_1_21 : mm_code 1 21 = some (33, (24, (10, (-19)))) := by decide +kernel
theorem mc_1_22 : mm_code 1 22 = some (36, (103, (0, 0))) := by decide +kernel
theorem mc_2_0 : mm_code 2 0 = some (0, (5, (0, 0))) := by decide +kernel
theorem mc_2_1 : mm_code 2 1 = some (1, (40, (6, 0))) := by decide +kernel
theorem mc_2_2 : mm_code 2 2 = some (4, (100, (0, 0))) := by decide +kernel
theorem mc_3_0 : mm_code 3 0 = some (0, (3, (1, 0))) := by decide +kernel
theorem mc_3_1 : mm_code 3 1 = some (1, (5, (0, 0))) := by decide +kernel
theorem mc_3_2 : mm_code 3 2 = some (2, (40, (6, 0))) := by decide +kernel
theorem mc_3_3 : mm_code 3 3 = some (5, (107, (3, 0))) := by decide +kernel
theorem mc_3_4 : mm_code 3 4 = some (8, (25, (15, 21))) := by decide +kernel
theorem mc_3_5 : mm_code 3 5 = some (11, (3, (1, 0))) := by decide +kernel
theorem mc_3_6 : mm_code 3 6 = some (12, (5, (0, 0))) := by decide +kernel
theorem mc_3_7 : mm_code 3 7 = some (13, (40, (4, 0))) := by decide +kernel
theorem mc_3_8 : mm_code 3 8 = some (16, (49, (0, 0))) := by decide +kernel
theorem mc_3_9 : mm_code 3 9 = some (17, (34, (15, 12))) := by decide +kernel
theorem mc_3_10 : mm_code 3 10 = some (20, (5, (0, 0))) := by decide +kernel
theorem mc_3_11 : mm_code 3 11 = some (21, (40, (4, 0))) := by decide +kernel
theorem mc_3_12 : mm_code 3 12 = some (24, (3, (1, 0))) := by decide +kernel
theorem mc_3_13 : mm_code 3 13 = some (25, (43, (0, 0))) := by decide +kernel
theorem mc_3_14 : mm_code 3 14 = some (26, (24, (16, 4))) := by decide +kernel
theorem mc_3_15 : mm_code 3 15 = some (29, (0, (0, (-1)))) := by decide +kernel
theorem mc_3_16 : mm_code 3 16 = some (30, (100, (0, 0))) := by decide +kernel
theorem mc_4_0 : mm_code 4 0 = some (0, (0, (0, 0))) := by decide +kernel
theorem mc_4_1 : mm_code 4 1 = some (1, (7, (1, 0))) := by decide +kernel
theorem mc_4_2 : mm_code 4 2 = some (2, (0, (0, 1))) := by decide +kernel
theorem mc_4_3 : mm_code 4 3 = some (3, (7, (2, 0))) := by decide +kernel
theorem mc_4_4 : mm_code 4 4 = some (4, (3, (2, 0))) := by decide +kernel
theorem mc_4_5 : mm_code 4 5 = some (5, (5, (0, 0))) := by decide +kernel
theorem mc_4_6 : mm_code 4 6 = some (6, (40, (6, 0))) := by decide +kernel
theorem mc_4_7 : mm_code 4 7 = some (9, (34, (22, 25))) := by decide +kernel
theorem mc_4_8 : mm_code 4 8 = some (12, (3, (1, 0))) := by decide +kernel
theorem mc_4_9 : mm_code 4 9 = some (13, (5, (0, 0))) := by decide +kernel
theorem mc_4_10 : mm_code 4 10 = some (14, (3, (2, 0))) := by decide +kernel
theorem mc_4_11 : mm_code 4 11 = some (15, (105, (4, 0))) := by decide +kernel
theorem mc_4_12 : mm_code 4 12 = some (18, (5, (0, 0))) := by decide +kernel
theorem mc_4_13 : mm_code 4 13 = some (19, (3, (2, 0))) := by decide +kernel
theorem mc_4_14 : mm_code 4 14 = some (20, (105, (5, 0))) := by decide +kernel
theorem mc_4_15 : mm_code 4 15 = some (23, (12, (0, 0))) := by decide +kernel
theorem mc_4_16 : mm_code 4 16 = some (24, (0, (0, 1))) := by decide +kernel
theorem mc_4_17 : mm_code 4 17 = some (25, (11, (0, 0))) := by decide +kernel
theorem mc_4_18 : mm_code 4 18 = some (26, (11, (0, 0))) := by decide +kernel
theorem mc_4_19 : mm_code 4 19 = some (27, (7, (1, 0))) := by decide +kernel
theorem mc_4_20 : mm_code 4 20 = some (28, (20, (2, 1))) := by decide +kernel
theorem mc_4_21 : mm_code 4 21 = some (31, (24, (4, (-27)))) := by decide +kernel
theorem mc_4_22 : mm_code 4 22 = some (34, (3, (1, 0))) := by decide +kernel
theorem mc_4_23 : mm_code 4 23 = some (35, (100, (0, 0))) := by decide +kernel
theorem mc_5_0 : mm_code 5 0 = some (0, (3, (1, 0))) := by decide +kernel
theorem mc_5_1 : mm_code 5 1 = some (1, (27, (10, 19))) := by decide +kernel
theorem mc_5_2 : mm_code 5 2 = some (4, (3, (1, 0))) := by decide +kernel
theorem mc_5_3 : mm_code 5 3 = some (5, (2, (0, 201))) := by decide +kernel
theorem mc_5_4 : mm_code 5 4 = some (8, (34, (10, 12))) := by decide +kernel
theorem mc_5_5 : mm_code 5 5 = some (11, (5, (0, 0))) := by decide +kernel
theorem mc_5_6 : mm_code 5 6 = some (12, (40, (2, 0))) := by decide +kernel
theorem mc_5_7 : mm_code 5 7 = some (15, (3, (1, 0))) := by decide +kernel
theorem mc_5_8 : mm_code 5 8 = some (16, (43, (0, 0))) := by decide +kernel
theorem mc_5_9 : mm_code 5 9 = some (17, (24, (11, 4))) := by decide +kernel
theorem mc_5_10 : mm_code 5 10 = some (20, (0, (0, 0))) := by decide +kernel
theorem mc_5_11 : mm_code 5 11 = some (21, (100, (0, 0))) := by decide +kernel
theorem mc_6_0 : mm_code 6 0 = some (0, (5, (0, 0))) := by decide +kernel
theorem mc_6_1 : mm_code 6 1 = some (1, (5, (0, 0))) := by decide +kernel
theorem mc_6_2 : mm_code 6 2 = some (2, (3, (1, 0))) := by decide +kernel
theorem mc_6_3 : mm_code 6 3 = some (3, (105, (6, 0))) := by decide +kernel
theorem mc_6_4 : mm_code 6 4 = some (6, (105, (4, 0))) := by decide +kernel
theorem mc_6_5 : mm_code 6 5 = some (9, (0, (0, 1))) := by decide +kernel
theorem mc_6_6 : mm_code 6 6 = some (10, (11, (0, 0))) := by decide +kernel
theorem mc_6_7 : mm_code 6 7 = some (11, (100, (0, 0))) := by decide +kernel
theorem mc_7_0 : mm_code 7 0 = some (0, (3, (1, 0))) := by decide +kernel
theorem mc_7_1 : mm_code 7 1 = some (1, (27, (12, 24))) := by decide +kernel
theorem mc_7_2 : mm_code 7 2 = some (4, (3, (1, 0))) := by decide +kernel
theorem mc_7_3 : mm_code 7 3 = some (5, (2, (0, 201))) := by decide +kernel
theorem mc_7_4 : mm_code 7 4 = some (8, (34, (12, 17))) := by decide +kernel
theorem mc_7_5 : mm_code 7 5 = some (11, (3, (2, 0))) := by decide +kernel
theorem mc_7_6 : mm_code 7 6 = some (12, (27, (12, 13))) := by decide +kernel
theorem mc_7_7 : mm_code 7 7 = some (15, (3, (2, 0))) := by decide +kernel
theorem mc_7_8 : mm_code 7 8 = some (16, (1, (0, 26))) := by decide +kernel
theorem mc_7_9 : mm_code 7 9 = some (18, (34, (12, 7))) := by decide +kernel
theorem mc_7_10 : mm_code 7 10 = some (21, (0, (0, 1))) := by decide +kernel
theorem mc_7_11 : mm_code 7 11 = some (22, (24, (13, 4))) := by decide +kernel
theorem mc_7_12 : mm_code 7 12 = some (25, (0, (0, 0))) := by decide +kernel
theorem mc_7_13 : mm_code 7 13 = some (26, (7, (3, 0))) := by decide +kernel
theorem mc_7_14 : mm_code 7 14 = some (27, (3, (3, 0))) := by decide +kernel
theorem mc_7_15 : mm_code 7 15 = some (28, (25, (25, 17))) := by decide +kernel
theorem mc_7_16 : mm_code 7 16 = some (31, (5, (0, 0))) := by decide +kernel
theorem mc_7_17 : mm_code 7 17 = some (32, (40, (1, 0))) := by decide +kernel
theorem mc_7_18 : mm_code 7 18 = some (35, (3, (1, 0))) := by decide +kernel
theorem mc_7_19 : mm_code 7 19 = some (36, (1, (0, 26))) := by decide +kernel
theorem mc_7_20 : mm_code 7 20 = some (38, (13, (0, 0))) := by decide +kernel
theorem mc_7_21 : mm_code 7 21 = some (39, (3, (2, 0))) := by decide +kernel
theorem mc_7_22 : mm_code 7 22 = some (40, (11, (0, 0))) := by decide +kernel
theorem mc_7_23 : mm_code 7 23 = some (41, (43, (0, 0))) := by decide +kernel
theorem mc_7_24 : mm_code 7 24 = some (42, (24, (26, 4))) := by decide +kernel
theorem mc_7_25 : mm_code 7 25 = some (45, (0, (0, (-1)))) := by decide +kernel
theorem mc_7_26 : mm_code 7 26 = some (46, (100, (0, 0))) := by decide +kernel
theorem mc_8_0 : mm_code 8 0 = some (0, (3, (1, 0))) := by decide +kernel
theorem mc_8_1 : mm_code 8 1 = some (1, (5, (0, 0))) := by decide +kernel
theorem mc_8_2 : mm_code 8 2 = some (2, (40, (5, 0))) := by decide +kernel
theorem mc_8_3 : mm_code 8 3 = some (5, (49, (0, 0))) := by decide +kernel
theorem mc_8_4 : mm_code 8 4 = some (6, (107, (3, 0))) := by decide +kernel
theorem mc_8_5 : mm_code 8 5 = some (9, (26, (7, 4))) := by decide +kernel
theorem mc_8_6 : mm_code 8 6 = some (12, (103, (0, 0))) := by decide +kernel
theorem mc_8_7 : mm_code 8 7 = some (13, (5, (0, 0))) := by decide +kernel
theorem mc_8_8 : mm_code 8 8 = some (14, (5, (0, 0))) := by decide +kernel
theorem mc_8_9 : mm_code 8 9 = some (15, (40, (5, 0))) := by decide +kernel
theorem mc_8_10 : mm_code 8 10 = some (18, (3, (1, 0))) := by decide +kernel
theorem mc_8_11 : mm_code 8 11 = some (19, (43, (0, 0))) := by decide +kernel
theorem mc_8_12 : mm_code 8 12 = some (20, (3, (3, 0))) := by decide +kernel
theorem mc_8_13 : mm_code 8 13 = some (21, (105, (7, 0))) := by decide +kernel
theorem mc_8_14 : mm_code 8 14 = some (24, (8, (4, 0))) := by decide +kernel
theorem mc_8_15 : mm_code 8 15 = some (26, (5, (0, 0))) := by decide +kernel
theorem mc_8_16 : mm_code 8 16 = some (27, (40, (5, 0))) := by decide +kernel
theorem mc_8_17 : mm_code 8 17 = some (30, (3, (1, 0))) := by decide +kernel
theorem mc_8_18 : mm_code 8 18 = some (31, (4, (4, 0))) := by decide +kernel
theorem mc_8_19 : mm_code 8 19 = some (33, (44, (0, 0))) := by decide +kernel
theorem mc_8_20 : mm_code 8 20 = some (34, (4, (4, 0))) := by decide +kernel
theorem mc_8_21 : mm_code 8 21 = some (36, (8, (5, 0))) := by decide +kernel
theorem mc_8_22 : mm_code 8 22 = some (38, (0, (0, 0))) := by decide +kernel
theorem mc_8_23 : mm_code 8 23 = some (39, (8, (6, 0))) := by decide +kernel
theorem mc_8_24 : mm_code 8 24 = some (41, (4, (6, 0))) := by decide +kernel
theorem mc_8_25 : mm_code 8 25 = some (43, (2, (0, 201))) := by decide +kernel
theorem mc_8_26 : mm_code 8 26 = some (46, (34, (41, 33))) := by decide +kernel
theorem mc_8_27 : mm_code 8 27 = some (49, (4, (5, 0))) := by decide +kernel
theorem mc_8_28 : mm_code 8 28 = some (51, (30, (41, 28))) := by decide +kernel
theorem mc_8_29 : mm_code 8 29 = some (54, (5, (0, 0))) := by decide +kernel
theorem mc_8_30 : mm_code 8 30 = some (55, (40, (0, 0))) := by decide +kernel
theorem mc_8_31 : mm_code 8 31 = some (58, (4, (5, 0))) := by decide +kernel
theorem mc_8_32 : mm_code 8 32 = some (60, (3, (1, 0))) := by decide +kernel
theorem mc_8_33 : mm_code 8 33 = some (61, (3, (2, 0))) := by decide +kernel
theorem mc_8_34 : mm_code 8 34 = some (62, (105, (8, 0))) := by decide +kernel
theorem mc_8_35 : mm_code 8 35 = some (65, (5, (0, 0))) := by decide +kernel
theorem mc_8_36 : mm_code 8 36 = some (66, (4, (5, 0))) := by decide +kernel
theorem mc_8_37 : mm_code 8 37 = some (68, (105, (6, 0))) := by decide +kernel
theorem mc_8_38 : mm_code 8 38 = some (71, (8, (5, 0))) := by decide +kernel
theorem mc_8_39 : mm_code 8 39 = some (73, (20, (6, 1))) := by decide +kernel
theorem mc_8_40 : mm_code 8 40 = some (76, (24, (24, (-35)))) := by decide +kernel
theorem mc_8_41 : mm_code 8 41 = some (79, (103, (0, 0))) := by decide +kernel
theorem mc_9_0 : mm_code 9 0 = some (0, (5, (0, 0))) := by decide +kernel
theorem mc_9_1 : mm_code 9 1 = some (1, (3, (1, 0))) := by decide +kernel
theorem mc_9_2 : mm_code 9 2 = some (2, (3, (2, 0))) := by decide +kernel
theorem mc_9_3 : mm_code 9 3 = some (3, (105, (9, 0))) := by decide +kernel
theorem mc_9_4 : mm_code 9 4 = some (6, (0, (0, (-1)))) := by decide +kernel
theorem mc_9_5 : mm_code 9 5 = some (7, (31, (11, 10))) := by decide +kernel
theorem mc_9_6 : mm_code 9 6 = some (10, (5, (0, 0))) := by decide +kernel
theorem mc_9_7 : mm_code 9 7 = some (11, (3, (1, 0))) := by decide +kernel
theorem mc_9_8 : mm_code 9 8 = some (12, (3, (2, 0))) := by decide +kernel
theorem mc_9_9 : mm_code 9 9 = some (13, (105, (10, 0))) := by decide +kernel
theorem mc_9_10 : mm_code 9 10 = some (16, (100, (0, 0))) := by decide +kernel
theorem mc_9_11 : mm_code 9 11 = some (17, (5, (0, 0))) := by decide +kernel
theorem mc_9_12 : mm_code 9 12 = some (18, (5, (0, 0))) := by decide +kernel
theorem mc_9_13 : mm_code 9 13 = some (19, (3, (1, 0))) := by decide +kernel
theorem mc_9_14 : mm_code 9 14 = some (20, (105, (4, 0))) := by decide +kernel
theorem mc_9_15 : mm_code 9 15 = some (23, (0, (0, 1))) := by decide +kernel
theorem mc_9_16 : mm_code 9 16 = some (24, (11, (0, 0))) := by decide +kernel
theorem mc_9_17 : mm_code 9 17 = some (25, (0, (0, (-1)))) := by decide +kernel
theorem mc_9_18 : mm_code 9 18 = some (26, (105, (2, 0))) := by decide +kernel
theorem mc_9_19 : mm_code 9 19 = some (29, (7, (3, 0))) := by decide +kernel
theorem mc_9_20 : mm_code 9 20 = some (30, (3, (1, 0))) := by decide +kernel
theorem mc_9_21 : mm_code 9 21 = some (31, (8, (4, 0))) := by decide +kernel
theorem mc_9_22 : mm_code 9 22 = some (33, (0, (0, 0))) := by decide +kernel
theorem mc_9_23 : mm_code 9 23 = some (34, (8, (5, 0))) := by decide +kernel
theorem mc_9_24 : mm_code 9 24 = some (36, (4, (5, 0))) := by decide +kernel
theorem mc_9_25 : mm_code 9 25 = some (38, (2, (0, 201))) := by decide +kernel
theorem mc_9_26 : mm_code 9 26 = some (41, (34, (48, 45))) := by decide +kernel
theorem mc_9_27 : mm_code 9 27 = some (44, (4, (4, 0))) := by decide +kernel
theorem mc_9_28 : mm_code 9 28 = some (46, (0, (0, (-1)))) := by decide +kernel
theorem mc_9_29 : mm_code 9 29 = some (47, (31, (48, 39))) := by decide +kernel
theorem mc_9_30 : mm_code 9 30 = some (50, (5, (0, 0))) := by decide +kernel
theorem mc_9_31 : mm_code 9 31 = some (51, (4, (4, 0))) := by decide +kernel
theorem mc_9_32 : mm_code 9 32 = some (53, (3, (2, 0))) := by decide +kernel
theorem mc_9_33 : mm_code 9 33 = some (54, (105, (9, 0))) := by decide +kernel
theorem mc_9_34 : mm_code 9 34 = some (57, (0, (0, (-1)))) := by decide +kernel
theorem mc_9_35 : mm_code 9 35 = some (58, (31, (37, 6))) := by decide +kernel
theorem mc_9_36 : mm_code 9 36 = some (61, (24, (48, 25))) := by decide +kernel
theorem mc_9_37 : mm_code 9 37 = some (64, (5, (0, 0))) := by decide +kernel
theorem mc_9_38 : mm_code 9 38 = some (65, (4, (4, 0))) := by decide +kernel
theorem mc_9_39 : mm_code 9 39 = some (67, (3, (2, 0))) := by decide +kernel
theorem mc_9_40 : mm_code 9 40 = some (68, (3, (3, 0))) := by decide +kernel
theorem mc_9_41 : mm_code 9 41 = some (69, (105, (11, 0))) := by decide +kernel
theorem mc_9_42 : mm_code 9 42 = some (72, (5, (0, 0))) := by decide +kernel
theorem mc_9_43 : mm_code 9 43 = some (73, (4, (4, 0))) := by decide +kernel
theorem mc_9_44 : mm_code 9 44 = some (75, (105, (6, 0))) := by decide +kernel
theorem mc_9_45 : mm_code 9 45 = some (78, (8, (4, 0))) := by decide +kernel
theorem mc_9_46 : mm_code 9 46 = some (80, (20, (5, 1))) := by decide +kernel
theorem mc_9_47 : mm_code 9 47 = some (83, (24, (24, (-47)))) := by decide +kernel
theorem mc_9_48 : mm_code 9 48 = some (86, (5, (0, 0))) := by decide +kernel
theorem mc_9_49 : mm_code 9 49 = some (87, (3, (3, 0))) := by decide +kernel
theorem mc_9_50 : mm_code 9 50 = some (88, (4, (4, 0))) := by decide +kernel
theorem mc_9_51 : mm_code 9 51 = some (90, (0, (0, (-1)))) := by decide +kernel
theorem mc_9_52 : mm_code 9 52 = some (91, (32, (55, 7))) := by decide +kernel
theorem mc_9_53 : mm_code 9 53 = some (94, (0, (0, 0))) := by decide +kernel
theorem mc_9_54 : mm_code 9 54 = some (95, (24, (59, 10))) := by decide +kernel
theorem mc_9_55 : mm_code 9 55 = some (98, (5, (0, 0))) := by decide +kernel
theorem mc_9_56 : mm_code 9 56 = some (99, (4, (4, 0))) := by decide +kernel
theorem mc_9_57 : mm_code 9 57 = some (101, (3, (2, 0))) := by decide +kernel
theorem mc_9_58 : mm_code 9 58 = some (102, (105, (10, 0))) := by decide +kernel
theorem mc_9_59 : mm_code 9 59 = some (105, (105, (12, 0))) := by decide +kernel
theorem mc_9_60 : mm_code 9 60 = some (108, (3, (3, 0))) := by decide +kernel
theorem mc_9_61 : mm_code 9 61 = some (109, (100, (0, 0))) := by decide +kernel
theorem mc_10_0 : mm_code 10 0 = some (0, (5, (0, 0))) := by decide +kernel
theorem mc_10_1 : mm_code 10 1 = some (1, (3, (1, 0))) := by decide +kernel
theorem mc_10_2 : mm_code 10 2 = some (2, (3, (2, 0))) := by decide +kernel
theorem mc_10_3 : mm_code 10 3 = some (3, (105, (9, 0))) := by decide +kernel
theorem mc_10_4 : mm_code 10 4 = some (6, (7, (3, 0))) := by decide +kernel
theorem mc_10_5 : mm_code 10 5 = some (7, (5, (0, 0))) := by decide +kernel
theorem mc_10_6 : mm_code 10 6 = some (8, (3, (1, 0))) := by decide +kernel
theorem mc_10_7 : mm_code 10 7 = some (9, (105, (4, 0))) := by decide +kernel
theorem mc_10_8 : mm_code 10 8 = some (12, (0, (0, 1))) := by decide +kernel
theorem mc_10_9 : mm_code 10 9 = some (13, (11, (0, 0))) := by decide +kernel
theorem mc_10_10 : mm_code 10 10 = some (14, (8, (4, 0))) := by decide +kernel
theorem mc_10_11 : mm_code 10 11 = some (16, (5, (0, 0))) := by decide +kernel
theorem mc_10_12 : mm_code 10 12 = some (17, (3, (3, 0))) := by decide +kernel
theorem mc_10_13 : mm_code 10 13 = some (18, (105, (4, 0))) := by decide +kernel
theorem mc_10_14 : mm_code 10 14 = some (21, (4, (4, 0))) := by decide +kernel
theorem mc_10_15 : mm_code 10 15 = some (23, (32, (18, 5))) := by decide +kernel
theorem mc_10_16 : mm_code 10 16 = some (26, (3, (3, 0))) := by decide +kernel
theorem mc_10_17 : mm_code 10 17 = some (27, (100, (0, 0))) := by decide +kernel
theorem mc_10_18 : mm_code 10 18 = some (28, (5, (0, 0))) := by decide +kernel
theorem mc_10_19 : mm_code 10 19 = some (29, (4, (4, 0))) := by decide +kernel
theorem mc_10_20 : mm_code 10 20 = some (31, (3, (3, 0))) := by decide +kernel
theorem mc_10_21 : mm_code 10 21 = some (32, (105, (2, 0))) := by decide +kernel
theorem mc_10_22 : mm_code 10 22 = some (35, (8, (5, 0))) := by decide +kernel
theorem mc_10_23 : mm_code 10 23 = some (37, (5, (0, 0))) := by decide +kernel
theorem mc_10_24 : mm_code 10 24 = some (38, (4, (5, 0))) := by decide +kernel
theorem mc_10_25 : mm_code 10 25 = some (40, (5, (0, 0))) := by decide +kernel
theorem mc_10_26 : mm_code 10 26 = some (41, (3, (3, 0))) := by decide +kernel
theorem mc_10_27 : mm_code 10 27 = some (42, (105, (6, 0))) := by decide +kernel
theorem mc_10_28 : mm_code 10 28 = some (45, (105, (12, 0))) := by decide +kernel
theorem mc_10_29 : mm_code 10 29 = some (48, (5, (0, 0))) := by decide +kernel
theorem mc_10_30 : mm_code 10 30 = some (49, (3, (3, 0))) := by decide +kernel
theorem mc_10_31 : mm_code 10 31 = some (50, (4, (5, 0))) := by decide +kernel
theorem mc_10_32 : mm_code 10 32 = some (52, (105, (12, 0))) := by decide +kernel
theorem mc_10_33 : mm_code 10 33 = some (55, (3, (1, 0))) := by decide +kernel
theorem mc_10_34 : mm_code 10 34 = some (56, (8, (6, 0))) := by decide +kernel
theorem mc_10_35 : mm_code 10 35 = some (58, (0, (0, 0))) := by decide +kernel
theorem mc_10_36 : mm_code 10 36 = some (59, (8, (7, 0))) := by decide +kernel
theorem mc_10_37 : mm_code 10 37 = some (61, (4, (7, 0))) := by decide +kernel
theorem mc_10_38 : mm_code 10 38 = some (63, (2, (0, 201))) := by decide +kernel
theorem mc_10_39 : mm_code 10 39 = some (66, (34, (57, 37))) := by decide +kernel
theorem mc_10_40 : mm_code 10 40 = some (69, (5, (0, 0))) := by decide +kernel
theorem mc_10_41 : mm_code 10 41 = some (70, (4, (6, 0))) := by decide +kernel
theorem mc_10_42 : mm_code 10 42 = some (72, (3, (2, 0))) := by decide +kernel
theorem mc_10_43 : mm_code 10 43 = some (73, (105, (9, 0))) := by decide +kernel
theorem mc_10_44 : mm_code 10 44 = some (76, (3, (3, 0))) := by decide +kernel
theorem mc_10_45 : mm_code 10 45 = some (77, (32, (57, 26))) := by decide +kernel
theorem mc_10_46 : mm_code 10 46 = some (80, (5, (0, 0))) := by decide +kernel
theorem mc_10_47 : mm_code 10 47 = some (81, (4, (6, 0))) := by decide +kernel
theorem mc_10_48 : mm_code 10 48 = some (83, (3, (2, 0))) := by decide +kernel
theorem mc_10_49 : mm_code 10 49 = some (84, (4, (5, 0))) := by decide +kernel
theorem mc_10_50 : mm_code 10 50 = some (86, (105, (11, 0))) := by decide +kernel
theorem mc_10_51 : mm_code 10 51 = some (89, (5, (0, 0))) := by decide +kernel
theorem mc_10_52 : mm_code 10 52 = some (90, (4, (6, 0))) := by decide +kernel
theorem mc_10_53 : mm_code 10 53 = some (92, (105, (6, 0))) := by decide +kernel
theorem mc_10_54 : mm_code 10 54 = some (95, (8, (6, 0))) := by decide +kernel
theorem mc_10_55 : mm_code 10 55 = some (97, (20, (7, 1))) := by decide +kernel
theorem mc_10_56 : mm_code 10 56 = some (100, (24, (37, (-39)))) := by decide +kernel
theorem mc_10_57 : mm_code 10 57 = some (103, (4, (5, 0))) := by decide +kernel
theorem mc_10_58 : mm_code 10 58 = some (105, (100, (0, 0))) := by decide +kernel
theorem mc_11_0 : mm_code 11 0 = some (0, (5, (0, 0))) := by decide +kernel
theorem mc_11_1 : mm_code 11 1 = some (1, (40, (6, 0))) := by decide +kernel
theorem mc_11_2 : mm_code 11 2 = some (4, (7, (3, 0))) := by decide +kernel
theorem mc_11_3 : mm_code 11 3 = some (5, (3, (3, 0))) := by decide +kernel
theorem mc_11_4 : mm_code 11 4 = some (6, (5, (0, 0))) := by decide +kernel
theorem mc_11_5 : mm_code 11 5 = some (7, (40, (2, 0))) := by decide +kernel
theorem mc_11_6 : mm_code 11 6 = some (10, (49, (0, 0))) := by decide +kernel
theorem mc_11_7 : mm_code 11 7 = some (11, (107, (3, 0))) := by decide +kernel
theorem mc_11_8 : mm_code 11 8 = some (14, (26, (11, 5))) := by decide +kernel
theorem mc_11_9 : mm_code 11 9 = some (17, (0, (0, (-1)))) := by decide +kernel
theorem mc_11_10 : mm_code 11 10 = some (18, (100, (0, 0))) := by decide +kernel
theorem mc_11_11 : mm_code 11 11 = some (19, (5, (0, 0))) := by decide +kernel
theorem mc_11_12 : mm_code 11 12 = some (20, (40, (2, 0))) := by decide +kernel
theorem mc_11_13 : mm_code 11 13 = some (23, (3, (3, 0))) := by decide +kernel
theorem mc_11_14 : mm_code 11 14 = some (24, (3, (1, 0))) := by decide +kernel
theorem mc_11_15 : mm_code 11 15 = some (25, (44, (0, 0))) := by decide +kernel
theorem mc_11_16 : mm_code 11 16 = some (26, (5, (0, 0))) := by decide +kernel
theorem mc_11_17 : mm_code 11 17 = some (27, (3, (3, 0))) := by decide +kernel
theorem mc_11_18 : mm_code 11 18 = some (28, (0, (0, (-1)))) := by decide +kernel
theorem mc_11_19 : mm_code 11 19 = some (29, (105, (12, 0))) := by decide +kernel
theorem mc_11_20 : mm_code 11 20 = some (32, (0, (0, 0))) := by decide +kernel
theorem mc_11_21 : mm_code 11 21 = some (33, (8, (4, 0))) := by decide +kernel
theorem mc_11_22 : mm_code 11 22 = some (35, (4, (4, 0))) := by decide +kernel
theorem mc_11_23 : mm_code 11 23 = some (37, (1, (0, 26))) := by decide +kernel
theorem mc_11_24 : mm_code 11 24 = some (39, (34, (35, 23))) := by decide +kernel
theorem mc_11_25 : mm_code 11 25 = some (42, (5, (0, 0))) := by decide +kernel
theorem mc_11_26 : mm_code 11 26 = some (43, (3, (3, 0))) := by decide +kernel
theorem mc_11_27 : mm_code 11 27 = some (44, (4, (4, 0))) := by decide +kernel
theorem mc_11_28 : mm_code 11 28 = some (46, (5, (0, 0))) := by decide +kernel
theorem mc_11_29 : mm_code 11 29 = some (47, (3, (2, 0))) := by decide +kernel
theorem mc_11_30 : mm_code 11 30 = some (48, (4, (4, 0))) := by decide +kernel
theorem mc_11_31 : mm_code 11 31 = some (50, (105, (9, 0))) := by decide +kernel
theorem mc_11_32 : mm_code 11 32 = some (53, (105, (11, 0))) := by decide +kernel
theorem mc_11_33 : mm_code 11 33 = some (56, (20, (4, 1))) := by decide +kernel
theorem mc_11_34 : mm_code 11 34 = some (59, (24, (22, (-24)))) := by decide +kernel
theorem mc_11_35 : mm_code 11 35 = some (62, (5, (0, 0))) := by decide +kernel
theorem mc_11_36 : mm_code 11 36 = some (63, (40, (0, 0))) := by decide +kernel
theorem mc_11_37 : mm_code 11 37 = some (66, (3, (3, 0))) := by decide +kernel
theorem mc_11_38 : mm_code 11 38 = some (67, (3, (2, 0))) := by decide +kernel
theorem mc_11_39 : mm_code 11 39 = some (68, (105, (13, 0))) := by decide +kernel
theorem mc_11_40 : mm_code 11 40 = some (71, (5, (0, 0))) := by decide +kernel
theorem mc_11_41 : mm_code 11 41 = some (72, (3, (3, 0))) := by decide +kernel
theorem mc_11_42 : mm_code 11 42 = some (73, (105, (14, 0))) := by decide +kernel
theorem mc_11_43 : mm_code 11 43 = some (76, (5, (0, 0))) := by decide +kernel
theorem mc_11_44 : mm_code 11 44 = some (77, (21, (0, 0))) := by decide +kernel
theorem mc_11_45 : mm_code 11 45 = some (78, (40, (6, 0))) := by decide +kernel
theorem mc_11_46 : mm_code 11 46 = some (81, (0, (0, 1))) := by decide +kernel
theorem mc_11_47 : mm_code 11 47 = some (82, (11, (0, 0))) := by decide +kernel
theorem mc_11_48 : mm_code 11 48 = some (83, (41, (6, 0))) := by decide +kernel
theorem mc_11_49 : mm_code 11 49 = some (86, (3, (3, 0))) := by decide +kernel
theorem mc_11_50 : mm_code 11 50 = some (87, (100, (0, 0))) := by decide +kernel
theorem mc_12_0 : mm_code 12 0 = some (0, (3, (1, 0))) := by decide +kernel
theorem mc_12_1 : mm_code 12 1 = some (1, (7, (2, 0))) := by decide +kernel
theorem mc_12_2 : mm_code 12 2 = some (2, (3, (2, 0))) := by decide +kernel
theorem mc_12_3 : mm_code 12 3 = some (3, (5, (0, 0))) := by decide +kernel
theorem mc_12_4 : mm_code 12 4 = some (4, (40, (4, 0))) := by decide +kernel
theorem mc_12_5 : mm_code 12 5 = some (7, (49, (0, 0))) := by decide +kernel
theorem mc_12_6 : mm_code 12 6 = some (8, (107, (3, 0))) := by decide +kernel
theorem mc_12_7 : mm_code 12 7 = some (11, (26, (9, 4))) := by decide +kernel
theorem mc_12_8 : mm_code 12 8 = some (14, (103, (0, 0))) := by decide +kernel
theorem mc_12_9 : mm_code 12 9 = some (15, (3, (2, 0))) := by decide +kernel
theorem mc_12_10 : mm_code 12 10 = some (16, (30, (35, 43))) := by decide +kernel
theorem mc_12_11 : mm_code 12 11 = some (19, (5, (0, 0))) := by decide +kernel
theorem mc_12_12 : mm_code 12 12 = some (20, (5, (0, 0))) := by decide +kernel
theorem mc_12_13 : mm_code 12 13 = some (21, (40, (4, 0))) := by decide +kernel
theorem mc_12_14 : mm_code 12 14 = some (24, (3, (2, 0))) := by decide +kernel
theorem mc_12_15 : mm_code 12 15 = some (25, (0, (0, 1))) := by decide +kernel
theorem mc_12_16 : mm_code 12 16 = some (26, (12, (0, 0))) := by decide +kernel
theorem mc_12_17 : mm_code 12 17 = some (27, (43, (0, 0))) := by decide +kernel
theorem mc_12_18 : mm_code 12 18 = some (28, (105, (4, 0))) := by decide +kernel
theorem mc_12_19 : mm_code 12 19 = some (31, (5, (0, 0))) := by decide +kernel
theorem mc_12_20 : mm_code 12 20 = some (32, (3, (1, 0))) := by decide +kernel
theorem mc_12_21 : mm_code 12 21 = some (33, (105, (4, 0))) := by decide +kernel
theorem mc_12_22 : mm_code 12 22 = some (36, (36, (35, 23))) := by decide +kernel
theorem mc_12_23 : mm_code 12 23 = some (39, (5, (0, 0))) := by decide +kernel
theorem mc_12_24 : mm_code 12 24 = some (40, (40, (4, 0))) := by decide +kernel
theorem mc_12_25 : mm_code 12 25 = some (43, (3, (2, 0))) := by decide +kernel
theorem mc_12_26 : mm_code 12 26 = some (44, (5, (0, 0))) := by decide +kernel
theorem mc_12_27 : mm_code 12 27 = some (45, (40, (4, 0))) := by decide +kernel
theorem mc_12_28 : mm_code 12 28 = some (48, (3, (2, 0))) := by decide +kernel
theorem mc_12_29 : mm_code 12 29 = some (49, (0, (0, 1))) := by decide +kernel
theorem mc_12_30 : mm_code 12 30 = some (50, (12, (0, 0))) := by decide +kernel
theorem mc_12_31 : mm_code 12 31 = some (51, (43, (0, 0))) := by decide +kernel
theorem mc_12_32 : mm_code 12 32 = some (52, (44, (0, 0))) := by decide +kernel
theorem mc_12_33 : mm_code 12 33 = some (53, (20, (2, (-1)))) := by decide +kernel
theorem mc_12_34 : mm_code 12 34 = some (56, (24, (9, (-41)))) := by decide +kernel
theorem mc_12_35 : mm_code 12 35 = some (59, (5, (0, 0))) := by decide +kernel
theorem mc_12_36 : mm_code 12 36 = some (60, (40, (4, 0))) := by decide +kernel
theorem mc_12_37 : mm_code 12 37 = some (63, (3, (2, 0))) := by decide +kernel
theorem mc_12_38 : mm_code 12 38 = some (64, (3, (1, 0))) := by decide +kernel
theorem mc_12_39 : mm_code 12 39 = some (65, (44, (0, 0))) := by decide +kernel
theorem mc_12_40 : mm_code 12 40 = some (66, (103, (0, 0))) := by decide +kernel
theorem mc_13_0 : mm_code 13 0 = some (0, (3, (1, 0))) := by decide +kernel
theorem mc_13_1 : mm_code 13 1 = some (1, (5, (0, 0))) := by decide +kernel
theorem mc_13_2 : mm_code 13 2 = some (2, (40, (3, 0))) := by decide +kernel
theorem mc_13_3 : mm_code 13 3 = some (5, (49, (0, 0))) := by decide +kernel
theorem mc_13_4 : mm_code 13 4 = some (6, (107, (3, 0))) := by decide +kernel
theorem mc_13_5 : mm_code 13 5 = some (9, (25, (11, 12))) := by decide +kernel
theorem mc_13_6 : mm_code 13 6 = some (12, (5, (0, 0))) := by decide +kernel
theorem mc_13_7 : mm_code 13 7 = some (13, (40, (3, 0))) := by decide +kernel
theorem mc_13_8 : mm_code 13 8 = some (16, (3, (1, 0))) := by decide +kernel
theorem mc_13_9 : mm_code 13 9 = some (17, (43, (0, 0))) := by decide +kernel
theorem mc_13_10 : mm_code 13 10 = some (18, (24, (12, 4))) := by decide +kernel
theorem mc_13_11 : mm_code 13 11 = some (21, (0, (0, (-1)))) := by decide +kernel
theorem mc_13_12 : mm_code 13 12 = some (22, (100, (0, 0))) := by decide +kernel
theorem mc_14_0 : mm_code 14 0 = some (0, (3, (1, 0))) := by decide +kernel
theorem mc_14_1 : mm_code 14 1 = some (1, (5, (0, 0))) := by decide +kernel
theorem mc_14_2 : mm_code 14 2 = some (2, (40, (3, 0))) := by decide +kernel
theorem mc_14_3 : mm_code 14 3 = some (5, (49, (0, 0))) := by decide +kernel
theorem mc_14_4 : mm_code 14 4 = some (6, (107, (3, 0))) := by decide +kernel
theorem mc_14_5 : mm_code 14 5 = some (9, (25, (11, 10))) := by decide +kernel
theorem mc_14_6 : mm_code 14 6 = some (12, (5, (0, 0))) := by decide +kernel
theorem mc_14_7 : mm_code 14 7 = some (13, (40, (3, 0))) := by decide +kernel
theorem mc_14_8 : mm_code 14 8 = some (16, (3, (1, 0))) := by decide +kernel
theorem mc_14_9 : mm_code 14 9 = some (17, (3, (2, 0))) := by decide +kernel
theorem mc_14_10 : mm_code 14 10 = some (18, (44, (0, 0))) := by decide +kernel
theorem mc_14_11 : mm_code 14 11 = some (19, (103, (0, 0))) := by decide +kernel
theorem mc_15_0 : mm_code 15 0 = some (0, (3, (1, 0))) := by decide +kernel
theorem mc_15_1 : mm_code 15 1 = some (1, (27, (12, 24))) := by decide +kernel
theorem mc_15_2 : mm_code 15 2 = some (4, (3, (1, 0))) := by decide +kernel
theorem mc_15_3 : mm_code 15 3 = some (5, (2, (0, 201))) := by decide +kernel
theorem mc_15_4 : mm_code 15 4 = some (8, (34, (12, 17))) := by decide +kernel
theorem mc_15_5 : mm_code 15 5 = some (11, (3, (2, 0))) := by decide +kernel
theorem mc_15_6 : mm_code 15 6 = some (12, (27, (12, 13))) := by decide +kernel
theorem mc_15_7 : mm_code 15 7 = some (15, (3, (2, 0))) := by decide +kernel
theorem mc_15_8 : mm_code 15 8 = some (16, (1, (0, 26))) := by decide +kernel
theorem mc_15_9 : mm_code 15 9 = some (18, (34, (12, 7))) := by decide +kernel
theorem mc_15_10 : mm_code 15 10 = some (21, (0, (0, 1))) := by decide +kernel
theorem mc_15_11 : mm_code 15 11 = some (22, (24, (13, 4))) := by decide +kernel
theorem mc_15_12 : mm_code 15 12 = some (25, (0, (0, 0))) := by decide +kernel
theorem mc_15_13 : mm_code 15 13 = some (26, (8, (4, 0))) := by decide +kernel
theorem mc_15_14 : mm_code 15 14 = some (28, (4, (4, 0))) := by decide +kernel
theorem mc_15_15 : mm_code 15 15 = some (30, (25, (25, 15))) := by decide +kernel
theorem mc_15_16 : mm_code 15 16 = some (33, (5, (0, 0))) := by decide +kernel
theorem mc_15_17 : mm_code 15 17 = some (34, (40, (1, 0))) := by decide +kernel
theorem mc_15_18 : mm_code 15 18 = some (37, (3, (1, 0))) := by decide +kernel
theorem mc_15_19 : mm_code 15 19 = some (38, (1, (0, 26))) := by decide +kernel
theorem mc_15_20 : mm_code 15 20 = some (40, (13, (0, 0))) := by decide +kernel
theorem mc_15_21 : mm_code 15 21 = some (41, (3, (2, 0))) := by decide +kernel
theorem mc_15_22 : mm_code 15 22 = some (42, (11, (0, 0))) := by decide +kernel
theorem mc_15_23 : mm_code 15 23 = some (43, (3, (3, 0))) := by decide +kernel
theorem mc_15_24 : mm_code 15 24 = some (44, (44, (0, 0))) := by decide +kernel
theorem mc_15_25 : mm_code 15 25 = some (45, (103, (0, 0))) := by decide +kernel
theorem mc_16_0 : mm_code 16 0 = some (0, (5, (0, 0))) := by decide +kernel
theorem mc_16_1 : mm_code 16 1 = some (1, (57, (3, 0))) := by decide +kernel
theorem mc_16_2 : mm_code 16 2 = some (4, (5, (0, 0))) := by decide +kernel
theorem mc_16_3 : mm_code 16 3 = some (5, (2, (0, 804))) := by decide +kernel
theorem mc_16_4 : mm_code 16 4 = some (8, (51, (0, 0))) := by decide +kernel
theorem mc_16_5 : mm_code 16 5 = some (10, (42, (7, 0))) := by decide +kernel
theorem mc_16_6 : mm_code 16 6 = some (13, (5, (0, 0))) := by decide +kernel
theorem mc_16_7 : mm_code 16 7 = some (14, (2, (0, 804))) := by decide +kernel
theorem mc_16_8 : mm_code 16 8 = some (17, (51, (0, 0))) := by decide +kernel
theorem mc_16_9 : mm_code 16 9 = some (19, (42, (8, 0))) := by decide +kernel
theorem mc_16_10 : mm_code 16 10 = some (22, (5, (0, 0))) := by decide +kernel
theorem mc_16_11 : mm_code 16 11 = some (23, (2, (0, 804))) := by decide +kernel
theorem mc_16_12 : mm_code 16 12 = some (26, (51, (0, 0))) := by decide +kernel
theorem mc_16_13 : mm_code 16 13 = some (28, (42, (9, 0))) := by decide +kernel
theorem mc_16_14 : mm_code 16 14 = some (31, (103, (0, 0))) := by decide +kernel
theorem mc_17_0 : mm_code 17 0 = some (0, (3, (1, 0))) := by decide +kernel
theorem mc_17_1 : mm_code 17 1 = some (1, (3, (2, 0))) := by decide +kernel
theorem mc_17_2 : mm_code 17 2 = some (2, (106, (15, 0))) := by decide +kernel
theorem mc_17_3 : mm_code 17 3 = some (5, (7, (3, 0))) := by decide +kernel
theorem mc_17_4 : mm_code 17 4 = some (6, (3, (3, 0))) := by decide +kernel
theorem mc_17_5 : mm_code 17 5 = some (7, (0, (0, (-1)))) := by decide +kernel
theorem mc_17_6 : mm_code 17 6 = some (8, (32, (9, 7))) := by decide +kernel
theorem mc_17_7 : mm_code 17 7 = some (11, (0, (0, 0))) := by decide +kernel
theorem mc_17_8 : mm_code 17 8 = some (12, (24, (13, 9))) := by decide +kernel
theorem mc_17_9 : mm_code 17 9 = some (15, (5, (0, 0))) := by decide +kernel
theorem mc_17_10 : mm_code 17 10 = some (16, (40, (7, 0))) := by decide +kernel
theorem mc_17_11 : mm_code 17 11 = some (19, (3, (3, 0))) := by decide +kernel
theorem mc_17_12 : mm_code 17 12 = some (20, (43, (0, 0))) := by decide +kernel
theorem mc_17_13 : mm_code 17 13 = some (21, (100, (0, 0))) := by decide +kernel
theorem mc_18_0 : mm_code 18 0 = some (0, (3, (1, 0))) := by decide +kernel
theorem mc_18_1 : mm_code 18 1 = some (1, (3, (2, 0))) := by decide +kernel
theorem mc_18_2 : mm_code 18 2 = some (2, (106, (15, 0))) := by decide +kernel
theorem mc_18_3 : mm_code 18 3 = some (5, (7, (3, 0))) := by decide +kernel
theorem mc_18_4 : mm_code 18 4 = some (6, (3, (3, 0))) := by decide +kernel
theorem mc_18_5 : mm_code 18 5 = some (7, (0, (0, (-1)))) := by decide +kernel
theorem mc_18_6 : mm_code 18 6 = some (8, (32, (9, 7))) := by decide +kernel
theorem mc_18_7 : mm_code 18 7 = some (11, (0, (0, (-1)))) := by decide +kernel
theorem mc_18_8 : mm_code 18 8 = some (12, (24, (13, 9))) := by decide +kernel
theorem mc_18_9 : mm_code 18 9 = some (15, (5, (0, 0))) := by decide +kernel
theorem mc_18_10 : mm_code 18 10 = some (16, (40, (8, 0))) := by decide +kernel
theorem mc_18_11 : mm_code 18 11 = some (19, (3, (3, 0))) := by decide +kernel
theorem mc_18_12 : mm_code 18 12 = some (20, (43, (0, 0))) := by decide +kernel
theorem mc_18_13 : mm_code 18 13 = some (21, (100, (0, 0))) := by decide +kernel
theorem mc_19_0 : mm_code 19 0 = some (0, (3, (1, 0))) := by decide +kernel
theorem mc_19_1 : mm_code 19 1 = some (1, (3, (2, 0))) := by decide +kernel
theorem mc_19_2 : mm_code 19 2 = some (2, (106, (15, 0))) := by decide +kernel
theorem mc_19_3 : mm_code 19 3 = some (5, (7, (3, 0))) := by decide +kernel
theorem mc_19_4 : mm_code 19 4 = some (6, (3, (3, 0))) := by decide +kernel
theorem mc_19_5 : mm_code 19 5 = some (7, (0, (0, (-1)))) := by decide +kernel
theorem mc_19_6 : mm_code 19 6 = some (8, (32, (9, 7))) := by decide +kernel
theorem mc_19_7 : mm_code 19 7 = some (11, (0, (0, (-1)))) := by decide +kernel
theorem mc_19_8 : mm_code 19 8 = some (12, (24, (13, 9))) := by decide +kernel
theorem mc_19_9 : mm_code 19 9 = some (15, (5, (0, 0))) := by decide +kernel
theorem mc_19_10 : mm_code 19 10 = some (16, (40, (9, 0))) := by decide +kernel
theorem mc_19_11 : mm_code 19 11 = some (19, (3, (3, 0))) := by decide +kernel
theorem mc_19_12 : mm_code 19 12 = some (20, (43, (0, 0))) := by decide +kernel
theorem mc_19_13 : mm_code 19 13 = some (21, (100, (0, 0))) := by decide +kernel
theorem mc_20_0 : mm_code 20 0 = some (0, (0, (0, 0))) := by decide +kernel
theorem mc_20_1 : mm_code 20 1 = some (1, (7, (2, 0))) := by decide +kernel
theorem mc_20_2 : mm_code 20 2 = some (2, (0, (0, 0))) := by decide +kernel
theorem mc_20_3 : mm_code 20 3 = some (3, (7, (3, 0))) := by decide +kernel
theorem mc_20_4 : mm_code 20 4 = some (4, (3, (3, 0))) := by decide +kernel
theorem mc_20_5 : mm_code 20 5 = some (5, (0, (0, 4))) := by decide +kernel
theorem mc_20_6 : mm_code 20 6 = some (6, (34, (16, 18))) := by decide +kernel
theorem mc_20_7 : mm_code 20 7 = some (9, (3, (2, 0))) := by decide +kernel
theorem mc_20_8 : mm_code 20 8 = some (10, (5, (0, 0))) := by decide +kernel
theorem mc_20_9 : mm_code 20 9 = some (11, (3, (1, 0))) := by decide +kernel
theorem mc_20_10 : mm_code 20 10 = some (12, (3, (3, 0))) := by decide +kernel
theorem mc_20_11 : mm_code 20 11 = some (13, (105, (16, 0))) := by decide +kernel
theorem mc_20_12 : mm_code 20 12 = some (16, (11, (0, 0))) := by decide +kernel
theorem mc_20_13 : mm_code 20 13 = some (17, (7, (2, 0))) := by decide +kernel
theorem mc_20_14 : mm_code 20 14 = some (18, (20, (3, 1))) := by decide +kernel
theorem mc_20_15 : mm_code 20 15 = some (21, (24, (4, (-17)))) := by decide +kernel
theorem mc_20_16 : mm_code 20 16 = some (24, (3, (2, 0))) := by decide +kernel
theorem mc_20_17 : mm_code 20 17 = some (25, (100, (0, 0))) := by decide +kernel
theorem mc_21_0 : mm_code 21 0 = some (0, (0, (0, 0))) := by decide +kernel
theorem mc_21_1 : mm_code 21 1 = some (1, (7, (3, 0))) := by decide +kernel
theorem mc_21_2 : mm_code 21 2 = some (2, (3, (3, 0))) := by decide +kernel
theorem mc_21_3 : mm_code 21 3 = some (3, (0, (0, 4))) := by decide +kernel
theorem mc_21_4 : mm_code 21 4 = some (4, (34, (27, 41))) := by decide +kernel
theorem mc_21_5 : mm_code 21 5 = some (7, (3, (2, 0))) := by decide +kernel
theorem mc_21_6 : mm_code 21 6 = some (8, (3, (3, 0))) := by decide +kernel
theorem mc_21_7 : mm_code 21 7 = some (9, (17, (0, 0))) := by decide +kernel
theorem mc_21_8 : mm_code 21 8 = some (10, (0, (0, 1))) := by decide +kernel
theorem mc_21_9 : mm_code 21 9 = some (11, (18, (0, 0))) := by decide +kernel
theorem mc_21_10 : mm_code 21 10 = some (12, (0, (0, 1))) := by decide +kernel
theorem mc_21_11 : mm_code 21 11 = some (13, (32, (14, 7))) := by decide +kernel
theorem mc_21_12 : mm_code 21 12 = some (16, (0, (0, 1))) := by decide +kernel
theorem mc_21_13 : mm_code 21 13 = some (17, (24, (15, 4))) := by decide +kernel
theorem mc_21_14 : mm_code 21 14 = some (20, (0, (0, 0))) := by decide +kernel
theorem mc_21_15 : mm_code 21 15 = some (21, (8, (4, 0))) := by decide +kernel
theorem mc_21_16 : mm_code 21 16 = some (23, (4, (4, 0))) := by decide +kernel
theorem mc_21_17 : mm_code 21 17 = some (25, (25, (25, 14))) := by decide +kernel
theorem mc_21_18 : mm_code 21 18 = some (28, (5, (0, 0))) := by decide +kernel
theorem mc_21_19 : mm_code 21 19 = some (29, (3, (1, 0))) := by decide +kernel
theorem mc_21_20 : mm_code 21 20 = some (30, (3, (3, 0))) := by decide +kernel
theorem mc_21_21 : mm_code 21 21 = some (31, (105, (16, 0))) := by decide +kernel
theorem mc_21_22 : mm_code 21 22 = some (34, (26, (25, 5))) := by decide +kernel
theorem mc_21_23 : mm_code 21 23 = some (37, (0, (0, 0))) := by decide +kernel
theorem mc_21_24 : mm_code 21 24 = some (38, (101, (0, 0))) := by decide +kernel
theorem mc_21_25 : mm_code 21 25 = some (39, (20, (3, 1))) := by decide +kernel
theorem mc_21_26 : mm_code 21 26 = some (42, (24, (2, (-40)))) := by decide +kernel
theorem mc_21_27 : mm_code 21 27 = some (45, (0, (0, 1))) := by decide +kernel
theorem mc_21_28 : mm_code 21 28 = some (46, (101, (0, 0))) := by decide +kernel
theorem mc_22_0 : mm_code 22 0 = some (0, (3, (1, 0))) := by decide +kernel
theorem mc_22_1 : mm_code 22 1 = some (1, (3, (2, 0))) := by decide +kernel
theorem mc_22_2 : mm_code 22 2 = some (2, (106, (15, 0))) := by decide +kernel
theorem mc_22_3 : mm_code 22 3 = some (5, (8, (4, 0))) := by decide +kernel
theorem mc_22_4 : mm_code 22 4 = some (7, (4, (4, 0))) := by decide +kernel
theorem mc_22_5 : mm_code 22 5 = some (9, (0, (0, (-1)))) := by decide +kernel
theorem mc_22_6 : mm_code 22 6 = some (10, (32, (8, 4))) := by decide +kernel
theorem mc_22_7 : mm_code 22 7 = some (13, (103, (0, 0))) := by decide +kernel
theorem mc_22_8 : mm_code 22 8 = some (14, (5, (0, 0))) := by decide +kernel
theorem mc_22_9 : mm_code 22 9 = some (15, (40, (7, 0))) := by decide +kernel
theorem mc_22_10 : mm_code 22 10 = some (18, (4, (4, 0))) := by decide +kernel
theorem mc_22_11 : mm_code 22 11 = some (20, (43, (0, 0))) := by decide +kernel
theorem mc_22_12 : mm_code 22 12 = some (21, (26, (18, 11))) := by decide +kernel
theorem mc_22_13 : mm_code 22 13 = some (24, (5, (0, 0))) := by decide +kernel
theorem mc_22_14 : mm_code 22 14 = some (25, (40, (8, 0))) := by decide +kernel
theorem mc_22_15 : mm_code 22 15 = some (28, (4, (4, 0))) := by decide +kernel
theorem mc_22_16 : mm_code 22 16 = some (30, (3, (3, 0))) := by decide +kernel
theorem mc_22_17 : mm_code 22 17 = some (31, (44, (0, 0))) := by decide +kernel
theorem mc_22_18 : mm_code 22 18 = some (32, (5, (0, 0))) := by decide +kernel
theorem mc_22_19 : mm_code 22 19 = some (33, (40, (9, 0))) := by decide +kernel
theorem mc_22_20 : mm_code 22 20 = some (36, (4, (4, 0))) := by decide +kernel
theorem mc_22_21 : mm_code 22 21 = some (38, (3, (3, 0))) := by decide +kernel
theorem mc_22_22 : mm_code 22 22 = some (39, (44, (0, 0))) := by decide +kernel
theorem mc_22_23 : mm_code 22 23 = some (40, (5, (0, 0))) := by decide +kernel
theorem mc_22_24 : mm_code 22 24 = some (41, (40, (7, 0))) := by decide +kernel
theorem mc_22_25 : mm_code 22 25 = some (44, (4, (4, 0))) := by decide +kernel
theorem mc_22_26 : mm_code 22 26 = some (46, (22, (0, 0))) := by decide +kernel
theorem mc_22_27 : mm_code 22 27 = some (47, (43, (0, 0))) := by decide +kernel
theorem mc_22_28 : mm_code 22 28 = some (48, (0, (0, 1))) := by decide +kernel
theorem mc_22_29 : mm_code 22 29 = some (49, (11, (0, 0))) := by decide +kernel
theorem mc_22_30 : mm_code 22 30 = some (50, (44, (0, 0))) := by decide +kernel
theorem mc_22_31 : mm_code 22 31 = some (51, (103, (0, 0))) := by decide +kernel
theorem mc_23_0 : mm_code 23 0 = some (0, (0, (0, 0))) := by decide +kernel
theorem mc_23_1 : mm_code 23 1 = some (1, (7, (3, 0))) := by decide +kernel
theorem mc_23_2 : mm_code 23 2 = some (2, (3, (3, 0))) := by decide +kernel
theorem mc_23_3 : mm_code 23 3 = some (3, (0, (0, 4))) := by decide +kernel
theorem mc_23_4 : mm_code 23 4 = some (4, (34, (57, 101))) := by decide +kernel
theorem mc_23_5 : mm_code 23 5 = some (7, (3, (1, 0))) := by decide +kernel
theorem mc_23_6 : mm_code 23 6 = some (8, (3, (3, 0))) := by decide +kernel
theorem mc_23_7 : mm_code 23 7 = some (9, (106, (15, 0))) := by decide +kernel
theorem mc_23_8 : mm_code 23 8 = some (12, (8, (4, 0))) := by decide +kernel
theorem mc_23_9 : mm_code 23 9 = some (14, (3, (2, 0))) := by decide +kernel
theorem mc_23_10 : mm_code 23 10 = some (15, (3, (3, 0))) := by decide +kernel
theorem mc_23_11 : mm_code 23 11 = some (16, (106, (15, 0))) := by decide +kernel
theorem mc_23_12 : mm_code 23 12 = some (19, (8, (5, 0))) := by decide +kernel
theorem mc_23_13 : mm_code 23 13 = some (21, (4, (4, 0))) := by decide +kernel
theorem mc_23_14 : mm_code 23 14 = some (23, (0, (0, (-1)))) := by decide +kernel
theorem mc_23_15 : mm_code 23 15 = some (24, (31, (55, 75))) := by decide +kernel
theorem mc_23_16 : mm_code 23 16 = some (27, (5, (0, 0))) := by decide +kernel
theorem mc_23_17 : mm_code 23 17 = some (28, (40, (7, 0))) := by decide +kernel
theorem mc_23_18 : mm_code 23 18 = some (31, (4, (4, 0))) := by decide +kernel
theorem mc_23_19 : mm_code 23 19 = some (33, (4, (5, 0))) := by decide +kernel
theorem mc_23_20 : mm_code 23 20 = some (35, (0, (0, (-1)))) := by decide +kernel
theorem mc_23_21 : mm_code 23 21 = some (36, (32, (24, 7))) := by decide +kernel
theorem mc_23_22 : mm_code 23 22 = some (39, (0, (0, 0))) := by decide +kernel
theorem mc_23_23 : mm_code 23 23 = some (40, (24, (28, 10))) := by decide +kernel
theorem mc_23_24 : mm_code 23 24 = some (43, (5, (0, 0))) := by decide +kernel
theorem mc_23_25 : mm_code 23 25 = some (44, (40, (7, 0))) := by decide +kernel
theorem mc_23_26 : mm_code 23 26 = some (47, (4, (5, 0))) := by decide +kernel
theorem mc_23_27 : mm_code 23 27 = some (49, (43, (0, 0))) := by decide +kernel
theorem mc_23_28 : mm_code 23 28 = some (50, (44, (0, 0))) := by decide +kernel
theorem mc_23_29 : mm_code 23 29 = some (51, (5, (0, 0))) := by decide +kernel
theorem mc_23_30 : mm_code 23 30 = some (52, (40, (8, 0))) := by decide +kernel
theorem mc_23_31 : mm_code 23 31 = some (55, (4, (4, 0))) := by decide +kernel
theorem mc_23_32 : mm_code 23 32 = some (57, (4, (5, 0))) := by decide +kernel
theorem mc_23_33 : mm_code 23 33 = some (59, (0, (0, (-1)))) := by decide +kernel
theorem mc_23_34 : mm_code 23 34 = some (60, (32, (37, 7))) := by decide +kernel
theorem mc_23_35 : mm_code 23 35 = some (63, (0, (0, (-1)))) := by decide +kernel
theorem mc_23_36 : mm_code 23 36 = some (64, (24, (41, 10))) := by decide +kernel
theorem mc_23_37 : mm_code 23 37 = some (67, (5, (0, 0))) := by decide +kernel
theorem mc_23_38 : mm_code 23 38 = some (68, (40, (8, 0))) := by decide +kernel
theorem mc_23_39 : mm_code 23 39 = some (71, (4, (5, 0))) := by decide +kernel
theorem mc_23_40 : mm_code 23 40 = some (73, (43, (0, 0))) := by decide +kernel
theorem mc_23_41 : mm_code 23 41 = some (74, (44, (0, 0))) := by decide +kernel
theorem mc_23_42 : mm_code 23 42 = some (75, (5, (0, 0))) := by decide +kernel
theorem mc_23_43 : mm_code 23 43 = some (76, (40, (9, 0))) := by decide +kernel
theorem mc_23_44 : mm_code 23 44 = some (79, (4, (4, 0))) := by decide +kernel
theorem mc_23_45 : mm_code 23 45 = some (81, (4, (5, 0))) := by decide +kernel
theorem mc_23_46 : mm_code 23 46 = some (83, (0, (0, (-1)))) := by decide +kernel
theorem mc_23_47 : mm_code 23 47 = some (84, (32, (50, 7))) := by decide +kernel
theorem mc_23_48 : mm_code 23 48 = some (87, (0, (0, (-1)))) := by decide +kernel
theorem mc_23_49 : mm_code 23 49 = some (88, (24, (54, 10))) := by decide +kernel
theorem mc_23_50 : mm_code 23 50 = some (91, (5, (0, 0))) := by decide +kernel
theorem mc_23_51 : mm_code 23 51 = some (92, (40, (9, 0))) := by decide +kernel
theorem mc_23_52 : mm_code 23 52 = some (95, (4, (5, 0))) := by decide +kernel
theorem mc_23_53 : mm_code 23 53 = some (97, (43, (0, 0))) := by decide +kernel
theorem mc_23_54 : mm_code 23 54 = some (98, (44, (0, 0))) := by decide +kernel
theorem mc_23_55 : mm_code 23 55 = some (99, (20, (3, 1))) := by decide +kernel
theorem mc_23_56 : mm_code 23 56 = some (102, (24, (2, (-100)))) := by decide +kernel
theorem mc_23_57 : mm_code 23 57 = some (105, (103, (0, 0))) := by decide +kernel
theorem mc_24_0 : mm_code 24 0 = some (0, (3, (0, 0))) := by decide +kernel
theorem mc_24_1 : mm_code 24 1 = some (1, (27, (12, 23))) := by decide +kernel
theorem mc_24_2 : mm_code 24 2 = some (4, (3, (0, 0))) := by decide +kernel
theorem mc_24_3 : mm_code 24 3 = some (5, (2, (0, 201))) := by decide +kernel
theorem mc_24_4 : mm_code 24 4 = some (8, (34, (12, 16))) := by decide +kernel
theorem mc_24_5 : mm_code 24 5 = some (11, (3, (1, 0))) := by decide +kernel
theorem mc_24_6 : mm_code 24 6 = some (12, (27, (12, 12))) := by decide +kernel
theorem mc_24_7 : mm_code 24 7 = some (15, (3, (1, 0))) := by decide +kernel
theorem mc_24_8 : mm_code 24 8 = some (16, (0, (0, 4))) := by decide +kernel
theorem mc_24_9 : mm_code 24 9 = some (17, (34, (12, 7))) := by decide +kernel
theorem mc_24_10 : mm_code 24 10 = some (20, (0, (0, 1))) := by decide +kernel
theorem mc_24_11 : mm_code 24 11 = some (21, (24, (13, 4))) := by decide +kernel
theorem mc_24_12 : mm_code 24 12 = some (24, (0, (0, 0))) := by decide +kernel
theorem mc_24_13 : mm_code 24 13 = some (25, (7, (2, 0))) := by decide +kernel
theorem mc_24_14 : mm_code 24 14 = some (26, (3, (2, 0))) := by decide +kernel
theorem mc_24_15 : mm_code 24 15 = some (27, (25, (22, 11))) := by decide +kernel
theorem mc_24_16 : mm_code 24 16 = some (30, (3, (0, 0))) := by decide +kernel
theorem mc_24_17 : mm_code 24 17 = some (31, (0, (0, 4))) := by decide +kernel
theorem mc_24_18 : mm_code 24 18 = some (32, (13, (0, 0))) := by decide +kernel
theorem mc_24_19 : mm_code 24 19 = some (33, (3, (1, 0))) := by decide +kernel
theorem mc_24_20 : mm_code 24 20 = some (34, (11, (0, 0))) := by decide +kernel
theorem mc_24_21 : mm_code 24 21 = some (35, (24, (23, 4))) := by decide +kernel
theorem mc_24_22 : mm_code 24 22 = some (38, (0, (0, (-1)))) := by decide +kernel
theorem mc_24_23 : mm_code 24 23 = some (39, (100, (0, 0))) := by decide +kernel
theorem mc_25_0 : mm_code 25 0 = some (0, (5, (0, 0))) := by decide +kernel
theorem mc_25_1 : mm_code 25 1 = some (1, (57, (3, 0))) := by decide +kernel
theorem mc_25_2 : mm_code 25 2 = some (4, (5, (0, 0))) := by decide +kernel
theorem mc_25_3 : mm_code 25 3 = some (5, (50, (9, 0))) := by decide +kernel
theorem mc_25_4 : mm_code 25 4 = some (8, (21, (0, 0))) := by decide +kernel
theorem mc_25_5 : mm_code 25 5 = some (9, (108, (17, 0))) := by decide +kernel
theorem mc_25_6 : mm_code 25 6 = some (12, (42, (10, 0))) := by decide +kernel
theorem mc_25_7 : mm_code 25 7 = some (15, (5, (0, 0))) := by decide +kernel
theorem mc_25_8 : mm_code 25 8 = some (16, (2, (0, 201))) := by decide +kernel
theorem mc_25_9 : mm_code 25 9 = some (19, (51, (0, 0))) := by decide +kernel
theorem mc_25_10 : mm_code 25 10 = some (21, (42, (11, 0))) := by decide +kernel
theorem mc_25_11 : mm_code 25 11 = some (24, (5, (0, 0))) := by decide +kernel
theorem mc_25_12 : mm_code 25 12 = some (25, (0, (0, 0))) := by decide +kernel
theorem mc_25_13 : mm_code 25 13 = some (26, (41, (12, 0))) := by decide +kernel
theorem mc_25_14 : mm_code 25 14 = some (29, (103, (0, 0))) := by decide +kernel
theorem mc_26_0 : mm_code 26 0 = some (0, (5, (0, 0))) := by decide +kernel
theorem mc_26_1 : mm_code 26 1 = some (1, (0, (0, 0))) := by decide +kernel
theorem mc_26_2 : mm_code 26 2 = some (2, (41, (12, 0))) := by decide +kernel
theorem mc_26_3 : mm_code 26 3 = some (5, (5, (0, 0))) := by decide +kernel
theorem mc_26_4 : mm_code 26 4 = some (6, (40, (10, 0))) := by decide +kernel
theorem mc_26_5 : mm_code 26 5 = some (9, (105, (18, 0))) := by decide +kernel
theorem mc_26_6 : mm_code 26 6 = some (12, (0, (0, 1))) := by decide +kernel
theorem mc_26_7 : mm_code 26 7 = some (13, (12, (0, 0))) := by decide +kernel
theorem mc_26_8 : mm_code 26 8 = some (14, (7, (1, 0))) := by decide +kernel
theorem mc_26_9 : mm_code 26 9 = some (15, (3, (1, 0))) := by decide +kernel
theorem mc_26_10 : mm_code 26 10 = some (16, (27, (41, 59))) := by decide +kernel
theorem mc_26_11 : mm_code 26 11 = some (19, (5, (0, 0))) := by decide +kernel
theorem mc_26_12 : mm_code 26 12 = some (20, (40, (10, 0))) := by decide +kernel
theorem mc_26_13 : mm_code 26 13 = some (23, (3, (1, 0))) := by decide +kernel
theorem mc_26_14 : mm_code 26 14 = some (24, (105, (19, 0))) := by decide +kernel
theorem mc_26_15 : mm_code 26 15 = some (27, (7, (2, 0))) := by decide +kernel
theorem mc_26_16 : mm_code 26 16 = some (28, (0, (0, 1))) := by decide +kernel
theorem mc_26_17 : mm_code 26 17 = some (29, (7, (3, 0))) := by decide +kernel
theorem mc_26_18 : mm_code 26 18 = some (30, (0, (0, 0))) := by decide +kernel
theorem mc_26_19 : mm_code 26 19 = some (31, (8, (4, 0))) := by decide +kernel
theorem mc_26_20 : mm_code 26 20 = some (33, (4, (4, 0))) := by decide +kernel
theorem mc_26_21 : mm_code 26 21 = some (35, (1, (0, 26))) := by decide +kernel
theorem mc_26_22 : mm_code 26 22 = some (37, (34, (35, 26))) := by decide +kernel
theorem mc_26_23 : mm_code 26 23 = some (40, (3, (3, 0))) := by decide +kernel
theorem mc_26_24 : mm_code 26 24 = some (41, (5, (0, 0))) := by decide +kernel
theorem mc_26_25 : mm_code 26 25 = some (42, (5, (0, 0))) := by decide +kernel
theorem mc_26_26 : mm_code 26 26 = some (43, (40, (10, 0))) := by decide +kernel
theorem mc_26_27 : mm_code 26 27 = some (46, (3, (2, 0))) := by decide +kernel
theorem mc_26_28 : mm_code 26 28 = some (47, (4, (4, 0))) := by decide +kernel
theorem mc_26_29 : mm_code 26 29 = some (49, (105, (20, 0))) := by decide +kernel
theorem mc_26_30 : mm_code 26 30 = some (52, (105, (21, 0))) := by decide +kernel
theorem mc_26_31 : mm_code 26 31 = some (55, (11, (0, 0))) := by decide +kernel
theorem mc_26_32 : mm_code 26 32 = some (56, (7, (3, 0))) := by decide +kernel
theorem mc_26_33 : mm_code 26 33 = some (57, (20, (4, 1))) := by decide +kernel
theorem mc_26_34 : mm_code 26 34 = some (60, (24, (20, (-27)))) := by decide +kernel
theorem mc_26_35 : mm_code 26 35 = some (63, (5, (0, 0))) := by decide +kernel
theorem mc_26_36 : mm_code 26 36 = some (64, (3, (2, 0))) := by decide +kernel
theorem mc_26_37 : mm_code 26 37 = some (65, (3, (3, 0))) := by decide +kernel
theorem mc_26_38 : mm_code 26 38 = some (66, (105, (22, 0))) := by decide +kernel
theorem mc_26_39 : mm_code 26 39 = some (69, (20, (1, (-1)))) := by decide +kernel
theorem mc_26_40 : mm_code 26 40 = some (72, (24, (9, (-57)))) := by decide +kernel
theorem mc_26_41 : mm_code 26 41 = some (75, (103, (0, 0))) := by decide +kernel
theorem mc_27_0 : mm_code 27 0 = some (0, (5, (0, 0))) := by decide +kernel
theorem mc_27_1 : mm_code 27 1 = some (1, (0, (0, (-1)))) := by decide +kernel
theorem mc_27_2 : mm_code 27 2 = some (2, (41, (12, 0))) := by decide +kernel
theorem mc_27_3 : mm_code 27 3 = some (5, (5, (0, 0))) := by decide +kernel
theorem mc_27_4 : mm_code 27 4 = some (6, (40, (10, 0))) := by decide +kernel
theorem mc_27_5 : mm_code 27 5 = some (9, (105, (18, 0))) := by decide +kernel
theorem mc_27_6 : mm_code 27 6 = some (12, (0, (0, 1))) := by decide +kernel
theorem mc_27_7 : mm_code 27 7 = some (13, (12, (0, 0))) := by decide +kernel
theorem mc_27_8 : mm_code 27 8 = some (14, (7, (3, 0))) := by decide +kernel
theorem mc_27_9 : mm_code 27 9 = some (15, (3, (3, 0))) := by decide +kernel
theorem mc_27_10 : mm_code 27 10 = some (16, (27, (51, 85))) := by decide +kernel
theorem mc_27_11 : mm_code 27 11 = some (19, (5, (0, 0))) := by decide +kernel
theorem mc_27_12 : mm_code 27 12 = some (20, (40, (10, 0))) := by decide +kernel
theorem mc_27_13 : mm_code 27 13 = some (23, (3, (3, 0))) := by decide +kernel
theorem mc_27_14 : mm_code 27 14 = some (24, (105, (19, 0))) := by decide +kernel
theorem mc_27_15 : mm_code 27 15 = some (27, (8, (4, 0))) := by decide +kernel
theorem mc_27_16 : mm_code 27 16 = some (29, (0, (0, (-1)))) := by decide +kernel
theorem mc_27_17 : mm_code 27 17 = some (30, (8, (5, 0))) := by decide +kernel
theorem mc_27_18 : mm_code 27 18 = some (32, (0, (0, 0))) := by decide +kernel
theorem mc_27_19 : mm_code 27 19 = some (33, (8, (6, 0))) := by decide +kernel
theorem mc_27_20 : mm_code 27 20 = some (35, (4, (6, 0))) := by decide +kernel
theorem mc_27_21 : mm_code 27 21 = some (37, (1, (0, 26))) := by decide +kernel
theorem mc_27_22 : mm_code 27 22 = some (39, (34, (35, 31))) := by decide +kernel
theorem mc_27_23 : mm_code 27 23 = some (42, (4, (5, 0))) := by decide +kernel
theorem mc_27_24 : mm_code 27 24 = some (44, (5, (0, 0))) := by decide +kernel
theorem mc_27_25 : mm_code 27 25 = some (45, (5, (0, 0))) := by decide +kernel
theorem mc_27_26 : mm_code 27 26 = some (46, (40, (10, 0))) := by decide +kernel
theorem mc_27_27 : mm_code 27 27 = some (49, (4, (4, 0))) := by decide +kernel
theorem mc_27_28 : mm_code 27 28 = some (51, (4, (6, 0))) := by decide +kernel
theorem mc_27_29 : mm_code 27 29 = some (53, (105, (20, 0))) := by decide +kernel
theorem mc_27_30 : mm_code 27 30 = some (56, (105, (21, 0))) := by decide +kernel
theorem mc_27_31 : mm_code 27 31 = some (59, (58, (45, 0))) := by decide +kernel
theorem mc_27_32 : mm_code 27 32 = some (62, (8, (5, 0))) := by decide +kernel
theorem mc_27_33 : mm_code 27 33 = some (64, (20, (6, 1))) := by decide +kernel
theorem mc_27_34 : mm_code 27 34 = some (67, (24, (20, (-32)))) := by decide +kernel
theorem mc_27_35 : mm_code 27 35 = some (70, (5, (0, 0))) := by decide +kernel
theorem mc_27_36 : mm_code 27 36 = some (71, (4, (4, 0))) := by decide +kernel
theorem mc_27_37 : mm_code 27 37 = some (73, (5, (0, 0))) := by decide +kernel
theorem mc_27_38 : mm_code 27 38 = some (74, (4, (4, 0))) := by decide +kernel
theorem mc_27_39 : mm_code 27 39 = some (76, (3, (1, 0))) := by decide +kernel
theorem mc_27_40 : mm_code 27 40 = some (77, (3, (2, 0))) := by decide +kernel
theorem mc_27_41 : mm_code 27 41 = some (78, (105, (23, 0))) := by decide +kernel
theorem mc_27_42 : mm_code 27 42 = some (81, (25, (47, 10))) := by decide +kernel
theorem mc_27_43 : mm_code 27 43 = some (84, (4, (5, 0))) := by decide +kernel
theorem mc_27_44 : mm_code 27 44 = some (86, (0, (0, 1))) := by decide +kernel
theorem mc_27_45 : mm_code 27 45 = some (87, (11, (0, 0))) := by decide +kernel
theorem mc_27_46 : mm_code 27 46 = some (88, (24, (48, 4))) := by decide +kernel
theorem mc_27_47 : mm_code 27 47 = some (91, (0, (0, (-1)))) := by decide +kernel
theorem mc_27_48 : mm_code 27 48 = some (92, (105, (22, 0))) := by decide +kernel
theorem mc_27_49 : mm_code 27 49 = some (95, (20, (3, (-1)))) := by decide +kernel
theorem mc_27_50 : mm_code 27 50 = some (98, (24, (9, (-83)))) := by decide +kernel
theorem mc_27_51 : mm_code 27 51 = some (101, (103, (0, 0))) := by decide +kernel
theorem mc_28_0 : mm_code 28 0 = some (0, (5, (0, 0))) := by decide +kernel
theorem mc_28_1 : mm_code 28 1 = some (1, (0, (0, 0))) := by decide +kernel
theorem mc_28_2 : mm_code 28 2 = some (2, (41, (12, 0))) := by decide +kernel
theorem mc_28_3 : mm_code 28 3 = some (5, (5, (0, 0))) := by decide +kernel
theorem mc_28_4 : mm_code 28 4 = some (6, (40, (10, 0))) := by decide +kernel
theorem mc_28_5 : mm_code 28 5 = some (9, (105, (18, 0))) := by decide +kernel
theorem mc_28_6 : mm_code 28 6 = some (12, (0, (0, 1))) := by decide +kernel
theorem mc_28_7 : mm_code 28 7 = some (13, (12, (0, 0))) := by decide +kernel
theorem mc_28_8 : mm_code 28 8 = some (14, (7, (2, 0))) := by decide +kernel
theorem mc_28_9 : mm_code 28 9 = some (15, (3, (2, 0))) := by decide +kernel
theorem mc_28_10 : mm_code 28 10 = some (16, (27, (43, 67))) := by decide +kernel
theorem mc_28_11 : mm_code 28 11 = some (19, (5, (0, 0))) := by decide +kernel
theorem mc_28_12 : mm_code 28 12 = some (20, (40, (10, 0))) := by decide +kernel
theorem mc_28_13 : mm_code 28 13 = some (23, (3, (2, 0))) := by decide +kernel
theorem mc_28_14 : mm_code 28 14 = some (24, (105, (19, 0))) := by decide +kernel
theorem mc_28_15 : mm_code 28 15 = some (27, (7, (3, 0))) := by decide +kernel
theorem mc_28_16 : mm_code 28 16 = some (28, (1, (0, 100))) := by decide +kernel
theorem mc_28_17 : mm_code 28 17 = some (30, (8, (4, 0))) := by decide +kernel
theorem mc_28_18 : mm_code 28 18 = some (32, (0, (0, 0))) := by decide +kernel
theorem mc_28_19 : mm_code 28 19 = some (33, (8, (5, 0))) := by decide +kernel
theorem mc_28_20 : mm_code 28 20 = some (35, (4, (5, 0))) := by decide +kernel
theorem mc_28_21 : mm_code 28 21 = some (37, (3, (1, 0))) := by decide +kernel
theorem mc_28_22 : mm_code 28 22 = some (38, (34, (35, 30))) := by decide +kernel
theorem mc_28_23 : mm_code 28 23 = some (41, (4, (4, 0))) := by decide +kernel
theorem mc_28_24 : mm_code 28 24 = some (43, (5, (0, 0))) := by decide +kernel
theorem mc_28_25 : mm_code 28 25 = some (44, (5, (0, 0))) := by decide +kernel
theorem mc_28_26 : mm_code 28 26 = some (45, (40, (10, 0))) := by decide +kernel
theorem mc_28_27 : mm_code 28 27 = some (48, (3, (3, 0))) := by decide +kernel
theorem mc_28_28 : mm_code 28 28 = some (49, (4, (5, 0))) := by decide +kernel
theorem mc_28_29 : mm_code 28 29 = some (51, (105, (20, 0))) := by decide +kernel
theorem mc_28_30 : mm_code 28 30 = some (54, (105, (21, 0))) := by decide +kernel
theorem mc_28_31 : mm_code 28 31 = some (57, (59, (54, 0))) := by decide +kernel
theorem mc_28_32 : mm_code 28 32 = some (60, (8, (4, 0))) := by decide +kernel
theorem mc_28_33 : mm_code 28 33 = some (62, (20, (5, 1))) := by decide +kernel
theorem mc_28_34 : mm_code 28 34 = some (65, (24, (20, (-30)))) := by decide +kernel
theorem mc_28_35 : mm_code 28 35 = some (68, (5, (0, 0))) := by decide +kernel
theorem mc_28_36 : mm_code 28 36 = some (69, (3, (3, 0))) := by decide +kernel
theorem mc_28_37 : mm_code 28 37 = some (70, (4, (4, 0))) := by decide +kernel
theorem mc_28_38 : mm_code 28 38 = some (72, (0, (0, 1))) := by decide +kernel
theorem mc_28_39 : mm_code 28 39 = some (73, (11, (0, 0))) := by decide +kernel
theorem mc_28_40 : mm_code 28 40 = some (74, (105, (22, 0))) := by decide +kernel
theorem mc_28_41 : mm_code 28 41 = some (77, (20, (2, (-1)))) := by decide +kernel
theorem mc_28_42 : mm_code 28 42 = some (80, (24, (9, (-65)))) := by decide +kernel
theorem mc_28_43 : mm_code 28 43 = some (83, (103, (0, 0))) := by decide +kernel
theorem mc_29_0 : mm_code 29 0 = some (0, (0, (0, 0))) := by decide +kernel
theorem mc_29_1 : mm_code 29 1 = some (1, (7, (2, 0))) := by decide +kernel
theorem mc_29_2 : mm_code 29 2 = some (2, (0, (0, 0))) := by decide +kernel
theorem mc_29_3 : mm_code 29 3 = some (3, (7, (3, 0))) := by decide +kernel
theorem mc_29_4 : mm_code 29 4 = some (4, (5, (1, 0))) := by decide +kernel
theorem mc_29_5 : mm_code 29 5 = some (5, (38, (8, 7))) := by decide +kernel
theorem mc_29_6 : mm_code 29 6 = some (8, (0, (0, 0))) := by decide +kernel
theorem mc_29_7 : mm_code 29 7 = some (9, (24, (10, 7))) := by decide +kernel
theorem mc_29_8 : mm_code 29 8 = some (12, (5, (1, 0))) := by decide +kernel
theorem mc_29_9 : mm_code 29 9 = some (13, (105, (24, 0))) := by decide +kernel
theorem mc_29_10 : mm_code 29 10 = some (16, (8, (4, 0))) := by decide +kernel
theorem mc_29_11 : mm_code 29 11 = some (18, (0, (0, 0))) := by decide +kernel
theorem mc_29_12 : mm_code 29 12 = some (19, (8, (5, 0))) := by decide +kernel
theorem mc_29_13 : mm_code 29 13 = some (21, (4, (5, 0))) := by decide +kernel
theorem mc_29_14 : mm_code 29 14 = some (23, (4, (4, 0))) := by decide +kernel
theorem mc_29_15 : mm_code 29 15 = some (25, (34, (57, 83))) := by decide +kernel
theorem mc_29_16 : mm_code 29 16 = some (28, (3, (3, 0))) := by decide +kernel
theorem mc_29_17 : mm_code 29 17 = some (29, (0, (0, (-1)))) := by decide +kernel
theorem mc_29_18 : mm_code 29 18 = some (30, (31, (57, 78))) := by decide +kernel
theorem mc_29_19 : mm_code 29 19 = some (33, (5, (1, 0))) := by decide +kernel
theorem mc_29_20 : mm_code 29 20 = some (34, (4, (5, 0))) := by decide +kernel
theorem mc_29_21 : mm_code 29 21 = some (36, (105, (25, 0))) := by decide +kernel
theorem mc_29_22 : mm_code 29 22 = some (39, (8, (6, 0))) := by decide +kernel
theorem mc_29_23 : mm_code 29 23 = some (41, (0, (0, 0))) := by decide +kernel
theorem mc_29_24 : mm_code 29 24 = some (42, (8, (7, 0))) := by decide +kernel
theorem mc_29_25 : mm_code 29 25 = some (44, (4, (7, 0))) := by decide +kernel
theorem mc_29_26 : mm_code 29 26 = some (46, (4, (6, 0))) := by decide +kernel
theorem mc_29_27 : mm_code 29 27 = some (48, (34, (40, 26))) := by decide +kernel
theorem mc_29_28 : mm_code 29 28 = some (51, (3, (2, 0))) := by decide +kernel
theorem mc_29_29 : mm_code 29 29 = some (52, (5, (0, 0))) := by decide +kernel
theorem mc_29_30 : mm_code 29 30 = some (53, (5, (0, 0))) := by decide +kernel
theorem mc_29_31 : mm_code 29 31 = some (54, (40, (10, 0))) := by decide +kernel
theorem mc_29_32 : mm_code 29 32 = some (57, (3, (3, 0))) := by decide +kernel
theorem mc_29_33 : mm_code 29 33 = some (58, (4, (7, 0))) := by decide +kernel
theorem mc_29_34 : mm_code 29 34 = some (60, (105, (20, 0))) := by decide +kernel
theorem mc_29_35 : mm_code 29 35 = some (63, (105, (21, 0))) := by decide +kernel
theorem mc_29_36 : mm_code 29 36 = some (66, (11, (0, 0))) := by decide +kernel
theorem mc_29_37 : mm_code 29 37 = some (67, (7, (2, 0))) := by decide +kernel
theorem mc_29_38 : mm_code 29 38 = some (68, (20, (7, 1))) := by decide +kernel
theorem mc_29_39 : mm_code 29 39 = some (71, (24, (25, (-27)))) := by decide +kernel
theorem mc_29_40 : mm_code 29 40 = some (74, (5, (0, 0))) := by decide +kernel
theorem mc_29_41 : mm_code 29 41 = some (75, (40, (10, 0))) := by decide +kernel
theorem mc_29_42 : mm_code 29 42 = some (78, (3, (3, 0))) := by decide +kernel
theorem mc_29_43 : mm_code 29 43 = some (79, (4, (6, 0))) := by decide +kernel
theorem mc_29_44 : mm_code 29 44 = some (81, (105, (20, 0))) := by decide +kernel
theorem mc_29_45 : mm_code 29 45 = some (84, (7, (3, 0))) := by decide +kernel
theorem mc_29_46 : mm_code 29 46 = some (85, (3, (3, 0))) := by decide +kernel
theorem mc_29_47 : mm_code 29 47 = some (86, (0, (0, (-1)))) := by decide +kernel
theorem mc_29_48 : mm_code 29 48 = some (87, (31, (55, 15))) := by decide +kernel
theorem mc_29_49 : mm_code 29 49 = some (90, (4, (5, 0))) := by decide +kernel
theorem mc_29_50 : mm_code 29 50 = some (92, (4, (4, 0))) := by decide +kernel
theorem mc_29_51 : mm_code 29 51 = some (94, (0, (0, 1))) := by decide +kernel
theorem mc_29_52 : mm_code 29 52 = some (95, (12, (0, 0))) := by decide +kernel
theorem mc_29_53 : mm_code 29 53 = some (96, (34, (55, 6))) := by decide +kernel
theorem mc_29_54 : mm_code 29 54 = some (99, (20, (2, 1))) := by decide +kernel
theorem mc_29_55 : mm_code 29 55 = some (102, (20, (5, 1))) := by decide +kernel
theorem mc_29_56 : mm_code 29 56 = some (105, (24, (13, (-84)))) := by decide +kernel
theorem mc_29_57 : mm_code 29 57 = some (108, (3, (2, 0))) := by decide +kernel
theorem mc_29_58 : mm_code 29 58 = some (109, (100, (0, 0))) := by decide +kernel
theorem mc_30_0 : mm_code 30 0 = some (0, (5, (2, 0))) := by decide +kernel
theorem mc_30_1 : mm_code 30 1 = some (1, (38, (3, 4))) := by decide +kernel
theorem mc_30_2 : mm_code 30 2 = some (4, (103, (0, 0))) := by decide +kernel
theorem mc_30_3 : mm_code 30 3 = some (5, (5, (2, 0))) := by decide +kernel
theorem mc_30_4 : mm_code 30 4 = some (6, (105, (26, 0))) := by decide +kernel
theorem mc_30_5 : mm_code 30 5 = some (9, (0, (0, 0))) := by decide +kernel
theorem mc_30_6 : mm_code 30 6 = some (10, (7, (3, 0))) := by decide +kernel
theorem mc_30_7 : mm_code 30 7 = some (11, (3, (1, 0))) := by decide +kernel
theorem mc_30_8 : mm_code 30 8 = some (12, (8, (4, 0))) := by decide +kernel
theorem mc_30_9 : mm_code 30 9 = some (14, (0, (0, 0))) := by decide +kernel
theorem mc_30_10 : mm_code 30 10 = some (15, (8, (5, 0))) := by decide +kernel
theorem mc_30_11 : mm_code 30 11 = some (17, (4, (5, 0))) := by decide +kernel
theorem mc_30_12 : mm_code 30 12 = some (19, (1, (0, 100))) := by decide +kernel
theorem mc_30_13 : mm_code 30 13 = some (21, (34, (61, 101))) := by decide +kernel
theorem mc_30_14 : mm_code 30 14 = some (24, (4, (4, 0))) := by decide +kernel
theorem mc_30_15 : mm_code 30 15 = some (26, (27, (61, 96))) := by decide +kernel
theorem mc_30_16 : mm_code 30 16 = some (29, (3, (3, 0))) := by decide +kernel
theorem mc_30_17 : mm_code 30 17 = some (30, (0, (0, (-1)))) := by decide +kernel
theorem mc_30_18 : mm_code 30 18 = some (31, (31, (61, 91))) := by decide +kernel
theorem mc_30_19 : mm_code 30 19 = some (34, (0, (0, 0))) := by decide +kernel
theorem mc_30_20 : mm_code 30 20 = some (35, (8, (6, 0))) := by decide +kernel
theorem mc_30_21 : mm_code 30 21 = some (37, (5, (0, 0))) := by decide +kernel
theorem mc_30_22 : mm_code 30 22 = some (38, (5, (0, 0))) := by decide +kernel
theorem mc_30_23 : mm_code 30 23 = some (39, (40, (10, 0))) := by decide +kernel
theorem mc_30_24 : mm_code 30 24 = some (42, (3, (3, 0))) := by decide +kernel
theorem mc_30_25 : mm_code 30 25 = some (43, (4, (6, 0))) := by decide +kernel
theorem mc_30_26 : mm_code 30 26 = some (45, (105, (20, 0))) := by decide +kernel
theorem mc_30_27 : mm_code 30 27 = some (48, (105, (21, 0))) := by decide +kernel
theorem mc_30_28 : mm_code 30 28 = some (51, (8, (7, 0))) := by decide +kernel
theorem mc_30_29 : mm_code 30 29 = some (53, (4, (6, 0))) := by decide +kernel
theorem mc_30_30 : mm_code 30 30 = some (55, (1, (0, 26))) := by decide +kernel
theorem mc_30_31 : mm_code 30 31 = some (57, (34, (49, 39))) := by decide +kernel
theorem mc_30_32 : mm_code 30 32 = some (60, (4, (7, 0))) := by decide +kernel
theorem mc_30_33 : mm_code 30 33 = some (62, (4, (4, 0))) := by decide +kernel
theorem mc_30_34 : mm_code 30 34 = some (64, (35, (49, 32))) := by decide +kernel
theorem mc_30_35 : mm_code 30 35 = some (67, (4, (4, 0))) := by decide +kernel
theorem mc_30_36 : mm_code 30 36 = some (69, (4, (7, 0))) := by decide +kernel
theorem mc_30_37 : mm_code 30 37 = some (71, (12, (0, 0))) := by decide +kernel
theorem mc_30_38 : mm_code 30 38 = some (72, (8, (4, 0))) := by decide +kernel
theorem mc_30_39 : mm_code 30 39 = some (74, (20, (6, 1))) := by decide +kernel
theorem mc_30_40 : mm_code 30 40 = some (77, (5, (0, 0))) := by decide +kernel
theorem mc_30_41 : mm_code 30 41 = some (78, (5, (0, 0))) := by decide +kernel
theorem mc_30_42 : mm_code 30 42 = some (79, (40, (10, 0))) := by decide +kernel
theorem mc_30_43 : mm_code 30 43 = some (82, (3, (3, 0))) := by decide +kernel
theorem mc_30_44 : mm_code 30 44 = some (83, (4, (6, 0))) := by decide +kernel
theorem mc_30_45 : mm_code 30 45 = some (85, (105, (20, 0))) := by decide +kernel
theorem mc_30_46 : mm_code 30 46 = some (88, (105, (21, 0))) := by decide +kernel
theorem mc_30_47 : mm_code 30 47 = some (91, (8, (7, 0))) := by decide +kernel
theorem mc_30_48 : mm_code 30 48 = some (93, (24, (29, (-40)))) := by decide +kernel
theorem mc_30_49 : mm_code 30 49 = some (96, (5, (2, 0))) := by decide +kernel
theorem mc_30_50 : mm_code 30 50 = some (97, (4, (6, 0))) := by decide +kernel
theorem mc_30_51 : mm_code 30 51 = some (99, (105, (27, 0))) := by decide +kernel
theorem mc_30_52 : mm_code 30 52 = some (102, (5, (0, 0))) := by decide +kernel
theorem mc_30_53 : mm_code 30 53 = some (103, (40, (10, 0))) := by decide +kernel
theorem mc_30_54 : mm_code 30 54 = some (106, (3, (3, 0))) := by decide +kernel
theorem mc_30_55 : mm_code 30 55 = some (107, (4, (6, 0))) := by decide +kernel
theorem mc_30_56 : mm_code 30 56 = some (109, (105, (20, 0))) := by decide +kernel
theorem mc_30_57 : mm_code 30 57 = some (112, (7, (3, 0))) := by decide +kernel
theorem mc_30_58 : mm_code 30 58 = some (113, (20, (4, (-1)))) := by decide +kernel
theorem mc_30_59 : mm_code 30 59 = some (116, (20, (5, 1))) := by decide +kernel
theorem mc_30_60 : mm_code 30 60 = some (119, (24, (11, (-102)))) := by decide +kernel
theorem mc_30_61 : mm_code 30 61 = some (122, (103, (0, 0))) := by decide +kernel
theorem mc_31_0 : mm_code 31 0 = some (0, (5, (1, 0))) := by decide +kernel
theorem mc_31_1 : mm_code 31 1 = some (1, (38, (3, 4))) := by decide +kernel
theorem mc_31_2 : mm_code 31 2 = some (4, (103, (0, 0))) := by decide +kernel
theorem mc_31_3 : mm_code 31 3 = some (5, (5, (1, 0))) := by decide +kernel
theorem mc_31_4 : mm_code 31 4 = some (6, (105, (26, 0))) := by decide +kernel
theorem mc_31_5 : mm_code 31 5 = some (9, (0, (0, 0))) := by decide +kernel
theorem mc_31_6 : mm_code 31 6 = some (10, (7, (2, 0))) := by decide +kernel
theorem mc_31_7 : mm_code 31 7 = some (11, (5, (0, 0))) := by decide +kernel
theorem mc_31_8 : mm_code 31 8 = some (12, (0, (0, 0))) := by decide +kernel
theorem mc_31_9 : mm_code 31 9 = some (13, (105, (21, 0))) := by decide +kernel
theorem mc_31_10 : mm_code 31 10 = some (16, (0, (0, 1))) := by decide +kernel
theorem mc_31_11 : mm_code 31 11 = some (17, (12, (0, 0))) := by decide +kernel
theorem mc_31_12 : mm_code 31 12 = some (18, (7, (3, 0))) := by decide +kernel
theorem mc_31_13 : mm_code 31 13 = some (19, (3, (3, 0))) := by decide +kernel
theorem mc_31_14 : mm_code 31 14 = some (20, (27, (42, 60))) := by decide +kernel
theorem mc_31_15 : mm_code 31 15 = some (23, (0, (0, 0))) := by decide +kernel
theorem mc_31_16 : mm_code 31 16 = some (24, (8, (4, 0))) := by decide +kernel
theorem mc_31_17 : mm_code 31 17 = some (26, (4, (4, 0))) := by decide +kernel
theorem mc_31_18 : mm_code 31 18 = some (28, (1, (0, 26))) := by decide +kernel
theorem mc_31_19 : mm_code 31 19 = some (30, (34, (31, 27))) := by decide +kernel
theorem mc_31_20 : mm_code 31 20 = some (33, (5, (0, 0))) := by decide +kernel
theorem mc_31_21 : mm_code 31 21 = some (34, (5, (0, 0))) := by decide +kernel
theorem mc_31_22 : mm_code 31 22 = some (35, (40, (10, 0))) := by decide +kernel
theorem mc_31_23 : mm_code 31 23 = some (38, (3, (2, 0))) := by decide +kernel
theorem mc_31_24 : mm_code 31 24 = some (39, (4, (4, 0))) := by decide +kernel
theorem mc_31_25 : mm_code 31 25 = some (41, (105, (20, 0))) := by decide +kernel
theorem mc_31_26 : mm_code 31 26 = some (44, (105, (21, 0))) := by decide +kernel
theorem mc_31_27 : mm_code 31 27 = some (47, (3, (3, 0))) := by decide +kernel
theorem mc_31_28 : mm_code 31 28 = some (48, (31, (31, 9))) := by decide +kernel
theorem mc_31_29 : mm_code 31 29 = some (51, (20, (4, 1))) := by decide +kernel
theorem mc_31_30 : mm_code 31 30 = some (54, (24, (17, (-28)))) := by decide +kernel
theorem mc_31_31 : mm_code 31 31 = some (57, (5, (1, 0))) := by decide +kernel
theorem mc_31_32 : mm_code 31 32 = some (58, (4, (4, 0))) := by decide +kernel
theorem mc_31_33 : mm_code 31 33 = some (60, (105, (27, 0))) := by decide +kernel
theorem mc_31_34 : mm_code 31 34 = some (63, (5, (0, 0))) := by decide +kernel
theorem mc_31_35 : mm_code 31 35 = some (64, (40, (10, 0))) := by decide +kernel
theorem mc_31_36 : mm_code 31 36 = some (67, (3, (2, 0))) := by decide +kernel
theorem mc_31_37 : mm_code 31 37 = some (68, (4, (4, 0))) := by decide +kernel
theorem mc_31_38 : mm_code 31 38 = some (70, (105, (20, 0))) := by decide +kernel
theorem mc_31_39 : mm_code 31 39 = some (73, (7, (2, 0))) := by decide +kernel
theorem mc_31_40 : mm_code 31 40 = some (74, (20, (3, (-1)))) := by decide +kernel
theorem mc_31_41 : mm_code 31 41 = some (77, (24, (13, (-58)))) := by decide +kernel
theorem mc_31_42 : mm_code 31 42 = some (80, (103, (0, 0))) := by decide +kernel
theorem mc_32_0 : mm_code 32 0 = some (0, (3, (1, 0))) := by decide +kernel
theorem mc_32_1 : mm_code 32 1 = some (1, (25, (16, 33))) := by decide +kernel
theorem mc_32_2 : mm_code 32 2 = some (4, (5, (0, 0))) := by decide +kernel
theorem mc_32_3 : mm_code 32 3 = some (5, (40, (10, 0))) := by decide +kernel
theorem mc_32_4 : mm_code 32 4 = some (8, (40, (13, 0))) := by decide +kernel
theorem mc_32_5 : mm_code 32 5 = some (11, (3, (1, 0))) := by decide +kernel
theorem mc_32_6 : mm_code 32 6 = some (12, (3, (2, 0))) := by decide +kernel
theorem mc_32_7 : mm_code 32 7 = some (13, (105, (28, 0))) := by decide +kernel
theorem mc_32_8 : mm_code 32 8 = some (16, (25, (18, 22))) := by decide +kernel
theorem mc_32_9 : mm_code 32 9 = some (19, (5, (0, 0))) := by decide +kernel
theorem mc_32_10 : mm_code 32 10 = some (20, (40, (10, 0))) := by decide +kernel
theorem mc_32_11 : mm_code 32 11 = some (23, (40, (13, 0))) := by decide +kernel
theorem mc_32_12 : mm_code 32 12 = some (26, (3, (1, 0))) := by decide +kernel
theorem mc_32_13 : mm_code 32 13 = some (27, (105, (29, 0))) := by decide +kernel
theorem mc_32_14 : mm_code 32 14 = some (30, (3, (3, 0))) := by decide +kernel
theorem mc_32_15 : mm_code 32 15 = some (31, (33, (18, 7))) := by decide +kernel
theorem mc_32_16 : mm_code 32 16 = some (34, (0, (0, 1))) := by decide +kernel
theorem mc_32_17 : mm_code 32 17 = some (35, (24, (19, 4))) := by decide +kernel
theorem mc_32_18 : mm_code 32 18 = some (38, (0, (0, 0))) := by decide +kernel
theorem mc_32_19 : mm_code 32 19 = some (39, (101, (0, 0))) := by decide +kernel
theorem mc_33_0 : mm_code 33 0 = some (0, (3, (1, 0))) := by decide +kernel
theorem mc_33_1 : mm_code 33 1 = some (1, (5, (0, 0))) := by decide +kernel
theorem mc_33_2 : mm_code 33 2 = some (2, (40, (11, 0))) := by decide +kernel
theorem mc_33_3 : mm_code 33 3 = some (5, (49, (0, 0))) := by decide +kernel
theorem mc_33_4 : mm_code 33 4 = some (6, (107, (30, 0))) := by decide +kernel
theorem mc_33_5 : mm_code 33 5 = some (9, (25, (11, 12))) := by decide +kernel
theorem mc_33_6 : mm_code 33 6 = some (12, (5, (0, 0))) := by decide +kernel
theorem mc_33_7 : mm_code 33 7 = some (13, (40, (11, 0))) := by decide +kernel
theorem mc_33_8 : mm_code 33 8 = some (16, (3, (1, 0))) := by decide +kernel
theorem mc_33_9 : mm_code 33 9 = some (17, (43, (0, 0))) := by decide +kernel
theorem mc_33_10 : mm_code 33 10 = some (18, (24, (13, 7))) := by decide +kernel
theorem mc_33_11 : mm_code 33 11 = some (21, (5, (0, 0))) := by decide +kernel
theorem mc_33_12 : mm_code 33 12 = some (22, (40, (12, 0))) := by decide +kernel
theorem mc_33_13 : mm_code 33 13 = some (25, (100, (0, 0))) := by decide +kernel
theorem mc_34_0 : mm_code 34 0 = some (0, (3, (1, 0))) := by decide +kernel
theorem mc_34_1 : mm_code 34 1 = some (1, (5, (0, 0))) := by decide +kernel
theorem mc_34_2 : mm_code 34 2 = some (2, (40, (11, 0))) := by decide +kernel
theorem mc_34_3 : mm_code 34 3 = some (5, (49, (0, 0))) := by decide +kernel
theorem mc_34_4 : mm_code 34 4 = some (6, (107, (30, 0))) := by decide +kernel
theorem mc_34_5 : mm_code 34 5 = some (9, (25, (11, 10))) := by decide +kernel
theorem mc_34_6 : mm_code 34 6 = some (12, (5, (0, 0))) := by decide +kernel
theorem mc_34_7 : mm_code 34 7 = some (13, (40, (11, 0))) := by decide +kernel
theorem mc_34_8 : mm_code 34 8 = some (16, (3, (1, 0))) := by decide +kernel
theorem mc_34_9 : mm_code 34 9 = some (17, (3, (2, 0))) := by decide +kernel
theorem mc_34_10 : mm_code 34 10 = some (18, (44, (0, 0))) := by decide +kernel
theorem mc_34_11 : mm_code 34 11 = some (19, (103, (0, 0))) := by decide +kernel
theorem mc_35_0 : mm_code 35 0 = some (0, (5, (0, 0))) := by decide +kernel
theorem mc_35_1 : mm_code 35 1 = some (1, (57, (3, 0))) := by decide +kernel
theorem mc_35_2 : mm_code 35 2 = some (4, (5, (0, 0))) := by decide +kernel
theorem mc_35_3 : mm_code 35 3 = some (5, (3, (1, 0))) := by decide +kernel
theorem mc_35_4 : mm_code 35 4 = some (6, (0, (0, 0))) := by decide +kernel
theorem mc_35_5 : mm_code 35 5 = some (7, (58, (9, 0))) := by decide +kernel
theorem mc_35_6 : mm_code 35 6 = some (10, (51, (0, 0))) := by decide +kernel
theorem mc_35_7 : mm_code 35 7 = some (12, (42, (14, 0))) := by decide +kernel
theorem mc_35_8 : mm_code 35 8 = some (15, (5, (0, 0))) := by decide +kernel
theorem mc_35_9 : mm_code 35 9 = some (16, (0, (0, 0))) := by decide +kernel
theorem mc_35_10 : mm_code 35 10 = some (17, (41, (15, 0))) := by decide +kernel
theorem mc_35_11 : mm_code 35 11 = some (20, (103, (0, 0))) := by decide +kernel
theorem mc_36_0 : mm_code 36 0 = some (0, (5, (0, 0))) := by decide +kernel
theorem mc_36_1 : mm_code 36 1 = some (1, (40, (15, 0))) := by decide +kernel
theorem mc_36_2 : mm_code 36 2 = some (4, (100, (0, 0))) := by decide +kernel
theorem mc_37_0 : mm_code 37 0 = some (0, (3, (1, 0))) := by decide +kernel
theorem mc_37_1 : mm_code 37 1 = some (1, (5, (0, 0))) := by decide +kernel
theorem mc_37_2 : mm_code 37 2 = some (2, (40, (15, 0))) := by decide +kernel
theorem mc_37_3 : mm_code 37 3 = some (5, (107, (31, 0))) := by decide +kernel
theorem mc_37_4 : mm_code 37 4 = some (8, (25, (15, 21))) := by decide +kernel
theorem mc_37_5 : mm_code 37 5 = some (11, (3, (1, 0))) := by decide +kernel
theorem mc_37_6 : mm_code 37 6 = some (12, (5, (0, 0))) := by decide +kernel
theorem mc_37_7 : mm_code 37 7 = some (13, (40, (14, 0))) := by decide +kernel
theorem mc_37_8 : mm_code 37 8 = some (16, (49, (0, 0))) := by decide +kernel
theorem mc_37_9 : mm_code 37 9 = some (17, (34, (15, 12))) := by decide +kernel
theorem mc_37_10 : mm_code 37 10 = some (20, (5, (0, 0))) := by decide +kernel
theorem mc_37_11 : mm_code 37 11 = some (21, (40, (14, 0))) := by decide +kernel
theorem mc_37_12 : mm_code 37 12 = some (24, (3, (1, 0))) := by decide +kernel
theorem mc_37_13 : mm_code 37 13 = some (25, (43, (0, 0))) := by decide +kernel
theorem mc_37_14 : mm_code 37 14 = some (26, (24, (16, 4))) := by decide +kernel
theorem mc_37_15 : mm_code 37 15 = some (29, (0, (0, (-1)))) := by decide +kernel
theorem mc_37_16 : mm_code 37 16 = some (30, (100, (0, 0))) := by decide +kernel
theorem mc_38_0 : mm_code 38 0 = some (0, (5, (0, 0))) := by decide +kernel
theorem mc_38_1 : mm_code 38 1 = some (1, (40, (15, 0))) := by decide +kernel
theorem mc_38_2 : mm_code 38 2 = some (4, (5, (0, 0))) := by decide +kernel
theorem mc_38_3 : mm_code 38 3 = some (5, (40, (14, 0))) := by decide +kernel
theorem mc_38_4 : mm_code 38 4 = some (8, (49, (0, 0))) := by decide +kernel
theorem mc_38_5 : mm_code 38 5 = some (9, (107, (31, 0))) := by decide +kernel
theorem mc_38_6 : mm_code 38 6 = some (12, (25, (23, 32))) := by decide +kernel
theorem mc_38_7 : mm_code 38 7 = some (15, (3, (1, 0))) := by decide +kernel
theorem mc_38_8 : mm_code 38 8 = some (16, (1, (0, 26))) := by decide +kernel
theorem mc_38_9 : mm_code 38 9 = some (18, (107, (31, 0))) := by decide +kernel
theorem mc_38_10 : mm_code 38 10 = some (21, (25, (23, 23))) := by decide +kernel
theorem mc_38_11 : mm_code 38 11 = some (24, (5, (0, 0))) := by decide +kernel
theorem mc_38_12 : mm_code 38 12 = some (25, (40, (14, 0))) := by decide +kernel
theorem mc_38_13 : mm_code 38 13 = some (28, (5, (0, 0))) := by decide +kernel
theorem mc_38_14 : mm_code 38 14 = some (29, (40, (15, 0))) := by decide +kernel
theorem mc_38_15 : mm_code 38 15 = some (32, (3, (1, 0))) := by decide +kernel
theorem mc_38_16 : mm_code 38 16 = some (33, (44, (0, 0))) := by decide +kernel
theorem mc_38_17 : mm_code 38 17 = some (34, (5, (0, 0))) := by decide +kernel
theorem mc_38_18 : mm_code 38 18 = some (35, (21, (0, 0))) := by decide +kernel
theorem mc_38_19 : mm_code 38 19 = some (36, (40, (15, 0))) := by decide +kernel
theorem mc_38_20 : mm_code 38 20 = some (39, (0, (0, 1))) := by decide +kernel
theorem mc_38_21 : mm_code 38 21 = some (40, (11, (0, 0))) := by decide +kernel
theorem mc_38_22 : mm_code 38 22 = some (41, (41, (15, 0))) := by decide +kernel
theorem mc_38_23 : mm_code 38 23 = some (44, (103, (0, 0))) := by decide +kernel
theorem mc_39_0 : mm_code 39 0 = some (0, (5, (0, 0))) := by decide +kernel
theorem mc_39_1 : mm_code 39 1 = some (1, (40, (15, 0))) := by decide +kernel
theorem mc_39_2 : mm_code 39 2 = some (4, (30, (9, 13))) := by decide +kernel
theorem mc_39_3 : mm_code 39 3 = some (7, (5, (0, 0))) := by decide +kernel
theorem mc_39_4 : mm_code 39 4 = some (8, (21, (0, 0))) := by decide +kernel
theorem mc_39_5 : mm_code 39 5 = some (9, (40, (15, 0))) := by decide +kernel
theorem mc_39_6 : mm_code 39 6 = some (12, (0, (0, 1))) := by decide +kernel
theorem mc_39_7 : mm_code 39 7 = some (13, (12, (0, 0))) := by decide +kernel
theorem mc_39_8 : mm_code 39 8 = some (14, (41, (15, 0))) := by decide +kernel
theorem mc_39_9 : mm_code 39 9 = some (17, (103, (0, 0))) := by decide +kernel
theorem mc_40_0 : mm_code 40 0 = some (0, (5, (0, 0))) := by decide +kernel
theorem mc_40_1 : mm_code 40 1 = some (1, (0, (0, 0))) := by decide +kernel
theorem mc_40_2 : mm_code 40 2 = some (2, (41, (15, 0))) := by decide +kernel
theorem mc_40_3 : mm_code 40 3 = some (5, (103, (0, 0))) := by decide +kernel
theorem mc_41_0 : mm_code 41 0 = some (0, (5, (0, 0))) := by decide +kernel
theorem mc_41_1 : mm_code 41 1 = some (1, (57, (3, 0))) := by decide +kernel
theorem mc_41_2 : mm_code 41 2 = some (4, (5, (0, 0))) := by decide +kernel
theorem mc_41_3 : mm_code 41 3 = some (5, (0, (0, 4))) := by decide +kernel
theorem mc_41_4 : mm_code 41 4 = some (6, (53, (9, 0))) := by decide +kernel
theorem mc_41_5 : mm_code 41 5 = some (9, (42, (16, 0))) := by decide +kernel
theorem mc_41_6 : mm_code 41 6 = some (12, (0, (0, 0))) := by decide +kernel
theorem mc_41_7 : mm_code 41 7 = some (13, (7, (1, 0))) := by decide +kernel
theorem mc_41_8 : mm_code 41 8 = some (14, (3, (1, 0))) := by decide +kernel
theorem mc_41_9 : mm_code 41 9 = some (15, (5, (0, 0))) := by decide +kernel
theorem mc_41_10 : mm_code 41 10 = some (16, (40, (16, 0))) := by decide +kernel
theorem mc_41_11 : mm_code 41 11 = some (19, (49, (0, 0))) := by decide +kernel
theorem mc_41_12 : mm_code 41 12 = some (20, (34, (23, 24))) := by decide +kernel
theorem mc_41_13 : mm_code 41 13 = some (23, (5, (0, 0))) := by decide +kernel
theorem mc_41_14 : mm_code 41 14 = some (24, (40, (16, 0))) := by decide +kernel
theorem mc_41_15 : mm_code 41 15 = some (27, (3, (1, 0))) := by decide +kernel
theorem mc_41_16 : mm_code 41 16 = some (28, (50, (9, 3))) := by decide +kernel
theorem mc_41_17 : mm_code 41 17 = some (31, (21, (0, 0))) := by decide +kernel
theorem mc_41_18 : mm_code 41 18 = some (32, (1, (0, 100))) := by decide +kernel
theorem mc_41_19 : mm_code 41 19 = some (34, (108, (32, 0))) := by decide +kernel
theorem mc_41_20 : mm_code 41 20 = some (37, (48, (0, 0))) := by decide +kernel
theorem mc_41_21 : mm_code 41 21 = some (38, (20, (1, 1))) := by decide +kernel
theorem mc_41_22 : mm_code 41 22 = some (41, (24, (8, (-27)))) := by decide +kernel
theorem mc_41_23 : mm_code 41 23 = some (44, (5, (0, 0))) := by decide +kernel
theorem mc_41_24 : mm_code 41 24 = some (45, (50, (9, 3))) := by decide +kernel
theorem mc_41_25 : mm_code 41 25 = some (48, (21, (0, 0))) := by decide +kernel
theorem mc_41_26 : mm_code 41 26 = some (49, (1, (0, 120))) := by decide +kernel
theorem mc_41_27 : mm_code 41 27 = some (51, (108, (32, 0))) := by decide +kernel
theorem mc_41_28 : mm_code 41 28 = some (54, (42, (17, 0))) := by decide +kernel
theorem mc_41_29 : mm_code 41 29 = some (57, (5, (0, 0))) := by decide +kernel
theorem mc_41_30 : mm_code 41 30 = some (58, (50, (22, 2))) := by decide +kernel
theorem mc_41_31 : mm_code 41 31 = some (61, (21, (0, 0))) := by decide +kernel
theorem mc_41_32 : mm_code 41 32 = some (62, (108, (33, 0))) := by decide +kernel
theorem mc_41_33 : mm_code 41 33 = some (65, (42, (18, 0))) := by decide +kernel
theorem mc_41_34 : mm_code 41 34 = some (68, (5, (0, 0))) := by decide +kernel
theorem mc_41_35 : mm_code 41 35 = some (69, (5, (0, 0))) := by decide +kernel
theorem mc_41_36 : mm_code 41 36 = some (70, (40, (18, 0))) := by decide +kernel
theorem mc_41_37 : mm_code 41 37 = some (73, (40, (19, 0))) := by decide +kernel
theorem mc_41_38 : mm_code 41 38 = some (76, (42, (20, 0))) := by decide +kernel
theorem mc_41_39 : mm_code 41 39 = some (79, (5, (0, 0))) := by decide +kernel
theorem mc_41_40 : mm_code 41 40 = some (80, (0, (0, 0))) := by decide +kernel
theorem mc_41_41 : mm_code 41 41 = some (81, (41, (21, 0))) := by decide +kernel
theorem mc_41_42 : mm_code 41 42 = some (84, (5, (0, 0))) := by decide +kernel
theorem mc_41_43 : mm_code 41 43 = some (85, (0, (0, 0))) := by decide +kernel
theorem mc_41_44 : mm_code 41 44 = some (86, (41, (22, 0))) := by decide +kernel
theorem mc_41_45 : mm_code 41 45 = some (89, (103, (0, 0))) := by decide +kernel
theorem mc_42_0 : mm_code 42 0 = some (0, (3, (1, 0))) := by decide +kernel
theorem mc_42_1 : mm_code 42 1 = some (1, (5, (0, 0))) := by decide +kernel
theorem mc_42_2 : mm_code 42 2 = some (2, (49, (0, 0))) := by decide +kernel
theorem mc_42_3 : mm_code 42 3 = some (3, (34, (10, 12))) := by decide +kernel
theorem mc_42_4 : mm_code 42 4 = some (6, (5, (0, 0))) := by decide +kernel
theorem mc_42_5 : mm_code 42 5 = some (7, (3, (1, 0))) := by decide +kernel
theorem mc_42_6 : mm_code 42 6 = some (8, (43, (0, 0))) := by decide +kernel
theorem mc_42_7 : mm_code 42 7 = some (9, (55, (7, 2147483647))) := by decide +kernel
theorem mc_42_8 : mm_code 42 8 = some (11, (18, (0, 0))) := by decide +kernel
theorem mc_42_9 : mm_code 42 9 = some (12, (24, (17, 12))) := by decide +kernel
theorem mc_42_10 : mm_code 42 10 = some (15, (55, (8, 104729))) := by decide +kernel
theorem mc_42_11 : mm_code 42 11 = some (17, (3, (1, 0))) := by decide +kernel
theorem mc_42_12 : mm_code 42 12 = some (18, (0, (0, 2))) := by decide +kernel
theorem mc_42_13 : mm_code 42 13 = some (19, (11, (0, 0))) := by decide +kernel
theorem mc_42_14 : mm_code 42 14 = some (20, (13, (0, 0))) := by decide +kernel
theorem mc_42_15 : mm_code 42 15 = some (21, (55, (9, 65521))) := by decide +kernel
theorem mc_42_16 : mm_code 42 16 = some (23, (15, (0, 0))) := by decide +kernel
theorem mc_42_17 : mm_code 42 17 = some (24, (100, (0, 0))) := by decide +kernel
theorem mc_43_0 : mm_code 43 0 = some (0, (5, (0, 0))) := by decide +kernel
theorem mc_43_1 : mm_code 43 1 = some (1, (40, (21, 0))) := by decide +kernel
theorem mc_43_2 : mm_code 43 2 = some (4, (0, (0, 4))) := by decide +kernel
theorem mc_43_3 : mm_code 43 3 = some (5, (33, (9, 13))) := by decide +kernel
theorem mc_43_4 : mm_code 43 4 = some (8, (104, (0, 2))) := by decide +kernel
theorem mc_43_9 : mm_code 43 9 = some (18, (5, (0, 0))) := by decide +kernel
theorem mc_43_10 : mm_code 43 10 = some (19, (21, (0, 0))) := by decide +kernel
theorem mc_43_11 : mm_code 43 11 = some (20, (40, (21, 0))) := by decide +kernel
theorem mc_43_12 : mm_code 43 12 = some (23, (0, (0, 1))) := by decide +kernel
theorem mc_43_13 : mm_code 43 13 = some (24, (11, (0, 0))) := by decide +kernel
theorem mc_43_14 : mm_code 43 14 = some (25, (41, (21, 0))) := by decide +kernel
theorem mc_43_15 : mm_code 43 15 = some (28, (5, (0, 0))) := by decide +kernel
theorem mc_43_16 : mm_code 43 16 = some (29, (40, (21, 0))) := by decide +kernel
theorem mc_43_17 : mm_code 43 17 = some (32, (0, (0, 1))) := by decide +kernel
theorem mc_43_18 : mm_code 43 18 = some (33, (12, (0, 0))) := by decide +kernel
theorem mc_43_19 : mm_code 43 19 = some (34, (100, (0, 0))) := by decide +kernel
theorem mc_44_0 : mm_code 44 0 = some (0, (5, (0, 0))) := by decide +kernel
theorem mc_44_1 : mm_code 44 1 = some (1, (3, (1, 0))) := by decide +kernel
theorem mc_44_2 : mm_code 44 2 = some (2, (105, (34, 0))) := by decide +kernel
theorem mc_44_3 : mm_code 44 3 = some (5, (9, (3, 0))) := by decide +kernel
theorem mc_44_4 : mm_code 44 4 = some (6, (3, (2, 0))) := by decide +kernel
theorem mc_44_5 : mm_code 44 5 = some (7, (106, (35, 0))) := by decide +kernel
theorem mc_44_6 : mm_code 44 6 = some (10, (5, (0, 0))) := by decide +kernel
theorem mc_44_7 : mm_code 44 7 = some (11, (40, (22, 0))) := by decide +kernel
theorem mc_44_8 : mm_code 44 8 = some (14, (1, (0, 100))) := by decide +kernel
theorem mc_44_9 : mm_code 44 9 = some (16, (33, (15, 13))) := by decide +kernel
theorem mc_44_10 : mm_code 44 10 = some (19, (104, (1, 2))) := by decide +kernel
theorem mc_44_15 : mm_code 44 15 = some (29, (5, (0, 0))) := by decide +kernel
theorem mc_44_16 : mm_code 44 16 = some (30, (40, (20, 0))) := by decide +kernel
theorem mc_44_17 : mm_code 44 17 = some (33, (3, (1, 0))) := by decide +kernel
theorem mc_44_18 : mm_code 44 18 = some (34, (5, (3, 0))) := by decide +kernel
theorem mc_44_19 : mm_code 44 19 = some (35, (105, (36, 0))) := by decide +kernel
theorem mc_44_20 : mm_code 44 20 = some (38, (3, (2, 0))) := by decide +kernel
theorem mc_44_21 : mm_code 44 21 = some (39, (105, (37, 0))) := by decide +kernel
theorem mc_44_22 : mm_code 44 22 = some (42, (5, (3, 0))) := by decide +kernel
theorem mc_44_23 : mm_code 44 23 = some (43, (3, (2, 0))) := by decide +kernel
theorem mc_44_24 : mm_code 44 24 = some (44, (105, (38, 0))) := by decide +kernel
theorem mc_44_25 : mm_code 44 25 = some (47, (5, (0, 0))) := by decide +kernel
theorem mc_44_26 : mm_code 44 26 = some (48, (21, (0, 0))) := by decide +kernel
theorem mc_44_27 : mm_code 44 27 = some (49, (40, (22, 0))) := by decide +kernel
theorem mc_44_28 : mm_code 44 28 = some (52, (0, (0, 1))) := by decide +kernel
theorem mc_44_29 : mm_code 44 29 = some (53, (11, (0, 0))) := by decide +kernel
theorem mc_44_30 : mm_code 44 30 = some (54, (41, (22, 0))) := by decide +kernel
theorem mc_44_31 : mm_code 44 31 = some (57, (5, (3, 0))) := by decide +kernel
theorem mc_44_32 : mm_code 44 32 = some (58, (105, (36, 0))) := by decide +kernel
theorem mc_44_33 : mm_code 44 33 = some (61, (100, (0, 0))) := by decide +kernel
theorem mc_45_0 : mm_code 45 0 = some (0, (5, (0, 0))) := by decide +kernel
theorem mc_45_1 : mm_code 45 1 = some (1, (40, (21, 0))) := by decide +kernel
theorem mc_45_2 : mm_code 45 2 = some (4, (100, (0, 0))) := by decide +kernel
theorem mc_46_0 : mm_code 46 0 = some (0, (5, (0, 0))) := by decide +kernel
theorem mc_46_1 : mm_code 46 1 = some (1, (3, (1, 0))) := by decide +kernel
theorem mc_46_2 : mm_code 46 2 = some (2, (105, (34, 0))) := by decide +kernel
theorem mc_46_3 : mm_code 46 3 = some (5, (105, (36, 0))) := by decide +kernel
theorem mc_46_4 : mm_code 46 4 = some (8, (100, (0, 0))) := by decide +kernel
theorem mc_47_0 : mm_code 47 0 = some (0, (5, (0, 0))) := by decide +kernel
theorem mc_47_1 : mm_code 47 1 = some (1, (3, (1, 0))) := by decide +kernel
theorem mc_47_2 : mm_code 47 2 = some (2, (105, (34, 0))) := by decide +kernel
theorem mc_47_3 : mm_code 47 3 = some (5, (9, (3, 0))) := by decide +kernel
theorem mc_47_4 : mm_code 47 4 = some (6, (3, (2, 0))) := by decide +kernel
theorem mc_47_5 : mm_code 47 5 = some (7, (5, (3, 0))) := by decide +kernel
theorem mc_47_6 : mm_code 47 6 = some (8, (105, (36, 0))) := by decide +kernel
theorem mc_47_7 : mm_code 47 7 = some (11, (106, (39, 0))) := by decide +kernel
theorem mc_47_8 : mm_code 47 8 = some (14, (26, (14, 13))) := by decide +kernel
theorem mc_47_9 : mm_code 47 9 = some (17, (104, (2, 0))) := by decide +kernel
theorem mc_47_14 : mm_code 47 14 = some (27, (5, (3, 0))) := by decide +kernel
theorem mc_47_15 : mm_code 47 15 = some (28, (3, (2, 0))) := by decide +kernel
theorem mc_47_16 : mm_code 47 16 = some (29, (105, (40, 0))) := by decide +kernel
theorem mc_47_17 : mm_code 47 17 = some (32, (100, (0, 0))) := by decide +kernel
theorem mc_48_0 : mm_code 48 0 = some (0, (3, (1, 0))) := by decide +kernel
theorem mc_48_1 : mm_code 48 1 = some (1, (106, (35, 0))) := by decide +kernel
theorem mc_48_2 : mm_code 48 2 = some (4, (5, (0, 0))) := by decide +kernel
theorem mc_48_3 : mm_code 48 3 = some (5, (40, (17, 0))) := by decide +kernel
theorem mc_48_4 : mm_code 48 4 = some (8, (105, (36, 0))) := by decide +kernel
theorem mc_48_5 : mm_code 48 5 = some (11, (1, (0, 120))) := by decide +kernel
theorem mc_48_6 : mm_code 48 6 = some (13, (33, (12, 13))) := by decide +kernel
theorem mc_48_7 : mm_code 48 7 = some (16, (104, (3, 2))) := by decide +kernel
theorem mc_48_12 : mm_code 48 12 = some (26, (5, (0, 0))) := by decide +kernel
theorem mc_48_13 : mm_code 48 13 = some (27, (40, (17, 0))) := by decide +kernel
theorem mc_48_14 : mm_code 48 14 = some (30, (3, (1, 0))) := by decide +kernel
theorem mc_48_15 : mm_code 48 15 = some (31, (105, (38, 0))) := by decide +kernel
theorem mc_48_16 : mm_code 48 16 = some (34, (5, (0, 0))) := by decide +kernel
theorem mc_48_17 : mm_code 48 17 = some (35, (40, (17, 0))) := by decide +kernel
theorem mc_48_18 : mm_code 48 18 = some (38, (105, (36, 0))) := by decide +kernel
theorem mc_48_19 : mm_code 48 19 = some (41, (100, (0, 0))) := by decide +kernel
theorem mc_49_0 : mm_code 49 0 = some (0, (5, (0, 0))) := by decide +kernel
theorem mc_49_1 : mm_code 49 1 = some (1, (40, (17, 0))) := by decide +kernel
theorem mc_49_2 : mm_code 49 2 = some (4, (105, (36, 0))) := by decide +kernel
theorem mc_49_3 : mm_code 49 3 = some (7, (26, (9, 13))) := by decide +kernel
theorem mc_49_4 : mm_code 49 4 = some (10, (104, (4, 2))) := by decide +kernel
theorem mc_49_9 : mm_code 49 9 = some (20, (5, (0, 0))) := by decide +kernel
theorem mc_49_10 : mm_code 49 10 = some (21, (40, (17, 0))) := by decide +kernel
theorem mc_49_11 : mm_code 49 11 = some (24, (5, (0, 0))) := by decide +kernel
theorem mc_49_12 : mm_code 49 12 = some (25, (40, (17, 0))) := by decide +kernel
theorem mc_49_13 : mm_code 49 13 = some (28, (105, (36, 0))) := by decide +kernel
theorem mc_49_14 : mm_code 49 14 = some (31, (0, (0, 1))) := by decide +kernel
theorem mc_49_15 : mm_code 49 15 = some (32, (12, (0, 0))) := by decide +kernel
theorem mc_49_16 : mm_code 49 16 = some (33, (105, (40, 0))) := by decide +kernel
theorem mc_49_17 : mm_code 49 17 = some (36, (7, (1, 0))) := by decide +kernel
theorem mc_49_18 : mm_code 49 18 = some (37, (5, (0, 0))) := by decide +kernel
theorem mc_49_19 : mm_code 49 19 = some (38, (40, (17, 0))) := by decide +kernel
theorem mc_49_20 : mm_code 49 20 = some (41, (105, (41, 0))) := by decide +kernel
theorem mc_49_21 : mm_code 49 21 = some (44, (3, (1, 0))) := by decide +kernel
theorem mc_49_22 : mm_code 49 22 = some (45, (100, (0, 0))) := by decide +kernel
theorem mc_50_0 : mm_code 50 0 = some (0, (5, (0, 0))) := by decide +kernel
theorem mc_50_1 : mm_code 50 1 = some (1, (40, (17, 0))) := by decide +kernel
theorem mc_50_2 : mm_code 50 2 = some (4, (105, (36, 0))) := by decide +kernel
theorem mc_50_3 : mm_code 50 3 = some (7, (7, (1, 0))) := by decide +kernel
theorem mc_50_4 : mm_code 50 4 = some (8, (5, (0, 0))) := by decide +kernel
theorem mc_50_5 : mm_code 50 5 = some (9, (40, (17, 0))) := by decide +kernel
theorem mc_50_6 : mm_code 50 6 = some (12, (105, (42, 0))) := by decide +kernel
theorem mc_50_7 : mm_code 50 7 = some (15, (3, (1, 0))) := by decide +kernel
theorem mc_50_8 : mm_code 50 8 = some (16, (100, (0, 0))) := by decide +kernel
theorem mc_51_0 : mm_code 51 0 = some (0, (5, (0, 0))) := by decide +kernel
theorem mc_51_1 : mm_code 51 1 = some (1, (3, (1, 0))) := by decide +kernel
theorem mc_51_2 : mm_code 51 2 = some (2, (105, (34, 0))) := by decide +kernel
theorem mc_51_3 : mm_code 51 3 = some (5, (10, (4, 0))) := by decide +kernel
theorem mc_51_4 : mm_code 51 4 = some (7, (3, (2, 0))) := by decide +kernel
theorem mc_51_5 : mm_code 51 5 = some (8, (27, (14, 18))) := by decide +kernel
theorem mc_51_6 : mm_code 51 6 = some (11, (3, (3, 0))) := by decide +kernel
theorem mc_51_7 : mm_code 51 7 = some (12, (27, (14, 14))) := by decide +kernel
theorem mc_51_8 : mm_code 51 8 = some (15, (3, (3, 0))) := by decide +kernel
theorem mc_51_9 : mm_code 51 9 = some (16, (6, (4, 0))) := by decide +kernel
theorem mc_51_10 : mm_code 51 10 = some (18, (105, (36, 0))) := by decide +kernel
theorem mc_51_11 : mm_code 51 11 = some (21, (3, (2, 0))) := by decide +kernel
theorem mc_51_12 : mm_code 51 12 = some (22, (12, (0, 0))) := by decide +kernel
theorem mc_51_13 : mm_code 51 13 = some (23, (36, (19, 13))) := by decide +kernel
theorem mc_51_14 : mm_code 51 14 = some (26, (104, (5, 1))) := by decide +kernel
theorem mc_51_19 : mm_code 51 19 = some (36, (5, (0, 0))) := by decide +kernel
theorem mc_51_20 : mm_code 51 20 = some (37, (40, (17, 0))) := by decide +kernel
theorem mc_51_21 : mm_code 51 21 = some (40, (105, (42, 0))) := by decide +kernel
theorem mc_51_22 : mm_code 51 22 = some (43, (0, (0, 0))) := by decide +kernel
theorem mc_51_23 : mm_code 51 23 = some (44, (8, (5, 0))) := by decide +kernel
theorem mc_51_24 : mm_code 51 24 = some (46, (4, (5, 0))) := by decide +kernel
theorem mc_51_25 : mm_code 51 25 = some (48, (3, (3, 0))) := by decide +kernel
theorem mc_51_26 : mm_code 51 26 = some (49, (34, (37, 25))) := by decide +kernel
theorem mc_51_27 : mm_code 51 27 = some (52, (5, (0, 0))) := by decide +kernel
theorem mc_51_28 : mm_code 51 28 = some (53, (40, (17, 0))) := by decide +kernel
theorem mc_51_29 : mm_code 51 29 = some (56, (6, (4, 0))) := by decide +kernel
theorem mc_51_30 : mm_code 51 30 = some (58, (3, (2, 0))) := by decide +kernel
theorem mc_51_31 : mm_code 51 31 = some (59, (4, (5, 0))) := by decide +kernel
theorem mc_51_32 : mm_code 51 32 = some (61, (11, (0, 0))) := by decide +kernel
theorem mc_51_33 : mm_code 51 33 = some (62, (105, (40, 0))) := by decide +kernel
theorem mc_51_34 : mm_code 51 34 = some (65, (105, (38, 0))) := by decide +kernel
theorem mc_51_35 : mm_code 51 35 = some (68, (20, (5, 1))) := by decide +kernel
theorem mc_51_36 : mm_code 51 36 = some (71, (24, (24, (-25)))) := by decide +kernel
theorem mc_51_37 : mm_code 51 37 = some (74, (103, (0, 0))) := by decide +kernel
theorem mc_52_0 : mm_code 52 0 = some (0, (5, (0, 0))) := by decide +kernel
theorem mc_52_1 : mm_code 52 1 = some (1, (40, (17, 0))) := by decide +kernel
theorem mc_52_2 : mm_code 52 2 = some (4, (105, (36, 0))) := by decide +kernel
theorem mc_52_3 : mm_code 52 3 = some (7, (100, (0, 0))) := by decide +kernel
theorem mc_53_0 : mm_code 53 0 = some (0, (3, (1, 0))) := by decide +kernel
theorem mc_53_1 : mm_code 53 1 = some (1, (5, (0, 0))) := by decide +kernel
theorem mc_53_2 : mm_code 53 2 = some (2, (40, (17, 0))) := by decide +kernel
theorem mc_53_3 : mm_code 53 3 = some (5, (105, (36, 0))) := by decide +kernel
theorem mc_53_4 : mm_code 53 4 = some (8, (106, (39, 0))) := by decide +kernel
theorem mc_53_5 : mm_code 53 5 = some (11, (26, (11, 13))) := by decide +kernel
theorem mc_53_6 : mm_code 53 6 = some (14, (104, (6, 0))) := by decide +kernel
theorem mc_53_11 : mm_code 53 11 = some (24, (5, (0, 0))) := by decide +kernel
theorem mc_53_12 : mm_code 53 12 = some (25, (40, (17, 0))) := by decide +kernel
theorem mc_53_13 : mm_code 53 13 = some (28, (3, (1, 0))) := by decide +kernel
theorem mc_53_14 : mm_code 53 14 = some (29, (105, (40, 0))) := by decide +kernel
theorem mc_53_15 : mm_code 53 15 = some (32, (100, (0, 0))) := by decide +kernel
theorem mc_54_0 : mm_code 54 0 = some (0, (5, (0, 0))) := by decide +kernel
theorem mc_54_1 : mm_code 54 1 = some (1, (105, (43, 0))) := by decide +kernel
theorem mc_54_2 : mm_code 54 2 = some (4, (0, (0, (-1)))) := by decide +kernel
theorem mc_54_3 : mm_code 54 3 = some (5, (31, (6, 7))) := by decide +kernel
theorem mc_54_4 : mm_code 54 4 = some (8, (0, (0, 1))) := by decide +kernel
theorem mc_54_5 : mm_code 54 5 = some (9, (24, (7, 4))) := by decide +kernel
theorem mc_54_6 : mm_code 54 6 = some (12, (0, (0, 0))) := by decide +kernel
theorem mc_54_7 : mm_code 54 7 = some (13, (101, (0, 0))) := by decide +kernel
theorem mc_55_0 : mm_code 55 0 = some (0, (5, (0, 0))) := by decide +kernel
theorem mc_55_1 : mm_code 55 1 = some (1, (40, (20, 0))) := by decide +kernel
theorem mc_55_2 : mm_code 55 2 = some (4, (40, (23, 0))) := by decide +kernel
theorem mc_55_3 : mm_code 55 3 = some (7, (5, (0, 0))) := by decide +kernel
theorem mc_55_4 : mm_code 55 4 = some (8, (105, (43, 0))) := by decide +kernel
theorem mc_55_5 : mm_code 55 5 = some (11, (105, (44, 0))) := by decide +kernel
theorem mc_55_6 : mm_code 55 6 = some (14, (100, (0, 0))) := by decide +kernel
theorem mc_56_0 : mm_code 56 0 = some (0, (5, (0, 0))) := by decide +kernel
theorem mc_56_1 : mm_code 56 1 = some (1, (3, (1, 0))) := by decide +kernel
theorem mc_56_2 : mm_code 56 2 = some (2, (105, (34, 0))) := by decide +kernel
theorem mc_56_3 : mm_code 56 3 = some (5, (23, (0, 0))) := by decide +kernel
theorem mc_56_4 : mm_code 56 4 = some (6, (5, (0, 0))) := by decide +kernel
theorem mc_56_5 : mm_code 56 5 = some (7, (40, (20, 0))) := by decide +kernel
theorem mc_56_6 : mm_code 56 6 = some (10, (40, (23, 0))) := by decide +kernel
theorem mc_56_7 : mm_code 56 7 = some (13, (5, (0, 0))) := by decide +kernel
theorem mc_56_8 : mm_code 56 8 = some (14, (105, (43, 0))) := by decide +kernel
theorem mc_56_9 : mm_code 56 9 = some (17, (3, (1, 0))) := by decide +kernel
theorem mc_56_10 : mm_code 56 10 = some (18, (105, (45, 0))) := by decide +kernel
theorem mc_56_11 : mm_code 56 11 = some (21, (100, (0, 0))) := by decide +kernel
theorem mc_57_0 : mm_code 57 0 = some (0, (5, (0, 0))) := by decide +kernel
theorem mc_57_1 : mm_code 57 1 = some (1, (3, (1, 0))) := by decide +kernel
theorem mc_57_2 : mm_code 57 2 = some (2, (105, (34, 0))) := by decide +kernel
theorem mc_57_3 : mm_code 57 3 = some (5, (23, (0, 0))) := by decide +kernel
theorem mc_57_4 : mm_code 57 4 = some (6, (5, (0, 0))) := by decide +kernel
theorem mc_57_5 : mm_code 57 5 = some (7, (5, (0, 0))) := by decide +kernel
theorem mc_57_6 : mm_code 57 6 = some (8, (40, (20, 0))) := by decide +kernel
theorem mc_57_7 : mm_code 57 7 = some (11, (40, (23, 0))) := by decide +kernel
theorem mc_57_8 : mm_code 57 8 = some (14, (5, (0, 0))) := by decide +kernel
theorem mc_57_9 : mm_code 57 9 = some (15, (105, (43, 0))) := by decide +kernel
theorem mc_57_10 : mm_code 57 10 = some (18, (3, (1, 0))) := by decide +kernel
theorem mc_57_11 : mm_code 57 11 = some (19, (105, (46, 0))) := by decide +kernel
theorem mc_57_12 : mm_code 57 12 = some (22, (105, (47, 0))) := by decide +kernel
theorem mc_57_13 : mm_code 57 13 = some (25, (100, (0, 0))) := by decide +kernel
theorem mc_58_0 : mm_code 58 0 = some (0, (5, (0, 0))) := by decide +kernel
theorem mc_58_1 : mm_code 58 1 = some (1, (3, (1, 0))) := by decide +kernel
theorem mc_58_2 : mm_code 58 2 = some (2, (105, (34, 0))) := by decide +kernel
theorem mc_58_3 : mm_code 58 3 = some (5, (23, (0, 0))) := by decide +kernel
theorem mc_58_4 : mm_code 58 4 = some (6, (5, (0, 0))) := by decide +kernel
theorem mc_58_5 : mm_code 58 5 = some (7, (5, (0, 0))) := by decide +kernel
theorem mc_58_6 : mm_code 58 6 = some (8, (40, (20, 0))) := by decide +kernel
theorem mc_58_7 : mm_code 58 7 = some (11, (40, (23, 0))) := by decide +kernel
theorem mc_58_8 : mm_code 58 8 = some (14, (5, (0, 0))) := by decide +kernel
theorem mc_58_9 : mm_code 58 9 = some (15, (105, (43, 0))) := by decide +kernel
theorem mc_58_10 : mm_code 58 10 = some (18, (3, (1, 0))) := by decide +kernel
theorem mc_58_11 : mm_code 58 11 = some (19, (105, (48, 0))) := by decide +kernel
theorem mc_58_12 : mm_code 58 12 = some (22, (105, (47, 0))) := by decide +kernel
theorem mc_58_13 : mm_code 58 13 = some (25, (100, (0, 0))) := by decide +kernel
theorem mc_59_0 : mm_code 59 0 = some (0, (5, (0, 0))) := by decide +kernel
theorem mc_59_1 : mm_code 59 1 = some (1, (0, (0, 0))) := by decide +kernel
theorem mc_59_2 : mm_code 59 2 = some (2, (105, (49, 0))) := by decide +kernel
theorem mc_59_3 : mm_code 59 3 = some (5, (7, (1, 0))) := by decide +kernel
theorem mc_59_4 : mm_code 59 4 = some (6, (0, (0, 0))) := by decide +kernel
theorem mc_59_5 : mm_code 59 5 = some (7, (7, (2, 0))) := by decide +kernel
theorem mc_59_6 : mm_code 59 6 = some (8, (0, (0, 0))) := by decide +kernel
theorem mc_59_7 : mm_code 59 7 = some (9, (7, (3, 0))) := by decide +kernel
theorem mc_59_8 : mm_code 59 8 = some (10, (3, (3, 0))) := by decide +kernel
theorem mc_59_9 : mm_code 59 9 = some (11, (1, (0, 26))) := by decide +kernel
theorem mc_59_10 : mm_code 59 10 = some (13, (34, (26, 28))) := by decide +kernel
theorem mc_59_11 : mm_code 59 11 = some (16, (5, (0, 0))) := by decide +kernel
theorem mc_59_12 : mm_code 59 12 = some (17, (40, (20, 0))) := by decide +kernel
theorem mc_59_13 : mm_code 59 13 = some (20, (3, (1, 0))) := by decide +kernel
theorem mc_59_14 : mm_code 59 14 = some (21, (3, (3, 0))) := by decide +kernel
theorem mc_59_15 : mm_code 59 15 = some (22, (105, (50, 0))) := by decide +kernel
theorem mc_59_16 : mm_code 59 16 = some (25, (0, (0, (-1)))) := by decide +kernel
theorem mc_59_17 : mm_code 59 17 = some (26, (31, (24, 9))) := by decide +kernel
theorem mc_59_18 : mm_code 59 18 = some (29, (3, (2, 0))) := by decide +kernel
theorem mc_59_19 : mm_code 59 19 = some (30, (0, (0, 1))) := by decide +kernel
theorem mc_59_20 : mm_code 59 20 = some (31, (3, (3, 0))) := by decide +kernel
theorem mc_59_21 : mm_code 59 21 = some (32, (16, (0, 0))) := by decide +kernel
theorem mc_59_22 : mm_code 59 22 = some (33, (19, (0, 0))) := by decide +kernel
theorem mc_59_23 : mm_code 59 23 = some (34, (7, (2, 0))) := by decide +kernel
theorem mc_59_24 : mm_code 59 24 = some (35, (20, (3, 1))) := by decide +kernel
theorem mc_59_25 : mm_code 59 25 = some (38, (24, (8, (-28)))) := by decide +kernel
theorem mc_59_26 : mm_code 59 26 = some (41, (3, (2, 0))) := by decide +kernel
theorem mc_59_27 : mm_code 59 27 = some (42, (100, (0, 0))) := by decide +kernel
theorem mc_60_0 : mm_code 60 0 = some (0, (0, (0, 0))) := by decide +kernel
theorem mc_60_1 : mm_code 60 1 = some (1, (7, (1, 0))) := by decide +kernel
theorem mc_60_2 : mm_code 60 2 = some (2, (0, (0, 0))) := by decide +kernel
theorem mc_60_3 : mm_code 60 3 = some (3, (7, (2, 0))) := by decide +kernel
theorem mc_60_4 : mm_code 60 4 = some (4, (3, (2, 0))) := by decide +kernel
theorem mc_60_5 : mm_code 60 5 = some (5, (1, (0, 26))) := by decide +kernel
theorem mc_60_6 : mm_code 60 6 = some (7, (34, (24, 32))) := by decide +kernel
theorem mc_60_7 : mm_code 60 7 = some (10, (5, (0, 0))) := by decide +kernel
theorem mc_60_8 : mm_code 60 8 = some (11, (5, (0, 0))) := by decide +kernel
theorem mc_60_9 : mm_code 60 9 = some (12, (40, (20, 0))) := by decide +kernel
theorem mc_60_10 : mm_code 60 10 = some (15, (0, (0, 0))) := by decide +kernel
theorem mc_60_11 : mm_code 60 11 = some (16, (3, (2, 0))) := by decide +kernel
theorem mc_60_12 : mm_code 60 12 = some (17, (105, (50, 0))) := by decide +kernel
theorem mc_60_13 : mm_code 60 13 = some (20, (105, (49, 0))) := by decide +kernel
theorem mc_60_14 : mm_code 60 14 = some (23, (0, (0, (-1)))) := by decide +kernel
theorem mc_60_15 : mm_code 60 15 = some (24, (31, (22, 9))) := by decide +kernel
theorem mc_60_16 : mm_code 60 16 = some (27, (3, (1, 0))) := by decide +kernel
theorem mc_60_17 : mm_code 60 17 = some (28, (0, (0, 1))) := by decide +kernel
theorem mc_60_18 : mm_code 60 18 = some (29, (3, (2, 0))) := by decide +kernel
theorem mc_60_19 : mm_code 60 19 = some (30, (16, (0, 0))) := by decide +kernel
theorem mc_60_20 : mm_code 60 20 = some (31, (19, (0, 0))) := by decide +kernel
theorem mc_60_21 : mm_code 60 21 = some (32, (7, (1, 0))) := by decide +kernel
theorem mc_60_22 : mm_code 60 22 = some (33, (20, (2, 1))) := by decide +kernel
theorem mc_60_23 : mm_code 60 23 = some (36, (24, (4, (-32)))) := by decide +kernel
theorem mc_60_24 : mm_code 60 24 = some (39, (3, (1, 0))) := by decide +kernel
theorem mc_60_25 : mm_code 60 25 = some (40, (100, (0, 0))) := by decide +kernel
theorem mc_61_0 : mm_code 61 0 = some (0, (5, (0, 0))) := by decide +kernel
theorem mc_61_1 : mm_code 61 1 = some (1, (40, (20, 0))) := by decide +kernel
theorem mc_61_2 : mm_code 61 2 = some (4, (105, (51, 0))) := by decide +kernel
theorem mc_61_3 : mm_code 61 3 = some (7, (0, (0, 1))) := by decide +kernel
theorem mc_61_4 : mm_code 61 4 = some (8, (12, (0, 0))) := by decide +kernel
theorem mc_61_5 : mm_code 61 5 = some (9, (100, (0, 0))) := by decide +kernel
theorem mc_62_0 : mm_code 62 0 = some (0, (5, (0, 0))) := by decide +kernel
theorem mc_62_1 : mm_code 62 1 = some (1, (105, (43, 0))) := by decide +kernel
theorem mc_62_2 : mm_code 62 2 = some (4, (7, (1, 0))) := by decide +kernel
theorem mc_62_3 : mm_code 62 3 = some (5, (3, (1, 0))) := by decide +kernel
theorem mc_62_4 : mm_code 62 4 = some (6, (0, (0, (-1)))) := by decide +kernel
theorem mc_62_5 : mm_code 62 5 = some (7, (32, (8, 7))) := by decide +kernel
theorem mc_62_6 : mm_code 62 6 = some (10, (0, (0, (-1)))) := by decide +kernel
theorem mc_62_7 : mm_code 62 7 = some (11, (24, (12, 11))) := by decide +kernel
theorem mc_62_8 : mm_code 62 8 = some (14, (5, (0, 0))) := by decide +kernel
theorem mc_62_9 : mm_code 62 9 = some (15, (40, (20, 0))) := by decide +kernel
theorem mc_62_10 : mm_code 62 10 = some (18, (3, (1, 0))) := by decide +kernel
theorem mc_62_11 : mm_code 62 11 = some (19, (105, (52, 0))) := by decide +kernel
theorem mc_62_12 : mm_code 62 12 = some (22, (100, (0, 0))) := by decide +kernel
theorem mc_63_0 : mm_code 63 0 = some (0, (5, (0, 0))) := by decide +kernel
theorem mc_63_1 : mm_code 63 1 = some (1, (105, (43, 0))) := by decide +kernel
theorem mc_63_2 : mm_code 63 2 = some (4, (7, (1, 0))) := by decide +kernel
theorem mc_63_3 : mm_code 63 3 = some (5, (3, (1, 0))) := by decide +kernel
theorem mc_63_4 : mm_code 63 4 = some (6, (0, (0, (-1)))) := by decide +kernel
theorem mc_63_5 : mm_code 63 5 = some (7, (32, (8, 7))) := by decide +kernel
theorem mc_63_6 : mm_code 63 6 = some (10, (0, (0, (-1)))) := by decide +kernel
theorem mc_63_7 : mm_code 63 7 = some (11, (24, (12, 11))) := by decide +kernel
theorem mc_63_8 : mm_code 63 8 = some (14, (5, (0, 0))) := by decide +kernel
theorem mc_63_9 : mm_code 63 9 = some (15, (40, (20, 0))) := by decide +kernel
theorem mc_63_10 : mm_code 63 10 = some (18, (3, (1, 0))) := by decide +kernel
theorem mc_63_11 : mm_code 63 11 = some (19, (105, (53, 0))) := by decide +kernel
theorem mc_63_12 : mm_code 63 12 = some (22, (100, (0, 0))) := by decide +kernel
theorem mc_64_0 : mm_code 64 0 = some (0, (5, (0, 0))) := by decide +kernel
theorem mc_64_1 : mm_code 64 1 = some (1, (40, (20, 0))) := by decide +kernel
theorem mc_64_2 : mm_code 64 2 = some (4, (105, (54, 0))) := by decide +kernel
theorem mc_64_3 : mm_code 64 3 = some (7, (100, (0, 0))) := by decide +kernel
theorem mc_65_0 : mm_code 65 0 = some (0, (5, (0, 0))) := by decide +kernel
theorem mc_65_1 : mm_code 65 1 = some (1, (40, (18, 0))) := by decide +kernel
theorem mc_65_2 : mm_code 65 2 = some (4, (105, (55, 0))) := by decide +kernel
theorem mc_65_3 : mm_code 65 3 = some (7, (5, (0, 0))) := by decide +kernel
theorem mc_65_4 : mm_code 65 4 = some (8, (40, (18, 0))) := by decide +kernel
theorem mc_65_5 : mm_code 65 5 = some (11, (5, (0, 0))) := by decide +kernel
theorem mc_65_6 : mm_code 65 6 = some (12, (40, (17, 0))) := by decide +kernel
theorem mc_65_7 : mm_code 65 7 = some (15, (105, (56, 0))) := by decide +kernel
theorem mc_65_8 : mm_code 65 8 = some (18, (100, (0, 0))) := by decide +kernel
theorem mc_66_0 : mm_code 66 0 = some (0, (3, (1, 0))) := by decide +kernel
theorem mc_66_1 : mm_code 66 1 = some (1, (5, (0, 0))) := by decide +kernel
theorem mc_66_2 : mm_code 66 2 = some (2, (40, (20, 0))) := by decide +kernel
theorem mc_66_3 : mm_code 66 3 = some (5, (105, (54, 0))) := by decide +kernel
theorem mc_66_4 : mm_code 66 4 = some (8, (106, (39, 0))) := by decide +kernel
theorem mc_66_5 : mm_code 66 5 = some (11, (26, (11, 13))) := by decide +kernel
theorem mc_66_6 : mm_code 66 6 = some (14, (104, (7, 0))) := by decide +kernel
theorem mc_66_11 : mm_code 66 11 = some (24, (5, (0, 0))) := by decide +kernel
theorem mc_66_12 : mm_code 66 12 = some (25, (40, (18, 0))) := by decide +kernel
theorem mc_66_13 : mm_code 66 13 = some (28, (105, (55, 0))) := by decide +kernel
theorem mc_66_14 : mm_code 66 14 = some (31, (5, (0, 0))) := by decide +kernel
theorem mc_66_15 : mm_code 66 15 = some (32, (40, (18, 0))) := by decide +kernel
theorem mc_66_16 : mm_code 66 16 = some (35, (3, (1, 0))) := by decide +kernel
theorem mc_66_17 : mm_code 66 17 = some (36, (5, (0, 0))) := by decide +kernel
theorem mc_66_18 : mm_code 66 18 = some (37, (40, (17, 0))) := by decide +kernel
theorem mc_66_19 : mm_code 66 19 = some (40, (105, (57, 0))) := by decide +kernel
theorem mc_66_20 : mm_code 66 20 = some (43, (5, (0, 0))) := by decide +kernel
theorem mc_66_21 : mm_code 66 21 = some (44, (40, (17, 0))) := by decide +kernel
theorem mc_66_22 : mm_code 66 22 = some (47, (105, (36, 0))) := by decide +kernel
theorem mc_66_23 : mm_code 66 23 = some (50, (100, (0, 0))) := by decide +kernel
theorem mc_67_0 : mm_code 67 0 = some (0, (3, (1, 0))) := by decide +kernel
theorem mc_67_1 : mm_code 67 1 = some (1, (0, (0, 1))) := by decide +kernel
theorem mc_67_2 : mm_code 67 2 = some (2, (33, (9, 13))) := by decide +kernel
theorem mc_67_3 : mm_code 67 3 = some (5, (3, (1, 0))) := by decide +kernel
theorem mc_67_4 : mm_code 67 4 = some (6, (0, (0, 1))) := by decide +kernel
theorem mc_67_5 : mm_code 67 5 = some (7, (5, (0, 0))) := by decide +kernel
theorem mc_67_6 : mm_code 67 6 = some (8, (40, (21, 0))) := by decide +kernel
theorem mc_67_7 : mm_code 67 7 = some (11, (16, (0, 0))) := by decide +kernel
theorem mc_67_8 : mm_code 67 8 = some (12, (33, (14, 13))) := by decide +kernel
theorem mc_67_9 : mm_code 67 9 = some (15, (104, (8, 1))) := by decide +kernel
theorem mc_67_14 : mm_code 67 14 = some (25, (5, (0, 0))) := by decide +kernel
theorem mc_67_15 : mm_code 67 15 = some (26, (40, (18, 0))) := by decide +kernel
theorem mc_67_16 : mm_code 67 16 = some (29, (3, (1, 0))) := by decide +kernel
theorem mc_67_17 : mm_code 67 17 = some (30, (0, (0, 1))) := by decide +kernel
theorem mc_67_18 : mm_code 67 18 = some (31, (105, (58, 0))) := by decide +kernel
theorem mc_67_19 : mm_code 67 19 = some (34, (5, (0, 0))) := by decide +kernel
theorem mc_67_20 : mm_code 67 20 = some (35, (40, (18, 0))) := by decide +kernel
theorem mc_67_21 : mm_code 67 21 = some (38, (5, (0, 0))) := by decide +kernel
theorem mc_67_22 : mm_code 67 22 = some (39, (40, (17, 0))) := by decide +kernel
theorem mc_67_23 : mm_code 67 23 = some (42, (105, (59, 0))) := by decide +kernel
theorem mc_67_24 : mm_code 67 24 = some (45, (5, (0, 0))) := by decide +kernel
theorem mc_67_25 : mm_code 67 25 = some (46, (40, (17, 0))) := by decide +kernel
theorem mc_67_26 : mm_code 67 26 = some (49, (105, (36, 0))) := by decide +kernel
theorem mc_67_27 : mm_code 67 27 = some (52, (100, (0, 0))) := by decide +kernel
theorem mc_68_0 : mm_code 68 0 = some (0, (3, (1, 0))) := by decide +kernel
theorem mc_68_1 : mm_code 68 1 = some (1, (0, (0, 1))) := by decide +kernel
theorem mc_68_2 : mm_code 68 2 = some (2, (34, (8, 13))) := by decide +kernel
theorem mc_68_3 : mm_code 68 3 = some (5, (104, (9, 1))) := by decide +kernel
theorem mc_68_8 : mm_code 68 8 = some (15, (5, (0, 0))) := by decide +kernel
theorem mc_68_9 : mm_code 68 9 = some (16, (40, (18, 0))) := by decide +kernel
theorem mc_68_10 : mm_code 68 10 = some (19, (0, (0, 0))) := by decide +kernel
theorem mc_68_11 : mm_code 68 11 = some (20, (3, (1, 0))) := by decide +kernel
theorem mc_68_12 : mm_code 68 12 = some (21, (105, (58, 0))) := by decide +kernel
theorem mc_68_13 : mm_code 68 13 = some (24, (5, (0, 0))) := by decide +kernel
theorem mc_68_14 : mm_code 68 14 = some (25, (40, (18, 0))) := by decide +kernel
theorem mc_68_15 : mm_code 68 15 = some (28, (5, (0, 0))) := by decide +kernel
theorem mc_68_16 : mm_code 68 16 = some (29, (40, (17, 0))) := by decide +kernel
theorem mc_68_17 : mm_code 68 17 = some (32, (105, (59, 0))) := by decide +kernel
theorem mc_68_18 : mm_code 68 18 = some (35, (5, (0, 0))) := by decide +kernel
theorem mc_68_19 : mm_code 68 19 = some (36, (40, (17, 0))) := by decide +kernel
theorem mc_68_20 : mm_code 68 20 = some (39, (105, (36, 0))) := by decide +kernel
theorem mc_68_21 : mm_code 68 21 = some (42, (100, (0, 0))) := by decide +kernel
theorem mc_69_0 : mm_code 69 0 = some (0, (3, (1, 0))) := by decide +kernel
theorem mc_69_1 : mm_code 69 1 = some (1, (0, (0, 1))) := by decide +kernel
theorem mc_69_2 : mm_code 69 2 = some (2, (33, (6, 9))) := by decide +kernel
theorem mc_69_3 : mm_code 69 3 = some (5, (3, (1, 0))) := by decide +kernel
theorem mc_69_4 : mm_code 69 4 = some (6, (1, (0, 26))) := by decide +kernel
theorem mc_69_5 : mm_code 69 5 = some (8, (36, (11, 13))) := by decide +kernel
theorem mc_69_6 : mm_code 69 6 = some (11, (104, (10, 1))) := by decide +kernel
theorem mc_69_11 : mm_code 69 11 = some (21, (5, (0, 0))) := by decide +kernel
theorem mc_69_12 : mm_code 69 12 = some (22, (40, (18, 0))) := by decide +kernel
theorem mc_69_13 : mm_code 69 13 = some (25, (3, (1, 0))) := by decide +kernel
theorem mc_69_14 : mm_code 69 14 = some (26, (105, (60, 0))) := by decide +kernel
theorem mc_69_15 : mm_code 69 15 = some (29, (5, (0, 0))) := by decide +kernel
theorem mc_69_16 : mm_code 69 16 = some (30, (40, (18, 0))) := by decide +kernel
theorem mc_69_17 : mm_code 69 17 = some (33, (5, (0, 0))) := by decide +kernel
theorem mc_69_18 : mm_code 69 18 = some (34, (40, (17, 0))) := by decide +kernel
theorem mc_69_19 : mm_code 69 19 = some (37, (105, (59, 0))) := by decide +kernel
theorem mc_69_20 : mm_code 69 20 = some (40, (5, (0, 0))) := by decide +kernel
theorem mc_69_21 : mm_code 69 21 = some (41, (40, (17, 0))) := by decide +kernel
theorem mc_69_22 : mm_code 69 22 = some (44, (105, (36, 0))) := by decide +kernel
theorem mc_69_23 : mm_code 69 23 = some (47, (100, (0, 0))) := by decide +kernel
theorem mc_70_0 : mm_code 70 0 = some (0, (3, (0, 0))) := by decide +kernel
theorem mc_70_1 : mm_code 70 1 = some (1, (27, (7, 12))) := by decide +kernel
theorem mc_70_2 : mm_code 70 2 = some (4, (3, (0, 0))) := by decide +kernel
theorem mc_70_3 : mm_code 70 3 = some (5, (3, (1, 0))) := by decide +kernel
theorem mc_70_4 : mm_code 70 4 = some (6, (34, (7, 7))) := by decide +kernel
theorem mc_70_5 : mm_code 70 5 = some (9, (0, (0, 1))) := by decide +kernel
theorem mc_70_6 : mm_code 70 6 = some (10, (24, (8, 4))) := by decide +kernel
theorem mc_70_7 : mm_code 70 7 = some (13, (0, (0, 0))) := by decide +kernel
theorem mc_70_8 : mm_code 70 8 = some (14, (101, (0, 0))) := by decide +kernel
theorem mc_71_0 : mm_code 71 0 = some (0, (3, (1, 0))) := by decide +kernel
theorem mc_71_1 : mm_code 71 1 = some (1, (5, (0, 0))) := by decide +kernel
theorem mc_71_2 : mm_code 71 2 = some (2, (40, (21, 0))) := by decide +kernel
theorem mc_71_3 : mm_code 71 3 = some (5, (106, (39, 0))) := by decide +kernel
theorem mc_71_4 : mm_code 71 4 = some (8, (25, (15, 21))) := by decide +kernel
theorem mc_71_5 : mm_code 71 5 = some (11, (3, (1, 0))) := by decide +kernel
theorem mc_71_6 : mm_code 71 6 = some (12, (5, (0, 0))) := by decide +kernel
theorem mc_71_7 : mm_code 71 7 = some (13, (40, (16, 0))) := by decide +kernel
theorem mc_71_8 : mm_code 71 8 = some (16, (49, (0, 0))) := by decide +kernel
theorem mc_71_9 : mm_code 71 9 = some (17, (34, (15, 12))) := by decide +kernel
theorem mc_71_10 : mm_code 71 10 = some (20, (5, (0, 0))) := by decide +kernel
theorem mc_71_11 : mm_code 71 11 = some (21, (40, (16, 0))) := by decide +kernel
theorem mc_71_12 : mm_code 71 12 = some (24, (3, (1, 0))) := by decide +kernel
theorem mc_71_13 : mm_code 71 13 = some (25, (47, (0, 0))) := by decide +kernel
theorem mc_71_14 : mm_code 71 14 = some (26, (24, (16, 4))) := by decide +kernel
theorem mc_71_15 : mm_code 71 15 = some (29, (39, (0, 0))) := by decide +kernel
theorem mc_71_16 : mm_code 71 16 = some (30, (9, (2, 0))) := by decide +kernel
theorem mc_71_17 : mm_code 71 17 = some (31, (5, (2, 0))) := by decide +kernel
theorem mc_71_18 : mm_code 71 18 = some (32, (38, (24, 13))) := by decide +kernel
theorem mc_71_19 : mm_code 71 19 = some (35, (104, (11, 0))) := by decide +kernel
theorem mc_71_24 : mm_code 71 24 = some (45, (5, (2, 0))) := by decide +kernel
theorem mc_71_25 : mm_code 71 25 = some (46, (102, (0, 0))) := by decide +kernel
theorem mc_72_0 : mm_code 72 0 = some (0, (3, (0, 0))) := by decide +kernel
theorem mc_72_1 : mm_code 72 1 = some (1, (1, (0, 26))) := by decide +kernel
theorem mc_72_2 : mm_code 72 2 = some (3, (106, (39, 0))) := by decide +kernel
theorem mc_72_3 : mm_code 72 3 = some (6, (26, (9, 13))) := by decide +kernel
theorem mc_72_4 : mm_code 72 4 = some (9, (104, (12, 1))) := by decide +kernel
theorem mc_72_9 : mm_code 72 9 = some (19, (103, (0, 0))) := by decide +kernel
theorem mc_73_0 : mm_code 73 0 = some (0, (3, (1, 0))) := by decide +kernel
theorem mc_73_1 : mm_code 73 1 = some (1, (7, (2, 0))) := by decide +kernel
theorem mc_73_2 : mm_code 73 2 = some (2, (0, (0, 0))) := by decide +kernel
theorem mc_73_3 : mm_code 73 3 = some (3, (7, (3, 0))) := by decide +kernel
theorem mc_73_4 : mm_code 73 4 = some (4, (3, (3, 0))) := by decide +kernel
theorem mc_73_5 : mm_code 73 5 = some (5, (5, (0, 0))) := by decide +kernel
theorem mc_73_6 : mm_code 73 6 = some (6, (40, (17, 0))) := by decide +kernel
theorem mc_73_7 : mm_code 73 7 = some (9, (105, (36, 0))) := by decide +kernel
theorem mc_73_8 : mm_code 73 8 = some (12, (34, (23, 31))) := by decide +kernel
theorem mc_73_9 : mm_code 73 9 = some (15, (3, (2, 0))) := by decide +kernel
theorem mc_73_10 : mm_code 73 10 = some (16, (0, (0, (-1)))) := by decide +kernel
theorem mc_73_11 : mm_code 73 11 = some (17, (31, (23, 26))) := by decide +kernel
theorem mc_73_12 : mm_code 73 12 = some (20, (5, (0, 0))) := by decide +kernel
theorem mc_73_13 : mm_code 73 13 = some (21, (40, (20, 0))) := by decide +kernel
theorem mc_73_14 : mm_code 73 14 = some (24, (3, (2, 0))) := by decide +kernel
theorem mc_73_15 : mm_code 73 15 = some (25, (5, (0, 0))) := by decide +kernel
theorem mc_73_16 : mm_code 73 16 = some (26, (40, (17, 0))) := by decide +kernel
theorem mc_73_17 : mm_code 73 17 = some (29, (3, (3, 0))) := by decide +kernel
theorem mc_73_18 : mm_code 73 18 = some (30, (105, (40, 0))) := by decide +kernel
theorem mc_73_19 : mm_code 73 19 = some (33, (105, (50, 0))) := by decide +kernel
theorem mc_73_20 : mm_code 73 20 = some (36, (7, (2, 0))) := by decide +kernel
theorem mc_73_21 : mm_code 73 21 = some (37, (20, (3, 1))) := by decide +kernel
theorem mc_73_22 : mm_code 73 22 = some (40, (24, (4, (-36)))) := by decide +kernel
theorem mc_73_23 : mm_code 73 23 = some (43, (3, (2, 0))) := by decide +kernel
theorem mc_73_24 : mm_code 73 24 = some (44, (100, (0, 0))) := by decide +kernel
theorem mc_74_0 : mm_code 74 0 = some (0, (5, (0, 0))) := by decide +kernel
theorem mc_74_1 : mm_code 74 1 = some (1, (40, (17, 0))) := by decide +kernel
theorem mc_74_2 : mm_code 74 2 = some (4, (105, (36, 0))) := by decide +kernel
theorem mc_74_3 : mm_code 74 3 = some (7, (26, (6, 7))) := by decide +kernel
theorem mc_74_4 : mm_code 74 4 = some (10, (0, (0, (-1)))) := by decide +kernel
theorem mc_74_5 : mm_code 74 5 = some (11, (24, (9, 8))) := by decide +kernel
theorem mc_74_6 : mm_code 74 6 = some (14, (5, (0, 0))) := by decide +kernel
theorem mc_74_7 : mm_code 74 7 = some (15, (0, (0, 0))) := by decide +kernel
theorem mc_74_8 : mm_code 74 8 = some (16, (105, (49, 0))) := by decide +kernel
theorem mc_74_9 : mm_code 74 9 = some (19, (100, (0, 0))) := by decide +kernel
theorem mc_75_0 : mm_code 75 0 = some (0, (3, (1, 0))) := by decide +kernel
theorem mc_75_1 : mm_code 75 1 = some (1, (0, (0, (-1)))) := by decide +kernel
theorem mc_75_2 : mm_code 75 2 = some (2, (32, (5, 7))) := by decide +kernel
theorem mc_75_3 : mm_code 75 3 = some (5, (0, (0, (-1)))) := by decide +kernel
theorem mc_75_4 : mm_code 75 4 = some (6, (24, (12, 14))) := by decide +kernel
theorem mc_75_5 : mm_code 75 5 = some (9, (3, (1, 0))) := by decide +kernel
theorem mc_75_6 : mm_code 75 6 = some (10, (5, (0, 0))) := by decide +kernel
theorem mc_75_7 : mm_code 75 7 = some (11, (40, (17, 0))) := by decide +kernel
theorem mc_75_8 : mm_code 75 8 = some (14, (105, (36, 0))) := by decide +kernel
theorem mc_75_9 : mm_code 75 9 = some (17, (12, (0, 0))) := by decide +kernel
theorem mc_75_10 : mm_code 75 10 = some (18, (0, (0, 1))) := by decide +kernel
theorem mc_75_11 : mm_code 75 11 = some (19, (11, (0, 0))) := by decide +kernel
theorem mc_75_12 : mm_code 75 12 = some (20, (100, (0, 0))) := by decide +kernel
theorem mc_76_0 : mm_code 76 0 = some (0, (0, (0, 0))) := by decide +kernel
theorem mc_76_1 : mm_code 76 1 = some (1, (7, (1, 0))) := by decide +kernel
theorem mc_76_2 : mm_code 76 2 = some (2, (0, (0, 0))) := by decide +kernel
theorem mc_76_3 : mm_code 76 3 = some (3, (7, (2, 0))) := by decide +kernel
theorem mc_76_4 : mm_code 76 4 = some (4, (3, (2, 0))) := by decide +kernel
theorem mc_76_5 : mm_code 76 5 = some (5, (5, (0, 0))) := by decide +kernel
theorem mc_76_6 : mm_code 76 6 = some (6, (105, (61, 0))) := by decide +kernel
theorem mc_76_7 : mm_code 76 7 = some (9, (34, (16, 17))) := by decide +kernel
theorem mc_76_8 : mm_code 76 8 = some (12, (3, (1, 0))) := by decide +kernel
theorem mc_76_9 : mm_code 76 9 = some (13, (5, (0, 0))) := by decide +kernel
theorem mc_76_10 : mm_code 76 10 = some (14, (3, (2, 0))) := by decide +kernel
theorem mc_76_11 : mm_code 76 11 = some (15, (105, (62, 0))) := by decide +kernel
theorem mc_76_12 : mm_code 76 12 = some (18, (11, (0, 0))) := by decide +kernel
theorem mc_76_13 : mm_code 76 13 = some (19, (7, (1, 0))) := by decide +kernel
theorem mc_76_14 : mm_code 76 14 = some (20, (20, (2, 1))) := by decide +kernel
theorem mc_76_15 : mm_code 76 15 = some (23, (24, (4, (-19)))) := by decide +kernel
theorem mc_76_16 : mm_code 76 16 = some (26, (3, (1, 0))) := by decide +kernel
theorem mc_76_17 : mm_code 76 17 = some (27, (100, (0, 0))) := by decide +kernel
theorem mc_77_0 : mm_code 77 0 = some (0, (5, (0, 0))) := by decide +kernel
theorem mc_77_1 : mm_code 77 1 = some (1, (105, (61, 0))) := by decide +kernel
theorem mc_77_2 : mm_code 77 2 = some (4, (8, (4, 0))) := by decide +kernel
theorem mc_77_3 : mm_code 77 3 = some (6, (4, (4, 0))) := by decide +kernel
theorem mc_77_4 : mm_code 77 4 = some (8, (25, (12, 16))) := by decide +kernel
theorem mc_77_5 : mm_code 77 5 = some (11, (3, (1, 0))) := by decide +kernel
theorem mc_77_6 : mm_code 77 6 = some (12, (1, (0, 9))) := by decide +kernel
theorem mc_77_7 : mm_code 77 7 = some (14, (15, (0, 0))) := by decide +kernel
theorem mc_77_8 : mm_code 77 8 = some (15, (26, (30, 44))) := by decide +kernel
theorem mc_77_9 : mm_code 77 9 = some (18, (4, (4, 0))) := by decide +kernel
theorem mc_77_10 : mm_code 77 10 = some (20, (0, (0, 4))) := by decide +kernel
theorem mc_77_11 : mm_code 77 11 = some (21, (34, (30, 38))) := by decide +kernel
theorem mc_77_12 : mm_code 77 12 = some (24, (5, (0, 0))) := by decide +kernel
theorem mc_77_13 : mm_code 77 13 = some (25, (105, (63, 0))) := by decide +kernel
theorem mc_77_14 : mm_code 77 14 = some (28, (4, (4, 0))) := by decide +kernel
theorem mc_77_15 : mm_code 77 15 = some (30, (32, (28, 27))) := by decide +kernel
theorem mc_77_16 : mm_code 77 16 = some (33, (5, (0, 0))) := by decide +kernel
theorem mc_77_17 : mm_code 77 17 = some (34, (105, (61, 0))) := by decide +kernel
theorem mc_77_18 : mm_code 77 18 = some (37, (4, (4, 0))) := by decide +kernel
theorem mc_77_19 : mm_code 77 19 = some (39, (0, (0, 1))) := by decide +kernel
theorem mc_77_20 : mm_code 77 20 = some (40, (11, (0, 0))) := by decide +kernel
theorem mc_77_21 : mm_code 77 21 = some (41, (32, (28, 16))) := by decide +kernel
theorem mc_77_22 : mm_code 77 22 = some (44, (5, (0, 0))) := by decide +kernel
theorem mc_77_23 : mm_code 77 23 = some (45, (4, (4, 0))) := by decide +kernel
theorem mc_77_24 : mm_code 77 24 = some (47, (105, (62, 0))) := by decide +kernel
theorem mc_77_25 : mm_code 77 25 = some (50, (26, (28, 7))) := by decide +kernel
theorem mc_77_26 : mm_code 77 26 = some (53, (0, (0, 1))) := by decide +kernel
theorem mc_77_27 : mm_code 77 27 = some (54, (24, (29, 4))) := by decide +kernel
theorem mc_77_28 : mm_code 77 28 = some (57, (0, (0, 0))) := by decide +kernel
theorem mc_77_29 : mm_code 77 29 = some (58, (101, (0, 0))) := by decide +kernel
theorem mc_77_30 : mm_code 77 30 = some (59, (3, (2, 0))) := by decide +kernel
theorem mc_77_31 : mm_code 77 31 = some (60, (4, (4, 0))) := by decide +kernel
theorem mc_77_32 : mm_code 77 32 = some (62, (15, (0, 0))) := by decide +kernel
theorem mc_77_33 : mm_code 77 33 = some (63, (8, (5, 0))) := by decide +kernel
theorem mc_77_34 : mm_code 77 34 = some (65, (3, (1, 0))) := by decide +kernel
theorem mc_77_35 : mm_code 77 35 = some (66, (1, (0, 9))) := by decide +kernel
theorem mc_77_36 : mm_code 77 36 = some (68, (15, (0, 0))) := by decide +kernel
theorem mc_77_37 : mm_code 77 37 = some (69, (1, (0, 6))) := by decide +kernel
theorem mc_77_38 : mm_code 77 38 = some (71, (34, (82, 83))) := by decide +kernel
theorem mc_77_39 : mm_code 77 39 = some (74, (5, (0, 0))) := by decide +kernel
theorem mc_77_40 : mm_code 77 40 = some (75, (106, (64, 0))) := by decide +kernel
theorem mc_77_41 : mm_code 77 41 = some (78, (1, (0, 24))) := by decide +kernel
theorem mc_77_42 : mm_code 77 42 = some (80, (34, (82, 74))) := by decide +kernel
theorem mc_77_43 : mm_code 77 43 = some (83, (5, (0, 0))) := by decide +kernel
theorem mc_77_44 : mm_code 77 44 = some (84, (4, (5, 0))) := by decide +kernel
theorem mc_77_45 : mm_code 77 45 = some (86, (105, (62, 0))) := by decide +kernel
theorem mc_77_46 : mm_code 77 46 = some (89, (8, (6, 0))) := by decide +kernel
theorem mc_77_47 : mm_code 77 47 = some (91, (3, (3, 0))) := by decide +kernel
theorem mc_77_48 : mm_code 77 48 = some (92, (3, (3, 0))) := by decide +kernel
theorem mc_77_49 : mm_code 77 49 = some (93, (0, (0, 5))) := by decide +kernel
theorem mc_77_50 : mm_code 77 50 = some (94, (15, (0, 0))) := by decide +kernel
theorem mc_77_51 : mm_code 77 51 = some (95, (26, (54, 8))) := by decide +kernel
theorem mc_77_52 : mm_code 77 52 = some (98, (1, (0, 26))) := by decide +kernel
theorem mc_77_53 : mm_code 77 53 = some (100, (24, (55, 4))) := by decide +kernel
theorem mc_77_54 : mm_code 77 54 = some (103, (0, (0, 3))) := by decide +kernel
theorem mc_77_55 : mm_code 77 55 = some (104, (15, (0, 0))) := by decide +kernel
theorem mc_77_56 : mm_code 77 56 = some (105, (8, (7, 0))) := by decide +kernel
theorem mc_77_57 : mm_code 77 57 = some (107, (5, (0, 0))) := by decide +kernel
theorem mc_77_58 : mm_code 77 58 = some (108, (4, (5, 0))) := by decide +kernel
theorem mc_77_59 : mm_code 77 59 = some (110, (4, (7, 0))) := by decide +kernel
theorem mc_77_60 : mm_code 77 60 = some (112, (105, (65, 0))) := by decide +kernel
theorem mc_77_61 : mm_code 77 61 = some (115, (4, (6, 0))) := by decide +kernel
theorem mc_77_62 : mm_code 77 62 = some (117, (0, (0, 1))) := by decide +kernel
theorem mc_77_63 : mm_code 77 63 = some (118, (11, (0, 0))) := by decide +kernel
theorem mc_77_64 : mm_code 77 64 = some (119, (32, (80, 33))) := by decide +kernel
theorem mc_77_65 : mm_code 77 65 = some (122, (5, (0, 0))) := by decide +kernel
theorem mc_77_66 : mm_code 77 66 = some (123, (4, (5, 0))) := by decide +kernel
theorem mc_77_67 : mm_code 77 67 = some (125, (105, (62, 0))) := by decide +kernel
theorem mc_77_68 : mm_code 77 68 = some (128, (4, (6, 0))) := by decide +kernel
theorem mc_77_69 : mm_code 77 69 = some (130, (0, (0, 1))) := by decide +kernel
theorem mc_77_70 : mm_code 77 70 = some (131, (11, (0, 0))) := by decide +kernel
theorem mc_77_71 : mm_code 77 71 = some (132, (32, (80, 20))) := by decide +kernel
theorem mc_77_72 : mm_code 77 72 = some (135, (5, (0, 0))) := by decide +kernel
theorem mc_77_73 : mm_code 77 73 = some (136, (4, (5, 0))) := by decide +kernel
theorem mc_77_74 : mm_code 77 74 = some (138, (4, (6, 0))) := by decide +kernel
theorem mc_77_75 : mm_code 77 75 = some (140, (105, (66, 0))) := by decide +kernel
theorem mc_77_76 : mm_code 77 76 = some (143, (4, (7, 0))) := by decide +kernel
theorem mc_77_77 : mm_code 77 77 = some (145, (32, (80, 7))) := by decide +kernel
theorem mc_77_78 : mm_code 77 78 = some (148, (0, (0, 1))) := by decide +kernel
theorem mc_77_79 : mm_code 77 79 = some (149, (24, (81, 4))) := by decide +kernel
theorem mc_77_80 : mm_code 77 80 = some (152, (0, (0, 0))) := by decide +kernel
theorem mc_77_81 : mm_code 77 81 = some (153, (101, (0, 0))) := by decide +kernel
theorem mc_77_82 : mm_code 77 82 = some (154, (5, (0, 0))) := by decide +kernel
theorem mc_77_83 : mm_code 77 83 = some (155, (105, (67, 0))) := by decide +kernel
theorem mc_77_84 : mm_code 77 84 = some (158, (8, (6, 0))) := by decide +kernel
theorem mc_77_85 : mm_code 77 85 = some (160, (3, (1, 0))) := by decide +kernel
theorem mc_77_86 : mm_code 77 86 = some (161, (1, (0, 9))) := by decide +kernel
theorem mc_77_87 : mm_code 77 87 = some (163, (15, (0, 0))) := by decide +kernel
theorem mc_77_88 : mm_code 77 88 = some (164, (1, (0, 6))) := by decide +kernel
theorem mc_77_89 : mm_code 77 89 = some (166, (32, (113, 42))) := by decide +kernel
theorem mc_77_90 : mm_code 77 90 = some (169, (4, (6, 0))) := by decide +kernel
theorem mc_77_91 : mm_code 77 91 = some (171, (1, (0, 120))) := by decide +kernel
theorem mc_77_92 : mm_code 77 92 = some (173, (34, (113, 35))) := by decide +kernel
theorem mc_77_93 : mm_code 77 93 = some (176, (5, (0, 0))) := by decide +kernel
theorem mc_77_94 : mm_code 77 94 = some (177, (3, (3, 0))) := by decide +kernel
theorem mc_77_95 : mm_code 77 95 = some (178, (0, (0, 4))) := by decide +kernel
theorem mc_77_96 : mm_code 77 96 = some (179, (15, (0, 0))) := by decide +kernel
theorem mc_77_97 : mm_code 77 97 = some (180, (105, (68, 0))) := by decide +kernel
theorem mc_77_98 : mm_code 77 98 = some (183, (4, (6, 0))) := by decide +kernel
theorem mc_77_99 : mm_code 77 99 = some (185, (0, (0, 1))) := by decide +kernel
theorem mc_77_100 : mm_code 77 100 = some (186, (11, (0, 0))) := by decide +kernel
theorem mc_77_101 : mm_code 77 101 = some (187, (32, (111, 19))) := by decide +kernel
theorem mc_77_102 : mm_code 77 102 = some (190, (5, (0, 0))) := by decide +kernel
theorem mc_77_103 : mm_code 77 103 = some (191, (4, (6, 0))) := by decide +kernel
theorem mc_77_104 : mm_code 77 104 = some (193, (105, (69, 0))) := by decide +kernel
theorem mc_77_105 : mm_code 77 105 = some (196, (3, (3, 0))) := by decide +kernel
theorem mc_77_106 : mm_code 77 106 = some (197, (0, (0, 4))) := by decide +kernel
theorem mc_77_107 : mm_code 77 107 = some (198, (15, (0, 0))) := by decide +kernel
theorem mc_77_108 : mm_code 77 108 = some (199, (32, (111, 7))) := by decide +kernel
theorem mc_77_109 : mm_code 77 109 = some (202, (0, (0, 1))) := by decide +kernel
theorem mc_77_110 : mm_code 77 110 = some (203, (24, (112, 4))) := by decide +kernel
theorem mc_77_111 : mm_code 77 111 = some (206, (0, (0, 0))) := by decide +kernel
theorem mc_77_112 : mm_code 77 112 = some (207, (101, (0, 0))) := by decide +kernel
theorem mc_77_113 : mm_code 77 113 = some (208, (3, (1, 0))) := by decide +kernel
theorem mc_77_114 : mm_code 77 114 = some (209, (1, (0, 9))) := by decide +kernel
theorem mc_77_115 : mm_code 77 115 = some (211, (15, (0, 0))) := by decide +kernel
theorem mc_77_116 : mm_code 77 116 = some (212, (1, (0, 7))) := by decide +kernel
theorem mc_77_117 : mm_code 77 117 = some (214, (32, (140, 44))) := by decide +kernel
theorem mc_77_118 : mm_code 77 118 = some (217, (4, (6, 0))) := by decide +kernel
theorem mc_77_119 : mm_code 77 119 = some (219, (30, (140, 39))) := by decide +kernel
theorem mc_77_120 : mm_code 77 120 = some (222, (5, (0, 0))) := by decide +kernel
theorem mc_77_121 : mm_code 77 121 = some (223, (4, (6, 0))) := by decide +kernel
theorem mc_77_122 : mm_code 77 122 = some (225, (0, (0, 1))) := by decide +kernel
theorem mc_77_123 : mm_code 77 123 = some (226, (12, (0, 0))) := by decide +kernel
theorem mc_77_124 : mm_code 77 124 = some (227, (105, (69, 0))) := by decide +kernel
theorem mc_77_125 : mm_code 77 125 = some (230, (8, (7, 0))) := by decide +kernel
theorem mc_77_126 : mm_code 77 126 = some (232, (5, (0, 0))) := by decide +kernel
theorem mc_77_127 : mm_code 77 127 = some (233, (105, (70, 0))) := by decide +kernel
theorem mc_77_128 : mm_code 77 128 = some (236, (4, (7, 0))) := by decide +kernel
theorem mc_77_129 : mm_code 77 129 = some (238, (32, (138, 18))) := by decide +kernel
theorem mc_77_130 : mm_code 77 130 = some (241, (5, (0, 0))) := by decide +kernel
theorem mc_77_131 : mm_code 77 131 = some (242, (105, (67, 0))) := by decide +kernel
theorem mc_77_132 : mm_code 77 132 = some (245, (4, (6, 0))) := by decide +kernel
theorem mc_77_133 : mm_code 77 133 = some (247, (0, (0, 1))) := by decide +kernel
theorem mc_77_134 : mm_code 77 134 = some (248, (12, (0, 0))) := by decide +kernel
theorem mc_77_135 : mm_code 77 135 = some (249, (32, (138, 7))) := by decide +kernel
theorem mc_77_136 : mm_code 77 136 = some (252, (0, (0, 1))) := by decide +kernel
theorem mc_77_137 : mm_code 77 137 = some (253, (24, (139, 4))) := by decide +kernel
theorem mc_77_138 : mm_code 77 138 = some (256, (0, (0, 0))) := by decide +kernel
theorem mc_77_139 : mm_code 77 139 = some (257, (101, (0, 0))) := by decide +kernel
theorem mc_77_140 : mm_code 77 140 = some (258, (5, (0, 0))) := by decide +kernel
theorem mc_77_141 : mm_code 77 141 = some (259, (4, (5, 0))) := by decide +kernel
theorem mc_77_142 : mm_code 77 142 = some (261, (5, (0, 0))) := by decide +kernel
theorem mc_77_143 : mm_code 77 143 = some (262, (4, (5, 0))) := by decide +kernel
theorem mc_77_144 : mm_code 77 144 = some (264, (105, (62, 0))) := by decide +kernel
theorem mc_77_145 : mm_code 77 145 = some (267, (26, (148, 7))) := by decide +kernel
theorem mc_77_146 : mm_code 77 146 = some (270, (0, (0, 0))) := by decide +kernel
theorem mc_77_147 : mm_code 77 147 = some (271, (24, (153, 11))) := by decide +kernel
theorem mc_77_148 : mm_code 77 148 = some (274, (3, (3, 0))) := by decide +kernel
theorem mc_77_149 : mm_code 77 149 = some (275, (5, (0, 0))) := by decide +kernel
theorem mc_77_150 : mm_code 77 150 = some (276, (4, (5, 0))) := by decide +kernel
theorem mc_77_151 : mm_code 77 151 = some (278, (105, (62, 0))) := by decide +kernel
theorem mc_77_152 : mm_code 77 152 = some (281, (15, (0, 0))) := by decide +kernel
theorem mc_77_153 : mm_code 77 153 = some (282, (3, (3, 0))) := by decide +kernel
theorem mc_77_154 : mm_code 77 154 = some (283, (1, (0, 25))) := by decide +kernel
theorem mc_77_155 : mm_code 77 155 = some (285, (14, (0, 0))) := by decide +kernel
theorem mc_77_156 : mm_code 77 156 = some (286, (106, (71, 0))) := by decide +kernel
theorem mc_77_157 : mm_code 77 157 = some (289, (101, (0, 0))) := by decide +kernel
theorem mc_78_0 : mm_code 78 0 = some (0, (3, (3, 0))) := by decide +kernel
theorem mc_78_1 : mm_code 78 1 = some (1, (5, (0, 0))) := by decide +kernel
theorem mc_78_2 : mm_code 78 2 = some (2, (3, (1, 0))) := by decide +kernel
theorem mc_78_3 : mm_code 78 3 = some (3, (105, (62, 0))) := by decide +kernel
theorem mc_78_4 : mm_code 78 4 = some (6, (3, (2, 0))) := by decide +kernel
theorem mc_78_5 : mm_code 78 5 = some (7, (12, (0, 0))) := by decide +kernel
theorem mc_78_6 : mm_code 78 6 = some (8, (0, (0, 1))) := by decide +kernel
theorem mc_78_7 : mm_code 78 7 = some (9, (11, (0, 0))) := by decide +kernel
theorem mc_78_8 : mm_code 78 8 = some (10, (15, (0, 0))) := by decide +kernel
theorem mc_78_9 : mm_code 78 9 = some (11, (8, (4, 0))) := by decide +kernel
theorem mc_78_10 : mm_code 78 10 = some (13, (5, (0, 0))) := by decide +kernel
theorem mc_78_11 : mm_code 78 11 = some (14, (3, (1, 0))) := by decide +kernel
theorem mc_78_12 : mm_code 78 12 = some (15, (3, (2, 0))) := by decide +kernel
theorem mc_78_13 : mm_code 78 13 = some (16, (4, (4, 0))) := by decide +kernel
theorem mc_78_14 : mm_code 78 14 = some (18, (105, (72, 0))) := by decide +kernel
theorem mc_78_15 : mm_code 78 15 = some (21, (5, (0, 0))) := by decide +kernel
theorem mc_78_16 : mm_code 78 16 = some (22, (105, (67, 0))) := by decide +kernel
theorem mc_78_17 : mm_code 78 17 = some (25, (4, (4, 0))) := by decide +kernel
theorem mc_78_18 : mm_code 78 18 = some (27, (32, (21, 7))) := by decide +kernel
theorem mc_78_19 : mm_code 78 19 = some (30, (0, (0, 1))) := by decide +kernel
theorem mc_78_20 : mm_code 78 20 = some (31, (24, (22, 4))) := by decide +kernel
theorem mc_78_21 : mm_code 78 21 = some (34, (0, (0, 0))) := by decide +kernel
theorem mc_78_22 : mm_code 78 22 = some (35, (8, (5, 0))) := by decide +kernel
theorem mc_78_23 : mm_code 78 23 = some (37, (0, (0, 0))) := by decide +kernel
theorem mc_78_24 : mm_code 78 24 = some (38, (8, (6, 0))) := by decide +kernel
theorem mc_78_25 : mm_code 78 25 = some (40, (4, (6, 0))) := by decide +kernel
theorem mc_78_26 : mm_code 78 26 = some (42, (4, (4, 0))) := by decide +kernel
theorem mc_78_27 : mm_code 78 27 = some (44, (34, (46, 39))) := by decide +kernel
theorem mc_78_28 : mm_code 78 28 = some (47, (4, (5, 0))) := by decide +kernel
theorem mc_78_29 : mm_code 78 29 = some (49, (25, (42, 25))) := by decide +kernel
theorem mc_78_30 : mm_code 78 30 = some (52, (5, (0, 0))) := by decide +kernel
theorem mc_78_31 : mm_code 78 31 = some (53, (4, (6, 0))) := by decide +kernel
theorem mc_78_32 : mm_code 78 32 = some (55, (105, (69, 0))) := by decide +kernel
theorem mc_78_33 : mm_code 78 33 = some (58, (5, (0, 0))) := by decide +kernel
theorem mc_78_34 : mm_code 78 34 = some (59, (3, (1, 0))) := by decide +kernel
theorem mc_78_35 : mm_code 78 35 = some (60, (3, (2, 0))) := by decide +kernel
theorem mc_78_36 : mm_code 78 36 = some (61, (4, (6, 0))) := by decide +kernel
theorem mc_78_37 : mm_code 78 37 = some (63, (11, (0, 0))) := by decide +kernel
theorem mc_78_38 : mm_code 78 38 = some (64, (105, (66, 0))) := by decide +kernel
theorem mc_78_39 : mm_code 78 39 = some (67, (32, (42, 7))) := by decide +kernel
theorem mc_78_40 : mm_code 78 40 = some (70, (0, (0, 1))) := by decide +kernel
theorem mc_78_41 : mm_code 78 41 = some (71, (24, (43, 4))) := by decide +kernel
theorem mc_78_42 : mm_code 78 42 = some (74, (0, (0, 0))) := by decide +kernel
theorem mc_78_43 : mm_code 78 43 = some (75, (8, (5, 0))) := by decide +kernel
theorem mc_78_44 : mm_code 78 44 = some (77, (20, (6, 1))) := by decide +kernel
theorem mc_78_45 : mm_code 78 45 = some (80, (24, (25, (-40)))) := by decide +kernel
theorem mc_78_46 : mm_code 78 46 = some (83, (4, (5, 0))) := by decide +kernel
theorem mc_78_47 : mm_code 78 47 = some (85, (25, (82, 74))) := by decide +kernel
theorem mc_78_48 : mm_code 78 48 = some (88, (4, (4, 0))) := by decide +kernel
theorem mc_78_49 : mm_code 78 49 = some (90, (26, (57, 20))) := by decide +kernel
theorem mc_78_50 : mm_code 78 50 = some (93, (5, (0, 0))) := by decide +kernel
theorem mc_78_51 : mm_code 78 51 = some (94, (105, (73, 0))) := by decide +kernel
theorem mc_78_52 : mm_code 78 52 = some (97, (26, (82, 62))) := by decide +kernel
theorem mc_78_53 : mm_code 78 53 = some (100, (5, (0, 0))) := by decide +kernel
theorem mc_78_54 : mm_code 78 54 = some (101, (105, (74, 0))) := by decide +kernel
theorem mc_78_55 : mm_code 78 55 = some (104, (26, (82, 55))) := by decide +kernel
theorem mc_78_56 : mm_code 78 56 = some (107, (24, (80, 48))) := by decide +kernel
theorem mc_78_57 : mm_code 78 57 = some (110, (5, (0, 0))) := by decide +kernel
theorem mc_78_58 : mm_code 78 58 = some (111, (105, (73, 0))) := by decide +kernel
theorem mc_78_59 : mm_code 78 59 = some (114, (25, (82, 45))) := by decide +kernel
theorem mc_78_60 : mm_code 78 60 = some (117, (5, (0, 0))) := by decide +kernel
theorem mc_78_61 : mm_code 78 61 = some (118, (3, (1, 0))) := by decide +kernel
theorem mc_78_62 : mm_code 78 62 = some (119, (105, (75, 0))) := by decide +kernel
theorem mc_78_63 : mm_code 78 63 = some (122, (3, (2, 0))) := by decide +kernel
theorem mc_78_64 : mm_code 78 64 = some (123, (35, (82, 36))) := by decide +kernel
theorem mc_78_65 : mm_code 78 65 = some (126, (5, (0, 0))) := by decide +kernel
theorem mc_78_66 : mm_code 78 66 = some (127, (3, (1, 0))) := by decide +kernel
theorem mc_78_67 : mm_code 78 67 = some (128, (105, (76, 0))) := by decide +kernel
theorem mc_78_68 : mm_code 78 68 = some (131, (3, (2, 0))) := by decide +kernel
theorem mc_78_69 : mm_code 78 69 = some (132, (33, (82, 27))) := by decide +kernel
theorem mc_78_70 : mm_code 78 70 = some (135, (5, (0, 0))) := by decide +kernel
theorem mc_78_71 : mm_code 78 71 = some (136, (3, (1, 0))) := by decide +kernel
theorem mc_78_72 : mm_code 78 72 = some (137, (105, (77, 0))) := by decide +kernel
theorem mc_78_73 : mm_code 78 73 = some (140, (0, (0, 1))) := by decide +kernel
theorem mc_78_74 : mm_code 78 74 = some (141, (33, (82, 18))) := by decide +kernel
theorem mc_78_75 : mm_code 78 75 = some (144, (5, (0, 0))) := by decide +kernel
theorem mc_78_76 : mm_code 78 76 = some (145, (105, (74, 0))) := by decide +kernel
theorem mc_78_77 : mm_code 78 77 = some (148, (5, (0, 0))) := by decide +kernel
theorem mc_78_78 : mm_code 78 78 = some (149, (105, (78, 0))) := by decide +kernel
theorem mc_78_79 : mm_code 78 79 = some (152, (34, (82, 7))) := by decide +kernel
theorem mc_78_80 : mm_code 78 80 = some (155, (0, (0, 1))) := by decide +kernel
theorem mc_78_81 : mm_code 78 81 = some (156, (24, (83, 4))) := by decide +kernel
theorem mc_78_82 : mm_code 78 82 = some (159, (0, (0, 0))) := by decide +kernel
theorem mc_78_83 : mm_code 78 83 = some (160, (101, (0, 0))) := by decide +kernel
theorem mc_79_0 : mm_code 79 0 = some (0, (5, (0, 0))) := by decide +kernel
theorem mc_79_1 : mm_code 79 1 = some (1, (105, (67, 0))) := by decide +kernel
theorem mc_79_2 : mm_code 79 2 = some (4, (30, (13, 21))) := by decide +kernel
theorem mc_79_3 : mm_code 79 3 = some (7, (3, (2, 0))) := by decide +kernel
theorem mc_79_4 : mm_code 79 4 = some (8, (5, (0, 0))) := by decide +kernel
theorem mc_79_5 : mm_code 79 5 = some (9, (105, (67, 0))) := by decide +kernel
theorem mc_79_6 : mm_code 79 6 = some (12, (11, (0, 0))) := by decide +kernel
theorem mc_79_7 : mm_code 79 7 = some (13, (5, (0, 0))) := by decide +kernel
theorem mc_79_8 : mm_code 79 8 = some (14, (3, (1, 0))) := by decide +kernel
theorem mc_79_9 : mm_code 79 9 = some (15, (105, (62, 0))) := by decide +kernel
theorem mc_79_10 : mm_code 79 10 = some (18, (35, (13, 7))) := by decide +kernel
theorem mc_79_11 : mm_code 79 11 = some (21, (0, (0, 1))) := by decide +kernel
theorem mc_79_12 : mm_code 79 12 = some (22, (24, (14, 4))) := by decide +kernel
theorem mc_79_13 : mm_code 79 13 = some (25, (0, (0, 0))) := by decide +kernel
theorem mc_79_14 : mm_code 79 14 = some (26, (7, (3, 0))) := by decide +kernel
theorem mc_79_15 : mm_code 79 15 = some (27, (0, (0, 0))) := by decide +kernel
theorem mc_79_16 : mm_code 79 16 = some (28, (8, (4, 0))) := by decide +kernel
theorem mc_79_17 : mm_code 79 17 = some (30, (4, (4, 0))) := by decide +kernel
theorem mc_79_18 : mm_code 79 18 = some (32, (5, (0, 0))) := by decide +kernel
theorem mc_79_19 : mm_code 79 19 = some (33, (105, (67, 0))) := by decide +kernel
theorem mc_79_20 : mm_code 79 20 = some (36, (34, (39, 37))) := by decide +kernel
theorem mc_79_21 : mm_code 79 21 = some (39, (3, (3, 0))) := by decide +kernel
theorem mc_79_22 : mm_code 79 22 = some (40, (25, (39, 33))) := by decide +kernel
theorem mc_79_23 : mm_code 79 23 = some (43, (5, (0, 0))) := by decide +kernel
theorem mc_79_24 : mm_code 79 24 = some (44, (3, (1, 0))) := by decide +kernel
theorem mc_79_25 : mm_code 79 25 = some (45, (3, (2, 0))) := by decide +kernel
theorem mc_79_26 : mm_code 79 26 = some (46, (4, (4, 0))) := by decide +kernel
theorem mc_79_27 : mm_code 79 27 = some (48, (11, (0, 0))) := by decide +kernel
theorem mc_79_28 : mm_code 79 28 = some (49, (105, (66, 0))) := by decide +kernel
theorem mc_79_29 : mm_code 79 29 = some (52, (5, (0, 0))) := by decide +kernel
theorem mc_79_30 : mm_code 79 30 = some (53, (4, (4, 0))) := by decide +kernel
theorem mc_79_31 : mm_code 79 31 = some (55, (105, (69, 0))) := by decide +kernel
theorem mc_79_32 : mm_code 79 32 = some (58, (32, (35, 7))) := by decide +kernel
theorem mc_79_33 : mm_code 79 33 = some (61, (0, (0, 1))) := by decide +kernel
theorem mc_79_34 : mm_code 79 34 = some (62, (24, (36, 4))) := by decide +kernel
theorem mc_79_35 : mm_code 79 35 = some (65, (0, (0, 0))) := by decide +kernel
theorem mc_79_36 : mm_code 79 36 = some (66, (7, (3, 0))) := by decide +kernel
theorem mc_79_37 : mm_code 79 37 = some (67, (20, (4, 1))) := by decide +kernel
theorem mc_79_38 : mm_code 79 38 = some (70, (24, (17, (-40)))) := by decide +kernel
theorem mc_79_39 : mm_code 79 39 = some (73, (3, (3, 0))) := by decide +kernel
theorem mc_79_40 : mm_code 79 40 = some (74, (101, (0, 0))) := by decide +kernel
theorem mc_80_0 : mm_code 80 0 = some (0, (0, (0, 0))) := by decide +kernel
theorem mc_80_1 : mm_code 80 1 = some (1, (7, (1, 0))) := by decide +kernel
theorem mc_80_2 : mm_code 80 2 = some (2, (0, (0, 1))) := by decide +kernel
theorem mc_80_3 : mm_code 80 3 = some (3, (7, (2, 0))) := by decide +kernel
theorem mc_80_4 : mm_code 80 4 = some (4, (0, (0, 0))) := by decide +kernel
theorem mc_80_5 : mm_code 80 5 = some (5, (7, (3, 0))) := by decide +kernel
theorem mc_80_6 : mm_code 80 6 = some (6, (0, (0, 0))) := by decide +kernel
theorem mc_80_7 : mm_code 80 7 = some (7, (8, (4, 0))) := by decide +kernel
theorem mc_80_8 : mm_code 80 8 = some (9, (0, (0, 0))) := by decide +kernel
theorem mc_80_9 : mm_code 80 9 = some (10, (8, (5, 0))) := by decide +kernel
theorem mc_80_10 : mm_code 80 10 = some (12, (4, (5, 0))) := by decide +kernel
theorem mc_80_11 : mm_code 80 11 = some (14, (5, (0, 0))) := by decide +kernel
theorem mc_80_12 : mm_code 80 12 = some (15, (105, (61, 0))) := by decide +kernel
theorem mc_80_13 : mm_code 80 13 = some (18, (34, (108, 183))) := by decide +kernel
theorem mc_80_14 : mm_code 80 14 = some (21, (0, (0, 0))) := by decide +kernel
theorem mc_80_15 : mm_code 80 15 = some (22, (8, (6, 0))) := by decide +kernel
theorem mc_80_16 : mm_code 80 16 = some (24, (0, (0, (-1)))) := by decide +kernel
theorem mc_80_17 : mm_code 80 17 = some (25, (8, (7, 0))) := by decide +kernel
theorem mc_80_18 : mm_code 80 18 = some (27, (0, (0, (-1)))) := by decide +kernel
theorem mc_80_19 : mm_code 80 19 = some (28, (8, (8, 0))) := by decide +kernel
theorem mc_80_20 : mm_code 80 20 = some (30, (0, (0, 0))) := by decide +kernel
theorem mc_80_21 : mm_code 80 21 = some (31, (8, (9, 0))) := by decide +kernel
theorem mc_80_22 : mm_code 80 22 = some (33, (4, (9, 0))) := by decide +kernel
theorem mc_80_23 : mm_code 80 23 = some (35, (5, (0, 0))) := by decide +kernel
theorem mc_80_24 : mm_code 80 24 = some (36, (4, (5, 0))) := by decide +kernel
theorem mc_80_25 : mm_code 80 25 = some (38, (105, (62, 0))) := by decide +kernel
theorem mc_80_26 : mm_code 80 26 = some (41, (34, (81, 106))) := by decide +kernel
theorem mc_80_27 : mm_code 80 27 = some (44, (5, (0, 0))) := by decide +kernel
theorem mc_80_28 : mm_code 80 28 = some (45, (4, (5, 0))) := by decide +kernel
theorem mc_80_29 : mm_code 80 29 = some (47, (4, (9, 0))) := by decide +kernel
theorem mc_80_30 : mm_code 80 30 = some (49, (106, (79, 0))) := by decide +kernel
theorem mc_80_31 : mm_code 80 31 = some (52, (25, (79, 89))) := by decide +kernel
theorem mc_80_32 : mm_code 80 32 = some (55, (20, (6, 1))) := by decide +kernel
theorem mc_80_33 : mm_code 80 33 = some (58, (4, (7, 0))) := by decide +kernel
theorem mc_80_34 : mm_code 80 34 = some (60, (0, (0, (-1)))) := by decide +kernel
theorem mc_80_35 : mm_code 80 35 = some (61, (32, (38, 8))) := by decide +kernel
theorem mc_80_36 : mm_code 80 36 = some (64, (4, (9, 0))) := by decide +kernel
theorem mc_80_37 : mm_code 80 37 = some (66, (24, (39, 5))) := by decide +kernel
theorem mc_80_38 : mm_code 80 38 = some (69, (4, (7, 0))) := by decide +kernel
theorem mc_80_39 : mm_code 80 39 = some (71, (8, (7, 0))) := by decide +kernel
theorem mc_80_40 : mm_code 80 40 = some (73, (4, (9, 0))) := by decide +kernel
theorem mc_80_41 : mm_code 80 41 = some (75, (8, (8, 0))) := by decide +kernel
theorem mc_80_42 : mm_code 80 42 = some (77, (3, (3, 0))) := by decide +kernel
theorem mc_80_43 : mm_code 80 43 = some (78, (4, (9, 0))) := by decide +kernel
theorem mc_80_44 : mm_code 80 44 = some (80, (5, (0, 0))) := by decide +kernel
theorem mc_80_45 : mm_code 80 45 = some (81, (105, (67, 0))) := by decide +kernel
theorem mc_80_46 : mm_code 80 46 = some (84, (11, (0, 0))) := by decide +kernel
theorem mc_80_47 : mm_code 80 47 = some (85, (5, (0, 0))) := by decide +kernel
theorem mc_80_48 : mm_code 80 48 = some (86, (4, (5, 0))) := by decide +kernel
theorem mc_80_49 : mm_code 80 49 = some (88, (105, (62, 0))) := by decide +kernel
theorem mc_80_50 : mm_code 80 50 = some (91, (34, (61, 21))) := by decide +kernel
theorem mc_80_51 : mm_code 80 51 = some (94, (0, (0, 1))) := by decide +kernel
theorem mc_80_52 : mm_code 80 52 = some (95, (5, (0, 0))) := by decide +kernel
theorem mc_80_53 : mm_code 80 53 = some (96, (4, (5, 0))) := by decide +kernel
theorem mc_80_54 : mm_code 80 54 = some (98, (4, (9, 0))) := by decide +kernel
theorem mc_80_55 : mm_code 80 55 = some (100, (5, (0, 0))) := by decide +kernel
theorem mc_80_56 : mm_code 80 56 = some (101, (105, (67, 0))) := by decide +kernel
theorem mc_80_57 : mm_code 80 57 = some (104, (11, (0, 0))) := by decide +kernel
theorem mc_80_58 : mm_code 80 58 = some (105, (105, (66, 0))) := by decide +kernel
theorem mc_80_59 : mm_code 80 59 = some (108, (16, (0, 0))) := by decide +kernel
theorem mc_80_60 : mm_code 80 60 = some (109, (24, (62, 4))) := by decide +kernel
theorem mc_80_61 : mm_code 80 61 = some (112, (0, (0, 0))) := by decide +kernel
theorem mc_80_62 : mm_code 80 62 = some (113, (19, (0, 0))) := by decide +kernel
theorem mc_80_63 : mm_code 80 63 = some (114, (7, (3, 0))) := by decide +kernel
theorem mc_80_64 : mm_code 80 64 = some (115, (4, (4, 0))) := by decide +kernel
theorem mc_80_65 : mm_code 80 65 = some (117, (4, (9, 0))) := by decide +kernel
theorem mc_80_66 : mm_code 80 66 = some (119, (30, (76, 18))) := by decide +kernel
theorem mc_80_67 : mm_code 80 67 = some (122, (0, (0, 1))) := by decide +kernel
theorem mc_80_68 : mm_code 80 68 = some (123, (5, (0, 0))) := by decide +kernel
theorem mc_80_69 : mm_code 80 69 = some (124, (4, (5, 0))) := by decide +kernel
theorem mc_80_70 : mm_code 80 70 = some (126, (4, (9, 0))) := by decide +kernel
theorem mc_80_71 : mm_code 80 71 = some (128, (0, (0, 1))) := by decide +kernel
theorem mc_80_72 : mm_code 80 72 = some (129, (12, (0, 0))) := by decide +kernel
theorem mc_80_73 : mm_code 80 73 = some (130, (105, (66, 0))) := by decide +kernel
theorem mc_80_74 : mm_code 80 74 = some (133, (16, (0, 0))) := by decide +kernel
theorem mc_80_75 : mm_code 80 75 = some (134, (24, (77, 4))) := by decide +kernel
theorem mc_80_76 : mm_code 80 76 = some (137, (0, (0, 0))) := by decide +kernel
theorem mc_80_77 : mm_code 80 77 = some (138, (19, (0, 0))) := by decide +kernel
theorem mc_80_78 : mm_code 80 78 = some (139, (8, (4, 0))) := by decide +kernel
theorem mc_80_79 : mm_code 80 79 = some (141, (20, (9, 1))) := by decide +kernel
theorem mc_80_80 : mm_code 80 80 = some (144, (24, (22, (-111)))) := by decide +kernel
theorem mc_80_81 : mm_code 80 81 = some (147, (3, (1, 0))) := by decide +kernel
theorem mc_80_82 : mm_code 80 82 = some (148, (4, (6, 0))) := by decide +kernel
theorem mc_80_83 : mm_code 80 83 = some (150, (11, (0, 0))) := by decide +kernel
theorem mc_80_84 : mm_code 80 84 = some (151, (7, (1, 0))) := by decide +kernel
theorem mc_80_85 : mm_code 80 85 = some (152, (3, (2, 0))) := by decide +kernel
theorem mc_80_86 : mm_code 80 86 = some (153, (25, (104, 40))) := by decide +kernel
theorem mc_80_87 : mm_code 80 87 = some (156, (5, (0, 0))) := by decide +kernel
theorem mc_80_88 : mm_code 80 88 = some (157, (4, (5, 0))) := by decide +kernel
theorem mc_80_89 : mm_code 80 89 = some (159, (105, (77, 0))) := by decide +kernel
theorem mc_80_90 : mm_code 80 90 = some (162, (4, (6, 0))) := by decide +kernel
theorem mc_80_91 : mm_code 80 91 = some (164, (32, (104, 29))) := by decide +kernel
theorem mc_80_92 : mm_code 80 92 = some (167, (5, (0, 0))) := by decide +kernel
theorem mc_80_93 : mm_code 80 93 = some (168, (4, (5, 0))) := by decide +kernel
theorem mc_80_94 : mm_code 80 94 = some (170, (105, (75, 0))) := by decide +kernel
theorem mc_80_95 : mm_code 80 95 = some (173, (4, (7, 0))) := by decide +kernel
theorem mc_80_96 : mm_code 80 96 = some (175, (32, (104, 18))) := by decide +kernel
theorem mc_80_97 : mm_code 80 97 = some (178, (5, (0, 0))) := by decide +kernel
theorem mc_80_98 : mm_code 80 98 = some (179, (4, (5, 0))) := by decide +kernel
theorem mc_80_99 : mm_code 80 99 = some (181, (105, (76, 0))) := by decide +kernel
theorem mc_80_100 : mm_code 80 100 = some (184, (4, (8, 0))) := by decide +kernel
theorem mc_80_101 : mm_code 80 101 = some (186, (32, (104, 7))) := by decide +kernel
theorem mc_80_102 : mm_code 80 102 = some (189, (0, (0, 1))) := by decide +kernel
theorem mc_80_103 : mm_code 80 103 = some (190, (24, (105, 4))) := by decide +kernel
theorem mc_80_104 : mm_code 80 104 = some (193, (0, (0, 0))) := by decide +kernel
theorem mc_80_105 : mm_code 80 105 = some (194, (7, (2, 0))) := by decide +kernel
theorem mc_80_106 : mm_code 80 106 = some (195, (20, (5, 1))) := by decide +kernel
theorem mc_80_107 : mm_code 80 107 = some (198, (24, (10, (-186)))) := by decide +kernel
theorem mc_80_108 : mm_code 80 108 = some (201, (5, (0, 0))) := by decide +kernel
theorem mc_80_109 : mm_code 80 109 = some (202, (105, (67, 0))) := by decide +kernel
theorem mc_80_110 : mm_code 80 110 = some (205, (26, (113, 7))) := by decide +kernel
theorem mc_80_111 : mm_code 80 111 = some (208, (0, (0, 1))) := by decide +kernel
theorem mc_80_112 : mm_code 80 112 = some (209, (24, (114, 4))) := by decide +kernel
theorem mc_80_113 : mm_code 80 113 = some (212, (0, (0, 0))) := by decide +kernel
theorem mc_80_114 : mm_code 80 114 = some (213, (8, (5, 0))) := by decide +kernel
theorem mc_80_115 : mm_code 80 115 = some (215, (3, (2, 0))) := by decide +kernel
theorem mc_80_116 : mm_code 80 116 = some (216, (25, (147, 67))) := by decide +kernel
theorem mc_80_117 : mm_code 80 117 = some (219, (5, (0, 0))) := by decide +kernel
theorem mc_80_118 : mm_code 80 118 = some (220, (105, (80, 0))) := by decide +kernel
theorem mc_80_119 : mm_code 80 119 = some (223, (3, (1, 0))) := by decide +kernel
theorem mc_80_120 : mm_code 80 120 = some (224, (32, (147, 59))) := by decide +kernel
theorem mc_80_121 : mm_code 80 121 = some (227, (5, (0, 0))) := by decide +kernel
theorem mc_80_122 : mm_code 80 122 = some (228, (105, (73, 0))) := by decide +kernel
theorem mc_80_123 : mm_code 80 123 = some (231, (3, (1, 0))) := by decide +kernel
theorem mc_80_124 : mm_code 80 124 = some (232, (30, (127, 7))) := by decide +kernel
theorem mc_80_125 : mm_code 80 125 = some (235, (0, (0, 1))) := by decide +kernel
theorem mc_80_126 : mm_code 80 126 = some (236, (24, (128, 4))) := by decide +kernel
theorem mc_80_127 : mm_code 80 127 = some (239, (0, (0, 0))) := by decide +kernel
theorem mc_80_128 : mm_code 80 128 = some (240, (32, (147, 43))) := by decide +kernel
theorem mc_80_129 : mm_code 80 129 = some (243, (4, (5, 0))) := by decide +kernel
theorem mc_80_130 : mm_code 80 130 = some (245, (25, (137, 17))) := by decide +kernel
theorem mc_80_131 : mm_code 80 131 = some (248, (5, (0, 0))) := by decide +kernel
theorem mc_80_132 : mm_code 80 132 = some (249, (105, (81, 0))) := by decide +kernel
theorem mc_80_133 : mm_code 80 133 = some (252, (5, (0, 0))) := by decide +kernel
theorem mc_80_134 : mm_code 80 134 = some (253, (105, (82, 0))) := by decide +kernel
theorem mc_80_135 : mm_code 80 135 = some (256, (32, (147, 27))) := by decide +kernel
theorem mc_80_136 : mm_code 80 136 = some (259, (24, (145, 20))) := by decide +kernel
theorem mc_80_137 : mm_code 80 137 = some (262, (5, (0, 0))) := by decide +kernel
theorem mc_80_138 : mm_code 80 138 = some (263, (105, (81, 0))) := by decide +kernel
theorem mc_80_139 : mm_code 80 139 = some (266, (3, (3, 0))) := by decide +kernel
theorem mc_80_140 : mm_code 80 140 = some (267, (32, (147, 16))) := by decide +kernel
theorem mc_80_141 : mm_code 80 141 = some (270, (5, (0, 0))) := by decide +kernel
theorem mc_80_142 : mm_code 80 142 = some (271, (105, (82, 0))) := by decide +kernel
theorem mc_80_143 : mm_code 80 143 = some (274, (4, (4, 0))) := by decide +kernel
theorem mc_80_144 : mm_code 80 144 = some (276, (32, (147, 7))) := by decide +kernel
theorem mc_80_145 : mm_code 80 145 = some (279, (0, (0, 1))) := by decide +kernel
theorem mc_80_146 : mm_code 80 146 = some (280, (24, (148, 4))) := by decide +kernel
theorem mc_80_147 : mm_code 80 147 = some (283, (0, (0, 0))) := by decide +kernel
theorem mc_80_148 : mm_code 80 148 = some (284, (7, (2, 0))) := by decide +kernel
theorem mc_80_149 : mm_code 80 149 = some (285, (3, (2, 0))) := by decide +kernel
theorem mc_80_150 : mm_code 80 150 = some (286, (25, (178, 60))) := by decide +kernel
theorem mc_80_151 : mm_code 80 151 = some (289, (3, (1, 0))) := by decide +kernel
theorem mc_80_152 : mm_code 80 152 = some (290, (26, (162, 22))) := by decide +kernel
theorem mc_80_153 : mm_code 80 153 = some (293, (5, (0, 0))) := by decide +kernel
theorem mc_80_154 : mm_code 80 154 = some (294, (105, (83, 0))) := by decide +kernel
theorem mc_80_155 : mm_code 80 155 = some (297, (0, (0, (-1)))) := by decide +kernel
theorem mc_80_156 : mm_code 80 156 = some (298, (32, (178, 48))) := by decide +kernel
theorem mc_80_157 : mm_code 80 157 = some (301, (5, (0, 0))) := by decide +kernel
theorem mc_80_158 : mm_code 80 158 = some (302, (105, (84, 0))) := by decide +kernel
theorem mc_80_159 : mm_code 80 159 = some (305, (0, (0, (-1)))) := by decide +kernel
theorem mc_80_160 : mm_code 80 160 = some (306, (32, (178, 40))) := by decide +kernel
theorem mc_80_161 : mm_code 80 161 = some (309, (24, (176, 33))) := by decide +kernel
theorem mc_80_162 : mm_code 80 162 = some (312, (5, (0, 0))) := by decide +kernel
theorem mc_80_163 : mm_code 80 163 = some (313, (105, (83, 0))) := by decide +kernel
theorem mc_80_164 : mm_code 80 164 = some (316, (5, (0, 0))) := by decide +kernel
theorem mc_80_165 : mm_code 80 165 = some (317, (105, (67, 0))) := by decide +kernel
theorem mc_80_166 : mm_code 80 166 = some (320, (33, (178, 26))) := by decide +kernel
theorem mc_80_167 : mm_code 80 167 = some (323, (5, (0, 0))) := by decide +kernel
theorem mc_80_168 : mm_code 80 168 = some (324, (105, (84, 0))) := by decide +kernel
theorem mc_80_169 : mm_code 80 169 = some (327, (5, (0, 0))) := by decide +kernel
theorem mc_80_170 : mm_code 80 170 = some (328, (105, (67, 0))) := by decide +kernel
theorem mc_80_171 : mm_code 80 171 = some (331, (35, (178, 15))) := by decide +kernel
theorem mc_80_172 : mm_code 80 172 = some (334, (5, (0, 0))) := by decide +kernel
theorem mc_80_173 : mm_code 80 173 = some (335, (105, (84, 0))) := by decide +kernel
theorem mc_80_174 : mm_code 80 174 = some (338, (0, (0, 1))) := by decide +kernel
theorem mc_80_175 : mm_code 80 175 = some (339, (33, (178, 7))) := by decide +kernel
theorem mc_80_176 : mm_code 80 176 = some (342, (0, (0, 1))) := by decide +kernel
theorem mc_80_177 : mm_code 80 177 = some (343, (24, (179, 4))) := by decide +kernel
theorem mc_80_178 : mm_code 80 178 = some (346, (0, (0, 0))) := by decide +kernel
theorem mc_80_179 : mm_code 80 179 = some (347, (101, (0, 0))) := by decide +kernel
theorem mc_81_0 : mm_code 81 0 = some (0, (0, (0, 0))) := by decide +kernel
theorem mc_81_1 : mm_code 81 1 = some (1, (7, (1, 0))) := by decide +kernel
theorem mc_81_2 : mm_code 81 2 = some (2, (0, (0, 0))) := by decide +kernel
theorem mc_81_3 : mm_code 81 3 = some (3, (7, (2, 0))) := by decide +kernel
theorem mc_81_4 : mm_code 81 4 = some (4, (0, (0, 1))) := by decide +kernel
theorem mc_81_5 : mm_code 81 5 = some (5, (7, (3, 0))) := by decide +kernel
theorem mc_81_6 : mm_code 81 6 = some (6, (0, (0, 0))) := by decide +kernel
theorem mc_81_7 : mm_code 81 7 = some (7, (8, (4, 0))) := by decide +kernel
theorem mc_81_8 : mm_code 81 8 = some (9, (0, (0, 0))) := by decide +kernel
theorem mc_81_9 : mm_code 81 9 = some (10, (8, (5, 0))) := by decide +kernel
theorem mc_81_10 : mm_code 81 10 = some (12, (4, (5, 0))) := by decide +kernel
theorem mc_81_11 : mm_code 81 11 = some (14, (5, (0, 0))) := by decide +kernel
theorem mc_81_12 : mm_code 81 12 = some (15, (105, (78, 0))) := by decide +kernel
theorem mc_81_13 : mm_code 81 13 = some (18, (34, (73, 118))) := by decide +kernel
theorem mc_81_14 : mm_code 81 14 = some (21, (3, (3, 0))) := by decide +kernel
theorem mc_81_15 : mm_code 81 15 = some (22, (25, (73, 114))) := by decide +kernel
theorem mc_81_16 : mm_code 81 16 = some (25, (5, (0, 0))) := by decide +kernel
theorem mc_81_17 : mm_code 81 17 = some (26, (4, (5, 0))) := by decide +kernel
theorem mc_81_18 : mm_code 81 18 = some (28, (105, (85, 0))) := by decide +kernel
theorem mc_81_19 : mm_code 81 19 = some (31, (8, (6, 0))) := by decide +kernel
theorem mc_81_20 : mm_code 81 20 = some (33, (4, (6, 0))) := by decide +kernel
theorem mc_81_21 : mm_code 81 21 = some (35, (0, (0, 1))) := by decide +kernel
theorem mc_81_22 : mm_code 81 22 = some (36, (33, (39, 39))) := by decide +kernel
theorem mc_81_23 : mm_code 81 23 = some (39, (5, (0, 0))) := by decide +kernel
theorem mc_81_24 : mm_code 81 24 = some (40, (105, (67, 0))) := by decide +kernel
theorem mc_81_25 : mm_code 81 25 = some (43, (4, (6, 0))) := by decide +kernel
theorem mc_81_26 : mm_code 81 26 = some (45, (32, (39, 30))) := by decide +kernel
theorem mc_81_27 : mm_code 81 27 = some (48, (5, (0, 0))) := by decide +kernel
theorem mc_81_28 : mm_code 81 28 = some (49, (105, (73, 0))) := by decide +kernel
theorem mc_81_29 : mm_code 81 29 = some (52, (25, (39, 23))) := by decide +kernel
theorem mc_81_30 : mm_code 81 30 = some (55, (5, (0, 0))) := by decide +kernel
theorem mc_81_31 : mm_code 81 31 = some (56, (105, (74, 0))) := by decide +kernel
theorem mc_81_32 : mm_code 81 32 = some (59, (4, (5, 0))) := by decide +kernel
theorem mc_81_33 : mm_code 81 33 = some (61, (32, (39, 14))) := by decide +kernel
theorem mc_81_34 : mm_code 81 34 = some (64, (5, (0, 0))) := by decide +kernel
theorem mc_81_35 : mm_code 81 35 = some (65, (105, (81, 0))) := by decide +kernel
theorem mc_81_36 : mm_code 81 36 = some (68, (27, (39, 7))) := by decide +kernel
theorem mc_81_37 : mm_code 81 37 = some (71, (0, (0, 1))) := by decide +kernel
theorem mc_81_38 : mm_code 81 38 = some (72, (24, (40, 4))) := by decide +kernel
theorem mc_81_39 : mm_code 81 39 = some (75, (0, (0, 0))) := by decide +kernel
theorem mc_81_40 : mm_code 81 40 = some (76, (7, (3, 0))) := by decide +kernel
theorem mc_81_41 : mm_code 81 41 = some (77, (3, (3, 0))) := by decide +kernel
theorem mc_81_42 : mm_code 81 42 = some (78, (25, (50, 16))) := by decide +kernel
theorem mc_81_43 : mm_code 81 43 = some (81, (4, (6, 0))) := by decide +kernel
theorem mc_81_44 : mm_code 81 44 = some (83, (4, (4, 0))) := by decide +kernel
theorem mc_81_45 : mm_code 81 45 = some (85, (0, (0, 1))) := by decide +kernel
theorem mc_81_46 : mm_code 81 46 = some (86, (11, (0, 0))) := by decide +kernel
theorem mc_81_47 : mm_code 81 47 = some (87, (35, (50, 7))) := by decide +kernel
theorem mc_81_48 : mm_code 81 48 = some (90, (0, (0, 1))) := by decide +kernel
theorem mc_81_49 : mm_code 81 49 = some (91, (24, (51, 4))) := by decide +kernel
theorem mc_81_50 : mm_code 81 50 = some (94, (0, (0, 0))) := by decide +kernel
theorem mc_81_51 : mm_code 81 51 = some (95, (7, (3, 0))) := by decide +kernel
theorem mc_81_52 : mm_code 81 52 = some (96, (3, (1, 0))) := by decide +kernel
theorem mc_81_53 : mm_code 81 53 = some (97, (5, (0, 0))) := by decide +kernel
theorem mc_81_54 : mm_code 81 54 = some (98, (105, (83, 0))) := by decide +kernel
theorem mc_81_55 : mm_code 81 55 = some (101, (4, (6, 0))) := by decide +kernel
theorem mc_81_56 : mm_code 81 56 = some (103, (32, (59, 7))) := by decide +kernel
theorem mc_81_57 : mm_code 81 57 = some (106, (0, (0, 1))) := by decide +kernel
theorem mc_81_58 : mm_code 81 58 = some (107, (24, (60, 4))) := by decide +kernel
theorem mc_81_59 : mm_code 81 59 = some (110, (0, (0, 0))) := by decide +kernel
theorem mc_81_60 : mm_code 81 60 = some (111, (11, (0, 0))) := by decide +kernel
theorem mc_81_61 : mm_code 81 61 = some (112, (7, (1, 0))) := by decide +kernel
theorem mc_81_62 : mm_code 81 62 = some (113, (4, (6, 0))) := by decide +kernel
theorem mc_81_63 : mm_code 81 63 = some (115, (3, (2, 0))) := by decide +kernel
theorem mc_81_64 : mm_code 81 64 = some (116, (36, (67, 8))) := by decide +kernel
theorem mc_81_65 : mm_code 81 65 = some (119, (4, (6, 0))) := by decide +kernel
theorem mc_81_66 : mm_code 81 66 = some (121, (24, (68, 4))) := by decide +kernel
theorem mc_81_67 : mm_code 81 67 = some (124, (3, (2, 0))) := by decide +kernel
theorem mc_81_68 : mm_code 81 68 = some (125, (7, (2, 0))) := by decide +kernel
theorem mc_81_69 : mm_code 81 69 = some (126, (4, (6, 0))) := by decide +kernel
theorem mc_81_70 : mm_code 81 70 = some (128, (8, (4, 0))) := by decide +kernel
theorem mc_81_71 : mm_code 81 71 = some (130, (20, (5, 1))) := by decide +kernel
theorem mc_81_72 : mm_code 81 72 = some (133, (24, (10, (-121)))) := by decide +kernel
theorem mc_81_73 : mm_code 81 73 = some (136, (3, (3, 0))) := by decide +kernel
theorem mc_81_74 : mm_code 81 74 = some (137, (25, (88, 28))) := by decide +kernel
theorem mc_81_75 : mm_code 81 75 = some (140, (5, (0, 0))) := by decide +kernel
theorem mc_81_76 : mm_code 81 76 = some (141, (105, (86, 0))) := by decide +kernel
theorem mc_81_77 : mm_code 81 77 = some (144, (3, (1, 0))) := by decide +kernel
theorem mc_81_78 : mm_code 81 78 = some (145, (32, (88, 20))) := by decide +kernel
theorem mc_81_79 : mm_code 81 79 = some (148, (5, (0, 0))) := by decide +kernel
theorem mc_81_80 : mm_code 81 80 = some (149, (105, (86, 0))) := by decide +kernel
theorem mc_81_81 : mm_code 81 81 = some (152, (0, (0, 2))) := by decide +kernel
theorem mc_81_82 : mm_code 81 82 = some (153, (5, (0, 0))) := by decide +kernel
theorem mc_81_83 : mm_code 81 83 = some (154, (106, (64, 0))) := by decide +kernel
theorem mc_81_84 : mm_code 81 84 = some (157, (13, (0, 0))) := by decide +kernel
theorem mc_81_85 : mm_code 81 85 = some (158, (35, (88, 7))) := by decide +kernel
theorem mc_81_86 : mm_code 81 86 = some (161, (0, (0, 1))) := by decide +kernel
theorem mc_81_87 : mm_code 81 87 = some (162, (24, (89, 4))) := by decide +kernel
theorem mc_81_88 : mm_code 81 88 = some (165, (0, (0, 0))) := by decide +kernel
theorem mc_81_89 : mm_code 81 89 = some (166, (7, (3, 0))) := by decide +kernel
theorem mc_81_90 : mm_code 81 90 = some (167, (3, (3, 0))) := by decide +kernel
theorem mc_81_91 : mm_code 81 91 = some (168, (25, (103, 24))) := by decide +kernel
theorem mc_81_92 : mm_code 81 92 = some (171, (5, (0, 0))) := by decide +kernel
theorem mc_81_93 : mm_code 81 93 = some (172, (0, (0, 1))) := by decide +kernel
theorem mc_81_94 : mm_code 81 94 = some (173, (105, (87, 0))) := by decide +kernel
theorem mc_81_95 : mm_code 81 95 = some (176, (3, (2, 0))) := by decide +kernel
theorem mc_81_96 : mm_code 81 96 = some (177, (32, (103, 15))) := by decide +kernel
theorem mc_81_97 : mm_code 81 97 = some (180, (5, (0, 0))) := by decide +kernel
theorem mc_81_98 : mm_code 81 98 = some (181, (105, (67, 0))) := by decide +kernel
theorem mc_81_99 : mm_code 81 99 = some (184, (3, (2, 0))) := by decide +kernel
theorem mc_81_100 : mm_code 81 100 = some (185, (32, (103, 7))) := by decide +kernel
theorem mc_81_101 : mm_code 81 101 = some (188, (0, (0, 1))) := by decide +kernel
theorem mc_81_102 : mm_code 81 102 = some (189, (24, (104, 4))) := by decide +kernel
theorem mc_81_103 : mm_code 81 103 = some (192, (0, (0, 0))) := by decide +kernel
theorem mc_81_104 : mm_code 81 104 = some (193, (101, (0, 0))) := by decide +kernel
theorem mc_82_0 : mm_code 82 0 = some (0, (3, (1, 0))) := by decide +kernel
theorem mc_82_1 : mm_code 82 1 = some (1, (30, (6, 11))) := by decide +kernel
theorem mc_82_2 : mm_code 82 2 = some (4, (5, (0, 0))) := by decide +kernel
theorem mc_82_3 : mm_code 82 3 = some (5, (3, (1, 0))) := by decide +kernel
theorem mc_82_4 : mm_code 82 4 = some (6, (105, (88, 0))) := by decide +kernel
theorem mc_82_5 : mm_code 82 5 = some (9, (24, (9, 8))) := by decide +kernel
theorem mc_82_6 : mm_code 82 6 = some (12, (5, (0, 0))) := by decide +kernel
theorem mc_82_7 : mm_code 82 7 = some (13, (3, (2, 0))) := by decide +kernel
theorem mc_82_8 : mm_code 82 8 = some (14, (105, (87, 0))) := by decide +kernel
theorem mc_82_9 : mm_code 82 9 = some (17, (7, (3, 0))) := by decide +kernel
theorem mc_82_10 : mm_code 82 10 = some (18, (5, (0, 0))) := by decide +kernel
theorem mc_82_11 : mm_code 82 11 = some (19, (105, (67, 0))) := by decide +kernel
theorem mc_82_12 : mm_code 82 12 = some (22, (3, (3, 0))) := by decide +kernel
theorem mc_82_13 : mm_code 82 13 = some (23, (32, (21, 18))) := by decide +kernel
theorem mc_82_14 : mm_code 82 14 = some (26, (3, (3, 0))) := by decide +kernel
theorem mc_82_15 : mm_code 82 15 = some (27, (25, (19, 10))) := by decide +kernel
theorem mc_82_16 : mm_code 82 16 = some (30, (5, (0, 0))) := by decide +kernel
theorem mc_82_17 : mm_code 82 17 = some (31, (105, (73, 0))) := by decide +kernel
theorem mc_82_18 : mm_code 82 18 = some (34, (25, (21, 7))) := by decide +kernel
theorem mc_82_19 : mm_code 82 19 = some (37, (0, (0, 1))) := by decide +kernel
theorem mc_82_20 : mm_code 82 20 = some (38, (24, (22, 4))) := by decide +kernel
theorem mc_82_21 : mm_code 82 21 = some (41, (0, (0, 0))) := by decide +kernel
theorem mc_82_22 : mm_code 82 22 = some (42, (8, (4, 0))) := by decide +kernel
theorem mc_82_23 : mm_code 82 23 = some (44, (0, (0, 0))) := by decide +kernel
theorem mc_82_24 : mm_code 82 24 = some (45, (8, (5, 0))) := by decide +kernel
theorem mc_82_25 : mm_code 82 25 = some (47, (4, (5, 0))) := by decide +kernel
theorem mc_82_26 : mm_code 82 26 = some (49, (5, (0, 0))) := by decide +kernel
theorem mc_82_27 : mm_code 82 27 = some (50, (105, (61, 0))) := by decide +kernel
theorem mc_82_28 : mm_code 82 28 = some (53, (34, (49, 43))) := by decide +kernel
theorem mc_82_29 : mm_code 82 29 = some (56, (4, (4, 0))) := by decide +kernel
theorem mc_82_30 : mm_code 82 30 = some (58, (25, (45, 29))) := by decide +kernel
theorem mc_82_31 : mm_code 82 31 = some (61, (3, (3, 0))) := by decide +kernel
theorem mc_82_32 : mm_code 82 32 = some (62, (25, (43, 21))) := by decide +kernel
theorem mc_82_33 : mm_code 82 33 = some (65, (3, (1, 0))) := by decide +kernel
theorem mc_82_34 : mm_code 82 34 = some (66, (4, (5, 0))) := by decide +kernel
theorem mc_82_35 : mm_code 82 35 = some (68, (17, (0, 0))) := by decide +kernel
theorem mc_82_36 : mm_code 82 36 = some (69, (0, (0, 1))) := by decide +kernel
theorem mc_82_37 : mm_code 82 37 = some (70, (18, (0, 0))) := by decide +kernel
theorem mc_82_38 : mm_code 82 38 = some (71, (25, (43, 12))) := by decide +kernel
theorem mc_82_39 : mm_code 82 39 = some (74, (5, (0, 0))) := by decide +kernel
theorem mc_82_40 : mm_code 82 40 = some (75, (4, (5, 0))) := by decide +kernel
theorem mc_82_41 : mm_code 82 41 = some (77, (105, (77, 0))) := by decide +kernel
theorem mc_82_42 : mm_code 82 42 = some (80, (30, (45, 7))) := by decide +kernel
theorem mc_82_43 : mm_code 82 43 = some (83, (0, (0, 1))) := by decide +kernel
theorem mc_82_44 : mm_code 82 44 = some (84, (24, (46, 4))) := by decide +kernel
theorem mc_82_45 : mm_code 82 45 = some (87, (0, (0, 0))) := by decide +kernel
theorem mc_82_46 : mm_code 82 46 = some (88, (8, (4, 0))) := by decide +kernel
theorem mc_82_47 : mm_code 82 47 = some (90, (20, (5, 1))) := by decide +kernel
theorem mc_82_48 : mm_code 82 48 = some (93, (24, (25, (-46)))) := by decide +kernel
theorem mc_82_49 : mm_code 82 49 = some (96, (4, (4, 0))) := by decide +kernel
theorem mc_82_50 : mm_code 82 50 = some (98, (25, (61, 23))) := by decide +kernel
theorem mc_82_51 : mm_code 82 51 = some (101, (3, (3, 0))) := by decide +kernel
theorem mc_82_52 : mm_code 82 52 = some (102, (25, (59, 15))) := by decide +kernel
theorem mc_82_53 : mm_code 82 53 = some (105, (3, (1, 0))) := by decide +kernel
theorem mc_82_54 : mm_code 82 54 = some (106, (29, (59, 11))) := by decide +kernel
theorem mc_82_55 : mm_code 82 55 = some (109, (5, (0, 0))) := by decide +kernel
theorem mc_82_56 : mm_code 82 56 = some (110, (105, (80, 0))) := by decide +kernel
theorem mc_82_57 : mm_code 82 57 = some (113, (3, (2, 0))) := by decide +kernel
theorem mc_82_58 : mm_code 82 58 = some (114, (33, (61, 7))) := by decide +kernel
theorem mc_82_59 : mm_code 82 59 = some (117, (0, (0, 1))) := by decide +kernel
theorem mc_82_60 : mm_code 82 60 = some (118, (24, (62, 4))) := by decide +kernel
theorem mc_82_61 : mm_code 82 61 = some (121, (0, (0, 0))) := by decide +kernel
theorem mc_82_62 : mm_code 82 62 = some (122, (8, (4, 0))) := by decide +kernel
theorem mc_82_63 : mm_code 82 63 = some (124, (5, (0, 0))) := by decide +kernel
theorem mc_82_64 : mm_code 82 64 = some (125, (105, (74, 0))) := by decide +kernel
theorem mc_82_65 : mm_code 82 65 = some (128, (8, (5, 0))) := by decide +kernel
theorem mc_82_66 : mm_code 82 66 = some (130, (0, (0, 0))) := by decide +kernel
theorem mc_82_67 : mm_code 82 67 = some (131, (8, (6, 0))) := by decide +kernel
theorem mc_82_68 : mm_code 82 68 = some (133, (4, (6, 0))) := by decide +kernel
theorem mc_82_69 : mm_code 82 69 = some (135, (5, (0, 0))) := by decide +kernel
theorem mc_82_70 : mm_code 82 70 = some (136, (105, (78, 0))) := by decide +kernel
theorem mc_82_71 : mm_code 82 71 = some (139, (34, (129, 120))) := by decide +kernel
theorem mc_82_72 : mm_code 82 72 = some (142, (4, (4, 0))) := by decide +kernel
theorem mc_82_73 : mm_code 82 73 = some (144, (25, (129, 115))) := by decide +kernel
theorem mc_82_74 : mm_code 82 74 = some (147, (5, (0, 0))) := by decide +kernel
theorem mc_82_75 : mm_code 82 75 = some (148, (4, (6, 0))) := by decide +kernel
theorem mc_82_76 : mm_code 82 76 = some (150, (105, (85, 0))) := by decide +kernel
theorem mc_82_77 : mm_code 82 77 = some (153, (8, (7, 0))) := by decide +kernel
theorem mc_82_78 : mm_code 82 78 = some (155, (3, (1, 0))) := by decide +kernel
theorem mc_82_79 : mm_code 82 79 = some (156, (29, (84, 11))) := by decide +kernel
theorem mc_82_80 : mm_code 82 80 = some (159, (5, (0, 0))) := by decide +kernel
theorem mc_82_81 : mm_code 82 81 = some (160, (105, (80, 0))) := by decide +kernel
theorem mc_82_82 : mm_code 82 82 = some (163, (3, (2, 0))) := by decide +kernel
theorem mc_82_83 : mm_code 82 83 = some (164, (33, (86, 7))) := by decide +kernel
theorem mc_82_84 : mm_code 82 84 = some (167, (0, (0, 1))) := by decide +kernel
theorem mc_82_85 : mm_code 82 85 = some (168, (24, (87, 4))) := by decide +kernel
theorem mc_82_86 : mm_code 82 86 = some (171, (0, (0, 0))) := by decide +kernel
theorem mc_82_87 : mm_code 82 87 = some (172, (8, (8, 0))) := by decide +kernel
theorem mc_82_88 : mm_code 82 88 = some (174, (0, (0, 0))) := by decide +kernel
theorem mc_82_89 : mm_code 82 89 = some (175, (8, (9, 0))) := by decide +kernel
theorem mc_82_90 : mm_code 82 90 = some (177, (4, (9, 0))) := by decide +kernel
theorem mc_82_91 : mm_code 82 91 = some (179, (5, (0, 0))) := by decide +kernel
theorem mc_82_92 : mm_code 82 92 = some (180, (105, (61, 0))) := by decide +kernel
theorem mc_82_93 : mm_code 82 93 = some (183, (34, (112, 39))) := by decide +kernel
theorem mc_82_94 : mm_code 82 94 = some (186, (4, (8, 0))) := by decide +kernel
theorem mc_82_95 : mm_code 82 95 = some (188, (25, (108, 25))) := by decide +kernel
theorem mc_82_96 : mm_code 82 96 = some (191, (3, (1, 0))) := by decide +kernel
theorem mc_82_97 : mm_code 82 97 = some (192, (4, (9, 0))) := by decide +kernel
theorem mc_82_98 : mm_code 82 98 = some (194, (17, (0, 0))) := by decide +kernel
theorem mc_82_99 : mm_code 82 99 = some (195, (0, (0, 1))) := by decide +kernel
theorem mc_82_100 : mm_code 82 100 = some (196, (18, (0, 0))) := by decide +kernel
theorem mc_82_101 : mm_code 82 101 = some (197, (25, (106, 12))) := by decide +kernel
theorem mc_82_102 : mm_code 82 102 = some (200, (5, (0, 0))) := by decide +kernel
theorem mc_82_103 : mm_code 82 103 = some (201, (4, (9, 0))) := by decide +kernel
theorem mc_82_104 : mm_code 82 104 = some (203, (105, (77, 0))) := by decide +kernel
theorem mc_82_105 : mm_code 82 105 = some (206, (30, (108, 7))) := by decide +kernel
theorem mc_82_106 : mm_code 82 106 = some (209, (0, (0, 1))) := by decide +kernel
theorem mc_82_107 : mm_code 82 107 = some (210, (24, (109, 4))) := by decide +kernel
theorem mc_82_108 : mm_code 82 108 = some (213, (0, (0, 0))) := by decide +kernel
theorem mc_82_109 : mm_code 82 109 = some (214, (8, (8, 0))) := by decide +kernel
theorem mc_82_110 : mm_code 82 110 = some (216, (20, (9, 1))) := by decide +kernel
theorem mc_82_111 : mm_code 82 111 = some (219, (24, (90, (-42)))) := by decide +kernel
theorem mc_82_112 : mm_code 82 112 = some (222, (4, (8, 0))) := by decide +kernel
theorem mc_82_113 : mm_code 82 113 = some (224, (25, (123, 22))) := by decide +kernel
theorem mc_82_114 : mm_code 82 114 = some (227, (4, (7, 0))) := by decide +kernel
theorem mc_82_115 : mm_code 82 115 = some (229, (3, (3, 0))) := by decide +kernel
theorem mc_82_116 : mm_code 82 116 = some (230, (33, (123, 16))) := by decide +kernel
theorem mc_82_117 : mm_code 82 117 = some (233, (4, (7, 0))) := by decide +kernel
theorem mc_82_118 : mm_code 82 118 = some (235, (3, (3, 0))) := by decide +kernel
theorem mc_82_119 : mm_code 82 119 = some (236, (32, (125, 14))) := by decide +kernel
theorem mc_82_120 : mm_code 82 120 = some (239, (4, (6, 0))) := by decide +kernel
theorem mc_82_121 : mm_code 82 121 = some (241, (4, (5, 0))) := by decide +kernel
theorem mc_82_122 : mm_code 82 122 = some (243, (33, (125, 7))) := by decide +kernel
theorem mc_82_123 : mm_code 82 123 = some (246, (0, (0, 1))) := by decide +kernel
theorem mc_82_124 : mm_code 82 124 = some (247, (24, (126, 4))) := by decide +kernel
theorem mc_82_125 : mm_code 82 125 = some (250, (0, (0, 0))) := by decide +kernel
theorem mc_82_126 : mm_code 82 126 = some (251, (8, (4, 0))) := by decide +kernel
theorem mc_82_127 : mm_code 82 127 = some (253, (20, (6, 1))) := by decide +kernel
theorem mc_82_128 : mm_code 82 128 = some (256, (24, (68, (-123)))) := by decide +kernel
theorem mc_82_129 : mm_code 82 129 = some (259, (4, (4, 0))) := by decide +kernel
theorem mc_82_130 : mm_code 82 130 = some (261, (101, (0, 0))) := by decide +kernel
theorem mc_83_0 : mm_code 83 0 = some (0, (5, (0, 0))) := by decide +kernel
theorem mc_83_1 : mm_code 83 1 = some (1, (3, (1, 0))) := by decide +kernel
theorem mc_83_2 : mm_code 83 2 = some (2, (105, (89, 0))) := by decide +kernel
theorem mc_83_3 : mm_code 83 3 = some (5, (7, (2, 0))) := by decide +kernel
theorem mc_83_4 : mm_code 83 4 = some (6, (5, (0, 0))) := by decide +kernel
theorem mc_83_5 : mm_code 83 5 = some (7, (105, (67, 0))) := by decide +kernel
theorem mc_83_6 : mm_code 83 6 = some (10, (3, (2, 0))) := by decide +kernel
theorem mc_83_7 : mm_code 83 7 = some (11, (32, (16, 19))) := by decide +kernel
theorem mc_83_8 : mm_code 83 8 = some (14, (5, (0, 0))) := by decide +kernel
theorem mc_83_9 : mm_code 83 9 = some (15, (105, (73, 0))) := by decide +kernel
theorem mc_83_10 : mm_code 83 10 = some (18, (26, (16, 12))) := by decide +kernel
theorem mc_83_11 : mm_code 83 11 = some (21, (3, (2, 0))) := by decide +kernel
theorem mc_83_12 : mm_code 83 12 = some (22, (0, (0, 1))) := by decide +kernel
theorem mc_83_13 : mm_code 83 13 = some (23, (33, (16, 7))) := by decide +kernel
theorem mc_83_14 : mm_code 83 14 = some (26, (0, (0, 1))) := by decide +kernel
theorem mc_83_15 : mm_code 83 15 = some (27, (24, (17, 4))) := by decide +kernel
theorem mc_83_16 : mm_code 83 16 = some (30, (0, (0, 0))) := by decide +kernel
theorem mc_83_17 : mm_code 83 17 = some (31, (7, (3, 0))) := by decide +kernel
theorem mc_83_18 : mm_code 83 18 = some (32, (0, (0, 0))) := by decide +kernel
theorem mc_83_19 : mm_code 83 19 = some (33, (8, (4, 0))) := by decide +kernel
theorem mc_83_20 : mm_code 83 20 = some (35, (4, (4, 0))) := by decide +kernel
theorem mc_83_21 : mm_code 83 21 = some (37, (3, (2, 0))) := by decide +kernel
theorem mc_83_22 : mm_code 83 22 = some (38, (34, (36, 29))) := by decide +kernel
theorem mc_83_23 : mm_code 83 23 = some (41, (3, (3, 0))) := by decide +kernel
theorem mc_83_24 : mm_code 83 24 = some (42, (25, (32, 17))) := by decide +kernel
theorem mc_83_25 : mm_code 83 25 = some (45, (5, (0, 0))) := by decide +kernel
theorem mc_83_26 : mm_code 83 26 = some (46, (4, (4, 0))) := by decide +kernel
theorem mc_83_27 : mm_code 83 27 = some (48, (105, (69, 0))) := by decide +kernel
theorem mc_83_28 : mm_code 83 28 = some (51, (3, (1, 0))) := by decide +kernel
theorem mc_83_29 : mm_code 83 29 = some (52, (34, (32, 7))) := by decide +kernel
theorem mc_83_30 : mm_code 83 30 = some (55, (0, (0, 1))) := by decide +kernel
theorem mc_83_31 : mm_code 83 31 = some (56, (24, (33, 4))) := by decide +kernel
theorem mc_83_32 : mm_code 83 32 = some (59, (0, (0, 0))) := by decide +kernel
theorem mc_83_33 : mm_code 83 33 = some (60, (7, (3, 0))) := by decide +kernel
theorem mc_83_34 : mm_code 83 34 = some (61, (20, (4, 1))) := by decide +kernel
theorem mc_83_35 : mm_code 83 35 = some (64, (24, (20, (-29)))) := by decide +kernel
theorem mc_83_36 : mm_code 83 36 = some (67, (5, (0, 0))) := by decide +kernel
theorem mc_83_37 : mm_code 83 37 = some (68, (105, (70, 0))) := by decide +kernel
theorem mc_83_38 : mm_code 83 38 = some (71, (8, (4, 0))) := by decide +kernel
theorem mc_83_39 : mm_code 83 39 = some (73, (3, (3, 0))) := by decide +kernel
theorem mc_83_40 : mm_code 83 40 = some (74, (25, (49, 19))) := by decide +kernel
theorem mc_83_41 : mm_code 83 41 = some (77, (3, (2, 0))) := by decide +kernel
theorem mc_83_42 : mm_code 83 42 = some (78, (0, (0, 1))) := by decide +kernel
theorem mc_83_43 : mm_code 83 43 = some (79, (31, (47, 10))) := by decide +kernel
theorem mc_83_44 : mm_code 83 44 = some (82, (5, (0, 0))) := by decide +kernel
theorem mc_83_45 : mm_code 83 45 = some (83, (105, (73, 0))) := by decide +kernel
theorem mc_83_46 : mm_code 83 46 = some (86, (25, (49, 7))) := by decide +kernel
theorem mc_83_47 : mm_code 83 47 = some (89, (0, (0, 1))) := by decide +kernel
theorem mc_83_48 : mm_code 83 48 = some (90, (24, (50, 4))) := by decide +kernel
theorem mc_83_49 : mm_code 83 49 = some (93, (0, (0, 0))) := by decide +kernel
theorem mc_83_50 : mm_code 83 50 = some (94, (7, (3, 0))) := by decide +kernel
theorem mc_83_51 : mm_code 83 51 = some (95, (4, (4, 0))) := by decide +kernel
theorem mc_83_52 : mm_code 83 52 = some (97, (30, (59, 14))) := by decide +kernel
theorem mc_83_53 : mm_code 83 53 = some (100, (5, (0, 0))) := by decide +kernel
theorem mc_83_54 : mm_code 83 54 = some (101, (4, (4, 0))) := by decide +kernel
theorem mc_83_55 : mm_code 83 55 = some (103, (0, (0, 1))) := by decide +kernel
theorem mc_83_56 : mm_code 83 56 = some (104, (12, (0, 0))) := by decide +kernel
theorem mc_83_57 : mm_code 83 57 = some (105, (105, (68, 0))) := by decide +kernel
theorem mc_83_58 : mm_code 83 58 = some (108, (24, (60, 4))) := by decide +kernel
theorem mc_83_59 : mm_code 83 59 = some (111, (0, (0, 0))) := by decide +kernel
theorem mc_83_60 : mm_code 83 60 = some (112, (8, (5, 0))) := by decide +kernel
theorem mc_83_61 : mm_code 83 61 = some (114, (3, (3, 0))) := by decide +kernel
theorem mc_83_62 : mm_code 83 62 = some (115, (25, (70, 19))) := by decide +kernel
theorem mc_83_63 : mm_code 83 63 = some (118, (4, (4, 0))) := by decide +kernel
theorem mc_83_64 : mm_code 83 64 = some (120, (25, (68, 10))) := by decide +kernel
theorem mc_83_65 : mm_code 83 65 = some (123, (5, (0, 0))) := by decide +kernel
theorem mc_83_66 : mm_code 83 66 = some (124, (105, (73, 0))) := by decide +kernel
theorem mc_83_67 : mm_code 83 67 = some (127, (25, (70, 7))) := by decide +kernel
theorem mc_83_68 : mm_code 83 68 = some (130, (0, (0, 1))) := by decide +kernel
theorem mc_83_69 : mm_code 83 69 = some (131, (24, (71, 4))) := by decide +kernel
theorem mc_83_70 : mm_code 83 70 = some (134, (0, (0, 0))) := by decide +kernel
theorem mc_83_71 : mm_code 83 71 = some (135, (101, (0, 0))) := by decide +kernel
theorem mc_84_0 : mm_code 84 0 = some (0, (50, (11, 4))) := by decide +kernel
theorem mc_84_1 : mm_code 84 1 = some (3, (21, (0, 0))) := by decide +kernel
theorem mc_84_2 : mm_code 84 2 = some (4, (108, (90, 0))) := by decide +kernel
theorem mc_84_3 : mm_code 84 3 = some (7, (9, (1, 0))) := by decide +kernel
theorem mc_84_4 : mm_code 84 4 = some (8, (5, (1, 0))) := by decide +kernel
theorem mc_84_5 : mm_code 84 5 = some (9, (105, (78, 0))) := by decide +kernel
theorem mc_84_6 : mm_code 84 6 = some (12, (26, (24, 38))) := by decide +kernel
theorem mc_84_7 : mm_code 84 7 = some (15, (5, (1, 0))) := by decide +kernel
theorem mc_84_8 : mm_code 84 8 = some (16, (105, (86, 0))) := by decide +kernel
theorem mc_84_9 : mm_code 84 9 = some (19, (26, (24, 31))) := by decide +kernel
theorem mc_84_10 : mm_code 84 10 = some (22, (5, (1, 0))) := by decide +kernel
theorem mc_84_11 : mm_code 84 11 = some (23, (0, (0, 3))) := by decide +kernel
theorem mc_84_12 : mm_code 84 12 = some (24, (105, (89, 0))) := by decide +kernel
theorem mc_84_13 : mm_code 84 13 = some (27, (0, (0, 1))) := by decide +kernel
theorem mc_84_14 : mm_code 84 14 = some (28, (32, (24, 22))) := by decide +kernel
theorem mc_84_15 : mm_code 84 15 = some (31, (5, (1, 0))) := by decide +kernel
theorem mc_84_16 : mm_code 84 16 = some (32, (105, (91, 0))) := by decide +kernel
theorem mc_84_17 : mm_code 84 17 = some (35, (0, (0, 1))) := by decide +kernel
theorem mc_84_18 : mm_code 84 18 = some (36, (32, (24, 14))) := by decide +kernel
theorem mc_84_19 : mm_code 84 19 = some (39, (5, (1, 0))) := by decide +kernel
theorem mc_84_20 : mm_code 84 20 = some (40, (106, (92, 0))) := by decide +kernel
theorem mc_84_21 : mm_code 84 21 = some (43, (25, (24, 7))) := by decide +kernel
theorem mc_84_22 : mm_code 84 22 = some (46, (0, (0, 1))) := by decide +kernel
theorem mc_84_23 : mm_code 84 23 = some (47, (24, (25, 4))) := by decide +kernel
theorem mc_84_24 : mm_code 84 24 = some (50, (0, (0, 0))) := by decide +kernel
theorem mc_84_25 : mm_code 84 25 = some (51, (7, (2, 0))) := by decide +kernel
theorem mc_84_26 : mm_code 84 26 = some (52, (5, (0, 0))) := by decide +kernel
theorem mc_84_27 : mm_code 84 27 = some (53, (49, (0, 0))) := by decide +kernel
theorem mc_84_28 : mm_code 84 28 = some (54, (0, (0, 3))) := by decide +kernel
theorem mc_84_29 : mm_code 84 29 = some (55, (14, (0, 0))) := by decide +kernel
theorem mc_84_30 : mm_code 84 30 = some (56, (1, (0, 40))) := by decide +kernel
theorem mc_84_31 : mm_code 84 31 = some (58, (36, (34, 8))) := by decide +kernel
theorem mc_84_32 : mm_code 84 32 = some (61, (1, (0, 40))) := by decide +kernel
theorem mc_84_33 : mm_code 84 33 = some (63, (24, (38, 7))) := by decide +kernel
theorem mc_84_34 : mm_code 84 34 = some (66, (5, (0, 0))) := by decide +kernel
theorem mc_84_35 : mm_code 84 35 = some (67, (49, (0, 0))) := by decide +kernel
theorem mc_84_36 : mm_code 84 36 = some (68, (0, (0, 3))) := by decide +kernel
theorem mc_84_37 : mm_code 84 37 = some (69, (14, (0, 0))) := by decide +kernel
theorem mc_84_38 : mm_code 84 38 = some (70, (7, (3, 0))) := by decide +kernel
theorem mc_84_39 : mm_code 84 39 = some (71, (0, (0, 0))) := by decide +kernel
theorem mc_84_40 : mm_code 84 40 = some (72, (8, (4, 0))) := by decide +kernel
theorem mc_84_41 : mm_code 84 41 = some (74, (4, (4, 0))) := by decide +kernel
theorem mc_84_42 : mm_code 84 42 = some (76, (3, (3, 0))) := by decide +kernel
theorem mc_84_43 : mm_code 84 43 = some (77, (34, (124, 140))) := by decide +kernel
theorem mc_84_44 : mm_code 84 44 = some (80, (3, (2, 0))) := by decide +kernel
theorem mc_84_45 : mm_code 84 45 = some (81, (25, (124, 136))) := by decide +kernel
theorem mc_84_46 : mm_code 84 46 = some (84, (5, (0, 0))) := by decide +kernel
theorem mc_84_47 : mm_code 84 47 = some (85, (0, (0, 3))) := by decide +kernel
theorem mc_84_48 : mm_code 84 48 = some (86, (4, (4, 0))) := by decide +kernel
theorem mc_84_49 : mm_code 84 49 = some (88, (13, (0, 0))) := by decide +kernel
theorem mc_84_50 : mm_code 84 50 = some (89, (0, (0, 2))) := by decide +kernel
theorem mc_84_51 : mm_code 84 51 = some (90, (11, (0, 0))) := by decide +kernel
theorem mc_84_52 : mm_code 84 52 = some (91, (106, (93, 0))) := by decide +kernel
theorem mc_84_53 : mm_code 84 53 = some (94, (8, (5, 0))) := by decide +kernel
theorem mc_84_54 : mm_code 84 54 = some (96, (5, (1, 0))) := by decide +kernel
theorem mc_84_55 : mm_code 84 55 = some (97, (5, (0, 0))) := by decide +kernel
theorem mc_84_56 : mm_code 84 56 = some (98, (0, (0, 3))) := by decide +kernel
theorem mc_84_57 : mm_code 84 57 = some (99, (4, (4, 0))) := by decide +kernel
theorem mc_84_58 : mm_code 84 58 = some (101, (13, (0, 0))) := by decide +kernel
theorem mc_84_59 : mm_code 84 59 = some (102, (106, (93, 0))) := by decide +kernel
theorem mc_84_60 : mm_code 84 60 = some (105, (5, (0, 0))) := by decide +kernel
theorem mc_84_61 : mm_code 84 61 = some (106, (0, (0, 3))) := by decide +kernel
theorem mc_84_62 : mm_code 84 62 = some (107, (4, (4, 0))) := by decide +kernel
theorem mc_84_63 : mm_code 84 63 = some (109, (13, (0, 0))) := by decide +kernel
theorem mc_84_64 : mm_code 84 64 = some (110, (0, (0, 1))) := by decide +kernel
theorem mc_84_65 : mm_code 84 65 = some (111, (11, (0, 0))) := by decide +kernel
theorem mc_84_66 : mm_code 84 66 = some (112, (106, (93, 0))) := by decide +kernel
theorem mc_84_67 : mm_code 84 67 = some (115, (4, (5, 0))) := by decide +kernel
theorem mc_84_68 : mm_code 84 68 = some (117, (106, (94, 0))) := by decide +kernel
theorem mc_84_69 : mm_code 84 69 = some (120, (25, (75, 14))) := by decide +kernel
theorem mc_84_70 : mm_code 84 70 = some (123, (5, (1, 0))) := by decide +kernel
theorem mc_84_71 : mm_code 84 71 = some (124, (106, (92, 0))) := by decide +kernel
theorem mc_84_72 : mm_code 84 72 = some (127, (25, (75, 7))) := by decide +kernel
theorem mc_84_73 : mm_code 84 73 = some (130, (0, (0, 1))) := by decide +kernel
theorem mc_84_74 : mm_code 84 74 = some (131, (24, (76, 4))) := by decide +kernel
theorem mc_84_75 : mm_code 84 75 = some (134, (0, (0, 0))) := by decide +kernel
theorem mc_84_76 : mm_code 84 76 = some (135, (7, (2, 0))) := by decide +kernel
theorem mc_84_77 : mm_code 84 77 = some (136, (3, (2, 0))) := by decide +kernel
theorem mc_84_78 : mm_code 84 78 = some (137, (25, (122, 74))) := by decide +kernel
theorem mc_84_79 : mm_code 84 79 = some (140, (4, (4, 0))) := by decide +kernel
theorem mc_84_80 : mm_code 84 80 = some (142, (1, (0, 8))) := by decide +kernel
theorem mc_84_81 : mm_code 84 81 = some (144, (15, (0, 0))) := by decide +kernel
theorem mc_84_82 : mm_code 84 82 = some (145, (1, (0, 7))) := by decide +kernel
theorem mc_84_83 : mm_code 84 83 = some (147, (32, (122, 64))) := by decide +kernel
theorem mc_84_84 : mm_code 84 84 = some (150, (5, (1, 0))) := by decide +kernel
theorem mc_84_85 : mm_code 84 85 = some (151, (106, (95, 0))) := by decide +kernel
theorem mc_84_86 : mm_code 84 86 = some (154, (25, (120, 55))) := by decide +kernel
theorem mc_84_87 : mm_code 84 87 = some (157, (5, (1, 0))) := by decide +kernel
theorem mc_84_88 : mm_code 84 88 = some (158, (0, (0, 1))) := by decide +kernel
theorem mc_84_89 : mm_code 84 89 = some (159, (4, (5, 0))) := by decide +kernel
theorem mc_84_90 : mm_code 84 90 = some (161, (0, (0, 1))) := by decide +kernel
theorem mc_84_91 : mm_code 84 91 = some (162, (5, (1, 0))) := by decide +kernel
theorem mc_84_92 : mm_code 84 92 = some (163, (105, (61, 0))) := by decide +kernel
theorem mc_84_93 : mm_code 84 93 = some (166, (16, (0, 0))) := by decide +kernel
theorem mc_84_94 : mm_code 84 94 = some (167, (0, (0, 1))) := by decide +kernel
theorem mc_84_95 : mm_code 84 95 = some (168, (12, (0, 0))) := by decide +kernel
theorem mc_84_96 : mm_code 84 96 = some (169, (15, (0, 0))) := by decide +kernel
theorem mc_84_97 : mm_code 84 97 = some (170, (11, (0, 0))) := by decide +kernel
theorem mc_84_98 : mm_code 84 98 = some (171, (0, (0, 0))) := by decide +kernel
theorem mc_84_99 : mm_code 84 99 = some (172, (106, (96, 0))) := by decide +kernel
theorem mc_84_100 : mm_code 84 100 = some (175, (25, (120, 34))) := by decide +kernel
theorem mc_84_101 : mm_code 84 101 = some (178, (5, (1, 0))) := by decide +kernel
theorem mc_84_102 : mm_code 84 102 = some (179, (0, (0, 0))) := by decide +kernel
theorem mc_84_103 : mm_code 84 103 = some (180, (0, (0, 1))) := by decide +kernel
theorem mc_84_104 : mm_code 84 104 = some (181, (4, (5, 0))) := by decide +kernel
theorem mc_84_105 : mm_code 84 105 = some (183, (0, (0, 4))) := by decide +kernel
theorem mc_84_106 : mm_code 84 106 = some (184, (15, (0, 0))) := by decide +kernel
theorem mc_84_107 : mm_code 84 107 = some (185, (11, (0, 0))) := by decide +kernel
theorem mc_84_108 : mm_code 84 108 = some (186, (106, (96, 0))) := by decide +kernel
theorem mc_84_109 : mm_code 84 109 = some (189, (25, (120, 20))) := by decide +kernel
theorem mc_84_110 : mm_code 84 110 = some (192, (5, (1, 0))) := by decide +kernel
theorem mc_84_111 : mm_code 84 111 = some (193, (0, (0, 1))) := by decide +kernel
theorem mc_84_112 : mm_code 84 112 = some (194, (4, (5, 0))) := by decide +kernel
theorem mc_84_113 : mm_code 84 113 = some (196, (0, (0, 4))) := by decide +kernel
theorem mc_84_114 : mm_code 84 114 = some (197, (15, (0, 0))) := by decide +kernel
theorem mc_84_115 : mm_code 84 115 = some (198, (11, (0, 0))) := by decide +kernel
theorem mc_84_116 : mm_code 84 116 = some (199, (106, (97, 0))) := by decide +kernel
theorem mc_84_117 : mm_code 84 117 = some (202, (25, (120, 7))) := by decide +kernel
theorem mc_84_118 : mm_code 84 118 = some (205, (0, (0, 1))) := by decide +kernel
theorem mc_84_119 : mm_code 84 119 = some (206, (24, (121, 4))) := by decide +kernel
theorem mc_84_120 : mm_code 84 120 = some (209, (0, (0, 0))) := by decide +kernel
theorem mc_84_121 : mm_code 84 121 = some (210, (7, (2, 0))) := by decide +kernel
theorem mc_84_122 : mm_code 84 122 = some (211, (20, (4, 1))) := by decide +kernel
theorem mc_84_123 : mm_code 84 123 = some (214, (24, (41, (-140)))) := by decide +kernel
theorem mc_84_124 : mm_code 84 124 = some (217, (3, (2, 0))) := by decide +kernel
theorem mc_84_125 : mm_code 84 125 = some (218, (101, (0, 0))) := by decide +kernel
end
section
/-! triples over MM: from here the run ends with Q -/
def mt (y i : Nat) (ls : mm_F) (st : List mm_V) (h : mm_H) (Q : mm_O → mm_H → Prop) : Prop := ∃ (n : Nat) (o : mm_O) (h' : mm_H), mm_go n y i ls st h = some (o, h') ∧ Q o h'
theorem mm_run_succ (n y i : Nat) (ls : mm_F) (st : List mm_V) (h : mm_H) : mm_go (n + 1) y i ls st h = match mm_code y i with
    | none => none
    | some (_, (op, (a, b))) =>
      if op < 60 then
        if op = 56 then match st with
          | .inl x :: st => mm_go n y (mm_sw x) ls st h
          | _ => none
        else match mm_op mm_fld op a b ls st h with
        | none => none
        | some (ls', (st', (h', j))) => mm_go n y (j.getD (i + 1)) ls' st' h'
      else if op = 100 then match st with
        | [.inl z] => some (.inl (some (mm_I z)), h)
        | _ => none
      else if op = 101 then match st with
        | [.inl z] => if z = 0 ∨ z = 1 then some (.inl (some (mm_I z)), h) else none
        | _ => none
      else if op = 102 then match st with
        | [.inr (.inr (some r))] => some (.inl (some (mm_P r)), h)
        | _ => none
      else if op = 103 then match st with
        | [] => some (.inl none, h)
        | _ => none
      else if op = 104 then match st with
        | [] => some (.inr b.toNat, (h.1, (h.2.1 + 1, (h.2.2.1 + 6, h.2.2.2))))
        | _ => none
      else if op < 109 then
        let s := mm_site a
        let args := (st.take s.2.1).reverse
        let rest := st.drop s.2.1
        if s.2.1 ≤ st.length ∧ rest.length ≤ 4 ∧ args.all mm_no2 = true ∧ s.2.1 ≤ s.2.2.1 ∧ mm_rcv s.2.2.2 args h = true then
          match mm_go n s.1 0 (args.map some ++ List.replicate (s.2.2.1 - s.2.1) none) [] h with
          | none => none
          | some (.inl v, h') => mm_go n y (i + 1) ls (v.toList ++ rest) h'
          | some (.inr E, h') => if op = 107 ∨ op = 108 then none else match mm_hand y E with
            | some z => some (.inl (some (mm_I z)), h')
            | none => if mm_noH y then some (.inr E, h') else none
        else none
      else none := rfl
theorem mm_more1 : ∀ (n y i : Nat) (ls : mm_F) (st : List mm_V) (h : mm_H) (r : mm_O × mm_H), mm_go n y i ls st h = some r → mm_go (n + 1) y i ls st h = some r := by
  intro n
  induction n with
  | zero => intro y i ls st h r hr; cases hr
  | succ n ih =>
    intro y i ls st h r hr
    rw [mm_run_succ] at hr ⊢
    cases hc : mm_code y i with
    | none => rw [hc] at hr; cases hr
    | some q =>
      obtain ⟨pc, op, a, b⟩ := q
      rw [hc] at hr
      dsimp only at hr ⊢
      by_cases h60 : op < 60
      · rw [if_pos h60] at hr ⊢
        by_cases h56 : op = 56
        · rw [if_pos h56] at hr ⊢
          split at hr
          · exact ih _ _ _ _ _ _ hr
          · cases hr
        · rw [if_neg h56] at hr ⊢
          cases hop : mm_op mm_fld op a b ls st h with
          | none => rw [hop] at hr; cases hr
          | some z =>
            obtain ⟨ls', st', h', j⟩ := z
            rw [hop] at hr
            exact ih _ _ _ _ _ _ hr
      · rw [if_neg h60] at hr ⊢
        by_cases h100 : op = 100
        · rw [if_pos h100] at hr ⊢; exact hr
        rw [if_neg h100] at hr ⊢
        by_cases h101 : op = 101
        · rw [if_pos h101] at hr ⊢; exact hr
        rw [if_neg h101] at hr ⊢
        by_cases h102 : op = 102
        · rw [if_pos h102] at hr ⊢; exact hr
        rw [if_neg h102] at hr ⊢
        by_cases h103 : op = 103
        · rw [if_pos h103] at hr ⊢; exact hr
        rw [if_neg h103] at hr ⊢
        by_cases h104 : op = 104
        · rw [if_pos h104] at hr ⊢; exact hr
        rw [if_neg h104] at hr ⊢
        by_cases h109 : op < 109
        · rw [if_pos h109] at hr ⊢
          split at hr
          · rename_i hg
            rw [if_pos hg]
            cases hcal : mm_go n (mm_site a).1 0 (((st.take (mm_site a).2.1).reverse).map some ++ List.replicate ((mm_site a).2.2.1 - (mm_site a).2.1) none) [] h with
            | none => rw [hcal] at hr; cases hr
            | some z =>
              rw [hcal] at hr
              rw [ih _ _ _ _ _ _ hcal]
              obtain ⟨o1, h1⟩ := z
              cases o1 with
              | inl v => exact ih _ _ _ _ _ _ hr
              | inr E => exact hr
          · cases hr
        · rw [if_neg h109] at hr; cases hr
theorem mm_more {n m y i : Nat} {ls : mm_F} {st : List mm_V} {h : mm_H} {r : mm_O × mm_H} (hr : mm_go n y i ls st h = some r) (hm : n ≤ m) : mm_go m y i ls st h = some r := by
  obtain ⟨k, rfl⟩ := Nat.le.dest hm
  induction k with
  | zero => exact hr
  | succ k ih => exact mm_more1 _ _ _ _ _ _ _ (ih (Nat.le_add_right _ _))
section MT
variable {y i pc op a : Nat} {b : Int} {ls ls' : mm_F} {st st' : List mm_V} {h h' : mm_H} {j : Option Nat} {Q : mm_O → mm_H → Prop}
theorem mt_mono {Q' : mm_O → mm_H → Prop} (k : mt y i ls st h Q) (hq : ∀ o h', Q o h' → Q' o h') : mt y i ls st h Q' := by
  obtain ⟨n, o, h', h1, h2⟩ := k
  exact ⟨n, o, h', h1, hq _ _ h2⟩
/-- any row but calls and ends -/
theorem mt_op (hc : mm_code y i = some (pc, (op, (a, b)))) (h60 : op < 60) (h56 : ¬ op = 56) (hop : mm_op mm_fld op a b ls st h = some (ls', (st', (h', j)))) (k : mt y (j.getD (i + 1)) ls' st' h' Q) : mt y i ls st h Q := by
  obtain ⟨n, o, h1, h2, h3⟩ := k
  refine ⟨n + 1, o, h1, ?_, h3⟩
  rw [mm_run_succ, hc]
  dsimp only
  rw [if_pos h60, if_neg h56, hop]
  exact h2
theorem mt_sw {x : Int} (hc : mm_code y i = some (pc, (56, (a, b)))) (k : mt y (mm_sw x) ls st h Q) : mt y i ls (.inl x :: st) h Q := by
  obtain ⟨n, o, h1, h2, h3⟩ := k
  refine ⟨n + 1, o, h1, ?_, h3⟩
  rw [mm_run_succ, hc]
  exact h2
theorem mt_ret {z : Int} (hc : mm_code y i = some (pc, (100, (a, b)))) (k : Q (.inl (some (mm_I z))) h) : mt y i ls [.inl z] h Q := by
  refine ⟨1, _, h, ?_, k⟩
  rw [mm_run_succ, hc]
  rfl
theorem mt_retB {z : Int} (hc : mm_code y i = some (pc, (101, (a, b)))) (hz : z = 0 ∨ z = 1) (k : Q (.inl (some (mm_I z))) h) : mt y i ls [.inl z] h Q := by
  refine ⟨1, _, h, ?_, k⟩
  rw [mm_run_succ, hc]
  dsimp only
  rw [if_neg (by decide), if_neg (by decide), if_pos rfl, if_pos hz]
theorem mt_retR {r : Nat} (hc : mm_code y i = some (pc, (102, (a, b)))) (k : Q (.inl (some (mm_P r))) h) : mt y i ls [.inr (.inr (some r))] h Q := by
  refine ⟨1, _, h, ?_, k⟩
  rw [mm_run_succ, hc]
  rfl
theorem mt_retV (hc : mm_code y i = some (pc, (103, (a, b)))) (k : Q (.inl none) h) : mt y i ls [] h Q := by
  refine ⟨1, _, h, ?_, k⟩
  rw [mm_run_succ, hc]
  rfl
theorem mt_thr (hc : mm_code y i = some (pc, (104, (a, b)))) (k : Q (.inr b.toNat) (h.1, (h.2.1 + 1, (h.2.2.1 + 6, h.2.2.2)))) : mt y i ls [] h Q := by
  refine ⟨1, _, _, ?_, k⟩
  rw [mm_run_succ, hc]
  rfl
/-- a call -/
theorem mt_call {Q1 : mm_O → mm_H → Prop} {y1 k m kd : Nat} {args rest : List mm_V} (hc : mm_code y i = some (pc, (op, (a, b)))) (hop : 105 ≤ op ∧ op ≤ 108) (hs : mm_site a = (y1, (k, (m, kd)))) (hst : st = args.reverse ++ rest) (hk : args.length = k) (hg : rest.length ≤ 4 ∧ args.all mm_no2 = true ∧ k ≤ m) (hr : mm_rcv kd args h = true)
    (hcal : mt y1 0 (args.map some ++ List.replicate (m - k) none) [] h Q1)
    (kk : ∀ (o1 : mm_O) (h1 : mm_H), Q1 o1 h1 → (∃ v, o1 = .inl v ∧ mt y (i + 1) ls (v.toList ++ rest) h1 Q) ∨ (∃ E, o1 = .inr E ∧ ¬ (op = 107 ∨ op = 108) ∧ ((∃ z, mm_hand y E = some z ∧ Q (.inl (some (mm_I z))) h1) ∨ (mm_hand y E = none ∧ mm_noH y = true ∧ Q (.inr E) h1)))) :
    mt y i ls st h Q := by
  obtain ⟨n1, o1, h1, e1, q1⟩ := hcal
  have et : (st.take k).reverse = args := by rw [hst, ← hk, List.take_left' (List.length_reverse), List.reverse_reverse]
  have ed : st.drop k = rest := by rw [hst, ← hk]; exact List.drop_left' List.length_reverse
  have el : k ≤ st.length := by rw [hst, List.length_append, List.length_reverse]; omega
  have hgg : (mm_site a).2.1 ≤ st.length ∧ (st.drop (mm_site a).2.1).length ≤ 4 ∧ ((st.take (mm_site a).2.1).reverse).all mm_no2 = true ∧ (mm_site a).2.1 ≤ (mm_site a).2.2.1 ∧ mm_rcv (mm_site a).2.2.2 (st.take (mm_site a).2.1).reverse h = true := by
    rw [hs]
    dsimp only
    rw [et, ed]
    exact ⟨el, hg.1, hg.2.1, hg.2.2, hr⟩
  have step : ∀ n, mm_go (n + 1) y i ls st h = match mm_go n y1 0 (args.map some ++ List.replicate (m - k) none) [] h with
          | none => none
          | some (.inl v, h') => mm_go n y (i + 1) ls (v.toList ++ rest) h'
          | some (.inr E, h') => if op = 107 ∨ op = 108 then none else match mm_hand y E with
            | some z => some (.inl (some (mm_I z)), h')
            | none => if mm_noH y then some (.inr E, h') else none := by
    intro n
    rw [mm_run_succ, hc]
    dsimp only
    rw [if_neg (show ¬ op < 60 by omega), if_neg (show ¬ op = 100 by omega), if_neg (show ¬ op = 101 by omega), if_neg (show ¬ op = 102 by omega), if_neg (show ¬ op = 103 by omega), if_neg (show ¬ op = 104 by omega), if_pos (show op < 109 by omega), if_pos hgg, hs]
    dsimp only
    rw [et, ed]
  rcases kk o1 h1 q1 with ⟨v, rfl, n2, o2, h2, e2, q2⟩ | ⟨E, rfl, hno, hx⟩
  · refine ⟨n1 + n2 + 1, o2, h2, ?_, q2⟩
    rw [step, mm_more e1 (Nat.le_add_right _ _)]
    exact mm_more e2 (Nat.le_add_left _ _)
  · rcases hx with ⟨z, hz, q2⟩ | ⟨hz, hn, q2⟩
    · refine ⟨n1 + 1, _, h1, ?_, q2⟩
      rw [step, e1]
      dsimp only
      rw [if_neg hno, hz]
    · refine ⟨n1 + 1, _, h1, ?_, q2⟩
      rw [step, e1]
      dsimp only
      rw [if_neg hno, hz]
      dsimp only
      rw [if_pos hn]
end MT
end
section
/-! the heap behind the constructors: 24 cells; their ints are D cell place -/
def mm_al (r : Nat) : Option Nat := match r with
  | 3 => some 100
  | 5 => some 100
  | 7 => some 100
  | 9 => some 100
  | 11 => some 120
  | 15 => some 804
  | 16 => some 804
  | 17 => some 804
  | 18 => some 5226
  | 19 => some 201
  | 20 => some 201
  | 21 => some 201
  | 22 => some 4
  | 23 => some 201
  | _ => none
def mm_ob (f : Int → Int) (u : Int) (r : Nat) : Nat × List mm_V := match r with
  | 0 => (14, [mm_P 1, mm_P 10, mm_P 12, mm_P 13, mm_I (f 4), mm_I (f 5)])
  | 1 => (2, [mm_P 2, mm_P 4, mm_P 6, mm_P 8])
  | 2 => (13, [mm_P 3, mm_I (f 1)])
  | 4 => (13, [mm_P 5, mm_I (f 1)])
  | 6 => (13, [mm_P 7, mm_I (f 1)])
  | 8 => (13, [mm_P 9, mm_I (f 1)])
  | 10 => (13, [mm_P 11, mm_I (f 1)])
  | 12 => (12, [mm_P 13, mm_P 23, mm_I (f 2)])
  | 13 => (10, [mm_P 14, mm_P 18, mm_P 19, mm_P 20, mm_P 21, mm_P 22, mm_I (f 6)])
  | 14 => (11, [mm_P 15, mm_P 16, mm_P 17])
  | _ => (1, [mm_L u])
def mm_cell (f : Int → Int) (u : Int) (r : Nat) : Nat × List mm_V := match mm_al r with
  | some n => (0, (List.range n).map fun j : Nat => mm_I (f (j : Int)))
  | none => mm_ob f u r
/-- D: the ints; u: what out holds; x: cells made, slots made, the script -/
abbrev mm_D : Type := Nat → Int → Int
def mm_mk (D : mm_D) (u : Int) (x : Nat × (Nat × List Int)) : mm_H := ((List.range 24).map fun r => mm_cell (D r) u r, x)
def mm_wr (D : mm_D) (r : Nat) (k v : Int) : mm_D := fun r' k' => if r' = r ∧ k' = k then v else D r' k'
theorem mm_wr_eq (D : mm_D) (r : Nat) (k v : Int) : mm_wr D r k v r k = v := if_pos ⟨rfl, rfl⟩
theorem mm_wr_ne {D : mm_D} {r r' : Nat} {k k' v : Int} (h : ¬ (r' = r ∧ k' = k)) : mm_wr D r k v r' k' = D r' k' := if_neg h
theorem mm_wr_r {D : mm_D} {r r' : Nat} {k k' v : Int} (h : r' ≠ r) : mm_wr D r k v r' k' = D r' k' := if_neg (fun q => h q.1)
theorem mm_wr_k {D : mm_D} {r : Nat} {k k' v : Int} (h : k' ≠ k) : mm_wr D r k v r k' = D r k' := if_neg (fun q => h q.2)
theorem mm_wr_row {D : mm_D} {r r' : Nat} {k v : Int} (h : r' ≠ r) : mm_wr D r k v r' = D r' := by funext k'; exact mm_wr_r h
theorem mm_mk_at (D : mm_D) (u : Int) (x : Nat × (Nat × List Int)) {r : Nat} (h : r < 24) : (mm_mk D u x).1[r]? = some (mm_cell (D r) u r) := by
  unfold mm_mk
  rw [List.getElem?_map, List.getElem?_range h]
  rfl
theorem mm_mk_set (D D' : mm_D) (u u' : Int) (x : Nat × (Nat × List Int)) {r : Nat} {c : Nat × List mm_V} (hr : r < 24) (hc : c = mm_cell (D' r) u' r) (ho : ∀ r', r' < 24 → r' ≠ r → mm_cell (D' r') u' r' = mm_cell (D r') u r') : ((mm_mk D u x).1.set r c, x) = mm_mk D' u' x := by
  unfold mm_mk
  congr 1
  apply List.ext_getElem?
  intro i
  rw [List.getElem?_set, List.getElem?_map, List.getElem?_map, List.length_map, List.length_range]
  by_cases h : r = i
  · subst h
    rw [if_pos rfl, if_pos hr, List.getElem?_range hr, hc]
    rfl
  · rw [if_neg h]
    by_cases h31 : i < 24
    · rw [List.getElem?_range h31]
      show some (mm_cell (D i) u i) = some (mm_cell (D' i) u' i)
      rw [ho i h31 (Ne.symm h)]
    · rw [List.getElem?_eq_none (by rw [List.length_range]; omega)]
      rfl
theorem mm_al_lt {r n : Nat} (h : mm_al r = some n) : r < 24 := by
  unfold mm_al at h
  split at h <;> first | omega | cases h
theorem mm_cell_al {r n : Nat} (f : Int → Int) (u : Int) (h : mm_al r = some n) : mm_cell f u r = (0, (List.range n).map fun j : Nat => mm_I (f (j : Int))) := by unfold mm_cell; rw [h]
theorem mm_cell_u {r : Nat} (f : Int → Int) (u u' : Int) (h31 : r < 24) : mm_cell f u r = mm_cell f u' r := by
  have h9 : r = 0 ∨ r = 1 ∨ r = 2 ∨ r = 3 ∨ r = 4 ∨ r = 5 ∨ r = 6 ∨ r = 7 ∨ r = 8 ∨ r = 9 ∨ r = 10 ∨ r = 11 ∨ r = 12 ∨ r = 13 ∨ r = 14 ∨ r = 15 ∨ r = 16 ∨ r = 17 ∨ r = 18 ∨ r = 19 ∨ r = 20 ∨ r = 21 ∨ r = 22 ∨ r = 23 := by omega
  rcases h9 with rfl | rfl | rfl | rfl | rfl | rfl | rfl | rfl | rfl | rfl | rfl | rfl | rfl | rfl | rfl | rfl | rfl | rfl | rfl | rfl | rfl | rfl | rfl | rfl <;> rfl
/-- storing an int of an array -/
theorem mm_mk_ast (D : mm_D) (u : Int) (x : Nat × (Nat × List Int)) {r n : Nat} {i v : Int} (h : mm_al r = some n) (h0 : 0 ≤ i) (hi : i < n) : ((mm_mk D u x).1.set r (0, (mm_cell (D r) u r).2.set i.toNat (mm_I v)), x) = mm_mk (mm_wr D r i v) u x := by
  refine mm_mk_set D (mm_wr D r i v) u u x (by have := mm_al_lt h; omega) ?_ (fun r' _ hne => by rw [mm_wr_row hne])
  rw [mm_cell_al _ _ h, mm_cell_al _ _ h]
  congr 1
  apply List.ext_getElem?
  intro j
  rw [List.getElem?_set, List.getElem?_map, List.getElem?_map, List.length_map, List.length_range]
  by_cases e : i.toNat = j
  · subst e
    have hlt : i.toNat < n := by omega
    rw [if_pos rfl, if_pos hlt, List.getElem?_range hlt]
    show some (mm_I v) = some (mm_I (mm_wr D r i v r (i.toNat : Int)))
    rw [Int.toNat_of_nonneg h0, mm_wr_eq]
  · rw [if_neg e]
    by_cases hj : j < n
    · rw [List.getElem?_range hj]
      show some (mm_I (D r j)) = some (mm_I (mm_wr D r i v r j))
      rw [mm_wr_k (by omega)]
    · rw [List.getElem?_eq_none (by rw [List.length_range]; omega)]
      rfl
/-- a Word's cell -/
def mm_isW (w : Nat) : Prop := w = 2 ∨ w = 4 ∨ w = 6 ∨ w = 8 ∨ w = 10
/-- what a field holds -/
def mm_fv (cf : Nat × Nat) (r : Nat) (D : mm_D) : Option mm_V := if r < 24 ∧ (mm_ob (D r) 0 r).1 = 10 + cf.1 ∧ mm_al r = none then (mm_ob (D r) 0 r).2[cf.2]? else none
theorem mm_fvW (D : mm_D) {w : Nat} (h : mm_isW w) : mm_fv (3, 0) w D = some (mm_P (w + 1)) ∧ mm_fv (3, 1) w D = some (mm_I (D w 1)) ∧ mm_al (w + 1) = some (if w = 10 then 120 else 100) := by
  rcases h with rfl | rfl | rfl | rfl | rfl <;> exact ⟨rfl, rfl, rfl⟩
/-- the int fields -/
def mm_pvT : List ((Nat × Nat) × Nat) := [((4, 4), 0), ((4, 5), 0), ((3, 1), 2), ((3, 1), 4), ((3, 1), 6), ((3, 1), 8), ((3, 1), 10), ((2, 2), 12), ((0, 6), 13)]
theorem mm_mk_put (D : mm_D) (u : Int) (x : Nat × (Nat × List Int)) {ci k r : Nat} {v : Int} (h : ((ci, k), r) ∈ mm_pvT) : ((mm_mk D u x).1.set r ((mm_cell (D r) u r).1, (mm_cell (D r) u r).2.set k (mm_I v)), x) = mm_mk (mm_wr D r k v) u x ∧ (mm_cell (D r) u r).1 = 10 + ci ∧ k < (mm_cell (D r) u r).2.length ∧ r < 24 := by
  have key : (mm_cell (D r) u r).1 = 10 + ci ∧ k < (mm_cell (D r) u r).2.length ∧ r < 24 ∧ ((mm_cell (D r) u r).1, (mm_cell (D r) u r).2.set k (mm_I v)) = mm_cell (mm_wr D r k v r) u r := by
    simp only [mm_pvT, List.mem_cons, List.not_mem_nil, or_false, Prod.mk.injEq] at h
    rcases h with ⟨⟨rfl, rfl⟩, rfl⟩ | ⟨⟨rfl, rfl⟩, rfl⟩ | ⟨⟨rfl, rfl⟩, rfl⟩ | ⟨⟨rfl, rfl⟩, rfl⟩ | ⟨⟨rfl, rfl⟩, rfl⟩ | ⟨⟨rfl, rfl⟩, rfl⟩ | ⟨⟨rfl, rfl⟩, rfl⟩ | ⟨⟨rfl, rfl⟩, rfl⟩ | ⟨⟨rfl, rfl⟩, rfl⟩
    all_goals
      refine ⟨rfl, by simp [mm_cell, mm_al, mm_ob], by decide, ?_⟩
      simp [mm_cell, mm_al, mm_ob, mm_wr]
  exact ⟨mm_mk_set D (mm_wr D r k v) u u x key.2.2.1 key.2.2.2 (fun r' _ hne => by rw [mm_wr_row hne]), key.1, key.2.1, key.2.2.1⟩
theorem mm_pvW {w : Nat} (h : mm_isW w) : ((3, 1), w) ∈ mm_pvT := by
  rcases h with rfl | rfl | rfl | rfl | rfl <;> decide
section MU
variable {y i pc op a : Nat} {b : Int} {ls ls' : mm_F} {st st' : List mm_V} {h h' : mm_H} {D : mm_D} {u : Int} {x : Nat × (Nat × List Int)} {Q : mm_O → mm_H → Prop}
theorem mu_const {z : Int} (hc : mm_code y i = some (pc, (op, (a, z)))) (ho : op < 3) (hr : mm_rng z) (k : mt y (i + 1) ls (mm_I z :: st) h Q) : mt y i ls st h Q := by
  have h9 : op = 0 ∨ op = 1 ∨ op = 2 := by omega
  refine mt_op hc (by omega) (by omega) (ls' := ls) (st' := mm_I z :: st) (h' := h) (j := none) ?_ k
  rcases h9 with rfl | rfl | rfl <;> exact if_pos hr
theorem mu_ldc {z : Int} (hc : mm_code y i = some (pc, (55, (a, z)))) (hr : mm_rng z) (k : mt y (i + 1) ls (mm_I z :: st) h Q) : mt y i ls st h Q :=
  mt_op hc (by decide) (by decide) (ls' := ls) (st' := mm_I z :: st) (h' := h) (j := none) (if_pos hr) k
theorem mu_load {z : Int} (hc : mm_code y i = some (pc, (op, (a, b)))) (ho : op = 3 ∨ op = 4) (hl : ls[a]? = some (some (mm_I z))) (k : mt y (i + 1) ls (mm_I z :: st) h Q) : mt y i ls st h Q := by
  refine mt_op hc (by omega) (by omega) (ls' := ls) (st' := mm_I z :: st) (h' := h) (j := none) ?_ k
  rcases ho with rfl | rfl <;> (show mm_o_load a ls st h = _; unfold mm_o_load; rw [hl])
theorem mu_aload {r : Option Nat} (hc : mm_code y i = some (pc, (op, (a, b)))) (ho : op = 5 ∨ op = 6) (hl : ls[a]? = some (some (.inr (.inr r)))) (k : mt y (i + 1) ls (.inr (.inr r) :: st) h Q) : mt y i ls st h Q := by
  refine mt_op hc (by omega) (by omega) (ls' := ls) (st' := .inr (.inr r) :: st) (h' := h) (j := none) ?_ k
  rcases ho with rfl | rfl <;> (show mm_o_aload a ls st h = _; unfold mm_o_aload; rw [hl])
theorem mu_store {z : Int} (hc : mm_code y i = some (pc, (op, (a, b)))) (ho : op = 7 ∨ op = 8) (ha : a < ls.length) (hl : ls.set a (some (mm_I z)) = ls') (k : mt y (i + 1) ls' st h Q) : mt y i ls (mm_I z :: st) h Q := by
  subst hl
  refine mt_op hc (by omega) (by omega) (ls' := ls.set a (some (mm_I z))) (st' := st) (h' := h) (j := none) ?_ k
  rcases ho with rfl | rfl <;> exact if_pos ha
theorem mu_astore {r : Option Nat} (hc : mm_code y i = some (pc, (op, (a, b)))) (ho : op = 9 ∨ op = 10) (ha : a < ls.length) (hl : ls.set a (some (.inr (.inr r))) = ls') (k : mt y (i + 1) ls' st h Q) : mt y i ls (.inr (.inr r) :: st) h Q := by
  subst hl
  refine mt_op hc (by omega) (by omega) (ls' := ls.set a (some (.inr (.inr r)))) (st' := st) (h' := h) (j := none) ?_ k
  rcases ho with rfl | rfl <;> exact if_pos ha
theorem mu_bin {g : Int → Int → Option Int} {x9 y9 z : Int} (hc : mm_code y i = some (pc, (op, (a, b)))) (ho : op < 60 ∧ ¬ op = 56) (he : mm_op mm_fld op a b ls (mm_I y9 :: mm_I x9 :: st) h = mm_o_bin g ls (mm_I y9 :: mm_I x9 :: st) h) (hg : g x9 y9 = some z) (hr : mm_rng z) (k : mt y (i + 1) ls (mm_I z :: st) h Q) : mt y i ls (mm_I y9 :: mm_I x9 :: st) h Q := by
  refine mt_op hc ho.1 ho.2 (ls' := ls) (st' := mm_I z :: st) (h' := h) (j := none) ?_ k
  rw [he]
  show (match g x9 y9 with | some z => if mm_rng z then some (ls, (mm_I z :: st, (h, none))) else none | none => none) = _
  rw [hg]
  exact if_pos hr
theorem mu_iadd {x9 y9 : Int} (hc : mm_code y i = some (pc, (11, (a, b)))) (hr : mm_rng (x9 + y9)) (k : mt y (i + 1) ls (mm_I (x9 + y9) :: st) h Q) : mt y i ls (mm_I y9 :: mm_I x9 :: st) h Q := mu_bin (g := fun x y => some (x + y)) hc (by decide) rfl rfl hr k
theorem mu_isub {x9 y9 : Int} (hc : mm_code y i = some (pc, (12, (a, b)))) (hr : mm_rng (x9 - y9)) (k : mt y (i + 1) ls (mm_I (x9 - y9) :: st) h Q) : mt y i ls (mm_I y9 :: mm_I x9 :: st) h Q := mu_bin (g := fun x y => some (x - y)) hc (by decide) rfl rfl hr k
theorem mu_imul {x9 y9 : Int} (hc : mm_code y i = some (pc, (13, (a, b)))) (hr : mm_rng (x9 * y9)) (k : mt y (i + 1) ls (mm_I (x9 * y9) :: st) h Q) : mt y i ls (mm_I y9 :: mm_I x9 :: st) h Q := mu_bin (g := fun x y => some (x * y)) hc (by decide) rfl rfl hr k
theorem mu_idiv {x9 y9 : Int} (hc : mm_code y i = some (pc, (14, (a, b)))) (hg : 0 ≤ x9 ∧ 0 < y9) (hr : mm_rng (x9 / y9)) (k : mt y (i + 1) ls (mm_I (x9 / y9) :: st) h Q) : mt y i ls (mm_I y9 :: mm_I x9 :: st) h Q := mu_bin (g := fun x y => if 0 ≤ x ∧ 0 < y then some (x / y) else none) hc (by decide) rfl (if_pos hg) hr k
theorem mu_irem {x9 y9 : Int} (hc : mm_code y i = some (pc, (15, (a, b)))) (hg : 0 ≤ x9 ∧ 0 < y9) (hr : mm_rng (x9 % y9)) (k : mt y (i + 1) ls (mm_I (x9 % y9) :: st) h Q) : mt y i ls (mm_I y9 :: mm_I x9 :: st) h Q := mu_bin (g := fun x y => if 0 ≤ x ∧ 0 < y then some (x % y) else none) hc (by decide) rfl (if_pos hg) hr k
theorem mu_ishl {x9 y9 : Int} (hc : mm_code y i = some (pc, (16, (a, b)))) (hg : 0 ≤ x9 ∧ 0 ≤ y9 ∧ y9 < 31) (hr : mm_rng (x9 * 2 ^ y9.toNat)) (k : mt y (i + 1) ls (mm_I (x9 * 2 ^ y9.toNat) :: st) h Q) : mt y i ls (mm_I y9 :: mm_I x9 :: st) h Q := mu_bin (g := fun x y => if 0 ≤ x ∧ 0 ≤ y ∧ y < 31 then some (x * 2 ^ y.toNat) else none) hc (by decide) rfl (if_pos hg) hr k
theorem mu_ishr {x9 y9 : Int} (hc : mm_code y i = some (pc, (17, (a, b)))) (hg : 0 ≤ x9 ∧ 0 ≤ y9 ∧ y9 < 31) (hr : mm_rng (x9 / 2 ^ y9.toNat)) (k : mt y (i + 1) ls (mm_I (x9 / 2 ^ y9.toNat) :: st) h Q) : mt y i ls (mm_I y9 :: mm_I x9 :: st) h Q := mu_bin (g := fun x y => if 0 ≤ x ∧ 0 ≤ y ∧ y < 31 then some (x / 2 ^ y.toNat) else none) hc (by decide) rfl (if_pos hg) hr k
theorem mu_iand {x9 y9 : Int} (hc : mm_code y i = some (pc, (18, (a, b)))) (k : mt y (i + 1) ls (mm_I (mm_and x9 y9) :: st) h Q) : mt y i ls (mm_I y9 :: mm_I x9 :: st) h Q := mu_bin (g := fun x y => some (mm_and x y)) hc (by decide) rfl rfl (mm_and_r _ _) k
theorem mu_ior {x9 y9 : Int} (hc : mm_code y i = some (pc, (19, (a, b)))) (k : mt y (i + 1) ls (mm_I (mm_or x9 y9) :: st) h Q) : mt y i ls (mm_I y9 :: mm_I x9 :: st) h Q := mu_bin (g := fun x y => some (mm_or x y)) hc (by decide) rfl rfl (mm_or_r _ _) k
theorem mu_iinc {z : Int} (hc : mm_code y i = some (pc, (20, (a, b)))) (hl : ls[a]? = some (some (mm_I z))) (hr : mm_rng (z + b)) (hs : ls.set a (some (mm_I (z + b))) = ls') (k : mt y (i + 1) ls' st h Q) : mt y i ls st h Q := by
  subst hs
  refine mt_op hc (by decide) (by decide) (ls' := ls.set a (some (mm_I (z + b)))) (st' := st) (h' := h) (j := none) ?_ k
  show mm_o_iinc a b ls st h = _
  unfold mm_o_iinc
  rw [hl]
  exact if_pos hr
/-- rows that 'rfl' works out -/
theorem mu_rfl {j : Option Nat} {n : Nat} (hc : mm_code y i = some (pc, (op, (a, b)))) (ho : op < 60 ∧ ¬ op = 56) (he : mm_op mm_fld op a b ls st h = some (ls, (st', (h, j)))) (hj : j.getD (i + 1) = n) (k : mt y n ls st' h Q) : mt y i ls st h Q := by
  subst hj
  exact mt_op hc ho.1 ho.2 he k
theorem mu_if_eq {z : Int} (hc : mm_code y i = some (pc, (25, (a, b)))) (k1 : (z = 0) → mt y a ls st h Q) (k2 : ¬ (z = 0) → mt y (i + 1) ls st h Q) : mt y i ls (mm_I z :: st) h Q := by
  by_cases q : z = 0
  · exact mt_op hc (by decide) (by decide) (ls' := ls) (st' := st) (h' := h) (j := some a) (by show some (ls, (st, (h, if decide (z = 0) = true then some a else none))) = _; rw [if_pos (decide_eq_true q)]) (k1 q)
  · exact mt_op hc (by decide) (by decide) (ls' := ls) (st' := st) (h' := h) (j := none) (by show some (ls, (st, (h, if decide (z = 0) = true then some a else none))) = _; rw [if_neg (by rw [decide_eq_true_eq]; exact q)]) (k2 q)
theorem mu_if_ne {z : Int} (hc : mm_code y i = some (pc, (26, (a, b)))) (k1 : (¬ z = 0) → mt y a ls st h Q) (k2 : ¬ (¬ z = 0) → mt y (i + 1) ls st h Q) : mt y i ls (mm_I z :: st) h Q := by
  by_cases q : ¬ z = 0
  · exact mt_op hc (by decide) (by decide) (ls' := ls) (st' := st) (h' := h) (j := some a) (by show some (ls, (st, (h, if decide (¬ z = 0) = true then some a else none))) = _; rw [if_pos (decide_eq_true q)]) (k1 q)
  · exact mt_op hc (by decide) (by decide) (ls' := ls) (st' := st) (h' := h) (j := none) (by show some (ls, (st, (h, if decide (¬ z = 0) = true then some a else none))) = _; rw [if_neg (by rw [decide_eq_true_eq]; exact q)]) (k2 q)
theorem mu_if_lt {z : Int} (hc : mm_code y i = some (pc, (27, (a, b)))) (k1 : (z < 0) → mt y a ls st h Q) (k2 : ¬ (z < 0) → mt y (i + 1) ls st h Q) : mt y i ls (mm_I z :: st) h Q := by
  by_cases q : z < 0
  · exact mt_op hc (by decide) (by decide) (ls' := ls) (st' := st) (h' := h) (j := some a) (by show some (ls, (st, (h, if decide (z < 0) = true then some a else none))) = _; rw [if_pos (decide_eq_true q)]) (k1 q)
  · exact mt_op hc (by decide) (by decide) (ls' := ls) (st' := st) (h' := h) (j := none) (by show some (ls, (st, (h, if decide (z < 0) = true then some a else none))) = _; rw [if_neg (by rw [decide_eq_true_eq]; exact q)]) (k2 q)
theorem mu_if_ge {z : Int} (hc : mm_code y i = some (pc, (28, (a, b)))) (k1 : (0 ≤ z) → mt y a ls st h Q) (k2 : ¬ (0 ≤ z) → mt y (i + 1) ls st h Q) : mt y i ls (mm_I z :: st) h Q := by
  by_cases q : 0 ≤ z
  · exact mt_op hc (by decide) (by decide) (ls' := ls) (st' := st) (h' := h) (j := some a) (by show some (ls, (st, (h, if decide (0 ≤ z) = true then some a else none))) = _; rw [if_pos (decide_eq_true q)]) (k1 q)
  · exact mt_op hc (by decide) (by decide) (ls' := ls) (st' := st) (h' := h) (j := none) (by show some (ls, (st, (h, if decide (0 ≤ z) = true then some a else none))) = _; rw [if_neg (by rw [decide_eq_true_eq]; exact q)]) (k2 q)
theorem mu_if_gt {z : Int} (hc : mm_code y i = some (pc, (29, (a, b)))) (k1 : (0 < z) → mt y a ls st h Q) (k2 : ¬ (0 < z) → mt y (i + 1) ls st h Q) : mt y i ls (mm_I z :: st) h Q := by
  by_cases q : 0 < z
  · exact mt_op hc (by decide) (by decide) (ls' := ls) (st' := st) (h' := h) (j := some a) (by show some (ls, (st, (h, if decide (0 < z) = true then some a else none))) = _; rw [if_pos (decide_eq_true q)]) (k1 q)
  · exact mt_op hc (by decide) (by decide) (ls' := ls) (st' := st) (h' := h) (j := none) (by show some (ls, (st, (h, if decide (0 < z) = true then some a else none))) = _; rw [if_neg (by rw [decide_eq_true_eq]; exact q)]) (k2 q)
theorem mu_if_le {z : Int} (hc : mm_code y i = some (pc, (30, (a, b)))) (k1 : (z ≤ 0) → mt y a ls st h Q) (k2 : ¬ (z ≤ 0) → mt y (i + 1) ls st h Q) : mt y i ls (mm_I z :: st) h Q := by
  by_cases q : z ≤ 0
  · exact mt_op hc (by decide) (by decide) (ls' := ls) (st' := st) (h' := h) (j := some a) (by show some (ls, (st, (h, if decide (z ≤ 0) = true then some a else none))) = _; rw [if_pos (decide_eq_true q)]) (k1 q)
  · exact mt_op hc (by decide) (by decide) (ls' := ls) (st' := st) (h' := h) (j := none) (by show some (ls, (st, (h, if decide (z ≤ 0) = true then some a else none))) = _; rw [if_neg (by rw [decide_eq_true_eq]; exact q)]) (k2 q)
theorem mu_ic_eq {x9 y9 : Int} (hc : mm_code y i = some (pc, (31, (a, b)))) (k1 : (x9 = y9) → mt y a ls st h Q) (k2 : ¬ (x9 = y9) → mt y (i + 1) ls st h Q) : mt y i ls (mm_I y9 :: mm_I x9 :: st) h Q := by
  by_cases q : x9 = y9
  · exact mt_op hc (by decide) (by decide) (ls' := ls) (st' := st) (h' := h) (j := some a) (by show some (ls, (st, (h, if decide (x9 = y9) = true then some a else none))) = _; rw [if_pos (decide_eq_true q)]) (k1 q)
  · exact mt_op hc (by decide) (by decide) (ls' := ls) (st' := st) (h' := h) (j := none) (by show some (ls, (st, (h, if decide (x9 = y9) = true then some a else none))) = _; rw [if_neg (by rw [decide_eq_true_eq]; exact q)]) (k2 q)
theorem mu_ic_ne {x9 y9 : Int} (hc : mm_code y i = some (pc, (32, (a, b)))) (k1 : (¬ x9 = y9) → mt y a ls st h Q) (k2 : ¬ (¬ x9 = y9) → mt y (i + 1) ls st h Q) : mt y i ls (mm_I y9 :: mm_I x9 :: st) h Q := by
  by_cases q : ¬ x9 = y9
  · exact mt_op hc (by decide) (by decide) (ls' := ls) (st' := st) (h' := h) (j := some a) (by show some (ls, (st, (h, if decide (¬ x9 = y9) = true then some a else none))) = _; rw [if_pos (decide_eq_true q)]) (k1 q)
  · exact mt_op hc (by decide) (by decide) (ls' := ls) (st' := st) (h' := h) (j := none) (by show some (ls, (st, (h, if decide (¬ x9 = y9) = true then some a else none))) = _; rw [if_neg (by rw [decide_eq_true_eq]; exact q)]) (k2 q)
theorem mu_ic_lt {x9 y9 : Int} (hc : mm_code y i = some (pc, (33, (a, b)))) (k1 : (x9 < y9) → mt y a ls st h Q) (k2 : ¬ (x9 < y9) → mt y (i + 1) ls st h Q) : mt y i ls (mm_I y9 :: mm_I x9 :: st) h Q := by
  by_cases q : x9 < y9
  · exact mt_op hc (by decide) (by decide) (ls' := ls) (st' := st) (h' := h) (j := some a) (by show some (ls, (st, (h, if decide (x9 < y9) = true then some a else none))) = _; rw [if_pos (decide_eq_true q)]) (k1 q)
  · exact mt_op hc (by decide) (by decide) (ls' := ls) (st' := st) (h' := h) (j := none) (by show some (ls, (st, (h, if decide (x9 < y9) = true then some a else none))) = _; rw [if_neg (by rw [decide_eq_true_eq]; exact q)]) (k2 q)
theorem mu_ic_ge {x9 y9 : Int} (hc : mm_code y i = some (pc, (34, (a, b)))) (k1 : (y9 ≤ x9) → mt y a ls st h Q) (k2 : ¬ (y9 ≤ x9) → mt y (i + 1) ls st h Q) : mt y i ls (mm_I y9 :: mm_I x9 :: st) h Q := by
  by_cases q : y9 ≤ x9
  · exact mt_op hc (by decide) (by decide) (ls' := ls) (st' := st) (h' := h) (j := some a) (by show some (ls, (st, (h, if decide (y9 ≤ x9) = true then some a else none))) = _; rw [if_pos (decide_eq_true q)]) (k1 q)
  · exact mt_op hc (by decide) (by decide) (ls' := ls) (st' := st) (h' := h) (j := none) (by show some (ls, (st, (h, if decide (y9 ≤ x9) = true then some a else none))) = _; rw [if_neg (by rw [decide_eq_true_eq]; exact q)]) (k2 q)
theorem mu_ic_gt {x9 y9 : Int} (hc : mm_code y i = some (pc, (35, (a, b)))) (k1 : (y9 < x9) → mt y a ls st h Q) (k2 : ¬ (y9 < x9) → mt y (i + 1) ls st h Q) : mt y i ls (mm_I y9 :: mm_I x9 :: st) h Q := by
  by_cases q : y9 < x9
  · exact mt_op hc (by decide) (by decide) (ls' := ls) (st' := st) (h' := h) (j := some a) (by show some (ls, (st, (h, if decide (y9 < x9) = true then some a else none))) = _; rw [if_pos (decide_eq_true q)]) (k1 q)
  · exact mt_op hc (by decide) (by decide) (ls' := ls) (st' := st) (h' := h) (j := none) (by show some (ls, (st, (h, if decide (y9 < x9) = true then some a else none))) = _; rw [if_neg (by rw [decide_eq_true_eq]; exact q)]) (k2 q)
theorem mu_ic_le {x9 y9 : Int} (hc : mm_code y i = some (pc, (36, (a, b)))) (k1 : (x9 ≤ y9) → mt y a ls st h Q) (k2 : ¬ (x9 ≤ y9) → mt y (i + 1) ls st h Q) : mt y i ls (mm_I y9 :: mm_I x9 :: st) h Q := by
  by_cases q : x9 ≤ y9
  · exact mt_op hc (by decide) (by decide) (ls' := ls) (st' := st) (h' := h) (j := some a) (by show some (ls, (st, (h, if decide (x9 ≤ y9) = true then some a else none))) = _; rw [if_pos (decide_eq_true q)]) (k1 q)
  · exact mt_op hc (by decide) (by decide) (ls' := ls) (st' := st) (h' := h) (j := none) (by show some (ls, (st, (h, if decide (x9 ≤ y9) = true then some a else none))) = _; rw [if_neg (by rw [decide_eq_true_eq]; exact q)]) (k2 q)
theorem mu_get {r : Nat} {v : mm_V} (hc : mm_code y i = some (pc, (40, (a, b)))) (hv : mm_fv (mm_fld a) r D = some v) (k : mt y (i + 1) ls (v :: st) (mm_mk D u x) Q) : mt y i ls (mm_P r :: st) (mm_mk D u x) Q := by
  refine mt_op hc (by decide) (by decide) (ls' := ls) (st' := v :: st) (h' := mm_mk D u x) (j := none) ?_ k
  show mm_o_get (mm_fld a).1 (mm_fld a).2 ls (mm_P r :: st) (mm_mk D u x) = _
  unfold mm_fv at hv
  split at hv
  · rename_i hh
    unfold mm_o_get
    dsimp only
    rw [mm_mk_at D u x hh.1]
    have e : mm_cell (D r) u r = mm_ob (D r) u r := by unfold mm_cell; rw [hh.2.2]
    have e2 : mm_ob (D r) u r = mm_ob (D r) 0 r := by
      have h8 := mm_cell_u (D r) u 0 hh.1
      unfold mm_cell at h8
      rw [hh.2.2] at h8
      exact h8
    rw [e, e2]
    dsimp only
    rw [if_pos hh.2.1, hv]
  · cases hv
theorem mu_put {r : Nat} {z : Int} (hc : mm_code y i = some (pc, (41, (a, b)))) (hp : (mm_fld a, r) ∈ mm_pvT) (hz : (mm_fk (mm_fld a).1)[(mm_fld a).2]? = some 0 ∨ (mm_fk (mm_fld a).1)[(mm_fld a).2]? = some 1 ∧ (z = 0 ∨ z = 1)) (k : mt y (i + 1) ls st (mm_mk (mm_wr D r (mm_fld a).2 z) u x) Q) : mt y i ls (mm_I z :: mm_P r :: st) (mm_mk D u x) Q := by
  obtain ⟨e1, e2, e3, e4⟩ := mm_mk_put D u x (v := z) hp
  refine mt_op hc (by decide) (by decide) (ls' := ls) (st' := st) (j := none) ?_ k
  show mm_o_put (mm_fld a).1 (mm_fld a).2 ls (mm_I z :: mm_P r :: st) (mm_mk D u x) = _
  unfold mm_o_put
  dsimp only
  rw [mm_mk_at D u x e4]
  dsimp only
  rw [if_pos ⟨e2, e3, hz⟩, ← e1]
  rfl
theorem mu_iald {r n : Nat} {i9 : Int} (hc : mm_code y i = some (pc, (43, (a, b)))) (ha : mm_al r = some n) (h0 : 0 ≤ i9) (hn : i9 < n) (k : mt y (i + 1) ls (mm_I (D r i9) :: st) (mm_mk D u x) Q) : mt y i ls (mm_I i9 :: mm_P r :: st) (mm_mk D u x) Q := by
  refine mt_op hc (by decide) (by decide) (ls' := ls) (st' := mm_I (D r i9) :: st) (h' := mm_mk D u x) (j := none) ?_ k
  show mm_o_iald ls (mm_I i9 :: mm_P r :: st) (mm_mk D u x) = _
  have hr := mm_al_lt ha
  unfold mm_o_iald
  dsimp only
  rw [if_neg (by omega), if_neg (by omega), mm_mk_at D u x (by omega), mm_cell_al _ _ ha]
  have hlt : i9.toNat < n := by omega
  have e2 : ((List.range n).map fun j : Nat => mm_I (D r (j : Int)))[i9.toNat]? = some (mm_I (D r i9)) := by
    rw [List.getElem?_map, List.getElem?_range hlt]
    show some (mm_I (D r (i9.toNat : Int))) = _
    rw [Int.toNat_of_nonneg h0]
  show (match ((List.range n).map fun j : Nat => mm_I (D r (j : Int)))[i9.toNat]? with | some (.inl z) => some (ls, (mm_I z :: st, (mm_mk D u x, none))) | _ => none) = _
  rw [e2]
theorem mu_scr {i9 z : Int} (hc : mm_code y i = some (pc, (43, (a, b)))) (h0 : 0 ≤ i9) (hz : x.2.2[i9.toNat + 1]? = some z) (k : mt y (i + 1) ls (mm_I z :: st) (mm_mk D u x) Q) : mt y i ls (mm_I i9 :: mm_P 999 :: st) (mm_mk D u x) Q := by
  refine mt_op hc (by decide) (by decide) (ls' := ls) (st' := mm_I z :: st) (h' := mm_mk D u x) (j := none) ?_ k
  show mm_o_iald ls (mm_I i9 :: mm_P 999 :: st) (mm_mk D u x) = _
  unfold mm_o_iald
  dsimp only
  rw [if_neg (by omega), if_pos rfl]
  show (match x.2.2[i9.toNat + 1]? with | some z => some (ls, (mm_I z :: st, (mm_mk D u x, none))) | none => none) = _
  rw [hz]
theorem mu_iast {r n : Nat} {i9 z : Int} (hc : mm_code y i = some (pc, (44, (a, b)))) (ha : mm_al r = some n) (h0 : 0 ≤ i9) (hn : i9 < n) (k : mt y (i + 1) ls st (mm_mk (mm_wr D r i9 z) u x) Q) : mt y i ls (mm_I z :: mm_I i9 :: mm_P r :: st) (mm_mk D u x) Q := by
  refine mt_op hc (by decide) (by decide) (ls' := ls) (st' := st) (j := none) ?_ k
  show mm_o_iast ls (mm_I z :: mm_I i9 :: mm_P r :: st) (mm_mk D u x) = _
  have hr := mm_al_lt ha
  have e1 := mm_mk_ast D u x (v := z) ha h0 hn
  unfold mm_o_iast
  dsimp only
  rw [if_neg (by omega), mm_mk_at D u x (by omega), mm_cell_al _ _ ha]
  rw [mm_cell_al _ _ ha] at e1
  show (if i9.toNat < ((List.range n).map fun j : Nat => mm_I (D r (j : Int))).length then some (ls, (st, (((mm_mk D u x).1.set r (0, ((List.range n).map fun j : Nat => mm_I (D r (j : Int))).set i9.toNat (mm_I z)), x), (none : Option Nat)))) else none) = _
  rw [if_pos (by rw [List.length_map, List.length_range]; omega), e1]
theorem mu_aald {i9 : Int} {q : Nat} (hc : mm_code y i = some (pc, (47, (a, b)))) (h0 : 0 ≤ i9 ∧ i9 < 4) (hq : q = 2 + 2 * i9.toNat) (k : mt y (i + 1) ls (mm_P q :: st) (mm_mk D u x) Q) : mt y i ls (mm_I i9 :: mm_P 1 :: st) (mm_mk D u x) Q := by
  have h9 : i9 = 0 ∨ i9 = 1 ∨ i9 = 2 ∨ i9 = 3 := by omega
  subst hq
  refine mt_op hc (by decide) (by decide) (ls' := ls) (st' := _ :: st) (h' := mm_mk D u x) (j := none) ?_ k
  rcases h9 with rfl | rfl | rfl | rfl <;> rfl
theorem mu_alen {r n : Nat} (hc : mm_code y i = some (pc, (49, (a, b)))) (ha : mm_al r = some n) (k : mt y (i + 1) ls (mm_I n :: st) (mm_mk D u x) Q) : mt y i ls (mm_P r :: st) (mm_mk D u x) Q := by
  refine mt_op hc (by decide) (by decide) (ls' := ls) (st' := mm_I n :: st) (h' := mm_mk D u x) (j := none) ?_ k
  show mm_o_alen ls (mm_P r :: st) (mm_mk D u x) = _
  have hr := mm_al_lt ha
  unfold mm_o_alen
  dsimp only
  rw [if_neg (by omega), mm_mk_at D u x (by omega), mm_cell_al _ _ ha]
  dsimp only
  have hn : n < 1000000 := by
    unfold mm_al at ha
    split at ha <;> first | (cases ha; decide) | cases ha
  rw [if_pos ⟨by decide, by rw [List.length_map, List.length_range]; exact hn⟩, List.length_map, List.length_range]
theorem mu_alenW (hc : mm_code y i = some (pc, (49, (a, b)))) (k : mt y (i + 1) ls (mm_I 4 :: st) (mm_mk D u x) Q) : mt y i ls (mm_P 1 :: st) (mm_mk D u x) Q :=
  mt_op hc (by decide) (by decide) (ls' := ls) (st' := mm_I 4 :: st) (h' := mm_mk D u x) (j := none) rfl k
theorem mu_alenS {z0 : Int} {t : List Int} (hc : mm_code y i = some (pc, (49, (a, b)))) (hx : x.2.2 = z0 :: t) (k : mt y (i + 1) ls (mm_I t.length :: st) (mm_mk D u x) Q) : mt y i ls (mm_P 999 :: st) (mm_mk D u x) Q := by
  refine mt_op hc (by decide) (by decide) (ls' := ls) (st' := mm_I t.length :: st) (h' := mm_mk D u x) (j := none) ?_ k
  show (match x.2.2 with | _ :: t => some (ls, (mm_I (t.length : Int) :: st, (mm_mk D u x, none))) | [] => none) = _
  rw [hx]
theorem mu_max {x9 y9 : Int} (hc : mm_code y i = some (pc, (58, (a, b)))) (hl : st.length ≤ 4) (k : mt y (i + 1) ls (mm_I (if x9 < y9 then y9 else x9) :: st) h Q) : mt y i ls (mm_I y9 :: mm_I x9 :: st) h Q :=
  mt_op hc (by decide) (by decide) (ls' := ls) (st' := mm_I (if x9 < y9 then y9 else x9) :: st) (h' := h) (j := none) (by show (if st.length ≤ 4 then _ else none) = _; rw [if_pos hl]) k
theorem mu_min {x9 y9 : Int} (hc : mm_code y i = some (pc, (59, (a, b)))) (hl : st.length ≤ 4) (k : mt y (i + 1) ls (mm_I (if y9 < x9 then y9 else x9) :: st) h Q) : mt y i ls (mm_I y9 :: mm_I x9 :: st) h Q :=
  mt_op hc (by decide) (by decide) (ls' := ls) (st' := mm_I (if y9 < x9 then y9 else x9) :: st) (h' := h) (j := none) (by show (if st.length ≤ 4 then _ else none) = _; rw [if_pos hl]) k
end MU
end
section
abbrev mm_Xt : Type := Nat × (Nat × List Int)
def mm_pI (K : Int → mm_D → Int → mm_Xt → Prop) : mm_O → mm_H → Prop := fun o h => ∃ (r : Int) (D : mm_D) (u : Int) (x : mm_Xt), o = .inl (some (mm_I r)) ∧ h = mm_mk D u x ∧ K r D u x
def mm_pV (K : mm_D → Int → mm_Xt → Prop) : mm_O → mm_H → Prop := fun o h => ∃ (D : mm_D) (u : Int) (x : mm_Xt), o = .inl none ∧ h = mm_mk D u x ∧ K D u x
def mm_pIx (K : Int → mm_D → Int → mm_Xt → Prop) (KX : Nat → mm_D → Int → mm_Xt → Prop) : mm_O → mm_H → Prop := fun o h => (∃ (r : Int) (D : mm_D) (u : Int) (x : mm_Xt), o = .inl (some (mm_I r)) ∧ h = mm_mk D u x ∧ K r D u x) ∨ (∃ (E : Nat) (D : mm_D) (u : Int) (x : mm_Xt), o = .inr E ∧ h = mm_mk D u x ∧ KX E D u x)
def mm_pVx (K : mm_D → Int → mm_Xt → Prop) (KX : Nat → mm_D → Int → mm_Xt → Prop) : mm_O → mm_H → Prop := fun o h => (∃ (D : mm_D) (u : Int) (x : mm_Xt), o = .inl none ∧ h = mm_mk D u x ∧ K D u x) ∨ (∃ (E : Nat) (D : mm_D) (u : Int) (x : mm_Xt), o = .inr E ∧ h = mm_mk D u x ∧ KX E D u x)
def mm_pRx (K : Nat → mm_D → Int → mm_Xt → Prop) (KX : Nat → mm_D → Int → mm_Xt → Prop) : mm_O → mm_H → Prop := fun o h => (∃ (r : Nat) (D : mm_D) (u : Int) (x : mm_Xt), o = .inl (some (mm_P r)) ∧ h = mm_mk D u x ∧ mm_isW r ∧ K r D u x) ∨ (∃ (E : Nat) (D : mm_D) (u : Int) (x : mm_Xt), o = .inr E ∧ h = mm_mk D u x ∧ KX E D u x)
theorem mm_cell_k (f f' : Int → Int) (u u' : Int) (r : Nat) : (mm_cell f u r).1 = (mm_cell f' u' r).1 := by
  unfold mm_cell
  cases mm_al r with
  | some n => rfl
  | none =>
    dsimp only
    unfold mm_ob
    split <;> rfl
theorem mu_rcv {r kd : Nat} {As : List mm_V} {D : mm_D} {u : Int} {x : mm_Xt} (h31 : r < 24) (hk : (mm_cell (fun _ => 0) 0 r).1 = kd) (h0 : kd ≠ 0) : mm_rcv kd (mm_P r :: As) (mm_mk D u x) = true := by
  unfold mm_rcv
  rw [if_neg h0]
  show decide (((mm_mk D u x).1[r]?).map (·.1) = some kd) = true
  rw [mm_mk_at D u x h31]
  refine decide_eq_true ?_
  show some (mm_cell (D r) u r).1 = some kd
  rw [mm_cell_k (D r) (fun _ => 0) u 0 r, hk]
theorem mu_rcvW {r : Nat} {As : List mm_V} {D : mm_D} {u : Int} {x : mm_Xt} (h : mm_isW r) : mm_rcv 13 (mm_P r :: As) (mm_mk D u x) = true := by
  rcases h with rfl | rfl | rfl | rfl | rfl <;> exact mu_rcv (by decide) rfl (by decide)
theorem mm_isWi {i : Int} {w : Nat} (h : 0 ≤ i ∧ i < 4) (e : w = 2 + 2 * i.toNat) : mm_isW w := by
  unfold mm_isW
  omega
theorem mm_handN {y : Nat} (_ : y < 85) (E : Nat) : mm_hand y E = none := rfl
end
